abbrev xX6_bestMove : tr_X := (cX6_bestMove, 6, RX6, (some .int), 4, shC, 81)
theorem cw_X6_bestMove : Cond.code yX6_bestMove cX6_bestMove 6 (some .int) ∈ tr_tbl := tr_in 1020 (by decide +kernel) rfl
theorem yk_X6_bestMove : tr_yk yX6_bestMove (xX6_bestMove) 2 := ⟨cw_X6_bestMove, in_X6, ⟨by decide +kernel, by decide +kernel, by decide +kernel⟩, Nat.le_of_ble_eq_true rfl⟩
theorem iv_X6_bestMove : Cond.instanceMethod yX6_bestMove ∈ tr_tbl ∧ Cond.selects (yX6_bestMove).cls yX6_bestMove yX6_bestMove ∈ tr_tbl := ⟨tr_in 1019 (by decide +kernel) rfl, tr_in 50 (by decide +kernel) rfl⟩
def mX6_bestMove_l20 (p1 : Int32) (s1 : Int32 × Int32 × tr_M) (s2 : Int32 × Int32 × tr_M) : Option ((Int32 × Int32 × tr_M) ⊕ ((Int32 × Int32 × tr_M) ⊕ (Int32 × tr_M))) :=
  if s2.2.1 < (s2.2.2.1 26 0) then (
    Option.bind (tr_rd 10 s2.2.2 58 s2.2.1) (fun a3 =>
    if a3 = s1.2.1 then (
      some (.inl (s2.1, (s2.2.1 + (1 : Int32)), s2.2.2))
    ) else (
      Option.bind (mX6_moveInto s1.2.1 s2.2.1 s2.2.2) (fun c5 =>
      Option.bind (mX6_keepIfBetter p1 s2.1 c5) (fun c7 =>
      some (.inl (c7.1, (s2.2.1 + (1 : Int32)), c7.2))
      )
      )
    )
    )
  ) else (
    some (.inr (.inl (s2.1, (s1.2.1 + (1 : Int32)), s2.2.2)))
  )
def mX6_bestMove_l5 (p1 : Int32) (s1 : Int32 × Int32 × tr_M) : Option ((Int32 × Int32 × tr_M) ⊕ (Int32 × tr_M)) :=
  if s1.2.1 < (s1.2.2.1 26 0) then (
    tr_loop (mX6_bestMove_l20 p1 s1) (s1.1, (0 : Int32), s1.2.2)
  ) else (
    some (.inr (s1.1, s1.2.2))
  )
def mX6_bestMove (p1 : Int32) (p2 : Int32) (M : tr_M) : Option (Int32 × tr_M) :=
  tr_loop (mX6_bestMove_l5 p1) (p2, (0 : Int32), M)
set_option maxRecDepth 100000 in
set_option maxHeartbeats 4000000 in
theorem C_X6_bestMove (p1 : Int32) (p2 : Int32) (M : tr_M) (r : Int32 × tr_M) (h : mX6_bestMove p1 p2 M = some r) : tr_I yX6_bestMove (xX6_bestMove) [.ref 1, .int p1, .int p2] M (some (.int r.1)) r.2 := by
  refine tr_I.of (Z := fun q : Int32 × tr_M => (some (.int r.1) : Option Value) = some (.int q.1) ∧ r.2 = q.2) pn_X6 rfl gdC (Nat.le_of_ble_eq_true rfl) (fun Wt => ?_) h ⟨rfl, rfl⟩
  unfold mX6_bestMove
  refine tr_V.iload_n (i := 2) dX6_bestMove_0 rfl rfl ?_
  refine tr_V.istore_n (i := 3) dX6_bestMove_1 rfl (Nat.le_of_ble_eq_true rfl) rfl ?_
  refine tr_V.iconst (v := (0 : Int32)) dX6_bestMove_2 (by decide) ?_
  refine tr_V.istore (i := 4) dX6_bestMove_3 (Nat.le_of_ble_eq_true rfl) rfl ?_
  refine tr_V.loop (σ := Int32 × Int32 × tr_M) (step := mX6_bestMove_l5 p1) (L := fun s1 => [(0, some (.ref 1)), (1, some (.int p1)), (3, some (.int s1.1)), (4, some (.int s1.2.1))]) (Mf := fun s1 => s1.2.2) ?_ (p2, (0 : Int32), M) ⟨rfl, rfl, rfl, rfl, trivial⟩
  intro s1
  refine tr_V.iload dX6_bestMove_5 rfl ?_
  refine tr_V.aload_n (i := 0) dX6_bestMove_7 rfl rfl ?_
  refine tr_V.getR (Nat.succ_pos _) fl_X6_43 shC_1 rfl dX6_bestMove_8 ?_
  refine tr_V.getI fl_X6_136 shC_26 rfl dX6_bestMove_11 ?_
  refine tr_V.icmp_ge (tgt := 71) dX6_bestMove_14 (by decide) ?_ ?_
  · refine tr_V.iconst (v := (0 : Int32)) dX6_bestMove_17 (by decide) ?_
    refine tr_V.istore (i := 5) dX6_bestMove_18 (Nat.le_of_ble_eq_true rfl) rfl ?_
    refine tr_V.loop (σ := Int32 × Int32 × tr_M) (step := mX6_bestMove_l20 p1 s1) (L := fun s2 => [(0, some (.ref 1)), (1, some (.int p1)), (3, some (.int s2.1)), (4, some (.int s1.2.1)), (5, some (.int s2.2.1))]) (Mf := fun s2 => s2.2.2) ?_ (s1.1, (0 : Int32), s1.2.2) ⟨rfl, rfl, rfl, rfl, rfl, trivial⟩
    intro s2
    refine tr_V.iload dX6_bestMove_20 rfl ?_
    refine tr_V.aload_n (i := 0) dX6_bestMove_22 rfl rfl ?_
    refine tr_V.getR (Nat.succ_pos _) fl_X6_43 shC_1 rfl dX6_bestMove_23 ?_
    refine tr_V.getI fl_X6_136 shC_26 rfl dX6_bestMove_26 ?_
    refine tr_V.icmp_ge (tgt := 65) dX6_bestMove_29 (by decide) ?_ ?_
    · refine tr_V.aload_n (i := 0) dX6_bestMove_32 rfl rfl ?_
      refine tr_V.getR (Nat.succ_pos _) fl_X6_48 shC_1 rfl dX6_bestMove_33 ?_
      refine tr_V.iload dX6_bestMove_36 rfl ?_
      refine tr_V.bd (fun a3 h4 => ?_)
      refine tr_V.iald h4 shC_58 dX6_bestMove_38 ?_
      refine tr_V.iload dX6_bestMove_39 rfl ?_
      refine tr_V.icmp_eq (tgt := 59) dX6_bestMove_41 (by decide) ?_ ?_
      · refine tr_V.iinc (cst := (1 : Int32)) dX6_bestMove_59 rfl (by decide) rfl ?_
        refine tr_V.goto (tgt := 20) dX6_bestMove_62 (by decide) ?_
        exact tr_V.to (fun h => h) ⟨rfl, rfl, rfl, rfl, rfl, trivial⟩
      · refine tr_V.aload_n (i := 0) dX6_bestMove_44 rfl rfl ?_
        refine tr_V.iload dX6_bestMove_45 rfl ?_
        refine tr_V.iload dX6_bestMove_47 rfl ?_
        refine tr_V.bd (fun c5 h6 => ?_)
        refine tr_V.callV (C_X6_moveInto s1.2.1 s2.2.1 s2.2.2 _ h6) yk_X6_moveInto iv_X6_moveInto ml_X6_371 shC_1 rfl ⟨rfl, Nat.le_of_ble_eq_true rfl⟩ rfl (Nat.le_of_ble_eq_true rfl) rfl dX6_bestMove_49 ?_
        refine tr_V.aload_n (i := 0) dX6_bestMove_52 rfl rfl ?_
        refine tr_V.iload_n (i := 1) dX6_bestMove_53 rfl rfl ?_
        refine tr_V.iload_n (i := 3) dX6_bestMove_54 rfl rfl ?_
        refine tr_V.bd (fun c7 h8 => ?_)
        refine tr_V.callV (C_X6_keepIfBetter p1 s2.1 c5 _ h8) yk_X6_keepIfBetter iv_X6_keepIfBetter ml_X6_368 shC_1 rfl ⟨rfl, Nat.le_of_ble_eq_true rfl⟩ rfl (Nat.le_of_ble_eq_true rfl) rfl dX6_bestMove_55 ?_
        refine tr_V.istore_n (i := 3) dX6_bestMove_58 rfl (Nat.le_of_ble_eq_true rfl) rfl ?_
        refine tr_V.iinc (cst := (1 : Int32)) dX6_bestMove_59 rfl (by decide) rfl ?_
        refine tr_V.goto (tgt := 20) dX6_bestMove_62 (by decide) ?_
        exact tr_V.to (fun h => h) ⟨rfl, rfl, rfl, rfl, rfl, trivial⟩
    · refine tr_V.iinc (cst := (1 : Int32)) dX6_bestMove_65 rfl (by decide) rfl ?_
      refine tr_V.goto (tgt := 5) dX6_bestMove_68 (by decide) ?_
      exact tr_V.to (fun h => h) ⟨rfl, rfl, rfl, rfl, trivial⟩
  · refine tr_V.iload_n (i := 3) dX6_bestMove_71 rfl rfl ?_
    exact tr_V.iret dX6_bestMove_72 rfl (fun h => h)
abbrev xX6_bestSwap : tr_X := (cX6_bestSwap, 6, RX6, (some .int), 4, shC, 81)
theorem cw_X6_bestSwap : Cond.code yX6_bestSwap cX6_bestSwap 6 (some .int) ∈ tr_tbl := tr_in 1032 (by decide +kernel) rfl
theorem yk_X6_bestSwap : tr_yk yX6_bestSwap (xX6_bestSwap) 2 := ⟨cw_X6_bestSwap, in_X6, ⟨by decide +kernel, by decide +kernel, by decide +kernel⟩, Nat.le_of_ble_eq_true rfl⟩
theorem iv_X6_bestSwap : Cond.instanceMethod yX6_bestSwap ∈ tr_tbl ∧ Cond.selects (yX6_bestSwap).cls yX6_bestSwap yX6_bestSwap ∈ tr_tbl := ⟨tr_in 1031 (by decide +kernel) rfl, tr_in 53 (by decide +kernel) rfl⟩
def mX6_bestSwap_l14 (p1 : Int32) (M : tr_M) (s1 : Int32 × Int32 × tr_M) : Option ((Int32 × Int32 × tr_M) ⊕ (Int32 × tr_M)) :=
  if (s1.2.1 + (1 : Int32)) < (M.1 26 0) then (
    Option.bind (tr_cpy (tr_len shC 58) (tr_len shC 59) s1.2.2 58 (0 : Int32) 59 (0 : Int32) (M.1 26 0)) (fun M2 =>
    Option.bind (tr_rd 10 M2 58 (s1.2.1 + (1 : Int32))) (fun a4 =>
    Option.bind (tr_wr 10 M2 59 s1.2.1 a4) (fun M6 =>
    Option.bind (tr_rd 10 M6 58 s1.2.1) (fun a8 =>
    Option.bind (tr_wr 10 M6 59 (s1.2.1 + (1 : Int32)) a8) (fun M10 =>
    Option.bind (mX6_keepIfBetter p1 s1.1 M10) (fun c12 =>
    some (.inl (c12.1, (s1.2.1 + (1 : Int32)), c12.2))
    )
    )
    )
    )
    )
    )
  ) else (
    some (.inr (s1.1, s1.2.2))
  )
def mX6_bestSwap (p1 : Int32) (p2 : Int32) (M : tr_M) : Option (Int32 × tr_M) :=
  tr_loop (mX6_bestSwap_l14 p1 M) (p2, (0 : Int32), M)
set_option maxRecDepth 100000 in
set_option maxHeartbeats 4000000 in
theorem C_X6_bestSwap (p1 : Int32) (p2 : Int32) (M : tr_M) (r : Int32 × tr_M) (h : mX6_bestSwap p1 p2 M = some r) : tr_I yX6_bestSwap (xX6_bestSwap) [.ref 1, .int p1, .int p2] M (some (.int r.1)) r.2 := by
  refine tr_I.of (Z := fun q : Int32 × tr_M => (some (.int r.1) : Option Value) = some (.int q.1) ∧ r.2 = q.2) pn_X6 rfl gdC (Nat.le_of_ble_eq_true rfl) (fun Wt => ?_) h ⟨rfl, rfl⟩
  unfold mX6_bestSwap
  refine tr_V.iload_n (i := 2) dX6_bestSwap_0 rfl rfl ?_
  refine tr_V.istore_n (i := 3) dX6_bestSwap_1 rfl (Nat.le_of_ble_eq_true rfl) rfl ?_
  refine tr_V.aload_n (i := 0) dX6_bestSwap_2 rfl rfl ?_
  refine tr_V.getR (Nat.succ_pos _) fl_X6_43 shC_1 rfl dX6_bestSwap_3 ?_
  refine tr_V.getI fl_X6_136 shC_26 rfl dX6_bestSwap_6 ?_
  refine tr_V.istore (i := 4) dX6_bestSwap_9 (Nat.le_of_ble_eq_true rfl) rfl ?_
  refine tr_V.iconst (v := (0 : Int32)) dX6_bestSwap_11 (by decide) ?_
  refine tr_V.istore (i := 5) dX6_bestSwap_12 (Nat.le_of_ble_eq_true rfl) rfl ?_
  refine tr_V.loop (σ := Int32 × Int32 × tr_M) (step := mX6_bestSwap_l14 p1 M) (L := fun s1 => [(0, some (.ref 1)), (1, some (.int p1)), (3, some (.int s1.1)), (4, some (.int (M.1 26 0))), (5, some (.int s1.2.1))]) (Mf := fun s1 => s1.2.2) ?_ (p2, (0 : Int32), M) ⟨rfl, rfl, rfl, rfl, rfl, trivial⟩
  intro s1
  refine tr_V.iload dX6_bestSwap_14 rfl ?_
  refine tr_V.iconst (v := (1 : Int32)) dX6_bestSwap_16 (by decide) ?_
  refine tr_V.iadd dX6_bestSwap_17 ?_
  refine tr_V.iload dX6_bestSwap_18 rfl ?_
  refine tr_V.icmp_ge (tgt := 83) dX6_bestSwap_20 (by decide) ?_ ?_
  · refine tr_V.aload_n (i := 0) dX6_bestSwap_23 rfl rfl ?_
    refine tr_V.getR (Nat.succ_pos _) fl_X6_48 shC_1 rfl dX6_bestSwap_24 ?_
    refine tr_V.iconst (v := (0 : Int32)) dX6_bestSwap_27 (by decide) ?_
    refine tr_V.aload_n (i := 0) dX6_bestSwap_28 rfl rfl ?_
    refine tr_V.getR (Nat.succ_pos _) fl_X6_51 shC_1 rfl dX6_bestSwap_29 ?_
    refine tr_V.iconst (v := (0 : Int32)) dX6_bestSwap_32 (by decide) ?_
    refine tr_V.iload dX6_bestSwap_33 rfl ?_
    refine tr_V.bd (fun M2 h3 => ?_)
    refine tr_V.copy h3 ml_X6_113 w_acN w_acS w_acI (Nat.le_of_ble_eq_true rfl) (Nat.le_of_ble_eq_true rfl) dX6_bestSwap_35 ?_
    refine tr_V.aload_n (i := 0) dX6_bestSwap_38 rfl rfl ?_
    refine tr_V.getR (Nat.succ_pos _) fl_X6_51 shC_1 rfl dX6_bestSwap_39 ?_
    refine tr_V.iload dX6_bestSwap_42 rfl ?_
    refine tr_V.aload_n (i := 0) dX6_bestSwap_44 rfl rfl ?_
    refine tr_V.getR (Nat.succ_pos _) fl_X6_48 shC_1 rfl dX6_bestSwap_45 ?_
    refine tr_V.iload dX6_bestSwap_48 rfl ?_
    refine tr_V.iconst (v := (1 : Int32)) dX6_bestSwap_50 (by decide) ?_
    refine tr_V.iadd dX6_bestSwap_51 ?_
    refine tr_V.bd (fun a4 h5 => ?_)
    refine tr_V.iald h5 shC_58 dX6_bestSwap_52 ?_
    refine tr_V.bd (fun M6 h7 => ?_)
    refine tr_V.iast h7 shC_59 dX6_bestSwap_53 ?_
    refine tr_V.aload_n (i := 0) dX6_bestSwap_54 rfl rfl ?_
    refine tr_V.getR (Nat.succ_pos _) fl_X6_51 shC_1 rfl dX6_bestSwap_55 ?_
    refine tr_V.iload dX6_bestSwap_58 rfl ?_
    refine tr_V.iconst (v := (1 : Int32)) dX6_bestSwap_60 (by decide) ?_
    refine tr_V.iadd dX6_bestSwap_61 ?_
    refine tr_V.aload_n (i := 0) dX6_bestSwap_62 rfl rfl ?_
    refine tr_V.getR (Nat.succ_pos _) fl_X6_48 shC_1 rfl dX6_bestSwap_63 ?_
    refine tr_V.iload dX6_bestSwap_66 rfl ?_
    refine tr_V.bd (fun a8 h9 => ?_)
    refine tr_V.iald h9 shC_58 dX6_bestSwap_68 ?_
    refine tr_V.bd (fun M10 h11 => ?_)
    refine tr_V.iast h11 shC_59 dX6_bestSwap_69 ?_
    refine tr_V.aload_n (i := 0) dX6_bestSwap_70 rfl rfl ?_
    refine tr_V.iload_n (i := 1) dX6_bestSwap_71 rfl rfl ?_
    refine tr_V.iload_n (i := 3) dX6_bestSwap_72 rfl rfl ?_
    refine tr_V.bd (fun c12 h13 => ?_)
    refine tr_V.callV (C_X6_keepIfBetter p1 s1.1 M10 _ h13) yk_X6_keepIfBetter iv_X6_keepIfBetter ml_X6_368 shC_1 rfl ⟨rfl, Nat.le_of_ble_eq_true rfl⟩ rfl (Nat.le_of_ble_eq_true rfl) rfl dX6_bestSwap_73 ?_
    refine tr_V.istore_n (i := 3) dX6_bestSwap_76 rfl (Nat.le_of_ble_eq_true rfl) rfl ?_
    refine tr_V.iinc (cst := (1 : Int32)) dX6_bestSwap_77 rfl (by decide) rfl ?_
    refine tr_V.goto (tgt := 14) dX6_bestSwap_80 (by decide) ?_
    exact tr_V.to (fun h => h) ⟨rfl, rfl, rfl, rfl, rfl, trivial⟩
  · refine tr_V.iload_n (i := 3) dX6_bestSwap_83 rfl rfl ?_
    exact tr_V.iret dX6_bestSwap_84 rfl (fun h => h)
abbrev xX6_improved : tr_X := (cX6_improved, 10, RX6, (some .int), 5, shC, 81)
theorem cw_X6_improved : Cond.code yX6_improved cX6_improved 10 (some .int) ∈ tr_tbl := tr_in 1015 (by decide +kernel) rfl
theorem yk_X6_improved : tr_yk yX6_improved (xX6_improved) 3 := ⟨cw_X6_improved, in_X6, ⟨by decide +kernel, by decide +kernel, by decide +kernel⟩, Nat.le_of_ble_eq_true rfl⟩
theorem iv_X6_improved : Cond.instanceMethod yX6_improved ∈ tr_tbl ∧ Cond.selects (yX6_improved).cls yX6_improved yX6_improved ∈ tr_tbl := ⟨tr_in 1014 (by decide +kernel) rfl, tr_in 49 (by decide +kernel) rfl⟩
def mX6_improved_l113 (p1 : Int32) (p3 : Int32) (v7 : Int32 × tr_M) (s19 : Int32 × Int32 × Int32 × tr_M) : Option ((Int32 × Int32 × Int32 × tr_M) ⊕ (Int32 × Int32 × tr_M)) :=
  if s19.2.2.1 < (1000000 : Int32) then (
    Option.bind (show Option (Int32 × tr_M) from
      if p3 = 0 then (
        Option.bind (mX6_bestSwap p1 s19.1 s19.2.2.2) (fun c21 =>
        some (c21.1, c21.2)
        )
      ) else (
        Option.bind (mX6_bestMove p1 s19.1 s19.2.2.2) (fun c23 =>
        some (c23.1, c23.2)
        )
      )
    ) (fun (v20 : Int32 × tr_M) =>
      if v20.1 < s19.1 then (
        Option.bind (tr_cpy (tr_len shC 60) (tr_len shC 58) v20.2 60 (0 : Int32) 58 (0 : Int32) (v7.2.1 26 0)) (fun M25 =>
        some (.inl (v20.1, (s19.2.1 + (1 : Int32)), (s19.2.2.1 + (1 : Int32)), M25))
        )
      ) else (
        some (.inr (s19.1, s19.2.1, v20.2))
      )
    )
  ) else (
    some (.inr (s19.1, s19.2.1, s19.2.2.2))
  )
def mX6_improved (p1 : Int32) (p2 : Int32) (p3 : Int32) (M : tr_M) : Option (Int32 × tr_M) :=
  if (mX6_isMeasure p1) = 0 then (
    some ((-1 : Int32), M)
  ) else (
    if (mX6_isRow p2) = 0 then (
      some ((-1 : Int32), M)
    ) else (
      Option.bind (mX6_orderFault p2 M) (fun c5 =>
      Option.bind (show Option (Int32 × tr_M) from
        if c5 = 0 then (
          Option.bind (tr_ra 6 (fun i => 62 + 2 * i) p2) (fun r8 =>
          Option.bind (mX5_firstBroken 26 (r8 + 1) M) (fun c10 =>
          if c10.1 = (-9 : Int32) then (
            some (c5, c10.2)
          ) else (
            some ((3 : Int32), c10.2)
          )
          )
          )
        ) else (
          some (c5, M)
        )
      ) (fun (v7 : Int32 × tr_M) =>
        if v7.1 = 0 then (
          Option.bind (tr_ra 6 (fun i => 62 + 2 * i) p2) (fun r12 =>
          Option.bind (tr_cpy (tr_len shC (r12 + 1)) (tr_len shC 58) v7.2 (r12 + 1) (0 : Int32) 58 (0 : Int32) (v7.2.1 26 0)) (fun M14 =>
          Option.bind (mX5_measured 26 p1 58 M14) (fun c16 =>
          Option.bind (show Option (Int32 × Int32 × tr_M) from
            tr_loop (mX6_improved_l113 p1 p3 v7) (c16, (0 : Int32), (0 : Int32), M14)
          ) (fun (v18 : Int32 × Int32 × tr_M) =>
            Option.bind (tr_ra 6 (fun i => 62 + 2 * i) p2) (fun r27 =>
            Option.bind (tr_cpy (tr_len shC 58) (tr_len shC (r27 + 1)) v18.2.2 58 (0 : Int32) (r27 + 1) (0 : Int32) (v7.2.1 26 0)) (fun M29 =>
            Option.bind (some (tr_st M29 1 12 v18.1)) (fun M31 =>
            some (v18.2.1, M31)
            )
            )
            )
          )
          )
          )
          )
        ) else (
          Option.bind (mX6_found v7.1 v7.2) (fun c33 =>
          some (c33.1, c33.2)
          )
        )
      )
      )
    )
  )
set_option maxRecDepth 100000 in
set_option maxHeartbeats 4000000 in
theorem C_X6_improved (p1 : Int32) (p2 : Int32) (p3 : Int32) (M : tr_M) (r : Int32 × tr_M) (h : mX6_improved p1 p2 p3 M = some r) : tr_I yX6_improved (xX6_improved) [.ref 1, .int p1, .int p2, .int p3] M (some (.int r.1)) r.2 := by
  refine tr_I.of (Z := fun q : Int32 × tr_M => (some (.int r.1) : Option Value) = some (.int q.1) ∧ r.2 = q.2) pn_X6 rfl gdC (Nat.le_of_ble_eq_true rfl) (fun Wt => ?_) h ⟨rfl, rfl⟩
  unfold mX6_improved
  refine tr_V.iload_n (i := 1) dX6_improved_0 rfl rfl ?_
  refine tr_V.callS (C_X6_isMeasure p1 M) yk_X6_isMeasure sc_X6_isMeasure ml_X6_184 ⟨rfl, Nat.le_of_ble_eq_true rfl⟩ rfl (Nat.le_of_ble_eq_true rfl) rfl dX6_improved_1 ?_
  refine tr_V.if_eq (tgt := 14) dX6_improved_4 (by decide) ?_ ?_
  · refine tr_V.iconst (v := (-1 : Int32)) dX6_improved_14 (by decide) ?_
    exact tr_V.iret dX6_improved_15 rfl (fun h => h)
  · refine tr_V.iload_n (i := 2) dX6_improved_7 rfl rfl ?_
    refine tr_V.callS (C_X6_isRow p2 M) yk_X6_isRow sc_X6_isRow ml_X6_84 ⟨rfl, Nat.le_of_ble_eq_true rfl⟩ rfl (Nat.le_of_ble_eq_true rfl) rfl dX6_improved_8 ?_
    refine tr_V.if_ne (tgt := 16) dX6_improved_11 (by decide) ?_ ?_
    · refine tr_V.iconst (v := (-1 : Int32)) dX6_improved_14 (by decide) ?_
      exact tr_V.iret dX6_improved_15 rfl (fun h => h)
    · refine tr_V.aload_n (i := 0) dX6_improved_16 rfl rfl ?_
      refine tr_V.iload_n (i := 2) dX6_improved_17 rfl rfl ?_
      refine tr_V.bd (fun c5 h6 => ?_)
      refine tr_V.callV (C_X6_orderFault p2 M _ h6) yk_X6_orderFault iv_X6_orderFault ml_X6_187 shC_1 rfl ⟨rfl, Nat.le_of_ble_eq_true rfl⟩ rfl (Nat.le_of_ble_eq_true rfl) rfl dX6_improved_18 ?_
      refine tr_V.istore (i := 4) dX6_improved_21 (Nat.le_of_ble_eq_true rfl) rfl ?_
      refine tr_V.iload dX6_improved_23 rfl ?_
      refine tr_V.seq (τ := Int32 × tr_M) (pc' := 52) (L := fun v7 => [(0, some (.ref 1)), (1, some (.int p1)), (2, some (.int p2)), (3, some (.int p3)), (4, some (.int v7.1))]) (S := fun v7 => []) (Mf := fun v7 => v7.2) ?_ ?_
      · refine tr_V.if_ne (tgt := 52) dX6_improved_25 (by decide) ?_ ?_
        · refine tr_V.aload_n (i := 0) dX6_improved_28 rfl rfl ?_
          refine tr_V.getR (Nat.succ_pos _) fl_X6_43 shC_1 rfl dX6_improved_29 ?_
          refine tr_V.aload_n (i := 0) dX6_improved_32 rfl rfl ?_
          refine tr_V.getR (Nat.succ_pos _) fl_X6_11 shC_1 rfl dX6_improved_33 ?_
          refine tr_V.iload_n (i := 2) dX6_improved_36 rfl rfl ?_
          refine tr_V.bd (fun r8 h9 => ?_)
          refine tr_V.aald (ty := .object RX1) h9 shC_2 (isL_pos (isL_2 h9)) (fun _ => rfl) rfl dX6_improved_37 ?_
          refine tr_V.getR (Nat.succ_pos _) fl_X6_99 (shL (isL_2 h9)) rfl dX6_improved_38 ?_
          refine tr_V.bd (fun c10 h11 => ?_)
          refine tr_V.callV (C_X5_firstBroken 26 isW_26 (r8 + 1) M _ h11) yk_X5_firstBroken iv_X5_firstBroken ml_X6_194 shC_26 rfl ⟨rfl, Nat.le_of_ble_eq_true rfl⟩ rfl (Nat.le_of_ble_eq_true rfl) rfl dX6_improved_41 ?_
          refine tr_V.bipush (v := (-9 : Int32)) dX6_improved_44 (by decide) ?_
          refine tr_V.icmp_eq (tgt := 52) dX6_improved_46 (by decide) ?_ ?_
          · exact tr_V.to (fun h => h) ⟨rfl, rfl, rfl, rfl, rfl, trivial⟩
          · refine tr_V.iconst (v := (3 : Int32)) dX6_improved_49 (by decide) ?_
            refine tr_V.istore (i := 4) dX6_improved_50 (Nat.le_of_ble_eq_true rfl) rfl ?_
            exact tr_V.to (fun h => h) ⟨rfl, rfl, rfl, rfl, rfl, trivial⟩
        · exact tr_V.to (fun h => h) ⟨rfl, rfl, rfl, rfl, rfl, trivial⟩
      · intro v7
        refine tr_V.iload dX6_improved_52 rfl ?_
        refine tr_V.if_eq (tgt := 64) dX6_improved_54 (by decide) ?_ ?_
        · refine tr_V.aload_n (i := 0) dX6_improved_64 rfl rfl ?_
          refine tr_V.getR (Nat.succ_pos _) fl_X6_43 shC_1 rfl dX6_improved_65 ?_
          refine tr_V.getI fl_X6_136 shC_26 rfl dX6_improved_68 ?_
          refine tr_V.istore (i := 5) dX6_improved_71 (Nat.le_of_ble_eq_true rfl) rfl ?_
          refine tr_V.aload_n (i := 0) dX6_improved_73 rfl rfl ?_
          refine tr_V.getR (Nat.succ_pos _) fl_X6_11 shC_1 rfl dX6_improved_74 ?_
          refine tr_V.iload_n (i := 2) dX6_improved_77 rfl rfl ?_
          refine tr_V.bd (fun r12 h13 => ?_)
          refine tr_V.aald (ty := .object RX1) h13 shC_2 (isL_pos (isL_2 h13)) (fun _ => rfl) rfl dX6_improved_78 ?_
          refine tr_V.getR (Nat.succ_pos _) fl_X6_99 (shL (isL_2 h13)) rfl dX6_improved_79 ?_
          refine tr_V.iconst (v := (0 : Int32)) dX6_improved_82 (by decide) ?_
          refine tr_V.aload_n (i := 0) dX6_improved_83 rfl rfl ?_
          refine tr_V.getR (Nat.succ_pos _) fl_X6_48 shC_1 rfl dX6_improved_84 ?_
          refine tr_V.iconst (v := (0 : Int32)) dX6_improved_87 (by decide) ?_
          refine tr_V.iload dX6_improved_88 rfl ?_
          refine tr_V.bd (fun M14 h15 => ?_)
          refine tr_V.copy h15 ml_X6_113 w_acN w_acS w_acI (Nat.le_of_ble_eq_true rfl) (Nat.le_of_ble_eq_true rfl) dX6_improved_90 ?_
          refine tr_V.aload_n (i := 0) dX6_improved_93 rfl rfl ?_
          refine tr_V.getR (Nat.succ_pos _) fl_X6_43 shC_1 rfl dX6_improved_94 ?_
          refine tr_V.iload_n (i := 1) dX6_improved_97 rfl rfl ?_
          refine tr_V.aload_n (i := 0) dX6_improved_98 rfl rfl ?_
          refine tr_V.getR (Nat.succ_pos _) fl_X6_48 shC_1 rfl dX6_improved_99 ?_
          refine tr_V.bd (fun c16 h17 => ?_)
          refine tr_V.callV (C_X5_measured 26 isW_26 p1 58 M14 _ h17) yk_X5_measured iv_X5_measured ml_X6_190 shC_26 rfl ⟨rfl, Nat.le_of_ble_eq_true rfl⟩ rfl (Nat.le_of_ble_eq_true rfl) rfl dX6_improved_102 ?_
          refine tr_V.istore (i := 6) dX6_improved_105 (Nat.le_of_ble_eq_true rfl) rfl ?_
          refine tr_V.iconst (v := (0 : Int32)) dX6_improved_107 (by decide) ?_
          refine tr_V.istore (i := 7) dX6_improved_108 (Nat.le_of_ble_eq_true rfl) rfl ?_
          refine tr_V.iconst (v := (0 : Int32)) dX6_improved_110 (by decide) ?_
          refine tr_V.istore (i := 8) dX6_improved_111 (Nat.le_of_ble_eq_true rfl) rfl ?_
          refine tr_V.seq (τ := Int32 × Int32 × tr_M) (pc' := 182) (L := fun v18 => [(0, some (.ref 1)), (2, some (.int p2)), (5, some (.int (v7.2.1 26 0))), (6, some (.int v18.1)), (7, some (.int v18.2.1))]) (S := fun v18 => []) (Mf := fun v18 => v18.2.2) ?_ ?_
          · refine tr_V.loop (σ := Int32 × Int32 × Int32 × tr_M) (step := mX6_improved_l113 p1 p3 v7) (L := fun s19 => [(0, some (.ref 1)), (1, some (.int p1)), (2, some (.int p2)), (3, some (.int p3)), (5, some (.int (v7.2.1 26 0))), (6, some (.int s19.1)), (7, some (.int s19.2.1)), (8, some (.int s19.2.2.1))]) (Mf := fun s19 => s19.2.2.2) ?_ (c16, (0 : Int32), (0 : Int32), M14) ⟨rfl, rfl, rfl, rfl, rfl, rfl, rfl, rfl, trivial⟩
            intro s19
            refine tr_V.iload dX6_improved_113 rfl ?_
            refine tr_V.ldcw ct_X6_361 dX6_improved_115 ?_
            refine tr_V.icmp_ge (tgt := 182) dX6_improved_118 (by decide) ?_ ?_
            · refine tr_V.iload_n (i := 3) dX6_improved_121 rfl rfl ?_
              refine tr_V.seq (τ := Int32 × tr_M) (pc' := 142) (L := fun v20 => [(0, some (.ref 1)), (1, some (.int p1)), (2, some (.int p2)), (3, some (.int p3)), (5, some (.int (v7.2.1 26 0))), (6, some (.int s19.1)), (7, some (.int s19.2.1)), (8, some (.int s19.2.2.1))]) (S := fun v20 => [.int v20.1]) (Mf := fun v20 => v20.2) ?_ ?_
              · refine tr_V.if_eq (tgt := 135) dX6_improved_122 (by decide) ?_ ?_
                · refine tr_V.aload_n (i := 0) dX6_improved_135 rfl rfl ?_
                  refine tr_V.iload_n (i := 1) dX6_improved_136 rfl rfl ?_
                  refine tr_V.iload dX6_improved_137 rfl ?_
                  refine tr_V.bd (fun c21 h22 => ?_)
                  refine tr_V.callV (C_X6_bestSwap p1 s19.1 s19.2.2.2 _ h22) yk_X6_bestSwap iv_X6_bestSwap ml_X6_365 shC_1 rfl ⟨rfl, Nat.le_of_ble_eq_true rfl⟩ rfl (Nat.le_of_ble_eq_true rfl) rfl dX6_improved_139 ?_
                  exact tr_V.to (fun h => h) ⟨rfl, rfl, rfl, rfl, rfl, rfl, rfl, rfl, trivial⟩
                · refine tr_V.aload_n (i := 0) dX6_improved_125 rfl rfl ?_
                  refine tr_V.iload_n (i := 1) dX6_improved_126 rfl rfl ?_
                  refine tr_V.iload dX6_improved_127 rfl ?_
                  refine tr_V.bd (fun c23 h24 => ?_)
                  refine tr_V.callV (C_X6_bestMove p1 s19.1 s19.2.2.2 _ h24) yk_X6_bestMove iv_X6_bestMove ml_X6_362 shC_1 rfl ⟨rfl, Nat.le_of_ble_eq_true rfl⟩ rfl (Nat.le_of_ble_eq_true rfl) rfl dX6_improved_129 ?_
                  refine tr_V.goto (tgt := 142) dX6_improved_132 (by decide) ?_
                  exact tr_V.to (fun h => h) ⟨rfl, rfl, rfl, rfl, rfl, rfl, rfl, rfl, trivial⟩
              · intro v20
                refine tr_V.istore (i := 9) dX6_improved_142 (Nat.le_of_ble_eq_true rfl) rfl ?_
                refine tr_V.iload dX6_improved_144 rfl ?_
                refine tr_V.iload dX6_improved_146 rfl ?_
                refine tr_V.icmp_lt (tgt := 154) dX6_improved_148 (by decide) ?_ ?_
                · refine tr_V.aload_n (i := 0) dX6_improved_154 rfl rfl ?_
                  refine tr_V.getR (Nat.succ_pos _) fl_X6_54 shC_1 rfl dX6_improved_155 ?_
                  refine tr_V.iconst (v := (0 : Int32)) dX6_improved_158 (by decide) ?_
                  refine tr_V.aload_n (i := 0) dX6_improved_159 rfl rfl ?_
                  refine tr_V.getR (Nat.succ_pos _) fl_X6_48 shC_1 rfl dX6_improved_160 ?_
                  refine tr_V.iconst (v := (0 : Int32)) dX6_improved_163 (by decide) ?_
                  refine tr_V.iload dX6_improved_164 rfl ?_
                  refine tr_V.bd (fun M25 h26 => ?_)
                  refine tr_V.copy h26 ml_X6_113 w_acN w_acS w_acI (Nat.le_of_ble_eq_true rfl) (Nat.le_of_ble_eq_true rfl) dX6_improved_166 ?_
                  refine tr_V.iload dX6_improved_169 rfl ?_
                  refine tr_V.istore (i := 6) dX6_improved_171 (Nat.le_of_ble_eq_true rfl) rfl ?_
                  refine tr_V.iinc (cst := (1 : Int32)) dX6_improved_173 rfl (by decide) rfl ?_
                  refine tr_V.iinc (cst := (1 : Int32)) dX6_improved_176 rfl (by decide) rfl ?_
                  refine tr_V.goto (tgt := 113) dX6_improved_179 (by decide) ?_
                  exact tr_V.to (fun h => h) ⟨rfl, rfl, rfl, rfl, rfl, rfl, rfl, rfl, trivial⟩
                · refine tr_V.goto (tgt := 182) dX6_improved_151 (by decide) ?_
                  exact tr_V.to (fun h => h) ⟨rfl, rfl, rfl, rfl, rfl, trivial⟩
            · exact tr_V.to (fun h => h) ⟨rfl, rfl, rfl, rfl, rfl, trivial⟩
          · intro v18
            refine tr_V.aload_n (i := 0) dX6_improved_182 rfl rfl ?_
            refine tr_V.getR (Nat.succ_pos _) fl_X6_48 shC_1 rfl dX6_improved_183 ?_
            refine tr_V.iconst (v := (0 : Int32)) dX6_improved_186 (by decide) ?_
            refine tr_V.aload_n (i := 0) dX6_improved_187 rfl rfl ?_
            refine tr_V.getR (Nat.succ_pos _) fl_X6_11 shC_1 rfl dX6_improved_188 ?_
            refine tr_V.iload_n (i := 2) dX6_improved_191 rfl rfl ?_
            refine tr_V.bd (fun r27 h28 => ?_)
            refine tr_V.aald (ty := .object RX1) h28 shC_2 (isL_pos (isL_2 h28)) (fun _ => rfl) rfl dX6_improved_192 ?_
            refine tr_V.getR (Nat.succ_pos _) fl_X6_99 (shL (isL_2 h28)) rfl dX6_improved_193 ?_
            refine tr_V.iconst (v := (0 : Int32)) dX6_improved_196 (by decide) ?_
            refine tr_V.iload dX6_improved_197 rfl ?_
            refine tr_V.bd (fun M29 h30 => ?_)
            refine tr_V.copy h30 ml_X6_113 w_acN w_acS w_acI (Nat.le_of_ble_eq_true rfl) (Nat.le_of_ble_eq_true rfl) dX6_improved_199 ?_
            refine tr_V.aload_n (i := 0) dX6_improved_202 rfl rfl ?_
            refine tr_V.iload dX6_improved_203 rfl ?_
            refine tr_V.bd (fun M31 h32 => ?_)
            refine tr_V.putI fl_X6_64 shC_1 rfl dX6_improved_205 h32 ?_
            refine tr_V.iload dX6_improved_208 rfl ?_
            exact tr_V.iret dX6_improved_210 rfl (fun h => h)
        · refine tr_V.aload_n (i := 0) dX6_improved_57 rfl rfl ?_
          refine tr_V.iload dX6_improved_58 rfl ?_
          refine tr_V.bd (fun c33 h34 => ?_)
          refine tr_V.callV (C_X6_found v7.1 v7.2 _ h34) yk_X6_found iv_X6_found ml_X6_88 shC_1 rfl ⟨rfl, Nat.le_of_ble_eq_true rfl⟩ rfl (Nat.le_of_ble_eq_true rfl) rfl dX6_improved_60 ?_
          exact tr_V.iret dX6_improved_63 rfl (fun h => h)
abbrev xX6_swaps : tr_X := (cX6_swaps, 3, RX6, (some .int), 6, shC, 81)
theorem cw_X6_swaps : Cond.code yX6_swaps cX6_swaps 3 (some .int) ∈ tr_tbl := tr_in 1011 (by decide +kernel) rfl
theorem yk_X6_swaps : tr_yk yX6_swaps (xX6_swaps) 2 := ⟨cw_X6_swaps, in_X6, ⟨by decide +kernel, by decide +kernel, by decide +kernel⟩, Nat.le_of_ble_eq_true rfl⟩
theorem iv_X6_swaps : Cond.instanceMethod yX6_swaps ∈ tr_tbl ∧ Cond.selects (yX6_swaps).cls yX6_swaps yX6_swaps ∈ tr_tbl := ⟨tr_in 1009 (by decide +kernel) rfl, tr_in 1010 (by decide +kernel) rfl⟩
def mX6_swaps (p1 : Int32) (p2 : Int32) (M : tr_M) : Option (Int32 × tr_M) :=
  Option.bind (mX6_improved p1 p2 (0 : Int32) M) (fun c1 =>
  some (c1.1, c1.2)
  )
set_option maxRecDepth 100000 in
set_option maxHeartbeats 4000000 in
theorem C_X6_swaps (p1 : Int32) (p2 : Int32) (M : tr_M) (r : Int32 × tr_M) (h : mX6_swaps p1 p2 M = some r) : tr_I yX6_swaps (xX6_swaps) [.ref 1, .int p1, .int p2] M (some (.int r.1)) r.2 := by
  refine tr_I.of (Z := fun q : Int32 × tr_M => (some (.int r.1) : Option Value) = some (.int q.1) ∧ r.2 = q.2) pn_X6 rfl gdC (Nat.le_of_ble_eq_true rfl) (fun Wt => ?_) h ⟨rfl, rfl⟩
  unfold mX6_swaps
  refine tr_V.aload_n (i := 0) dX6_swaps_0 rfl rfl ?_
  refine tr_V.iload_n (i := 1) dX6_swaps_1 rfl rfl ?_
  refine tr_V.iload_n (i := 2) dX6_swaps_2 rfl rfl ?_
  refine tr_V.iconst (v := (0 : Int32)) dX6_swaps_3 (by decide) ?_
  refine tr_V.bd (fun c1 h2 => ?_)
  refine tr_V.callV (C_X6_improved p1 p2 (0 : Int32) M _ h2) yk_X6_improved iv_X6_improved ml_X6_278 shC_1 rfl ⟨rfl, Nat.le_of_ble_eq_true rfl⟩ rfl (Nat.le_of_ble_eq_true rfl) rfl dX6_swaps_4 ?_
  exact tr_V.iret dX6_swaps_7 rfl (fun h => h)
abbrev xX6_moves : tr_X := (cX6_moves, 3, RX6, (some .int), 6, shC, 81)
theorem cw_X6_moves : Cond.code yX6_moves cX6_moves 3 (some .int) ∈ tr_tbl := tr_in 1036 (by decide +kernel) rfl
theorem yk_X6_moves : tr_yk yX6_moves (xX6_moves) 2 := ⟨cw_X6_moves, in_X6, ⟨by decide +kernel, by decide +kernel, by decide +kernel⟩, Nat.le_of_ble_eq_true rfl⟩
theorem iv_X6_moves : Cond.instanceMethod yX6_moves ∈ tr_tbl ∧ Cond.selects (yX6_moves).cls yX6_moves yX6_moves ∈ tr_tbl := ⟨tr_in 1034 (by decide +kernel) rfl, tr_in 1035 (by decide +kernel) rfl⟩
def mX6_moves (p1 : Int32) (p2 : Int32) (M : tr_M) : Option (Int32 × tr_M) :=
  Option.bind (mX6_improved p1 p2 (1 : Int32) M) (fun c1 =>
  some (c1.1, c1.2)
  )
set_option maxRecDepth 100000 in
set_option maxHeartbeats 4000000 in
theorem C_X6_moves (p1 : Int32) (p2 : Int32) (M : tr_M) (r : Int32 × tr_M) (h : mX6_moves p1 p2 M = some r) : tr_I yX6_moves (xX6_moves) [.ref 1, .int p1, .int p2] M (some (.int r.1)) r.2 := by
  refine tr_I.of (Z := fun q : Int32 × tr_M => (some (.int r.1) : Option Value) = some (.int q.1) ∧ r.2 = q.2) pn_X6 rfl gdC (Nat.le_of_ble_eq_true rfl) (fun Wt => ?_) h ⟨rfl, rfl⟩
  unfold mX6_moves
  refine tr_V.aload_n (i := 0) dX6_moves_0 rfl rfl ?_
  refine tr_V.iload_n (i := 1) dX6_moves_1 rfl rfl ?_
  refine tr_V.iload_n (i := 2) dX6_moves_2 rfl rfl ?_
  refine tr_V.iconst (v := (1 : Int32)) dX6_moves_3 (by decide) ?_
  refine tr_V.bd (fun c1 h2 => ?_)
  refine tr_V.callV (C_X6_improved p1 p2 (1 : Int32) M _ h2) yk_X6_improved iv_X6_improved ml_X6_278 shC_1 rfl ⟨rfl, Nat.le_of_ble_eq_true rfl⟩ rfl (Nat.le_of_ble_eq_true rfl) rfl dX6_moves_4 ?_
  exact tr_V.iret dX6_moves_7 rfl (fun h => h)
abbrev xX6_bothOrdersFault : tr_X := (cX6_bothOrdersFault, 5, RX6, (some .int), 4, shC, 81)
theorem cw_X6_bothOrdersFault : Cond.code yX6_bothOrdersFault cX6_bothOrdersFault 5 (some .int) ∈ tr_tbl := tr_in 1044 (by decide +kernel) rfl
theorem yk_X6_bothOrdersFault : tr_yk yX6_bothOrdersFault (xX6_bothOrdersFault) 2 := ⟨cw_X6_bothOrdersFault, in_X6, ⟨by decide +kernel, by decide +kernel, by decide +kernel⟩, Nat.le_of_ble_eq_true rfl⟩
theorem iv_X6_bothOrdersFault : Cond.instanceMethod yX6_bothOrdersFault ∈ tr_tbl ∧ Cond.selects (yX6_bothOrdersFault).cls yX6_bothOrdersFault yX6_bothOrdersFault ∈ tr_tbl := ⟨tr_in 1043 (by decide +kernel) rfl, tr_in 54 (by decide +kernel) rfl⟩
def mX6_bothOrdersFault (p1 : Int32) (p2 : Int32) (M : tr_M) : Option (Int32) :=
  Option.bind (mX6_orderFault p1 M) (fun c1 =>
  Option.bind (mX6_orderFault p2 M) (fun c3 =>
  if c1 = (1 : Int32) then (
    some (1 : Int32)
  ) else (
    if c3 = (1 : Int32) then (
      some (1 : Int32)
    ) else (
      if c1 = (5 : Int32) then (
        some (5 : Int32)
      ) else (
        if c3 = (5 : Int32) then (
          some (5 : Int32)
        ) else (
          if c1 = 0 then (
            some c3
          ) else (
            some c1
          )
        )
      )
    )
  )
  )
  )
set_option maxRecDepth 100000 in
set_option maxHeartbeats 4000000 in
theorem C_X6_bothOrdersFault (p1 : Int32) (p2 : Int32) (M : tr_M) (r : Int32) (h : mX6_bothOrdersFault p1 p2 M = some r) : tr_I yX6_bothOrdersFault (xX6_bothOrdersFault) [.ref 1, .int p1, .int p2] M (some (.int r)) M := by
  refine tr_I.of (Z := fun q : Int32 => (some (.int r) : Option Value) = some (.int q) ∧ M = M) pn_X6 rfl gdC (Nat.le_of_ble_eq_true rfl) (fun Wt => ?_) h ⟨rfl, rfl⟩
  unfold mX6_bothOrdersFault
  refine tr_V.aload_n (i := 0) dX6_bothOrdersFault_0 rfl rfl ?_
  refine tr_V.iload_n (i := 1) dX6_bothOrdersFault_1 rfl rfl ?_
  refine tr_V.bd (fun c1 h2 => ?_)
  refine tr_V.callV (C_X6_orderFault p1 M _ h2) yk_X6_orderFault iv_X6_orderFault ml_X6_187 shC_1 rfl ⟨rfl, Nat.le_of_ble_eq_true rfl⟩ rfl (Nat.le_of_ble_eq_true rfl) rfl dX6_bothOrdersFault_2 ?_
  refine tr_V.istore_n (i := 3) dX6_bothOrdersFault_5 rfl (Nat.le_of_ble_eq_true rfl) rfl ?_
  refine tr_V.aload_n (i := 0) dX6_bothOrdersFault_6 rfl rfl ?_
  refine tr_V.iload_n (i := 2) dX6_bothOrdersFault_7 rfl rfl ?_
  refine tr_V.bd (fun c3 h4 => ?_)
  refine tr_V.callV (C_X6_orderFault p2 M _ h4) yk_X6_orderFault iv_X6_orderFault ml_X6_187 shC_1 rfl ⟨rfl, Nat.le_of_ble_eq_true rfl⟩ rfl (Nat.le_of_ble_eq_true rfl) rfl dX6_bothOrdersFault_8 ?_
  refine tr_V.istore (i := 4) dX6_bothOrdersFault_11 (Nat.le_of_ble_eq_true rfl) rfl ?_
  refine tr_V.iload_n (i := 3) dX6_bothOrdersFault_13 rfl rfl ?_
  refine tr_V.iconst (v := (1 : Int32)) dX6_bothOrdersFault_14 (by decide) ?_
  refine tr_V.icmp_eq (tgt := 24) dX6_bothOrdersFault_15 (by decide) ?_ ?_
  · refine tr_V.iconst (v := (1 : Int32)) dX6_bothOrdersFault_24 (by decide) ?_
    exact tr_V.iret dX6_bothOrdersFault_25 rfl (fun h => h)
  · refine tr_V.iload dX6_bothOrdersFault_18 rfl ?_
    refine tr_V.iconst (v := (1 : Int32)) dX6_bothOrdersFault_20 (by decide) ?_
    refine tr_V.icmp_ne (tgt := 26) dX6_bothOrdersFault_21 (by decide) ?_ ?_
    · refine tr_V.iconst (v := (1 : Int32)) dX6_bothOrdersFault_24 (by decide) ?_
      exact tr_V.iret dX6_bothOrdersFault_25 rfl (fun h => h)
    · refine tr_V.iload_n (i := 3) dX6_bothOrdersFault_26 rfl rfl ?_
      refine tr_V.iconst (v := (5 : Int32)) dX6_bothOrdersFault_27 (by decide) ?_
      refine tr_V.icmp_eq (tgt := 37) dX6_bothOrdersFault_28 (by decide) ?_ ?_
      · refine tr_V.iconst (v := (5 : Int32)) dX6_bothOrdersFault_37 (by decide) ?_
        exact tr_V.iret dX6_bothOrdersFault_38 rfl (fun h => h)
      · refine tr_V.iload dX6_bothOrdersFault_31 rfl ?_
        refine tr_V.iconst (v := (5 : Int32)) dX6_bothOrdersFault_33 (by decide) ?_
        refine tr_V.icmp_ne (tgt := 39) dX6_bothOrdersFault_34 (by decide) ?_ ?_
        · refine tr_V.iconst (v := (5 : Int32)) dX6_bothOrdersFault_37 (by decide) ?_
          exact tr_V.iret dX6_bothOrdersFault_38 rfl (fun h => h)
        · refine tr_V.iload_n (i := 3) dX6_bothOrdersFault_39 rfl rfl ?_
          refine tr_V.if_eq (tgt := 47) dX6_bothOrdersFault_40 (by decide) ?_ ?_
          · refine tr_V.iload dX6_bothOrdersFault_47 rfl ?_
            exact tr_V.iret dX6_bothOrdersFault_49 rfl (fun h => h)
          · refine tr_V.iload_n (i := 3) dX6_bothOrdersFault_43 rfl rfl ?_
            refine tr_V.goto (tgt := 49) dX6_bothOrdersFault_44 (by decide) ?_
            exact tr_V.iret dX6_bothOrdersFault_49 rfl (fun h => h)
abbrev xX6_apart : tr_X := (cX6_apart, 9, RX6, (some .int), 5, shC, 81)
theorem cw_X6_apart : Cond.code yX6_apart cX6_apart 9 (some .int) ∈ tr_tbl := tr_in 1040 (by decide +kernel) rfl
theorem yk_X6_apart : tr_yk yX6_apart (xX6_apart) 2 := ⟨cw_X6_apart, in_X6, ⟨by decide +kernel, by decide +kernel, by decide +kernel⟩, Nat.le_of_ble_eq_true rfl⟩
theorem iv_X6_apart : Cond.instanceMethod yX6_apart ∈ tr_tbl ∧ Cond.selects (yX6_apart).cls yX6_apart yX6_apart ∈ tr_tbl := ⟨tr_in 1038 (by decide +kernel) rfl, tr_in 1039 (by decide +kernel) rfl⟩
def mX6_apart_l92 (r7 : Nat) (c11 : tr_M) (s13 : Int32 × Int32) (s14 : Int32 × Int32) : Option ((Int32 × Int32) ⊕ ((Int32 × Int32) ⊕ (Int32 × tr_M))) :=
  if s14.2 < (c11.1 26 0) then (
    Option.bind (tr_rd (tr_len shC (r7 + 1)) c11 (r7 + 1) s13.2) (fun a15 =>
    Option.bind (tr_rd 10 c11 59 a15) (fun a17 =>
    Option.bind (tr_rd (tr_len shC (r7 + 1)) c11 (r7 + 1) s14.2) (fun a19 =>
    Option.bind (tr_rd 10 c11 59 a19) (fun a21 =>
    if a21 < a17 then (
      some (.inl ((s14.1 + (1 : Int32)), (s14.2 + (1 : Int32))))
    ) else (
      some (.inl (s14.1, (s14.2 + (1 : Int32))))
    )
    )
    )
    )
    )
  ) else (
    some (.inr (.inl (s14.1, (s13.2 + (1 : Int32)))))
  )
def mX6_apart_l74 (r7 : Nat) (c11 : tr_M) (s13 : Int32 × Int32) : Option ((Int32 × Int32) ⊕ (Int32 × tr_M)) :=
  if s13.2 < (c11.1 26 0) then (
    tr_loop (mX6_apart_l92 r7 c11 s13) (s13.1, (s13.2 + (1 : Int32)))
  ) else (
    some (.inr (s13.1, c11))
  )
def mX6_apart (p1 : Int32) (p2 : Int32) (M : tr_M) : Option (Int32 × tr_M) :=
  if (mX6_isRow p1) = 0 then (
    some ((-1 : Int32), M)
  ) else (
    if (mX6_isRow p2) = 0 then (
      some ((-1 : Int32), M)
    ) else (
      Option.bind (mX6_bothOrdersFault p1 p2 M) (fun c5 =>
      if c5 = 0 then (
        Option.bind (tr_ra 6 (fun i => 62 + 2 * i) p1) (fun r7 =>
        Option.bind (tr_ra 6 (fun i => 62 + 2 * i) p2) (fun r9 =>
        Option.bind (mX5_seatsOf 26 (r9 + 1) 59 M) (fun c11 =>
        tr_loop (mX6_apart_l74 r7 c11) ((0 : Int32), (0 : Int32))
        )
        )
        )
      ) else (
        Option.bind (mX6_found c5 M) (fun c23 =>
        some (c23.1, c23.2)
        )
      )
      )
    )
  )
set_option maxRecDepth 100000 in
set_option maxHeartbeats 4000000 in
theorem C_X6_apart (p1 : Int32) (p2 : Int32) (M : tr_M) (r : Int32 × tr_M) (h : mX6_apart p1 p2 M = some r) : tr_I yX6_apart (xX6_apart) [.ref 1, .int p1, .int p2] M (some (.int r.1)) r.2 := by
  refine tr_I.of (Z := fun q : Int32 × tr_M => (some (.int r.1) : Option Value) = some (.int q.1) ∧ r.2 = q.2) pn_X6 rfl gdC (Nat.le_of_ble_eq_true rfl) (fun Wt => ?_) h ⟨rfl, rfl⟩
  unfold mX6_apart
  refine tr_V.iload_n (i := 1) dX6_apart_0 rfl rfl ?_
  refine tr_V.callS (C_X6_isRow p1 M) yk_X6_isRow sc_X6_isRow ml_X6_84 ⟨rfl, Nat.le_of_ble_eq_true rfl⟩ rfl (Nat.le_of_ble_eq_true rfl) rfl dX6_apart_1 ?_
  refine tr_V.if_eq (tgt := 14) dX6_apart_4 (by decide) ?_ ?_
  · refine tr_V.iconst (v := (-1 : Int32)) dX6_apart_14 (by decide) ?_
    exact tr_V.iret dX6_apart_15 rfl (fun h => h)
  · refine tr_V.iload_n (i := 2) dX6_apart_7 rfl rfl ?_
    refine tr_V.callS (C_X6_isRow p2 M) yk_X6_isRow sc_X6_isRow ml_X6_84 ⟨rfl, Nat.le_of_ble_eq_true rfl⟩ rfl (Nat.le_of_ble_eq_true rfl) rfl dX6_apart_8 ?_
    refine tr_V.if_ne (tgt := 16) dX6_apart_11 (by decide) ?_ ?_
    · refine tr_V.iconst (v := (-1 : Int32)) dX6_apart_14 (by decide) ?_
      exact tr_V.iret dX6_apart_15 rfl (fun h => h)
    · refine tr_V.aload_n (i := 0) dX6_apart_16 rfl rfl ?_
      refine tr_V.iload_n (i := 1) dX6_apart_17 rfl rfl ?_
      refine tr_V.iload_n (i := 2) dX6_apart_18 rfl rfl ?_
      refine tr_V.bd (fun c5 h6 => ?_)
      refine tr_V.callV (C_X6_bothOrdersFault p1 p2 M _ h6) yk_X6_bothOrdersFault iv_X6_bothOrdersFault ml_X6_282 shC_1 rfl ⟨rfl, Nat.le_of_ble_eq_true rfl⟩ rfl (Nat.le_of_ble_eq_true rfl) rfl dX6_apart_19 ?_
      refine tr_V.istore_n (i := 3) dX6_apart_22 rfl (Nat.le_of_ble_eq_true rfl) rfl ?_
      refine tr_V.iload_n (i := 3) dX6_apart_23 rfl rfl ?_
      refine tr_V.if_eq (tgt := 33) dX6_apart_24 (by decide) ?_ ?_
      · refine tr_V.aload_n (i := 0) dX6_apart_33 rfl rfl ?_
        refine tr_V.getR (Nat.succ_pos _) fl_X6_11 shC_1 rfl dX6_apart_34 ?_
        refine tr_V.iload_n (i := 1) dX6_apart_37 rfl rfl ?_
        refine tr_V.bd (fun r7 h8 => ?_)
        refine tr_V.aald (ty := .object RX1) h8 shC_2 (isL_pos (isL_2 h8)) (fun _ => rfl) rfl dX6_apart_38 ?_
        refine tr_V.getR (Nat.succ_pos _) fl_X6_99 (shL (isL_2 h8)) rfl dX6_apart_39 ?_
        refine tr_V.astore (i := 4) dX6_apart_42 (Nat.le_of_ble_eq_true rfl) rfl ?_
        refine tr_V.aload_n (i := 0) dX6_apart_44 rfl rfl ?_
        refine tr_V.getR (Nat.succ_pos _) fl_X6_51 shC_1 rfl dX6_apart_45 ?_
        refine tr_V.astore (i := 5) dX6_apart_48 (Nat.le_of_ble_eq_true rfl) rfl ?_
        refine tr_V.aload_n (i := 0) dX6_apart_50 rfl rfl ?_
        refine tr_V.getR (Nat.succ_pos _) fl_X6_43 shC_1 rfl dX6_apart_51 ?_
        refine tr_V.aload_n (i := 0) dX6_apart_54 rfl rfl ?_
        refine tr_V.getR (Nat.succ_pos _) fl_X6_11 shC_1 rfl dX6_apart_55 ?_
        refine tr_V.iload_n (i := 2) dX6_apart_58 rfl rfl ?_
        refine tr_V.bd (fun r9 h10 => ?_)
        refine tr_V.aald (ty := .object RX1) h10 shC_2 (isL_pos (isL_2 h10)) (fun _ => rfl) rfl dX6_apart_59 ?_
        refine tr_V.getR (Nat.succ_pos _) fl_X6_99 (shL (isL_2 h10)) rfl dX6_apart_60 ?_
        refine tr_V.aload dX6_apart_63 rfl ?_
        refine tr_V.bd (fun c11 h12 => ?_)
        refine tr_V.callV (C_X5_seatsOf 26 isW_26 (r9 + 1) 59 M _ h12) yk_X5_seatsOf iv_X5_seatsOf ml_X6_285 shC_26 rfl ⟨rfl, Nat.le_of_ble_eq_true rfl⟩ rfl (Nat.le_of_ble_eq_true rfl) rfl dX6_apart_65 ?_
        refine tr_V.iconst (v := (0 : Int32)) dX6_apart_68 (by decide) ?_
        refine tr_V.istore (i := 6) dX6_apart_69 (Nat.le_of_ble_eq_true rfl) rfl ?_
        refine tr_V.iconst (v := (0 : Int32)) dX6_apart_71 (by decide) ?_
        refine tr_V.istore (i := 7) dX6_apart_72 (Nat.le_of_ble_eq_true rfl) rfl ?_
        refine tr_V.loop (σ := Int32 × Int32) (step := mX6_apart_l74 r7 c11) (L := fun s13 => [(0, some (.ref 1)), (4, some (.ref (r7 + 1))), (5, some (.ref 59)), (6, some (.int s13.1)), (7, some (.int s13.2))]) (Mf := fun s13 => c11) ?_ ((0 : Int32), (0 : Int32)) ⟨rfl, rfl, rfl, rfl, rfl, trivial⟩
        intro s13
        refine tr_V.iload dX6_apart_74 rfl ?_
        refine tr_V.aload_n (i := 0) dX6_apart_76 rfl rfl ?_
        refine tr_V.getR (Nat.succ_pos _) fl_X6_43 shC_1 rfl dX6_apart_77 ?_
        refine tr_V.getI fl_X6_136 shC_26 rfl dX6_apart_80 ?_
        refine tr_V.icmp_ge (tgt := 138) dX6_apart_83 (by decide) ?_ ?_
        · refine tr_V.iload dX6_apart_86 rfl ?_
          refine tr_V.iconst (v := (1 : Int32)) dX6_apart_88 (by decide) ?_
          refine tr_V.iadd dX6_apart_89 ?_
          refine tr_V.istore (i := 8) dX6_apart_90 (Nat.le_of_ble_eq_true rfl) rfl ?_
          refine tr_V.loop (σ := Int32 × Int32) (step := mX6_apart_l92 r7 c11 s13) (L := fun s14 => [(0, some (.ref 1)), (4, some (.ref (r7 + 1))), (5, some (.ref 59)), (6, some (.int s14.1)), (7, some (.int s13.2)), (8, some (.int s14.2))]) (Mf := fun s14 => c11) ?_ (s13.1, (s13.2 + (1 : Int32))) ⟨rfl, rfl, rfl, rfl, rfl, rfl, trivial⟩
          intro s14
          refine tr_V.iload dX6_apart_92 rfl ?_
          refine tr_V.aload_n (i := 0) dX6_apart_94 rfl rfl ?_
          refine tr_V.getR (Nat.succ_pos _) fl_X6_43 shC_1 rfl dX6_apart_95 ?_
          refine tr_V.getI fl_X6_136 shC_26 rfl dX6_apart_98 ?_
          refine tr_V.icmp_ge (tgt := 132) dX6_apart_101 (by decide) ?_ ?_
          · refine tr_V.aload dX6_apart_104 rfl ?_
            refine tr_V.aload dX6_apart_106 rfl ?_
            refine tr_V.iload dX6_apart_108 rfl ?_
            refine tr_V.bd (fun a15 h16 => ?_)
            refine tr_V.ialdL h16 dX6_apart_110 ?_
            refine tr_V.bd (fun a17 h18 => ?_)
            refine tr_V.iald h18 shC_59 dX6_apart_111 ?_
            refine tr_V.aload dX6_apart_112 rfl ?_
            refine tr_V.aload dX6_apart_114 rfl ?_
            refine tr_V.iload dX6_apart_116 rfl ?_
            refine tr_V.bd (fun a19 h20 => ?_)
            refine tr_V.ialdL h20 dX6_apart_118 ?_
            refine tr_V.bd (fun a21 h22 => ?_)
            refine tr_V.iald h22 shC_59 dX6_apart_119 ?_
            refine tr_V.icmp_le (tgt := 126) dX6_apart_120 (by decide) ?_ ?_
            · refine tr_V.iinc (cst := (1 : Int32)) dX6_apart_123 rfl (by decide) rfl ?_
              refine tr_V.iinc (cst := (1 : Int32)) dX6_apart_126 rfl (by decide) rfl ?_
              refine tr_V.goto (tgt := 92) dX6_apart_129 (by decide) ?_
              exact tr_V.to (fun h => h) ⟨rfl, rfl, rfl, rfl, rfl, rfl, trivial⟩
            · refine tr_V.iinc (cst := (1 : Int32)) dX6_apart_126 rfl (by decide) rfl ?_
              refine tr_V.goto (tgt := 92) dX6_apart_129 (by decide) ?_
              exact tr_V.to (fun h => h) ⟨rfl, rfl, rfl, rfl, rfl, rfl, trivial⟩
          · refine tr_V.iinc (cst := (1 : Int32)) dX6_apart_132 rfl (by decide) rfl ?_
            refine tr_V.goto (tgt := 74) dX6_apart_135 (by decide) ?_
            exact tr_V.to (fun h => h) ⟨rfl, rfl, rfl, rfl, rfl, trivial⟩
        · refine tr_V.iload dX6_apart_138 rfl ?_
          exact tr_V.iret dX6_apart_140 rfl (fun h => h)
      · refine tr_V.aload_n (i := 0) dX6_apart_27 rfl rfl ?_
        refine tr_V.iload_n (i := 3) dX6_apart_28 rfl rfl ?_
        refine tr_V.bd (fun c23 h24 => ?_)
        refine tr_V.callV (C_X6_found c5 M _ h24) yk_X6_found iv_X6_found ml_X6_88 shC_1 rfl ⟨rfl, Nat.le_of_ble_eq_true rfl⟩ rfl (Nat.le_of_ble_eq_true rfl) rfl dX6_apart_29 ?_
        exact tr_V.iret dX6_apart_32 rfl (fun h => h)
abbrev xX6_isSeed : tr_X := (cX6_isSeed, 1, RX6, (some .boolean), 1, shC, 81)
theorem cw_X6_isSeed : Cond.code yX6_isSeed cX6_isSeed 1 (some .boolean) ∈ tr_tbl := tr_in 1052 (by decide +kernel) rfl
theorem yk_X6_isSeed : tr_yk yX6_isSeed (xX6_isSeed) 1 := ⟨cw_X6_isSeed, in_X6, ⟨by decide +kernel, by decide +kernel, by decide +kernel⟩, Nat.le_of_ble_eq_true rfl⟩
theorem sc_X6_isSeed : Cond.static yX6_isSeed ∈ tr_tbl := tr_in 1051 (by decide +kernel) rfl
def mX6_isSeed' (p0 : Int32) : Option Int32 :=
  if p0 < (1 : Int32) then (
    some (0 : Int32)
  ) else (
    if (lg_cmp p0.toInt64 (2147483647 : Int64)) < 0 then (
      some (1 : Int32)
    ) else (
      some (0 : Int32)
    )
  )
def mX6_isSeed (p0 : Int32) : Int32 :=
  if p0 < (1 : Int32) then (
    (0 : Int32)
  ) else (
    if (lg_cmp p0.toInt64 (2147483647 : Int64)) < 0 then (
      (1 : Int32)
    ) else (
      (0 : Int32)
    )
  )
theorem mX6_isSeed_eq (p0 : Int32) : mX6_isSeed' p0 = some (mX6_isSeed p0) := by
  unfold mX6_isSeed' mX6_isSeed
  repeat' split
  all_goals rfl
set_option maxRecDepth 100000 in
set_option maxHeartbeats 4000000 in
theorem C_X6_isSeed (p0 : Int32) (M : tr_M) : tr_I yX6_isSeed (xX6_isSeed) [.int p0] M (some (.int (mX6_isSeed p0))) M := by
  refine tr_I.of (Z := fun q : Int32 => (some (.int (mX6_isSeed p0)) : Option Value) = some (.int q) ∧ M = M) pn_X6 rfl gdC (Nat.le_of_ble_eq_true rfl) (fun Wt => ?_) (mX6_isSeed_eq p0) ⟨rfl, rfl⟩
  unfold mX6_isSeed'
  refine tr_V.iload_n (i := 0) dX6_isSeed_0 rfl rfl ?_
  refine tr_V.iconst (v := (1 : Int32)) dX6_isSeed_1 (by decide) ?_
  refine tr_V.icmp_lt (tgt := 18) dX6_isSeed_2 (by decide) ?_ ?_
  · refine tr_V.iconst (v := (0 : Int32)) dX6_isSeed_18 (by decide) ?_
    exact tr_V.zret (by decide) dX6_isSeed_19 rfl (fun h => h)
  · refine tr_V.iload_n (i := 0) dX6_isSeed_5 rfl rfl ?_
    refine tr_V.i2l dX6_isSeed_6 ?_
    refine tr_V.ldc2 ct_X6_335 dX6_isSeed_7 ?_
    refine tr_V.lcmp dX6_isSeed_10 ?_
    refine tr_V.if_ge (tgt := 18) dX6_isSeed_11 (by decide) ?_ ?_
    · refine tr_V.iconst (v := (1 : Int32)) dX6_isSeed_14 (by decide) ?_
      refine tr_V.goto (tgt := 19) dX6_isSeed_15 (by decide) ?_
      exact tr_V.zret (by decide) dX6_isSeed_19 rfl (fun h => h)
    · refine tr_V.iconst (v := (0 : Int32)) dX6_isSeed_18 (by decide) ?_
      exact tr_V.zret (by decide) dX6_isSeed_19 rfl (fun h => h)
abbrev xX6_drawOrder : tr_X := (cX6_drawOrder, 8, RX6, (some .int), 2, shC, 81)
theorem cw_X6_drawOrder : Cond.code yX6_drawOrder cX6_drawOrder 8 (some .int) ∈ tr_tbl := tr_in 1057 (by decide +kernel) rfl
theorem yk_X6_drawOrder : tr_yk yX6_drawOrder (xX6_drawOrder) 2 := ⟨cw_X6_drawOrder, in_X6, ⟨by decide +kernel, by decide +kernel, by decide +kernel⟩, Nat.le_of_ble_eq_true rfl⟩
theorem iv_X6_drawOrder : Cond.instanceMethod yX6_drawOrder ∈ tr_tbl ∧ Cond.selects (yX6_drawOrder).cls yX6_drawOrder yX6_drawOrder ∈ tr_tbl := ⟨tr_in 1056 (by decide +kernel) rfl, tr_in 55 (by decide +kernel) rfl⟩
def mX6_drawOrder_l15 (p2 : Nat) (s3 : Int64 × Int32 × Int32 × tr_M) : Option ((Int64 × Int32 × Int32 × tr_M) ⊕ (Int32 × tr_M)) :=
  if s3.2.2.1 < (s3.2.2.2.1 26 0) then (
    Option.bind (some ((s3.1 * (48271 : Int64)) - (s3.1 * (48271 : Int64)) / (2147483647 : Int64) * (2147483647 : Int64))) (fun x4 =>
    Option.bind (tr_rml x4 (((s3.2.2.2.1 26 0) - s3.2.2.1).toInt64)) (fun q6 =>
    Option.bind (mX5_memberOf 26 s3.2.1 q6.toInt32 s3.2.2.2) (fun c7 =>
    Option.bind (tr_wr (tr_len shC p2) s3.2.2.2 p2 s3.2.2.1 c7) (fun M9 =>
    Option.bind (some (s3.2.1 &&& (((1 : Int32) <<< (c7 &&& 31)) ^^^ (-1 : Int32)))) (fun x11 =>
    some (.inl (x4, x11, (s3.2.2.1 + (1 : Int32)), M9))
    )
    )
    )
    )
    )
  ) else (
    some (.inr (s3.1.toInt32, s3.2.2.2))
  )
def mX6_drawOrder (p1 : Int32) (p2 : Nat) (M : tr_M) : Option (Int32 × tr_M) :=
  tr_loop (mX6_drawOrder_l15 p2) (p1.toInt64, (mX5_everything 26 M), (0 : Int32), M)
set_option maxRecDepth 100000 in
set_option maxHeartbeats 4000000 in
theorem C_X6_drawOrder (p1 : Int32) (p2 : Nat) (M : tr_M) (r : Int32 × tr_M) (h : mX6_drawOrder p1 p2 M = some r) : tr_I yX6_drawOrder (xX6_drawOrder) [.ref 1, .int p1, .ref p2] M (some (.int r.1)) r.2 := by
  refine tr_I.of (Z := fun q : Int32 × tr_M => (some (.int r.1) : Option Value) = some (.int q.1) ∧ r.2 = q.2) pn_X6 rfl gdC (Nat.le_of_ble_eq_true rfl) (fun Wt => ?_) h ⟨rfl, rfl⟩
  unfold mX6_drawOrder
  refine tr_V.iload_n (i := 1) dX6_drawOrder_0 rfl rfl ?_
  refine tr_V.i2l dX6_drawOrder_1 ?_
  refine tr_V.lstore_n (i := 3) dX6_drawOrder_2 rfl (Nat.le_of_ble_eq_true rfl) rfl ?_
  refine tr_V.aload_n (i := 0) dX6_drawOrder_3 rfl rfl ?_
  refine tr_V.getR (Nat.succ_pos _) fl_X6_43 shC_1 rfl dX6_drawOrder_4 ?_
  refine tr_V.callV (C_X5_everything 26 isW_26 M) yk_X5_everything iv_X5_everything ml_X6_341 shC_26 rfl ⟨rfl, Nat.le_of_ble_eq_true rfl⟩ rfl (Nat.le_of_ble_eq_true rfl) rfl dX6_drawOrder_7 ?_
  refine tr_V.istore (i := 5) dX6_drawOrder_10 (Nat.le_of_ble_eq_true rfl) rfl ?_
  refine tr_V.iconst (v := (0 : Int32)) dX6_drawOrder_12 (by decide) ?_
  refine tr_V.istore (i := 6) dX6_drawOrder_13 (Nat.le_of_ble_eq_true rfl) rfl ?_
  refine tr_V.loop (σ := Int64 × Int32 × Int32 × tr_M) (step := mX6_drawOrder_l15 p2) (L := fun s3 => [(0, some (.ref 1)), (2, some (.ref p2)), (3, some (.long s3.1)), (5, some (.int s3.2.1)), (6, some (.int s3.2.2.1))]) (Mf := fun s3 => s3.2.2.2) ?_ (p1.toInt64, (mX5_everything 26 M), (0 : Int32), M) ⟨rfl, rfl, rfl, rfl, rfl, trivial⟩
  intro s3
  refine tr_V.iload dX6_drawOrder_15 rfl ?_
  refine tr_V.aload_n (i := 0) dX6_drawOrder_17 rfl rfl ?_
  refine tr_V.getR (Nat.succ_pos _) fl_X6_43 shC_1 rfl dX6_drawOrder_18 ?_
  refine tr_V.getI fl_X6_136 shC_26 rfl dX6_drawOrder_21 ?_
  refine tr_V.icmp_ge (tgt := 85) dX6_drawOrder_24 (by decide) ?_ ?_
  · refine tr_V.lload_n (i := 3) dX6_drawOrder_27 rfl rfl ?_
    refine tr_V.ldc2 ct_X6_344 dX6_drawOrder_28 ?_
    refine tr_V.lmul dX6_drawOrder_31 ?_
    refine tr_V.ldc2 ct_X6_335 dX6_drawOrder_32 ?_
    refine tr_V.lremL dX6_drawOrder_35 (by decide) ?_
    refine tr_V.bd (fun x4 h5 => ?_)
    refine tr_V.nmJ h5 ?_
    refine tr_V.lstore_n (i := 3) dX6_drawOrder_36 rfl (Nat.le_of_ble_eq_true rfl) rfl ?_
    refine tr_V.aload_n (i := 0) dX6_drawOrder_37 rfl rfl ?_
    refine tr_V.getR (Nat.succ_pos _) fl_X6_43 shC_1 rfl dX6_drawOrder_38 ?_
    refine tr_V.iload dX6_drawOrder_41 rfl ?_
    refine tr_V.lload_n (i := 3) dX6_drawOrder_43 rfl rfl ?_
    refine tr_V.aload_n (i := 0) dX6_drawOrder_44 rfl rfl ?_
    refine tr_V.getR (Nat.succ_pos _) fl_X6_43 shC_1 rfl dX6_drawOrder_45 ?_
    refine tr_V.getI fl_X6_136 shC_26 rfl dX6_drawOrder_48 ?_
    refine tr_V.iload dX6_drawOrder_51 rfl ?_
    refine tr_V.isub dX6_drawOrder_53 ?_
    refine tr_V.i2l dX6_drawOrder_54 ?_
    refine tr_V.lrem dX6_drawOrder_55 (fun q6 => ?_)
    refine tr_V.l2i dX6_drawOrder_56 ?_
    refine tr_V.bd (fun c7 h8 => ?_)
    refine tr_V.callV (C_X5_memberOf 26 isW_26 s3.2.1 q6.toInt32 s3.2.2.2 _ h8) yk_X5_memberOf iv_X5_memberOf ml_X6_346 shC_26 rfl ⟨rfl, Nat.le_of_ble_eq_true rfl⟩ rfl (Nat.le_of_ble_eq_true rfl) rfl dX6_drawOrder_57 ?_
    refine tr_V.istore (i := 7) dX6_drawOrder_60 (Nat.le_of_ble_eq_true rfl) rfl ?_
    refine tr_V.aload_n (i := 2) dX6_drawOrder_62 rfl rfl ?_
    refine tr_V.iload dX6_drawOrder_63 rfl ?_
    refine tr_V.iload dX6_drawOrder_65 rfl ?_
    refine tr_V.bd (fun M9 h10 => ?_)
    refine tr_V.iastL h10 dX6_drawOrder_67 ?_
    refine tr_V.iload dX6_drawOrder_68 rfl ?_
    refine tr_V.iconst (v := (1 : Int32)) dX6_drawOrder_70 (by decide) ?_
    refine tr_V.iload dX6_drawOrder_71 rfl ?_
    refine tr_V.ishl dX6_drawOrder_73 ?_
    refine tr_V.iconst (v := (-1 : Int32)) dX6_drawOrder_74 (by decide) ?_
    refine tr_V.ixor dX6_drawOrder_75 ?_
    refine tr_V.iand dX6_drawOrder_76 ?_
    refine tr_V.bd (fun x11 h12 => ?_)
    refine tr_V.nmI h12 ?_
    refine tr_V.istore (i := 5) dX6_drawOrder_77 (Nat.le_of_ble_eq_true rfl) rfl ?_
    refine tr_V.iinc (cst := (1 : Int32)) dX6_drawOrder_79 rfl (by decide) rfl ?_
    refine tr_V.goto (tgt := 15) dX6_drawOrder_82 (by decide) ?_
    exact tr_V.to (fun h => h) ⟨rfl, rfl, rfl, rfl, rfl, trivial⟩
  · refine tr_V.lload_n (i := 3) dX6_drawOrder_85 rfl rfl ?_
    refine tr_V.l2i dX6_drawOrder_86 ?_
    exact tr_V.iret dX6_drawOrder_87 rfl (fun h => h)
abbrev xX6_draw : tr_X := (cX6_draw, 4, RX6, (some .int), 5, shC, 81)
theorem cw_X6_draw : Cond.code yX6_draw cX6_draw 4 (some .int) ∈ tr_tbl := tr_in 1049 (by decide +kernel) rfl
theorem yk_X6_draw : tr_yk yX6_draw (xX6_draw) 2 := ⟨cw_X6_draw, in_X6, ⟨by decide +kernel, by decide +kernel, by decide +kernel⟩, Nat.le_of_ble_eq_true rfl⟩
theorem iv_X6_draw : Cond.instanceMethod yX6_draw ∈ tr_tbl ∧ Cond.selects (yX6_draw).cls yX6_draw yX6_draw ∈ tr_tbl := ⟨tr_in 1047 (by decide +kernel) rfl, tr_in 1048 (by decide +kernel) rfl⟩
def mX6_draw (p1 : Int32) (p2 : Int32) (M : tr_M) : Option (Int32 × tr_M) :=
  if (mX6_isSeed p1) = 0 then (
    some ((-1 : Int32), M)
  ) else (
    if (mX6_isRow p2) = 0 then (
      some ((-1 : Int32), M)
    ) else (
      Option.bind (mX6_drawOrder p1 59 M) (fun c5 =>
      Option.bind (mX6_layOrder p2 59 c5.2) (fun c7 =>
      some (c5.1, c7)
      )
      )
    )
  )
set_option maxRecDepth 100000 in
set_option maxHeartbeats 4000000 in
theorem C_X6_draw (p1 : Int32) (p2 : Int32) (M : tr_M) (r : Int32 × tr_M) (h : mX6_draw p1 p2 M = some r) : tr_I yX6_draw (xX6_draw) [.ref 1, .int p1, .int p2] M (some (.int r.1)) r.2 := by
  refine tr_I.of (Z := fun q : Int32 × tr_M => (some (.int r.1) : Option Value) = some (.int q.1) ∧ r.2 = q.2) pn_X6 rfl gdC (Nat.le_of_ble_eq_true rfl) (fun Wt => ?_) h ⟨rfl, rfl⟩
  unfold mX6_draw
  refine tr_V.iload_n (i := 1) dX6_draw_0 rfl rfl ?_
  refine tr_V.callS (C_X6_isSeed p1 M) yk_X6_isSeed sc_X6_isSeed ml_X6_289 ⟨rfl, Nat.le_of_ble_eq_true rfl⟩ rfl (Nat.le_of_ble_eq_true rfl) rfl dX6_draw_1 ?_
  refine tr_V.if_eq (tgt := 14) dX6_draw_4 (by decide) ?_ ?_
  · refine tr_V.iconst (v := (-1 : Int32)) dX6_draw_14 (by decide) ?_
    exact tr_V.iret dX6_draw_15 rfl (fun h => h)
  · refine tr_V.iload_n (i := 2) dX6_draw_7 rfl rfl ?_
    refine tr_V.callS (C_X6_isRow p2 M) yk_X6_isRow sc_X6_isRow ml_X6_84 ⟨rfl, Nat.le_of_ble_eq_true rfl⟩ rfl (Nat.le_of_ble_eq_true rfl) rfl dX6_draw_8 ?_
    refine tr_V.if_ne (tgt := 16) dX6_draw_11 (by decide) ?_ ?_
    · refine tr_V.iconst (v := (-1 : Int32)) dX6_draw_14 (by decide) ?_
      exact tr_V.iret dX6_draw_15 rfl (fun h => h)
    · refine tr_V.aload_n (i := 0) dX6_draw_16 rfl rfl ?_
      refine tr_V.iload_n (i := 1) dX6_draw_17 rfl rfl ?_
      refine tr_V.aload_n (i := 0) dX6_draw_18 rfl rfl ?_
      refine tr_V.getR (Nat.succ_pos _) fl_X6_51 shC_1 rfl dX6_draw_19 ?_
      refine tr_V.bd (fun c5 h6 => ?_)
      refine tr_V.callV (C_X6_drawOrder p1 59 M _ h6) yk_X6_drawOrder iv_X6_drawOrder ml_X6_292 shC_1 rfl ⟨rfl, Nat.le_of_ble_eq_true rfl⟩ rfl (Nat.le_of_ble_eq_true rfl) rfl dX6_draw_22 ?_
      refine tr_V.istore_n (i := 3) dX6_draw_25 rfl (Nat.le_of_ble_eq_true rfl) rfl ?_
      refine tr_V.aload_n (i := 0) dX6_draw_26 rfl rfl ?_
      refine tr_V.iload_n (i := 2) dX6_draw_27 rfl rfl ?_
      refine tr_V.aload_n (i := 0) dX6_draw_28 rfl rfl ?_
      refine tr_V.getR (Nat.succ_pos _) fl_X6_51 shC_1 rfl dX6_draw_29 ?_
      refine tr_V.bd (fun c7 h8 => ?_)
      refine tr_V.callV (C_X6_layOrder p2 59 c5.2 _ h8) yk_X6_layOrder iv_X6_layOrder ml_X6_221 shC_1 rfl ⟨rfl, Nat.le_of_ble_eq_true rfl⟩ rfl (Nat.le_of_ble_eq_true rfl) rfl dX6_draw_32 ?_
      refine tr_V.iload_n (i := 3) dX6_draw_35 rfl rfl ?_
      exact tr_V.iret dX6_draw_36 rfl (fun h => h)
abbrev xX6_lots : tr_X := (cX6_lots, 9, RX6, (some .int), 3, shC, 81)
theorem cw_X6_lots : Cond.code yX6_lots cX6_lots 9 (some .int) ∈ tr_tbl := tr_in 1067 (by decide +kernel) rfl
theorem yk_X6_lots : tr_yk yX6_lots (xX6_lots) 3 := ⟨cw_X6_lots, in_X6, ⟨by decide +kernel, by decide +kernel, by decide +kernel⟩, Nat.le_of_ble_eq_true rfl⟩
theorem iv_X6_lots : Cond.instanceMethod yX6_lots ∈ tr_tbl ∧ Cond.selects (yX6_lots).cls yX6_lots yX6_lots ∈ tr_tbl := ⟨tr_in 1065 (by decide +kernel) rfl, tr_in 1066 (by decide +kernel) rfl⟩
def mX6_lots_l41 (p1 : Int32) (p2 : Int32) (s5 : Int32 × Int32 × Int32 × Int32 × tr_M) : Option ((Int32 × Int32 × Int32 × Int32 × tr_M) ⊕ (Int32 × tr_M)) :=
  if s5.2.2.2.1 < p2 then (
    Option.bind (mX6_drawOrder s5.1 59 s5.2.2.2.2) (fun c6 =>
    Option.bind (mX5_firstBroken 26 59 c6.2) (fun c8 =>
    if c8.1 = (-9 : Int32) then (
      Option.bind (mX5_measured 26 p1 59 c8.2) (fun c10 =>
      if s5.2.1 = 0 then (
        some (.inl (c6.1, (s5.2.1 + (1 : Int32)), c10, (s5.2.2.2.1 + (1 : Int32)), c8.2))
      ) else (
        if c10 < s5.2.2.1 then (
          some (.inl (c6.1, (s5.2.1 + (1 : Int32)), c10, (s5.2.2.2.1 + (1 : Int32)), c8.2))
        ) else (
          some (.inl (c6.1, (s5.2.1 + (1 : Int32)), s5.2.2.1, (s5.2.2.2.1 + (1 : Int32)), c8.2))
        )
      )
      )
    ) else (
      some (.inl (c6.1, s5.2.1, s5.2.2.1, (s5.2.2.2.1 + (1 : Int32)), c8.2))
    )
    )
    )
  ) else (
    Option.bind (some (tr_st s5.2.2.2.2 1 12 s5.2.2.1)) (fun M12 =>
    some (.inr (s5.2.1, M12))
    )
  )
def mX6_lots (p1 : Int32) (p2 : Int32) (p3 : Int32) (M : tr_M) : Option (Int32 × tr_M) :=
  if (mX6_isMeasure p1) = 0 then (
    some ((-1 : Int32), M)
  ) else (
    if p2 < (1 : Int32) then (
      some ((-1 : Int32), M)
    ) else (
      if (200 : Int32) < p2 then (
        some ((-1 : Int32), M)
      ) else (
        if (mX6_isSeed p3) = 0 then (
          some ((-1 : Int32), M)
        ) else (
          tr_loop (mX6_lots_l41 p1 p2) (p3, (0 : Int32), (-9 : Int32), (0 : Int32), M)
        )
      )
    )
  )
set_option maxRecDepth 100000 in
set_option maxHeartbeats 4000000 in
theorem C_X6_lots (p1 : Int32) (p2 : Int32) (p3 : Int32) (M : tr_M) (r : Int32 × tr_M) (h : mX6_lots p1 p2 p3 M = some r) : tr_I yX6_lots (xX6_lots) [.ref 1, .int p1, .int p2, .int p3] M (some (.int r.1)) r.2 := by
  refine tr_I.of (Z := fun q : Int32 × tr_M => (some (.int r.1) : Option Value) = some (.int q.1) ∧ r.2 = q.2) pn_X6 rfl gdC (Nat.le_of_ble_eq_true rfl) (fun Wt => ?_) h ⟨rfl, rfl⟩
  unfold mX6_lots
  refine tr_V.iload_n (i := 1) dX6_lots_0 rfl rfl ?_
  refine tr_V.callS (C_X6_isMeasure p1 M) yk_X6_isMeasure sc_X6_isMeasure ml_X6_184 ⟨rfl, Nat.le_of_ble_eq_true rfl⟩ rfl (Nat.le_of_ble_eq_true rfl) rfl dX6_lots_1 ?_
  refine tr_V.if_eq (tgt := 26) dX6_lots_4 (by decide) ?_ ?_
  · refine tr_V.iconst (v := (-1 : Int32)) dX6_lots_26 (by decide) ?_
    exact tr_V.iret dX6_lots_27 rfl (fun h => h)
  · refine tr_V.iload_n (i := 2) dX6_lots_7 rfl rfl ?_
    refine tr_V.iconst (v := (1 : Int32)) dX6_lots_8 (by decide) ?_
    refine tr_V.icmp_lt (tgt := 26) dX6_lots_9 (by decide) ?_ ?_
    · refine tr_V.iconst (v := (-1 : Int32)) dX6_lots_26 (by decide) ?_
      exact tr_V.iret dX6_lots_27 rfl (fun h => h)
    · refine tr_V.iload_n (i := 2) dX6_lots_12 rfl rfl ?_
      refine tr_V.sipush (v := (200 : Int32)) dX6_lots_13 (by decide) ?_
      refine tr_V.icmp_gt (tgt := 26) dX6_lots_16 (by decide) ?_ ?_
      · refine tr_V.iconst (v := (-1 : Int32)) dX6_lots_26 (by decide) ?_
        exact tr_V.iret dX6_lots_27 rfl (fun h => h)
      · refine tr_V.iload_n (i := 3) dX6_lots_19 rfl rfl ?_
        refine tr_V.callS (C_X6_isSeed p3 M) yk_X6_isSeed sc_X6_isSeed ml_X6_289 ⟨rfl, Nat.le_of_ble_eq_true rfl⟩ rfl (Nat.le_of_ble_eq_true rfl) rfl dX6_lots_20 ?_
        refine tr_V.if_ne (tgt := 28) dX6_lots_23 (by decide) ?_ ?_
        · refine tr_V.iconst (v := (-1 : Int32)) dX6_lots_26 (by decide) ?_
          exact tr_V.iret dX6_lots_27 rfl (fun h => h)
        · refine tr_V.iload_n (i := 3) dX6_lots_28 rfl rfl ?_
          refine tr_V.istore (i := 4) dX6_lots_29 (Nat.le_of_ble_eq_true rfl) rfl ?_
          refine tr_V.iconst (v := (0 : Int32)) dX6_lots_31 (by decide) ?_
          refine tr_V.istore (i := 5) dX6_lots_32 (Nat.le_of_ble_eq_true rfl) rfl ?_
          refine tr_V.bipush (v := (-9 : Int32)) dX6_lots_34 (by decide) ?_
          refine tr_V.istore (i := 6) dX6_lots_36 (Nat.le_of_ble_eq_true rfl) rfl ?_
          refine tr_V.iconst (v := (0 : Int32)) dX6_lots_38 (by decide) ?_
          refine tr_V.istore (i := 7) dX6_lots_39 (Nat.le_of_ble_eq_true rfl) rfl ?_
          refine tr_V.loop (σ := Int32 × Int32 × Int32 × Int32 × tr_M) (step := mX6_lots_l41 p1 p2) (L := fun s5 => [(0, some (.ref 1)), (1, some (.int p1)), (2, some (.int p2)), (4, some (.int s5.1)), (5, some (.int s5.2.1)), (6, some (.int s5.2.2.1)), (7, some (.int s5.2.2.2.1))]) (Mf := fun s5 => s5.2.2.2.2) ?_ (p3, (0 : Int32), (-9 : Int32), (0 : Int32), M) ⟨rfl, rfl, rfl, rfl, rfl, rfl, rfl, trivial⟩
          intro s5
          refine tr_V.iload dX6_lots_41 rfl ?_
          refine tr_V.iload_n (i := 2) dX6_lots_43 rfl rfl ?_
          refine tr_V.icmp_ge (tgt := 117) dX6_lots_44 (by decide) ?_ ?_
          · refine tr_V.aload_n (i := 0) dX6_lots_47 rfl rfl ?_
            refine tr_V.iload dX6_lots_48 rfl ?_
            refine tr_V.aload_n (i := 0) dX6_lots_50 rfl rfl ?_
            refine tr_V.getR (Nat.succ_pos _) fl_X6_51 shC_1 rfl dX6_lots_51 ?_
            refine tr_V.bd (fun c6 h7 => ?_)
            refine tr_V.callV (C_X6_drawOrder s5.1 59 s5.2.2.2.2 _ h7) yk_X6_drawOrder iv_X6_drawOrder ml_X6_292 shC_1 rfl ⟨rfl, Nat.le_of_ble_eq_true rfl⟩ rfl (Nat.le_of_ble_eq_true rfl) rfl dX6_lots_54 ?_
            refine tr_V.istore (i := 4) dX6_lots_57 (Nat.le_of_ble_eq_true rfl) rfl ?_
            refine tr_V.aload_n (i := 0) dX6_lots_59 rfl rfl ?_
            refine tr_V.getR (Nat.succ_pos _) fl_X6_43 shC_1 rfl dX6_lots_60 ?_
            refine tr_V.aload_n (i := 0) dX6_lots_63 rfl rfl ?_
            refine tr_V.getR (Nat.succ_pos _) fl_X6_51 shC_1 rfl dX6_lots_64 ?_
            refine tr_V.bd (fun c8 h9 => ?_)
            refine tr_V.callV (C_X5_firstBroken 26 isW_26 59 c6.2 _ h9) yk_X5_firstBroken iv_X5_firstBroken ml_X6_194 shC_26 rfl ⟨rfl, Nat.le_of_ble_eq_true rfl⟩ rfl (Nat.le_of_ble_eq_true rfl) rfl dX6_lots_67 ?_
            refine tr_V.bipush (v := (-9 : Int32)) dX6_lots_70 (by decide) ?_
            refine tr_V.icmp_eq (tgt := 78) dX6_lots_72 (by decide) ?_ ?_
            · refine tr_V.aload_n (i := 0) dX6_lots_78 rfl rfl ?_
              refine tr_V.getR (Nat.succ_pos _) fl_X6_43 shC_1 rfl dX6_lots_79 ?_
              refine tr_V.iload_n (i := 1) dX6_lots_82 rfl rfl ?_
              refine tr_V.aload_n (i := 0) dX6_lots_83 rfl rfl ?_
              refine tr_V.getR (Nat.succ_pos _) fl_X6_51 shC_1 rfl dX6_lots_84 ?_
              refine tr_V.bd (fun c10 h11 => ?_)
              refine tr_V.callV (C_X5_measured 26 isW_26 p1 59 c8.2 _ h11) yk_X5_measured iv_X5_measured ml_X6_190 shC_26 rfl ⟨rfl, Nat.le_of_ble_eq_true rfl⟩ rfl (Nat.le_of_ble_eq_true rfl) rfl dX6_lots_87 ?_
              refine tr_V.istore (i := 8) dX6_lots_90 (Nat.le_of_ble_eq_true rfl) rfl ?_
              refine tr_V.iload dX6_lots_92 rfl ?_
              refine tr_V.if_eq (tgt := 104) dX6_lots_94 (by decide) ?_ ?_
              · refine tr_V.iload dX6_lots_104 rfl ?_
                refine tr_V.istore (i := 6) dX6_lots_106 (Nat.le_of_ble_eq_true rfl) rfl ?_
                refine tr_V.iinc (cst := (1 : Int32)) dX6_lots_108 rfl (by decide) rfl ?_
                refine tr_V.iinc (cst := (1 : Int32)) dX6_lots_111 rfl (by decide) rfl ?_
                refine tr_V.goto (tgt := 41) dX6_lots_114 (by decide) ?_
                exact tr_V.to (fun h => h) ⟨rfl, rfl, rfl, rfl, rfl, rfl, rfl, trivial⟩
              · refine tr_V.iload dX6_lots_97 rfl ?_
                refine tr_V.iload dX6_lots_99 rfl ?_
                refine tr_V.icmp_ge (tgt := 108) dX6_lots_101 (by decide) ?_ ?_
                · refine tr_V.iload dX6_lots_104 rfl ?_
                  refine tr_V.istore (i := 6) dX6_lots_106 (Nat.le_of_ble_eq_true rfl) rfl ?_
                  refine tr_V.iinc (cst := (1 : Int32)) dX6_lots_108 rfl (by decide) rfl ?_
                  refine tr_V.iinc (cst := (1 : Int32)) dX6_lots_111 rfl (by decide) rfl ?_
                  refine tr_V.goto (tgt := 41) dX6_lots_114 (by decide) ?_
                  exact tr_V.to (fun h => h) ⟨rfl, rfl, rfl, rfl, rfl, rfl, rfl, trivial⟩
                · refine tr_V.iinc (cst := (1 : Int32)) dX6_lots_108 rfl (by decide) rfl ?_
                  refine tr_V.iinc (cst := (1 : Int32)) dX6_lots_111 rfl (by decide) rfl ?_
                  refine tr_V.goto (tgt := 41) dX6_lots_114 (by decide) ?_
                  exact tr_V.to (fun h => h) ⟨rfl, rfl, rfl, rfl, rfl, rfl, rfl, trivial⟩
            · refine tr_V.goto (tgt := 111) dX6_lots_75 (by decide) ?_
              refine tr_V.iinc (cst := (1 : Int32)) dX6_lots_111 rfl (by decide) rfl ?_
              refine tr_V.goto (tgt := 41) dX6_lots_114 (by decide) ?_
              exact tr_V.to (fun h => h) ⟨rfl, rfl, rfl, rfl, rfl, rfl, rfl, trivial⟩
          · refine tr_V.aload_n (i := 0) dX6_lots_117 rfl rfl ?_
            refine tr_V.iload dX6_lots_118 rfl ?_
            refine tr_V.bd (fun M12 h13 => ?_)
            refine tr_V.putI fl_X6_64 shC_1 rfl dX6_lots_120 h13 ?_
            refine tr_V.iload dX6_lots_123 rfl ?_
            exact tr_V.iret dX6_lots_125 rfl (fun h => h)
abbrev xX6_average : tr_X := (cX6_average, 1, RX6, (some .int), 2, shC, 81)
theorem cw_X6_average : Cond.code yX6_average cX6_average 1 (some .int) ∈ tr_tbl := tr_in 1071 (by decide +kernel) rfl
theorem yk_X6_average : tr_yk yX6_average (xX6_average) 0 := ⟨cw_X6_average, in_X6, ⟨by decide +kernel, by decide +kernel, by decide +kernel⟩, Nat.le_of_ble_eq_true rfl⟩
theorem iv_X6_average : Cond.instanceMethod yX6_average ∈ tr_tbl ∧ Cond.selects (yX6_average).cls yX6_average yX6_average ∈ tr_tbl := ⟨tr_in 1069 (by decide +kernel) rfl, tr_in 1070 (by decide +kernel) rfl⟩
def mX6_average  (M : tr_M) : Option (Int32 × tr_M) :=
  if (M.1 26 0) = 0 then (
    Option.bind (mX6_found (4 : Int32) M) (fun c1 =>
    some (c1.1, c1.2)
    )
  ) else (
    Option.bind (mX5_allWeight 26 M) (fun c3 =>
    Option.bind (mX6_tellFraction (c3.toInt64 * ((M.1 26 0) + (1 : Int32)).toInt64) (3 : Int64) M) (fun c5 =>
    some ((1 : Int32), c5)
    )
    )
  )
set_option maxRecDepth 100000 in
set_option maxHeartbeats 4000000 in
theorem C_X6_average  (M : tr_M) (r : Int32 × tr_M) (h : mX6_average M = some r) : tr_I yX6_average (xX6_average) [.ref 1] M (some (.int r.1)) r.2 := by
  refine tr_I.of (Z := fun q : Int32 × tr_M => (some (.int r.1) : Option Value) = some (.int q.1) ∧ r.2 = q.2) pn_X6 rfl gdC (Nat.le_of_ble_eq_true rfl) (fun Wt => ?_) h ⟨rfl, rfl⟩
  unfold mX6_average
  refine tr_V.aload_n (i := 0) dX6_average_0 rfl rfl ?_
  refine tr_V.getR (Nat.succ_pos _) fl_X6_43 shC_1 rfl dX6_average_1 ?_
  refine tr_V.getI fl_X6_136 shC_26 rfl dX6_average_4 ?_
  refine tr_V.if_ne (tgt := 16) dX6_average_7 (by decide) ?_ ?_
  · refine tr_V.aload_n (i := 0) dX6_average_10 rfl rfl ?_
    refine tr_V.iconst (v := (4 : Int32)) dX6_average_11 (by decide) ?_
    refine tr_V.bd (fun c1 h2 => ?_)
    refine tr_V.callV (C_X6_found (4 : Int32) M _ h2) yk_X6_found iv_X6_found ml_X6_88 shC_1 rfl ⟨rfl, Nat.le_of_ble_eq_true rfl⟩ rfl (Nat.le_of_ble_eq_true rfl) rfl dX6_average_12 ?_
    exact tr_V.iret dX6_average_15 rfl (fun h => h)
  · refine tr_V.aload_n (i := 0) dX6_average_16 rfl rfl ?_
    refine tr_V.aload_n (i := 0) dX6_average_17 rfl rfl ?_
    refine tr_V.getR (Nat.succ_pos _) fl_X6_43 shC_1 rfl dX6_average_18 ?_
    refine tr_V.bd (fun c3 h4 => ?_)
    refine tr_V.callV (C_X5_allWeight 26 isW_26 M _ h4) yk_X5_allWeight iv_X5_allWeight ml_X6_295 shC_26 rfl ⟨rfl, Nat.le_of_ble_eq_true rfl⟩ rfl (Nat.le_of_ble_eq_true rfl) rfl dX6_average_21 ?_
    refine tr_V.i2l dX6_average_24 ?_
    refine tr_V.aload_n (i := 0) dX6_average_25 rfl rfl ?_
    refine tr_V.getR (Nat.succ_pos _) fl_X6_43 shC_1 rfl dX6_average_26 ?_
    refine tr_V.getI fl_X6_136 shC_26 rfl dX6_average_29 ?_
    refine tr_V.iconst (v := (1 : Int32)) dX6_average_32 (by decide) ?_
    refine tr_V.iadd dX6_average_33 ?_
    refine tr_V.i2l dX6_average_34 ?_
    refine tr_V.lmul dX6_average_35 ?_
    refine tr_V.ldc2 ct_X6_298 dX6_average_36 ?_
    refine tr_V.bd (fun c5 h6 => ?_)
    refine tr_V.callV (C_X6_tellFraction (c3.toInt64 * ((M.1 26 0) + (1 : Int32)).toInt64) (3 : Int64) M _ h6) yk_X6_tellFraction iv_X6_tellFraction ml_X6_252 shC_1 rfl ⟨rfl, Nat.le_of_ble_eq_true rfl⟩ rfl (Nat.le_of_ble_eq_true rfl) rfl dX6_average_39 ?_
    refine tr_V.iconst (v := (1 : Int32)) dX6_average_42 (by decide) ?_
    exact tr_V.iret dX6_average_43 rfl (fun h => h)
abbrev xX6_imageSize : tr_X := (cX6_imageSize, 1, RX6, (some .int), 1, shC, 81)
theorem cw_X6_imageSize : Cond.code yX6_imageSize cX6_imageSize 1 (some .int) ∈ tr_tbl := tr_in 1084 (by decide +kernel) rfl
theorem yk_X6_imageSize : tr_yk yX6_imageSize (xX6_imageSize) 0 := ⟨cw_X6_imageSize, in_X6, ⟨by decide +kernel, by decide +kernel, by decide +kernel⟩, Nat.le_of_ble_eq_true rfl⟩
theorem iv_X6_imageSize : Cond.instanceMethod yX6_imageSize ∈ tr_tbl ∧ Cond.selects (yX6_imageSize).cls yX6_imageSize yX6_imageSize ∈ tr_tbl := ⟨tr_in 1083 (by decide +kernel) rfl, tr_in 56 (by decide +kernel) rfl⟩
def mX6_imageSize'  (M : tr_M) : Option Int32 :=
  some ((((M.1 26 0) * ((M.1 26 0) - (1 : Int32))) / (2 : Int32)) + (1 : Int32))
def mX6_imageSize  (M : tr_M) : Int32 :=
  ((((M.1 26 0) * ((M.1 26 0) - (1 : Int32))) / (2 : Int32)) + (1 : Int32))
theorem mX6_imageSize_eq  (M : tr_M) : mX6_imageSize' M = some (mX6_imageSize M) := by
  unfold mX6_imageSize' mX6_imageSize
  rfl
set_option maxRecDepth 100000 in
set_option maxHeartbeats 4000000 in
theorem C_X6_imageSize  (M : tr_M) : tr_I yX6_imageSize (xX6_imageSize) [.ref 1] M (some (.int (mX6_imageSize M))) M := by
  refine tr_I.of (Z := fun q : Int32 => (some (.int (mX6_imageSize M)) : Option Value) = some (.int q) ∧ M = M) pn_X6 rfl gdC (Nat.le_of_ble_eq_true rfl) (fun Wt => ?_) (mX6_imageSize_eq M) ⟨rfl, rfl⟩
  unfold mX6_imageSize'
  refine tr_V.aload_n (i := 0) dX6_imageSize_0 rfl rfl ?_
  refine tr_V.getR (Nat.succ_pos _) fl_X6_43 shC_1 rfl dX6_imageSize_1 ?_
  refine tr_V.getI fl_X6_136 shC_26 rfl dX6_imageSize_4 ?_
  refine tr_V.aload_n (i := 0) dX6_imageSize_7 rfl rfl ?_
  refine tr_V.getR (Nat.succ_pos _) fl_X6_43 shC_1 rfl dX6_imageSize_8 ?_
  refine tr_V.getI fl_X6_136 shC_26 rfl dX6_imageSize_11 ?_
  refine tr_V.iconst (v := (1 : Int32)) dX6_imageSize_14 (by decide) ?_
  refine tr_V.isub dX6_imageSize_15 ?_
  refine tr_V.imul dX6_imageSize_16 ?_
  refine tr_V.iconst (v := (2 : Int32)) dX6_imageSize_17 (by decide) ?_
  refine tr_V.idivL dX6_imageSize_18 (by decide) ?_
  refine tr_V.iconst (v := (1 : Int32)) dX6_imageSize_19 (by decide) ?_
  refine tr_V.iadd dX6_imageSize_20 ?_
  exact tr_V.iret dX6_imageSize_21 rfl (fun h => h)
abbrev xX6_image : tr_X := (cX6_image, 6, RX6, (some .int), 4, shC, 81)
theorem cw_X6_image : Cond.code yX6_image cX6_image 6 (some .int) ∈ tr_tbl := tr_in 1080 (by decide +kernel) rfl
theorem yk_X6_image : tr_yk yX6_image (xX6_image) 1 := ⟨cw_X6_image, in_X6, ⟨by decide +kernel, by decide +kernel, by decide +kernel⟩, Nat.le_of_ble_eq_true rfl⟩
theorem iv_X6_image : Cond.instanceMethod yX6_image ∈ tr_tbl ∧ Cond.selects (yX6_image).cls yX6_image yX6_image ∈ tr_tbl := ⟨tr_in 1078 (by decide +kernel) rfl, tr_in 1079 (by decide +kernel) rfl⟩
def mX6_image_l48 (p1 : Int32) (s10 : Int32 × Int32 × tr_M) (s11 : Int32 × Int32 × tr_M) : Option ((Int32 × Int32 × tr_M) ⊕ ((Int32 × Int32 × tr_M) ⊕ (Int32 × tr_M))) :=
  if s11.2.1 < (s11.2.2.1 26 0) then (
    Option.bind (tr_ra 6 (fun i => 62 + 2 * i) p1) (fun r12 =>
    Option.bind (tr_ra 10 (fun i => 28 + i) s10.2.1) (fun r14 =>
    Option.bind (tr_rd 10 s11.2.2 r14 s11.2.1) (fun a16 =>
    Option.bind (tr_wr (tr_len shC (r12 + 1)) s11.2.2 (r12 + 1) s11.1 a16) (fun M18 =>
    some (.inl ((s11.1 + (1 : Int32)), (s11.2.1 + (1 : Int32)), M18))
    )
    )
    )
    )
  ) else (
    some (.inr (.inl (s11.1, (s10.2.1 + (1 : Int32)), s11.2.2)))
  )
def mX6_image_l30 (p1 : Int32) (s10 : Int32 × Int32 × tr_M) : Option ((Int32 × Int32 × tr_M) ⊕ (Int32 × tr_M)) :=
  if s10.2.1 < (s10.2.2.1 26 0) then (
    tr_loop (mX6_image_l48 p1 s10) (s10.1, (s10.2.1 + (1 : Int32)), s10.2.2)
  ) else (
    some (.inr (s10.1, s10.2.2))
  )
def mX6_image (p1 : Int32) (M : tr_M) : Option (Int32 × tr_M) :=
  if (mX6_isRow p1) = 0 then (
    some ((-1 : Int32), M)
  ) else (
    Option.bind (tr_ra 6 (fun i => 62 + 2 * i) p1) (fun r5 =>
    Option.bind (mX1_make r5 (mX6_imageSize M) (0 : Int32) M) (fun c7 =>
    Option.bind (show Option (Int32 × tr_M) from
      tr_loop (mX6_image_l30 p1) ((0 : Int32), (0 : Int32), c7)
    ) (fun (v9 : Int32 × tr_M) =>
      Option.bind (tr_ra 6 (fun i => 62 + 2 * i) p1) (fun r20 =>
      Option.bind (tr_wr (tr_len shC (r20 + 1)) v9.2 (r20 + 1) v9.1 (v9.2.1 26 2)) (fun M22 =>
      some ((mX6_imageSize M), M22)
      )
      )
    )
    )
    )
  )
set_option maxRecDepth 100000 in
set_option maxHeartbeats 4000000 in
theorem C_X6_image (p1 : Int32) (M : tr_M) (r : Int32 × tr_M) (h : mX6_image p1 M = some r) : tr_I yX6_image (xX6_image) [.ref 1, .int p1] M (some (.int r.1)) r.2 := by
  refine tr_I.of (Z := fun q : Int32 × tr_M => (some (.int r.1) : Option Value) = some (.int q.1) ∧ r.2 = q.2) pn_X6 rfl gdC (Nat.le_of_ble_eq_true rfl) (fun Wt => ?_) h ⟨rfl, rfl⟩
  unfold mX6_image
  refine tr_V.iload_n (i := 1) dX6_image_0 rfl rfl ?_
  refine tr_V.callS (C_X6_isRow p1 M) yk_X6_isRow sc_X6_isRow ml_X6_84 ⟨rfl, Nat.le_of_ble_eq_true rfl⟩ rfl (Nat.le_of_ble_eq_true rfl) rfl dX6_image_1 ?_
  refine tr_V.if_ne (tgt := 9) dX6_image_4 (by decide) ?_ ?_
  · refine tr_V.iconst (v := (-1 : Int32)) dX6_image_7 (by decide) ?_
    exact tr_V.iret dX6_image_8 rfl (fun h => h)
  · refine tr_V.aload_n (i := 0) dX6_image_9 rfl rfl ?_
    refine tr_V.callV (C_X6_imageSize M) yk_X6_imageSize iv_X6_imageSize ml_X6_300 shC_1 rfl ⟨rfl, Nat.le_of_ble_eq_true rfl⟩ rfl (Nat.le_of_ble_eq_true rfl) rfl dX6_image_10 ?_
    refine tr_V.istore_n (i := 2) dX6_image_13 rfl (Nat.le_of_ble_eq_true rfl) rfl ?_
    refine tr_V.aload_n (i := 0) dX6_image_14 rfl rfl ?_
    refine tr_V.getR (Nat.succ_pos _) fl_X6_11 shC_1 rfl dX6_image_15 ?_
    refine tr_V.iload_n (i := 1) dX6_image_18 rfl rfl ?_
    refine tr_V.bd (fun r5 h6 => ?_)
    refine tr_V.aald (ty := .object RX1) h6 shC_2 (isL_pos (isL_2 h6)) (fun _ => rfl) rfl dX6_image_19 ?_
    refine tr_V.iload_n (i := 2) dX6_image_20 rfl rfl ?_
    refine tr_V.iconst (v := (0 : Int32)) dX6_image_21 (by decide) ?_
    refine tr_V.bd (fun c7 h8 => ?_)
    refine tr_V.callV (C_X1_make r5 (isL_2 h6) (mX6_imageSize M) (0 : Int32) M _ h8) yk_X1_make iv_X1_make ml_X6_92 (shL (isL_2 h6)) rfl ⟨rfl, Nat.le_of_ble_eq_true rfl⟩ rfl (Nat.le_of_ble_eq_true rfl) rfl dX6_image_22 ?_
    refine tr_V.iconst (v := (0 : Int32)) dX6_image_25 (by decide) ?_
    refine tr_V.istore_n (i := 3) dX6_image_26 rfl (Nat.le_of_ble_eq_true rfl) rfl ?_
    refine tr_V.iconst (v := (0 : Int32)) dX6_image_27 (by decide) ?_
    refine tr_V.istore (i := 4) dX6_image_28 (Nat.le_of_ble_eq_true rfl) rfl ?_
    refine tr_V.seq (τ := Int32 × tr_M) (pc' := 99) (L := fun v9 => [(0, some (.ref 1)), (1, some (.int p1)), (2, some (.int (mX6_imageSize M))), (3, some (.int v9.1))]) (S := fun v9 => []) (Mf := fun v9 => v9.2) ?_ ?_
    · refine tr_V.loop (σ := Int32 × Int32 × tr_M) (step := mX6_image_l30 p1) (L := fun s10 => [(0, some (.ref 1)), (1, some (.int p1)), (2, some (.int (mX6_imageSize M))), (3, some (.int s10.1)), (4, some (.int s10.2.1))]) (Mf := fun s10 => s10.2.2) ?_ ((0 : Int32), (0 : Int32), c7) ⟨rfl, rfl, rfl, rfl, rfl, trivial⟩
      intro s10
      refine tr_V.iload dX6_image_30 rfl ?_
      refine tr_V.aload_n (i := 0) dX6_image_32 rfl rfl ?_
      refine tr_V.getR (Nat.succ_pos _) fl_X6_43 shC_1 rfl dX6_image_33 ?_
      refine tr_V.getI fl_X6_136 shC_26 rfl dX6_image_36 ?_
      refine tr_V.icmp_ge (tgt := 99) dX6_image_39 (by decide) ?_ ?_
      · refine tr_V.iload dX6_image_42 rfl ?_
        refine tr_V.iconst (v := (1 : Int32)) dX6_image_44 (by decide) ?_
        refine tr_V.iadd dX6_image_45 ?_
        refine tr_V.istore (i := 5) dX6_image_46 (Nat.le_of_ble_eq_true rfl) rfl ?_
        refine tr_V.loop (σ := Int32 × Int32 × tr_M) (step := mX6_image_l48 p1 s10) (L := fun s11 => [(0, some (.ref 1)), (1, some (.int p1)), (2, some (.int (mX6_imageSize M))), (3, some (.int s11.1)), (4, some (.int s10.2.1)), (5, some (.int s11.2.1))]) (Mf := fun s11 => s11.2.2) ?_ (s10.1, (s10.2.1 + (1 : Int32)), s10.2.2) ⟨rfl, rfl, rfl, rfl, rfl, rfl, trivial⟩
        intro s11
        refine tr_V.iload dX6_image_48 rfl ?_
        refine tr_V.aload_n (i := 0) dX6_image_50 rfl rfl ?_
        refine tr_V.getR (Nat.succ_pos _) fl_X6_43 shC_1 rfl dX6_image_51 ?_
        refine tr_V.getI fl_X6_136 shC_26 rfl dX6_image_54 ?_
        refine tr_V.icmp_ge (tgt := 93) dX6_image_57 (by decide) ?_ ?_
        · refine tr_V.aload_n (i := 0) dX6_image_60 rfl rfl ?_
          refine tr_V.getR (Nat.succ_pos _) fl_X6_11 shC_1 rfl dX6_image_61 ?_
          refine tr_V.iload_n (i := 1) dX6_image_64 rfl rfl ?_
          refine tr_V.bd (fun r12 h13 => ?_)
          refine tr_V.aald (ty := .object RX1) h13 shC_2 (isL_pos (isL_2 h13)) (fun _ => rfl) rfl dX6_image_65 ?_
          refine tr_V.getR (Nat.succ_pos _) fl_X6_99 (shL (isL_2 h13)) rfl dX6_image_66 ?_
          refine tr_V.iload_n (i := 3) dX6_image_69 rfl rfl ?_
          refine tr_V.aload_n (i := 0) dX6_image_70 rfl rfl ?_
          refine tr_V.getR (Nat.succ_pos _) fl_X6_43 shC_1 rfl dX6_image_71 ?_
          refine tr_V.getR (Nat.succ_pos _) fl_X6_142 shC_26 rfl dX6_image_74 ?_
          refine tr_V.iload dX6_image_77 rfl ?_
          refine tr_V.bd (fun r14 h15 => ?_)
          refine tr_V.aald (ty := .array .int) h15 shC_27 (tr_ra_pos h15 (by omega)) (fun _ => rfl) rfl dX6_image_79 ?_
          refine tr_V.iload dX6_image_80 rfl ?_
          refine tr_V.bd (fun a16 h17 => ?_)
          refine tr_V.iald h17 (shW_in isW_26 h15) dX6_image_82 ?_
          refine tr_V.bd (fun M18 h19 => ?_)
          refine tr_V.iastL h19 dX6_image_83 ?_
          refine tr_V.iinc (cst := (1 : Int32)) dX6_image_84 rfl (by decide) rfl ?_
          refine tr_V.iinc (cst := (1 : Int32)) dX6_image_87 rfl (by decide) rfl ?_
          refine tr_V.goto (tgt := 48) dX6_image_90 (by decide) ?_
          exact tr_V.to (fun h => h) ⟨rfl, rfl, rfl, rfl, rfl, rfl, trivial⟩
        · refine tr_V.iinc (cst := (1 : Int32)) dX6_image_93 rfl (by decide) rfl ?_
          refine tr_V.goto (tgt := 30) dX6_image_96 (by decide) ?_
          exact tr_V.to (fun h => h) ⟨rfl, rfl, rfl, rfl, rfl, trivial⟩
      · exact tr_V.to (fun h => h) ⟨rfl, rfl, rfl, rfl, trivial⟩
    · intro v9
      refine tr_V.aload_n (i := 0) dX6_image_99 rfl rfl ?_
      refine tr_V.getR (Nat.succ_pos _) fl_X6_11 shC_1 rfl dX6_image_100 ?_
      refine tr_V.iload_n (i := 1) dX6_image_103 rfl rfl ?_
      refine tr_V.bd (fun r20 h21 => ?_)
      refine tr_V.aald (ty := .object RX1) h21 shC_2 (isL_pos (isL_2 h21)) (fun _ => rfl) rfl dX6_image_104 ?_
      refine tr_V.getR (Nat.succ_pos _) fl_X6_99 (shL (isL_2 h21)) rfl dX6_image_105 ?_
      refine tr_V.iload_n (i := 3) dX6_image_108 rfl rfl ?_
      refine tr_V.aload_n (i := 0) dX6_image_109 rfl rfl ?_
      refine tr_V.getR (Nat.succ_pos _) fl_X6_43 shC_1 rfl dX6_image_110 ?_
      refine tr_V.getI fl_X6_303 shC_26 rfl dX6_image_113 ?_
      refine tr_V.bd (fun M22 h23 => ?_)
      refine tr_V.iastL h23 dX6_image_116 ?_
      refine tr_V.iload_n (i := 2) dX6_image_117 rfl rfl ?_
      exact tr_V.iret dX6_image_118 rfl (fun h => h)
abbrev xX6_imageFault : tr_X := (cX6_imageFault, 4, RX6, (some .int), 2, shC, 81)
theorem cw_X6_imageFault : Cond.code yX6_imageFault cX6_imageFault 4 (some .int) ∈ tr_tbl := tr_in 1092 (by decide +kernel) rfl
theorem yk_X6_imageFault : tr_yk yX6_imageFault (xX6_imageFault) 1 := ⟨cw_X6_imageFault, in_X6, ⟨by decide +kernel, by decide +kernel, by decide +kernel⟩, Nat.le_of_ble_eq_true rfl⟩
theorem iv_X6_imageFault : Cond.instanceMethod yX6_imageFault ∈ tr_tbl ∧ Cond.selects (yX6_imageFault).cls yX6_imageFault yX6_imageFault ∈ tr_tbl := ⟨tr_in 1091 (by decide +kernel) rfl, tr_in 57 (by decide +kernel) rfl⟩
def mX6_imageFault_l36 (p1 : Int32) (M : tr_M) (s10 : Int32) : Option ((Int32) ⊕ ((Unit) ⊕ (Int32))) :=
  if s10 < ((mX6_imageSize M) - (1 : Int32)) then (
    Option.bind (tr_ra 6 (fun i => 62 + 2 * i) p1) (fun r11 =>
    Option.bind (tr_rd (tr_len shC (r11 + 1)) M (r11 + 1) s10) (fun a13 =>
    if a13 < 0 then (
      some (.inr (.inr (3 : Int32)))
    ) else (
      Option.bind (tr_ra 6 (fun i => 62 + 2 * i) p1) (fun r15 =>
      Option.bind (tr_rd (tr_len shC (r15 + 1)) M (r15 + 1) s10) (fun a17 =>
      if (9 : Int32) < a17 then (
        some (.inr (.inr (3 : Int32)))
      ) else (
        some (.inl (s10 + (1 : Int32)))
      )
      )
      )
    )
    )
    )
  ) else (
    some (.inr (.inl ()))
  )
def mX6_imageFault (p1 : Int32) (M : tr_M) : Option (Int32) :=
  Option.bind (tr_ra 6 (fun i => 62 + 2 * i) p1) (fun r1 =>
  if (mX1_isMissing r1 M) = 0 then (
    Option.bind (tr_ra 6 (fun i => 62 + 2 * i) p1) (fun r7 =>
    if (M.1 r7 1) = (mX6_imageSize M) then (
      Option.bind (show Option ((Unit) ⊕ (Int32)) from
        tr_loop (mX6_imageFault_l36 p1 M) (0 : Int32)
      ) (tr_el (fun (v9 : Unit) =>
        Option.bind (tr_ra 6 (fun i => 62 + 2 * i) p1) (fun r19 =>
        Option.bind (tr_rd (tr_len shC (r19 + 1)) M (r19 + 1) ((mX6_imageSize M) - (1 : Int32))) (fun a21 =>
        if a21 < 0 then (
          some (3 : Int32)
        ) else (
          if a21 < ((1 : Int32) <<< ((M.1 26 1) &&& 31)) then (
            some (0 : Int32)
          ) else (
            some (3 : Int32)
          )
        )
        )
        )
      ))
    ) else (
      some (5 : Int32)
    )
    )
  ) else (
    some (1 : Int32)
  )
  )
set_option maxRecDepth 100000 in
set_option maxHeartbeats 4000000 in
theorem C_X6_imageFault (p1 : Int32) (M : tr_M) (r : Int32) (h : mX6_imageFault p1 M = some r) : tr_I yX6_imageFault (xX6_imageFault) [.ref 1, .int p1] M (some (.int r)) M := by
  refine tr_I.of (Z := fun q : Int32 => (some (.int r) : Option Value) = some (.int q) ∧ M = M) pn_X6 rfl gdC (Nat.le_of_ble_eq_true rfl) (fun Wt => ?_) h ⟨rfl, rfl⟩
  unfold mX6_imageFault
  refine tr_V.aload_n (i := 0) dX6_imageFault_0 rfl rfl ?_
  refine tr_V.getR (Nat.succ_pos _) fl_X6_11 shC_1 rfl dX6_imageFault_1 ?_
  refine tr_V.iload_n (i := 1) dX6_imageFault_4 rfl rfl ?_
  refine tr_V.bd (fun r1 h2 => ?_)
  refine tr_V.aald (ty := .object RX1) h2 shC_2 (isL_pos (isL_2 h2)) (fun _ => rfl) rfl dX6_imageFault_5 ?_
  refine tr_V.callV (C_X1_isMissing r1 (isL_2 h2) M) yk_X1_isMissing iv_X1_isMissing ml_X6_102 (shL (isL_2 h2)) rfl ⟨rfl, Nat.le_of_ble_eq_true rfl⟩ rfl (Nat.le_of_ble_eq_true rfl) rfl dX6_imageFault_6 ?_
  refine tr_V.if_eq (tgt := 14) dX6_imageFault_9 (by decide) ?_ ?_
  · refine tr_V.aload_n (i := 0) dX6_imageFault_14 rfl rfl ?_
    refine tr_V.callV (C_X6_imageSize M) yk_X6_imageSize iv_X6_imageSize ml_X6_300 shC_1 rfl ⟨rfl, Nat.le_of_ble_eq_true rfl⟩ rfl (Nat.le_of_ble_eq_true rfl) rfl dX6_imageFault_15 ?_
    refine tr_V.istore_n (i := 2) dX6_imageFault_18 rfl (Nat.le_of_ble_eq_true rfl) rfl ?_
    refine tr_V.aload_n (i := 0) dX6_imageFault_19 rfl rfl ?_
    refine tr_V.getR (Nat.succ_pos _) fl_X6_11 shC_1 rfl dX6_imageFault_20 ?_
    refine tr_V.iload_n (i := 1) dX6_imageFault_23 rfl rfl ?_
    refine tr_V.bd (fun r7 h8 => ?_)
    refine tr_V.aald (ty := .object RX1) h8 shC_2 (isL_pos (isL_2 h8)) (fun _ => rfl) rfl dX6_imageFault_24 ?_
    refine tr_V.getI fl_X6_106 (shL (isL_2 h8)) rfl dX6_imageFault_25 ?_
    refine tr_V.iload_n (i := 2) dX6_imageFault_28 rfl rfl ?_
    refine tr_V.icmp_eq (tgt := 34) dX6_imageFault_29 (by decide) ?_ ?_
    · refine tr_V.iconst (v := (0 : Int32)) dX6_imageFault_34 (by decide) ?_
      refine tr_V.istore_n (i := 3) dX6_imageFault_35 rfl (Nat.le_of_ble_eq_true rfl) rfl ?_
      refine tr_V.seqE (τ := Unit) (pc' := 81) (L := fun v9 => [(0, some (.ref 1)), (1, some (.int p1)), (2, some (.int (mX6_imageSize M)))]) (S := fun v9 => []) (Mf := fun v9 => M) ?_ ?_
      · refine tr_V.loop (σ := Int32) (step := mX6_imageFault_l36 p1 M) (L := fun s10 => [(0, some (.ref 1)), (1, some (.int p1)), (2, some (.int (mX6_imageSize M))), (3, some (.int s10))]) (Mf := fun s10 => M) ?_ (0 : Int32) ⟨rfl, rfl, rfl, rfl, trivial⟩
        intro s10
        refine tr_V.iload_n (i := 3) dX6_imageFault_36 rfl rfl ?_
        refine tr_V.iload_n (i := 2) dX6_imageFault_37 rfl rfl ?_
        refine tr_V.iconst (v := (1 : Int32)) dX6_imageFault_38 (by decide) ?_
        refine tr_V.isub dX6_imageFault_39 ?_
        refine tr_V.icmp_ge (tgt := 81) dX6_imageFault_40 (by decide) ?_ ?_
        · refine tr_V.aload_n (i := 0) dX6_imageFault_43 rfl rfl ?_
          refine tr_V.getR (Nat.succ_pos _) fl_X6_11 shC_1 rfl dX6_imageFault_44 ?_
          refine tr_V.iload_n (i := 1) dX6_imageFault_47 rfl rfl ?_
          refine tr_V.bd (fun r11 h12 => ?_)
          refine tr_V.aald (ty := .object RX1) h12 shC_2 (isL_pos (isL_2 h12)) (fun _ => rfl) rfl dX6_imageFault_48 ?_
          refine tr_V.getR (Nat.succ_pos _) fl_X6_99 (shL (isL_2 h12)) rfl dX6_imageFault_49 ?_
          refine tr_V.iload_n (i := 3) dX6_imageFault_52 rfl rfl ?_
          refine tr_V.bd (fun a13 h14 => ?_)
          refine tr_V.ialdL h14 dX6_imageFault_53 ?_
          refine tr_V.if_lt (tgt := 73) dX6_imageFault_54 (by decide) ?_ ?_
          · refine tr_V.iconst (v := (3 : Int32)) dX6_imageFault_73 (by decide) ?_
            exact tr_V.iret dX6_imageFault_74 rfl (fun h => h)
          · refine tr_V.aload_n (i := 0) dX6_imageFault_57 rfl rfl ?_
            refine tr_V.getR (Nat.succ_pos _) fl_X6_11 shC_1 rfl dX6_imageFault_58 ?_
            refine tr_V.iload_n (i := 1) dX6_imageFault_61 rfl rfl ?_
            refine tr_V.bd (fun r15 h16 => ?_)
            refine tr_V.aald (ty := .object RX1) h16 shC_2 (isL_pos (isL_2 h16)) (fun _ => rfl) rfl dX6_imageFault_62 ?_
            refine tr_V.getR (Nat.succ_pos _) fl_X6_99 (shL (isL_2 h16)) rfl dX6_imageFault_63 ?_
            refine tr_V.iload_n (i := 3) dX6_imageFault_66 rfl rfl ?_
            refine tr_V.bd (fun a17 h18 => ?_)
            refine tr_V.ialdL h18 dX6_imageFault_67 ?_
            refine tr_V.bipush (v := (9 : Int32)) dX6_imageFault_68 (by decide) ?_
            refine tr_V.icmp_le (tgt := 75) dX6_imageFault_70 (by decide) ?_ ?_
            · refine tr_V.iconst (v := (3 : Int32)) dX6_imageFault_73 (by decide) ?_
              exact tr_V.iret dX6_imageFault_74 rfl (fun h => h)
            · refine tr_V.iinc (cst := (1 : Int32)) dX6_imageFault_75 rfl (by decide) rfl ?_
              refine tr_V.goto (tgt := 36) dX6_imageFault_78 (by decide) ?_
              exact tr_V.to (fun h => h) ⟨rfl, rfl, rfl, rfl, trivial⟩
        · exact tr_V.to (fun h => h) ⟨rfl, rfl, rfl, trivial⟩
      · intro v9
        refine tr_V.aload_n (i := 0) dX6_imageFault_81 rfl rfl ?_
        refine tr_V.getR (Nat.succ_pos _) fl_X6_11 shC_1 rfl dX6_imageFault_82 ?_
        refine tr_V.iload_n (i := 1) dX6_imageFault_85 rfl rfl ?_
        refine tr_V.bd (fun r19 h20 => ?_)
        refine tr_V.aald (ty := .object RX1) h20 shC_2 (isL_pos (isL_2 h20)) (fun _ => rfl) rfl dX6_imageFault_86 ?_
        refine tr_V.getR (Nat.succ_pos _) fl_X6_99 (shL (isL_2 h20)) rfl dX6_imageFault_87 ?_
        refine tr_V.iload_n (i := 2) dX6_imageFault_90 rfl rfl ?_
        refine tr_V.iconst (v := (1 : Int32)) dX6_imageFault_91 (by decide) ?_
        refine tr_V.isub dX6_imageFault_92 ?_
        refine tr_V.bd (fun a21 h22 => ?_)
        refine tr_V.ialdL h22 dX6_imageFault_93 ?_
        refine tr_V.istore_n (i := 3) dX6_imageFault_94 rfl (Nat.le_of_ble_eq_true rfl) rfl ?_
        refine tr_V.iload_n (i := 3) dX6_imageFault_95 rfl rfl ?_
        refine tr_V.if_lt (tgt := 112) dX6_imageFault_96 (by decide) ?_ ?_
        · refine tr_V.iconst (v := (3 : Int32)) dX6_imageFault_112 (by decide) ?_
          refine tr_V.goto (tgt := 117) dX6_imageFault_113 (by decide) ?_
          exact tr_V.iret dX6_imageFault_117 rfl (fun h => h)
        · refine tr_V.iload_n (i := 3) dX6_imageFault_99 rfl rfl ?_
          refine tr_V.iconst (v := (1 : Int32)) dX6_imageFault_100 (by decide) ?_
          refine tr_V.aload_n (i := 0) dX6_imageFault_101 rfl rfl ?_
          refine tr_V.getR (Nat.succ_pos _) fl_X6_43 shC_1 rfl dX6_imageFault_102 ?_
          refine tr_V.getI fl_X6_154 shC_26 rfl dX6_imageFault_105 ?_
          refine tr_V.ishl dX6_imageFault_108 ?_
          refine tr_V.icmp_lt (tgt := 116) dX6_imageFault_109 (by decide) ?_ ?_
          · refine tr_V.iconst (v := (0 : Int32)) dX6_imageFault_116 (by decide) ?_
            exact tr_V.iret dX6_imageFault_117 rfl (fun h => h)
          · refine tr_V.iconst (v := (3 : Int32)) dX6_imageFault_112 (by decide) ?_
            refine tr_V.goto (tgt := 117) dX6_imageFault_113 (by decide) ?_
            exact tr_V.iret dX6_imageFault_117 rfl (fun h => h)
    · refine tr_V.iconst (v := (5 : Int32)) dX6_imageFault_32 (by decide) ?_
      exact tr_V.iret dX6_imageFault_33 rfl (fun h => h)
  · refine tr_V.iconst (v := (1 : Int32)) dX6_imageFault_12 (by decide) ?_
    exact tr_V.iret dX6_imageFault_13 rfl (fun h => h)
abbrev xX6_on : tr_X := (cX6_on, 6, RX6, (some .int), 3, shC, 81)
theorem cw_X6_on : Cond.code yX6_on cX6_on 6 (some .int) ∈ tr_tbl := tr_in 1088 (by decide +kernel) rfl
theorem yk_X6_on : tr_yk yX6_on (xX6_on) 1 := ⟨cw_X6_on, in_X6, ⟨by decide +kernel, by decide +kernel, by decide +kernel⟩, Nat.le_of_ble_eq_true rfl⟩
theorem iv_X6_on : Cond.instanceMethod yX6_on ∈ tr_tbl ∧ Cond.selects (yX6_on).cls yX6_on yX6_on ∈ tr_tbl := ⟨tr_in 1086 (by decide +kernel) rfl, tr_in 1087 (by decide +kernel) rfl⟩
def mX6_on_l48 (p1 : Int32) (s6 : Int32 × Int32 × tr_M) (s7 : Int32 × Int32 × tr_M) : Option ((Int32 × Int32 × tr_M) ⊕ ((Int32 × Int32 × tr_M) ⊕ (Int32 × tr_M))) :=
  if s7.2.1 < (s7.2.2.1 26 0) then (
    Option.bind (tr_ra 6 (fun i => 62 + 2 * i) p1) (fun r8 =>
    Option.bind (tr_rd (tr_len shC (r8 + 1)) s7.2.2 (r8 + 1) s7.1) (fun a10 =>
    Option.bind (mX5_setTie 26 s6.2.1 s7.2.1 a10 s7.2.2) (fun c12 =>
    some (.inl ((s7.1 + (1 : Int32)), (s7.2.1 + (1 : Int32)), c12))
    )
    )
    )
  ) else (
    some (.inr (.inl (s7.1, (s6.2.1 + (1 : Int32)), s7.2.2)))
  )
def mX6_on_l30 (p1 : Int32) (s6 : Int32 × Int32 × tr_M) : Option ((Int32 × Int32 × tr_M) ⊕ (Int32 × tr_M)) :=
  if s6.2.1 < (s6.2.2.1 26 0) then (
    tr_loop (mX6_on_l48 p1 s6) (s6.1, (s6.2.1 + (1 : Int32)), s6.2.2)
  ) else (
    some (.inr (s6.1, s6.2.2))
  )
def mX6_on (p1 : Int32) (M : tr_M) : Option (Int32 × tr_M) :=
  if (mX6_isRow p1) = 0 then (
    some ((-1 : Int32), M)
  ) else (
    Option.bind (mX6_imageFault p1 M) (fun c3 =>
    if c3 = 0 then (
      Option.bind (show Option (Int32 × tr_M) from
        tr_loop (mX6_on_l30 p1) ((0 : Int32), (0 : Int32), M)
      ) (fun (v5 : Int32 × tr_M) =>
        Option.bind (tr_ra 6 (fun i => 62 + 2 * i) p1) (fun r14 =>
        Option.bind (tr_rd (tr_len shC (r14 + 1)) v5.2 (r14 + 1) v5.1) (fun a16 =>
        Option.bind (some (tr_st v5.2 26 2 a16)) (fun M18 =>
        Option.bind (mX6_forget M18) (fun c20 =>
        some ((1 : Int32), c20)
        )
        )
        )
        )
      )
    ) else (
      Option.bind (mX6_found c3 M) (fun c22 =>
      some (c22.1, c22.2)
      )
    )
    )
  )
set_option maxRecDepth 100000 in
set_option maxHeartbeats 4000000 in
theorem C_X6_on (p1 : Int32) (M : tr_M) (r : Int32 × tr_M) (h : mX6_on p1 M = some r) : tr_I yX6_on (xX6_on) [.ref 1, .int p1] M (some (.int r.1)) r.2 := by
  refine tr_I.of (Z := fun q : Int32 × tr_M => (some (.int r.1) : Option Value) = some (.int q.1) ∧ r.2 = q.2) pn_X6 rfl gdC (Nat.le_of_ble_eq_true rfl) (fun Wt => ?_) h ⟨rfl, rfl⟩
  unfold mX6_on
  refine tr_V.iload_n (i := 1) dX6_on_0 rfl rfl ?_
  refine tr_V.callS (C_X6_isRow p1 M) yk_X6_isRow sc_X6_isRow ml_X6_84 ⟨rfl, Nat.le_of_ble_eq_true rfl⟩ rfl (Nat.le_of_ble_eq_true rfl) rfl dX6_on_1 ?_
  refine tr_V.if_ne (tgt := 9) dX6_on_4 (by decide) ?_ ?_
  · refine tr_V.iconst (v := (-1 : Int32)) dX6_on_7 (by decide) ?_
    exact tr_V.iret dX6_on_8 rfl (fun h => h)
  · refine tr_V.aload_n (i := 0) dX6_on_9 rfl rfl ?_
    refine tr_V.iload_n (i := 1) dX6_on_10 rfl rfl ?_
    refine tr_V.bd (fun c3 h4 => ?_)
    refine tr_V.callV (C_X6_imageFault p1 M _ h4) yk_X6_imageFault iv_X6_imageFault ml_X6_306 shC_1 rfl ⟨rfl, Nat.le_of_ble_eq_true rfl⟩ rfl (Nat.le_of_ble_eq_true rfl) rfl dX6_on_11 ?_
    refine tr_V.istore_n (i := 2) dX6_on_14 rfl (Nat.le_of_ble_eq_true rfl) rfl ?_
    refine tr_V.iload_n (i := 2) dX6_on_15 rfl rfl ?_
    refine tr_V.if_eq (tgt := 25) dX6_on_16 (by decide) ?_ ?_
    · refine tr_V.iconst (v := (0 : Int32)) dX6_on_25 (by decide) ?_
      refine tr_V.istore_n (i := 3) dX6_on_26 rfl (Nat.le_of_ble_eq_true rfl) rfl ?_
      refine tr_V.iconst (v := (0 : Int32)) dX6_on_27 (by decide) ?_
      refine tr_V.istore (i := 4) dX6_on_28 (Nat.le_of_ble_eq_true rfl) rfl ?_
      refine tr_V.seq (τ := Int32 × tr_M) (pc' := 97) (L := fun v5 => [(0, some (.ref 1)), (1, some (.int p1)), (3, some (.int v5.1))]) (S := fun v5 => []) (Mf := fun v5 => v5.2) ?_ ?_
      · refine tr_V.loop (σ := Int32 × Int32 × tr_M) (step := mX6_on_l30 p1) (L := fun s6 => [(0, some (.ref 1)), (1, some (.int p1)), (3, some (.int s6.1)), (4, some (.int s6.2.1))]) (Mf := fun s6 => s6.2.2) ?_ ((0 : Int32), (0 : Int32), M) ⟨rfl, rfl, rfl, rfl, trivial⟩
        intro s6
        refine tr_V.iload dX6_on_30 rfl ?_
        refine tr_V.aload_n (i := 0) dX6_on_32 rfl rfl ?_
        refine tr_V.getR (Nat.succ_pos _) fl_X6_43 shC_1 rfl dX6_on_33 ?_
        refine tr_V.getI fl_X6_136 shC_26 rfl dX6_on_36 ?_
        refine tr_V.icmp_ge (tgt := 97) dX6_on_39 (by decide) ?_ ?_
        · refine tr_V.iload dX6_on_42 rfl ?_
          refine tr_V.iconst (v := (1 : Int32)) dX6_on_44 (by decide) ?_
          refine tr_V.iadd dX6_on_45 ?_
          refine tr_V.istore (i := 5) dX6_on_46 (Nat.le_of_ble_eq_true rfl) rfl ?_
          refine tr_V.loop (σ := Int32 × Int32 × tr_M) (step := mX6_on_l48 p1 s6) (L := fun s7 => [(0, some (.ref 1)), (1, some (.int p1)), (3, some (.int s7.1)), (4, some (.int s6.2.1)), (5, some (.int s7.2.1))]) (Mf := fun s7 => s7.2.2) ?_ (s6.1, (s6.2.1 + (1 : Int32)), s6.2.2) ⟨rfl, rfl, rfl, rfl, rfl, trivial⟩
          intro s7
          refine tr_V.iload dX6_on_48 rfl ?_
          refine tr_V.aload_n (i := 0) dX6_on_50 rfl rfl ?_
          refine tr_V.getR (Nat.succ_pos _) fl_X6_43 shC_1 rfl dX6_on_51 ?_
          refine tr_V.getI fl_X6_136 shC_26 rfl dX6_on_54 ?_
          refine tr_V.icmp_ge (tgt := 91) dX6_on_57 (by decide) ?_ ?_
          · refine tr_V.aload_n (i := 0) dX6_on_60 rfl rfl ?_
            refine tr_V.getR (Nat.succ_pos _) fl_X6_43 shC_1 rfl dX6_on_61 ?_
            refine tr_V.iload dX6_on_64 rfl ?_
            refine tr_V.iload dX6_on_66 rfl ?_
            refine tr_V.aload_n (i := 0) dX6_on_68 rfl rfl ?_
            refine tr_V.getR (Nat.succ_pos _) fl_X6_11 shC_1 rfl dX6_on_69 ?_
            refine tr_V.iload_n (i := 1) dX6_on_72 rfl rfl ?_
            refine tr_V.bd (fun r8 h9 => ?_)
            refine tr_V.aald (ty := .object RX1) h9 shC_2 (isL_pos (isL_2 h9)) (fun _ => rfl) rfl dX6_on_73 ?_
            refine tr_V.getR (Nat.succ_pos _) fl_X6_99 (shL (isL_2 h9)) rfl dX6_on_74 ?_
            refine tr_V.iload_n (i := 3) dX6_on_77 rfl rfl ?_
            refine tr_V.bd (fun a10 h11 => ?_)
            refine tr_V.ialdL h11 dX6_on_78 ?_
            refine tr_V.bd (fun c12 h13 => ?_)
            refine tr_V.callV (C_X5_setTie 26 isW_26 s6.2.1 s7.2.1 a10 s7.2.2 _ h13) yk_X5_setTie iv_X5_setTie ml_X6_146 shC_26 rfl ⟨rfl, Nat.le_of_ble_eq_true rfl⟩ rfl (Nat.le_of_ble_eq_true rfl) rfl dX6_on_79 ?_
            refine tr_V.iinc (cst := (1 : Int32)) dX6_on_82 rfl (by decide) rfl ?_
            refine tr_V.iinc (cst := (1 : Int32)) dX6_on_85 rfl (by decide) rfl ?_
            refine tr_V.goto (tgt := 48) dX6_on_88 (by decide) ?_
            exact tr_V.to (fun h => h) ⟨rfl, rfl, rfl, rfl, rfl, trivial⟩
          · refine tr_V.iinc (cst := (1 : Int32)) dX6_on_91 rfl (by decide) rfl ?_
            refine tr_V.goto (tgt := 30) dX6_on_94 (by decide) ?_
            exact tr_V.to (fun h => h) ⟨rfl, rfl, rfl, rfl, trivial⟩
        · exact tr_V.to (fun h => h) ⟨rfl, rfl, rfl, trivial⟩
      · intro v5
        refine tr_V.aload_n (i := 0) dX6_on_97 rfl rfl ?_
        refine tr_V.getR (Nat.succ_pos _) fl_X6_43 shC_1 rfl dX6_on_98 ?_
        refine tr_V.aload_n (i := 0) dX6_on_101 rfl rfl ?_
        refine tr_V.getR (Nat.succ_pos _) fl_X6_11 shC_1 rfl dX6_on_102 ?_
        refine tr_V.iload_n (i := 1) dX6_on_105 rfl rfl ?_
        refine tr_V.bd (fun r14 h15 => ?_)
        refine tr_V.aald (ty := .object RX1) h15 shC_2 (isL_pos (isL_2 h15)) (fun _ => rfl) rfl dX6_on_106 ?_
        refine tr_V.getR (Nat.succ_pos _) fl_X6_99 (shL (isL_2 h15)) rfl dX6_on_107 ?_
        refine tr_V.iload_n (i := 3) dX6_on_110 rfl rfl ?_
        refine tr_V.bd (fun a16 h17 => ?_)
        refine tr_V.ialdL h17 dX6_on_111 ?_
        refine tr_V.bd (fun M18 h19 => ?_)
        refine tr_V.putI fl_X6_303 shC_26 rfl dX6_on_112 h19 ?_
        refine tr_V.aload_n (i := 0) dX6_on_115 rfl rfl ?_
        refine tr_V.bd (fun c20 h21 => ?_)
        refine tr_V.callV (C_X6_forget M18 _ h21) yk_X6_forget iv_X6_forget ml_X6_133 shC_1 rfl ⟨rfl, Nat.le_of_ble_eq_true rfl⟩ rfl (Nat.le_of_ble_eq_true rfl) rfl dX6_on_116 ?_
        refine tr_V.iconst (v := (1 : Int32)) dX6_on_119 (by decide) ?_
        exact tr_V.iret dX6_on_120 rfl (fun h => h)
    · refine tr_V.aload_n (i := 0) dX6_on_19 rfl rfl ?_
      refine tr_V.iload_n (i := 2) dX6_on_20 rfl rfl ?_
      refine tr_V.bd (fun c22 h23 => ?_)
      refine tr_V.callV (C_X6_found c3 M _ h23) yk_X6_found iv_X6_found ml_X6_88 shC_1 rfl ⟨rfl, Nat.le_of_ble_eq_true rfl⟩ rfl (Nat.le_of_ble_eq_true rfl) rfl dX6_on_21 ?_
      exact tr_V.iret dX6_on_24 rfl (fun h => h)
abbrev xX6_asked : tr_X := (cX6_asked, 1, RX6, (some .int), 1, shC, 81)
theorem cw_X6_asked : Cond.code yX6_asked cX6_asked 1 (some .int) ∈ tr_tbl := tr_in 1096 (by decide +kernel) rfl
theorem yk_X6_asked : tr_yk yX6_asked (xX6_asked) 0 := ⟨cw_X6_asked, in_X6, ⟨by decide +kernel, by decide +kernel, by decide +kernel⟩, Nat.le_of_ble_eq_true rfl⟩
theorem iv_X6_asked : Cond.instanceMethod yX6_asked ∈ tr_tbl ∧ Cond.selects (yX6_asked).cls yX6_asked yX6_asked ∈ tr_tbl := ⟨tr_in 1094 (by decide +kernel) rfl, tr_in 1095 (by decide +kernel) rfl⟩
def mX6_asked'  (M : tr_M) : Option Int32 :=
  some (M.1 1 12)
def mX6_asked  (M : tr_M) : Int32 :=
  (M.1 1 12)
theorem mX6_asked_eq  (M : tr_M) : mX6_asked' M = some (mX6_asked M) := by
  unfold mX6_asked' mX6_asked
  rfl
set_option maxRecDepth 100000 in
set_option maxHeartbeats 4000000 in
theorem C_X6_asked  (M : tr_M) : tr_I yX6_asked (xX6_asked) [.ref 1] M (some (.int (mX6_asked M))) M := by
  refine tr_I.of (Z := fun q : Int32 => (some (.int (mX6_asked M)) : Option Value) = some (.int q) ∧ M = M) pn_X6 rfl gdC (Nat.le_of_ble_eq_true rfl) (fun Wt => ?_) (mX6_asked_eq M) ⟨rfl, rfl⟩
  unfold mX6_asked'
  refine tr_V.aload_n (i := 0) dX6_asked_0 rfl rfl ?_
  refine tr_V.getI fl_X6_64 shC_1 rfl dX6_asked_1 ?_
  exact tr_V.iret dX6_asked_4 rfl (fun h => h)
abbrev xX6_upper : tr_X := (cX6_upper, 1, RX6, (some .long), 1, shC, 81)
theorem cw_X6_upper : Cond.code yX6_upper cX6_upper 1 (some .long) ∈ tr_tbl := tr_in 1100 (by decide +kernel) rfl
theorem yk_X6_upper : tr_yk yX6_upper (xX6_upper) 0 := ⟨cw_X6_upper, in_X6, ⟨by decide +kernel, by decide +kernel, by decide +kernel⟩, Nat.le_of_ble_eq_true rfl⟩
theorem iv_X6_upper : Cond.instanceMethod yX6_upper ∈ tr_tbl ∧ Cond.selects (yX6_upper).cls yX6_upper yX6_upper ∈ tr_tbl := ⟨tr_in 1098 (by decide +kernel) rfl, tr_in 1099 (by decide +kernel) rfl⟩
def mX6_upper'  (M : tr_M) : Option Int64 :=
  some (M.2 1 13)
def mX6_upper  (M : tr_M) : Int64 :=
  (M.2 1 13)
theorem mX6_upper_eq  (M : tr_M) : mX6_upper' M = some (mX6_upper M) := by
  unfold mX6_upper' mX6_upper
  rfl
set_option maxRecDepth 100000 in
set_option maxHeartbeats 4000000 in
theorem C_X6_upper  (M : tr_M) : tr_I yX6_upper (xX6_upper) [.ref 1] M (some (.long (mX6_upper M))) M := by
  refine tr_I.of (Z := fun q : Int64 => (some (.long (mX6_upper M)) : Option Value) = some (.long q) ∧ M = M) pn_X6 rfl gdC (Nat.le_of_ble_eq_true rfl) (fun Wt => ?_) (mX6_upper_eq M) ⟨rfl, rfl⟩
  unfold mX6_upper'
  refine tr_V.aload_n (i := 0) dX6_upper_0 rfl rfl ?_
  refine tr_V.getJ fl_X6_67 shC_1 rfl dX6_upper_1 ?_
  exact tr_V.lret dX6_upper_4 rfl (fun h => h)
abbrev xX6_lower : tr_X := (cX6_lower, 1, RX6, (some .long), 1, shC, 81)
theorem cw_X6_lower : Cond.code yX6_lower cX6_lower 1 (some .long) ∈ tr_tbl := tr_in 1104 (by decide +kernel) rfl
theorem yk_X6_lower : tr_yk yX6_lower (xX6_lower) 0 := ⟨cw_X6_lower, in_X6, ⟨by decide +kernel, by decide +kernel, by decide +kernel⟩, Nat.le_of_ble_eq_true rfl⟩
theorem iv_X6_lower : Cond.instanceMethod yX6_lower ∈ tr_tbl ∧ Cond.selects (yX6_lower).cls yX6_lower yX6_lower ∈ tr_tbl := ⟨tr_in 1102 (by decide +kernel) rfl, tr_in 1103 (by decide +kernel) rfl⟩
def mX6_lower'  (M : tr_M) : Option Int64 :=
  some (M.2 1 14)
def mX6_lower  (M : tr_M) : Int64 :=
  (M.2 1 14)
theorem mX6_lower_eq  (M : tr_M) : mX6_lower' M = some (mX6_lower M) := by
  unfold mX6_lower' mX6_lower
  rfl
set_option maxRecDepth 100000 in
set_option maxHeartbeats 4000000 in
theorem C_X6_lower  (M : tr_M) : tr_I yX6_lower (xX6_lower) [.ref 1] M (some (.long (mX6_lower M))) M := by
  refine tr_I.of (Z := fun q : Int64 => (some (.long (mX6_lower M)) : Option Value) = some (.long q) ∧ M = M) pn_X6 rfl gdC (Nat.le_of_ble_eq_true rfl) (fun Wt => ?_) (mX6_lower_eq M) ⟨rfl, rfl⟩
  unfold mX6_lower'
  refine tr_V.aload_n (i := 0) dX6_lower_0 rfl rfl ?_
  refine tr_V.getJ fl_X6_71 shC_1 rfl dX6_lower_1 ?_
  exact tr_V.lret dX6_lower_4 rfl (fun h => h)
abbrev xX6_thereOf_2 : tr_X := (cX6_thereOf, 3, RX6, (some .int), 2, shC, 81)
theorem cw_X6_thereOf : Cond.code yX6_thereOf cX6_thereOf 3 (some .int) ∈ tr_tbl := tr_in 1121 (by decide +kernel) rfl
theorem yk_X6_thereOf : tr_yk yX6_thereOf (xX6_thereOf_2) 1 := ⟨cw_X6_thereOf, in_X6, ⟨by decide +kernel, by decide +kernel, by decide +kernel⟩, Nat.le_of_ble_eq_true rfl⟩
theorem sc_X6_thereOf : Cond.static yX6_thereOf ∈ tr_tbl := tr_in 1120 (by decide +kernel) rfl
def mX6_thereOf_2_l4 (M : tr_M) (s1 : Int32 × Int32) : Option ((Int32 × Int32) ⊕ (Int32)) :=
  if s1.2 < (6 : Int32) then (
    Option.bind (tr_ra 6 (fun i => 62 + 2 * i) s1.2) (fun r2 =>
    if (mX1_isMissing r2 M) = 0 then (
      some (.inl ((s1.1 + (1 : Int32)), (s1.2 + (1 : Int32))))
    ) else (
      some (.inl (s1.1, (s1.2 + (1 : Int32))))
    )
    )
  ) else (
    some (.inr s1.1)
  )
def mX6_thereOf_2  (M : tr_M) : Option (Int32) :=
  tr_loop (mX6_thereOf_2_l4 M) ((0 : Int32), (0 : Int32))
set_option maxRecDepth 100000 in
set_option maxHeartbeats 4000000 in
theorem C_X6_thereOf_2  (M : tr_M) (r : Int32) (h : mX6_thereOf_2 M = some r) : tr_I yX6_thereOf (xX6_thereOf_2) [.ref 2] M (some (.int r)) M := by
  refine tr_I.of (Z := fun q : Int32 => (some (.int r) : Option Value) = some (.int q) ∧ M = M) pn_X6 rfl gdC (Nat.le_of_ble_eq_true rfl) (fun Wt => ?_) h ⟨rfl, rfl⟩
  unfold mX6_thereOf_2
  refine tr_V.iconst (v := (0 : Int32)) dX6_thereOf_0 (by decide) ?_
  refine tr_V.istore_n (i := 1) dX6_thereOf_1 rfl (Nat.le_of_ble_eq_true rfl) rfl ?_
  refine tr_V.iconst (v := (0 : Int32)) dX6_thereOf_2 (by decide) ?_
  refine tr_V.istore_n (i := 2) dX6_thereOf_3 rfl (Nat.le_of_ble_eq_true rfl) rfl ?_
  refine tr_V.loop (σ := Int32 × Int32) (step := mX6_thereOf_2_l4 M) (L := fun s1 => [(0, some (.ref 2)), (1, some (.int s1.1)), (2, some (.int s1.2))]) (Mf := fun s1 => M) ?_ ((0 : Int32), (0 : Int32)) ⟨rfl, rfl, rfl, trivial⟩
  intro s1
  refine tr_V.iload_n (i := 2) dX6_thereOf_4 rfl rfl ?_
  refine tr_V.aload_n (i := 0) dX6_thereOf_5 rfl rfl ?_
  refine tr_V.alenR (ty := .object RX1) (v := (6 : Int32)) shC_2 (by decide) (fun _ => rfl) dX6_thereOf_6 ?_
  refine tr_V.icmp_ge (tgt := 28) dX6_thereOf_7 (by decide) ?_ ?_
  · refine tr_V.aload_n (i := 0) dX6_thereOf_10 rfl rfl ?_
    refine tr_V.iload_n (i := 2) dX6_thereOf_11 rfl rfl ?_
    refine tr_V.bd (fun r2 h3 => ?_)
    refine tr_V.aald (ty := .object RX1) h3 shC_2 (isL_pos (isL_2 h3)) (fun _ => rfl) rfl dX6_thereOf_12 ?_
    refine tr_V.callV (C_X1_isMissing r2 (isL_2 h3) M) yk_X1_isMissing iv_X1_isMissing ml_X6_102 (shL (isL_2 h3)) rfl ⟨rfl, Nat.le_of_ble_eq_true rfl⟩ rfl (Nat.le_of_ble_eq_true rfl) rfl dX6_thereOf_13 ?_
    refine tr_V.if_ne (tgt := 22) dX6_thereOf_16 (by decide) ?_ ?_
    · refine tr_V.iinc (cst := (1 : Int32)) dX6_thereOf_19 rfl (by decide) rfl ?_
      refine tr_V.iinc (cst := (1 : Int32)) dX6_thereOf_22 rfl (by decide) rfl ?_
      refine tr_V.goto (tgt := 4) dX6_thereOf_25 (by decide) ?_
      exact tr_V.to (fun h => h) ⟨rfl, rfl, rfl, trivial⟩
    · refine tr_V.iinc (cst := (1 : Int32)) dX6_thereOf_22 rfl (by decide) rfl ?_
      refine tr_V.goto (tgt := 4) dX6_thereOf_25 (by decide) ?_
      exact tr_V.to (fun h => h) ⟨rfl, rfl, rfl, trivial⟩
  · refine tr_V.iload_n (i := 1) dX6_thereOf_28 rfl rfl ?_
    exact tr_V.iret dX6_thereOf_29 rfl (fun h => h)
abbrev xX6_thereOf_3 : tr_X := (cX6_thereOf, 3, RX6, (some .int), 2, shC, 81)
def mX6_thereOf_3_l4 (M : tr_M) (s1 : Int32 × Int32) : Option ((Int32 × Int32) ⊕ (Int32)) :=
  if s1.2 < (4 : Int32) then (
    Option.bind (tr_ra 4 (fun i => 74 + 2 * i) s1.2) (fun r2 =>
    if (mX1_isMissing r2 M) = 0 then (
      some (.inl ((s1.1 + (1 : Int32)), (s1.2 + (1 : Int32))))
    ) else (
      some (.inl (s1.1, (s1.2 + (1 : Int32))))
    )
    )
  ) else (
    some (.inr s1.1)
  )
def mX6_thereOf_3  (M : tr_M) : Option (Int32) :=
  tr_loop (mX6_thereOf_3_l4 M) ((0 : Int32), (0 : Int32))
set_option maxRecDepth 100000 in
set_option maxHeartbeats 4000000 in
theorem C_X6_thereOf_3  (M : tr_M) (r : Int32) (h : mX6_thereOf_3 M = some r) : tr_I yX6_thereOf (xX6_thereOf_3) [.ref 3] M (some (.int r)) M := by
  refine tr_I.of (Z := fun q : Int32 => (some (.int r) : Option Value) = some (.int q) ∧ M = M) pn_X6 rfl gdC (Nat.le_of_ble_eq_true rfl) (fun Wt => ?_) h ⟨rfl, rfl⟩
  unfold mX6_thereOf_3
  refine tr_V.iconst (v := (0 : Int32)) dX6_thereOf_0 (by decide) ?_
  refine tr_V.istore_n (i := 1) dX6_thereOf_1 rfl (Nat.le_of_ble_eq_true rfl) rfl ?_
  refine tr_V.iconst (v := (0 : Int32)) dX6_thereOf_2 (by decide) ?_
  refine tr_V.istore_n (i := 2) dX6_thereOf_3 rfl (Nat.le_of_ble_eq_true rfl) rfl ?_
  refine tr_V.loop (σ := Int32 × Int32) (step := mX6_thereOf_3_l4 M) (L := fun s1 => [(0, some (.ref 3)), (1, some (.int s1.1)), (2, some (.int s1.2))]) (Mf := fun s1 => M) ?_ ((0 : Int32), (0 : Int32)) ⟨rfl, rfl, rfl, trivial⟩
  intro s1
  refine tr_V.iload_n (i := 2) dX6_thereOf_4 rfl rfl ?_
  refine tr_V.aload_n (i := 0) dX6_thereOf_5 rfl rfl ?_
  refine tr_V.alenR (ty := .object RX1) (v := (4 : Int32)) shC_3 (by decide) (fun _ => rfl) dX6_thereOf_6 ?_
  refine tr_V.icmp_ge (tgt := 28) dX6_thereOf_7 (by decide) ?_ ?_
  · refine tr_V.aload_n (i := 0) dX6_thereOf_10 rfl rfl ?_
    refine tr_V.iload_n (i := 2) dX6_thereOf_11 rfl rfl ?_
    refine tr_V.bd (fun r2 h3 => ?_)
    refine tr_V.aald (ty := .object RX1) h3 shC_3 (isL_pos (isL_3 h3)) (fun _ => rfl) rfl dX6_thereOf_12 ?_
    refine tr_V.callV (C_X1_isMissing r2 (isL_3 h3) M) yk_X1_isMissing iv_X1_isMissing ml_X6_102 (shL (isL_3 h3)) rfl ⟨rfl, Nat.le_of_ble_eq_true rfl⟩ rfl (Nat.le_of_ble_eq_true rfl) rfl dX6_thereOf_13 ?_
    refine tr_V.if_ne (tgt := 22) dX6_thereOf_16 (by decide) ?_ ?_
    · refine tr_V.iinc (cst := (1 : Int32)) dX6_thereOf_19 rfl (by decide) rfl ?_
      refine tr_V.iinc (cst := (1 : Int32)) dX6_thereOf_22 rfl (by decide) rfl ?_
      refine tr_V.goto (tgt := 4) dX6_thereOf_25 (by decide) ?_
      exact tr_V.to (fun h => h) ⟨rfl, rfl, rfl, trivial⟩
    · refine tr_V.iinc (cst := (1 : Int32)) dX6_thereOf_22 rfl (by decide) rfl ?_
      refine tr_V.goto (tgt := 4) dX6_thereOf_25 (by decide) ?_
      exact tr_V.to (fun h => h) ⟨rfl, rfl, rfl, trivial⟩
  · refine tr_V.iload_n (i := 1) dX6_thereOf_28 rfl rfl ?_
    exact tr_V.iret dX6_thereOf_29 rfl (fun h => h)
abbrev xX6_count : tr_X := (cX6_count, 2, RX6, (some .int), 3, shC, 81)
theorem cw_X6_count : Cond.code yX6_count cX6_count 2 (some .int) ∈ tr_tbl := tr_in 1108 (by decide +kernel) rfl
theorem yk_X6_count : tr_yk yX6_count (xX6_count) 1 := ⟨cw_X6_count, in_X6, ⟨by decide +kernel, by decide +kernel, by decide +kernel⟩, Nat.le_of_ble_eq_true rfl⟩
theorem iv_X6_count : Cond.instanceMethod yX6_count ∈ tr_tbl ∧ Cond.selects (yX6_count).cls yX6_count yX6_count ∈ tr_tbl := ⟨tr_in 1106 (by decide +kernel) rfl, tr_in 1107 (by decide +kernel) rfl⟩
def mX6_count (p1 : Int32) (M : tr_M) : Option (Int32) :=
  if p1 = (0 : Int32) then (
    some (M.1 26 0)
  ) else (
  if p1 = (1 : Int32) then (
    Option.bind (mX5_tieCount 26 M) (fun c2 =>
    some c2
    )
  ) else (
  if p1 = (2 : Int32) then (
    some (M.1 26 1)
  ) else (
  if p1 = (3 : Int32) then (
    Option.bind (mX5_aheadCount 26 M) (fun c6 =>
    some c6
    )
  ) else (
  if p1 = (4 : Int32) then (
    Option.bind (mJ6_bitCount_0f7a4 (M.1 26 2)) (fun c9 =>
    some c9
    )
  ) else (
  if p1 = (5 : Int32) then (
    Option.bind (mX6_thereOf_2 M) (fun c12 =>
    some c12
    )
  ) else (
  if p1 = (6 : Int32) then (
    Option.bind (mX6_thereOf_3 M) (fun c15 =>
    some c15
    )
  ) else (
    some (-1 : Int32)
  )))))))
set_option maxRecDepth 100000 in
set_option maxHeartbeats 4000000 in
theorem C_X6_count (p1 : Int32) (M : tr_M) (r : Int32) (h : mX6_count p1 M = some r) : tr_I yX6_count (xX6_count) [.ref 1, .int p1] M (some (.int r)) M := by
  refine tr_I.of (Z := fun q : Int32 => (some (.int r) : Option Value) = some (.int q) ∧ M = M) pn_X6 rfl gdC (Nat.le_of_ble_eq_true rfl) (fun Wt => ?_) h ⟨rfl, rfl⟩
  unfold mX6_count
  refine tr_V.iload_n (i := 1) dX6_count_0 rfl rfl ?_
  refine tr_V.case (k := (0 : Int32)) (fun c1 => ?_) (fun c1 => ?_)
  · refine tr_V.tableIn (tgt := 44) dX6_count_1 c1 (by decide) rfl (by decide) ?_
    refine tr_V.aload_n (i := 0) dX6_count_44 rfl rfl ?_
    refine tr_V.getR (Nat.succ_pos _) fl_X6_43 shC_1 rfl dX6_count_45 ?_
    refine tr_V.getI fl_X6_136 shC_26 rfl dX6_count_48 ?_
    exact tr_V.iret dX6_count_51 rfl (fun h => h)
  · refine tr_V.case (k := (1 : Int32)) (fun c4 => ?_) (fun c4 => ?_)
    · refine tr_V.tableIn (tgt := 52) dX6_count_1 c4 (by decide) rfl (by decide) ?_
      refine tr_V.aload_n (i := 0) dX6_count_52 rfl rfl ?_
      refine tr_V.getR (Nat.succ_pos _) fl_X6_43 shC_1 rfl dX6_count_53 ?_
      refine tr_V.bd (fun c2 h3 => ?_)
      refine tr_V.callV (C_X5_tieCount 26 isW_26 M _ h3) yk_X5_tieCount iv_X5_tieCount ml_X6_309 shC_26 rfl ⟨rfl, Nat.le_of_ble_eq_true rfl⟩ rfl (Nat.le_of_ble_eq_true rfl) rfl dX6_count_56 ?_
      exact tr_V.iret dX6_count_59 rfl (fun h => h)
    · refine tr_V.case (k := (2 : Int32)) (fun c5 => ?_) (fun c5 => ?_)
      · refine tr_V.tableIn (tgt := 60) dX6_count_1 c5 (by decide) rfl (by decide) ?_
        refine tr_V.aload_n (i := 0) dX6_count_60 rfl rfl ?_
        refine tr_V.getR (Nat.succ_pos _) fl_X6_43 shC_1 rfl dX6_count_61 ?_
        refine tr_V.getI fl_X6_154 shC_26 rfl dX6_count_64 ?_
        exact tr_V.iret dX6_count_67 rfl (fun h => h)
      · refine tr_V.case (k := (3 : Int32)) (fun c8 => ?_) (fun c8 => ?_)
        · refine tr_V.tableIn (tgt := 68) dX6_count_1 c8 (by decide) rfl (by decide) ?_
          refine tr_V.aload_n (i := 0) dX6_count_68 rfl rfl ?_
          refine tr_V.getR (Nat.succ_pos _) fl_X6_43 shC_1 rfl dX6_count_69 ?_
          refine tr_V.bd (fun c6 h7 => ?_)
          refine tr_V.callV (C_X5_aheadCount 26 isW_26 M _ h7) yk_X5_aheadCount iv_X5_aheadCount ml_X6_312 shC_26 rfl ⟨rfl, Nat.le_of_ble_eq_true rfl⟩ rfl (Nat.le_of_ble_eq_true rfl) rfl dX6_count_72 ?_
          exact tr_V.iret dX6_count_75 rfl (fun h => h)
        · refine tr_V.case (k := (4 : Int32)) (fun c11 => ?_) (fun c11 => ?_)
          · refine tr_V.tableIn (tgt := 76) dX6_count_1 c11 (by decide) rfl (by decide) ?_
            refine tr_V.aload_n (i := 0) dX6_count_76 rfl rfl ?_
            refine tr_V.getR (Nat.succ_pos _) fl_X6_43 shC_1 rfl dX6_count_77 ?_
            refine tr_V.getI fl_X6_303 shC_26 rfl dX6_count_80 ?_
            refine tr_V.bd (fun c9 h10 => ?_)
            refine tr_V.callS (C_J6_bitCount_0f7a4 shC 81 gdC (M.1 26 2) M _ h10) yk_J6_bitCount_0f7a4 sc_J6_bitCount_0f7a4 ml_X6_315 ⟨rfl, Nat.le_of_ble_eq_true rfl⟩ rfl (Nat.le_of_ble_eq_true rfl) rfl dX6_count_83 ?_
            exact tr_V.iret dX6_count_86 rfl (fun h => h)
          · refine tr_V.case (k := (5 : Int32)) (fun c14 => ?_) (fun c14 => ?_)
            · refine tr_V.tableIn (tgt := 87) dX6_count_1 c14 (by decide) rfl (by decide) ?_
              refine tr_V.aload_n (i := 0) dX6_count_87 rfl rfl ?_
              refine tr_V.getR (Nat.succ_pos _) fl_X6_11 shC_1 rfl dX6_count_88 ?_
              refine tr_V.bd (fun c12 h13 => ?_)
              refine tr_V.callS (C_X6_thereOf_2 M _ h13) yk_X6_thereOf sc_X6_thereOf ml_X6_320 ⟨rfl, Nat.le_of_ble_eq_true rfl⟩ rfl (Nat.le_of_ble_eq_true rfl) rfl dX6_count_91 ?_
              exact tr_V.iret dX6_count_94 rfl (fun h => h)
            · refine tr_V.case (k := (6 : Int32)) (fun c17 => ?_) (fun c17 => ?_)
              · refine tr_V.tableIn (tgt := 95) dX6_count_1 c17 (by decide) rfl (by decide) ?_
                refine tr_V.aload_n (i := 0) dX6_count_95 rfl rfl ?_
                refine tr_V.getR (Nat.succ_pos _) fl_X6_15 shC_1 rfl dX6_count_96 ?_
                refine tr_V.bd (fun c15 h16 => ?_)
                refine tr_V.callS (C_X6_thereOf_3 M _ h16) yk_X6_thereOf sc_X6_thereOf ml_X6_320 ⟨rfl, Nat.le_of_ble_eq_true rfl⟩ rfl (Nat.le_of_ble_eq_true rfl) rfl dX6_count_99 ?_
                exact tr_V.iret dX6_count_102 rfl (fun h => h)
              · refine tr_V.tableOut (tgt := 103) dX6_count_1 (by have := lv_neT c1 (a := 0) (by decide); have := lv_neT c4 (a := 1) (by decide); have := lv_neT c5 (a := 2) (by decide); have := lv_neT c8 (a := 3) (by decide); have := lv_neT c11 (a := 4) (by decide); have := lv_neT c14 (a := 5) (by decide); have := lv_neT c17 (a := 6) (by decide); omega) (by decide) ?_
                refine tr_V.iconst (v := (-1 : Int32)) dX6_count_103 (by decide) ?_
                exact tr_V.iret dX6_count_104 rfl (fun h => h)
abbrev xX6_finding : tr_X := (cX6_finding, 1, RX6, (some .int), 1, shC, 81)
theorem cw_X6_finding : Cond.code yX6_finding cX6_finding 1 (some .int) ∈ tr_tbl := tr_in 1125 (by decide +kernel) rfl
theorem yk_X6_finding : tr_yk yX6_finding (xX6_finding) 0 := ⟨cw_X6_finding, in_X6, ⟨by decide +kernel, by decide +kernel, by decide +kernel⟩, Nat.le_of_ble_eq_true rfl⟩
theorem iv_X6_finding : Cond.instanceMethod yX6_finding ∈ tr_tbl ∧ Cond.selects (yX6_finding).cls yX6_finding yX6_finding ∈ tr_tbl := ⟨tr_in 1123 (by decide +kernel) rfl, tr_in 1124 (by decide +kernel) rfl⟩
def mX6_finding'  (M : tr_M) : Option Int32 :=
  some (M.1 1 11)
def mX6_finding  (M : tr_M) : Int32 :=
  (M.1 1 11)
theorem mX6_finding_eq  (M : tr_M) : mX6_finding' M = some (mX6_finding M) := by
  unfold mX6_finding' mX6_finding
  rfl
set_option maxRecDepth 100000 in
set_option maxHeartbeats 4000000 in
theorem C_X6_finding  (M : tr_M) : tr_I yX6_finding (xX6_finding) [.ref 1] M (some (.int (mX6_finding M))) M := by
  refine tr_I.of (Z := fun q : Int32 => (some (.int (mX6_finding M)) : Option Value) = some (.int q) ∧ M = M) pn_X6 rfl gdC (Nat.le_of_ble_eq_true rfl) (fun Wt => ?_) (mX6_finding_eq M) ⟨rfl, rfl⟩
  unfold mX6_finding'
  refine tr_V.aload_n (i := 0) dX6_finding_0 rfl rfl ?_
  refine tr_V.getI fl_X6_60 shC_1 rfl dX6_finding_1 ?_
  exact tr_V.iret dX6_finding_4 rfl (fun h => h)
abbrev xX6_findings : tr_X := (cX6_findings, 2, RX6, (some .int), 1, shC, 81)
theorem cw_X6_findings : Cond.code yX6_findings cX6_findings 2 (some .int) ∈ tr_tbl := tr_in 1129 (by decide +kernel) rfl
theorem yk_X6_findings : tr_yk yX6_findings (xX6_findings) 1 := ⟨cw_X6_findings, in_X6, ⟨by decide +kernel, by decide +kernel, by decide +kernel⟩, Nat.le_of_ble_eq_true rfl⟩
theorem iv_X6_findings : Cond.instanceMethod yX6_findings ∈ tr_tbl ∧ Cond.selects (yX6_findings).cls yX6_findings yX6_findings ∈ tr_tbl := ⟨tr_in 1127 (by decide +kernel) rfl, tr_in 1128 (by decide +kernel) rfl⟩
def mX6_findings (p1 : Int32) (M : tr_M) : Option (Int32) :=
  if p1 < (1 : Int32) then (
    some (-1 : Int32)
  ) else (
    if (5 : Int32) < p1 then (
      some (-1 : Int32)
    ) else (
      Option.bind (tr_rd 6 M 57 p1) (fun a1 =>
      some a1
      )
    )
  )
set_option maxRecDepth 100000 in
set_option maxHeartbeats 4000000 in
theorem C_X6_findings (p1 : Int32) (M : tr_M) (r : Int32) (h : mX6_findings p1 M = some r) : tr_I yX6_findings (xX6_findings) [.ref 1, .int p1] M (some (.int r)) M := by
  refine tr_I.of (Z := fun q : Int32 => (some (.int r) : Option Value) = some (.int q) ∧ M = M) pn_X6 rfl gdC (Nat.le_of_ble_eq_true rfl) (fun Wt => ?_) h ⟨rfl, rfl⟩
  unfold mX6_findings
  refine tr_V.iload_n (i := 1) dX6_findings_0 rfl rfl ?_
  refine tr_V.iconst (v := (1 : Int32)) dX6_findings_1 (by decide) ?_
  refine tr_V.icmp_lt (tgt := 10) dX6_findings_2 (by decide) ?_ ?_
  · refine tr_V.iconst (v := (-1 : Int32)) dX6_findings_10 (by decide) ?_
    exact tr_V.iret dX6_findings_11 rfl (fun h => h)
  · refine tr_V.iload_n (i := 1) dX6_findings_5 rfl rfl ?_
    refine tr_V.iconst (v := (5 : Int32)) dX6_findings_6 (by decide) ?_
    refine tr_V.icmp_le (tgt := 12) dX6_findings_7 (by decide) ?_ ?_
    · refine tr_V.iconst (v := (-1 : Int32)) dX6_findings_10 (by decide) ?_
      exact tr_V.iret dX6_findings_11 rfl (fun h => h)
    · refine tr_V.aload_n (i := 0) dX6_findings_12 rfl rfl ?_
      refine tr_V.getR (Nat.succ_pos _) fl_X6_44 shC_1 rfl dX6_findings_13 ?_
      refine tr_V.iload_n (i := 1) dX6_findings_16 rfl rfl ?_
      refine tr_V.bd (fun a1 h2 => ?_)
      refine tr_V.iald h2 shC_57 dX6_findings_17 ?_
      exact tr_V.iret dX6_findings_18 rfl (fun h => h)
