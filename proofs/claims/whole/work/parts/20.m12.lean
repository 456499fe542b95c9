abbrev xX7_groups : tr_X := (cX7_groups, 8, RX7, (some .int), 2, shM, 24)
theorem cw_X7_groups : Cond.code yX7_groups cX7_groups 8 (some .int) ∈ tr_tbl := tr_in 1636 (by decide +kernel) rfl
theorem yk_X7_groups : tr_yk yX7_groups (xX7_groups) 0 := ⟨cw_X7_groups, in_X7, ⟨by decide +kernel, by decide +kernel, by decide +kernel⟩, Nat.le_of_ble_eq_true rfl⟩
theorem iv_X7_groups : Cond.instanceMethod yX7_groups ∈ tr_tbl ∧ Cond.selects (yX7_groups).cls yX7_groups yX7_groups ∈ tr_tbl := ⟨tr_in 1635 (by decide +kernel) rfl, tr_in 111 (by decide +kernel) rfl⟩
def mX7_groups_l42 (M : tr_M) (s7 : Int32 × Int32) (s8 : Int32 × Int32) : Option ((Int32 × Int32) ⊕ ((Int32 × Int32) ⊕ (Int32))) :=
  if s8.2 < (M.1 1 10) then (
    if (mX7_has s8.1 s7.2) = 0 then (
      some (.inl ((s8.1 ||| (0 : Int32)), (s8.2 + (1 : Int32))))
    ) else (
      Option.bind (mX7_weight s7.2 s8.2 M) (fun c11 =>
      if 0 < c11 then (
        Option.bind (some (s8.1 ||| ((1 : Int32) <<< (s8.2 &&& 31)))) (fun x13 =>
        some (.inl (x13, (s8.2 + (1 : Int32))))
        )
      ) else (
        some (.inl ((s8.1 ||| (0 : Int32)), (s8.2 + (1 : Int32))))
      )
      )
    )
  ) else (
    some (.inr (.inl (s8.1, (s7.2 + (1 : Int32)))))
  )
def mX7_groups_l30 (M : tr_M) (s7 : Int32 × Int32) : Option ((Int32 × Int32) ⊕ (Int32)) :=
  if s7.2 < (M.1 1 10) then (
    tr_loop (mX7_groups_l42 M s7) (s7.1, (0 : Int32))
  ) else (
    some (.inr s7.1)
  )
def mX7_groups_l19 (M : tr_M) (s5 : Int32 × Int32) : Option ((Int32 × Int32) ⊕ (Int32)) :=
  if s5.2 = 0 then (
    some (.inr s5.1)
  ) else (
    Option.bind (show Option (Int32) from
      tr_loop (mX7_groups_l30 M) (s5.1, (0 : Int32))
    ) (fun (v6 : Int32) =>
      if v6 = s5.1 then (
        some (.inl (v6, (0 : Int32)))
      ) else (
        some (.inl (v6, (1 : Int32)))
      )
    )
  )
def mX7_groups_l7 (M : tr_M) (s3 : Int32 × Int32) : Option ((Int32 × Int32) ⊕ (Int32)) :=
  if s3.1 = 0 then (
    some (.inr s3.2)
  ) else (
    Option.bind (show Option (Int32) from
      tr_loop (mX7_groups_l19 M) ((s3.1 &&& (-s3.1)), (1 : Int32))
    ) (fun (v4 : Int32) =>
      some (.inl ((s3.1 &&& (v4 ^^^ (-1 : Int32))), (s3.2 + (1 : Int32))))
    )
  )
def mX7_groups  (M : tr_M) : Option (Int32) :=
  tr_loop (mX7_groups_l7 M) ((mX7_full M), (0 : Int32))
set_option maxRecDepth 100000 in
set_option maxHeartbeats 4000000 in
theorem C_X7_groups  (M : tr_M) (r : Int32) (h : mX7_groups M = some r) : tr_I yX7_groups (xX7_groups) [.ref 1] M (some (.int r)) M := by
  refine tr_I.of (Z := fun q : Int32 => (some (.int r) : Option Value) = some (.int q) ∧ M = M) pn_X7 rfl gdM (Nat.le_of_ble_eq_true rfl) (fun Wt => ?_) h ⟨rfl, rfl⟩
  unfold mX7_groups
  refine tr_V.aload_n (i := 0) dX7_groups_0 rfl rfl ?_
  refine tr_V.callV (C_X7_full M) yk_X7_full iv_X7_full ml_X7_236 shM_1 rfl ⟨rfl, Nat.le_of_ble_eq_true rfl⟩ rfl (Nat.le_of_ble_eq_true rfl) rfl dX7_groups_1 ?_
  refine tr_V.istore_n (i := 1) dX7_groups_4 rfl (Nat.le_of_ble_eq_true rfl) rfl ?_
  refine tr_V.iconst (v := (0 : Int32)) dX7_groups_5 (by decide) ?_
  refine tr_V.istore_n (i := 2) dX7_groups_6 rfl (Nat.le_of_ble_eq_true rfl) rfl ?_
  refine tr_V.loop (σ := Int32 × Int32) (step := mX7_groups_l7 M) (L := fun s3 => [(0, some (.ref 1)), (1, some (.int s3.1)), (2, some (.int s3.2))]) (Mf := fun s3 => M) ?_ ((mX7_full M), (0 : Int32)) ⟨rfl, rfl, rfl, trivial⟩
  intro s3
  refine tr_V.iload_n (i := 1) dX7_groups_7 rfl rfl ?_
  refine tr_V.if_eq (tgt := 122) dX7_groups_8 (by decide) ?_ ?_
  · refine tr_V.iload_n (i := 2) dX7_groups_122 rfl rfl ?_
    exact tr_V.iret dX7_groups_123 rfl (fun h => h)
  · refine tr_V.iload_n (i := 1) dX7_groups_11 rfl rfl ?_
    refine tr_V.iload_n (i := 1) dX7_groups_12 rfl rfl ?_
    refine tr_V.ineg dX7_groups_13 ?_
    refine tr_V.iand dX7_groups_14 ?_
    refine tr_V.istore_n (i := 3) dX7_groups_15 rfl (Nat.le_of_ble_eq_true rfl) rfl ?_
    refine tr_V.iconst (v := (1 : Int32)) dX7_groups_16 (by decide) ?_
    refine tr_V.istore (i := 4) dX7_groups_17 (Nat.le_of_ble_eq_true rfl) rfl ?_
    refine tr_V.seq (τ := Int32) (pc' := 110) (L := fun v4 => [(0, some (.ref 1)), (1, some (.int s3.1)), (2, some (.int s3.2)), (3, some (.int v4))]) (S := fun v4 => []) (Mf := fun v4 => M) ?_ ?_
    · refine tr_V.loop (σ := Int32 × Int32) (step := mX7_groups_l19 M) (L := fun s5 => [(0, some (.ref 1)), (1, some (.int s3.1)), (2, some (.int s3.2)), (3, some (.int s5.1)), (4, some (.int s5.2))]) (Mf := fun s5 => M) ?_ ((s3.1 &&& (-s3.1)), (1 : Int32)) ⟨rfl, rfl, rfl, rfl, rfl, trivial⟩
      intro s5
      refine tr_V.iload dX7_groups_19 rfl ?_
      refine tr_V.if_eq (tgt := 110) dX7_groups_21 (by decide) ?_ ?_
      · exact tr_V.to (fun h => h) ⟨rfl, rfl, rfl, rfl, trivial⟩
      · refine tr_V.iload_n (i := 3) dX7_groups_24 rfl rfl ?_
        refine tr_V.istore (i := 5) dX7_groups_25 (Nat.le_of_ble_eq_true rfl) rfl ?_
        refine tr_V.iconst (v := (0 : Int32)) dX7_groups_27 (by decide) ?_
        refine tr_V.istore (i := 6) dX7_groups_28 (Nat.le_of_ble_eq_true rfl) rfl ?_
        refine tr_V.seq (τ := Int32) (pc' := 94) (L := fun v6 => [(0, some (.ref 1)), (1, some (.int s3.1)), (2, some (.int s3.2)), (3, some (.int v6)), (5, some (.int s5.1))]) (S := fun v6 => []) (Mf := fun v6 => M) ?_ ?_
        · refine tr_V.loop (σ := Int32 × Int32) (step := mX7_groups_l30 M) (L := fun s7 => [(0, some (.ref 1)), (1, some (.int s3.1)), (2, some (.int s3.2)), (3, some (.int s7.1)), (5, some (.int s5.1)), (6, some (.int s7.2))]) (Mf := fun s7 => M) ?_ (s5.1, (0 : Int32)) ⟨rfl, rfl, rfl, rfl, rfl, rfl, trivial⟩
          intro s7
          refine tr_V.iload dX7_groups_30 rfl ?_
          refine tr_V.aload_n (i := 0) dX7_groups_32 rfl rfl ?_
          refine tr_V.getI fl_X7_157 shM_1 rfl dX7_groups_33 ?_
          refine tr_V.icmp_ge (tgt := 94) dX7_groups_36 (by decide) ?_ ?_
          · refine tr_V.iconst (v := (0 : Int32)) dX7_groups_39 (by decide) ?_
            refine tr_V.istore (i := 7) dX7_groups_40 (Nat.le_of_ble_eq_true rfl) rfl ?_
            refine tr_V.loop (σ := Int32 × Int32) (step := mX7_groups_l42 M s7) (L := fun s8 => [(0, some (.ref 1)), (1, some (.int s3.1)), (2, some (.int s3.2)), (3, some (.int s8.1)), (5, some (.int s5.1)), (6, some (.int s7.2)), (7, some (.int s8.2))]) (Mf := fun s8 => M) ?_ (s7.1, (0 : Int32)) ⟨rfl, rfl, rfl, rfl, rfl, rfl, rfl, trivial⟩
            intro s8
            refine tr_V.iload dX7_groups_42 rfl ?_
            refine tr_V.aload_n (i := 0) dX7_groups_44 rfl rfl ?_
            refine tr_V.getI fl_X7_157 shM_1 rfl dX7_groups_45 ?_
            refine tr_V.icmp_ge (tgt := 88) dX7_groups_48 (by decide) ?_ ?_
            · refine tr_V.iload_n (i := 3) dX7_groups_51 rfl rfl ?_
              refine tr_V.iload_n (i := 3) dX7_groups_52 rfl rfl ?_
              refine tr_V.iload dX7_groups_53 rfl ?_
              refine tr_V.callS (C_X7_has s8.1 s7.2 M) yk_X7_has sc_X7_has ml_X7_186 ⟨rfl, Nat.le_of_ble_eq_true rfl⟩ rfl (Nat.le_of_ble_eq_true rfl) rfl dX7_groups_55 ?_
              refine tr_V.if_eq (tgt := 79) dX7_groups_58 (by decide) ?_ ?_
              · refine tr_V.iconst (v := (0 : Int32)) dX7_groups_79 (by decide) ?_
                refine tr_V.ior dX7_groups_80 ?_
                refine tr_V.istore_n (i := 3) dX7_groups_81 rfl (Nat.le_of_ble_eq_true rfl) rfl ?_
                refine tr_V.iinc (cst := (1 : Int32)) dX7_groups_82 rfl (by decide) rfl ?_
                refine tr_V.goto (tgt := 42) dX7_groups_85 (by decide) ?_
                exact tr_V.to (fun h => h) ⟨rfl, rfl, rfl, rfl, rfl, rfl, rfl, trivial⟩
              · refine tr_V.aload_n (i := 0) dX7_groups_61 rfl rfl ?_
                refine tr_V.iload dX7_groups_62 rfl ?_
                refine tr_V.iload dX7_groups_64 rfl ?_
                refine tr_V.bd (fun c11 h12 => ?_)
                refine tr_V.callV (C_X7_weight s7.2 s8.2 M _ h12) yk_X7_weight iv_X7_weight ml_X7_166 shM_1 rfl ⟨rfl, Nat.le_of_ble_eq_true rfl⟩ rfl (Nat.le_of_ble_eq_true rfl) rfl dX7_groups_66 ?_
                refine tr_V.if_le (tgt := 79) dX7_groups_69 (by decide) ?_ ?_
                · refine tr_V.iconst (v := (1 : Int32)) dX7_groups_72 (by decide) ?_
                  refine tr_V.iload dX7_groups_73 rfl ?_
                  refine tr_V.ishl dX7_groups_75 ?_
                  refine tr_V.goto (tgt := 80) dX7_groups_76 (by decide) ?_
                  refine tr_V.ior dX7_groups_80 ?_
                  refine tr_V.bd (fun x13 h14 => ?_)
                  refine tr_V.nmI h14 ?_
                  refine tr_V.istore_n (i := 3) dX7_groups_81 rfl (Nat.le_of_ble_eq_true rfl) rfl ?_
                  refine tr_V.iinc (cst := (1 : Int32)) dX7_groups_82 rfl (by decide) rfl ?_
                  refine tr_V.goto (tgt := 42) dX7_groups_85 (by decide) ?_
                  exact tr_V.to (fun h => h) ⟨rfl, rfl, rfl, rfl, rfl, rfl, rfl, trivial⟩
                · refine tr_V.iconst (v := (0 : Int32)) dX7_groups_79 (by decide) ?_
                  refine tr_V.ior dX7_groups_80 ?_
                  refine tr_V.istore_n (i := 3) dX7_groups_81 rfl (Nat.le_of_ble_eq_true rfl) rfl ?_
                  refine tr_V.iinc (cst := (1 : Int32)) dX7_groups_82 rfl (by decide) rfl ?_
                  refine tr_V.goto (tgt := 42) dX7_groups_85 (by decide) ?_
                  exact tr_V.to (fun h => h) ⟨rfl, rfl, rfl, rfl, rfl, rfl, rfl, trivial⟩
            · refine tr_V.iinc (cst := (1 : Int32)) dX7_groups_88 rfl (by decide) rfl ?_
              refine tr_V.goto (tgt := 30) dX7_groups_91 (by decide) ?_
              exact tr_V.to (fun h => h) ⟨rfl, rfl, rfl, rfl, rfl, rfl, trivial⟩
          · exact tr_V.to (fun h => h) ⟨rfl, rfl, rfl, rfl, rfl, trivial⟩
        · intro v6
          refine tr_V.iload_n (i := 3) dX7_groups_94 rfl rfl ?_
          refine tr_V.iload dX7_groups_95 rfl ?_
          refine tr_V.icmp_eq (tgt := 104) dX7_groups_97 (by decide) ?_ ?_
          · refine tr_V.iconst (v := (0 : Int32)) dX7_groups_104 (by decide) ?_
            refine tr_V.istore (i := 4) dX7_groups_105 (Nat.le_of_ble_eq_true rfl) rfl ?_
            refine tr_V.goto (tgt := 19) dX7_groups_107 (by decide) ?_
            exact tr_V.to (fun h => h) ⟨rfl, rfl, rfl, rfl, rfl, trivial⟩
          · refine tr_V.iconst (v := (1 : Int32)) dX7_groups_100 (by decide) ?_
            refine tr_V.goto (tgt := 105) dX7_groups_101 (by decide) ?_
            refine tr_V.istore (i := 4) dX7_groups_105 (Nat.le_of_ble_eq_true rfl) rfl ?_
            refine tr_V.goto (tgt := 19) dX7_groups_107 (by decide) ?_
            exact tr_V.to (fun h => h) ⟨rfl, rfl, rfl, rfl, rfl, trivial⟩
    · intro v4
      refine tr_V.iload_n (i := 1) dX7_groups_110 rfl rfl ?_
      refine tr_V.iload_n (i := 3) dX7_groups_111 rfl rfl ?_
      refine tr_V.iconst (v := (-1 : Int32)) dX7_groups_112 (by decide) ?_
      refine tr_V.ixor dX7_groups_113 ?_
      refine tr_V.iand dX7_groups_114 ?_
      refine tr_V.istore_n (i := 1) dX7_groups_115 rfl (Nat.le_of_ble_eq_true rfl) rfl ?_
      refine tr_V.iinc (cst := (1 : Int32)) dX7_groups_116 rfl (by decide) rfl ?_
      refine tr_V.goto (tgt := 7) dX7_groups_119 (by decide) ?_
      exact tr_V.to (fun h => h) ⟨rfl, rfl, rfl, trivial⟩
abbrev xX7_bound : tr_X := (cX7_bound, 7, RX7, (some .int), 3, shM, 24)
theorem cw_X7_bound : Cond.code yX7_bound cX7_bound 7 (some .int) ∈ tr_tbl := tr_in 1620 (by decide +kernel) rfl
theorem yk_X7_bound : tr_yk yX7_bound (xX7_bound) 1 := ⟨cw_X7_bound, in_X7, ⟨by decide +kernel, by decide +kernel, by decide +kernel⟩, Nat.le_of_ble_eq_true rfl⟩
theorem iv_X7_bound : Cond.instanceMethod yX7_bound ∈ tr_tbl ∧ Cond.selects (yX7_bound).cls yX7_bound yX7_bound ∈ tr_tbl := ⟨tr_in 1618 (by decide +kernel) rfl, tr_in 1619 (by decide +kernel) rfl⟩
def mX7_bound_l34  (s5 : Int32 × Int32 × Int32 × Int32 × Int32 × tr_M) : Option ((Int32 × Int32 × Int32 × Int32 × Int32 × tr_M) ⊕ (Int32 × Int32 × Int32 × Int32 × tr_M)) :=
  if s5.2.2.2.2.1 < (s5.2.2.2.2.2.1 1 10) then (
    Option.bind (mX7_nearestOf s5.2.2.2.2.1 s5.2.2.2.2.2) (fun c6 =>
    Option.bind (mX7_tiesOf s5.2.2.2.2.1 c6.2) (fun c8 =>
    Option.bind (mX7_weightOf s5.2.2.2.2.1 c6.2) (fun c12 =>
    Option.bind (mX7_tiesOf s5.2.2.2.2.1 c6.2) (fun c16 =>
    some (.inl ((s5.1 + c6.1), (mX7_greater s5.2.1 c8), (mX7_greater s5.2.2.1 c12), (mX7_lesser s5.2.2.2.1 c16), (s5.2.2.2.2.1 + (1 : Int32)), c6.2))
    )
    )
    )
    )
  ) else (
    some (.inr (s5.1, s5.2.1, s5.2.2.1, s5.2.2.2.1, s5.2.2.2.2.2))
  )
def mX7_bound (p1 : Int32) (M : tr_M) : Option (Int32 × tr_M) :=
  Option.bind (mX7_isMeasure p1) (fun c1 =>
  if c1 = 0 then (
    some ((-1 : Int32), M)
  ) else (
    Option.bind (show Option (Int32) from
      if (M.1 1 10) = 0 then (
        some (0 : Int32)
      ) else (
        some (10 : Int32)
      )
    ) (fun (v3 : Int32) =>
      Option.bind (show Option (Int32 × Int32 × Int32 × Int32 × tr_M) from
        tr_loop (mX7_bound_l34) ((0 : Int32), (0 : Int32), (0 : Int32), v3, (0 : Int32), M)
      ) (fun (v4 : Int32 × Int32 × Int32 × Int32 × tr_M) =>
        if p1 = (0 : Int32) then (
          some (((v4.1 + (1 : Int32)) / (2 : Int32)), v4.2.2.2.2)
        ) else (
        if p1 = (1 : Int32) then (
          some (((v4.2.2.1 + (1 : Int32)) / (2 : Int32)), v4.2.2.2.2)
        ) else (
        if p1 = (2 : Int32) then (
          some (v4.2.2.2.1, v4.2.2.2.2)
        ) else (
        if p1 = (3 : Int32) then (
          Option.bind (mX7_groups v4.2.2.2.2) (fun c23 =>
          some (((v4.2.2.2.2.1 1 10) - c23), v4.2.2.2.2)
          )
        ) else (
          some (((v4.2.1 + (1 : Int32)) / (2 : Int32)), v4.2.2.2.2)
        ))))
      )
    )
  )
  )
set_option maxRecDepth 100000 in
set_option maxHeartbeats 4000000 in
theorem C_X7_bound (p1 : Int32) (M : tr_M) (r : Int32 × tr_M) (h : mX7_bound p1 M = some r) : tr_I yX7_bound (xX7_bound) [.ref 1, .int p1] M (some (.int r.1)) r.2 := by
  refine tr_I.of (Z := fun q : Int32 × tr_M => (some (.int r.1) : Option Value) = some (.int q.1) ∧ r.2 = q.2) pn_X7 rfl gdM (Nat.le_of_ble_eq_true rfl) (fun Wt => ?_) h ⟨rfl, rfl⟩
  unfold mX7_bound
  refine tr_V.iload_n (i := 1) dX7_bound_0 rfl rfl ?_
  refine tr_V.bd (fun c1 h2 => ?_)
  refine tr_V.callS (C_X7_isMeasure p1 M _ h2) yk_X7_isMeasure sc_X7_isMeasure ml_X7_211 ⟨rfl, Nat.le_of_ble_eq_true rfl⟩ rfl (Nat.le_of_ble_eq_true rfl) rfl dX7_bound_1 ?_
  refine tr_V.if_ne (tgt := 9) dX7_bound_4 (by decide) ?_ ?_
  · refine tr_V.iconst (v := (-1 : Int32)) dX7_bound_7 (by decide) ?_
    exact tr_V.iret dX7_bound_8 rfl (fun h => h)
  · refine tr_V.iconst (v := (0 : Int32)) dX7_bound_9 (by decide) ?_
    refine tr_V.istore_n (i := 2) dX7_bound_10 rfl (Nat.le_of_ble_eq_true rfl) rfl ?_
    refine tr_V.iconst (v := (0 : Int32)) dX7_bound_11 (by decide) ?_
    refine tr_V.istore_n (i := 3) dX7_bound_12 rfl (Nat.le_of_ble_eq_true rfl) rfl ?_
    refine tr_V.iconst (v := (0 : Int32)) dX7_bound_13 (by decide) ?_
    refine tr_V.istore (i := 4) dX7_bound_14 (Nat.le_of_ble_eq_true rfl) rfl ?_
    refine tr_V.aload_n (i := 0) dX7_bound_16 rfl rfl ?_
    refine tr_V.getI fl_X7_157 shM_1 rfl dX7_bound_17 ?_
    refine tr_V.seq (τ := Int32) (pc' := 29) (L := fun v3 => [(0, some (.ref 1)), (1, some (.int p1)), (2, some (.int (0 : Int32))), (3, some (.int (0 : Int32))), (4, some (.int (0 : Int32)))]) (S := fun v3 => [.int v3]) (Mf := fun v3 => M) ?_ ?_
    · refine tr_V.if_ne (tgt := 27) dX7_bound_20 (by decide) ?_ ?_
      · refine tr_V.iconst (v := (0 : Int32)) dX7_bound_23 (by decide) ?_
        refine tr_V.goto (tgt := 29) dX7_bound_24 (by decide) ?_
        exact tr_V.to (fun h => h) ⟨rfl, rfl, rfl, rfl, rfl, trivial⟩
      · refine tr_V.bipush (v := (10 : Int32)) dX7_bound_27 (by decide) ?_
        exact tr_V.to (fun h => h) ⟨rfl, rfl, rfl, rfl, rfl, trivial⟩
    · intro v3
      refine tr_V.istore (i := 5) dX7_bound_29 (Nat.le_of_ble_eq_true rfl) rfl ?_
      refine tr_V.iconst (v := (0 : Int32)) dX7_bound_31 (by decide) ?_
      refine tr_V.istore (i := 6) dX7_bound_32 (Nat.le_of_ble_eq_true rfl) rfl ?_
      refine tr_V.seq (τ := Int32 × Int32 × Int32 × Int32 × tr_M) (pc' := 95) (L := fun v4 => [(0, some (.ref 1)), (1, some (.int p1)), (2, some (.int v4.1)), (3, some (.int v4.2.1)), (4, some (.int v4.2.2.1)), (5, some (.int v4.2.2.2.1))]) (S := fun v4 => []) (Mf := fun v4 => v4.2.2.2.2) ?_ ?_
      · refine tr_V.loop (σ := Int32 × Int32 × Int32 × Int32 × Int32 × tr_M) (step := mX7_bound_l34) (L := fun s5 => [(0, some (.ref 1)), (1, some (.int p1)), (2, some (.int s5.1)), (3, some (.int s5.2.1)), (4, some (.int s5.2.2.1)), (5, some (.int s5.2.2.2.1)), (6, some (.int s5.2.2.2.2.1))]) (Mf := fun s5 => s5.2.2.2.2.2) ?_ ((0 : Int32), (0 : Int32), (0 : Int32), v3, (0 : Int32), M) ⟨rfl, rfl, rfl, rfl, rfl, rfl, rfl, trivial⟩
        intro s5
        refine tr_V.iload dX7_bound_34 rfl ?_
        refine tr_V.aload_n (i := 0) dX7_bound_36 rfl rfl ?_
        refine tr_V.getI fl_X7_157 shM_1 rfl dX7_bound_37 ?_
        refine tr_V.icmp_ge (tgt := 95) dX7_bound_40 (by decide) ?_ ?_
        · refine tr_V.iload_n (i := 2) dX7_bound_43 rfl rfl ?_
          refine tr_V.aload_n (i := 0) dX7_bound_44 rfl rfl ?_
          refine tr_V.iload dX7_bound_45 rfl ?_
          refine tr_V.bd (fun c6 h7 => ?_)
          refine tr_V.callV (C_X7_nearestOf s5.2.2.2.2.1 s5.2.2.2.2.2 _ h7) yk_X7_nearestOf iv_X7_nearestOf ml_X7_323 shM_1 rfl ⟨rfl, Nat.le_of_ble_eq_true rfl⟩ rfl (Nat.le_of_ble_eq_true rfl) rfl dX7_bound_47 ?_
          refine tr_V.iadd dX7_bound_50 ?_
          refine tr_V.istore_n (i := 2) dX7_bound_51 rfl (Nat.le_of_ble_eq_true rfl) rfl ?_
          refine tr_V.iload_n (i := 3) dX7_bound_52 rfl rfl ?_
          refine tr_V.aload_n (i := 0) dX7_bound_53 rfl rfl ?_
          refine tr_V.iload dX7_bound_54 rfl ?_
          refine tr_V.bd (fun c8 h9 => ?_)
          refine tr_V.callV (C_X7_tiesOf s5.2.2.2.2.1 c6.2 _ h9) yk_X7_tiesOf iv_X7_tiesOf ml_X7_326 shM_1 rfl ⟨rfl, Nat.le_of_ble_eq_true rfl⟩ rfl (Nat.le_of_ble_eq_true rfl) rfl dX7_bound_56 ?_
          refine tr_V.callS (C_X7_greater s5.2.1 c8 c6.2) yk_X7_greater sc_X7_greater ml_X7_192 ⟨rfl, Nat.le_of_ble_eq_true rfl⟩ rfl (Nat.le_of_ble_eq_true rfl) rfl dX7_bound_59 ?_
          refine tr_V.istore_n (i := 3) dX7_bound_62 rfl (Nat.le_of_ble_eq_true rfl) rfl ?_
          refine tr_V.iload dX7_bound_63 rfl ?_
          refine tr_V.aload_n (i := 0) dX7_bound_65 rfl rfl ?_
          refine tr_V.iload dX7_bound_66 rfl ?_
          refine tr_V.bd (fun c12 h13 => ?_)
          refine tr_V.callV (C_X7_weightOf s5.2.2.2.2.1 c6.2 _ h13) yk_X7_weightOf iv_X7_weightOf ml_X7_329 shM_1 rfl ⟨rfl, Nat.le_of_ble_eq_true rfl⟩ rfl (Nat.le_of_ble_eq_true rfl) rfl dX7_bound_68 ?_
          refine tr_V.callS (C_X7_greater s5.2.2.1 c12 c6.2) yk_X7_greater sc_X7_greater ml_X7_192 ⟨rfl, Nat.le_of_ble_eq_true rfl⟩ rfl (Nat.le_of_ble_eq_true rfl) rfl dX7_bound_71 ?_
          refine tr_V.istore (i := 4) dX7_bound_74 (Nat.le_of_ble_eq_true rfl) rfl ?_
          refine tr_V.iload dX7_bound_76 rfl ?_
          refine tr_V.aload_n (i := 0) dX7_bound_78 rfl rfl ?_
          refine tr_V.iload dX7_bound_79 rfl ?_
          refine tr_V.bd (fun c16 h17 => ?_)
          refine tr_V.callV (C_X7_tiesOf s5.2.2.2.2.1 c6.2 _ h17) yk_X7_tiesOf iv_X7_tiesOf ml_X7_326 shM_1 rfl ⟨rfl, Nat.le_of_ble_eq_true rfl⟩ rfl (Nat.le_of_ble_eq_true rfl) rfl dX7_bound_81 ?_
          refine tr_V.callS (C_X7_lesser s5.2.2.2.1 c16 c6.2) yk_X7_lesser sc_X7_lesser ml_X7_183 ⟨rfl, Nat.le_of_ble_eq_true rfl⟩ rfl (Nat.le_of_ble_eq_true rfl) rfl dX7_bound_84 ?_
          refine tr_V.istore (i := 5) dX7_bound_87 (Nat.le_of_ble_eq_true rfl) rfl ?_
          refine tr_V.iinc (cst := (1 : Int32)) dX7_bound_89 rfl (by decide) rfl ?_
          refine tr_V.goto (tgt := 34) dX7_bound_92 (by decide) ?_
          exact tr_V.to (fun h => h) ⟨rfl, rfl, rfl, rfl, rfl, rfl, rfl, trivial⟩
        · exact tr_V.to (fun h => h) ⟨rfl, rfl, rfl, rfl, rfl, rfl, trivial⟩
      · intro v4
        refine tr_V.iload_n (i := 1) dX7_bound_95 rfl rfl ?_
        refine tr_V.case (k := (0 : Int32)) (fun c20 => ?_) (fun c20 => ?_)
        · refine tr_V.tableIn (tgt := 128) dX7_bound_96 c20 (by decide) rfl (by decide) ?_
          refine tr_V.iload_n (i := 2) dX7_bound_128 rfl rfl ?_
          refine tr_V.iconst (v := (1 : Int32)) dX7_bound_129 (by decide) ?_
          refine tr_V.iadd dX7_bound_130 ?_
          refine tr_V.iconst (v := (2 : Int32)) dX7_bound_131 (by decide) ?_
          refine tr_V.idivL dX7_bound_132 (by decide) ?_
          exact tr_V.iret dX7_bound_133 rfl (fun h => h)
        · refine tr_V.case (k := (1 : Int32)) (fun c21 => ?_) (fun c21 => ?_)
          · refine tr_V.tableIn (tgt := 134) dX7_bound_96 c21 (by decide) rfl (by decide) ?_
            refine tr_V.iload dX7_bound_134 rfl ?_
            refine tr_V.iconst (v := (1 : Int32)) dX7_bound_136 (by decide) ?_
            refine tr_V.iadd dX7_bound_137 ?_
            refine tr_V.iconst (v := (2 : Int32)) dX7_bound_138 (by decide) ?_
            refine tr_V.idivL dX7_bound_139 (by decide) ?_
            exact tr_V.iret dX7_bound_140 rfl (fun h => h)
          · refine tr_V.case (k := (2 : Int32)) (fun c22 => ?_) (fun c22 => ?_)
            · refine tr_V.tableIn (tgt := 141) dX7_bound_96 c22 (by decide) rfl (by decide) ?_
              refine tr_V.iload dX7_bound_141 rfl ?_
              exact tr_V.iret dX7_bound_143 rfl (fun h => h)
            · refine tr_V.case (k := (3 : Int32)) (fun c25 => ?_) (fun c25 => ?_)
              · refine tr_V.tableIn (tgt := 144) dX7_bound_96 c25 (by decide) rfl (by decide) ?_
                refine tr_V.aload_n (i := 0) dX7_bound_144 rfl rfl ?_
                refine tr_V.getI fl_X7_157 shM_1 rfl dX7_bound_145 ?_
                refine tr_V.aload_n (i := 0) dX7_bound_148 rfl rfl ?_
                refine tr_V.bd (fun c23 h24 => ?_)
                refine tr_V.callV (C_X7_groups v4.2.2.2.2 _ h24) yk_X7_groups iv_X7_groups ml_X7_332 shM_1 rfl ⟨rfl, Nat.le_of_ble_eq_true rfl⟩ rfl (Nat.le_of_ble_eq_true rfl) rfl dX7_bound_149 ?_
                refine tr_V.isub dX7_bound_152 ?_
                exact tr_V.iret dX7_bound_153 rfl (fun h => h)
              · refine tr_V.tableOut (tgt := 154) dX7_bound_96 (by have := lv_neT c20 (a := 0) (by decide); have := lv_neT c21 (a := 1) (by decide); have := lv_neT c22 (a := 2) (by decide); have := lv_neT c25 (a := 3) (by decide); omega) (by decide) ?_
                refine tr_V.iload_n (i := 3) dX7_bound_154 rfl rfl ?_
                refine tr_V.iconst (v := (1 : Int32)) dX7_bound_155 (by decide) ?_
                refine tr_V.iadd dX7_bound_156 ?_
                refine tr_V.iconst (v := (2 : Int32)) dX7_bound_157 (by decide) ?_
                refine tr_V.idivL dX7_bound_158 (by decide) ?_
                exact tr_V.iret dX7_bound_159 rfl (fun h => h)
abbrev xX7_costs : tr_X := (cX7_costs, 7, RX7, (some .int), 7, shM, 24)
theorem cw_X7_costs : Cond.code yX7_costs cX7_costs 7 (some .int) ∈ tr_tbl := tr_in 1640 (by decide +kernel) rfl
theorem yk_X7_costs : tr_yk yX7_costs (xX7_costs) 3 := ⟨cw_X7_costs, in_X7, ⟨by decide +kernel, by decide +kernel, by decide +kernel⟩, Nat.le_of_ble_eq_true rfl⟩
theorem iv_X7_costs : Cond.instanceMethod yX7_costs ∈ tr_tbl ∧ Cond.selects (yX7_costs).cls yX7_costs yX7_costs ∈ tr_tbl := ⟨tr_in 1638 (by decide +kernel) rfl, tr_in 1639 (by decide +kernel) rfl⟩
def mX7_costs (p1 : Int32) (p2 : Int32) (p3 : Int32) (M : tr_M) : Option (Int32 × tr_M) :=
  Option.bind (mX7_isMeasure p1) (fun c1 =>
  if c1 = 0 then (
    some ((-1 : Int32), M)
  ) else (
    Option.bind (mX7_isThing p2 M) (fun c3 =>
    if c3 = 0 then (
      some ((-1 : Int32), M)
    ) else (
      Option.bind (mX7_isThing p3 M) (fun c5 =>
      if c5 = 0 then (
        some ((-1 : Int32), M)
      ) else (
        if p2 = p3 then (
          some ((-1 : Int32), M)
        ) else (
          if (mX7_isTooLong p1 M) = 0 then (
            Option.bind (mX7_leastOf p1 M) (fun c9 =>
            if c9.1 < (1000000 : Int32) then (
              Option.bind (mX7_weight p2 p3 c9.2) (fun c11 =>
              Option.bind (mX7_layTie p2 p3 (0 : Int32) c9.2) (fun c13 =>
              Option.bind (mX7_leastOf p1 c13) (fun c15 =>
              Option.bind (mX7_layTie p2 p3 c11 c15.2) (fun c17 =>
              some ((c9.1 - c15.1), c17)
              )
              )
              )
              )
            ) else (
              Option.bind (mX7_meets (4 : Int32) c9.2) (fun c19 =>
              some (c19.1, c19.2)
              )
            )
            )
          ) else (
            some ((-6 : Int32), M)
          )
        )
      )
      )
    )
    )
  )
  )
set_option maxRecDepth 100000 in
set_option maxHeartbeats 4000000 in
theorem C_X7_costs (p1 : Int32) (p2 : Int32) (p3 : Int32) (M : tr_M) (r : Int32 × tr_M) (h : mX7_costs p1 p2 p3 M = some r) : tr_I yX7_costs (xX7_costs) [.ref 1, .int p1, .int p2, .int p3] M (some (.int r.1)) r.2 := by
  refine tr_I.of (Z := fun q : Int32 × tr_M => (some (.int r.1) : Option Value) = some (.int q.1) ∧ r.2 = q.2) pn_X7 rfl gdM (Nat.le_of_ble_eq_true rfl) (fun Wt => ?_) h ⟨rfl, rfl⟩
  unfold mX7_costs
  refine tr_V.iload_n (i := 1) dX7_costs_0 rfl rfl ?_
  refine tr_V.bd (fun c1 h2 => ?_)
  refine tr_V.callS (C_X7_isMeasure p1 M _ h2) yk_X7_isMeasure sc_X7_isMeasure ml_X7_211 ⟨rfl, Nat.le_of_ble_eq_true rfl⟩ rfl (Nat.le_of_ble_eq_true rfl) rfl dX7_costs_1 ?_
  refine tr_V.if_eq (tgt := 28) dX7_costs_4 (by decide) ?_ ?_
  · refine tr_V.iconst (v := (-1 : Int32)) dX7_costs_28 (by decide) ?_
    exact tr_V.iret dX7_costs_29 rfl (fun h => h)
  · refine tr_V.aload_n (i := 0) dX7_costs_7 rfl rfl ?_
    refine tr_V.iload_n (i := 2) dX7_costs_8 rfl rfl ?_
    refine tr_V.bd (fun c3 h4 => ?_)
    refine tr_V.callV (C_X7_isThing p2 M _ h4) yk_X7_isThing iv_X7_isThing ml_X7_163 shM_1 rfl ⟨rfl, Nat.le_of_ble_eq_true rfl⟩ rfl (Nat.le_of_ble_eq_true rfl) rfl dX7_costs_9 ?_
    refine tr_V.if_eq (tgt := 28) dX7_costs_12 (by decide) ?_ ?_
    · refine tr_V.iconst (v := (-1 : Int32)) dX7_costs_28 (by decide) ?_
      exact tr_V.iret dX7_costs_29 rfl (fun h => h)
    · refine tr_V.aload_n (i := 0) dX7_costs_15 rfl rfl ?_
      refine tr_V.iload_n (i := 3) dX7_costs_16 rfl rfl ?_
      refine tr_V.bd (fun c5 h6 => ?_)
      refine tr_V.callV (C_X7_isThing p3 M _ h6) yk_X7_isThing iv_X7_isThing ml_X7_163 shM_1 rfl ⟨rfl, Nat.le_of_ble_eq_true rfl⟩ rfl (Nat.le_of_ble_eq_true rfl) rfl dX7_costs_17 ?_
      refine tr_V.if_eq (tgt := 28) dX7_costs_20 (by decide) ?_ ?_
      · refine tr_V.iconst (v := (-1 : Int32)) dX7_costs_28 (by decide) ?_
        exact tr_V.iret dX7_costs_29 rfl (fun h => h)
      · refine tr_V.iload_n (i := 2) dX7_costs_23 rfl rfl ?_
        refine tr_V.iload_n (i := 3) dX7_costs_24 rfl rfl ?_
        refine tr_V.icmp_ne (tgt := 30) dX7_costs_25 (by decide) ?_ ?_
        · refine tr_V.iconst (v := (-1 : Int32)) dX7_costs_28 (by decide) ?_
          exact tr_V.iret dX7_costs_29 rfl (fun h => h)
        · refine tr_V.aload_n (i := 0) dX7_costs_30 rfl rfl ?_
          refine tr_V.iload_n (i := 1) dX7_costs_31 rfl rfl ?_
          refine tr_V.callV (C_X7_isTooLong p1 M) yk_X7_isTooLong iv_X7_isTooLong ml_X7_286 shM_1 rfl ⟨rfl, Nat.le_of_ble_eq_true rfl⟩ rfl (Nat.le_of_ble_eq_true rfl) rfl dX7_costs_32 ?_
          refine tr_V.if_eq (tgt := 41) dX7_costs_35 (by decide) ?_ ?_
          · refine tr_V.aload_n (i := 0) dX7_costs_41 rfl rfl ?_
            refine tr_V.iload_n (i := 1) dX7_costs_42 rfl rfl ?_
            refine tr_V.bd (fun c9 h10 => ?_)
            refine tr_V.callV (C_X7_leastOf p1 M _ h10) yk_X7_leastOf iv_X7_leastOf ml_X7_289 shM_1 rfl ⟨rfl, Nat.le_of_ble_eq_true rfl⟩ rfl (Nat.le_of_ble_eq_true rfl) rfl dX7_costs_43 ?_
            refine tr_V.istore (i := 4) dX7_costs_46 (Nat.le_of_ble_eq_true rfl) rfl ?_
            refine tr_V.iload dX7_costs_48 rfl ?_
            refine tr_V.ldc ct_X7_246 dX7_costs_50 ?_
            refine tr_V.icmp_lt (tgt := 61) dX7_costs_52 (by decide) ?_ ?_
            · refine tr_V.aload_n (i := 0) dX7_costs_61 rfl rfl ?_
              refine tr_V.iload_n (i := 2) dX7_costs_62 rfl rfl ?_
              refine tr_V.iload_n (i := 3) dX7_costs_63 rfl rfl ?_
              refine tr_V.bd (fun c11 h12 => ?_)
              refine tr_V.callV (C_X7_weight p2 p3 c9.2 _ h12) yk_X7_weight iv_X7_weight ml_X7_166 shM_1 rfl ⟨rfl, Nat.le_of_ble_eq_true rfl⟩ rfl (Nat.le_of_ble_eq_true rfl) rfl dX7_costs_64 ?_
              refine tr_V.istore (i := 5) dX7_costs_67 (Nat.le_of_ble_eq_true rfl) rfl ?_
              refine tr_V.aload_n (i := 0) dX7_costs_69 rfl rfl ?_
              refine tr_V.iload_n (i := 2) dX7_costs_70 rfl rfl ?_
              refine tr_V.iload_n (i := 3) dX7_costs_71 rfl rfl ?_
              refine tr_V.iconst (v := (0 : Int32)) dX7_costs_72 (by decide) ?_
              refine tr_V.bd (fun c13 h14 => ?_)
              refine tr_V.callV (C_X7_layTie p2 p3 (0 : Int32) c9.2 _ h14) yk_X7_layTie iv_X7_layTie ml_X7_169 shM_1 rfl ⟨rfl, Nat.le_of_ble_eq_true rfl⟩ rfl (Nat.le_of_ble_eq_true rfl) rfl dX7_costs_73 ?_
              refine tr_V.aload_n (i := 0) dX7_costs_76 rfl rfl ?_
              refine tr_V.iload_n (i := 1) dX7_costs_77 rfl rfl ?_
              refine tr_V.bd (fun c15 h16 => ?_)
              refine tr_V.callV (C_X7_leastOf p1 c13 _ h16) yk_X7_leastOf iv_X7_leastOf ml_X7_289 shM_1 rfl ⟨rfl, Nat.le_of_ble_eq_true rfl⟩ rfl (Nat.le_of_ble_eq_true rfl) rfl dX7_costs_78 ?_
              refine tr_V.istore (i := 6) dX7_costs_81 (Nat.le_of_ble_eq_true rfl) rfl ?_
              refine tr_V.aload_n (i := 0) dX7_costs_83 rfl rfl ?_
              refine tr_V.iload_n (i := 2) dX7_costs_84 rfl rfl ?_
              refine tr_V.iload_n (i := 3) dX7_costs_85 rfl rfl ?_
              refine tr_V.iload dX7_costs_86 rfl ?_
              refine tr_V.bd (fun c17 h18 => ?_)
              refine tr_V.callV (C_X7_layTie p2 p3 c11 c15.2 _ h18) yk_X7_layTie iv_X7_layTie ml_X7_169 shM_1 rfl ⟨rfl, Nat.le_of_ble_eq_true rfl⟩ rfl (Nat.le_of_ble_eq_true rfl) rfl dX7_costs_88 ?_
              refine tr_V.iload dX7_costs_91 rfl ?_
              refine tr_V.iload dX7_costs_93 rfl ?_
              refine tr_V.isub dX7_costs_95 ?_
              exact tr_V.iret dX7_costs_96 rfl (fun h => h)
            · refine tr_V.aload_n (i := 0) dX7_costs_55 rfl rfl ?_
              refine tr_V.iconst (v := (4 : Int32)) dX7_costs_56 (by decide) ?_
              refine tr_V.bd (fun c19 h20 => ?_)
              refine tr_V.callV (C_X7_meets (4 : Int32) c9.2 _ h20) yk_X7_meets iv_X7_meets ml_X7_106 shM_1 rfl ⟨rfl, Nat.le_of_ble_eq_true rfl⟩ rfl (Nat.le_of_ble_eq_true rfl) rfl dX7_costs_57 ?_
              exact tr_V.iret dX7_costs_60 rfl (fun h => h)
          · refine tr_V.bipush (v := (-6 : Int32)) dX7_costs_38 (by decide) ?_
            exact tr_V.iret dX7_costs_40 rfl (fun h => h)
abbrev xX7_bars : tr_X := (cX7_bars, 6, RX7, (some .int), 7, shM, 24)
theorem cw_X7_bars : Cond.code yX7_bars cX7_bars 6 (some .int) ∈ tr_tbl := tr_in 1644 (by decide +kernel) rfl
theorem yk_X7_bars : tr_yk yX7_bars (xX7_bars) 2 := ⟨cw_X7_bars, in_X7, ⟨by decide +kernel, by decide +kernel, by decide +kernel⟩, Nat.le_of_ble_eq_true rfl⟩
theorem iv_X7_bars : Cond.instanceMethod yX7_bars ∈ tr_tbl ∧ Cond.selects (yX7_bars).cls yX7_bars yX7_bars ∈ tr_tbl := ⟨tr_in 1642 (by decide +kernel) rfl, tr_in 1643 (by decide +kernel) rfl⟩
def mX7_bars (p1 : Int32) (p2 : Int32) (M : tr_M) : Option (Int32 × tr_M) :=
  Option.bind (mX7_isMeasure p1) (fun c1 =>
  if c1 = 0 then (
    some ((-1 : Int32), M)
  ) else (
    Option.bind (mX7_isRule p2 M) (fun c3 =>
    if c3 = 0 then (
      some ((-1 : Int32), M)
    ) else (
      if (mX7_isTooLong p1 M) = 0 then (
        Option.bind (mX7_leastOf p1 M) (fun c7 =>
        if c7.1 < (1000000 : Int32) then (
          Option.bind (mX7_ruleAt p2 (4 : Int32) c7.2) (fun c9 =>
          Option.bind (tr_wr 40 c7.2 9 (((5 : Int32) * p2) + (4 : Int32)) (1 : Int32)) (fun M11 =>
          Option.bind (mX7_leastOf p1 M11) (fun c13 =>
          Option.bind (tr_wr 40 c13.2 9 (((5 : Int32) * p2) + (4 : Int32)) c9) (fun M15 =>
          some ((c7.1 - c13.1), M15)
          )
          )
          )
          )
        ) else (
          Option.bind (mX7_meets (4 : Int32) c7.2) (fun c17 =>
          some (c17.1, c17.2)
          )
        )
        )
      ) else (
        some ((-6 : Int32), M)
      )
    )
    )
  )
  )
set_option maxRecDepth 100000 in
set_option maxHeartbeats 4000000 in
theorem C_X7_bars (p1 : Int32) (p2 : Int32) (M : tr_M) (r : Int32 × tr_M) (h : mX7_bars p1 p2 M = some r) : tr_I yX7_bars (xX7_bars) [.ref 1, .int p1, .int p2] M (some (.int r.1)) r.2 := by
  refine tr_I.of (Z := fun q : Int32 × tr_M => (some (.int r.1) : Option Value) = some (.int q.1) ∧ r.2 = q.2) pn_X7 rfl gdM (Nat.le_of_ble_eq_true rfl) (fun Wt => ?_) h ⟨rfl, rfl⟩
  unfold mX7_bars
  refine tr_V.iload_n (i := 1) dX7_bars_0 rfl rfl ?_
  refine tr_V.bd (fun c1 h2 => ?_)
  refine tr_V.callS (C_X7_isMeasure p1 M _ h2) yk_X7_isMeasure sc_X7_isMeasure ml_X7_211 ⟨rfl, Nat.le_of_ble_eq_true rfl⟩ rfl (Nat.le_of_ble_eq_true rfl) rfl dX7_bars_1 ?_
  refine tr_V.if_eq (tgt := 15) dX7_bars_4 (by decide) ?_ ?_
  · refine tr_V.iconst (v := (-1 : Int32)) dX7_bars_15 (by decide) ?_
    exact tr_V.iret dX7_bars_16 rfl (fun h => h)
  · refine tr_V.aload_n (i := 0) dX7_bars_7 rfl rfl ?_
    refine tr_V.iload_n (i := 2) dX7_bars_8 rfl rfl ?_
    refine tr_V.bd (fun c3 h4 => ?_)
    refine tr_V.callV (C_X7_isRule p2 M _ h4) yk_X7_isRule iv_X7_isRule ml_X7_177 shM_1 rfl ⟨rfl, Nat.le_of_ble_eq_true rfl⟩ rfl (Nat.le_of_ble_eq_true rfl) rfl dX7_bars_9 ?_
    refine tr_V.if_ne (tgt := 17) dX7_bars_12 (by decide) ?_ ?_
    · refine tr_V.iconst (v := (-1 : Int32)) dX7_bars_15 (by decide) ?_
      exact tr_V.iret dX7_bars_16 rfl (fun h => h)
    · refine tr_V.aload_n (i := 0) dX7_bars_17 rfl rfl ?_
      refine tr_V.iload_n (i := 1) dX7_bars_18 rfl rfl ?_
      refine tr_V.callV (C_X7_isTooLong p1 M) yk_X7_isTooLong iv_X7_isTooLong ml_X7_286 shM_1 rfl ⟨rfl, Nat.le_of_ble_eq_true rfl⟩ rfl (Nat.le_of_ble_eq_true rfl) rfl dX7_bars_19 ?_
      refine tr_V.if_eq (tgt := 28) dX7_bars_22 (by decide) ?_ ?_
      · refine tr_V.aload_n (i := 0) dX7_bars_28 rfl rfl ?_
        refine tr_V.iload_n (i := 1) dX7_bars_29 rfl rfl ?_
        refine tr_V.bd (fun c7 h8 => ?_)
        refine tr_V.callV (C_X7_leastOf p1 M _ h8) yk_X7_leastOf iv_X7_leastOf ml_X7_289 shM_1 rfl ⟨rfl, Nat.le_of_ble_eq_true rfl⟩ rfl (Nat.le_of_ble_eq_true rfl) rfl dX7_bars_30 ?_
        refine tr_V.istore_n (i := 3) dX7_bars_33 rfl (Nat.le_of_ble_eq_true rfl) rfl ?_
        refine tr_V.iload_n (i := 3) dX7_bars_34 rfl rfl ?_
        refine tr_V.ldc ct_X7_246 dX7_bars_35 ?_
        refine tr_V.icmp_lt (tgt := 46) dX7_bars_37 (by decide) ?_ ?_
        · refine tr_V.aload_n (i := 0) dX7_bars_46 rfl rfl ?_
          refine tr_V.iload_n (i := 2) dX7_bars_47 rfl rfl ?_
          refine tr_V.iconst (v := (4 : Int32)) dX7_bars_48 (by decide) ?_
          refine tr_V.bd (fun c9 h10 => ?_)
          refine tr_V.callV (C_X7_ruleAt p2 (4 : Int32) c7.2 _ h10) yk_X7_ruleAt iv_X7_ruleAt ml_X7_180 shM_1 rfl ⟨rfl, Nat.le_of_ble_eq_true rfl⟩ rfl (Nat.le_of_ble_eq_true rfl) rfl dX7_bars_49 ?_
          refine tr_V.istore (i := 4) dX7_bars_52 (Nat.le_of_ble_eq_true rfl) rfl ?_
          refine tr_V.aload_n (i := 0) dX7_bars_54 rfl rfl ?_
          refine tr_V.getR (Nat.succ_pos _) fl_X7_32 shM_1 rfl dX7_bars_55 ?_
          refine tr_V.iconst (v := (5 : Int32)) dX7_bars_58 (by decide) ?_
          refine tr_V.iload_n (i := 2) dX7_bars_59 rfl rfl ?_
          refine tr_V.imul dX7_bars_60 ?_
          refine tr_V.iconst (v := (4 : Int32)) dX7_bars_61 (by decide) ?_
          refine tr_V.iadd dX7_bars_62 ?_
          refine tr_V.iconst (v := (1 : Int32)) dX7_bars_63 (by decide) ?_
          refine tr_V.bd (fun M11 h12 => ?_)
          refine tr_V.iast h12 shM_9 dX7_bars_64 ?_
          refine tr_V.aload_n (i := 0) dX7_bars_65 rfl rfl ?_
          refine tr_V.iload_n (i := 1) dX7_bars_66 rfl rfl ?_
          refine tr_V.bd (fun c13 h14 => ?_)
          refine tr_V.callV (C_X7_leastOf p1 M11 _ h14) yk_X7_leastOf iv_X7_leastOf ml_X7_289 shM_1 rfl ⟨rfl, Nat.le_of_ble_eq_true rfl⟩ rfl (Nat.le_of_ble_eq_true rfl) rfl dX7_bars_67 ?_
          refine tr_V.istore (i := 5) dX7_bars_70 (Nat.le_of_ble_eq_true rfl) rfl ?_
          refine tr_V.aload_n (i := 0) dX7_bars_72 rfl rfl ?_
          refine tr_V.getR (Nat.succ_pos _) fl_X7_32 shM_1 rfl dX7_bars_73 ?_
          refine tr_V.iconst (v := (5 : Int32)) dX7_bars_76 (by decide) ?_
          refine tr_V.iload_n (i := 2) dX7_bars_77 rfl rfl ?_
          refine tr_V.imul dX7_bars_78 ?_
          refine tr_V.iconst (v := (4 : Int32)) dX7_bars_79 (by decide) ?_
          refine tr_V.iadd dX7_bars_80 ?_
          refine tr_V.iload dX7_bars_81 rfl ?_
          refine tr_V.bd (fun M15 h16 => ?_)
          refine tr_V.iast h16 shM_9 dX7_bars_83 ?_
          refine tr_V.iload_n (i := 3) dX7_bars_84 rfl rfl ?_
          refine tr_V.iload dX7_bars_85 rfl ?_
          refine tr_V.isub dX7_bars_87 ?_
          exact tr_V.iret dX7_bars_88 rfl (fun h => h)
        · refine tr_V.aload_n (i := 0) dX7_bars_40 rfl rfl ?_
          refine tr_V.iconst (v := (4 : Int32)) dX7_bars_41 (by decide) ?_
          refine tr_V.bd (fun c17 h18 => ?_)
          refine tr_V.callV (C_X7_meets (4 : Int32) c7.2 _ h18) yk_X7_meets iv_X7_meets ml_X7_106 shM_1 rfl ⟨rfl, Nat.le_of_ble_eq_true rfl⟩ rfl (Nat.le_of_ble_eq_true rfl) rfl dX7_bars_42 ?_
          exact tr_V.iret dX7_bars_45 rfl (fun h => h)
      · refine tr_V.bipush (v := (-6 : Int32)) dX7_bars_25 (by decide) ?_
        exact tr_V.iret dX7_bars_27 rfl (fun h => h)
abbrev xX7_where : tr_X := (cX7_where, 5, RX7, (some .int), 7, shM, 24)
theorem cw_X7_where : Cond.code yX7_where cX7_where 5 (some .int) ∈ tr_tbl := tr_in 1648 (by decide +kernel) rfl
theorem yk_X7_where : tr_yk yX7_where (xX7_where) 3 := ⟨cw_X7_where, in_X7, ⟨by decide +kernel, by decide +kernel, by decide +kernel⟩, Nat.le_of_ble_eq_true rfl⟩
theorem iv_X7_where : Cond.instanceMethod yX7_where ∈ tr_tbl ∧ Cond.selects (yX7_where).cls yX7_where yX7_where ∈ tr_tbl := ⟨tr_in 1646 (by decide +kernel) rfl, tr_in 1647 (by decide +kernel) rfl⟩
def mX7_where (p1 : Int32) (p2 : Int32) (p3 : Int32) (M : tr_M) : Option (Int32 × tr_M) :=
  Option.bind (mX7_isMeasure p1) (fun c1 =>
  if c1 = 0 then (
    some ((-1 : Int32), M)
  ) else (
    Option.bind (mX7_isThing p2 M) (fun c3 =>
    if c3 = 0 then (
      some ((-1 : Int32), M)
    ) else (
      Option.bind (mX7_isThing p3 M) (fun c5 =>
      if c5 = 0 then (
        some ((-1 : Int32), M)
      ) else (
        if (mX7_isTooLong p1 M) = 0 then (
          Option.bind (mX7_allowedMany M) (fun c9 =>
          if c9.1 = 0 then (
            Option.bind (mX7_meets (4 : Int32) c9.2) (fun c11 =>
            some (c11.1, c11.2)
            )
          ) else (
            Option.bind (some (tr_st c9.2 1 27 p2)) (fun M13 =>
            Option.bind (some (tr_st M13 1 28 p3)) (fun M15 =>
            Option.bind (mX7_leastOf p1 M15) (fun c17 =>
            Option.bind (some (tr_st c17.2 1 27 (-9 : Int32))) (fun M19 =>
            if c17.1 < (1000000 : Int32) then (
              some (c17.1, M19)
            ) else (
              some ((-9 : Int32), M19)
            )
            )
            )
            )
            )
          )
          )
        ) else (
          some ((-6 : Int32), M)
        )
      )
      )
    )
    )
  )
  )
set_option maxRecDepth 100000 in
set_option maxHeartbeats 4000000 in
theorem C_X7_where (p1 : Int32) (p2 : Int32) (p3 : Int32) (M : tr_M) (r : Int32 × tr_M) (h : mX7_where p1 p2 p3 M = some r) : tr_I yX7_where (xX7_where) [.ref 1, .int p1, .int p2, .int p3] M (some (.int r.1)) r.2 := by
  refine tr_I.of (Z := fun q : Int32 × tr_M => (some (.int r.1) : Option Value) = some (.int q.1) ∧ r.2 = q.2) pn_X7 rfl gdM (Nat.le_of_ble_eq_true rfl) (fun Wt => ?_) h ⟨rfl, rfl⟩
  unfold mX7_where
  refine tr_V.iload_n (i := 1) dX7_where_0 rfl rfl ?_
  refine tr_V.bd (fun c1 h2 => ?_)
  refine tr_V.callS (C_X7_isMeasure p1 M _ h2) yk_X7_isMeasure sc_X7_isMeasure ml_X7_211 ⟨rfl, Nat.le_of_ble_eq_true rfl⟩ rfl (Nat.le_of_ble_eq_true rfl) rfl dX7_where_1 ?_
  refine tr_V.if_eq (tgt := 23) dX7_where_4 (by decide) ?_ ?_
  · refine tr_V.iconst (v := (-1 : Int32)) dX7_where_23 (by decide) ?_
    exact tr_V.iret dX7_where_24 rfl (fun h => h)
  · refine tr_V.aload_n (i := 0) dX7_where_7 rfl rfl ?_
    refine tr_V.iload_n (i := 2) dX7_where_8 rfl rfl ?_
    refine tr_V.bd (fun c3 h4 => ?_)
    refine tr_V.callV (C_X7_isThing p2 M _ h4) yk_X7_isThing iv_X7_isThing ml_X7_163 shM_1 rfl ⟨rfl, Nat.le_of_ble_eq_true rfl⟩ rfl (Nat.le_of_ble_eq_true rfl) rfl dX7_where_9 ?_
    refine tr_V.if_eq (tgt := 23) dX7_where_12 (by decide) ?_ ?_
    · refine tr_V.iconst (v := (-1 : Int32)) dX7_where_23 (by decide) ?_
      exact tr_V.iret dX7_where_24 rfl (fun h => h)
    · refine tr_V.aload_n (i := 0) dX7_where_15 rfl rfl ?_
      refine tr_V.iload_n (i := 3) dX7_where_16 rfl rfl ?_
      refine tr_V.bd (fun c5 h6 => ?_)
      refine tr_V.callV (C_X7_isThing p3 M _ h6) yk_X7_isThing iv_X7_isThing ml_X7_163 shM_1 rfl ⟨rfl, Nat.le_of_ble_eq_true rfl⟩ rfl (Nat.le_of_ble_eq_true rfl) rfl dX7_where_17 ?_
      refine tr_V.if_ne (tgt := 25) dX7_where_20 (by decide) ?_ ?_
      · refine tr_V.iconst (v := (-1 : Int32)) dX7_where_23 (by decide) ?_
        exact tr_V.iret dX7_where_24 rfl (fun h => h)
      · refine tr_V.aload_n (i := 0) dX7_where_25 rfl rfl ?_
        refine tr_V.iload_n (i := 1) dX7_where_26 rfl rfl ?_
        refine tr_V.callV (C_X7_isTooLong p1 M) yk_X7_isTooLong iv_X7_isTooLong ml_X7_286 shM_1 rfl ⟨rfl, Nat.le_of_ble_eq_true rfl⟩ rfl (Nat.le_of_ble_eq_true rfl) rfl dX7_where_27 ?_
        refine tr_V.if_eq (tgt := 36) dX7_where_30 (by decide) ?_ ?_
        · refine tr_V.aload_n (i := 0) dX7_where_36 rfl rfl ?_
          refine tr_V.bd (fun c9 h10 => ?_)
          refine tr_V.callV (C_X7_allowedMany M _ h10) yk_X7_allowedMany iv_X7_allowedMany ml_X7_320 shM_1 rfl ⟨rfl, Nat.le_of_ble_eq_true rfl⟩ rfl (Nat.le_of_ble_eq_true rfl) rfl dX7_where_37 ?_
          refine tr_V.if_ne (tgt := 49) dX7_where_40 (by decide) ?_ ?_
          · refine tr_V.aload_n (i := 0) dX7_where_43 rfl rfl ?_
            refine tr_V.iconst (v := (4 : Int32)) dX7_where_44 (by decide) ?_
            refine tr_V.bd (fun c11 h12 => ?_)
            refine tr_V.callV (C_X7_meets (4 : Int32) c9.2 _ h12) yk_X7_meets iv_X7_meets ml_X7_106 shM_1 rfl ⟨rfl, Nat.le_of_ble_eq_true rfl⟩ rfl (Nat.le_of_ble_eq_true rfl) rfl dX7_where_45 ?_
            exact tr_V.iret dX7_where_48 rfl (fun h => h)
          · refine tr_V.aload_n (i := 0) dX7_where_49 rfl rfl ?_
            refine tr_V.iload_n (i := 2) dX7_where_50 rfl rfl ?_
            refine tr_V.bd (fun M13 h14 => ?_)
            refine tr_V.putI fl_X7_85 shM_1 rfl dX7_where_51 h14 ?_
            refine tr_V.aload_n (i := 0) dX7_where_54 rfl rfl ?_
            refine tr_V.iload_n (i := 3) dX7_where_55 rfl rfl ?_
            refine tr_V.bd (fun M15 h16 => ?_)
            refine tr_V.putI fl_X7_229 shM_1 rfl dX7_where_56 h16 ?_
            refine tr_V.aload_n (i := 0) dX7_where_59 rfl rfl ?_
            refine tr_V.iload_n (i := 1) dX7_where_60 rfl rfl ?_
            refine tr_V.bd (fun c17 h18 => ?_)
            refine tr_V.callV (C_X7_leastOf p1 M15 _ h18) yk_X7_leastOf iv_X7_leastOf ml_X7_289 shM_1 rfl ⟨rfl, Nat.le_of_ble_eq_true rfl⟩ rfl (Nat.le_of_ble_eq_true rfl) rfl dX7_where_61 ?_
            refine tr_V.istore (i := 4) dX7_where_64 (Nat.le_of_ble_eq_true rfl) rfl ?_
            refine tr_V.aload_n (i := 0) dX7_where_66 rfl rfl ?_
            refine tr_V.bipush (v := (-9 : Int32)) dX7_where_67 (by decide) ?_
            refine tr_V.bd (fun M19 h20 => ?_)
            refine tr_V.putI fl_X7_85 shM_1 rfl dX7_where_69 h20 ?_
            refine tr_V.iload dX7_where_72 rfl ?_
            refine tr_V.ldc ct_X7_246 dX7_where_74 ?_
            refine tr_V.icmp_lt (tgt := 84) dX7_where_76 (by decide) ?_ ?_
            · refine tr_V.iload dX7_where_84 rfl ?_
              exact tr_V.iret dX7_where_86 rfl (fun h => h)
            · refine tr_V.bipush (v := (-9 : Int32)) dX7_where_79 (by decide) ?_
              refine tr_V.goto (tgt := 86) dX7_where_81 (by decide) ?_
              exact tr_V.iret dX7_where_86 rfl (fun h => h)
        · refine tr_V.bipush (v := (-6 : Int32)) dX7_where_33 (by decide) ?_
          exact tr_V.iret dX7_where_35 rfl (fun h => h)
abbrev xX7_layPlaceMany : tr_X := (cX7_layPlaceMany, 4, RX7, (Option.none : Option Jvm.ClassFile.FieldType), 6, shM, 24)
theorem cw_X7_layPlaceMany : Cond.code yX7_layPlaceMany cX7_layPlaceMany 4 (Option.none : Option Jvm.ClassFile.FieldType) ∈ tr_tbl := tr_in 1656 (by decide +kernel) rfl
theorem yk_X7_layPlaceMany : tr_yk yX7_layPlaceMany (xX7_layPlaceMany) 2 := ⟨cw_X7_layPlaceMany, in_X7, ⟨by decide +kernel, by decide +kernel, by decide +kernel⟩, Nat.le_of_ble_eq_true rfl⟩
theorem iv_X7_layPlaceMany : Cond.instanceMethod yX7_layPlaceMany ∈ tr_tbl ∧ Cond.selects (yX7_layPlaceMany).cls yX7_layPlaceMany yX7_layPlaceMany ∈ tr_tbl := ⟨tr_in 1655 (by decide +kernel) rfl, tr_in 112 (by decide +kernel) rfl⟩
def mX7_layPlaceMany_l2  (s2 : Int32 × tr_M) : Option ((Int32 × tr_M) ⊕ (tr_M)) :=
  if s2.1 < (10 : Int32) then (
    Option.bind (tr_wr 10 s2.2 21 s2.1 (0 : Int32)) (fun M3 =>
    some (.inl ((s2.1 + (1 : Int32)), M3))
    )
  ) else (
    some (.inr s2.2)
  )
def mX7_layPlaceMany_l32 (p2 : Int32) (s7 : Int32 × tr_M) : Option ((Int32 × tr_M) ⊕ (tr_M)) :=
  if s7.1 = 0 then (
    some (.inr s7.2)
  ) else (
    Option.bind (tr_rd 10 s7.2 13 p2) (fun a8 =>
    Option.bind (tr_rd 10 s7.2 21 a8) (fun a10 =>
    Option.bind (mX7_isLeastReach s7.2) (fun c12 =>
    Option.bind (show Option (Int32) from
      if c12 = 0 then (
        some (0 : Int32)
      ) else (
        some (1 : Int32)
      )
    ) (fun (v14 : Int32) =>
      Option.bind (tr_wr 10 s7.2 21 a8 (a10 + v14)) (fun M15 =>
      Option.bind (mX7_nextLine M15) (fun c17 =>
      some (.inl (c17.1, c17.2))
      )
      )
    )
    )
    )
    )
  )
def mX7_layPlaceMany_l80 (p2 : Int32) (s21 : Int32 × tr_M) : Option ((Int32 × tr_M) ⊕ (tr_M)) :=
  if (mX7_full s21.2) < s21.1 then (
    some (.inr s21.2)
  ) else (
    if (mX7_has s21.1 p2) = 0 then (
      some (.inl ((s21.1 + (1 : Int32)), s21.2))
    ) else (
      Option.bind (mX7_bits s21.1) (fun c26 =>
      Option.bind (tr_rd 10 s21.2 21 (c26 - (1 : Int32))) (fun a28 =>
      Option.bind (tr_rd 10240 s21.2 18 (mX7_spot s21.1 p2)) (fun a32 =>
      Option.bind (tr_rd 10240 s21.2 17 (mX7_spot s21.1 p2)) (fun a36 =>
      Option.bind (tr_wr 10 s21.2 21 (c26 - (1 : Int32)) (a28 + (a32 * a36))) (fun M38 =>
      some (.inl ((s21.1 + (1 : Int32)), M38))
      )
      )
      )
      )
      )
    )
  )
def mX7_layPlaceMany (p1 : Int32) (p2 : Int32) (M : tr_M) : Option (tr_M) :=
  Option.bind (show Option (tr_M) from
    tr_loop (mX7_layPlaceMany_l2) ((0 : Int32), M)
  ) (fun (v1 : tr_M) =>
    if p1 = (4 : Int32) then (
      Option.bind (mX7_firstLine v1) (fun c5 =>
      tr_loop (mX7_layPlaceMany_l32 p2) ((1 : Int32), c5)
      )
    ) else (
      Option.bind (mX7_layComes p1 v1) (fun c19 =>
      tr_loop (mX7_layPlaceMany_l80 p2) ((1 : Int32), c19)
      )
    )
  )
set_option maxRecDepth 100000 in
set_option maxHeartbeats 4000000 in
theorem C_X7_layPlaceMany (p1 : Int32) (p2 : Int32) (M M' : tr_M) (h : mX7_layPlaceMany p1 p2 M = some M') : tr_I yX7_layPlaceMany (xX7_layPlaceMany) [.ref 1, .int p1, .int p2] M none M' := by
  refine tr_I.of (Z := fun q : tr_M => (none : Option Value) = none ∧ M' = q) pn_X7 rfl gdM (Nat.le_of_ble_eq_true rfl) (fun Wt => ?_) h ⟨rfl, rfl⟩
  unfold mX7_layPlaceMany
  refine tr_V.iconst (v := (0 : Int32)) dX7_layPlaceMany_0 (by decide) ?_
  refine tr_V.istore_n (i := 3) dX7_layPlaceMany_1 rfl (Nat.le_of_ble_eq_true rfl) rfl ?_
  refine tr_V.seq (τ := tr_M) (pc' := 21) (L := fun v1 => [(0, some (.ref 1)), (1, some (.int p1)), (2, some (.int p2))]) (S := fun v1 => []) (Mf := fun v1 => v1) ?_ ?_
  · refine tr_V.loop (σ := Int32 × tr_M) (step := mX7_layPlaceMany_l2) (L := fun s2 => [(0, some (.ref 1)), (1, some (.int p1)), (2, some (.int p2)), (3, some (.int s2.1))]) (Mf := fun s2 => s2.2) ?_ ((0 : Int32), M) ⟨rfl, rfl, rfl, rfl, trivial⟩
    intro s2
    refine tr_V.iload_n (i := 3) dX7_layPlaceMany_2 rfl rfl ?_
    refine tr_V.bipush (v := (10 : Int32)) dX7_layPlaceMany_3 (by decide) ?_
    refine tr_V.icmp_ge (tgt := 21) dX7_layPlaceMany_5 (by decide) ?_ ?_
    · refine tr_V.aload_n (i := 0) dX7_layPlaceMany_8 rfl rfl ?_
      refine tr_V.getR (Nat.succ_pos _) fl_X7_68 shM_1 rfl dX7_layPlaceMany_9 ?_
      refine tr_V.iload_n (i := 3) dX7_layPlaceMany_12 rfl rfl ?_
      refine tr_V.iconst (v := (0 : Int32)) dX7_layPlaceMany_13 (by decide) ?_
      refine tr_V.bd (fun M3 h4 => ?_)
      refine tr_V.iast h4 shM_21 dX7_layPlaceMany_14 ?_
      refine tr_V.iinc (cst := (1 : Int32)) dX7_layPlaceMany_15 rfl (by decide) rfl ?_
      refine tr_V.goto (tgt := 2) dX7_layPlaceMany_18 (by decide) ?_
      exact tr_V.to (fun h => h) ⟨rfl, rfl, rfl, rfl, trivial⟩
    · exact tr_V.to (fun h => h) ⟨rfl, rfl, rfl, trivial⟩
  · intro v1
    refine tr_V.iload_n (i := 1) dX7_layPlaceMany_21 rfl rfl ?_
    refine tr_V.iconst (v := (4 : Int32)) dX7_layPlaceMany_22 (by decide) ?_
    refine tr_V.icmp_ne (tgt := 73) dX7_layPlaceMany_23 (by decide) ?_ ?_
    · refine tr_V.aload_n (i := 0) dX7_layPlaceMany_26 rfl rfl ?_
      refine tr_V.bd (fun c5 h6 => ?_)
      refine tr_V.callV (C_X7_firstLine v1 _ h6) yk_X7_firstLine iv_X7_firstLine ml_X7_267 shM_1 rfl ⟨rfl, Nat.le_of_ble_eq_true rfl⟩ rfl (Nat.le_of_ble_eq_true rfl) rfl dX7_layPlaceMany_27 ?_
      refine tr_V.iconst (v := (1 : Int32)) dX7_layPlaceMany_30 (by decide) ?_
      refine tr_V.istore_n (i := 3) dX7_layPlaceMany_31 rfl (Nat.le_of_ble_eq_true rfl) rfl ?_
      refine tr_V.loop (σ := Int32 × tr_M) (step := mX7_layPlaceMany_l32 p2) (L := fun s7 => [(0, some (.ref 1)), (2, some (.int p2)), (3, some (.int s7.1))]) (Mf := fun s7 => s7.2) ?_ ((1 : Int32), c5) ⟨rfl, rfl, rfl, trivial⟩
      intro s7
      refine tr_V.iload_n (i := 3) dX7_layPlaceMany_32 rfl rfl ?_
      refine tr_V.if_eq (tgt := 70) dX7_layPlaceMany_33 (by decide) ?_ ?_
      · refine tr_V.goto (tgt := 137) dX7_layPlaceMany_70 (by decide) ?_
        exact tr_V.vret dX7_layPlaceMany_137 rfl (fun h => h)
      · refine tr_V.aload_n (i := 0) dX7_layPlaceMany_36 rfl rfl ?_
        refine tr_V.getR (Nat.succ_pos _) fl_X7_68 shM_1 rfl dX7_layPlaceMany_37 ?_
        refine tr_V.aload_n (i := 0) dX7_layPlaceMany_40 rfl rfl ?_
        refine tr_V.getR (Nat.succ_pos _) fl_X7_44 shM_1 rfl dX7_layPlaceMany_41 ?_
        refine tr_V.iload_n (i := 2) dX7_layPlaceMany_44 rfl rfl ?_
        refine tr_V.bd (fun a8 h9 => ?_)
        refine tr_V.iald h9 shM_13 dX7_layPlaceMany_45 ?_
        refine tr_V.dup2 rfl rfl dX7_layPlaceMany_46 ?_
        refine tr_V.bd (fun a10 h11 => ?_)
        refine tr_V.iald h11 shM_21 dX7_layPlaceMany_47 ?_
        refine tr_V.aload_n (i := 0) dX7_layPlaceMany_48 rfl rfl ?_
        refine tr_V.bd (fun c12 h13 => ?_)
        refine tr_V.callV (C_X7_isLeastReach s7.2 _ h13) yk_X7_isLeastReach iv_X7_isLeastReach ml_X7_277 shM_1 rfl ⟨rfl, Nat.le_of_ble_eq_true rfl⟩ rfl (Nat.le_of_ble_eq_true rfl) rfl dX7_layPlaceMany_49 ?_
        refine tr_V.seq (τ := Int32) (pc' := 60) (L := fun v14 => [(0, some (.ref 1)), (2, some (.int p2))]) (S := fun v14 => [.int v14, .int a10, .int a8, .ref 21]) (Mf := fun v14 => s7.2) ?_ ?_
        · refine tr_V.if_eq (tgt := 59) dX7_layPlaceMany_52 (by decide) ?_ ?_
          · refine tr_V.iconst (v := (0 : Int32)) dX7_layPlaceMany_59 (by decide) ?_
            exact tr_V.to (fun h => h) ⟨rfl, rfl, trivial⟩
          · refine tr_V.iconst (v := (1 : Int32)) dX7_layPlaceMany_55 (by decide) ?_
            refine tr_V.goto (tgt := 60) dX7_layPlaceMany_56 (by decide) ?_
            exact tr_V.to (fun h => h) ⟨rfl, rfl, trivial⟩
        · intro v14
          refine tr_V.iadd dX7_layPlaceMany_60 ?_
          refine tr_V.bd (fun M15 h16 => ?_)
          refine tr_V.iast h16 shM_21 dX7_layPlaceMany_61 ?_
          refine tr_V.aload_n (i := 0) dX7_layPlaceMany_62 rfl rfl ?_
          refine tr_V.bd (fun c17 h18 => ?_)
          refine tr_V.callV (C_X7_nextLine M15 _ h18) yk_X7_nextLine iv_X7_nextLine ml_X7_274 shM_1 rfl ⟨rfl, Nat.le_of_ble_eq_true rfl⟩ rfl (Nat.le_of_ble_eq_true rfl) rfl dX7_layPlaceMany_63 ?_
          refine tr_V.istore_n (i := 3) dX7_layPlaceMany_66 rfl (Nat.le_of_ble_eq_true rfl) rfl ?_
          refine tr_V.goto (tgt := 32) dX7_layPlaceMany_67 (by decide) ?_
          exact tr_V.to (fun h => h) ⟨rfl, rfl, rfl, trivial⟩
    · refine tr_V.aload_n (i := 0) dX7_layPlaceMany_73 rfl rfl ?_
      refine tr_V.iload_n (i := 1) dX7_layPlaceMany_74 rfl rfl ?_
      refine tr_V.bd (fun c19 h20 => ?_)
      refine tr_V.callV (C_X7_layComes p1 v1 _ h20) yk_X7_layComes iv_X7_layComes ml_X7_335 shM_1 rfl ⟨rfl, Nat.le_of_ble_eq_true rfl⟩ rfl (Nat.le_of_ble_eq_true rfl) rfl dX7_layPlaceMany_75 ?_
      refine tr_V.iconst (v := (1 : Int32)) dX7_layPlaceMany_78 (by decide) ?_
      refine tr_V.istore_n (i := 3) dX7_layPlaceMany_79 rfl (Nat.le_of_ble_eq_true rfl) rfl ?_
      refine tr_V.loop (σ := Int32 × tr_M) (step := mX7_layPlaceMany_l80 p2) (L := fun s21 => [(0, some (.ref 1)), (2, some (.int p2)), (3, some (.int s21.1))]) (Mf := fun s21 => s21.2) ?_ ((1 : Int32), c19) ⟨rfl, rfl, rfl, trivial⟩
      intro s21
      refine tr_V.iload_n (i := 3) dX7_layPlaceMany_80 rfl rfl ?_
      refine tr_V.aload_n (i := 0) dX7_layPlaceMany_81 rfl rfl ?_
      refine tr_V.callV (C_X7_full s21.2) yk_X7_full iv_X7_full ml_X7_236 shM_1 rfl ⟨rfl, Nat.le_of_ble_eq_true rfl⟩ rfl (Nat.le_of_ble_eq_true rfl) rfl dX7_layPlaceMany_82 ?_
      refine tr_V.icmp_gt (tgt := 137) dX7_layPlaceMany_85 (by decide) ?_ ?_
      · exact tr_V.vret dX7_layPlaceMany_137 rfl (fun h => h)
      · refine tr_V.iload_n (i := 3) dX7_layPlaceMany_88 rfl rfl ?_
        refine tr_V.iload_n (i := 2) dX7_layPlaceMany_89 rfl rfl ?_
        refine tr_V.callS (C_X7_has s21.1 p2 s21.2) yk_X7_has sc_X7_has ml_X7_186 ⟨rfl, Nat.le_of_ble_eq_true rfl⟩ rfl (Nat.le_of_ble_eq_true rfl) rfl dX7_layPlaceMany_90 ?_
        refine tr_V.if_eq (tgt := 131) dX7_layPlaceMany_93 (by decide) ?_ ?_
        · refine tr_V.iinc (cst := (1 : Int32)) dX7_layPlaceMany_131 rfl (by decide) rfl ?_
          refine tr_V.goto (tgt := 80) dX7_layPlaceMany_134 (by decide) ?_
          exact tr_V.to (fun h => h) ⟨rfl, rfl, rfl, trivial⟩
        · refine tr_V.aload_n (i := 0) dX7_layPlaceMany_96 rfl rfl ?_
          refine tr_V.getR (Nat.succ_pos _) fl_X7_68 shM_1 rfl dX7_layPlaceMany_97 ?_
          refine tr_V.iload_n (i := 3) dX7_layPlaceMany_100 rfl rfl ?_
          refine tr_V.bd (fun c26 h27 => ?_)
          refine tr_V.callS (C_X7_bits s21.1 s21.2 _ h27) yk_X7_bits sc_X7_bits ml_X7_226 ⟨rfl, Nat.le_of_ble_eq_true rfl⟩ rfl (Nat.le_of_ble_eq_true rfl) rfl dX7_layPlaceMany_101 ?_
          refine tr_V.iconst (v := (1 : Int32)) dX7_layPlaceMany_104 (by decide) ?_
          refine tr_V.isub dX7_layPlaceMany_105 ?_
          refine tr_V.dup2 rfl rfl dX7_layPlaceMany_106 ?_
          refine tr_V.bd (fun a28 h29 => ?_)
          refine tr_V.iald h29 shM_21 dX7_layPlaceMany_107 ?_
          refine tr_V.aload_n (i := 0) dX7_layPlaceMany_108 rfl rfl ?_
          refine tr_V.getR (Nat.succ_pos _) fl_X7_59 shM_1 rfl dX7_layPlaceMany_109 ?_
          refine tr_V.iload_n (i := 3) dX7_layPlaceMany_112 rfl rfl ?_
          refine tr_V.iload_n (i := 2) dX7_layPlaceMany_113 rfl rfl ?_
          refine tr_V.callS (C_X7_spot s21.1 p2 s21.2) yk_X7_spot sc_X7_spot ml_X7_243 ⟨rfl, Nat.le_of_ble_eq_true rfl⟩ rfl (Nat.le_of_ble_eq_true rfl) rfl dX7_layPlaceMany_114 ?_
          refine tr_V.bd (fun a32 h33 => ?_)
          refine tr_V.iald h33 shM_18 dX7_layPlaceMany_117 ?_
          refine tr_V.aload_n (i := 0) dX7_layPlaceMany_118 rfl rfl ?_
          refine tr_V.getR (Nat.succ_pos _) fl_X7_56 shM_1 rfl dX7_layPlaceMany_119 ?_
          refine tr_V.iload_n (i := 3) dX7_layPlaceMany_122 rfl rfl ?_
          refine tr_V.iload_n (i := 2) dX7_layPlaceMany_123 rfl rfl ?_
          refine tr_V.callS (C_X7_spot s21.1 p2 s21.2) yk_X7_spot sc_X7_spot ml_X7_243 ⟨rfl, Nat.le_of_ble_eq_true rfl⟩ rfl (Nat.le_of_ble_eq_true rfl) rfl dX7_layPlaceMany_124 ?_
          refine tr_V.bd (fun a36 h37 => ?_)
          refine tr_V.iald h37 shM_17 dX7_layPlaceMany_127 ?_
          refine tr_V.imul dX7_layPlaceMany_128 ?_
          refine tr_V.iadd dX7_layPlaceMany_129 ?_
          refine tr_V.bd (fun M38 h39 => ?_)
          refine tr_V.iast h39 shM_21 dX7_layPlaceMany_130 ?_
          refine tr_V.iinc (cst := (1 : Int32)) dX7_layPlaceMany_131 rfl (by decide) rfl ?_
          refine tr_V.goto (tgt := 80) dX7_layPlaceMany_134 (by decide) ?_
          exact tr_V.to (fun h => h) ⟨rfl, rfl, rfl, trivial⟩
abbrev xX7_places : tr_X := (cX7_places, 6, RX7, (some .int), 8, shM, 24)
theorem cw_X7_places : Cond.code yX7_places cX7_places 6 (some .int) ∈ tr_tbl := tr_in 1652 (by decide +kernel) rfl
theorem yk_X7_places : tr_yk yX7_places (xX7_places) 2 := ⟨cw_X7_places, in_X7, ⟨by decide +kernel, by decide +kernel, by decide +kernel⟩, Nat.le_of_ble_eq_true rfl⟩
theorem iv_X7_places : Cond.instanceMethod yX7_places ∈ tr_tbl ∧ Cond.selects (yX7_places).cls yX7_places yX7_places ∈ tr_tbl := ⟨tr_in 1650 (by decide +kernel) rfl, tr_in 1651 (by decide +kernel) rfl⟩
def mX7_places_l41 (c7 : tr_M) (s9 : Int32 × Int32) : Option ((Int32 × Int32) ⊕ (Int32 × tr_M)) :=
  if s9.2 < (c7.1 1 10) then (
    Option.bind (tr_rd 10 c7 21 s9.2) (fun a10 =>
    if 0 < a10 then (
      Option.bind (some (s9.1 ||| ((1 : Int32) <<< (s9.2 &&& 31)))) (fun x12 =>
      some (.inl (x12, (s9.2 + (1 : Int32))))
      )
    ) else (
      some (.inl ((s9.1 ||| (0 : Int32)), (s9.2 + (1 : Int32))))
    )
    )
  ) else (
    some (.inr (s9.1, c7))
  )
def mX7_places (p1 : Int32) (p2 : Int32) (M : tr_M) : Option (Int32 × tr_M) :=
  Option.bind (mX7_isMeasure p1) (fun c1 =>
  if c1 = 0 then (
    some ((-1 : Int32), M)
  ) else (
    Option.bind (mX7_isThing p2 M) (fun c3 =>
    if c3 = 0 then (
      some ((-1 : Int32), M)
    ) else (
      Option.bind (mX7_needLeast p1 M) (fun c5 =>
      if c5.1 < 0 then (
        some (c5.1, c5.2)
      ) else (
        Option.bind (mX7_layPlaceMany p1 p2 c5.2) (fun c7 =>
        tr_loop (mX7_places_l41 c7) ((0 : Int32), (0 : Int32))
        )
      )
      )
    )
    )
  )
  )
set_option maxRecDepth 100000 in
set_option maxHeartbeats 4000000 in
theorem C_X7_places (p1 : Int32) (p2 : Int32) (M : tr_M) (r : Int32 × tr_M) (h : mX7_places p1 p2 M = some r) : tr_I yX7_places (xX7_places) [.ref 1, .int p1, .int p2] M (some (.int r.1)) r.2 := by
  refine tr_I.of (Z := fun q : Int32 × tr_M => (some (.int r.1) : Option Value) = some (.int q.1) ∧ r.2 = q.2) pn_X7 rfl gdM (Nat.le_of_ble_eq_true rfl) (fun Wt => ?_) h ⟨rfl, rfl⟩
  unfold mX7_places
  refine tr_V.iload_n (i := 1) dX7_places_0 rfl rfl ?_
  refine tr_V.bd (fun c1 h2 => ?_)
  refine tr_V.callS (C_X7_isMeasure p1 M _ h2) yk_X7_isMeasure sc_X7_isMeasure ml_X7_211 ⟨rfl, Nat.le_of_ble_eq_true rfl⟩ rfl (Nat.le_of_ble_eq_true rfl) rfl dX7_places_1 ?_
  refine tr_V.if_eq (tgt := 15) dX7_places_4 (by decide) ?_ ?_
  · refine tr_V.iconst (v := (-1 : Int32)) dX7_places_15 (by decide) ?_
    exact tr_V.iret dX7_places_16 rfl (fun h => h)
  · refine tr_V.aload_n (i := 0) dX7_places_7 rfl rfl ?_
    refine tr_V.iload_n (i := 2) dX7_places_8 rfl rfl ?_
    refine tr_V.bd (fun c3 h4 => ?_)
    refine tr_V.callV (C_X7_isThing p2 M _ h4) yk_X7_isThing iv_X7_isThing ml_X7_163 shM_1 rfl ⟨rfl, Nat.le_of_ble_eq_true rfl⟩ rfl (Nat.le_of_ble_eq_true rfl) rfl dX7_places_9 ?_
    refine tr_V.if_ne (tgt := 17) dX7_places_12 (by decide) ?_ ?_
    · refine tr_V.iconst (v := (-1 : Int32)) dX7_places_15 (by decide) ?_
      exact tr_V.iret dX7_places_16 rfl (fun h => h)
    · refine tr_V.aload_n (i := 0) dX7_places_17 rfl rfl ?_
      refine tr_V.iload_n (i := 1) dX7_places_18 rfl rfl ?_
      refine tr_V.bd (fun c5 h6 => ?_)
      refine tr_V.callV (C_X7_needLeast p1 M _ h6) yk_X7_needLeast iv_X7_needLeast ml_X7_299 shM_1 rfl ⟨rfl, Nat.le_of_ble_eq_true rfl⟩ rfl (Nat.le_of_ble_eq_true rfl) rfl dX7_places_19 ?_
      refine tr_V.istore_n (i := 3) dX7_places_22 rfl (Nat.le_of_ble_eq_true rfl) rfl ?_
      refine tr_V.iload_n (i := 3) dX7_places_23 rfl rfl ?_
      refine tr_V.if_ge (tgt := 29) dX7_places_24 (by decide) ?_ ?_
      · refine tr_V.iload_n (i := 3) dX7_places_27 rfl rfl ?_
        exact tr_V.iret dX7_places_28 rfl (fun h => h)
      · refine tr_V.aload_n (i := 0) dX7_places_29 rfl rfl ?_
        refine tr_V.iload_n (i := 1) dX7_places_30 rfl rfl ?_
        refine tr_V.iload_n (i := 2) dX7_places_31 rfl rfl ?_
        refine tr_V.bd (fun c7 h8 => ?_)
        refine tr_V.callV (C_X7_layPlaceMany p1 p2 c5.2 _ h8) yk_X7_layPlaceMany iv_X7_layPlaceMany ml_X7_338 shM_1 rfl ⟨rfl, Nat.le_of_ble_eq_true rfl⟩ rfl (Nat.le_of_ble_eq_true rfl) rfl dX7_places_32 ?_
        refine tr_V.iconst (v := (0 : Int32)) dX7_places_35 (by decide) ?_
        refine tr_V.istore (i := 4) dX7_places_36 (Nat.le_of_ble_eq_true rfl) rfl ?_
        refine tr_V.iconst (v := (0 : Int32)) dX7_places_38 (by decide) ?_
        refine tr_V.istore (i := 5) dX7_places_39 (Nat.le_of_ble_eq_true rfl) rfl ?_
        refine tr_V.loop (σ := Int32 × Int32) (step := mX7_places_l41 c7) (L := fun s9 => [(0, some (.ref 1)), (4, some (.int s9.1)), (5, some (.int s9.2))]) (Mf := fun s9 => c7) ?_ ((0 : Int32), (0 : Int32)) ⟨rfl, rfl, rfl, trivial⟩
        intro s9
        refine tr_V.iload dX7_places_41 rfl ?_
        refine tr_V.aload_n (i := 0) dX7_places_43 rfl rfl ?_
        refine tr_V.getI fl_X7_157 shM_1 rfl dX7_places_44 ?_
        refine tr_V.icmp_ge (tgt := 79) dX7_places_47 (by decide) ?_ ?_
        · refine tr_V.iload dX7_places_50 rfl ?_
          refine tr_V.aload_n (i := 0) dX7_places_52 rfl rfl ?_
          refine tr_V.getR (Nat.succ_pos _) fl_X7_68 shM_1 rfl dX7_places_53 ?_
          refine tr_V.iload dX7_places_56 rfl ?_
          refine tr_V.bd (fun a10 h11 => ?_)
          refine tr_V.iald h11 shM_21 dX7_places_58 ?_
          refine tr_V.if_le (tgt := 69) dX7_places_59 (by decide) ?_ ?_
          · refine tr_V.iconst (v := (1 : Int32)) dX7_places_62 (by decide) ?_
            refine tr_V.iload dX7_places_63 rfl ?_
            refine tr_V.ishl dX7_places_65 ?_
            refine tr_V.goto (tgt := 70) dX7_places_66 (by decide) ?_
            refine tr_V.ior dX7_places_70 ?_
            refine tr_V.bd (fun x12 h13 => ?_)
            refine tr_V.nmI h13 ?_
            refine tr_V.istore (i := 4) dX7_places_71 (Nat.le_of_ble_eq_true rfl) rfl ?_
            refine tr_V.iinc (cst := (1 : Int32)) dX7_places_73 rfl (by decide) rfl ?_
            refine tr_V.goto (tgt := 41) dX7_places_76 (by decide) ?_
            exact tr_V.to (fun h => h) ⟨rfl, rfl, rfl, trivial⟩
          · refine tr_V.iconst (v := (0 : Int32)) dX7_places_69 (by decide) ?_
            refine tr_V.ior dX7_places_70 ?_
            refine tr_V.istore (i := 4) dX7_places_71 (Nat.le_of_ble_eq_true rfl) rfl ?_
            refine tr_V.iinc (cst := (1 : Int32)) dX7_places_73 rfl (by decide) rfl ?_
            refine tr_V.goto (tgt := 41) dX7_places_76 (by decide) ?_
            exact tr_V.to (fun h => h) ⟨rfl, rfl, rfl, trivial⟩
        · refine tr_V.iload dX7_places_79 rfl ?_
          exact tr_V.iret dX7_places_81 rfl (fun h => h)
abbrev xX7_middle : tr_X := (cX7_middle, 7, RX7, (some .int), 8, shM, 24)
theorem cw_X7_middle : Cond.code yX7_middle cX7_middle 7 (some .int) ∈ tr_tbl := tr_in 1664 (by decide +kernel) rfl
theorem yk_X7_middle : tr_yk yX7_middle (xX7_middle) 2 := ⟨cw_X7_middle, in_X7, ⟨by decide +kernel, by decide +kernel, by decide +kernel⟩, Nat.le_of_ble_eq_true rfl⟩
theorem iv_X7_middle : Cond.instanceMethod yX7_middle ∈ tr_tbl ∧ Cond.selects (yX7_middle).cls yX7_middle yX7_middle ∈ tr_tbl := ⟨tr_in 1662 (by decide +kernel) rfl, tr_in 1663 (by decide +kernel) rfl⟩
def mX7_middle_l41 (c7 : tr_M) (s10 : Int64 × Int32) : Option ((Int64 × Int32) ⊕ (Int64)) :=
  if s10.2 < (c7.1 1 10) then (
    Option.bind (tr_rd 10 c7 21 s10.2) (fun a11 =>
    some (.inl ((s10.1 + (s10.2.toInt64 * a11.toInt64)), (s10.2 + (1 : Int32))))
    )
  ) else (
    some (.inr s10.1)
  )
def mX7_middle (p1 : Int32) (p2 : Int32) (M : tr_M) : Option (Int32 × tr_M) :=
  Option.bind (mX7_isMeasure p1) (fun c1 =>
  if c1 = 0 then (
    some ((-1 : Int32), M)
  ) else (
    Option.bind (mX7_isThing p2 M) (fun c3 =>
    if c3 = 0 then (
      some ((-1 : Int32), M)
    ) else (
      Option.bind (mX7_needLeast p1 M) (fun c5 =>
      if c5.1 < 0 then (
        some (c5.1, c5.2)
      ) else (
        Option.bind (mX7_layPlaceMany p1 p2 c5.2) (fun c7 =>
        Option.bind (show Option (Int64) from
          tr_loop (mX7_middle_l41 c7) ((0 : Int64), (0 : Int32))
        ) (fun (v9 : Int64) =>
          Option.bind (mX7_fraction v9 ((c7.1 1 30).toInt64) (c7.1 1 30) c7) (fun c13 =>
          some (c13.1, c13.2)
          )
        )
        )
      )
      )
    )
    )
  )
  )
set_option maxRecDepth 100000 in
set_option maxHeartbeats 4000000 in
theorem C_X7_middle (p1 : Int32) (p2 : Int32) (M : tr_M) (r : Int32 × tr_M) (h : mX7_middle p1 p2 M = some r) : tr_I yX7_middle (xX7_middle) [.ref 1, .int p1, .int p2] M (some (.int r.1)) r.2 := by
  refine tr_I.of (Z := fun q : Int32 × tr_M => (some (.int r.1) : Option Value) = some (.int q.1) ∧ r.2 = q.2) pn_X7 rfl gdM (Nat.le_of_ble_eq_true rfl) (fun Wt => ?_) h ⟨rfl, rfl⟩
  unfold mX7_middle
  refine tr_V.iload_n (i := 1) dX7_middle_0 rfl rfl ?_
  refine tr_V.bd (fun c1 h2 => ?_)
  refine tr_V.callS (C_X7_isMeasure p1 M _ h2) yk_X7_isMeasure sc_X7_isMeasure ml_X7_211 ⟨rfl, Nat.le_of_ble_eq_true rfl⟩ rfl (Nat.le_of_ble_eq_true rfl) rfl dX7_middle_1 ?_
  refine tr_V.if_eq (tgt := 15) dX7_middle_4 (by decide) ?_ ?_
  · refine tr_V.iconst (v := (-1 : Int32)) dX7_middle_15 (by decide) ?_
    exact tr_V.iret dX7_middle_16 rfl (fun h => h)
  · refine tr_V.aload_n (i := 0) dX7_middle_7 rfl rfl ?_
    refine tr_V.iload_n (i := 2) dX7_middle_8 rfl rfl ?_
    refine tr_V.bd (fun c3 h4 => ?_)
    refine tr_V.callV (C_X7_isThing p2 M _ h4) yk_X7_isThing iv_X7_isThing ml_X7_163 shM_1 rfl ⟨rfl, Nat.le_of_ble_eq_true rfl⟩ rfl (Nat.le_of_ble_eq_true rfl) rfl dX7_middle_9 ?_
    refine tr_V.if_ne (tgt := 17) dX7_middle_12 (by decide) ?_ ?_
    · refine tr_V.iconst (v := (-1 : Int32)) dX7_middle_15 (by decide) ?_
      exact tr_V.iret dX7_middle_16 rfl (fun h => h)
    · refine tr_V.aload_n (i := 0) dX7_middle_17 rfl rfl ?_
      refine tr_V.iload_n (i := 1) dX7_middle_18 rfl rfl ?_
      refine tr_V.bd (fun c5 h6 => ?_)
      refine tr_V.callV (C_X7_needLeast p1 M _ h6) yk_X7_needLeast iv_X7_needLeast ml_X7_299 shM_1 rfl ⟨rfl, Nat.le_of_ble_eq_true rfl⟩ rfl (Nat.le_of_ble_eq_true rfl) rfl dX7_middle_19 ?_
      refine tr_V.istore_n (i := 3) dX7_middle_22 rfl (Nat.le_of_ble_eq_true rfl) rfl ?_
      refine tr_V.iload_n (i := 3) dX7_middle_23 rfl rfl ?_
      refine tr_V.if_ge (tgt := 29) dX7_middle_24 (by decide) ?_ ?_
      · refine tr_V.iload_n (i := 3) dX7_middle_27 rfl rfl ?_
        exact tr_V.iret dX7_middle_28 rfl (fun h => h)
      · refine tr_V.aload_n (i := 0) dX7_middle_29 rfl rfl ?_
        refine tr_V.iload_n (i := 1) dX7_middle_30 rfl rfl ?_
        refine tr_V.iload_n (i := 2) dX7_middle_31 rfl rfl ?_
        refine tr_V.bd (fun c7 h8 => ?_)
        refine tr_V.callV (C_X7_layPlaceMany p1 p2 c5.2 _ h8) yk_X7_layPlaceMany iv_X7_layPlaceMany ml_X7_338 shM_1 rfl ⟨rfl, Nat.le_of_ble_eq_true rfl⟩ rfl (Nat.le_of_ble_eq_true rfl) rfl dX7_middle_32 ?_
        refine tr_V.lconst (v := (0 : Int64)) dX7_middle_35 (by decide) ?_
        refine tr_V.lstore (i := 4) dX7_middle_36 (Nat.le_of_ble_eq_true rfl) rfl ?_
        refine tr_V.iconst (v := (0 : Int32)) dX7_middle_38 (by decide) ?_
        refine tr_V.istore (i := 6) dX7_middle_39 (Nat.le_of_ble_eq_true rfl) rfl ?_
        refine tr_V.seq (τ := Int64) (pc' := 73) (L := fun v9 => [(0, some (.ref 1)), (4, some (.long v9))]) (S := fun v9 => []) (Mf := fun v9 => c7) ?_ ?_
        · refine tr_V.loop (σ := Int64 × Int32) (step := mX7_middle_l41 c7) (L := fun s10 => [(0, some (.ref 1)), (4, some (.long s10.1)), (6, some (.int s10.2))]) (Mf := fun s10 => c7) ?_ ((0 : Int64), (0 : Int32)) ⟨rfl, rfl, rfl, trivial⟩
          intro s10
          refine tr_V.iload dX7_middle_41 rfl ?_
          refine tr_V.aload_n (i := 0) dX7_middle_43 rfl rfl ?_
          refine tr_V.getI fl_X7_157 shM_1 rfl dX7_middle_44 ?_
          refine tr_V.icmp_ge (tgt := 73) dX7_middle_47 (by decide) ?_ ?_
          · refine tr_V.lload dX7_middle_50 rfl ?_
            refine tr_V.iload dX7_middle_52 rfl ?_
            refine tr_V.i2l dX7_middle_54 ?_
            refine tr_V.aload_n (i := 0) dX7_middle_55 rfl rfl ?_
            refine tr_V.getR (Nat.succ_pos _) fl_X7_68 shM_1 rfl dX7_middle_56 ?_
            refine tr_V.iload dX7_middle_59 rfl ?_
            refine tr_V.bd (fun a11 h12 => ?_)
            refine tr_V.iald h12 shM_21 dX7_middle_61 ?_
            refine tr_V.i2l dX7_middle_62 ?_
            refine tr_V.lmul dX7_middle_63 ?_
            refine tr_V.ladd dX7_middle_64 ?_
            refine tr_V.lstore (i := 4) dX7_middle_65 (Nat.le_of_ble_eq_true rfl) rfl ?_
            refine tr_V.iinc (cst := (1 : Int32)) dX7_middle_67 rfl (by decide) rfl ?_
            refine tr_V.goto (tgt := 41) dX7_middle_70 (by decide) ?_
            exact tr_V.to (fun h => h) ⟨rfl, rfl, rfl, trivial⟩
          · exact tr_V.to (fun h => h) ⟨rfl, rfl, trivial⟩
        · intro v9
          refine tr_V.aload_n (i := 0) dX7_middle_73 rfl rfl ?_
          refine tr_V.lload dX7_middle_74 rfl ?_
          refine tr_V.aload_n (i := 0) dX7_middle_76 rfl rfl ?_
          refine tr_V.getI fl_X7_260 shM_1 rfl dX7_middle_77 ?_
          refine tr_V.i2l dX7_middle_80 ?_
          refine tr_V.aload_n (i := 0) dX7_middle_81 rfl rfl ?_
          refine tr_V.getI fl_X7_260 shM_1 rfl dX7_middle_82 ?_
          refine tr_V.bd (fun c13 h14 => ?_)
          refine tr_V.callV (C_X7_fraction v9 ((c7.1 1 30).toInt64) (c7.1 1 30) c7 _ h14) yk_X7_fraction iv_X7_fraction ml_X7_341 shM_1 rfl ⟨rfl, Nat.le_of_ble_eq_true rfl⟩ rfl (Nat.le_of_ble_eq_true rfl) rfl dX7_middle_85 ?_
          exact tr_V.iret dX7_middle_88 rfl (fun h => h)
abbrev xX7_leadMany : tr_X := (cX7_leadMany, 6, RX7, (some .int), 6, shM, 24)
theorem cw_X7_leadMany : Cond.code yX7_leadMany cX7_leadMany 6 (some .int) ∈ tr_tbl := tr_in 1676 (by decide +kernel) rfl
theorem yk_X7_leadMany : tr_yk yX7_leadMany (xX7_leadMany) 3 := ⟨cw_X7_leadMany, in_X7, ⟨by decide +kernel, by decide +kernel, by decide +kernel⟩, Nat.le_of_ble_eq_true rfl⟩
theorem iv_X7_leadMany : Cond.instanceMethod yX7_leadMany ∈ tr_tbl ∧ Cond.selects (yX7_leadMany).cls yX7_leadMany yX7_leadMany ∈ tr_tbl := ⟨tr_in 1675 (by decide +kernel) rfl, tr_in 115 (by decide +kernel) rfl⟩
def mX7_leadMany_l15 (p2 : Int32) (p3 : Int32) (s3 : Int32 × Int32 × tr_M) : Option ((Int32 × Int32 × tr_M) ⊕ (Int32 × tr_M)) :=
  if s3.2.1 = 0 then (
    some (.inr (s3.1, s3.2.2))
  ) else (
    Option.bind (mX7_isLeastReach s3.2.2) (fun c4 =>
    Option.bind (show Option (Int32) from
      if c4 = 0 then (
        some (0 : Int32)
      ) else (
        Option.bind (tr_rd 10 s3.2.2 13 p2) (fun a7 =>
        Option.bind (tr_rd 10 s3.2.2 13 p3) (fun a9 =>
        if a7 < a9 then (
          some (1 : Int32)
        ) else (
          some (0 : Int32)
        )
        )
        )
      )
    ) (fun (v6 : Int32) =>
      Option.bind (mX7_nextLine s3.2.2) (fun c11 =>
      some (.inl ((s3.1 + v6), c11.1, c11.2))
      )
    )
    )
  )
def mX7_leadMany_l72 (p2 : Int32) (p3 : Int32) (c13 : tr_M) (s15 : Int32 × Int32) : Option ((Int32 × Int32) ⊕ (Int32 × tr_M)) :=
  if (mX7_full c13) < s15.2 then (
    some (.inr (s15.1, c13))
  ) else (
    if (mX7_has s15.2 p2) = 0 then (
      some (.inl ((s15.1 + (0 : Int32)), (s15.2 + (1 : Int32))))
    ) else (
      if (mX7_has s15.2 p3) = 0 then (
        some (.inl ((s15.1 + (0 : Int32)), (s15.2 + (1 : Int32))))
      ) else (
        Option.bind (tr_rd 10240 c13 18 (mX7_spot s15.2 p3)) (fun a24 =>
        Option.bind (tr_rd 10240 c13 17 (mX7_spot s15.2 p3)) (fun a28 =>
        some (.inl ((s15.1 + (a24 * a28)), (s15.2 + (1 : Int32))))
        )
        )
      )
    )
  )
def mX7_leadMany (p1 : Int32) (p2 : Int32) (p3 : Int32) (M : tr_M) : Option (Int32 × tr_M) :=
  if p1 = (4 : Int32) then (
    Option.bind (mX7_firstLine M) (fun c1 =>
    tr_loop (mX7_leadMany_l15 p2 p3) ((0 : Int32), (1 : Int32), c1)
    )
  ) else (
    Option.bind (mX7_layComes p1 M) (fun c13 =>
    tr_loop (mX7_leadMany_l72 p2 p3 c13) ((0 : Int32), (1 : Int32))
    )
  )
set_option maxRecDepth 100000 in
set_option maxHeartbeats 4000000 in
theorem C_X7_leadMany (p1 : Int32) (p2 : Int32) (p3 : Int32) (M : tr_M) (r : Int32 × tr_M) (h : mX7_leadMany p1 p2 p3 M = some r) : tr_I yX7_leadMany (xX7_leadMany) [.ref 1, .int p1, .int p2, .int p3] M (some (.int r.1)) r.2 := by
  refine tr_I.of (Z := fun q : Int32 × tr_M => (some (.int r.1) : Option Value) = some (.int q.1) ∧ r.2 = q.2) pn_X7 rfl gdM (Nat.le_of_ble_eq_true rfl) (fun Wt => ?_) h ⟨rfl, rfl⟩
  unfold mX7_leadMany
  refine tr_V.iconst (v := (0 : Int32)) dX7_leadMany_0 (by decide) ?_
  refine tr_V.istore (i := 4) dX7_leadMany_1 (Nat.le_of_ble_eq_true rfl) rfl ?_
  refine tr_V.iload_n (i := 1) dX7_leadMany_3 rfl rfl ?_
  refine tr_V.iconst (v := (4 : Int32)) dX7_leadMany_4 (by decide) ?_
  refine tr_V.icmp_ne (tgt := 64) dX7_leadMany_5 (by decide) ?_ ?_
  · refine tr_V.aload_n (i := 0) dX7_leadMany_8 rfl rfl ?_
    refine tr_V.bd (fun c1 h2 => ?_)
    refine tr_V.callV (C_X7_firstLine M _ h2) yk_X7_firstLine iv_X7_firstLine ml_X7_267 shM_1 rfl ⟨rfl, Nat.le_of_ble_eq_true rfl⟩ rfl (Nat.le_of_ble_eq_true rfl) rfl dX7_leadMany_9 ?_
    refine tr_V.iconst (v := (1 : Int32)) dX7_leadMany_12 (by decide) ?_
    refine tr_V.istore (i := 5) dX7_leadMany_13 (Nat.le_of_ble_eq_true rfl) rfl ?_
    refine tr_V.loop (σ := Int32 × Int32 × tr_M) (step := mX7_leadMany_l15 p2 p3) (L := fun s3 => [(0, some (.ref 1)), (2, some (.int p2)), (3, some (.int p3)), (4, some (.int s3.1)), (5, some (.int s3.2.1))]) (Mf := fun s3 => s3.2.2) ?_ ((0 : Int32), (1 : Int32), c1) ⟨rfl, rfl, rfl, rfl, rfl, trivial⟩
    intro s3
    refine tr_V.iload dX7_leadMany_15 rfl ?_
    refine tr_V.if_eq (tgt := 61) dX7_leadMany_17 (by decide) ?_ ?_
    · refine tr_V.iload dX7_leadMany_61 rfl ?_
      exact tr_V.iret dX7_leadMany_63 rfl (fun h => h)
    · refine tr_V.iload dX7_leadMany_20 rfl ?_
      refine tr_V.aload_n (i := 0) dX7_leadMany_22 rfl rfl ?_
      refine tr_V.bd (fun c4 h5 => ?_)
      refine tr_V.callV (C_X7_isLeastReach s3.2.2 _ h5) yk_X7_isLeastReach iv_X7_isLeastReach ml_X7_277 shM_1 rfl ⟨rfl, Nat.le_of_ble_eq_true rfl⟩ rfl (Nat.le_of_ble_eq_true rfl) rfl dX7_leadMany_23 ?_
      refine tr_V.seq (τ := Int32) (pc' := 49) (L := fun v6 => [(0, some (.ref 1)), (2, some (.int p2)), (3, some (.int p3))]) (S := fun v6 => [.int v6, .int s3.1]) (Mf := fun v6 => s3.2.2) ?_ ?_
      · refine tr_V.if_eq (tgt := 48) dX7_leadMany_26 (by decide) ?_ ?_
        · refine tr_V.iconst (v := (0 : Int32)) dX7_leadMany_48 (by decide) ?_
          exact tr_V.to (fun h => h) ⟨rfl, rfl, rfl, trivial⟩
        · refine tr_V.aload_n (i := 0) dX7_leadMany_29 rfl rfl ?_
          refine tr_V.getR (Nat.succ_pos _) fl_X7_44 shM_1 rfl dX7_leadMany_30 ?_
          refine tr_V.iload_n (i := 2) dX7_leadMany_33 rfl rfl ?_
          refine tr_V.bd (fun a7 h8 => ?_)
          refine tr_V.iald h8 shM_13 dX7_leadMany_34 ?_
          refine tr_V.aload_n (i := 0) dX7_leadMany_35 rfl rfl ?_
          refine tr_V.getR (Nat.succ_pos _) fl_X7_44 shM_1 rfl dX7_leadMany_36 ?_
          refine tr_V.iload_n (i := 3) dX7_leadMany_39 rfl rfl ?_
          refine tr_V.bd (fun a9 h10 => ?_)
          refine tr_V.iald h10 shM_13 dX7_leadMany_40 ?_
          refine tr_V.icmp_ge (tgt := 48) dX7_leadMany_41 (by decide) ?_ ?_
          · refine tr_V.iconst (v := (1 : Int32)) dX7_leadMany_44 (by decide) ?_
            refine tr_V.goto (tgt := 49) dX7_leadMany_45 (by decide) ?_
            exact tr_V.to (fun h => h) ⟨rfl, rfl, rfl, trivial⟩
          · refine tr_V.iconst (v := (0 : Int32)) dX7_leadMany_48 (by decide) ?_
            exact tr_V.to (fun h => h) ⟨rfl, rfl, rfl, trivial⟩
      · intro v6
        refine tr_V.iadd dX7_leadMany_49 ?_
        refine tr_V.istore (i := 4) dX7_leadMany_50 (Nat.le_of_ble_eq_true rfl) rfl ?_
        refine tr_V.aload_n (i := 0) dX7_leadMany_52 rfl rfl ?_
        refine tr_V.bd (fun c11 h12 => ?_)
        refine tr_V.callV (C_X7_nextLine s3.2.2 _ h12) yk_X7_nextLine iv_X7_nextLine ml_X7_274 shM_1 rfl ⟨rfl, Nat.le_of_ble_eq_true rfl⟩ rfl (Nat.le_of_ble_eq_true rfl) rfl dX7_leadMany_53 ?_
        refine tr_V.istore (i := 5) dX7_leadMany_56 (Nat.le_of_ble_eq_true rfl) rfl ?_
        refine tr_V.goto (tgt := 15) dX7_leadMany_58 (by decide) ?_
        exact tr_V.to (fun h => h) ⟨rfl, rfl, rfl, rfl, rfl, trivial⟩
  · refine tr_V.aload_n (i := 0) dX7_leadMany_64 rfl rfl ?_
    refine tr_V.iload_n (i := 1) dX7_leadMany_65 rfl rfl ?_
    refine tr_V.bd (fun c13 h14 => ?_)
    refine tr_V.callV (C_X7_layComes p1 M _ h14) yk_X7_layComes iv_X7_layComes ml_X7_335 shM_1 rfl ⟨rfl, Nat.le_of_ble_eq_true rfl⟩ rfl (Nat.le_of_ble_eq_true rfl) rfl dX7_leadMany_66 ?_
    refine tr_V.iconst (v := (1 : Int32)) dX7_leadMany_69 (by decide) ?_
    refine tr_V.istore (i := 5) dX7_leadMany_70 (Nat.le_of_ble_eq_true rfl) rfl ?_
    refine tr_V.loop (σ := Int32 × Int32) (step := mX7_leadMany_l72 p2 p3 c13) (L := fun s15 => [(0, some (.ref 1)), (2, some (.int p2)), (3, some (.int p3)), (4, some (.int s15.1)), (5, some (.int s15.2))]) (Mf := fun s15 => c13) ?_ ((0 : Int32), (1 : Int32)) ⟨rfl, rfl, rfl, rfl, rfl, trivial⟩
    intro s15
    refine tr_V.iload dX7_leadMany_72 rfl ?_
    refine tr_V.aload_n (i := 0) dX7_leadMany_74 rfl rfl ?_
    refine tr_V.callV (C_X7_full c13) yk_X7_full iv_X7_full ml_X7_236 shM_1 rfl ⟨rfl, Nat.le_of_ble_eq_true rfl⟩ rfl (Nat.le_of_ble_eq_true rfl) rfl dX7_leadMany_75 ?_
    refine tr_V.icmp_gt (tgt := 137) dX7_leadMany_78 (by decide) ?_ ?_
    · refine tr_V.iload dX7_leadMany_137 rfl ?_
      exact tr_V.iret dX7_leadMany_139 rfl (fun h => h)
    · refine tr_V.iload dX7_leadMany_81 rfl ?_
      refine tr_V.iload dX7_leadMany_83 rfl ?_
      refine tr_V.iload_n (i := 2) dX7_leadMany_85 rfl rfl ?_
      refine tr_V.callS (C_X7_has s15.2 p2 c13) yk_X7_has sc_X7_has ml_X7_186 ⟨rfl, Nat.le_of_ble_eq_true rfl⟩ rfl (Nat.le_of_ble_eq_true rfl) rfl dX7_leadMany_86 ?_
      refine tr_V.if_eq (tgt := 127) dX7_leadMany_89 (by decide) ?_ ?_
      · refine tr_V.iconst (v := (0 : Int32)) dX7_leadMany_127 (by decide) ?_
        refine tr_V.iadd dX7_leadMany_128 ?_
        refine tr_V.istore (i := 4) dX7_leadMany_129 (Nat.le_of_ble_eq_true rfl) rfl ?_
        refine tr_V.iinc (cst := (1 : Int32)) dX7_leadMany_131 rfl (by decide) rfl ?_
        refine tr_V.goto (tgt := 72) dX7_leadMany_134 (by decide) ?_
        exact tr_V.to (fun h => h) ⟨rfl, rfl, rfl, rfl, rfl, trivial⟩
      · refine tr_V.iload dX7_leadMany_92 rfl ?_
        refine tr_V.iload_n (i := 3) dX7_leadMany_94 rfl rfl ?_
        refine tr_V.callS (C_X7_has s15.2 p3 c13) yk_X7_has sc_X7_has ml_X7_186 ⟨rfl, Nat.le_of_ble_eq_true rfl⟩ rfl (Nat.le_of_ble_eq_true rfl) rfl dX7_leadMany_95 ?_
        refine tr_V.if_eq (tgt := 127) dX7_leadMany_98 (by decide) ?_ ?_
        · refine tr_V.iconst (v := (0 : Int32)) dX7_leadMany_127 (by decide) ?_
          refine tr_V.iadd dX7_leadMany_128 ?_
          refine tr_V.istore (i := 4) dX7_leadMany_129 (Nat.le_of_ble_eq_true rfl) rfl ?_
          refine tr_V.iinc (cst := (1 : Int32)) dX7_leadMany_131 rfl (by decide) rfl ?_
          refine tr_V.goto (tgt := 72) dX7_leadMany_134 (by decide) ?_
          exact tr_V.to (fun h => h) ⟨rfl, rfl, rfl, rfl, rfl, trivial⟩
        · refine tr_V.aload_n (i := 0) dX7_leadMany_101 rfl rfl ?_
          refine tr_V.getR (Nat.succ_pos _) fl_X7_59 shM_1 rfl dX7_leadMany_102 ?_
          refine tr_V.iload dX7_leadMany_105 rfl ?_
          refine tr_V.iload_n (i := 3) dX7_leadMany_107 rfl rfl ?_
          refine tr_V.callS (C_X7_spot s15.2 p3 c13) yk_X7_spot sc_X7_spot ml_X7_243 ⟨rfl, Nat.le_of_ble_eq_true rfl⟩ rfl (Nat.le_of_ble_eq_true rfl) rfl dX7_leadMany_108 ?_
          refine tr_V.bd (fun a24 h25 => ?_)
          refine tr_V.iald h25 shM_18 dX7_leadMany_111 ?_
          refine tr_V.aload_n (i := 0) dX7_leadMany_112 rfl rfl ?_
          refine tr_V.getR (Nat.succ_pos _) fl_X7_56 shM_1 rfl dX7_leadMany_113 ?_
          refine tr_V.iload dX7_leadMany_116 rfl ?_
          refine tr_V.iload_n (i := 3) dX7_leadMany_118 rfl rfl ?_
          refine tr_V.callS (C_X7_spot s15.2 p3 c13) yk_X7_spot sc_X7_spot ml_X7_243 ⟨rfl, Nat.le_of_ble_eq_true rfl⟩ rfl (Nat.le_of_ble_eq_true rfl) rfl dX7_leadMany_119 ?_
          refine tr_V.bd (fun a28 h29 => ?_)
          refine tr_V.iald h29 shM_17 dX7_leadMany_122 ?_
          refine tr_V.imul dX7_leadMany_123 ?_
          refine tr_V.goto (tgt := 128) dX7_leadMany_124 (by decide) ?_
          refine tr_V.iadd dX7_leadMany_128 ?_
          refine tr_V.istore (i := 4) dX7_leadMany_129 (Nat.le_of_ble_eq_true rfl) rfl ?_
          refine tr_V.iinc (cst := (1 : Int32)) dX7_leadMany_131 rfl (by decide) rfl ?_
          refine tr_V.goto (tgt := 72) dX7_leadMany_134 (by decide) ?_
          exact tr_V.to (fun h => h) ⟨rfl, rfl, rfl, rfl, rfl, trivial⟩
abbrev xX7_leads : tr_X := (cX7_leads, 6, RX7, (some .int), 8, shM, 24)
theorem cw_X7_leads : Cond.code yX7_leads cX7_leads 6 (some .int) ∈ tr_tbl := tr_in 1672 (by decide +kernel) rfl
theorem yk_X7_leads : tr_yk yX7_leads (xX7_leads) 3 := ⟨cw_X7_leads, in_X7, ⟨by decide +kernel, by decide +kernel, by decide +kernel⟩, Nat.le_of_ble_eq_true rfl⟩
theorem iv_X7_leads : Cond.instanceMethod yX7_leads ∈ tr_tbl ∧ Cond.selects (yX7_leads).cls yX7_leads yX7_leads ∈ tr_tbl := ⟨tr_in 1670 (by decide +kernel) rfl, tr_in 1671 (by decide +kernel) rfl⟩
def mX7_leads (p1 : Int32) (p2 : Int32) (p3 : Int32) (M : tr_M) : Option (Int32 × tr_M) :=
  Option.bind (mX7_isMeasure p1) (fun c1 =>
  if c1 = 0 then (
    some ((-1 : Int32), M)
  ) else (
    Option.bind (mX7_isThing p2 M) (fun c3 =>
    if c3 = 0 then (
      some ((-1 : Int32), M)
    ) else (
      Option.bind (mX7_isThing p3 M) (fun c5 =>
      if c5 = 0 then (
        some ((-1 : Int32), M)
      ) else (
        if p2 = p3 then (
          some ((-1 : Int32), M)
        ) else (
          Option.bind (mX7_needLeast p1 M) (fun c7 =>
          if c7.1 < 0 then (
            some (c7.1, c7.2)
          ) else (
            Option.bind (mX7_leadMany p1 p2 p3 c7.2) (fun c9 =>
            Option.bind (show Option (Int32) from
              if c9.1 = 0 then (
                some (0 : Int32)
              ) else (
                if c9.1 = (c9.2.1 1 30) then (
                  some (2 : Int32)
                ) else (
                  some (1 : Int32)
                )
              )
            ) (fun (v11 : Int32) =>
              Option.bind (mX7_tells c9.1 v11 c9.2) (fun c12 =>
              some (c12.1, c12.2)
              )
            )
            )
          )
          )
        )
      )
      )
    )
    )
  )
  )
set_option maxRecDepth 100000 in
set_option maxHeartbeats 4000000 in
theorem C_X7_leads (p1 : Int32) (p2 : Int32) (p3 : Int32) (M : tr_M) (r : Int32 × tr_M) (h : mX7_leads p1 p2 p3 M = some r) : tr_I yX7_leads (xX7_leads) [.ref 1, .int p1, .int p2, .int p3] M (some (.int r.1)) r.2 := by
  refine tr_I.of (Z := fun q : Int32 × tr_M => (some (.int r.1) : Option Value) = some (.int q.1) ∧ r.2 = q.2) pn_X7 rfl gdM (Nat.le_of_ble_eq_true rfl) (fun Wt => ?_) h ⟨rfl, rfl⟩
  unfold mX7_leads
  refine tr_V.iload_n (i := 1) dX7_leads_0 rfl rfl ?_
  refine tr_V.bd (fun c1 h2 => ?_)
  refine tr_V.callS (C_X7_isMeasure p1 M _ h2) yk_X7_isMeasure sc_X7_isMeasure ml_X7_211 ⟨rfl, Nat.le_of_ble_eq_true rfl⟩ rfl (Nat.le_of_ble_eq_true rfl) rfl dX7_leads_1 ?_
  refine tr_V.if_eq (tgt := 28) dX7_leads_4 (by decide) ?_ ?_
  · refine tr_V.iconst (v := (-1 : Int32)) dX7_leads_28 (by decide) ?_
    exact tr_V.iret dX7_leads_29 rfl (fun h => h)
  · refine tr_V.aload_n (i := 0) dX7_leads_7 rfl rfl ?_
    refine tr_V.iload_n (i := 2) dX7_leads_8 rfl rfl ?_
    refine tr_V.bd (fun c3 h4 => ?_)
    refine tr_V.callV (C_X7_isThing p2 M _ h4) yk_X7_isThing iv_X7_isThing ml_X7_163 shM_1 rfl ⟨rfl, Nat.le_of_ble_eq_true rfl⟩ rfl (Nat.le_of_ble_eq_true rfl) rfl dX7_leads_9 ?_
    refine tr_V.if_eq (tgt := 28) dX7_leads_12 (by decide) ?_ ?_
    · refine tr_V.iconst (v := (-1 : Int32)) dX7_leads_28 (by decide) ?_
      exact tr_V.iret dX7_leads_29 rfl (fun h => h)
    · refine tr_V.aload_n (i := 0) dX7_leads_15 rfl rfl ?_
      refine tr_V.iload_n (i := 3) dX7_leads_16 rfl rfl ?_
      refine tr_V.bd (fun c5 h6 => ?_)
      refine tr_V.callV (C_X7_isThing p3 M _ h6) yk_X7_isThing iv_X7_isThing ml_X7_163 shM_1 rfl ⟨rfl, Nat.le_of_ble_eq_true rfl⟩ rfl (Nat.le_of_ble_eq_true rfl) rfl dX7_leads_17 ?_
      refine tr_V.if_eq (tgt := 28) dX7_leads_20 (by decide) ?_ ?_
      · refine tr_V.iconst (v := (-1 : Int32)) dX7_leads_28 (by decide) ?_
        exact tr_V.iret dX7_leads_29 rfl (fun h => h)
      · refine tr_V.iload_n (i := 2) dX7_leads_23 rfl rfl ?_
        refine tr_V.iload_n (i := 3) dX7_leads_24 rfl rfl ?_
        refine tr_V.icmp_ne (tgt := 30) dX7_leads_25 (by decide) ?_ ?_
        · refine tr_V.iconst (v := (-1 : Int32)) dX7_leads_28 (by decide) ?_
          exact tr_V.iret dX7_leads_29 rfl (fun h => h)
        · refine tr_V.aload_n (i := 0) dX7_leads_30 rfl rfl ?_
          refine tr_V.iload_n (i := 1) dX7_leads_31 rfl rfl ?_
          refine tr_V.bd (fun c7 h8 => ?_)
          refine tr_V.callV (C_X7_needLeast p1 M _ h8) yk_X7_needLeast iv_X7_needLeast ml_X7_299 shM_1 rfl ⟨rfl, Nat.le_of_ble_eq_true rfl⟩ rfl (Nat.le_of_ble_eq_true rfl) rfl dX7_leads_32 ?_
          refine tr_V.istore (i := 4) dX7_leads_35 (Nat.le_of_ble_eq_true rfl) rfl ?_
          refine tr_V.iload dX7_leads_37 rfl ?_
          refine tr_V.if_ge (tgt := 45) dX7_leads_39 (by decide) ?_ ?_
          · refine tr_V.iload dX7_leads_42 rfl ?_
            exact tr_V.iret dX7_leads_44 rfl (fun h => h)
          · refine tr_V.aload_n (i := 0) dX7_leads_45 rfl rfl ?_
            refine tr_V.iload_n (i := 1) dX7_leads_46 rfl rfl ?_
            refine tr_V.iload_n (i := 2) dX7_leads_47 rfl rfl ?_
            refine tr_V.iload_n (i := 3) dX7_leads_48 rfl rfl ?_
            refine tr_V.bd (fun c9 h10 => ?_)
            refine tr_V.callV (C_X7_leadMany p1 p2 p3 c7.2 _ h10) yk_X7_leadMany iv_X7_leadMany ml_X7_345 shM_1 rfl ⟨rfl, Nat.le_of_ble_eq_true rfl⟩ rfl (Nat.le_of_ble_eq_true rfl) rfl dX7_leads_49 ?_
            refine tr_V.istore (i := 5) dX7_leads_52 (Nat.le_of_ble_eq_true rfl) rfl ?_
            refine tr_V.aload_n (i := 0) dX7_leads_54 rfl rfl ?_
            refine tr_V.iload dX7_leads_55 rfl ?_
            refine tr_V.iload dX7_leads_57 rfl ?_
            refine tr_V.seq (τ := Int32) (pc' := 80) (L := fun v11 => []) (S := fun v11 => [.int v11, .int c9.1, .ref 1]) (Mf := fun v11 => c9.2) ?_ ?_
            · refine tr_V.if_ne (tgt := 66) dX7_leads_59 (by decide) ?_ ?_
              · refine tr_V.iconst (v := (0 : Int32)) dX7_leads_62 (by decide) ?_
                refine tr_V.goto (tgt := 80) dX7_leads_63 (by decide) ?_
                exact tr_V.to (fun h => h) trivial
              · refine tr_V.iload dX7_leads_66 rfl ?_
                refine tr_V.aload_n (i := 0) dX7_leads_68 rfl rfl ?_
                refine tr_V.getI fl_X7_260 shM_1 rfl dX7_leads_69 ?_
                refine tr_V.icmp_ne (tgt := 79) dX7_leads_72 (by decide) ?_ ?_
                · refine tr_V.iconst (v := (2 : Int32)) dX7_leads_75 (by decide) ?_
                  refine tr_V.goto (tgt := 80) dX7_leads_76 (by decide) ?_
                  exact tr_V.to (fun h => h) trivial
                · refine tr_V.iconst (v := (1 : Int32)) dX7_leads_79 (by decide) ?_
                  exact tr_V.to (fun h => h) trivial
            · intro v11
              refine tr_V.bd (fun c12 h13 => ?_)
              refine tr_V.callV (C_X7_tells c9.1 v11 c9.2 _ h13) yk_X7_tells iv_X7_tells ml_X7_114 shM_1 rfl ⟨rfl, Nat.le_of_ble_eq_true rfl⟩ rfl (Nat.le_of_ble_eq_true rfl) rfl dX7_leads_80 ?_
              exact tr_V.iret dX7_leads_83 rfl (fun h => h)
abbrev xX7_bothByLines : tr_X := (cX7_bothByLines, 8, RX7, (some .int), 5, shM, 24)
theorem cw_X7_bothByLines : Cond.code yX7_bothByLines cX7_bothByLines 8 (some .int) ∈ tr_tbl := tr_in 1684 (by decide +kernel) rfl
theorem yk_X7_bothByLines : tr_yk yX7_bothByLines (xX7_bothByLines) 2 := ⟨cw_X7_bothByLines, in_X7, ⟨by decide +kernel, by decide +kernel, by decide +kernel⟩, Nat.le_of_ble_eq_true rfl⟩
theorem iv_X7_bothByLines : Cond.instanceMethod yX7_bothByLines ∈ tr_tbl ∧ Cond.selects (yX7_bothByLines).cls yX7_bothByLines yX7_bothByLines ∈ tr_tbl := ⟨tr_in 1683 (by decide +kernel) rfl, tr_in 116 (by decide +kernel) rfl⟩
def mX7_bothByLines_l19 (p1 : Int32) (p2 : Int32) (M : tr_M) (s4 : Int32 × Int32 × Int32 × tr_M) : Option ((Int32 × Int32 × Int32 × tr_M) ⊕ (Int32 × Int32 × tr_M)) :=
  if s4.2.2.1 = 0 then (
    some (.inr (s4.1, s4.2.1, s4.2.2.2))
  ) else (
    Option.bind (mX7_isAllowedNow s4.2.2.2) (fun c5 =>
    Option.bind (show Option (Int32 × Int32) from
      if c5 = 0 then (
        some (s4.1, s4.2.1)
      ) else (
        Option.bind (mX7_measureNow p1 s4.2.2.2) (fun c8 =>
        if c8 = (M.1 1 29) then (
          Option.bind (mX7_measureNow p2 s4.2.2.2) (fun c10 =>
          Option.bind (show Option (Int32) from
            if c10 < s4.1 then (
              some (1 : Int32)
            ) else (
              if c10 = s4.1 then (
                some (s4.2.1 + (1 : Int32))
              ) else (
                some s4.2.1
              )
            )
          ) (fun (v12 : Int32) =>
            some ((mX7_lesser s4.1 c10), v12)
          )
          )
        ) else (
          some (s4.1, s4.2.1)
        )
        )
      )
    ) (fun (v7 : Int32 × Int32) =>
      Option.bind (mX7_nextLine s4.2.2.2) (fun c15 =>
      some (.inl (v7.1, v7.2, c15.1, c15.2))
      )
    )
    )
  )
def mX7_bothByLines (p1 : Int32) (p2 : Int32) (M : tr_M) : Option (Int32 × tr_M) :=
  Option.bind (mX7_firstLine M) (fun c1 =>
  Option.bind (show Option (Int32 × Int32 × tr_M) from
    tr_loop (mX7_bothByLines_l19 p1 p2 M) ((1000000 : Int32), (0 : Int32), (1 : Int32), c1)
  ) (fun (v3 : Int32 × Int32 × tr_M) =>
    Option.bind (mX7_tells v3.2.1 v3.1 v3.2.2) (fun c17 =>
    some (c17.1, c17.2)
    )
  )
  )
set_option maxRecDepth 100000 in
set_option maxHeartbeats 4000000 in
theorem C_X7_bothByLines (p1 : Int32) (p2 : Int32) (M : tr_M) (r : Int32 × tr_M) (h : mX7_bothByLines p1 p2 M = some r) : tr_I yX7_bothByLines (xX7_bothByLines) [.ref 1, .int p1, .int p2] M (some (.int r.1)) r.2 := by
  refine tr_I.of (Z := fun q : Int32 × tr_M => (some (.int r.1) : Option Value) = some (.int q.1) ∧ r.2 = q.2) pn_X7 rfl gdM (Nat.le_of_ble_eq_true rfl) (fun Wt => ?_) h ⟨rfl, rfl⟩
  unfold mX7_bothByLines
  refine tr_V.aload_n (i := 0) dX7_bothByLines_0 rfl rfl ?_
  refine tr_V.getI fl_X7_251 shM_1 rfl dX7_bothByLines_1 ?_
  refine tr_V.istore_n (i := 3) dX7_bothByLines_4 rfl (Nat.le_of_ble_eq_true rfl) rfl ?_
  refine tr_V.ldc ct_X7_246 dX7_bothByLines_5 ?_
  refine tr_V.istore (i := 4) dX7_bothByLines_7 (Nat.le_of_ble_eq_true rfl) rfl ?_
  refine tr_V.iconst (v := (0 : Int32)) dX7_bothByLines_9 (by decide) ?_
  refine tr_V.istore (i := 5) dX7_bothByLines_10 (Nat.le_of_ble_eq_true rfl) rfl ?_
  refine tr_V.aload_n (i := 0) dX7_bothByLines_12 rfl rfl ?_
  refine tr_V.bd (fun c1 h2 => ?_)
  refine tr_V.callV (C_X7_firstLine M _ h2) yk_X7_firstLine iv_X7_firstLine ml_X7_267 shM_1 rfl ⟨rfl, Nat.le_of_ble_eq_true rfl⟩ rfl (Nat.le_of_ble_eq_true rfl) rfl dX7_bothByLines_13 ?_
  refine tr_V.iconst (v := (1 : Int32)) dX7_bothByLines_16 (by decide) ?_
  refine tr_V.istore (i := 6) dX7_bothByLines_17 (Nat.le_of_ble_eq_true rfl) rfl ?_
  refine tr_V.seq (τ := Int32 × Int32 × tr_M) (pc' := 94) (L := fun v3 => [(0, some (.ref 1)), (4, some (.int v3.1)), (5, some (.int v3.2.1))]) (S := fun v3 => []) (Mf := fun v3 => v3.2.2) ?_ ?_
  · refine tr_V.loop (σ := Int32 × Int32 × Int32 × tr_M) (step := mX7_bothByLines_l19 p1 p2 M) (L := fun s4 => [(0, some (.ref 1)), (1, some (.int p1)), (2, some (.int p2)), (3, some (.int (M.1 1 29))), (4, some (.int s4.1)), (5, some (.int s4.2.1)), (6, some (.int s4.2.2.1))]) (Mf := fun s4 => s4.2.2.2) ?_ ((1000000 : Int32), (0 : Int32), (1 : Int32), c1) ⟨rfl, rfl, rfl, rfl, rfl, rfl, rfl, trivial⟩
    intro s4
    refine tr_V.iload dX7_bothByLines_19 rfl ?_
    refine tr_V.if_eq (tgt := 94) dX7_bothByLines_21 (by decide) ?_ ?_
    · exact tr_V.to (fun h => h) ⟨rfl, rfl, rfl, trivial⟩
    · refine tr_V.aload_n (i := 0) dX7_bothByLines_24 rfl rfl ?_
      refine tr_V.bd (fun c5 h6 => ?_)
      refine tr_V.callV (C_X7_isAllowedNow s4.2.2.2 _ h6) yk_X7_isAllowedNow iv_X7_isAllowedNow ml_X7_270 shM_1 rfl ⟨rfl, Nat.le_of_ble_eq_true rfl⟩ rfl (Nat.le_of_ble_eq_true rfl) rfl dX7_bothByLines_25 ?_
      refine tr_V.seq (τ := Int32 × Int32) (pc' := 85) (L := fun v7 => [(0, some (.ref 1)), (1, some (.int p1)), (2, some (.int p2)), (3, some (.int (M.1 1 29))), (4, some (.int v7.1)), (5, some (.int v7.2))]) (S := fun v7 => []) (Mf := fun v7 => s4.2.2.2) ?_ ?_
      · refine tr_V.if_eq (tgt := 85) dX7_bothByLines_28 (by decide) ?_ ?_
        · exact tr_V.to (fun h => h) ⟨rfl, rfl, rfl, rfl, rfl, rfl, trivial⟩
        · refine tr_V.aload_n (i := 0) dX7_bothByLines_31 rfl rfl ?_
          refine tr_V.iload_n (i := 1) dX7_bothByLines_32 rfl rfl ?_
          refine tr_V.bd (fun c8 h9 => ?_)
          refine tr_V.callV (C_X7_measureNow p1 s4.2.2.2 _ h9) yk_X7_measureNow iv_X7_measureNow ml_X7_217 shM_1 rfl ⟨rfl, Nat.le_of_ble_eq_true rfl⟩ rfl (Nat.le_of_ble_eq_true rfl) rfl dX7_bothByLines_33 ?_
          refine tr_V.iload_n (i := 3) dX7_bothByLines_36 rfl rfl ?_
          refine tr_V.icmp_ne (tgt := 85) dX7_bothByLines_37 (by decide) ?_ ?_
          · refine tr_V.aload_n (i := 0) dX7_bothByLines_40 rfl rfl ?_
            refine tr_V.iload_n (i := 2) dX7_bothByLines_41 rfl rfl ?_
            refine tr_V.bd (fun c10 h11 => ?_)
            refine tr_V.callV (C_X7_measureNow p2 s4.2.2.2 _ h11) yk_X7_measureNow iv_X7_measureNow ml_X7_217 shM_1 rfl ⟨rfl, Nat.le_of_ble_eq_true rfl⟩ rfl (Nat.le_of_ble_eq_true rfl) rfl dX7_bothByLines_42 ?_
            refine tr_V.istore (i := 7) dX7_bothByLines_45 (Nat.le_of_ble_eq_true rfl) rfl ?_
            refine tr_V.iload dX7_bothByLines_47 rfl ?_
            refine tr_V.iload dX7_bothByLines_49 rfl ?_
            refine tr_V.seq (τ := Int32) (pc' := 74) (L := fun v12 => [(0, some (.ref 1)), (1, some (.int p1)), (2, some (.int p2)), (3, some (.int (M.1 1 29))), (4, some (.int s4.1)), (7, some (.int c10))]) (S := fun v12 => [.int v12]) (Mf := fun v12 => s4.2.2.2) ?_ ?_
            · refine tr_V.icmp_ge (tgt := 58) dX7_bothByLines_51 (by decide) ?_ ?_
              · refine tr_V.iconst (v := (1 : Int32)) dX7_bothByLines_54 (by decide) ?_
                refine tr_V.goto (tgt := 74) dX7_bothByLines_55 (by decide) ?_
                exact tr_V.to (fun h => h) ⟨rfl, rfl, rfl, rfl, rfl, rfl, trivial⟩
              · refine tr_V.iload dX7_bothByLines_58 rfl ?_
                refine tr_V.iload dX7_bothByLines_60 rfl ?_
                refine tr_V.icmp_ne (tgt := 72) dX7_bothByLines_62 (by decide) ?_ ?_
                · refine tr_V.iload dX7_bothByLines_65 rfl ?_
                  refine tr_V.iconst (v := (1 : Int32)) dX7_bothByLines_67 (by decide) ?_
                  refine tr_V.iadd dX7_bothByLines_68 ?_
                  refine tr_V.goto (tgt := 74) dX7_bothByLines_69 (by decide) ?_
                  exact tr_V.to (fun h => h) ⟨rfl, rfl, rfl, rfl, rfl, rfl, trivial⟩
                · refine tr_V.iload dX7_bothByLines_72 rfl ?_
                  exact tr_V.to (fun h => h) ⟨rfl, rfl, rfl, rfl, rfl, rfl, trivial⟩
            · intro v12
              refine tr_V.istore (i := 5) dX7_bothByLines_74 (Nat.le_of_ble_eq_true rfl) rfl ?_
              refine tr_V.iload dX7_bothByLines_76 rfl ?_
              refine tr_V.iload dX7_bothByLines_78 rfl ?_
              refine tr_V.callS (C_X7_lesser s4.1 c10 s4.2.2.2) yk_X7_lesser sc_X7_lesser ml_X7_183 ⟨rfl, Nat.le_of_ble_eq_true rfl⟩ rfl (Nat.le_of_ble_eq_true rfl) rfl dX7_bothByLines_80 ?_
              refine tr_V.istore (i := 4) dX7_bothByLines_83 (Nat.le_of_ble_eq_true rfl) rfl ?_
              exact tr_V.to (fun h => h) ⟨rfl, rfl, rfl, rfl, rfl, rfl, trivial⟩
          · exact tr_V.to (fun h => h) ⟨rfl, rfl, rfl, rfl, rfl, rfl, trivial⟩
      · intro v7
        refine tr_V.aload_n (i := 0) dX7_bothByLines_85 rfl rfl ?_
        refine tr_V.bd (fun c15 h16 => ?_)
        refine tr_V.callV (C_X7_nextLine s4.2.2.2 _ h16) yk_X7_nextLine iv_X7_nextLine ml_X7_274 shM_1 rfl ⟨rfl, Nat.le_of_ble_eq_true rfl⟩ rfl (Nat.le_of_ble_eq_true rfl) rfl dX7_bothByLines_86 ?_
        refine tr_V.istore (i := 6) dX7_bothByLines_89 (Nat.le_of_ble_eq_true rfl) rfl ?_
        refine tr_V.goto (tgt := 19) dX7_bothByLines_91 (by decide) ?_
        exact tr_V.to (fun h => h) ⟨rfl, rfl, rfl, rfl, rfl, rfl, rfl, trivial⟩
  · intro v3
    refine tr_V.aload_n (i := 0) dX7_bothByLines_94 rfl rfl ?_
    refine tr_V.iload dX7_bothByLines_95 rfl ?_
    refine tr_V.iload dX7_bothByLines_97 rfl ?_
    refine tr_V.bd (fun c17 h18 => ?_)
    refine tr_V.callV (C_X7_tells v3.2.1 v3.1 v3.2.2 _ h18) yk_X7_tells iv_X7_tells ml_X7_114 shM_1 rfl ⟨rfl, Nat.le_of_ble_eq_true rfl⟩ rfl (Nat.le_of_ble_eq_true rfl) rfl dX7_bothByLines_99 ?_
    exact tr_V.iret dX7_bothByLines_102 rfl (fun h => h)
abbrev xX7_goesOn : tr_X := (cX7_goesOn, 11, RX7, (Option.none : Option Jvm.ClassFile.FieldType), 5, shM, 24)
theorem cw_X7_goesOn : Cond.code yX7_goesOn cX7_goesOn 11 (Option.none : Option Jvm.ClassFile.FieldType) ∈ tr_tbl := tr_in 1696 (by decide +kernel) rfl
theorem yk_X7_goesOn : tr_yk yX7_goesOn (xX7_goesOn) 5 := ⟨cw_X7_goesOn, in_X7, ⟨by decide +kernel, by decide +kernel, by decide +kernel⟩, Nat.le_of_ble_eq_true rfl⟩
theorem iv_X7_goesOn : Cond.instanceMethod yX7_goesOn ∈ tr_tbl ∧ Cond.selects (yX7_goesOn).cls yX7_goesOn yX7_goesOn ∈ tr_tbl := ⟨tr_in 1695 (by decide +kernel) rfl, tr_in 119 (by decide +kernel) rfl⟩
def mX7_goesOn_l11 (p1 : Int32) (p2 : Int32) (p3 : Int32) (p4 : Int32) (p5 : Int32) (s3 : Int32 × tr_M) : Option ((Int32 × tr_M) ⊕ (tr_M)) :=
  if s3.1 < (s3.2.1 1 10) then (
    Option.bind (some (mX7_spot (p3 ||| ((1 : Int32) <<< (s3.1 &&& 31))) s3.1)) (fun x6 =>
    Option.bind (show Option (Int32) from
      if p3 = 0 then (
        some (-9 : Int32)
      ) else (
        some p4
      )
    ) (fun (v8 : Int32) =>
      Option.bind (mX7_isGood p1 p3 v8 s3.1 s3.2) (fun c9 =>
      if c9 = 0 then (
        some (.inl ((s3.1 + (1 : Int32)), s3.2))
      ) else (
        Option.bind (tr_rd 10240 s3.2 22 x6) (fun a11 =>
        if a11 < (1000000 : Int32) then (
          Option.bind (show Option (Int32) from
            if (mX7_isSum p2) = 0 then (
              Option.bind (tr_rd 1024 s3.2 15 (p3 ||| ((1 : Int32) <<< (s3.1 &&& 31)))) (fun a16 =>
              Option.bind (tr_rd 10240 s3.2 22 x6) (fun a18 =>
              some (mX7_greater a16 a18)
              )
              )
            ) else (
              Option.bind (tr_rd 1024 s3.2 15 (p3 ||| ((1 : Int32) <<< (s3.1 &&& 31)))) (fun a22 =>
              Option.bind (tr_rd 10240 s3.2 22 x6) (fun a24 =>
              some (a22 + a24)
              )
              )
            )
          ) (fun (v15 : Int32) =>
            Option.bind (show Option (tr_M) from
              if (mX7_isSum p2) = 0 then (
                Option.bind (tr_rd 10240 s3.2 23 (mX7_spot p3 p4)) (fun a29 =>
                Option.bind (tr_rd 1024 s3.2 15 (p3 ||| ((1 : Int32) <<< (s3.1 &&& 31)))) (fun a31 =>
                if p5 < a31 then (
                  Option.bind (tr_wr 10240 s3.2 23 (mX7_spot p3 p4) (a29 + (0 : Int32))) (fun M33 =>
                  some M33
                  )
                ) else (
                  Option.bind (tr_rd 10240 s3.2 23 x6) (fun a35 =>
                  Option.bind (tr_wr 10240 s3.2 23 (mX7_spot p3 p4) (a29 + a35)) (fun M37 =>
                  some M37
                  )
                  )
                )
                )
                )
              ) else (
                Option.bind (tr_rd 10240 s3.2 22 (mX7_spot p3 p4)) (fun a39 =>
                if v15 < a39 then (
                  Option.bind (tr_rd 10240 s3.2 23 x6) (fun a41 =>
                  Option.bind (tr_wr 10240 s3.2 23 (mX7_spot p3 p4) a41) (fun M43 =>
                  some M43
                  )
                  )
                ) else (
                  Option.bind (tr_rd 10240 s3.2 22 (mX7_spot p3 p4)) (fun a45 =>
                  if v15 = a45 then (
                    Option.bind (tr_rd 10240 s3.2 23 (mX7_spot p3 p4)) (fun a47 =>
                    Option.bind (tr_rd 10240 s3.2 23 x6) (fun a49 =>
                    Option.bind (tr_wr 10240 s3.2 23 (mX7_spot p3 p4) (a47 + a49)) (fun M51 =>
                    some M51
                    )
                    )
                    )
                  ) else (
                    Option.bind (tr_rd 10240 s3.2 23 (mX7_spot p3 p4)) (fun a53 =>
                    Option.bind (tr_wr 10240 s3.2 23 (mX7_spot p3 p4) a53) (fun M55 =>
                    some M55
                    )
                    )
                  )
                  )
                )
                )
              )
            ) (fun (v28 : tr_M) =>
              Option.bind (tr_rd 10240 v28 22 (mX7_spot p3 p4)) (fun a57 =>
              Option.bind (tr_wr 10240 v28 22 (mX7_spot p3 p4) (mX7_lesser a57 v15)) (fun M61 =>
              some (.inl ((s3.1 + (1 : Int32)), M61))
              )
              )
            )
          )
        ) else (
          some (.inl ((s3.1 + (1 : Int32)), s3.2))
        )
        )
      )
      )
    )
    )
  ) else (
    some (.inr s3.2)
  )
def mX7_goesOn (p1 : Int32) (p2 : Int32) (p3 : Int32) (p4 : Int32) (p5 : Int32) (M : tr_M) : Option (tr_M) :=
  tr_loop (mX7_goesOn_l11 p1 p2 p3 p4 p5) ((0 : Int32), M)
set_option maxRecDepth 100000 in
set_option maxHeartbeats 4000000 in
theorem C_X7_goesOn (p1 : Int32) (p2 : Int32) (p3 : Int32) (p4 : Int32) (p5 : Int32) (M M' : tr_M) (h : mX7_goesOn p1 p2 p3 p4 p5 M = some M') : tr_I yX7_goesOn (xX7_goesOn) [.ref 1, .int p1, .int p2, .int p3, .int p4, .int p5] M none M' := by
  refine tr_I.of (Z := fun q : tr_M => (none : Option Value) = none ∧ M' = q) pn_X7 rfl gdM (Nat.le_of_ble_eq_true rfl) (fun Wt => ?_) h ⟨rfl, rfl⟩
  unfold mX7_goesOn
  refine tr_V.iload_n (i := 3) dX7_goesOn_0 rfl rfl ?_
  refine tr_V.iload dX7_goesOn_1 rfl ?_
  refine tr_V.callS (C_X7_spot p3 p4 M) yk_X7_spot sc_X7_spot ml_X7_243 ⟨rfl, Nat.le_of_ble_eq_true rfl⟩ rfl (Nat.le_of_ble_eq_true rfl) rfl dX7_goesOn_3 ?_
  refine tr_V.istore (i := 6) dX7_goesOn_6 (Nat.le_of_ble_eq_true rfl) rfl ?_
  refine tr_V.iconst (v := (0 : Int32)) dX7_goesOn_8 (by decide) ?_
  refine tr_V.istore (i := 7) dX7_goesOn_9 (Nat.le_of_ble_eq_true rfl) rfl ?_
  refine tr_V.loop (σ := Int32 × tr_M) (step := mX7_goesOn_l11 p1 p2 p3 p4 p5) (L := fun s3 => [(0, some (.ref 1)), (1, some (.int p1)), (2, some (.int p2)), (3, some (.int p3)), (4, some (.int p4)), (5, some (.int p5)), (6, some (.int (mX7_spot p3 p4))), (7, some (.int s3.1))]) (Mf := fun s3 => s3.2) ?_ ((0 : Int32), M) ⟨rfl, rfl, rfl, rfl, rfl, rfl, rfl, rfl, trivial⟩
  intro s3
  refine tr_V.iload dX7_goesOn_11 rfl ?_
  refine tr_V.aload_n (i := 0) dX7_goesOn_13 rfl rfl ?_
  refine tr_V.getI fl_X7_157 shM_1 rfl dX7_goesOn_14 ?_
  refine tr_V.icmp_ge (tgt := 249) dX7_goesOn_17 (by decide) ?_ ?_
  · refine tr_V.iload_n (i := 3) dX7_goesOn_20 rfl rfl ?_
    refine tr_V.iconst (v := (1 : Int32)) dX7_goesOn_21 (by decide) ?_
    refine tr_V.iload dX7_goesOn_22 rfl ?_
    refine tr_V.ishl dX7_goesOn_24 ?_
    refine tr_V.ior dX7_goesOn_25 ?_
    refine tr_V.istore (i := 8) dX7_goesOn_26 (Nat.le_of_ble_eq_true rfl) rfl ?_
    refine tr_V.iload dX7_goesOn_28 rfl ?_
    refine tr_V.iload dX7_goesOn_30 rfl ?_
    refine tr_V.callS (C_X7_spot (p3 ||| ((1 : Int32) <<< (s3.1 &&& 31))) s3.1 s3.2) yk_X7_spot sc_X7_spot ml_X7_243 ⟨rfl, Nat.le_of_ble_eq_true rfl⟩ rfl (Nat.le_of_ble_eq_true rfl) rfl dX7_goesOn_32 ?_
    refine tr_V.bd (fun x6 h7 => ?_)
    refine tr_V.nmI h7 ?_
    refine tr_V.istore (i := 9) dX7_goesOn_35 (Nat.le_of_ble_eq_true rfl) rfl ?_
    refine tr_V.aload_n (i := 0) dX7_goesOn_37 rfl rfl ?_
    refine tr_V.iload_n (i := 1) dX7_goesOn_38 rfl rfl ?_
    refine tr_V.iload_n (i := 3) dX7_goesOn_39 rfl rfl ?_
    refine tr_V.iload_n (i := 3) dX7_goesOn_40 rfl rfl ?_
    refine tr_V.seq (τ := Int32) (pc' := 51) (L := fun v8 => [(0, some (.ref 1)), (1, some (.int p1)), (2, some (.int p2)), (3, some (.int p3)), (4, some (.int p4)), (5, some (.int p5)), (6, some (.int (mX7_spot p3 p4))), (7, some (.int s3.1)), (8, some (.int (p3 ||| ((1 : Int32) <<< (s3.1 &&& 31))))), (9, some (.int x6))]) (S := fun v8 => [.int v8, .int p3, .int p1, .ref 1]) (Mf := fun v8 => s3.2) ?_ ?_
    · refine tr_V.if_ne (tgt := 49) dX7_goesOn_41 (by decide) ?_ ?_
      · refine tr_V.bipush (v := (-9 : Int32)) dX7_goesOn_44 (by decide) ?_
        refine tr_V.goto (tgt := 51) dX7_goesOn_46 (by decide) ?_
        exact tr_V.to (fun h => h) ⟨rfl, rfl, rfl, rfl, rfl, rfl, rfl, rfl, rfl, rfl, trivial⟩
      · refine tr_V.iload dX7_goesOn_49 rfl ?_
        exact tr_V.to (fun h => h) ⟨rfl, rfl, rfl, rfl, rfl, rfl, rfl, rfl, rfl, rfl, trivial⟩
    · intro v8
      refine tr_V.iload dX7_goesOn_51 rfl ?_
      refine tr_V.bd (fun c9 h10 => ?_)
      refine tr_V.callV (C_X7_isGood p1 p3 v8 s3.1 s3.2 _ h10) yk_X7_isGood iv_X7_isGood ml_X7_257 shM_1 rfl ⟨rfl, Nat.le_of_ble_eq_true rfl⟩ rfl (Nat.le_of_ble_eq_true rfl) rfl dX7_goesOn_53 ?_
      refine tr_V.if_eq (tgt := 243) dX7_goesOn_56 (by decide) ?_ ?_
      · refine tr_V.iinc (cst := (1 : Int32)) dX7_goesOn_243 rfl (by decide) rfl ?_
        refine tr_V.goto (tgt := 11) dX7_goesOn_246 (by decide) ?_
        exact tr_V.to (fun h => h) ⟨rfl, rfl, rfl, rfl, rfl, rfl, rfl, rfl, trivial⟩
      · refine tr_V.aload_n (i := 0) dX7_goesOn_59 rfl rfl ?_
        refine tr_V.getR (Nat.succ_pos _) fl_X7_71 shM_1 rfl dX7_goesOn_60 ?_
        refine tr_V.iload dX7_goesOn_63 rfl ?_
        refine tr_V.bd (fun a11 h12 => ?_)
        refine tr_V.iald h12 shM_22 dX7_goesOn_65 ?_
        refine tr_V.ldc ct_X7_246 dX7_goesOn_66 ?_
        refine tr_V.icmp_ge (tgt := 243) dX7_goesOn_68 (by decide) ?_ ?_
        · refine tr_V.iload_n (i := 2) dX7_goesOn_71 rfl rfl ?_
          refine tr_V.callS (C_X7_isSum p2 s3.2) yk_X7_isSum sc_X7_isSum ml_X7_208 ⟨rfl, Nat.le_of_ble_eq_true rfl⟩ rfl (Nat.le_of_ble_eq_true rfl) rfl dX7_goesOn_72 ?_
          refine tr_V.seq (τ := Int32) (pc' := 113) (L := fun v15 => [(0, some (.ref 1)), (1, some (.int p1)), (2, some (.int p2)), (3, some (.int p3)), (4, some (.int p4)), (5, some (.int p5)), (6, some (.int (mX7_spot p3 p4))), (7, some (.int s3.1)), (8, some (.int (p3 ||| ((1 : Int32) <<< (s3.1 &&& 31))))), (9, some (.int x6))]) (S := fun v15 => [.int v15]) (Mf := fun v15 => s3.2) ?_ ?_
          · refine tr_V.if_eq (tgt := 96) dX7_goesOn_75 (by decide) ?_ ?_
            · refine tr_V.aload_n (i := 0) dX7_goesOn_96 rfl rfl ?_
              refine tr_V.getR (Nat.succ_pos _) fl_X7_50 shM_1 rfl dX7_goesOn_97 ?_
              refine tr_V.iload dX7_goesOn_100 rfl ?_
              refine tr_V.bd (fun a16 h17 => ?_)
              refine tr_V.iald h17 shM_15 dX7_goesOn_102 ?_
              refine tr_V.aload_n (i := 0) dX7_goesOn_103 rfl rfl ?_
              refine tr_V.getR (Nat.succ_pos _) fl_X7_71 shM_1 rfl dX7_goesOn_104 ?_
              refine tr_V.iload dX7_goesOn_107 rfl ?_
              refine tr_V.bd (fun a18 h19 => ?_)
              refine tr_V.iald h19 shM_22 dX7_goesOn_109 ?_
              refine tr_V.callS (C_X7_greater a16 a18 s3.2) yk_X7_greater sc_X7_greater ml_X7_192 ⟨rfl, Nat.le_of_ble_eq_true rfl⟩ rfl (Nat.le_of_ble_eq_true rfl) rfl dX7_goesOn_110 ?_
              exact tr_V.to (fun h => h) ⟨rfl, rfl, rfl, rfl, rfl, rfl, rfl, rfl, rfl, rfl, trivial⟩
            · refine tr_V.aload_n (i := 0) dX7_goesOn_78 rfl rfl ?_
              refine tr_V.getR (Nat.succ_pos _) fl_X7_50 shM_1 rfl dX7_goesOn_79 ?_
              refine tr_V.iload dX7_goesOn_82 rfl ?_
              refine tr_V.bd (fun a22 h23 => ?_)
              refine tr_V.iald h23 shM_15 dX7_goesOn_84 ?_
              refine tr_V.aload_n (i := 0) dX7_goesOn_85 rfl rfl ?_
              refine tr_V.getR (Nat.succ_pos _) fl_X7_71 shM_1 rfl dX7_goesOn_86 ?_
              refine tr_V.iload dX7_goesOn_89 rfl ?_
              refine tr_V.bd (fun a24 h25 => ?_)
              refine tr_V.iald h25 shM_22 dX7_goesOn_91 ?_
              refine tr_V.iadd dX7_goesOn_92 ?_
              refine tr_V.goto (tgt := 113) dX7_goesOn_93 (by decide) ?_
              exact tr_V.to (fun h => h) ⟨rfl, rfl, rfl, rfl, rfl, rfl, rfl, rfl, rfl, rfl, trivial⟩
          · intro v15
            refine tr_V.istore (i := 10) dX7_goesOn_113 (Nat.le_of_ble_eq_true rfl) rfl ?_
            refine tr_V.iload_n (i := 2) dX7_goesOn_115 rfl rfl ?_
            refine tr_V.callS (C_X7_isSum p2 s3.2) yk_X7_isSum sc_X7_isSum ml_X7_208 ⟨rfl, Nat.le_of_ble_eq_true rfl⟩ rfl (Nat.le_of_ble_eq_true rfl) rfl dX7_goesOn_116 ?_
            refine tr_V.seq (τ := tr_M) (pc' := 224) (L := fun v28 => [(0, some (.ref 1)), (1, some (.int p1)), (2, some (.int p2)), (3, some (.int p3)), (4, some (.int p4)), (5, some (.int p5)), (6, some (.int (mX7_spot p3 p4))), (7, some (.int s3.1)), (10, some (.int v15))]) (S := fun v28 => []) (Mf := fun v28 => v28) ?_ ?_
            · refine tr_V.if_eq (tgt := 191) dX7_goesOn_119 (by decide) ?_ ?_
              · refine tr_V.aload_n (i := 0) dX7_goesOn_191 rfl rfl ?_
                refine tr_V.getR (Nat.succ_pos _) fl_X7_74 shM_1 rfl dX7_goesOn_192 ?_
                refine tr_V.iload dX7_goesOn_195 rfl ?_
                refine tr_V.dup2 rfl rfl dX7_goesOn_197 ?_
                refine tr_V.bd (fun a29 h30 => ?_)
                refine tr_V.iald h30 shM_23 dX7_goesOn_198 ?_
                refine tr_V.aload_n (i := 0) dX7_goesOn_199 rfl rfl ?_
                refine tr_V.getR (Nat.succ_pos _) fl_X7_50 shM_1 rfl dX7_goesOn_200 ?_
                refine tr_V.iload dX7_goesOn_203 rfl ?_
                refine tr_V.bd (fun a31 h32 => ?_)
                refine tr_V.iald h32 shM_15 dX7_goesOn_205 ?_
                refine tr_V.iload dX7_goesOn_206 rfl ?_
                refine tr_V.icmp_gt (tgt := 221) dX7_goesOn_208 (by decide) ?_ ?_
                · refine tr_V.iconst (v := (0 : Int32)) dX7_goesOn_221 (by decide) ?_
                  refine tr_V.iadd dX7_goesOn_222 ?_
                  refine tr_V.bd (fun M33 h34 => ?_)
                  refine tr_V.iast h34 shM_23 dX7_goesOn_223 ?_
                  exact tr_V.to (fun h => h) ⟨rfl, rfl, rfl, rfl, rfl, rfl, rfl, rfl, rfl, trivial⟩
                · refine tr_V.aload_n (i := 0) dX7_goesOn_211 rfl rfl ?_
                  refine tr_V.getR (Nat.succ_pos _) fl_X7_74 shM_1 rfl dX7_goesOn_212 ?_
                  refine tr_V.iload dX7_goesOn_215 rfl ?_
                  refine tr_V.bd (fun a35 h36 => ?_)
                  refine tr_V.iald h36 shM_23 dX7_goesOn_217 ?_
                  refine tr_V.goto (tgt := 222) dX7_goesOn_218 (by decide) ?_
                  refine tr_V.iadd dX7_goesOn_222 ?_
                  refine tr_V.bd (fun M37 h38 => ?_)
                  refine tr_V.iast h38 shM_23 dX7_goesOn_223 ?_
                  exact tr_V.to (fun h => h) ⟨rfl, rfl, rfl, rfl, rfl, rfl, rfl, rfl, rfl, trivial⟩
              · refine tr_V.aload_n (i := 0) dX7_goesOn_122 rfl rfl ?_
                refine tr_V.getR (Nat.succ_pos _) fl_X7_74 shM_1 rfl dX7_goesOn_123 ?_
                refine tr_V.iload dX7_goesOn_126 rfl ?_
                refine tr_V.iload dX7_goesOn_128 rfl ?_
                refine tr_V.aload_n (i := 0) dX7_goesOn_130 rfl rfl ?_
                refine tr_V.getR (Nat.succ_pos _) fl_X7_71 shM_1 rfl dX7_goesOn_131 ?_
                refine tr_V.iload dX7_goesOn_134 rfl ?_
                refine tr_V.bd (fun a39 h40 => ?_)
                refine tr_V.iald h40 shM_22 dX7_goesOn_136 ?_
                refine tr_V.icmp_ge (tgt := 150) dX7_goesOn_137 (by decide) ?_ ?_
                · refine tr_V.aload_n (i := 0) dX7_goesOn_140 rfl rfl ?_
                  refine tr_V.getR (Nat.succ_pos _) fl_X7_74 shM_1 rfl dX7_goesOn_141 ?_
                  refine tr_V.iload dX7_goesOn_144 rfl ?_
                  refine tr_V.bd (fun a41 h42 => ?_)
                  refine tr_V.iald h42 shM_23 dX7_goesOn_146 ?_
                  refine tr_V.goto (tgt := 187) dX7_goesOn_147 (by decide) ?_
                  refine tr_V.bd (fun M43 h44 => ?_)
                  refine tr_V.iast h44 shM_23 dX7_goesOn_187 ?_
                  refine tr_V.goto (tgt := 224) dX7_goesOn_188 (by decide) ?_
                  exact tr_V.to (fun h => h) ⟨rfl, rfl, rfl, rfl, rfl, rfl, rfl, rfl, rfl, trivial⟩
                · refine tr_V.iload dX7_goesOn_150 rfl ?_
                  refine tr_V.aload_n (i := 0) dX7_goesOn_152 rfl rfl ?_
                  refine tr_V.getR (Nat.succ_pos _) fl_X7_71 shM_1 rfl dX7_goesOn_153 ?_
                  refine tr_V.iload dX7_goesOn_156 rfl ?_
                  refine tr_V.bd (fun a45 h46 => ?_)
                  refine tr_V.iald h46 shM_22 dX7_goesOn_158 ?_
                  refine tr_V.icmp_ne (tgt := 180) dX7_goesOn_159 (by decide) ?_ ?_
                  · refine tr_V.aload_n (i := 0) dX7_goesOn_162 rfl rfl ?_
                    refine tr_V.getR (Nat.succ_pos _) fl_X7_74 shM_1 rfl dX7_goesOn_163 ?_
                    refine tr_V.iload dX7_goesOn_166 rfl ?_
                    refine tr_V.bd (fun a47 h48 => ?_)
                    refine tr_V.iald h48 shM_23 dX7_goesOn_168 ?_
                    refine tr_V.aload_n (i := 0) dX7_goesOn_169 rfl rfl ?_
                    refine tr_V.getR (Nat.succ_pos _) fl_X7_74 shM_1 rfl dX7_goesOn_170 ?_
                    refine tr_V.iload dX7_goesOn_173 rfl ?_
                    refine tr_V.bd (fun a49 h50 => ?_)
                    refine tr_V.iald h50 shM_23 dX7_goesOn_175 ?_
                    refine tr_V.iadd dX7_goesOn_176 ?_
                    refine tr_V.goto (tgt := 187) dX7_goesOn_177 (by decide) ?_
                    refine tr_V.bd (fun M51 h52 => ?_)
                    refine tr_V.iast h52 shM_23 dX7_goesOn_187 ?_
                    refine tr_V.goto (tgt := 224) dX7_goesOn_188 (by decide) ?_
                    exact tr_V.to (fun h => h) ⟨rfl, rfl, rfl, rfl, rfl, rfl, rfl, rfl, rfl, trivial⟩
                  · refine tr_V.aload_n (i := 0) dX7_goesOn_180 rfl rfl ?_
                    refine tr_V.getR (Nat.succ_pos _) fl_X7_74 shM_1 rfl dX7_goesOn_181 ?_
                    refine tr_V.iload dX7_goesOn_184 rfl ?_
                    refine tr_V.bd (fun a53 h54 => ?_)
                    refine tr_V.iald h54 shM_23 dX7_goesOn_186 ?_
                    refine tr_V.bd (fun M55 h56 => ?_)
                    refine tr_V.iast h56 shM_23 dX7_goesOn_187 ?_
                    refine tr_V.goto (tgt := 224) dX7_goesOn_188 (by decide) ?_
                    exact tr_V.to (fun h => h) ⟨rfl, rfl, rfl, rfl, rfl, rfl, rfl, rfl, rfl, trivial⟩
            · intro v28
              refine tr_V.aload_n (i := 0) dX7_goesOn_224 rfl rfl ?_
              refine tr_V.getR (Nat.succ_pos _) fl_X7_71 shM_1 rfl dX7_goesOn_225 ?_
              refine tr_V.iload dX7_goesOn_228 rfl ?_
              refine tr_V.aload_n (i := 0) dX7_goesOn_230 rfl rfl ?_
              refine tr_V.getR (Nat.succ_pos _) fl_X7_71 shM_1 rfl dX7_goesOn_231 ?_
              refine tr_V.iload dX7_goesOn_234 rfl ?_
              refine tr_V.bd (fun a57 h58 => ?_)
              refine tr_V.iald h58 shM_22 dX7_goesOn_236 ?_
              refine tr_V.iload dX7_goesOn_237 rfl ?_
              refine tr_V.callS (C_X7_lesser a57 v15 v28) yk_X7_lesser sc_X7_lesser ml_X7_183 ⟨rfl, Nat.le_of_ble_eq_true rfl⟩ rfl (Nat.le_of_ble_eq_true rfl) rfl dX7_goesOn_239 ?_
              refine tr_V.bd (fun M61 h62 => ?_)
              refine tr_V.iast h62 shM_22 dX7_goesOn_242 ?_
              refine tr_V.iinc (cst := (1 : Int32)) dX7_goesOn_243 rfl (by decide) rfl ?_
              refine tr_V.goto (tgt := 11) dX7_goesOn_246 (by decide) ?_
              exact tr_V.to (fun h => h) ⟨rfl, rfl, rfl, rfl, rfl, rfl, rfl, rfl, trivial⟩
        · refine tr_V.iinc (cst := (1 : Int32)) dX7_goesOn_243 rfl (by decide) rfl ?_
          refine tr_V.goto (tgt := 11) dX7_goesOn_246 (by decide) ?_
          exact tr_V.to (fun h => h) ⟨rfl, rfl, rfl, rfl, rfl, rfl, rfl, rfl, trivial⟩
  · exact tr_V.vret dX7_goesOn_249 rfl (fun h => h)
