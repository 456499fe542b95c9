abbrev xX7_bestAlong : tr_X := (cX7_bestAlong, 6, RX7, (some .int), 6, shM, 24)
theorem cw_X7_bestAlong : Cond.code yX7_bestAlong cX7_bestAlong 6 (some .int) ∈ tr_tbl := tr_in 1692 (by decide +kernel) rfl
theorem yk_X7_bestAlong : tr_yk yX7_bestAlong (xX7_bestAlong) 3 := ⟨cw_X7_bestAlong, in_X7, ⟨by decide +kernel, by decide +kernel, by decide +kernel⟩, Nat.le_of_ble_eq_true rfl⟩
theorem iv_X7_bestAlong : Cond.instanceMethod yX7_bestAlong ∈ tr_tbl ∧ Cond.selects (yX7_bestAlong).cls yX7_bestAlong yX7_bestAlong ∈ tr_tbl := ⟨tr_in 1691 (by decide +kernel) rfl, tr_in 118 (by decide +kernel) rfl⟩
def mX7_bestAlong_l14 (p1 : Int32) (p2 : Int32) (p3 : Int32) (s3 : Int32 × tr_M) (s6 : Int32 × tr_M) : Option ((Int32 × tr_M) ⊕ ((Int32 × tr_M) ⊕ (Int32 × tr_M))) :=
  if s6.1 < (s6.2.1 1 10) then (
    Option.bind (show Option (Int32) from
      if s3.1 = (mX7_full s6.2) then (
        if (mX7_has s3.1 s6.1) = 0 then (
          some (1000000 : Int32)
        ) else (
          some (0 : Int32)
        )
      ) else (
        some (1000000 : Int32)
      )
    ) (fun (v11 : Int32) =>
      Option.bind (tr_wr 10240 s6.2 22 (mX7_spot s3.1 s6.1) v11) (fun M14 =>
      Option.bind (show Option (Int32) from
        if s3.1 = (mX7_full M14) then (
          if (mX7_has s3.1 s6.1) = 0 then (
            some (0 : Int32)
          ) else (
            some (1 : Int32)
          )
        ) else (
          some (0 : Int32)
        )
      ) (fun (v20 : Int32) =>
        Option.bind (tr_wr 10240 M14 23 (mX7_spot s3.1 s6.1) v20) (fun M23 =>
        if s3.1 < (mX7_full M23) then (
          Option.bind (show Option ((Int32) ⊕ ((Int32 × tr_M) ⊕ ((Int32 × tr_M) ⊕ (Int32 × tr_M)))) from
            if (mX7_has s3.1 s6.1) = 0 then (
              if s3.1 = 0 then (
                if s6.1 = 0 then (
                  some (.inl s6.1)
                ) else (
                  some (.inr (.inl ((s6.1 + (1 : Int32)), M23)))
                )
              ) else (
                some (.inr (.inl ((s6.1 + (1 : Int32)), M23)))
              )
            ) else (
              some (.inl s6.1)
            )
          ) (tr_el (fun (v29 : Int32) =>
            Option.bind (mX7_goesOn p1 p2 s3.1 v29 p3 M23) (fun c30 =>
            some (.inl ((v29 + (1 : Int32)), c30))
            )
          ))
        ) else (
          some (.inl ((s6.1 + (1 : Int32)), M23))
        )
        )
      )
      )
    )
  ) else (
    Option.bind (some (s3.1 + (-1 : Int32))) (fun x32 =>
    some (.inr (.inl (x32, s6.2)))
    )
  )
def mX7_bestAlong_l6 (p1 : Int32) (p2 : Int32) (p3 : Int32) (s3 : Int32 × tr_M) : Option ((Int32 × tr_M) ⊕ (Int32 × tr_M)) :=
  if s3.1 < 0 then (
    Option.bind (tr_rd 10240 s3.2 22 (0 : Int32)) (fun a4 =>
    some (.inr (a4, s3.2))
    )
  ) else (
    tr_loop (mX7_bestAlong_l14 p1 p2 p3 s3) ((0 : Int32), s3.2)
  )
def mX7_bestAlong (p1 : Int32) (p2 : Int32) (p3 : Int32) (M : tr_M) : Option (Int32 × tr_M) :=
  tr_loop (mX7_bestAlong_l6 p1 p2 p3) ((mX7_full M), M)
set_option maxRecDepth 100000 in
set_option maxHeartbeats 4000000 in
theorem C_X7_bestAlong (p1 : Int32) (p2 : Int32) (p3 : Int32) (M : tr_M) (r : Int32 × tr_M) (h : mX7_bestAlong p1 p2 p3 M = some r) : tr_I yX7_bestAlong (xX7_bestAlong) [.ref 1, .int p1, .int p2, .int p3] M (some (.int r.1)) r.2 := by
  refine tr_I.of (Z := fun q : Int32 × tr_M => (some (.int r.1) : Option Value) = some (.int q.1) ∧ r.2 = q.2) pn_X7 rfl gdM (Nat.le_of_ble_eq_true rfl) (fun Wt => ?_) h ⟨rfl, rfl⟩
  unfold mX7_bestAlong
  refine tr_V.aload_n (i := 0) dX7_bestAlong_0 rfl rfl ?_
  refine tr_V.callV (C_X7_full M) yk_X7_full iv_X7_full ml_X7_236 shM_1 rfl ⟨rfl, Nat.le_of_ble_eq_true rfl⟩ rfl (Nat.le_of_ble_eq_true rfl) rfl dX7_bestAlong_1 ?_
  refine tr_V.istore (i := 4) dX7_bestAlong_4 (Nat.le_of_ble_eq_true rfl) rfl ?_
  refine tr_V.loop (σ := Int32 × tr_M) (step := mX7_bestAlong_l6 p1 p2 p3) (L := fun s3 => [(0, some (.ref 1)), (1, some (.int p1)), (2, some (.int p2)), (3, some (.int p3)), (4, some (.int s3.1))]) (Mf := fun s3 => s3.2) ?_ ((mX7_full M), M) ⟨rfl, rfl, rfl, rfl, rfl, trivial⟩
  intro s3
  refine tr_V.iload dX7_bestAlong_6 rfl ?_
  refine tr_V.if_lt (tgt := 148) dX7_bestAlong_8 (by decide) ?_ ?_
  · refine tr_V.aload_n (i := 0) dX7_bestAlong_148 rfl rfl ?_
    refine tr_V.getR (Nat.succ_pos _) fl_X7_71 shM_1 rfl dX7_bestAlong_149 ?_
    refine tr_V.iconst (v := (0 : Int32)) dX7_bestAlong_152 (by decide) ?_
    refine tr_V.bd (fun a4 h5 => ?_)
    refine tr_V.iald h5 shM_22 dX7_bestAlong_153 ?_
    exact tr_V.iret dX7_bestAlong_154 rfl (fun h => h)
  · refine tr_V.iconst (v := (0 : Int32)) dX7_bestAlong_11 (by decide) ?_
    refine tr_V.istore (i := 5) dX7_bestAlong_12 (Nat.le_of_ble_eq_true rfl) rfl ?_
    refine tr_V.loop (σ := Int32 × tr_M) (step := mX7_bestAlong_l14 p1 p2 p3 s3) (L := fun s6 => [(0, some (.ref 1)), (1, some (.int p1)), (2, some (.int p2)), (3, some (.int p3)), (4, some (.int s3.1)), (5, some (.int s6.1))]) (Mf := fun s6 => s6.2) ?_ ((0 : Int32), s3.2) ⟨rfl, rfl, rfl, rfl, rfl, rfl, trivial⟩
    intro s6
    refine tr_V.iload dX7_bestAlong_14 rfl ?_
    refine tr_V.aload_n (i := 0) dX7_bestAlong_16 rfl rfl ?_
    refine tr_V.getI fl_X7_157 shM_1 rfl dX7_bestAlong_17 ?_
    refine tr_V.icmp_ge (tgt := 142) dX7_bestAlong_20 (by decide) ?_ ?_
    · refine tr_V.aload_n (i := 0) dX7_bestAlong_23 rfl rfl ?_
      refine tr_V.getR (Nat.succ_pos _) fl_X7_71 shM_1 rfl dX7_bestAlong_24 ?_
      refine tr_V.iload dX7_bestAlong_27 rfl ?_
      refine tr_V.iload dX7_bestAlong_29 rfl ?_
      refine tr_V.callS (C_X7_spot s3.1 s6.1 s6.2) yk_X7_spot sc_X7_spot ml_X7_243 ⟨rfl, Nat.le_of_ble_eq_true rfl⟩ rfl (Nat.le_of_ble_eq_true rfl) rfl dX7_bestAlong_31 ?_
      refine tr_V.iload dX7_bestAlong_34 rfl ?_
      refine tr_V.aload_n (i := 0) dX7_bestAlong_36 rfl rfl ?_
      refine tr_V.callV (C_X7_full s6.2) yk_X7_full iv_X7_full ml_X7_236 shM_1 rfl ⟨rfl, Nat.le_of_ble_eq_true rfl⟩ rfl (Nat.le_of_ble_eq_true rfl) rfl dX7_bestAlong_37 ?_
      refine tr_V.seq (τ := Int32) (pc' := 59) (L := fun v11 => [(0, some (.ref 1)), (1, some (.int p1)), (2, some (.int p2)), (3, some (.int p3)), (4, some (.int s3.1)), (5, some (.int s6.1))]) (S := fun v11 => [.int v11, .int (mX7_spot s3.1 s6.1), .ref 22]) (Mf := fun v11 => s6.2) ?_ ?_
      · refine tr_V.icmp_ne (tgt := 57) dX7_bestAlong_40 (by decide) ?_ ?_
        · refine tr_V.iload dX7_bestAlong_43 rfl ?_
          refine tr_V.iload dX7_bestAlong_45 rfl ?_
          refine tr_V.callS (C_X7_has s3.1 s6.1 s6.2) yk_X7_has sc_X7_has ml_X7_186 ⟨rfl, Nat.le_of_ble_eq_true rfl⟩ rfl (Nat.le_of_ble_eq_true rfl) rfl dX7_bestAlong_47 ?_
          refine tr_V.if_eq (tgt := 57) dX7_bestAlong_50 (by decide) ?_ ?_
          · refine tr_V.ldc ct_X7_246 dX7_bestAlong_57 ?_
            exact tr_V.to (fun h => h) ⟨rfl, rfl, rfl, rfl, rfl, rfl, trivial⟩
          · refine tr_V.iconst (v := (0 : Int32)) dX7_bestAlong_53 (by decide) ?_
            refine tr_V.goto (tgt := 59) dX7_bestAlong_54 (by decide) ?_
            exact tr_V.to (fun h => h) ⟨rfl, rfl, rfl, rfl, rfl, rfl, trivial⟩
        · refine tr_V.ldc ct_X7_246 dX7_bestAlong_57 ?_
          exact tr_V.to (fun h => h) ⟨rfl, rfl, rfl, rfl, rfl, rfl, trivial⟩
      · intro v11
        refine tr_V.bd (fun M14 h15 => ?_)
        refine tr_V.iast h15 shM_22 dX7_bestAlong_59 ?_
        refine tr_V.aload_n (i := 0) dX7_bestAlong_60 rfl rfl ?_
        refine tr_V.getR (Nat.succ_pos _) fl_X7_74 shM_1 rfl dX7_bestAlong_61 ?_
        refine tr_V.iload dX7_bestAlong_64 rfl ?_
        refine tr_V.iload dX7_bestAlong_66 rfl ?_
        refine tr_V.callS (C_X7_spot s3.1 s6.1 M14) yk_X7_spot sc_X7_spot ml_X7_243 ⟨rfl, Nat.le_of_ble_eq_true rfl⟩ rfl (Nat.le_of_ble_eq_true rfl) rfl dX7_bestAlong_68 ?_
        refine tr_V.iload dX7_bestAlong_71 rfl ?_
        refine tr_V.aload_n (i := 0) dX7_bestAlong_73 rfl rfl ?_
        refine tr_V.callV (C_X7_full M14) yk_X7_full iv_X7_full ml_X7_236 shM_1 rfl ⟨rfl, Nat.le_of_ble_eq_true rfl⟩ rfl (Nat.le_of_ble_eq_true rfl) rfl dX7_bestAlong_74 ?_
        refine tr_V.seq (τ := Int32) (pc' := 95) (L := fun v20 => [(0, some (.ref 1)), (1, some (.int p1)), (2, some (.int p2)), (3, some (.int p3)), (4, some (.int s3.1)), (5, some (.int s6.1))]) (S := fun v20 => [.int v20, .int (mX7_spot s3.1 s6.1), .ref 23]) (Mf := fun v20 => M14) ?_ ?_
        · refine tr_V.icmp_ne (tgt := 94) dX7_bestAlong_77 (by decide) ?_ ?_
          · refine tr_V.iload dX7_bestAlong_80 rfl ?_
            refine tr_V.iload dX7_bestAlong_82 rfl ?_
            refine tr_V.callS (C_X7_has s3.1 s6.1 M14) yk_X7_has sc_X7_has ml_X7_186 ⟨rfl, Nat.le_of_ble_eq_true rfl⟩ rfl (Nat.le_of_ble_eq_true rfl) rfl dX7_bestAlong_84 ?_
            refine tr_V.if_eq (tgt := 94) dX7_bestAlong_87 (by decide) ?_ ?_
            · refine tr_V.iconst (v := (0 : Int32)) dX7_bestAlong_94 (by decide) ?_
              exact tr_V.to (fun h => h) ⟨rfl, rfl, rfl, rfl, rfl, rfl, trivial⟩
            · refine tr_V.iconst (v := (1 : Int32)) dX7_bestAlong_90 (by decide) ?_
              refine tr_V.goto (tgt := 95) dX7_bestAlong_91 (by decide) ?_
              exact tr_V.to (fun h => h) ⟨rfl, rfl, rfl, rfl, rfl, rfl, trivial⟩
          · refine tr_V.iconst (v := (0 : Int32)) dX7_bestAlong_94 (by decide) ?_
            exact tr_V.to (fun h => h) ⟨rfl, rfl, rfl, rfl, rfl, rfl, trivial⟩
        · intro v20
          refine tr_V.bd (fun M23 h24 => ?_)
          refine tr_V.iast h24 shM_23 dX7_bestAlong_95 ?_
          refine tr_V.iload dX7_bestAlong_96 rfl ?_
          refine tr_V.aload_n (i := 0) dX7_bestAlong_98 rfl rfl ?_
          refine tr_V.callV (C_X7_full M23) yk_X7_full iv_X7_full ml_X7_236 shM_1 rfl ⟨rfl, Nat.le_of_ble_eq_true rfl⟩ rfl (Nat.le_of_ble_eq_true rfl) rfl dX7_bestAlong_99 ?_
          refine tr_V.icmp_ge (tgt := 136) dX7_bestAlong_102 (by decide) ?_ ?_
          · refine tr_V.iload dX7_bestAlong_105 rfl ?_
            refine tr_V.iload dX7_bestAlong_107 rfl ?_
            refine tr_V.callS (C_X7_has s3.1 s6.1 M23) yk_X7_has sc_X7_has ml_X7_186 ⟨rfl, Nat.le_of_ble_eq_true rfl⟩ rfl (Nat.le_of_ble_eq_true rfl) rfl dX7_bestAlong_109 ?_
            refine tr_V.seqE (τ := Int32) (pc' := 125) (L := fun v29 => [(0, some (.ref 1)), (1, some (.int p1)), (2, some (.int p2)), (3, some (.int p3)), (4, some (.int s3.1)), (5, some (.int v29))]) (S := fun v29 => []) (Mf := fun v29 => M23) ?_ ?_
            · refine tr_V.if_ne (tgt := 125) dX7_bestAlong_112 (by decide) ?_ ?_
              · refine tr_V.iload dX7_bestAlong_115 rfl ?_
                refine tr_V.if_ne (tgt := 136) dX7_bestAlong_117 (by decide) ?_ ?_
                · refine tr_V.iload dX7_bestAlong_120 rfl ?_
                  refine tr_V.if_ne (tgt := 136) dX7_bestAlong_122 (by decide) ?_ ?_
                  · exact tr_V.to (fun h => h) ⟨rfl, rfl, rfl, rfl, rfl, rfl, trivial⟩
                  · refine tr_V.iinc (cst := (1 : Int32)) dX7_bestAlong_136 rfl (by decide) rfl ?_
                    refine tr_V.goto (tgt := 14) dX7_bestAlong_139 (by decide) ?_
                    exact tr_V.to (fun h => h) ⟨rfl, rfl, rfl, rfl, rfl, rfl, trivial⟩
                · refine tr_V.iinc (cst := (1 : Int32)) dX7_bestAlong_136 rfl (by decide) rfl ?_
                  refine tr_V.goto (tgt := 14) dX7_bestAlong_139 (by decide) ?_
                  exact tr_V.to (fun h => h) ⟨rfl, rfl, rfl, rfl, rfl, rfl, trivial⟩
              · exact tr_V.to (fun h => h) ⟨rfl, rfl, rfl, rfl, rfl, rfl, trivial⟩
            · intro v29
              refine tr_V.aload_n (i := 0) dX7_bestAlong_125 rfl rfl ?_
              refine tr_V.iload_n (i := 1) dX7_bestAlong_126 rfl rfl ?_
              refine tr_V.iload_n (i := 2) dX7_bestAlong_127 rfl rfl ?_
              refine tr_V.iload dX7_bestAlong_128 rfl ?_
              refine tr_V.iload dX7_bestAlong_130 rfl ?_
              refine tr_V.iload_n (i := 3) dX7_bestAlong_132 rfl rfl ?_
              refine tr_V.bd (fun c30 h31 => ?_)
              refine tr_V.callV (C_X7_goesOn p1 p2 s3.1 v29 p3 M23 _ h31) yk_X7_goesOn iv_X7_goesOn ml_X7_357 shM_1 rfl ⟨rfl, Nat.le_of_ble_eq_true rfl⟩ rfl (Nat.le_of_ble_eq_true rfl) rfl dX7_bestAlong_133 ?_
              refine tr_V.iinc (cst := (1 : Int32)) dX7_bestAlong_136 rfl (by decide) rfl ?_
              refine tr_V.goto (tgt := 14) dX7_bestAlong_139 (by decide) ?_
              exact tr_V.to (fun h => h) ⟨rfl, rfl, rfl, rfl, rfl, rfl, trivial⟩
          · refine tr_V.iinc (cst := (1 : Int32)) dX7_bestAlong_136 rfl (by decide) rfl ?_
            refine tr_V.goto (tgt := 14) dX7_bestAlong_139 (by decide) ?_
            exact tr_V.to (fun h => h) ⟨rfl, rfl, rfl, rfl, rfl, rfl, trivial⟩
    · refine tr_V.bd (fun x32 h33 => ?_)
      refine tr_V.iincN (cst := (-1 : Int32)) dX7_bestAlong_142 rfl (by decide) rfl h33 ?_
      refine tr_V.goto (tgt := 6) dX7_bestAlong_145 (by decide) ?_
      exact tr_V.to (fun h => h) ⟨rfl, rfl, rfl, rfl, rfl, trivial⟩
abbrev xX7_bothBySets : tr_X := (cX7_bothBySets, 5, RX7, (some .int), 7, shM, 24)
theorem cw_X7_bothBySets : Cond.code yX7_bothBySets cX7_bothBySets 5 (some .int) ∈ tr_tbl := tr_in 1688 (by decide +kernel) rfl
theorem yk_X7_bothBySets : tr_yk yX7_bothBySets (xX7_bothBySets) 2 := ⟨cw_X7_bothBySets, in_X7, ⟨by decide +kernel, by decide +kernel, by decide +kernel⟩, Nat.le_of_ble_eq_true rfl⟩
theorem iv_X7_bothBySets : Cond.instanceMethod yX7_bothBySets ∈ tr_tbl ∧ Cond.selects (yX7_bothBySets).cls yX7_bothBySets yX7_bothBySets ∈ tr_tbl := ⟨tr_in 1687 (by decide +kernel) rfl, tr_in 117 (by decide +kernel) rfl⟩
def mX7_bothBySets (p1 : Int32) (p2 : Int32) (M : tr_M) : Option (Int32 × tr_M) :=
  Option.bind (mX7_layEdges p2 15 M) (fun c1 =>
  if (c1.1 1 10) = 0 then (
    Option.bind (mX7_tells (1 : Int32) (0 : Int32) c1) (fun c3 =>
    some (c3.1, c3.2)
    )
  ) else (
    Option.bind (mX7_bestAlong p1 p2 (1000000 : Int32) c1) (fun c5 =>
    Option.bind (show Option (Int32) from
      if (mX7_isSum p2) = 0 then (
        some (-9 : Int32)
      ) else (
        Option.bind (tr_rd 10240 c5.2 23 (0 : Int32)) (fun a10 =>
        some a10
        )
      )
    ) (fun (v9 : Int32) =>
      Option.bind (show Option (Int32 × tr_M) from
        if (mX7_isSum p2) = 0 then (
          Option.bind (mX7_bestAlong p1 p2 c5.1 c5.2) (fun c15 =>
          Option.bind (tr_rd 10240 c15.2 23 (0 : Int32)) (fun a17 =>
          some (a17, c15.2)
          )
          )
        ) else (
          some (v9, c5.2)
        )
      ) (fun (v14 : Int32 × tr_M) =>
        Option.bind (mX7_tells v14.1 c5.1 v14.2) (fun c19 =>
        some (c19.1, c19.2)
        )
      )
    )
    )
  )
  )
set_option maxRecDepth 100000 in
set_option maxHeartbeats 4000000 in
theorem C_X7_bothBySets (p1 : Int32) (p2 : Int32) (M : tr_M) (r : Int32 × tr_M) (h : mX7_bothBySets p1 p2 M = some r) : tr_I yX7_bothBySets (xX7_bothBySets) [.ref 1, .int p1, .int p2] M (some (.int r.1)) r.2 := by
  refine tr_I.of (Z := fun q : Int32 × tr_M => (some (.int r.1) : Option Value) = some (.int q.1) ∧ r.2 = q.2) pn_X7 rfl gdM (Nat.le_of_ble_eq_true rfl) (fun Wt => ?_) h ⟨rfl, rfl⟩
  unfold mX7_bothBySets
  refine tr_V.aload_n (i := 0) dX7_bothBySets_0 rfl rfl ?_
  refine tr_V.iload_n (i := 2) dX7_bothBySets_1 rfl rfl ?_
  refine tr_V.aload_n (i := 0) dX7_bothBySets_2 rfl rfl ?_
  refine tr_V.getR (Nat.succ_pos _) fl_X7_50 shM_1 rfl dX7_bothBySets_3 ?_
  refine tr_V.bd (fun c1 h2 => ?_)
  refine tr_V.callV (C_X7_layEdges p2 15 M _ h2) yk_X7_layEdges iv_X7_layEdges ml_X7_239 shM_1 rfl ⟨rfl, Nat.le_of_ble_eq_true rfl⟩ rfl (Nat.le_of_ble_eq_true rfl) rfl dX7_bothBySets_6 ?_
  refine tr_V.aload_n (i := 0) dX7_bothBySets_9 rfl rfl ?_
  refine tr_V.getI fl_X7_157 shM_1 rfl dX7_bothBySets_10 ?_
  refine tr_V.if_ne (tgt := 23) dX7_bothBySets_13 (by decide) ?_ ?_
  · refine tr_V.aload_n (i := 0) dX7_bothBySets_16 rfl rfl ?_
    refine tr_V.iconst (v := (1 : Int32)) dX7_bothBySets_17 (by decide) ?_
    refine tr_V.iconst (v := (0 : Int32)) dX7_bothBySets_18 (by decide) ?_
    refine tr_V.bd (fun c3 h4 => ?_)
    refine tr_V.callV (C_X7_tells (1 : Int32) (0 : Int32) c1 _ h4) yk_X7_tells iv_X7_tells ml_X7_114 shM_1 rfl ⟨rfl, Nat.le_of_ble_eq_true rfl⟩ rfl (Nat.le_of_ble_eq_true rfl) rfl dX7_bothBySets_19 ?_
    exact tr_V.iret dX7_bothBySets_22 rfl (fun h => h)
  · refine tr_V.aload_n (i := 0) dX7_bothBySets_23 rfl rfl ?_
    refine tr_V.iload_n (i := 1) dX7_bothBySets_24 rfl rfl ?_
    refine tr_V.iload_n (i := 2) dX7_bothBySets_25 rfl rfl ?_
    refine tr_V.ldc ct_X7_246 dX7_bothBySets_26 ?_
    refine tr_V.bd (fun c5 h6 => ?_)
    refine tr_V.callV (C_X7_bestAlong p1 p2 (1000000 : Int32) c1 _ h6) yk_X7_bestAlong iv_X7_bestAlong ml_X7_354 shM_1 rfl ⟨rfl, Nat.le_of_ble_eq_true rfl⟩ rfl (Nat.le_of_ble_eq_true rfl) rfl dX7_bothBySets_28 ?_
    refine tr_V.istore_n (i := 3) dX7_bothBySets_31 rfl (Nat.le_of_ble_eq_true rfl) rfl ?_
    refine tr_V.iload_n (i := 2) dX7_bothBySets_32 rfl rfl ?_
    refine tr_V.callS (C_X7_isSum p2 c5.2) yk_X7_isSum sc_X7_isSum ml_X7_208 ⟨rfl, Nat.le_of_ble_eq_true rfl⟩ rfl (Nat.le_of_ble_eq_true rfl) rfl dX7_bothBySets_33 ?_
    refine tr_V.seq (τ := Int32) (pc' := 50) (L := fun v9 => [(0, some (.ref 1)), (1, some (.int p1)), (2, some (.int p2)), (3, some (.int c5.1))]) (S := fun v9 => [.int v9]) (Mf := fun v9 => c5.2) ?_ ?_
    · refine tr_V.if_eq (tgt := 48) dX7_bothBySets_36 (by decide) ?_ ?_
      · refine tr_V.bipush (v := (-9 : Int32)) dX7_bothBySets_48 (by decide) ?_
        exact tr_V.to (fun h => h) ⟨rfl, rfl, rfl, rfl, trivial⟩
      · refine tr_V.aload_n (i := 0) dX7_bothBySets_39 rfl rfl ?_
        refine tr_V.getR (Nat.succ_pos _) fl_X7_74 shM_1 rfl dX7_bothBySets_40 ?_
        refine tr_V.iconst (v := (0 : Int32)) dX7_bothBySets_43 (by decide) ?_
        refine tr_V.bd (fun a10 h11 => ?_)
        refine tr_V.iald h11 shM_23 dX7_bothBySets_44 ?_
        refine tr_V.goto (tgt := 50) dX7_bothBySets_45 (by decide) ?_
        exact tr_V.to (fun h => h) ⟨rfl, rfl, rfl, rfl, trivial⟩
    · intro v9
      refine tr_V.istore (i := 4) dX7_bothBySets_50 (Nat.le_of_ble_eq_true rfl) rfl ?_
      refine tr_V.iload_n (i := 2) dX7_bothBySets_52 rfl rfl ?_
      refine tr_V.callS (C_X7_isSum p2 c5.2) yk_X7_isSum sc_X7_isSum ml_X7_208 ⟨rfl, Nat.le_of_ble_eq_true rfl⟩ rfl (Nat.le_of_ble_eq_true rfl) rfl dX7_bothBySets_53 ?_
      refine tr_V.seq (τ := Int32 × tr_M) (pc' := 75) (L := fun v14 => [(0, some (.ref 1)), (3, some (.int c5.1)), (4, some (.int v14.1))]) (S := fun v14 => []) (Mf := fun v14 => v14.2) ?_ ?_
      · refine tr_V.if_ne (tgt := 75) dX7_bothBySets_56 (by decide) ?_ ?_
        · refine tr_V.aload_n (i := 0) dX7_bothBySets_59 rfl rfl ?_
          refine tr_V.iload_n (i := 1) dX7_bothBySets_60 rfl rfl ?_
          refine tr_V.iload_n (i := 2) dX7_bothBySets_61 rfl rfl ?_
          refine tr_V.iload_n (i := 3) dX7_bothBySets_62 rfl rfl ?_
          refine tr_V.bd (fun c15 h16 => ?_)
          refine tr_V.callV (C_X7_bestAlong p1 p2 c5.1 c5.2 _ h16) yk_X7_bestAlong iv_X7_bestAlong ml_X7_354 shM_1 rfl ⟨rfl, Nat.le_of_ble_eq_true rfl⟩ rfl (Nat.le_of_ble_eq_true rfl) rfl dX7_bothBySets_63 ?_
          refine tr_V.pop rfl dX7_bothBySets_66 ?_
          refine tr_V.aload_n (i := 0) dX7_bothBySets_67 rfl rfl ?_
          refine tr_V.getR (Nat.succ_pos _) fl_X7_74 shM_1 rfl dX7_bothBySets_68 ?_
          refine tr_V.iconst (v := (0 : Int32)) dX7_bothBySets_71 (by decide) ?_
          refine tr_V.bd (fun a17 h18 => ?_)
          refine tr_V.iald h18 shM_23 dX7_bothBySets_72 ?_
          refine tr_V.istore (i := 4) dX7_bothBySets_73 (Nat.le_of_ble_eq_true rfl) rfl ?_
          exact tr_V.to (fun h => h) ⟨rfl, rfl, rfl, trivial⟩
        · exact tr_V.to (fun h => h) ⟨rfl, rfl, rfl, trivial⟩
      · intro v14
        refine tr_V.aload_n (i := 0) dX7_bothBySets_75 rfl rfl ?_
        refine tr_V.iload dX7_bothBySets_76 rfl ?_
        refine tr_V.iload_n (i := 3) dX7_bothBySets_78 rfl rfl ?_
        refine tr_V.bd (fun c19 h20 => ?_)
        refine tr_V.callV (C_X7_tells v14.1 c5.1 v14.2 _ h20) yk_X7_tells iv_X7_tells ml_X7_114 shM_1 rfl ⟨rfl, Nat.le_of_ble_eq_true rfl⟩ rfl (Nat.le_of_ble_eq_true rfl) rfl dX7_bothBySets_79 ?_
        exact tr_V.iret dX7_bothBySets_82 rfl (fun h => h)
abbrev xX7_both : tr_X := (cX7_both, 4, RX7, (some .int), 8, shM, 24)
theorem cw_X7_both : Cond.code yX7_both cX7_both 4 (some .int) ∈ tr_tbl := tr_in 1680 (by decide +kernel) rfl
theorem yk_X7_both : tr_yk yX7_both (xX7_both) 2 := ⟨cw_X7_both, in_X7, ⟨by decide +kernel, by decide +kernel, by decide +kernel⟩, Nat.le_of_ble_eq_true rfl⟩
theorem iv_X7_both : Cond.instanceMethod yX7_both ∈ tr_tbl ∧ Cond.selects (yX7_both).cls yX7_both yX7_both ∈ tr_tbl := ⟨tr_in 1678 (by decide +kernel) rfl, tr_in 1679 (by decide +kernel) rfl⟩
def mX7_both (p1 : Int32) (p2 : Int32) (M : tr_M) : Option (Int32 × tr_M) :=
  Option.bind (mX7_isMeasure p1) (fun c1 =>
  if c1 = 0 then (
    some ((-1 : Int32), M)
  ) else (
    Option.bind (mX7_isMeasure p2) (fun c3 =>
    if c3 = 0 then (
      some ((-1 : Int32), M)
    ) else (
      if (mX7_isTooLong p1 M) = 0 then (
        if (mX7_isTooLong p2 M) = 0 then (
          Option.bind (mX7_needLeast p1 M) (fun c9 =>
          if c9.1 < 0 then (
            some (c9.1, c9.2)
          ) else (
            Option.bind (show Option ((tr_M) ⊕ (Int32 × tr_M)) from
              if p1 = (4 : Int32) then (
                some (.inl c9.2)
              ) else (
                if p2 = (4 : Int32) then (
                  some (.inl c9.2)
                ) else (
                  Option.bind (mX7_bothBySets p1 p2 c9.2) (fun c12 =>
                  some (.inr (c12.1, c12.2))
                  )
                )
              )
            ) (tr_el (fun (v11 : tr_M) =>
              Option.bind (mX7_bothByLines p1 p2 v11) (fun c14 =>
              some (c14.1, c14.2)
              )
            ))
          )
          )
        ) else (
          some ((-6 : Int32), M)
        )
      ) else (
        some ((-6 : Int32), M)
      )
    )
    )
  )
  )
set_option maxRecDepth 100000 in
set_option maxHeartbeats 4000000 in
theorem C_X7_both (p1 : Int32) (p2 : Int32) (M : tr_M) (r : Int32 × tr_M) (h : mX7_both p1 p2 M = some r) : tr_I yX7_both (xX7_both) [.ref 1, .int p1, .int p2] M (some (.int r.1)) r.2 := by
  refine tr_I.of (Z := fun q : Int32 × tr_M => (some (.int r.1) : Option Value) = some (.int q.1) ∧ r.2 = q.2) pn_X7 rfl gdM (Nat.le_of_ble_eq_true rfl) (fun Wt => ?_) h ⟨rfl, rfl⟩
  unfold mX7_both
  refine tr_V.iload_n (i := 1) dX7_both_0 rfl rfl ?_
  refine tr_V.bd (fun c1 h2 => ?_)
  refine tr_V.callS (C_X7_isMeasure p1 M _ h2) yk_X7_isMeasure sc_X7_isMeasure ml_X7_211 ⟨rfl, Nat.le_of_ble_eq_true rfl⟩ rfl (Nat.le_of_ble_eq_true rfl) rfl dX7_both_1 ?_
  refine tr_V.if_eq (tgt := 14) dX7_both_4 (by decide) ?_ ?_
  · refine tr_V.iconst (v := (-1 : Int32)) dX7_both_14 (by decide) ?_
    exact tr_V.iret dX7_both_15 rfl (fun h => h)
  · refine tr_V.iload_n (i := 2) dX7_both_7 rfl rfl ?_
    refine tr_V.bd (fun c3 h4 => ?_)
    refine tr_V.callS (C_X7_isMeasure p2 M _ h4) yk_X7_isMeasure sc_X7_isMeasure ml_X7_211 ⟨rfl, Nat.le_of_ble_eq_true rfl⟩ rfl (Nat.le_of_ble_eq_true rfl) rfl dX7_both_8 ?_
    refine tr_V.if_ne (tgt := 16) dX7_both_11 (by decide) ?_ ?_
    · refine tr_V.iconst (v := (-1 : Int32)) dX7_both_14 (by decide) ?_
      exact tr_V.iret dX7_both_15 rfl (fun h => h)
    · refine tr_V.aload_n (i := 0) dX7_both_16 rfl rfl ?_
      refine tr_V.iload_n (i := 1) dX7_both_17 rfl rfl ?_
      refine tr_V.callV (C_X7_isTooLong p1 M) yk_X7_isTooLong iv_X7_isTooLong ml_X7_286 shM_1 rfl ⟨rfl, Nat.le_of_ble_eq_true rfl⟩ rfl (Nat.le_of_ble_eq_true rfl) rfl dX7_both_18 ?_
      refine tr_V.if_ne (tgt := 32) dX7_both_21 (by decide) ?_ ?_
      · refine tr_V.aload_n (i := 0) dX7_both_24 rfl rfl ?_
        refine tr_V.iload_n (i := 2) dX7_both_25 rfl rfl ?_
        refine tr_V.callV (C_X7_isTooLong p2 M) yk_X7_isTooLong iv_X7_isTooLong ml_X7_286 shM_1 rfl ⟨rfl, Nat.le_of_ble_eq_true rfl⟩ rfl (Nat.le_of_ble_eq_true rfl) rfl dX7_both_26 ?_
        refine tr_V.if_eq (tgt := 35) dX7_both_29 (by decide) ?_ ?_
        · refine tr_V.aload_n (i := 0) dX7_both_35 rfl rfl ?_
          refine tr_V.iload_n (i := 1) dX7_both_36 rfl rfl ?_
          refine tr_V.bd (fun c9 h10 => ?_)
          refine tr_V.callV (C_X7_needLeast p1 M _ h10) yk_X7_needLeast iv_X7_needLeast ml_X7_299 shM_1 rfl ⟨rfl, Nat.le_of_ble_eq_true rfl⟩ rfl (Nat.le_of_ble_eq_true rfl) rfl dX7_both_37 ?_
          refine tr_V.istore_n (i := 3) dX7_both_40 rfl (Nat.le_of_ble_eq_true rfl) rfl ?_
          refine tr_V.iload_n (i := 3) dX7_both_41 rfl rfl ?_
          refine tr_V.if_ge (tgt := 47) dX7_both_42 (by decide) ?_ ?_
          · refine tr_V.iload_n (i := 3) dX7_both_45 rfl rfl ?_
            exact tr_V.iret dX7_both_46 rfl (fun h => h)
          · refine tr_V.iload_n (i := 1) dX7_both_47 rfl rfl ?_
            refine tr_V.iconst (v := (4 : Int32)) dX7_both_48 (by decide) ?_
            refine tr_V.seqE (τ := tr_M) (pc' := 57) (L := fun v11 => [(0, some (.ref 1)), (1, some (.int p1)), (2, some (.int p2))]) (S := fun v11 => []) (Mf := fun v11 => v11) ?_ ?_
            · refine tr_V.icmp_eq (tgt := 57) dX7_both_49 (by decide) ?_ ?_
              · exact tr_V.to (fun h => h) ⟨rfl, rfl, rfl, trivial⟩
              · refine tr_V.iload_n (i := 2) dX7_both_52 rfl rfl ?_
                refine tr_V.iconst (v := (4 : Int32)) dX7_both_53 (by decide) ?_
                refine tr_V.icmp_ne (tgt := 66) dX7_both_54 (by decide) ?_ ?_
                · exact tr_V.to (fun h => h) ⟨rfl, rfl, rfl, trivial⟩
                · refine tr_V.aload_n (i := 0) dX7_both_66 rfl rfl ?_
                  refine tr_V.iload_n (i := 1) dX7_both_67 rfl rfl ?_
                  refine tr_V.iload_n (i := 2) dX7_both_68 rfl rfl ?_
                  refine tr_V.bd (fun c12 h13 => ?_)
                  refine tr_V.callV (C_X7_bothBySets p1 p2 c9.2 _ h13) yk_X7_bothBySets iv_X7_bothBySets ml_X7_351 shM_1 rfl ⟨rfl, Nat.le_of_ble_eq_true rfl⟩ rfl (Nat.le_of_ble_eq_true rfl) rfl dX7_both_69 ?_
                  exact tr_V.iret dX7_both_72 rfl (fun h => h)
            · intro v11
              refine tr_V.aload_n (i := 0) dX7_both_57 rfl rfl ?_
              refine tr_V.iload_n (i := 1) dX7_both_58 rfl rfl ?_
              refine tr_V.iload_n (i := 2) dX7_both_59 rfl rfl ?_
              refine tr_V.bd (fun c14 h15 => ?_)
              refine tr_V.callV (C_X7_bothByLines p1 p2 v11 _ h15) yk_X7_bothByLines iv_X7_bothByLines ml_X7_348 shM_1 rfl ⟨rfl, Nat.le_of_ble_eq_true rfl⟩ rfl (Nat.le_of_ble_eq_true rfl) rfl dX7_both_60 ?_
              refine tr_V.goto (tgt := 72) dX7_both_63 (by decide) ?_
              exact tr_V.iret dX7_both_72 rfl (fun h => h)
        · refine tr_V.bipush (v := (-6 : Int32)) dX7_both_32 (by decide) ?_
          exact tr_V.iret dX7_both_34 rfl (fun h => h)
      · refine tr_V.bipush (v := (-6 : Int32)) dX7_both_32 (by decide) ?_
        exact tr_V.iret dX7_both_34 rfl (fun h => h)
abbrev xX7_layOff : tr_X := (cX7_layOff, 3, RX7, (Option.none : Option Jvm.ClassFile.FieldType), 1, shM, 24)
theorem cw_X7_layOff : Cond.code yX7_layOff cX7_layOff 3 (Option.none : Option Jvm.ClassFile.FieldType) ∈ tr_tbl := tr_in 1704 (by decide +kernel) rfl
theorem yk_X7_layOff : tr_yk yX7_layOff (xX7_layOff) 1 := ⟨cw_X7_layOff, in_X7, ⟨by decide +kernel, by decide +kernel, by decide +kernel⟩, Nat.le_of_ble_eq_true rfl⟩
theorem iv_X7_layOff : Cond.instanceMethod yX7_layOff ∈ tr_tbl ∧ Cond.selects (yX7_layOff).cls yX7_layOff yX7_layOff ∈ tr_tbl := ⟨tr_in 1703 (by decide +kernel) rfl, tr_in 120 (by decide +kernel) rfl⟩
def mX7_layOff_l2 (p1 : Int32) (s1 : Int32 × tr_M) : Option ((Int32 × tr_M) ⊕ (tr_M)) :=
  if s1.1 < (s1.2.1 1 12) then (
    Option.bind (tr_wr 40 s1.2 9 (((5 : Int32) * s1.1) + (4 : Int32)) ((p1 >>> (s1.1 &&& 31)) &&& (1 : Int32))) (fun M2 =>
    some (.inl ((s1.1 + (1 : Int32)), M2))
    )
  ) else (
    some (.inr s1.2)
  )
def mX7_layOff (p1 : Int32) (M : tr_M) : Option (tr_M) :=
  tr_loop (mX7_layOff_l2 p1) ((0 : Int32), M)
set_option maxRecDepth 100000 in
set_option maxHeartbeats 4000000 in
theorem C_X7_layOff (p1 : Int32) (M M' : tr_M) (h : mX7_layOff p1 M = some M') : tr_I yX7_layOff (xX7_layOff) [.ref 1, .int p1] M none M' := by
  refine tr_I.of (Z := fun q : tr_M => (none : Option Value) = none ∧ M' = q) pn_X7 rfl gdM (Nat.le_of_ble_eq_true rfl) (fun Wt => ?_) h ⟨rfl, rfl⟩
  unfold mX7_layOff
  refine tr_V.iconst (v := (0 : Int32)) dX7_layOff_0 (by decide) ?_
  refine tr_V.istore_n (i := 2) dX7_layOff_1 rfl (Nat.le_of_ble_eq_true rfl) rfl ?_
  refine tr_V.loop (σ := Int32 × tr_M) (step := mX7_layOff_l2 p1) (L := fun s1 => [(0, some (.ref 1)), (1, some (.int p1)), (2, some (.int s1.1))]) (Mf := fun s1 => s1.2) ?_ ((0 : Int32), M) ⟨rfl, rfl, rfl, trivial⟩
  intro s1
  refine tr_V.iload_n (i := 2) dX7_layOff_2 rfl rfl ?_
  refine tr_V.aload_n (i := 0) dX7_layOff_3 rfl rfl ?_
  refine tr_V.getI fl_X7_160 shM_1 rfl dX7_layOff_4 ?_
  refine tr_V.icmp_ge (tgt := 31) dX7_layOff_7 (by decide) ?_ ?_
  · refine tr_V.aload_n (i := 0) dX7_layOff_10 rfl rfl ?_
    refine tr_V.getR (Nat.succ_pos _) fl_X7_32 shM_1 rfl dX7_layOff_11 ?_
    refine tr_V.iconst (v := (5 : Int32)) dX7_layOff_14 (by decide) ?_
    refine tr_V.iload_n (i := 2) dX7_layOff_15 rfl rfl ?_
    refine tr_V.imul dX7_layOff_16 ?_
    refine tr_V.iconst (v := (4 : Int32)) dX7_layOff_17 (by decide) ?_
    refine tr_V.iadd dX7_layOff_18 ?_
    refine tr_V.iload_n (i := 1) dX7_layOff_19 rfl rfl ?_
    refine tr_V.iload_n (i := 2) dX7_layOff_20 rfl rfl ?_
    refine tr_V.ishr dX7_layOff_21 ?_
    refine tr_V.iconst (v := (1 : Int32)) dX7_layOff_22 (by decide) ?_
    refine tr_V.iand dX7_layOff_23 ?_
    refine tr_V.bd (fun M2 h3 => ?_)
    refine tr_V.iast h3 shM_9 dX7_layOff_24 ?_
    refine tr_V.iinc (cst := (1 : Int32)) dX7_layOff_25 rfl (by decide) rfl ?_
    refine tr_V.goto (tgt := 2) dX7_layOff_28 (by decide) ?_
    exact tr_V.to (fun h => h) ⟨rfl, rfl, rfl, trivial⟩
  · exact tr_V.vret dX7_layOff_31 rfl (fun h => h)
abbrev xX7_isAnyAllowed : tr_X := (cX7_isAnyAllowed, 6, RX7, (some .boolean), 4, shM, 24)
theorem cw_X7_isAnyAllowed : Cond.code yX7_isAnyAllowed cX7_isAnyAllowed 6 (some .boolean) ∈ tr_tbl := tr_in 1708 (by decide +kernel) rfl
theorem yk_X7_isAnyAllowed : tr_yk yX7_isAnyAllowed (xX7_isAnyAllowed) 0 := ⟨cw_X7_isAnyAllowed, in_X7, ⟨by decide +kernel, by decide +kernel, by decide +kernel⟩, Nat.le_of_ble_eq_true rfl⟩
theorem iv_X7_isAnyAllowed : Cond.instanceMethod yX7_isAnyAllowed ∈ tr_tbl ∧ Cond.selects (yX7_isAnyAllowed).cls yX7_isAnyAllowed yX7_isAnyAllowed ∈ tr_tbl := ⟨tr_in 1707 (by decide +kernel) rfl, tr_in 121 (by decide +kernel) rfl⟩
def mX7_isAnyAllowed_l15  (s3 : Int32 × tr_M) : Option ((Int32 × tr_M) ⊕ (tr_M)) :=
  if s3.1 < ((10 : Int32) * ((mX7_full s3.2) + (1 : Int32))) then (
    if s3.1 = 0 then (
      if 0 < (s3.2.1 1 10) then (
        Option.bind (tr_wr 10240 s3.2 24 s3.1 (vp_nar .boolean (1 : Int32))) (fun M6 =>
        some (.inl ((s3.1 + (1 : Int32)), M6))
        )
      ) else (
        Option.bind (tr_wr 10240 s3.2 24 s3.1 (vp_nar .boolean (0 : Int32))) (fun M8 =>
        some (.inl ((s3.1 + (1 : Int32)), M8))
        )
      )
    ) else (
      Option.bind (tr_wr 10240 s3.2 24 s3.1 (vp_nar .boolean (0 : Int32))) (fun M10 =>
      some (.inl ((s3.1 + (1 : Int32)), M10))
      )
    )
  ) else (
    some (.inr s3.2)
  )
def mX7_isAnyAllowed_l117 (s12 : Int32 × Int32 × tr_M) (s17 : Int32 × Int32 × tr_M) (v22 : Int32) (s25 : Int32 × tr_M) : Option ((Int32 × tr_M) ⊕ ((Int32 × Int32 × tr_M) ⊕ ((Int32 × Int32 × tr_M) ⊕ (Int32 × tr_M)))) :=
  if s25.1 < (s25.2.1 1 10) then (
    Option.bind (some (mX7_spot (s12.2.1 ||| ((1 : Int32) <<< (s25.1 &&& 31))) s25.1)) (fun x28 =>
    Option.bind (tr_rd 10240 s25.2 24 x28) (fun a30 =>
    if a30 = 0 then (
      Option.bind (show Option (Int32) from
        if s12.2.1 = 0 then (
          some (-9 : Int32)
        ) else (
          some s17.2.1
        )
      ) (fun (v32 : Int32) =>
        Option.bind (mX7_mayCome s12.2.1 v32 s25.1 s25.2) (fun c33 =>
        if c33 = 0 then (
          Option.bind (tr_wr 10240 s25.2 24 x28 (vp_nar .boolean (0 : Int32))) (fun M35 =>
          some (.inl ((s25.1 + (1 : Int32)), M35))
          )
        ) else (
          Option.bind (tr_wr 10240 s25.2 24 x28 (vp_nar .boolean (1 : Int32))) (fun M37 =>
          some (.inl ((s25.1 + (1 : Int32)), M37))
          )
        )
        )
      )
    ) else (
      Option.bind (tr_wr 10240 s25.2 24 x28 (vp_nar .boolean (1 : Int32))) (fun M39 =>
      some (.inl ((s25.1 + (1 : Int32)), M39))
      )
    )
    )
    )
  ) else (
    some (.inr (.inl (v22, (s17.2.1 + (1 : Int32)), s25.2)))
  )
def mX7_isAnyAllowed_l75 (s12 : Int32 × Int32 × tr_M) (s17 : Int32 × Int32 × tr_M) : Option ((Int32 × Int32 × tr_M) ⊕ ((Int32 × Int32 × tr_M) ⊕ (Int32 × tr_M))) :=
  if s17.2.1 < (s17.2.2.1 1 10) then (
    Option.bind (tr_rd 10240 s17.2.2 24 (mX7_spot s12.2.1 s17.2.1)) (fun a20 =>
    if a20 = 0 then (
      some (.inl (s17.1, (s17.2.1 + (1 : Int32)), s17.2.2))
    ) else (
      Option.bind (show Option (Int32) from
        if s17.1 = 0 then (
          if s12.2.1 = (mX7_full s17.2.2) then (
            some (1 : Int32)
          ) else (
            some (0 : Int32)
          )
        ) else (
          some (1 : Int32)
        )
      ) (fun (v22 : Int32) =>
        tr_loop (mX7_isAnyAllowed_l117 s12 s17 v22) ((0 : Int32), s17.2.2)
      )
    )
    )
  ) else (
    some (.inr (.inl (s17.1, (s12.2.1 + (1 : Int32)), s17.2.2)))
  )
def mX7_isAnyAllowed_l58  (s12 : Int32 × Int32 × tr_M) : Option ((Int32 × Int32 × tr_M) ⊕ (Int32 × tr_M)) :=
  if (mX7_full s12.2.2) < s12.2.1 then (
    Option.bind (tr_gd (s12.1 &&& 1 == s12.1)) (fun _ => some (.inr (s12.1, s12.2.2)))
  ) else (
    if 0 < (s12.2.2.1 1 10) then (
      tr_loop (mX7_isAnyAllowed_l75 s12) (s12.1, (0 : Int32), s12.2.2)
    ) else (
      Option.bind (tr_gd (s12.1 &&& 1 == s12.1)) (fun _ => some (.inr (s12.1, s12.2.2)))
    )
  )
def mX7_isAnyAllowed  (M : tr_M) : Option (Int32 × tr_M) :=
  Option.bind (show Option (Int32) from
    if (M.1 1 10) = 0 then (
      some (1 : Int32)
    ) else (
      some (0 : Int32)
    )
  ) (fun (v1 : Int32) =>
    Option.bind (show Option (tr_M) from
      tr_loop (mX7_isAnyAllowed_l15) ((0 : Int32), M)
    ) (fun (v2 : tr_M) =>
      tr_loop (mX7_isAnyAllowed_l58) (v1, (0 : Int32), v2)
    )
  )
set_option maxRecDepth 100000 in
set_option maxHeartbeats 4000000 in
theorem C_X7_isAnyAllowed  (M : tr_M) (r : Int32 × tr_M) (h : mX7_isAnyAllowed M = some r) : tr_I yX7_isAnyAllowed (xX7_isAnyAllowed) [.ref 1] M (some (.int r.1)) r.2 := by
  refine tr_I.of (Z := fun q : Int32 × tr_M => (some (.int r.1) : Option Value) = some (.int q.1) ∧ r.2 = q.2) pn_X7 rfl gdM (Nat.le_of_ble_eq_true rfl) (fun Wt => ?_) h ⟨rfl, rfl⟩
  unfold mX7_isAnyAllowed
  refine tr_V.aload_n (i := 0) dX7_isAnyAllowed_0 rfl rfl ?_
  refine tr_V.getI fl_X7_157 shM_1 rfl dX7_isAnyAllowed_1 ?_
  refine tr_V.seq (τ := Int32) (pc' := 12) (L := fun v1 => [(0, some (.ref 1))]) (S := fun v1 => [.int v1]) (Mf := fun v1 => M) ?_ ?_
  · refine tr_V.if_ne (tgt := 11) dX7_isAnyAllowed_4 (by decide) ?_ ?_
    · refine tr_V.iconst (v := (1 : Int32)) dX7_isAnyAllowed_7 (by decide) ?_
      refine tr_V.goto (tgt := 12) dX7_isAnyAllowed_8 (by decide) ?_
      exact tr_V.to (fun h => h) ⟨rfl, trivial⟩
    · refine tr_V.iconst (v := (0 : Int32)) dX7_isAnyAllowed_11 (by decide) ?_
      exact tr_V.to (fun h => h) ⟨rfl, trivial⟩
  · intro v1
    refine tr_V.istore_n (i := 1) dX7_isAnyAllowed_12 rfl (Nat.le_of_ble_eq_true rfl) rfl ?_
    refine tr_V.iconst (v := (0 : Int32)) dX7_isAnyAllowed_13 (by decide) ?_
    refine tr_V.istore_n (i := 2) dX7_isAnyAllowed_14 rfl (Nat.le_of_ble_eq_true rfl) rfl ?_
    refine tr_V.seq (τ := tr_M) (pc' := 56) (L := fun v2 => [(0, some (.ref 1)), (1, some (.int v1))]) (S := fun v2 => []) (Mf := fun v2 => v2) ?_ ?_
    · refine tr_V.loop (σ := Int32 × tr_M) (step := mX7_isAnyAllowed_l15) (L := fun s3 => [(0, some (.ref 1)), (1, some (.int v1)), (2, some (.int s3.1))]) (Mf := fun s3 => s3.2) ?_ ((0 : Int32), M) ⟨rfl, rfl, rfl, trivial⟩
      intro s3
      refine tr_V.iload_n (i := 2) dX7_isAnyAllowed_15 rfl rfl ?_
      refine tr_V.bipush (v := (10 : Int32)) dX7_isAnyAllowed_16 (by decide) ?_
      refine tr_V.aload_n (i := 0) dX7_isAnyAllowed_18 rfl rfl ?_
      refine tr_V.callV (C_X7_full s3.2) yk_X7_full iv_X7_full ml_X7_236 shM_1 rfl ⟨rfl, Nat.le_of_ble_eq_true rfl⟩ rfl (Nat.le_of_ble_eq_true rfl) rfl dX7_isAnyAllowed_19 ?_
      refine tr_V.iconst (v := (1 : Int32)) dX7_isAnyAllowed_22 (by decide) ?_
      refine tr_V.iadd dX7_isAnyAllowed_23 ?_
      refine tr_V.imul dX7_isAnyAllowed_24 ?_
      refine tr_V.icmp_ge (tgt := 56) dX7_isAnyAllowed_25 (by decide) ?_ ?_
      · refine tr_V.aload_n (i := 0) dX7_isAnyAllowed_28 rfl rfl ?_
        refine tr_V.getR (Nat.succ_pos _) fl_X7_77 shM_1 rfl dX7_isAnyAllowed_29 ?_
        refine tr_V.iload_n (i := 2) dX7_isAnyAllowed_32 rfl rfl ?_
        refine tr_V.iload_n (i := 2) dX7_isAnyAllowed_33 rfl rfl ?_
        refine tr_V.if_ne (tgt := 48) dX7_isAnyAllowed_34 (by decide) ?_ ?_
        · refine tr_V.aload_n (i := 0) dX7_isAnyAllowed_37 rfl rfl ?_
          refine tr_V.getI fl_X7_157 shM_1 rfl dX7_isAnyAllowed_38 ?_
          refine tr_V.if_le (tgt := 48) dX7_isAnyAllowed_41 (by decide) ?_ ?_
          · refine tr_V.iconst (v := (1 : Int32)) dX7_isAnyAllowed_44 (by decide) ?_
            refine tr_V.goto (tgt := 49) dX7_isAnyAllowed_45 (by decide) ?_
            refine tr_V.bd (fun M6 h7 => ?_)
            refine tr_V.zast h7 shM_24 dX7_isAnyAllowed_49 ?_
            refine tr_V.iinc (cst := (1 : Int32)) dX7_isAnyAllowed_50 rfl (by decide) rfl ?_
            refine tr_V.goto (tgt := 15) dX7_isAnyAllowed_53 (by decide) ?_
            exact tr_V.to (fun h => h) ⟨rfl, rfl, rfl, trivial⟩
          · refine tr_V.iconst (v := (0 : Int32)) dX7_isAnyAllowed_48 (by decide) ?_
            refine tr_V.bd (fun M8 h9 => ?_)
            refine tr_V.zast h9 shM_24 dX7_isAnyAllowed_49 ?_
            refine tr_V.iinc (cst := (1 : Int32)) dX7_isAnyAllowed_50 rfl (by decide) rfl ?_
            refine tr_V.goto (tgt := 15) dX7_isAnyAllowed_53 (by decide) ?_
            exact tr_V.to (fun h => h) ⟨rfl, rfl, rfl, trivial⟩
        · refine tr_V.iconst (v := (0 : Int32)) dX7_isAnyAllowed_48 (by decide) ?_
          refine tr_V.bd (fun M10 h11 => ?_)
          refine tr_V.zast h11 shM_24 dX7_isAnyAllowed_49 ?_
          refine tr_V.iinc (cst := (1 : Int32)) dX7_isAnyAllowed_50 rfl (by decide) rfl ?_
          refine tr_V.goto (tgt := 15) dX7_isAnyAllowed_53 (by decide) ?_
          exact tr_V.to (fun h => h) ⟨rfl, rfl, rfl, trivial⟩
      · exact tr_V.to (fun h => h) ⟨rfl, rfl, trivial⟩
    · intro v2
      refine tr_V.iconst (v := (0 : Int32)) dX7_isAnyAllowed_56 (by decide) ?_
      refine tr_V.istore_n (i := 2) dX7_isAnyAllowed_57 rfl (Nat.le_of_ble_eq_true rfl) rfl ?_
      refine tr_V.loop (σ := Int32 × Int32 × tr_M) (step := mX7_isAnyAllowed_l58) (L := fun s12 => [(0, some (.ref 1)), (1, some (.int s12.1)), (2, some (.int s12.2.1))]) (Mf := fun s12 => s12.2.2) ?_ (v1, (0 : Int32), v2) ⟨rfl, rfl, rfl, trivial⟩
      intro s12
      refine tr_V.iload_n (i := 2) dX7_isAnyAllowed_58 rfl rfl ?_
      refine tr_V.aload_n (i := 0) dX7_isAnyAllowed_59 rfl rfl ?_
      refine tr_V.callV (C_X7_full s12.2.2) yk_X7_full iv_X7_full ml_X7_236 shM_1 rfl ⟨rfl, Nat.le_of_ble_eq_true rfl⟩ rfl (Nat.le_of_ble_eq_true rfl) rfl dX7_isAnyAllowed_60 ?_
      refine tr_V.icmp_gt (tgt := 199) dX7_isAnyAllowed_63 (by decide) ?_ ?_
      · refine tr_V.iload_n (i := 1) dX7_isAnyAllowed_199 rfl rfl ?_
        refine tr_V.gd (fun h15 => ?_)
        exact tr_V.zret h15 dX7_isAnyAllowed_200 rfl (fun h => h)
      · refine tr_V.aload_n (i := 0) dX7_isAnyAllowed_66 rfl rfl ?_
        refine tr_V.getI fl_X7_157 shM_1 rfl dX7_isAnyAllowed_67 ?_
        refine tr_V.if_le (tgt := 199) dX7_isAnyAllowed_70 (by decide) ?_ ?_
        · refine tr_V.iconst (v := (0 : Int32)) dX7_isAnyAllowed_73 (by decide) ?_
          refine tr_V.istore_n (i := 3) dX7_isAnyAllowed_74 rfl (Nat.le_of_ble_eq_true rfl) rfl ?_
          refine tr_V.loop (σ := Int32 × Int32 × tr_M) (step := mX7_isAnyAllowed_l75 s12) (L := fun s17 => [(0, some (.ref 1)), (1, some (.int s17.1)), (2, some (.int s12.2.1)), (3, some (.int s17.2.1))]) (Mf := fun s17 => s17.2.2) ?_ (s12.1, (0 : Int32), s12.2.2) ⟨rfl, rfl, rfl, rfl, trivial⟩
          intro s17
          refine tr_V.iload_n (i := 3) dX7_isAnyAllowed_75 rfl rfl ?_
          refine tr_V.aload_n (i := 0) dX7_isAnyAllowed_76 rfl rfl ?_
          refine tr_V.getI fl_X7_157 shM_1 rfl dX7_isAnyAllowed_77 ?_
          refine tr_V.icmp_ge (tgt := 193) dX7_isAnyAllowed_80 (by decide) ?_ ?_
          · refine tr_V.aload_n (i := 0) dX7_isAnyAllowed_83 rfl rfl ?_
            refine tr_V.getR (Nat.succ_pos _) fl_X7_77 shM_1 rfl dX7_isAnyAllowed_84 ?_
            refine tr_V.iload_n (i := 2) dX7_isAnyAllowed_87 rfl rfl ?_
            refine tr_V.iload_n (i := 3) dX7_isAnyAllowed_88 rfl rfl ?_
            refine tr_V.callS (C_X7_spot s12.2.1 s17.2.1 s17.2.2) yk_X7_spot sc_X7_spot ml_X7_243 ⟨rfl, Nat.le_of_ble_eq_true rfl⟩ rfl (Nat.le_of_ble_eq_true rfl) rfl dX7_isAnyAllowed_89 ?_
            refine tr_V.bd (fun a20 h21 => ?_)
            refine tr_V.zald h21 shM_24 dX7_isAnyAllowed_92 ?_
            refine tr_V.if_eq (tgt := 187) dX7_isAnyAllowed_93 (by decide) ?_ ?_
            · refine tr_V.iinc (cst := (1 : Int32)) dX7_isAnyAllowed_187 rfl (by decide) rfl ?_
              refine tr_V.goto (tgt := 75) dX7_isAnyAllowed_190 (by decide) ?_
              exact tr_V.to (fun h => h) ⟨rfl, rfl, rfl, rfl, trivial⟩
            · refine tr_V.iload_n (i := 1) dX7_isAnyAllowed_96 rfl rfl ?_
              refine tr_V.seq (τ := Int32) (pc' := 113) (L := fun v22 => [(0, some (.ref 1)), (2, some (.int s12.2.1)), (3, some (.int s17.2.1))]) (S := fun v22 => [.int v22]) (Mf := fun v22 => s17.2.2) ?_ ?_
              · refine tr_V.if_ne (tgt := 108) dX7_isAnyAllowed_97 (by decide) ?_ ?_
                · refine tr_V.iload_n (i := 2) dX7_isAnyAllowed_100 rfl rfl ?_
                  refine tr_V.aload_n (i := 0) dX7_isAnyAllowed_101 rfl rfl ?_
                  refine tr_V.callV (C_X7_full s17.2.2) yk_X7_full iv_X7_full ml_X7_236 shM_1 rfl ⟨rfl, Nat.le_of_ble_eq_true rfl⟩ rfl (Nat.le_of_ble_eq_true rfl) rfl dX7_isAnyAllowed_102 ?_
                  refine tr_V.icmp_ne (tgt := 112) dX7_isAnyAllowed_105 (by decide) ?_ ?_
                  · refine tr_V.iconst (v := (1 : Int32)) dX7_isAnyAllowed_108 (by decide) ?_
                    refine tr_V.goto (tgt := 113) dX7_isAnyAllowed_109 (by decide) ?_
                    exact tr_V.to (fun h => h) ⟨rfl, rfl, rfl, trivial⟩
                  · refine tr_V.iconst (v := (0 : Int32)) dX7_isAnyAllowed_112 (by decide) ?_
                    exact tr_V.to (fun h => h) ⟨rfl, rfl, rfl, trivial⟩
                · refine tr_V.iconst (v := (1 : Int32)) dX7_isAnyAllowed_108 (by decide) ?_
                  refine tr_V.goto (tgt := 113) dX7_isAnyAllowed_109 (by decide) ?_
                  exact tr_V.to (fun h => h) ⟨rfl, rfl, rfl, trivial⟩
              · intro v22
                refine tr_V.istore_n (i := 1) dX7_isAnyAllowed_113 rfl (Nat.le_of_ble_eq_true rfl) rfl ?_
                refine tr_V.iconst (v := (0 : Int32)) dX7_isAnyAllowed_114 (by decide) ?_
                refine tr_V.istore (i := 4) dX7_isAnyAllowed_115 (Nat.le_of_ble_eq_true rfl) rfl ?_
                refine tr_V.loop (σ := Int32 × tr_M) (step := mX7_isAnyAllowed_l117 s12 s17 v22) (L := fun s25 => [(0, some (.ref 1)), (1, some (.int v22)), (2, some (.int s12.2.1)), (3, some (.int s17.2.1)), (4, some (.int s25.1))]) (Mf := fun s25 => s25.2) ?_ ((0 : Int32), s17.2.2) ⟨rfl, rfl, rfl, rfl, rfl, trivial⟩
                intro s25
                refine tr_V.iload dX7_isAnyAllowed_117 rfl ?_
                refine tr_V.aload_n (i := 0) dX7_isAnyAllowed_119 rfl rfl ?_
                refine tr_V.getI fl_X7_157 shM_1 rfl dX7_isAnyAllowed_120 ?_
                refine tr_V.icmp_ge (tgt := 187) dX7_isAnyAllowed_123 (by decide) ?_ ?_
                · refine tr_V.iload_n (i := 2) dX7_isAnyAllowed_126 rfl rfl ?_
                  refine tr_V.iconst (v := (1 : Int32)) dX7_isAnyAllowed_127 (by decide) ?_
                  refine tr_V.iload dX7_isAnyAllowed_128 rfl ?_
                  refine tr_V.ishl dX7_isAnyAllowed_130 ?_
                  refine tr_V.ior dX7_isAnyAllowed_131 ?_
                  refine tr_V.iload dX7_isAnyAllowed_132 rfl ?_
                  refine tr_V.callS (C_X7_spot (s12.2.1 ||| ((1 : Int32) <<< (s25.1 &&& 31))) s25.1 s25.2) yk_X7_spot sc_X7_spot ml_X7_243 ⟨rfl, Nat.le_of_ble_eq_true rfl⟩ rfl (Nat.le_of_ble_eq_true rfl) rfl dX7_isAnyAllowed_134 ?_
                  refine tr_V.bd (fun x28 h29 => ?_)
                  refine tr_V.nmI h29 ?_
                  refine tr_V.istore (i := 5) dX7_isAnyAllowed_137 (Nat.le_of_ble_eq_true rfl) rfl ?_
                  refine tr_V.aload_n (i := 0) dX7_isAnyAllowed_139 rfl rfl ?_
                  refine tr_V.getR (Nat.succ_pos _) fl_X7_77 shM_1 rfl dX7_isAnyAllowed_140 ?_
                  refine tr_V.iload dX7_isAnyAllowed_143 rfl ?_
                  refine tr_V.aload_n (i := 0) dX7_isAnyAllowed_145 rfl rfl ?_
                  refine tr_V.getR (Nat.succ_pos _) fl_X7_77 shM_1 rfl dX7_isAnyAllowed_146 ?_
                  refine tr_V.iload dX7_isAnyAllowed_149 rfl ?_
                  refine tr_V.bd (fun a30 h31 => ?_)
                  refine tr_V.zald h31 shM_24 dX7_isAnyAllowed_151 ?_
                  refine tr_V.if_ne (tgt := 175) dX7_isAnyAllowed_152 (by decide) ?_ ?_
                  · refine tr_V.aload_n (i := 0) dX7_isAnyAllowed_155 rfl rfl ?_
                    refine tr_V.iload_n (i := 2) dX7_isAnyAllowed_156 rfl rfl ?_
                    refine tr_V.iload_n (i := 2) dX7_isAnyAllowed_157 rfl rfl ?_
                    refine tr_V.seq (τ := Int32) (pc' := 167) (L := fun v32 => [(0, some (.ref 1)), (1, some (.int v22)), (2, some (.int s12.2.1)), (3, some (.int s17.2.1)), (4, some (.int s25.1))]) (S := fun v32 => [.int v32, .int s12.2.1, .ref 1, .int x28, .ref 24]) (Mf := fun v32 => s25.2) ?_ ?_
                    · refine tr_V.if_ne (tgt := 166) dX7_isAnyAllowed_158 (by decide) ?_ ?_
                      · refine tr_V.bipush (v := (-9 : Int32)) dX7_isAnyAllowed_161 (by decide) ?_
                        refine tr_V.goto (tgt := 167) dX7_isAnyAllowed_163 (by decide) ?_
                        exact tr_V.to (fun h => h) ⟨rfl, rfl, rfl, rfl, rfl, trivial⟩
                      · refine tr_V.iload_n (i := 3) dX7_isAnyAllowed_166 rfl rfl ?_
                        exact tr_V.to (fun h => h) ⟨rfl, rfl, rfl, rfl, rfl, trivial⟩
                    · intro v32
                      refine tr_V.iload dX7_isAnyAllowed_167 rfl ?_
                      refine tr_V.bd (fun c33 h34 => ?_)
                      refine tr_V.callV (C_X7_mayCome s12.2.1 v32 s25.1 s25.2 _ h34) yk_X7_mayCome iv_X7_mayCome ml_X7_254 shM_1 rfl ⟨rfl, Nat.le_of_ble_eq_true rfl⟩ rfl (Nat.le_of_ble_eq_true rfl) rfl dX7_isAnyAllowed_169 ?_
                      refine tr_V.if_eq (tgt := 179) dX7_isAnyAllowed_172 (by decide) ?_ ?_
                      · refine tr_V.iconst (v := (0 : Int32)) dX7_isAnyAllowed_179 (by decide) ?_
                        refine tr_V.bd (fun M35 h36 => ?_)
                        refine tr_V.zast h36 shM_24 dX7_isAnyAllowed_180 ?_
                        refine tr_V.iinc (cst := (1 : Int32)) dX7_isAnyAllowed_181 rfl (by decide) rfl ?_
                        refine tr_V.goto (tgt := 117) dX7_isAnyAllowed_184 (by decide) ?_
                        exact tr_V.to (fun h => h) ⟨rfl, rfl, rfl, rfl, rfl, trivial⟩
                      · refine tr_V.iconst (v := (1 : Int32)) dX7_isAnyAllowed_175 (by decide) ?_
                        refine tr_V.goto (tgt := 180) dX7_isAnyAllowed_176 (by decide) ?_
                        refine tr_V.bd (fun M37 h38 => ?_)
                        refine tr_V.zast h38 shM_24 dX7_isAnyAllowed_180 ?_
                        refine tr_V.iinc (cst := (1 : Int32)) dX7_isAnyAllowed_181 rfl (by decide) rfl ?_
                        refine tr_V.goto (tgt := 117) dX7_isAnyAllowed_184 (by decide) ?_
                        exact tr_V.to (fun h => h) ⟨rfl, rfl, rfl, rfl, rfl, trivial⟩
                  · refine tr_V.iconst (v := (1 : Int32)) dX7_isAnyAllowed_175 (by decide) ?_
                    refine tr_V.goto (tgt := 180) dX7_isAnyAllowed_176 (by decide) ?_
                    refine tr_V.bd (fun M39 h40 => ?_)
                    refine tr_V.zast h40 shM_24 dX7_isAnyAllowed_180 ?_
                    refine tr_V.iinc (cst := (1 : Int32)) dX7_isAnyAllowed_181 rfl (by decide) rfl ?_
                    refine tr_V.goto (tgt := 117) dX7_isAnyAllowed_184 (by decide) ?_
                    exact tr_V.to (fun h => h) ⟨rfl, rfl, rfl, rfl, rfl, trivial⟩
                · refine tr_V.iinc (cst := (1 : Int32)) dX7_isAnyAllowed_187 rfl (by decide) rfl ?_
                  refine tr_V.goto (tgt := 75) dX7_isAnyAllowed_190 (by decide) ?_
                  exact tr_V.to (fun h => h) ⟨rfl, rfl, rfl, rfl, trivial⟩
          · refine tr_V.iinc (cst := (1 : Int32)) dX7_isAnyAllowed_193 rfl (by decide) rfl ?_
            refine tr_V.goto (tgt := 58) dX7_isAnyAllowed_196 (by decide) ?_
            exact tr_V.to (fun h => h) ⟨rfl, rfl, rfl, trivial⟩
        · refine tr_V.iload_n (i := 1) dX7_isAnyAllowed_199 rfl rfl ?_
          refine tr_V.gd (fun h41 => ?_)
          exact tr_V.zret h41 dX7_isAnyAllowed_200 rfl (fun h => h)
abbrev xX7_must : tr_X := (cX7_must, 5, RX7, (some .int), 5, shM, 24)
theorem cw_X7_must : Cond.code yX7_must cX7_must 5 (some .int) ∈ tr_tbl := tr_in 1700 (by decide +kernel) rfl
theorem yk_X7_must : tr_yk yX7_must (xX7_must) 0 := ⟨cw_X7_must, in_X7, ⟨by decide +kernel, by decide +kernel, by decide +kernel⟩, Nat.le_of_ble_eq_true rfl⟩
theorem iv_X7_must : Cond.instanceMethod yX7_must ∈ tr_tbl ∧ Cond.selects (yX7_must).cls yX7_must yX7_must ∈ tr_tbl := ⟨tr_in 1698 (by decide +kernel) rfl, tr_in 1699 (by decide +kernel) rfl⟩
def mX7_must_l4 (M : tr_M) (s2 : Int32 × Int32) : Option ((Int32 × Int32) ⊕ (Int32)) :=
  if s2.2 < (M.1 1 12) then (
    Option.bind (mX7_ruleAt s2.2 (4 : Int32) M) (fun c3 =>
    some (.inl ((s2.1 ||| (c3 <<< (s2.2 &&& 31))), (s2.2 + (1 : Int32))))
    )
  ) else (
    some (.inr s2.1)
  )
def mX7_must_l43 (v1 : Int32) (s6 : Int32 × Int32 × tr_M) (s7 : Int32 × Int32 × tr_M) : Option ((Int32 × Int32 × tr_M) ⊕ ((Int32 × Int32 × tr_M) ⊕ (Int32 × tr_M))) :=
  if s7.2.1 < ((1 : Int32) <<< ((s7.2.2.1 1 12) &&& 31)) then (
    if s7.1 = (-9 : Int32) then (
      if (s7.2.1 &&& v1) = 0 then (
        Option.bind (mX7_bits s7.2.1) (fun c8 =>
        if c8 = s6.2.1 then (
          Option.bind (mX7_layOff (v1 ||| s7.2.1) s7.2.2) (fun c10 =>
          Option.bind (mX7_isAnyAllowed c10) (fun c12 =>
          if c12.1 = 0 then (
            some (.inl ((-9 : Int32), (s7.2.1 + (1 : Int32)), c12.2))
          ) else (
            some (.inl (s7.2.1, (s7.2.1 + (1 : Int32)), c12.2))
          )
          )
          )
        ) else (
          some (.inl (s7.1, (s7.2.1 + (1 : Int32)), s7.2.2))
        )
        )
      ) else (
        some (.inl (s7.1, (s7.2.1 + (1 : Int32)), s7.2.2))
      )
    ) else (
      some (.inr (.inl (s7.1, (s6.2.1 + (1 : Int32)), s7.2.2)))
    )
  ) else (
    some (.inr (.inl (s7.1, (s6.2.1 + (1 : Int32)), s7.2.2)))
  )
def mX7_must_l34 (v1 : Int32) (s6 : Int32 × Int32 × tr_M) : Option ((Int32 × Int32 × tr_M) ⊕ (Int32 × tr_M)) :=
  if s6.1 = (-9 : Int32) then (
    tr_loop (mX7_must_l43 v1 s6) (s6.1, (0 : Int32), s6.2.2)
  ) else (
    some (.inr (s6.1, s6.2.2))
  )
def mX7_must  (M : tr_M) : Option (Int32 × tr_M) :=
  Option.bind (show Option (Int32) from
    tr_loop (mX7_must_l4 M) ((0 : Int32), (0 : Int32))
  ) (fun (v1 : Int32) =>
    Option.bind (show Option (Int32 × tr_M) from
      tr_loop (mX7_must_l34 v1) ((-9 : Int32), (0 : Int32), M)
    ) (fun (v5 : Int32 × tr_M) =>
      Option.bind (mX7_layOff v1 v5.2) (fun c14 =>
      Option.bind (mX7_bits v5.1) (fun c16 =>
      Option.bind (mX7_tells v5.1 c16 c14) (fun c18 =>
      some (c18.1, c18.2)
      )
      )
      )
    )
  )
set_option maxRecDepth 100000 in
set_option maxHeartbeats 4000000 in
theorem C_X7_must  (M : tr_M) (r : Int32 × tr_M) (h : mX7_must M = some r) : tr_I yX7_must (xX7_must) [.ref 1] M (some (.int r.1)) r.2 := by
  refine tr_I.of (Z := fun q : Int32 × tr_M => (some (.int r.1) : Option Value) = some (.int q.1) ∧ r.2 = q.2) pn_X7 rfl gdM (Nat.le_of_ble_eq_true rfl) (fun Wt => ?_) h ⟨rfl, rfl⟩
  unfold mX7_must
  refine tr_V.iconst (v := (0 : Int32)) dX7_must_0 (by decide) ?_
  refine tr_V.istore_n (i := 1) dX7_must_1 rfl (Nat.le_of_ble_eq_true rfl) rfl ?_
  refine tr_V.iconst (v := (0 : Int32)) dX7_must_2 (by decide) ?_
  refine tr_V.istore_n (i := 2) dX7_must_3 rfl (Nat.le_of_ble_eq_true rfl) rfl ?_
  refine tr_V.seq (τ := Int32) (pc' := 29) (L := fun v1 => [(0, some (.ref 1)), (1, some (.int v1))]) (S := fun v1 => []) (Mf := fun v1 => M) ?_ ?_
  · refine tr_V.loop (σ := Int32 × Int32) (step := mX7_must_l4 M) (L := fun s2 => [(0, some (.ref 1)), (1, some (.int s2.1)), (2, some (.int s2.2))]) (Mf := fun s2 => M) ?_ ((0 : Int32), (0 : Int32)) ⟨rfl, rfl, rfl, trivial⟩
    intro s2
    refine tr_V.iload_n (i := 2) dX7_must_4 rfl rfl ?_
    refine tr_V.aload_n (i := 0) dX7_must_5 rfl rfl ?_
    refine tr_V.getI fl_X7_160 shM_1 rfl dX7_must_6 ?_
    refine tr_V.icmp_ge (tgt := 29) dX7_must_9 (by decide) ?_ ?_
    · refine tr_V.iload_n (i := 1) dX7_must_12 rfl rfl ?_
      refine tr_V.aload_n (i := 0) dX7_must_13 rfl rfl ?_
      refine tr_V.iload_n (i := 2) dX7_must_14 rfl rfl ?_
      refine tr_V.iconst (v := (4 : Int32)) dX7_must_15 (by decide) ?_
      refine tr_V.bd (fun c3 h4 => ?_)
      refine tr_V.callV (C_X7_ruleAt s2.2 (4 : Int32) M _ h4) yk_X7_ruleAt iv_X7_ruleAt ml_X7_180 shM_1 rfl ⟨rfl, Nat.le_of_ble_eq_true rfl⟩ rfl (Nat.le_of_ble_eq_true rfl) rfl dX7_must_16 ?_
      refine tr_V.iload_n (i := 2) dX7_must_19 rfl rfl ?_
      refine tr_V.ishl dX7_must_20 ?_
      refine tr_V.ior dX7_must_21 ?_
      refine tr_V.istore_n (i := 1) dX7_must_22 rfl (Nat.le_of_ble_eq_true rfl) rfl ?_
      refine tr_V.iinc (cst := (1 : Int32)) dX7_must_23 rfl (by decide) rfl ?_
      refine tr_V.goto (tgt := 4) dX7_must_26 (by decide) ?_
      exact tr_V.to (fun h => h) ⟨rfl, rfl, rfl, trivial⟩
    · exact tr_V.to (fun h => h) ⟨rfl, rfl, trivial⟩
  · intro v1
    refine tr_V.bipush (v := (-9 : Int32)) dX7_must_29 (by decide) ?_
    refine tr_V.istore_n (i := 2) dX7_must_31 rfl (Nat.le_of_ble_eq_true rfl) rfl ?_
    refine tr_V.iconst (v := (0 : Int32)) dX7_must_32 (by decide) ?_
    refine tr_V.istore_n (i := 3) dX7_must_33 rfl (Nat.le_of_ble_eq_true rfl) rfl ?_
    refine tr_V.seq (τ := Int32 × tr_M) (pc' := 111) (L := fun v5 => [(0, some (.ref 1)), (1, some (.int v1)), (2, some (.int v5.1))]) (S := fun v5 => []) (Mf := fun v5 => v5.2) ?_ ?_
    · refine tr_V.loop (σ := Int32 × Int32 × tr_M) (step := mX7_must_l34 v1) (L := fun s6 => [(0, some (.ref 1)), (1, some (.int v1)), (2, some (.int s6.1)), (3, some (.int s6.2.1))]) (Mf := fun s6 => s6.2.2) ?_ ((-9 : Int32), (0 : Int32), M) ⟨rfl, rfl, rfl, rfl, trivial⟩
      intro s6
      refine tr_V.iload_n (i := 2) dX7_must_34 rfl rfl ?_
      refine tr_V.bipush (v := (-9 : Int32)) dX7_must_35 (by decide) ?_
      refine tr_V.icmp_ne (tgt := 111) dX7_must_37 (by decide) ?_ ?_
      · refine tr_V.iconst (v := (0 : Int32)) dX7_must_40 (by decide) ?_
        refine tr_V.istore (i := 4) dX7_must_41 (Nat.le_of_ble_eq_true rfl) rfl ?_
        refine tr_V.loop (σ := Int32 × Int32 × tr_M) (step := mX7_must_l43 v1 s6) (L := fun s7 => [(0, some (.ref 1)), (1, some (.int v1)), (2, some (.int s7.1)), (3, some (.int s6.2.1)), (4, some (.int s7.2.1))]) (Mf := fun s7 => s7.2.2) ?_ (s6.1, (0 : Int32), s6.2.2) ⟨rfl, rfl, rfl, rfl, rfl, trivial⟩
        intro s7
        refine tr_V.iload dX7_must_43 rfl ?_
        refine tr_V.iconst (v := (1 : Int32)) dX7_must_45 (by decide) ?_
        refine tr_V.aload_n (i := 0) dX7_must_46 rfl rfl ?_
        refine tr_V.getI fl_X7_160 shM_1 rfl dX7_must_47 ?_
        refine tr_V.ishl dX7_must_50 ?_
        refine tr_V.icmp_ge (tgt := 105) dX7_must_51 (by decide) ?_ ?_
        · refine tr_V.iload_n (i := 2) dX7_must_54 rfl rfl ?_
          refine tr_V.bipush (v := (-9 : Int32)) dX7_must_55 (by decide) ?_
          refine tr_V.icmp_ne (tgt := 105) dX7_must_57 (by decide) ?_ ?_
          · refine tr_V.iload dX7_must_60 rfl ?_
            refine tr_V.iload_n (i := 1) dX7_must_62 rfl rfl ?_
            refine tr_V.iand dX7_must_63 ?_
            refine tr_V.if_ne (tgt := 99) dX7_must_64 (by decide) ?_ ?_
            · refine tr_V.iload dX7_must_67 rfl ?_
              refine tr_V.bd (fun c8 h9 => ?_)
              refine tr_V.callS (C_X7_bits s7.2.1 s7.2.2 _ h9) yk_X7_bits sc_X7_bits ml_X7_226 ⟨rfl, Nat.le_of_ble_eq_true rfl⟩ rfl (Nat.le_of_ble_eq_true rfl) rfl dX7_must_69 ?_
              refine tr_V.iload_n (i := 3) dX7_must_72 rfl rfl ?_
              refine tr_V.icmp_ne (tgt := 99) dX7_must_73 (by decide) ?_ ?_
              · refine tr_V.aload_n (i := 0) dX7_must_76 rfl rfl ?_
                refine tr_V.iload_n (i := 1) dX7_must_77 rfl rfl ?_
                refine tr_V.iload dX7_must_78 rfl ?_
                refine tr_V.ior dX7_must_80 ?_
                refine tr_V.bd (fun c10 h11 => ?_)
                refine tr_V.callV (C_X7_layOff (v1 ||| s7.2.1) s7.2.2 _ h11) yk_X7_layOff iv_X7_layOff ml_X7_361 shM_1 rfl ⟨rfl, Nat.le_of_ble_eq_true rfl⟩ rfl (Nat.le_of_ble_eq_true rfl) rfl dX7_must_81 ?_
                refine tr_V.aload_n (i := 0) dX7_must_84 rfl rfl ?_
                refine tr_V.bd (fun c12 h13 => ?_)
                refine tr_V.callV (C_X7_isAnyAllowed c10 _ h13) yk_X7_isAnyAllowed iv_X7_isAnyAllowed ml_X7_364 shM_1 rfl ⟨rfl, Nat.le_of_ble_eq_true rfl⟩ rfl (Nat.le_of_ble_eq_true rfl) rfl dX7_must_85 ?_
                refine tr_V.if_eq (tgt := 96) dX7_must_88 (by decide) ?_ ?_
                · refine tr_V.bipush (v := (-9 : Int32)) dX7_must_96 (by decide) ?_
                  refine tr_V.istore_n (i := 2) dX7_must_98 rfl (Nat.le_of_ble_eq_true rfl) rfl ?_
                  refine tr_V.iinc (cst := (1 : Int32)) dX7_must_99 rfl (by decide) rfl ?_
                  refine tr_V.goto (tgt := 43) dX7_must_102 (by decide) ?_
                  exact tr_V.to (fun h => h) ⟨rfl, rfl, rfl, rfl, rfl, trivial⟩
                · refine tr_V.iload dX7_must_91 rfl ?_
                  refine tr_V.goto (tgt := 98) dX7_must_93 (by decide) ?_
                  refine tr_V.istore_n (i := 2) dX7_must_98 rfl (Nat.le_of_ble_eq_true rfl) rfl ?_
                  refine tr_V.iinc (cst := (1 : Int32)) dX7_must_99 rfl (by decide) rfl ?_
                  refine tr_V.goto (tgt := 43) dX7_must_102 (by decide) ?_
                  exact tr_V.to (fun h => h) ⟨rfl, rfl, rfl, rfl, rfl, trivial⟩
              · refine tr_V.iinc (cst := (1 : Int32)) dX7_must_99 rfl (by decide) rfl ?_
                refine tr_V.goto (tgt := 43) dX7_must_102 (by decide) ?_
                exact tr_V.to (fun h => h) ⟨rfl, rfl, rfl, rfl, rfl, trivial⟩
            · refine tr_V.iinc (cst := (1 : Int32)) dX7_must_99 rfl (by decide) rfl ?_
              refine tr_V.goto (tgt := 43) dX7_must_102 (by decide) ?_
              exact tr_V.to (fun h => h) ⟨rfl, rfl, rfl, rfl, rfl, trivial⟩
          · refine tr_V.iinc (cst := (1 : Int32)) dX7_must_105 rfl (by decide) rfl ?_
            refine tr_V.goto (tgt := 34) dX7_must_108 (by decide) ?_
            exact tr_V.to (fun h => h) ⟨rfl, rfl, rfl, rfl, trivial⟩
        · refine tr_V.iinc (cst := (1 : Int32)) dX7_must_105 rfl (by decide) rfl ?_
          refine tr_V.goto (tgt := 34) dX7_must_108 (by decide) ?_
          exact tr_V.to (fun h => h) ⟨rfl, rfl, rfl, rfl, trivial⟩
      · exact tr_V.to (fun h => h) ⟨rfl, rfl, rfl, trivial⟩
    · intro v5
      refine tr_V.aload_n (i := 0) dX7_must_111 rfl rfl ?_
      refine tr_V.iload_n (i := 1) dX7_must_112 rfl rfl ?_
      refine tr_V.bd (fun c14 h15 => ?_)
      refine tr_V.callV (C_X7_layOff v1 v5.2 _ h15) yk_X7_layOff iv_X7_layOff ml_X7_361 shM_1 rfl ⟨rfl, Nat.le_of_ble_eq_true rfl⟩ rfl (Nat.le_of_ble_eq_true rfl) rfl dX7_must_113 ?_
      refine tr_V.aload_n (i := 0) dX7_must_116 rfl rfl ?_
      refine tr_V.iload_n (i := 2) dX7_must_117 rfl rfl ?_
      refine tr_V.iload_n (i := 2) dX7_must_118 rfl rfl ?_
      refine tr_V.bd (fun c16 h17 => ?_)
      refine tr_V.callS (C_X7_bits v5.1 c14 _ h17) yk_X7_bits sc_X7_bits ml_X7_226 ⟨rfl, Nat.le_of_ble_eq_true rfl⟩ rfl (Nat.le_of_ble_eq_true rfl) rfl dX7_must_119 ?_
      refine tr_V.bd (fun c18 h19 => ?_)
      refine tr_V.callV (C_X7_tells v5.1 c16 c14 _ h19) yk_X7_tells iv_X7_tells ml_X7_114 shM_1 rfl ⟨rfl, Nat.le_of_ble_eq_true rfl⟩ rfl (Nat.le_of_ble_eq_true rfl) rfl dX7_must_122 ?_
      exact tr_V.iret dX7_must_125 rfl (fun h => h)
abbrev xX7_needAllowed : tr_X := (cX7_needAllowed, 3, RX7, (some .int), 4, shM, 24)
theorem cw_X7_needAllowed : Cond.code yX7_needAllowed cX7_needAllowed 3 (some .int) ∈ tr_tbl := tr_in 1716 (by decide +kernel) rfl
theorem yk_X7_needAllowed : tr_yk yX7_needAllowed (xX7_needAllowed) 1 := ⟨cw_X7_needAllowed, in_X7, ⟨by decide +kernel, by decide +kernel, by decide +kernel⟩, Nat.le_of_ble_eq_true rfl⟩
theorem iv_X7_needAllowed : Cond.instanceMethod yX7_needAllowed ∈ tr_tbl ∧ Cond.selects (yX7_needAllowed).cls yX7_needAllowed yX7_needAllowed ∈ tr_tbl := ⟨tr_in 1715 (by decide +kernel) rfl, tr_in 122 (by decide +kernel) rfl⟩
def mX7_needAllowed (p1 : Int32) (M : tr_M) : Option (Int32 × tr_M) :=
  Option.bind (mX7_needOrder p1 M) (fun c1 =>
  if c1.1 < 0 then (
    some (c1.1, c1.2)
  ) else (
    Option.bind (mX7_brokenNow c1.2) (fun c3 =>
    if c3 = (-9 : Int32) then (
      some ((0 : Int32), c1.2)
    ) else (
      Option.bind (mX7_meets (3 : Int32) c1.2) (fun c5 =>
      some (c5.1, c5.2)
      )
    )
    )
  )
  )
set_option maxRecDepth 100000 in
set_option maxHeartbeats 4000000 in
theorem C_X7_needAllowed (p1 : Int32) (M : tr_M) (r : Int32 × tr_M) (h : mX7_needAllowed p1 M = some r) : tr_I yX7_needAllowed (xX7_needAllowed) [.ref 1, .int p1] M (some (.int r.1)) r.2 := by
  refine tr_I.of (Z := fun q : Int32 × tr_M => (some (.int r.1) : Option Value) = some (.int q.1) ∧ r.2 = q.2) pn_X7 rfl gdM (Nat.le_of_ble_eq_true rfl) (fun Wt => ?_) h ⟨rfl, rfl⟩
  unfold mX7_needAllowed
  refine tr_V.aload_n (i := 0) dX7_needAllowed_0 rfl rfl ?_
  refine tr_V.iload_n (i := 1) dX7_needAllowed_1 rfl rfl ?_
  refine tr_V.bd (fun c1 h2 => ?_)
  refine tr_V.callV (C_X7_needOrder p1 M _ h2) yk_X7_needOrder iv_X7_needOrder ml_X7_214 shM_1 rfl ⟨rfl, Nat.le_of_ble_eq_true rfl⟩ rfl (Nat.le_of_ble_eq_true rfl) rfl dX7_needAllowed_2 ?_
  refine tr_V.istore_n (i := 2) dX7_needAllowed_5 rfl (Nat.le_of_ble_eq_true rfl) rfl ?_
  refine tr_V.iload_n (i := 2) dX7_needAllowed_6 rfl rfl ?_
  refine tr_V.if_ge (tgt := 14) dX7_needAllowed_7 (by decide) ?_ ?_
  · refine tr_V.iload_n (i := 2) dX7_needAllowed_10 rfl rfl ?_
    refine tr_V.goto (tgt := 32) dX7_needAllowed_11 (by decide) ?_
    exact tr_V.iret dX7_needAllowed_32 rfl (fun h => h)
  · refine tr_V.aload_n (i := 0) dX7_needAllowed_14 rfl rfl ?_
    refine tr_V.bd (fun c3 h4 => ?_)
    refine tr_V.callV (C_X7_brokenNow c1.2 _ h4) yk_X7_brokenNow iv_X7_brokenNow ml_X7_223 shM_1 rfl ⟨rfl, Nat.le_of_ble_eq_true rfl⟩ rfl (Nat.le_of_ble_eq_true rfl) rfl dX7_needAllowed_15 ?_
    refine tr_V.bipush (v := (-9 : Int32)) dX7_needAllowed_18 (by decide) ?_
    refine tr_V.icmp_ne (tgt := 27) dX7_needAllowed_20 (by decide) ?_ ?_
    · refine tr_V.iconst (v := (0 : Int32)) dX7_needAllowed_23 (by decide) ?_
      refine tr_V.goto (tgt := 32) dX7_needAllowed_24 (by decide) ?_
      exact tr_V.iret dX7_needAllowed_32 rfl (fun h => h)
    · refine tr_V.aload_n (i := 0) dX7_needAllowed_27 rfl rfl ?_
      refine tr_V.iconst (v := (3 : Int32)) dX7_needAllowed_28 (by decide) ?_
      refine tr_V.bd (fun c5 h6 => ?_)
      refine tr_V.callV (C_X7_meets (3 : Int32) c1.2 _ h6) yk_X7_meets iv_X7_meets ml_X7_106 shM_1 rfl ⟨rfl, Nat.le_of_ble_eq_true rfl⟩ rfl (Nat.le_of_ble_eq_true rfl) rfl dX7_needAllowed_29 ?_
      exact tr_V.iret dX7_needAllowed_32 rfl (fun h => h)
abbrev xX7_swaps : tr_X := (cX7_swaps, 10, RX7, (some .int), 5, shM, 24)
theorem cw_X7_swaps : Cond.code yX7_swaps cX7_swaps 10 (some .int) ∈ tr_tbl := tr_in 1712 (by decide +kernel) rfl
theorem yk_X7_swaps : tr_yk yX7_swaps (xX7_swaps) 2 := ⟨cw_X7_swaps, in_X7, ⟨by decide +kernel, by decide +kernel, by decide +kernel⟩, Nat.le_of_ble_eq_true rfl⟩
theorem iv_X7_swaps : Cond.instanceMethod yX7_swaps ∈ tr_tbl ∧ Cond.selects (yX7_swaps).cls yX7_swaps yX7_swaps ∈ tr_tbl := ⟨tr_in 1710 (by decide +kernel) rfl, tr_in 1711 (by decide +kernel) rfl⟩
def mX7_swaps_l59 (p1 : Int32) (s12 : Int32 × Int32 × Int32 × tr_M) : Option ((Int32 × Int32 × Int32 × tr_M) ⊕ (Int32 × Int32 × tr_M)) :=
  if (s12.2.2.1 + (1 : Int32)) < (s12.2.2.2.1 1 10) then (
    Option.bind (mX7_swap s12.2.2.1 (s12.2.2.1 + (1 : Int32)) s12.2.2.2) (fun c13 =>
    Option.bind (mX7_layPlaces c13) (fun c15 =>
    Option.bind (mX7_brokenNow c15) (fun c17 =>
    Option.bind (show Option (Int32) from
      if c17 = (-9 : Int32) then (
        Option.bind (mX7_measureNow p1 c15) (fun c20 =>
        some c20
        )
      ) else (
        some (1000000 : Int32)
      )
    ) (fun (v19 : Int32) =>
      Option.bind (mX7_swap s12.2.2.1 (s12.2.2.1 + (1 : Int32)) c15) (fun c22 =>
      if v19 < s12.2.1 then (
        some (.inl (s12.2.2.1, v19, (s12.2.2.1 + (1 : Int32)), c22))
      ) else (
        some (.inl (s12.1, s12.2.1, (s12.2.2.1 + (1 : Int32)), c22))
      )
      )
    )
    )
    )
    )
  ) else (
    some (.inr (s12.1, s12.2.1, s12.2.2.2))
  )
def mX7_swaps_l41 (p1 : Int32) (s10 : Int32 × Int32 × Int32 × tr_M) : Option ((Int32 × Int32 × Int32 × tr_M) ⊕ (Int32 × Int32 × tr_M)) :=
  if s10.2.2.1 = (-9 : Int32) then (
    some (.inr (s10.1, s10.2.1, s10.2.2.2))
  ) else (
    Option.bind (show Option (Int32 × Int32 × tr_M) from
      tr_loop (mX7_swaps_l59 p1) ((-9 : Int32), s10.1, (0 : Int32), s10.2.2.2)
    ) (fun (v11 : Int32 × Int32 × tr_M) =>
      if v11.1 = (-9 : Int32) then (
        some (.inl (s10.1, s10.2.1, v11.1, v11.2.2))
      ) else (
        Option.bind (mX7_swap v11.1 (v11.1 + (1 : Int32)) v11.2.2) (fun c24 =>
        some (.inl (v11.2.1, (s10.2.1 + (1 : Int32)), v11.1, c24))
        )
      )
    )
  )
def mX7_swaps (p1 : Int32) (p2 : Int32) (M : tr_M) : Option (Int32 × tr_M) :=
  Option.bind (mX7_isMeasure p1) (fun c1 =>
  if c1 = 0 then (
    some ((-1 : Int32), M)
  ) else (
    Option.bind (mX7_isRow p2) (fun c3 =>
    if c3 = 0 then (
      some ((-1 : Int32), M)
    ) else (
      Option.bind (mX7_needAllowed p2 M) (fun c5 =>
      if c5.1 < 0 then (
        some (c5.1, c5.2)
      ) else (
        Option.bind (mX7_measureNow p1 c5.2) (fun c7 =>
        Option.bind (show Option (Int32 × Int32 × tr_M) from
          tr_loop (mX7_swaps_l41 p1) (c7, (0 : Int32), (0 : Int32), c5.2)
        ) (fun (v9 : Int32 × Int32 × tr_M) =>
          Option.bind (mX7_lineToRow p2 v9.2.2) (fun c26 =>
          Option.bind (mX7_tells v9.1 v9.2.1 c26) (fun c28 =>
          some (c28.1, c28.2)
          )
          )
        )
        )
      )
      )
    )
    )
  )
  )
set_option maxRecDepth 100000 in
set_option maxHeartbeats 4000000 in
theorem C_X7_swaps (p1 : Int32) (p2 : Int32) (M : tr_M) (r : Int32 × tr_M) (h : mX7_swaps p1 p2 M = some r) : tr_I yX7_swaps (xX7_swaps) [.ref 1, .int p1, .int p2] M (some (.int r.1)) r.2 := by
  refine tr_I.of (Z := fun q : Int32 × tr_M => (some (.int r.1) : Option Value) = some (.int q.1) ∧ r.2 = q.2) pn_X7 rfl gdM (Nat.le_of_ble_eq_true rfl) (fun Wt => ?_) h ⟨rfl, rfl⟩
  unfold mX7_swaps
  refine tr_V.iload_n (i := 1) dX7_swaps_0 rfl rfl ?_
  refine tr_V.bd (fun c1 h2 => ?_)
  refine tr_V.callS (C_X7_isMeasure p1 M _ h2) yk_X7_isMeasure sc_X7_isMeasure ml_X7_211 ⟨rfl, Nat.le_of_ble_eq_true rfl⟩ rfl (Nat.le_of_ble_eq_true rfl) rfl dX7_swaps_1 ?_
  refine tr_V.if_eq (tgt := 14) dX7_swaps_4 (by decide) ?_ ?_
  · refine tr_V.iconst (v := (-1 : Int32)) dX7_swaps_14 (by decide) ?_
    exact tr_V.iret dX7_swaps_15 rfl (fun h => h)
  · refine tr_V.iload_n (i := 2) dX7_swaps_7 rfl rfl ?_
    refine tr_V.bd (fun c3 h4 => ?_)
    refine tr_V.callS (C_X7_isRow p2 M _ h4) yk_X7_isRow sc_X7_isRow ml_X7_102 ⟨rfl, Nat.le_of_ble_eq_true rfl⟩ rfl (Nat.le_of_ble_eq_true rfl) rfl dX7_swaps_8 ?_
    refine tr_V.if_ne (tgt := 16) dX7_swaps_11 (by decide) ?_ ?_
    · refine tr_V.iconst (v := (-1 : Int32)) dX7_swaps_14 (by decide) ?_
      exact tr_V.iret dX7_swaps_15 rfl (fun h => h)
    · refine tr_V.aload_n (i := 0) dX7_swaps_16 rfl rfl ?_
      refine tr_V.iload_n (i := 2) dX7_swaps_17 rfl rfl ?_
      refine tr_V.bd (fun c5 h6 => ?_)
      refine tr_V.callV (C_X7_needAllowed p2 M _ h6) yk_X7_needAllowed iv_X7_needAllowed ml_X7_367 shM_1 rfl ⟨rfl, Nat.le_of_ble_eq_true rfl⟩ rfl (Nat.le_of_ble_eq_true rfl) rfl dX7_swaps_18 ?_
      refine tr_V.istore_n (i := 3) dX7_swaps_21 rfl (Nat.le_of_ble_eq_true rfl) rfl ?_
      refine tr_V.iload_n (i := 3) dX7_swaps_22 rfl rfl ?_
      refine tr_V.if_ge (tgt := 28) dX7_swaps_23 (by decide) ?_ ?_
      · refine tr_V.iload_n (i := 3) dX7_swaps_26 rfl rfl ?_
        exact tr_V.iret dX7_swaps_27 rfl (fun h => h)
      · refine tr_V.aload_n (i := 0) dX7_swaps_28 rfl rfl ?_
        refine tr_V.iload_n (i := 1) dX7_swaps_29 rfl rfl ?_
        refine tr_V.bd (fun c7 h8 => ?_)
        refine tr_V.callV (C_X7_measureNow p1 c5.2 _ h8) yk_X7_measureNow iv_X7_measureNow ml_X7_217 shM_1 rfl ⟨rfl, Nat.le_of_ble_eq_true rfl⟩ rfl (Nat.le_of_ble_eq_true rfl) rfl dX7_swaps_30 ?_
        refine tr_V.istore (i := 4) dX7_swaps_33 (Nat.le_of_ble_eq_true rfl) rfl ?_
        refine tr_V.iconst (v := (0 : Int32)) dX7_swaps_35 (by decide) ?_
        refine tr_V.istore (i := 5) dX7_swaps_36 (Nat.le_of_ble_eq_true rfl) rfl ?_
        refine tr_V.iconst (v := (0 : Int32)) dX7_swaps_38 (by decide) ?_
        refine tr_V.istore (i := 6) dX7_swaps_39 (Nat.le_of_ble_eq_true rfl) rfl ?_
        refine tr_V.seq (τ := Int32 × Int32 × tr_M) (pc' := 163) (L := fun v9 => [(0, some (.ref 1)), (2, some (.int p2)), (4, some (.int v9.1)), (5, some (.int v9.2.1))]) (S := fun v9 => []) (Mf := fun v9 => v9.2.2) ?_ ?_
        · refine tr_V.loop (σ := Int32 × Int32 × Int32 × tr_M) (step := mX7_swaps_l41 p1) (L := fun s10 => [(0, some (.ref 1)), (1, some (.int p1)), (2, some (.int p2)), (4, some (.int s10.1)), (5, some (.int s10.2.1)), (6, some (.int s10.2.2.1))]) (Mf := fun s10 => s10.2.2.2) ?_ (c7, (0 : Int32), (0 : Int32), c5.2) ⟨rfl, rfl, rfl, rfl, rfl, rfl, trivial⟩
          intro s10
          refine tr_V.iload dX7_swaps_41 rfl ?_
          refine tr_V.bipush (v := (-9 : Int32)) dX7_swaps_43 (by decide) ?_
          refine tr_V.icmp_eq (tgt := 163) dX7_swaps_45 (by decide) ?_ ?_
          · exact tr_V.to (fun h => h) ⟨rfl, rfl, rfl, rfl, trivial⟩
          · refine tr_V.bipush (v := (-9 : Int32)) dX7_swaps_48 (by decide) ?_
            refine tr_V.istore (i := 6) dX7_swaps_50 (Nat.le_of_ble_eq_true rfl) rfl ?_
            refine tr_V.iload dX7_swaps_52 rfl ?_
            refine tr_V.istore (i := 7) dX7_swaps_54 (Nat.le_of_ble_eq_true rfl) rfl ?_
            refine tr_V.iconst (v := (0 : Int32)) dX7_swaps_56 (by decide) ?_
            refine tr_V.istore (i := 8) dX7_swaps_57 (Nat.le_of_ble_eq_true rfl) rfl ?_
            refine tr_V.seq (τ := Int32 × Int32 × tr_M) (pc' := 136) (L := fun v11 => [(0, some (.ref 1)), (1, some (.int p1)), (2, some (.int p2)), (4, some (.int s10.1)), (5, some (.int s10.2.1)), (6, some (.int v11.1)), (7, some (.int v11.2.1))]) (S := fun v11 => []) (Mf := fun v11 => v11.2.2) ?_ ?_
            · refine tr_V.loop (σ := Int32 × Int32 × Int32 × tr_M) (step := mX7_swaps_l59 p1) (L := fun s12 => [(0, some (.ref 1)), (1, some (.int p1)), (2, some (.int p2)), (4, some (.int s10.1)), (5, some (.int s10.2.1)), (6, some (.int s12.1)), (7, some (.int s12.2.1)), (8, some (.int s12.2.2.1))]) (Mf := fun s12 => s12.2.2.2) ?_ ((-9 : Int32), s10.1, (0 : Int32), s10.2.2.2) ⟨rfl, rfl, rfl, rfl, rfl, rfl, rfl, rfl, trivial⟩
              intro s12
              refine tr_V.iload dX7_swaps_59 rfl ?_
              refine tr_V.iconst (v := (1 : Int32)) dX7_swaps_61 (by decide) ?_
              refine tr_V.iadd dX7_swaps_62 ?_
              refine tr_V.aload_n (i := 0) dX7_swaps_63 rfl rfl ?_
              refine tr_V.getI fl_X7_157 shM_1 rfl dX7_swaps_64 ?_
              refine tr_V.icmp_ge (tgt := 136) dX7_swaps_67 (by decide) ?_ ?_
              · refine tr_V.aload_n (i := 0) dX7_swaps_70 rfl rfl ?_
                refine tr_V.iload dX7_swaps_71 rfl ?_
                refine tr_V.iload dX7_swaps_73 rfl ?_
                refine tr_V.iconst (v := (1 : Int32)) dX7_swaps_75 (by decide) ?_
                refine tr_V.iadd dX7_swaps_76 ?_
                refine tr_V.bd (fun c13 h14 => ?_)
                refine tr_V.callV (C_X7_swap s12.2.2.1 (s12.2.2.1 + (1 : Int32)) s12.2.2.2 _ h14) yk_X7_swap iv_X7_swap ml_X7_263 shM_1 rfl ⟨rfl, Nat.le_of_ble_eq_true rfl⟩ rfl (Nat.le_of_ble_eq_true rfl) rfl dX7_swaps_77 ?_
                refine tr_V.aload_n (i := 0) dX7_swaps_80 rfl rfl ?_
                refine tr_V.bd (fun c15 h16 => ?_)
                refine tr_V.callV (C_X7_layPlaces c13 _ h16) yk_X7_layPlaces iv_X7_layPlaces ml_X7_189 shM_1 rfl ⟨rfl, Nat.le_of_ble_eq_true rfl⟩ rfl (Nat.le_of_ble_eq_true rfl) rfl dX7_swaps_81 ?_
                refine tr_V.aload_n (i := 0) dX7_swaps_84 rfl rfl ?_
                refine tr_V.bd (fun c17 h18 => ?_)
                refine tr_V.callV (C_X7_brokenNow c15 _ h18) yk_X7_brokenNow iv_X7_brokenNow ml_X7_223 shM_1 rfl ⟨rfl, Nat.le_of_ble_eq_true rfl⟩ rfl (Nat.le_of_ble_eq_true rfl) rfl dX7_swaps_85 ?_
                refine tr_V.bipush (v := (-9 : Int32)) dX7_swaps_88 (by decide) ?_
                refine tr_V.seq (τ := Int32) (pc' := 103) (L := fun v19 => [(0, some (.ref 1)), (1, some (.int p1)), (2, some (.int p2)), (4, some (.int s10.1)), (5, some (.int s10.2.1)), (6, some (.int s12.1)), (7, some (.int s12.2.1)), (8, some (.int s12.2.2.1))]) (S := fun v19 => [.int v19]) (Mf := fun v19 => c15) ?_ ?_
                · refine tr_V.icmp_ne (tgt := 101) dX7_swaps_90 (by decide) ?_ ?_
                  · refine tr_V.aload_n (i := 0) dX7_swaps_93 rfl rfl ?_
                    refine tr_V.iload_n (i := 1) dX7_swaps_94 rfl rfl ?_
                    refine tr_V.bd (fun c20 h21 => ?_)
                    refine tr_V.callV (C_X7_measureNow p1 c15 _ h21) yk_X7_measureNow iv_X7_measureNow ml_X7_217 shM_1 rfl ⟨rfl, Nat.le_of_ble_eq_true rfl⟩ rfl (Nat.le_of_ble_eq_true rfl) rfl dX7_swaps_95 ?_
                    refine tr_V.goto (tgt := 103) dX7_swaps_98 (by decide) ?_
                    exact tr_V.to (fun h => h) ⟨rfl, rfl, rfl, rfl, rfl, rfl, rfl, rfl, trivial⟩
                  · refine tr_V.ldc ct_X7_246 dX7_swaps_101 ?_
                    exact tr_V.to (fun h => h) ⟨rfl, rfl, rfl, rfl, rfl, rfl, rfl, rfl, trivial⟩
                · intro v19
                  refine tr_V.istore (i := 9) dX7_swaps_103 (Nat.le_of_ble_eq_true rfl) rfl ?_
                  refine tr_V.aload_n (i := 0) dX7_swaps_105 rfl rfl ?_
                  refine tr_V.iload dX7_swaps_106 rfl ?_
                  refine tr_V.iload dX7_swaps_108 rfl ?_
                  refine tr_V.iconst (v := (1 : Int32)) dX7_swaps_110 (by decide) ?_
                  refine tr_V.iadd dX7_swaps_111 ?_
                  refine tr_V.bd (fun c22 h23 => ?_)
                  refine tr_V.callV (C_X7_swap s12.2.2.1 (s12.2.2.1 + (1 : Int32)) c15 _ h23) yk_X7_swap iv_X7_swap ml_X7_263 shM_1 rfl ⟨rfl, Nat.le_of_ble_eq_true rfl⟩ rfl (Nat.le_of_ble_eq_true rfl) rfl dX7_swaps_112 ?_
                  refine tr_V.iload dX7_swaps_115 rfl ?_
                  refine tr_V.iload dX7_swaps_117 rfl ?_
                  refine tr_V.icmp_ge (tgt := 130) dX7_swaps_119 (by decide) ?_ ?_
                  · refine tr_V.iload dX7_swaps_122 rfl ?_
                    refine tr_V.istore (i := 6) dX7_swaps_124 (Nat.le_of_ble_eq_true rfl) rfl ?_
                    refine tr_V.iload dX7_swaps_126 rfl ?_
                    refine tr_V.istore (i := 7) dX7_swaps_128 (Nat.le_of_ble_eq_true rfl) rfl ?_
                    refine tr_V.iinc (cst := (1 : Int32)) dX7_swaps_130 rfl (by decide) rfl ?_
                    refine tr_V.goto (tgt := 59) dX7_swaps_133 (by decide) ?_
                    exact tr_V.to (fun h => h) ⟨rfl, rfl, rfl, rfl, rfl, rfl, rfl, rfl, trivial⟩
                  · refine tr_V.iinc (cst := (1 : Int32)) dX7_swaps_130 rfl (by decide) rfl ?_
                    refine tr_V.goto (tgt := 59) dX7_swaps_133 (by decide) ?_
                    exact tr_V.to (fun h => h) ⟨rfl, rfl, rfl, rfl, rfl, rfl, rfl, rfl, trivial⟩
              · exact tr_V.to (fun h => h) ⟨rfl, rfl, rfl, rfl, rfl, rfl, rfl, trivial⟩
            · intro v11
              refine tr_V.iload dX7_swaps_136 rfl ?_
              refine tr_V.bipush (v := (-9 : Int32)) dX7_swaps_138 (by decide) ?_
              refine tr_V.icmp_eq (tgt := 160) dX7_swaps_140 (by decide) ?_ ?_
              · refine tr_V.goto (tgt := 41) dX7_swaps_160 (by decide) ?_
                exact tr_V.to (fun h => h) ⟨rfl, rfl, rfl, rfl, rfl, rfl, trivial⟩
              · refine tr_V.aload_n (i := 0) dX7_swaps_143 rfl rfl ?_
                refine tr_V.iload dX7_swaps_144 rfl ?_
                refine tr_V.iload dX7_swaps_146 rfl ?_
                refine tr_V.iconst (v := (1 : Int32)) dX7_swaps_148 (by decide) ?_
                refine tr_V.iadd dX7_swaps_149 ?_
                refine tr_V.bd (fun c24 h25 => ?_)
                refine tr_V.callV (C_X7_swap v11.1 (v11.1 + (1 : Int32)) v11.2.2 _ h25) yk_X7_swap iv_X7_swap ml_X7_263 shM_1 rfl ⟨rfl, Nat.le_of_ble_eq_true rfl⟩ rfl (Nat.le_of_ble_eq_true rfl) rfl dX7_swaps_150 ?_
                refine tr_V.iload dX7_swaps_153 rfl ?_
                refine tr_V.istore (i := 4) dX7_swaps_155 (Nat.le_of_ble_eq_true rfl) rfl ?_
                refine tr_V.iinc (cst := (1 : Int32)) dX7_swaps_157 rfl (by decide) rfl ?_
                refine tr_V.goto (tgt := 41) dX7_swaps_160 (by decide) ?_
                exact tr_V.to (fun h => h) ⟨rfl, rfl, rfl, rfl, rfl, rfl, trivial⟩
        · intro v9
          refine tr_V.aload_n (i := 0) dX7_swaps_163 rfl rfl ?_
          refine tr_V.iload_n (i := 2) dX7_swaps_164 rfl rfl ?_
          refine tr_V.bd (fun c26 h27 => ?_)
          refine tr_V.callV (C_X7_lineToRow p2 v9.2.2 _ h27) yk_X7_lineToRow iv_X7_lineToRow ml_X7_308 shM_1 rfl ⟨rfl, Nat.le_of_ble_eq_true rfl⟩ rfl (Nat.le_of_ble_eq_true rfl) rfl dX7_swaps_165 ?_
          refine tr_V.aload_n (i := 0) dX7_swaps_168 rfl rfl ?_
          refine tr_V.iload dX7_swaps_169 rfl ?_
          refine tr_V.iload dX7_swaps_171 rfl ?_
          refine tr_V.bd (fun c28 h29 => ?_)
          refine tr_V.callV (C_X7_tells v9.1 v9.2.1 c26 _ h29) yk_X7_tells iv_X7_tells ml_X7_114 shM_1 rfl ⟨rfl, Nat.le_of_ble_eq_true rfl⟩ rfl (Nat.le_of_ble_eq_true rfl) rfl dX7_swaps_173 ?_
          exact tr_V.iret dX7_swaps_176 rfl (fun h => h)
abbrev xX7_shift : tr_X := (cX7_shift, 5, RX7, (Option.none : Option Jvm.ClassFile.FieldType), 2, shM, 24)
theorem cw_X7_shift : Cond.code yX7_shift cX7_shift 5 (Option.none : Option Jvm.ClassFile.FieldType) ∈ tr_tbl := tr_in 1724 (by decide +kernel) rfl
theorem yk_X7_shift : tr_yk yX7_shift (xX7_shift) 2 := ⟨cw_X7_shift, in_X7, ⟨by decide +kernel, by decide +kernel, by decide +kernel⟩, Nat.le_of_ble_eq_true rfl⟩
theorem iv_X7_shift : Cond.instanceMethod yX7_shift ∈ tr_tbl ∧ Cond.selects (yX7_shift).cls yX7_shift yX7_shift ∈ tr_tbl := ⟨tr_in 1723 (by decide +kernel) rfl, tr_in 123 (by decide +kernel) rfl⟩
def mX7_shift_l10 (p2 : Int32) (s4 : Int32 × tr_M) : Option ((Int32 × tr_M) ⊕ (tr_M)) :=
  if s4.1 < p2 then (
    Option.bind (tr_rd 10 s4.2 12 (s4.1 + (1 : Int32))) (fun a5 =>
    Option.bind (tr_wr 10 s4.2 12 s4.1 a5) (fun M7 =>
    some (.inl ((s4.1 + (1 : Int32)), M7))
    )
    )
  ) else (
    some (.inr s4.2)
  )
def mX7_shift_l41 (p2 : Int32) (s10 : Int32 × tr_M) : Option ((Int32 × tr_M) ⊕ (tr_M)) :=
  if p2 < s10.1 then (
    Option.bind (tr_rd 10 s10.2 12 (s10.1 - (1 : Int32))) (fun a11 =>
    Option.bind (tr_wr 10 s10.2 12 s10.1 a11) (fun M13 =>
    Option.bind (some (s10.1 + (-1 : Int32))) (fun x15 =>
    some (.inl (x15, M13))
    )
    )
    )
  ) else (
    some (.inr s10.2)
  )
def mX7_shift (p1 : Int32) (p2 : Int32) (M : tr_M) : Option (tr_M) :=
  Option.bind (tr_rd 10 M 12 p1) (fun a1 =>
  Option.bind (show Option (tr_M) from
    tr_loop (mX7_shift_l10 p2) (p1, M)
  ) (fun (v3 : tr_M) =>
    Option.bind (show Option (tr_M) from
      tr_loop (mX7_shift_l41 p2) (p1, v3)
    ) (fun (v9 : tr_M) =>
      Option.bind (tr_wr 10 v9 12 p2 a1) (fun M17 =>
      Option.bind (mX7_layPlaces M17) (fun c19 =>
      some c19
      )
      )
    )
  )
  )
set_option maxRecDepth 100000 in
set_option maxHeartbeats 4000000 in
theorem C_X7_shift (p1 : Int32) (p2 : Int32) (M M' : tr_M) (h : mX7_shift p1 p2 M = some M') : tr_I yX7_shift (xX7_shift) [.ref 1, .int p1, .int p2] M none M' := by
  refine tr_I.of (Z := fun q : tr_M => (none : Option Value) = none ∧ M' = q) pn_X7 rfl gdM (Nat.le_of_ble_eq_true rfl) (fun Wt => ?_) h ⟨rfl, rfl⟩
  unfold mX7_shift
  refine tr_V.aload_n (i := 0) dX7_shift_0 rfl rfl ?_
  refine tr_V.getR (Nat.succ_pos _) fl_X7_41 shM_1 rfl dX7_shift_1 ?_
  refine tr_V.iload_n (i := 1) dX7_shift_4 rfl rfl ?_
  refine tr_V.bd (fun a1 h2 => ?_)
  refine tr_V.iald h2 shM_12 dX7_shift_5 ?_
  refine tr_V.istore_n (i := 3) dX7_shift_6 rfl (Nat.le_of_ble_eq_true rfl) rfl ?_
  refine tr_V.iload_n (i := 1) dX7_shift_7 rfl rfl ?_
  refine tr_V.istore (i := 4) dX7_shift_8 (Nat.le_of_ble_eq_true rfl) rfl ?_
  refine tr_V.seq (τ := tr_M) (pc' := 38) (L := fun v3 => [(0, some (.ref 1)), (1, some (.int p1)), (2, some (.int p2)), (3, some (.int a1))]) (S := fun v3 => []) (Mf := fun v3 => v3) ?_ ?_
  · refine tr_V.loop (σ := Int32 × tr_M) (step := mX7_shift_l10 p2) (L := fun s4 => [(0, some (.ref 1)), (1, some (.int p1)), (2, some (.int p2)), (3, some (.int a1)), (4, some (.int s4.1))]) (Mf := fun s4 => s4.2) ?_ (p1, M) ⟨rfl, rfl, rfl, rfl, rfl, trivial⟩
    intro s4
    refine tr_V.iload dX7_shift_10 rfl ?_
    refine tr_V.iload_n (i := 2) dX7_shift_12 rfl rfl ?_
    refine tr_V.icmp_ge (tgt := 38) dX7_shift_13 (by decide) ?_ ?_
    · refine tr_V.aload_n (i := 0) dX7_shift_16 rfl rfl ?_
      refine tr_V.getR (Nat.succ_pos _) fl_X7_41 shM_1 rfl dX7_shift_17 ?_
      refine tr_V.iload dX7_shift_20 rfl ?_
      refine tr_V.aload_n (i := 0) dX7_shift_22 rfl rfl ?_
      refine tr_V.getR (Nat.succ_pos _) fl_X7_41 shM_1 rfl dX7_shift_23 ?_
      refine tr_V.iload dX7_shift_26 rfl ?_
      refine tr_V.iconst (v := (1 : Int32)) dX7_shift_28 (by decide) ?_
      refine tr_V.iadd dX7_shift_29 ?_
      refine tr_V.bd (fun a5 h6 => ?_)
      refine tr_V.iald h6 shM_12 dX7_shift_30 ?_
      refine tr_V.bd (fun M7 h8 => ?_)
      refine tr_V.iast h8 shM_12 dX7_shift_31 ?_
      refine tr_V.iinc (cst := (1 : Int32)) dX7_shift_32 rfl (by decide) rfl ?_
      refine tr_V.goto (tgt := 10) dX7_shift_35 (by decide) ?_
      exact tr_V.to (fun h => h) ⟨rfl, rfl, rfl, rfl, rfl, trivial⟩
    · exact tr_V.to (fun h => h) ⟨rfl, rfl, rfl, rfl, trivial⟩
  · intro v3
    refine tr_V.iload_n (i := 1) dX7_shift_38 rfl rfl ?_
    refine tr_V.istore (i := 4) dX7_shift_39 (Nat.le_of_ble_eq_true rfl) rfl ?_
    refine tr_V.seq (τ := tr_M) (pc' := 69) (L := fun v9 => [(0, some (.ref 1)), (2, some (.int p2)), (3, some (.int a1))]) (S := fun v9 => []) (Mf := fun v9 => v9) ?_ ?_
    · refine tr_V.loop (σ := Int32 × tr_M) (step := mX7_shift_l41 p2) (L := fun s10 => [(0, some (.ref 1)), (2, some (.int p2)), (3, some (.int a1)), (4, some (.int s10.1))]) (Mf := fun s10 => s10.2) ?_ (p1, v3) ⟨rfl, rfl, rfl, rfl, trivial⟩
      intro s10
      refine tr_V.iload dX7_shift_41 rfl ?_
      refine tr_V.iload_n (i := 2) dX7_shift_43 rfl rfl ?_
      refine tr_V.icmp_le (tgt := 69) dX7_shift_44 (by decide) ?_ ?_
      · refine tr_V.aload_n (i := 0) dX7_shift_47 rfl rfl ?_
        refine tr_V.getR (Nat.succ_pos _) fl_X7_41 shM_1 rfl dX7_shift_48 ?_
        refine tr_V.iload dX7_shift_51 rfl ?_
        refine tr_V.aload_n (i := 0) dX7_shift_53 rfl rfl ?_
        refine tr_V.getR (Nat.succ_pos _) fl_X7_41 shM_1 rfl dX7_shift_54 ?_
        refine tr_V.iload dX7_shift_57 rfl ?_
        refine tr_V.iconst (v := (1 : Int32)) dX7_shift_59 (by decide) ?_
        refine tr_V.isub dX7_shift_60 ?_
        refine tr_V.bd (fun a11 h12 => ?_)
        refine tr_V.iald h12 shM_12 dX7_shift_61 ?_
        refine tr_V.bd (fun M13 h14 => ?_)
        refine tr_V.iast h14 shM_12 dX7_shift_62 ?_
        refine tr_V.bd (fun x15 h16 => ?_)
        refine tr_V.iincN (cst := (-1 : Int32)) dX7_shift_63 rfl (by decide) rfl h16 ?_
        refine tr_V.goto (tgt := 41) dX7_shift_66 (by decide) ?_
        exact tr_V.to (fun h => h) ⟨rfl, rfl, rfl, rfl, trivial⟩
      · exact tr_V.to (fun h => h) ⟨rfl, rfl, rfl, trivial⟩
    · intro v9
      refine tr_V.aload_n (i := 0) dX7_shift_69 rfl rfl ?_
      refine tr_V.getR (Nat.succ_pos _) fl_X7_41 shM_1 rfl dX7_shift_70 ?_
      refine tr_V.iload_n (i := 2) dX7_shift_73 rfl rfl ?_
      refine tr_V.iload_n (i := 3) dX7_shift_74 rfl rfl ?_
      refine tr_V.bd (fun M17 h18 => ?_)
      refine tr_V.iast h18 shM_12 dX7_shift_75 ?_
      refine tr_V.aload_n (i := 0) dX7_shift_76 rfl rfl ?_
      refine tr_V.bd (fun c19 h20 => ?_)
      refine tr_V.callV (C_X7_layPlaces M17 _ h20) yk_X7_layPlaces iv_X7_layPlaces ml_X7_189 shM_1 rfl ⟨rfl, Nat.le_of_ble_eq_true rfl⟩ rfl (Nat.le_of_ble_eq_true rfl) rfl dX7_shift_77 ?_
      exact tr_V.vret dX7_shift_80 rfl (fun h => h)
abbrev xX7_moves : tr_X := (cX7_moves, 12, RX7, (some .int), 5, shM, 24)
theorem cw_X7_moves : Cond.code yX7_moves cX7_moves 12 (some .int) ∈ tr_tbl := tr_in 1720 (by decide +kernel) rfl
theorem yk_X7_moves : tr_yk yX7_moves (xX7_moves) 2 := ⟨cw_X7_moves, in_X7, ⟨by decide +kernel, by decide +kernel, by decide +kernel⟩, Nat.le_of_ble_eq_true rfl⟩
theorem iv_X7_moves : Cond.instanceMethod yX7_moves ∈ tr_tbl ∧ Cond.selects (yX7_moves).cls yX7_moves yX7_moves ∈ tr_tbl := ⟨tr_in 1718 (by decide +kernel) rfl, tr_in 1719 (by decide +kernel) rfl⟩
def mX7_moves_l59 (p1 : Int32) (s12 : Int32 × Int32 × Int32 × tr_M) : Option ((Int32 × Int32 × Int32 × tr_M) ⊕ (Int32 × Int32 × tr_M)) :=
  if s12.2.2.1 < ((s12.2.2.2.1 1 10) * (s12.2.2.2.1 1 10)) then (
    Option.bind (tr_dvi s12.2.2.1 (s12.2.2.2.1 1 10)) (fun q13 =>
    Option.bind (tr_rd 10 s12.2.2.2 13 q13) (fun a14 =>
    Option.bind (tr_rmi s12.2.2.1 (s12.2.2.2.1 1 10)) (fun q16 =>
    Option.bind (mX7_shift a14 q16 s12.2.2.2) (fun c17 =>
    Option.bind (mX7_brokenNow c17) (fun c19 =>
    Option.bind (show Option (Int32) from
      if c19 = (-9 : Int32) then (
        Option.bind (mX7_measureNow p1 c17) (fun c22 =>
        some c22
        )
      ) else (
        some (1000000 : Int32)
      )
    ) (fun (v21 : Int32) =>
      Option.bind (mX7_shift q16 a14 c17) (fun c24 =>
      if a14 = q16 then (
        some (.inl (s12.1, s12.2.1, (s12.2.2.1 + (1 : Int32)), c24))
      ) else (
        if v21 < s12.2.1 then (
          some (.inl (s12.2.2.1, v21, (s12.2.2.1 + (1 : Int32)), c24))
        ) else (
          some (.inl (s12.1, s12.2.1, (s12.2.2.1 + (1 : Int32)), c24))
        )
      )
      )
    )
    )
    )
    )
    )
    )
  ) else (
    some (.inr (s12.1, s12.2.1, s12.2.2.2))
  )
def mX7_moves_l41 (p1 : Int32) (s10 : Int32 × Int32 × Int32 × tr_M) : Option ((Int32 × Int32 × Int32 × tr_M) ⊕ (Int32 × Int32 × tr_M)) :=
  if s10.2.2.1 = (-9 : Int32) then (
    some (.inr (s10.1, s10.2.1, s10.2.2.2))
  ) else (
    Option.bind (show Option (Int32 × Int32 × tr_M) from
      tr_loop (mX7_moves_l59 p1) ((-9 : Int32), s10.1, (0 : Int32), s10.2.2.2)
    ) (fun (v11 : Int32 × Int32 × tr_M) =>
      if v11.1 = (-9 : Int32) then (
        some (.inl (s10.1, s10.2.1, v11.1, v11.2.2))
      ) else (
        Option.bind (tr_dvi v11.1 (v11.2.2.1 1 10)) (fun q26 =>
        Option.bind (tr_rd 10 v11.2.2 13 q26) (fun a27 =>
        Option.bind (tr_rmi v11.1 (v11.2.2.1 1 10)) (fun q29 =>
        Option.bind (mX7_shift a27 q29 v11.2.2) (fun c30 =>
        some (.inl (v11.2.1, (s10.2.1 + (1 : Int32)), v11.1, c30))
        )
        )
        )
        )
      )
    )
  )
def mX7_moves (p1 : Int32) (p2 : Int32) (M : tr_M) : Option (Int32 × tr_M) :=
  Option.bind (mX7_isMeasure p1) (fun c1 =>
  if c1 = 0 then (
    some ((-1 : Int32), M)
  ) else (
    Option.bind (mX7_isRow p2) (fun c3 =>
    if c3 = 0 then (
      some ((-1 : Int32), M)
    ) else (
      Option.bind (mX7_needAllowed p2 M) (fun c5 =>
      if c5.1 < 0 then (
        some (c5.1, c5.2)
      ) else (
        Option.bind (mX7_measureNow p1 c5.2) (fun c7 =>
        Option.bind (show Option (Int32 × Int32 × tr_M) from
          tr_loop (mX7_moves_l41 p1) (c7, (0 : Int32), (0 : Int32), c5.2)
        ) (fun (v9 : Int32 × Int32 × tr_M) =>
          Option.bind (mX7_lineToRow p2 v9.2.2) (fun c32 =>
          Option.bind (mX7_tells v9.1 v9.2.1 c32) (fun c34 =>
          some (c34.1, c34.2)
          )
          )
        )
        )
      )
      )
    )
    )
  )
  )
set_option maxRecDepth 100000 in
set_option maxHeartbeats 4000000 in
theorem C_X7_moves (p1 : Int32) (p2 : Int32) (M : tr_M) (r : Int32 × tr_M) (h : mX7_moves p1 p2 M = some r) : tr_I yX7_moves (xX7_moves) [.ref 1, .int p1, .int p2] M (some (.int r.1)) r.2 := by
  refine tr_I.of (Z := fun q : Int32 × tr_M => (some (.int r.1) : Option Value) = some (.int q.1) ∧ r.2 = q.2) pn_X7 rfl gdM (Nat.le_of_ble_eq_true rfl) (fun Wt => ?_) h ⟨rfl, rfl⟩
  unfold mX7_moves
  refine tr_V.iload_n (i := 1) dX7_moves_0 rfl rfl ?_
  refine tr_V.bd (fun c1 h2 => ?_)
  refine tr_V.callS (C_X7_isMeasure p1 M _ h2) yk_X7_isMeasure sc_X7_isMeasure ml_X7_211 ⟨rfl, Nat.le_of_ble_eq_true rfl⟩ rfl (Nat.le_of_ble_eq_true rfl) rfl dX7_moves_1 ?_
  refine tr_V.if_eq (tgt := 14) dX7_moves_4 (by decide) ?_ ?_
  · refine tr_V.iconst (v := (-1 : Int32)) dX7_moves_14 (by decide) ?_
    exact tr_V.iret dX7_moves_15 rfl (fun h => h)
  · refine tr_V.iload_n (i := 2) dX7_moves_7 rfl rfl ?_
    refine tr_V.bd (fun c3 h4 => ?_)
    refine tr_V.callS (C_X7_isRow p2 M _ h4) yk_X7_isRow sc_X7_isRow ml_X7_102 ⟨rfl, Nat.le_of_ble_eq_true rfl⟩ rfl (Nat.le_of_ble_eq_true rfl) rfl dX7_moves_8 ?_
    refine tr_V.if_ne (tgt := 16) dX7_moves_11 (by decide) ?_ ?_
    · refine tr_V.iconst (v := (-1 : Int32)) dX7_moves_14 (by decide) ?_
      exact tr_V.iret dX7_moves_15 rfl (fun h => h)
    · refine tr_V.aload_n (i := 0) dX7_moves_16 rfl rfl ?_
      refine tr_V.iload_n (i := 2) dX7_moves_17 rfl rfl ?_
      refine tr_V.bd (fun c5 h6 => ?_)
      refine tr_V.callV (C_X7_needAllowed p2 M _ h6) yk_X7_needAllowed iv_X7_needAllowed ml_X7_367 shM_1 rfl ⟨rfl, Nat.le_of_ble_eq_true rfl⟩ rfl (Nat.le_of_ble_eq_true rfl) rfl dX7_moves_18 ?_
      refine tr_V.istore_n (i := 3) dX7_moves_21 rfl (Nat.le_of_ble_eq_true rfl) rfl ?_
      refine tr_V.iload_n (i := 3) dX7_moves_22 rfl rfl ?_
      refine tr_V.if_ge (tgt := 28) dX7_moves_23 (by decide) ?_ ?_
      · refine tr_V.iload_n (i := 3) dX7_moves_26 rfl rfl ?_
        exact tr_V.iret dX7_moves_27 rfl (fun h => h)
      · refine tr_V.aload_n (i := 0) dX7_moves_28 rfl rfl ?_
        refine tr_V.iload_n (i := 1) dX7_moves_29 rfl rfl ?_
        refine tr_V.bd (fun c7 h8 => ?_)
        refine tr_V.callV (C_X7_measureNow p1 c5.2 _ h8) yk_X7_measureNow iv_X7_measureNow ml_X7_217 shM_1 rfl ⟨rfl, Nat.le_of_ble_eq_true rfl⟩ rfl (Nat.le_of_ble_eq_true rfl) rfl dX7_moves_30 ?_
        refine tr_V.istore (i := 4) dX7_moves_33 (Nat.le_of_ble_eq_true rfl) rfl ?_
        refine tr_V.iconst (v := (0 : Int32)) dX7_moves_35 (by decide) ?_
        refine tr_V.istore (i := 5) dX7_moves_36 (Nat.le_of_ble_eq_true rfl) rfl ?_
        refine tr_V.iconst (v := (0 : Int32)) dX7_moves_38 (by decide) ?_
        refine tr_V.istore (i := 6) dX7_moves_39 (Nat.le_of_ble_eq_true rfl) rfl ?_
        refine tr_V.seq (τ := Int32 × Int32 × tr_M) (pc' := 201) (L := fun v9 => [(0, some (.ref 1)), (2, some (.int p2)), (4, some (.int v9.1)), (5, some (.int v9.2.1))]) (S := fun v9 => []) (Mf := fun v9 => v9.2.2) ?_ ?_
        · refine tr_V.loop (σ := Int32 × Int32 × Int32 × tr_M) (step := mX7_moves_l41 p1) (L := fun s10 => [(0, some (.ref 1)), (1, some (.int p1)), (2, some (.int p2)), (4, some (.int s10.1)), (5, some (.int s10.2.1)), (6, some (.int s10.2.2.1))]) (Mf := fun s10 => s10.2.2.2) ?_ (c7, (0 : Int32), (0 : Int32), c5.2) ⟨rfl, rfl, rfl, rfl, rfl, rfl, trivial⟩
          intro s10
          refine tr_V.iload dX7_moves_41 rfl ?_
          refine tr_V.bipush (v := (-9 : Int32)) dX7_moves_43 (by decide) ?_
          refine tr_V.icmp_eq (tgt := 201) dX7_moves_45 (by decide) ?_ ?_
          · exact tr_V.to (fun h => h) ⟨rfl, rfl, rfl, rfl, trivial⟩
          · refine tr_V.bipush (v := (-9 : Int32)) dX7_moves_48 (by decide) ?_
            refine tr_V.istore (i := 6) dX7_moves_50 (Nat.le_of_ble_eq_true rfl) rfl ?_
            refine tr_V.iload dX7_moves_52 rfl ?_
            refine tr_V.istore (i := 7) dX7_moves_54 (Nat.le_of_ble_eq_true rfl) rfl ?_
            refine tr_V.iconst (v := (0 : Int32)) dX7_moves_56 (by decide) ?_
            refine tr_V.istore (i := 8) dX7_moves_57 (Nat.le_of_ble_eq_true rfl) rfl ?_
            refine tr_V.seq (τ := Int32 × Int32 × tr_M) (pc' := 161) (L := fun v11 => [(0, some (.ref 1)), (1, some (.int p1)), (2, some (.int p2)), (4, some (.int s10.1)), (5, some (.int s10.2.1)), (6, some (.int v11.1)), (7, some (.int v11.2.1))]) (S := fun v11 => []) (Mf := fun v11 => v11.2.2) ?_ ?_
            · refine tr_V.loop (σ := Int32 × Int32 × Int32 × tr_M) (step := mX7_moves_l59 p1) (L := fun s12 => [(0, some (.ref 1)), (1, some (.int p1)), (2, some (.int p2)), (4, some (.int s10.1)), (5, some (.int s10.2.1)), (6, some (.int s12.1)), (7, some (.int s12.2.1)), (8, some (.int s12.2.2.1))]) (Mf := fun s12 => s12.2.2.2) ?_ ((-9 : Int32), s10.1, (0 : Int32), s10.2.2.2) ⟨rfl, rfl, rfl, rfl, rfl, rfl, rfl, rfl, trivial⟩
              intro s12
              refine tr_V.iload dX7_moves_59 rfl ?_
              refine tr_V.aload_n (i := 0) dX7_moves_61 rfl rfl ?_
              refine tr_V.getI fl_X7_157 shM_1 rfl dX7_moves_62 ?_
              refine tr_V.aload_n (i := 0) dX7_moves_65 rfl rfl ?_
              refine tr_V.getI fl_X7_157 shM_1 rfl dX7_moves_66 ?_
              refine tr_V.imul dX7_moves_69 ?_
              refine tr_V.icmp_ge (tgt := 161) dX7_moves_70 (by decide) ?_ ?_
              · refine tr_V.aload_n (i := 0) dX7_moves_73 rfl rfl ?_
                refine tr_V.getR (Nat.succ_pos _) fl_X7_44 shM_1 rfl dX7_moves_74 ?_
                refine tr_V.iload dX7_moves_77 rfl ?_
                refine tr_V.aload_n (i := 0) dX7_moves_79 rfl rfl ?_
                refine tr_V.getI fl_X7_157 shM_1 rfl dX7_moves_80 ?_
                refine tr_V.idiv dX7_moves_83 (fun q13 => ?_)
                refine tr_V.bd (fun a14 h15 => ?_)
                refine tr_V.iald h15 shM_13 dX7_moves_84 ?_
                refine tr_V.istore (i := 9) dX7_moves_85 (Nat.le_of_ble_eq_true rfl) rfl ?_
                refine tr_V.iload dX7_moves_87 rfl ?_
                refine tr_V.aload_n (i := 0) dX7_moves_89 rfl rfl ?_
                refine tr_V.getI fl_X7_157 shM_1 rfl dX7_moves_90 ?_
                refine tr_V.irem dX7_moves_93 (fun q16 => ?_)
                refine tr_V.istore (i := 10) dX7_moves_94 (Nat.le_of_ble_eq_true rfl) rfl ?_
                refine tr_V.aload_n (i := 0) dX7_moves_96 rfl rfl ?_
                refine tr_V.iload dX7_moves_97 rfl ?_
                refine tr_V.iload dX7_moves_99 rfl ?_
                refine tr_V.bd (fun c17 h18 => ?_)
                refine tr_V.callV (C_X7_shift a14 q16 s12.2.2.2 _ h18) yk_X7_shift iv_X7_shift ml_X7_370 shM_1 rfl ⟨rfl, Nat.le_of_ble_eq_true rfl⟩ rfl (Nat.le_of_ble_eq_true rfl) rfl dX7_moves_101 ?_
                refine tr_V.aload_n (i := 0) dX7_moves_104 rfl rfl ?_
                refine tr_V.bd (fun c19 h20 => ?_)
                refine tr_V.callV (C_X7_brokenNow c17 _ h20) yk_X7_brokenNow iv_X7_brokenNow ml_X7_223 shM_1 rfl ⟨rfl, Nat.le_of_ble_eq_true rfl⟩ rfl (Nat.le_of_ble_eq_true rfl) rfl dX7_moves_105 ?_
                refine tr_V.bipush (v := (-9 : Int32)) dX7_moves_108 (by decide) ?_
                refine tr_V.seq (τ := Int32) (pc' := 123) (L := fun v21 => [(0, some (.ref 1)), (1, some (.int p1)), (2, some (.int p2)), (4, some (.int s10.1)), (5, some (.int s10.2.1)), (6, some (.int s12.1)), (7, some (.int s12.2.1)), (8, some (.int s12.2.2.1)), (9, some (.int a14)), (10, some (.int q16))]) (S := fun v21 => [.int v21]) (Mf := fun v21 => c17) ?_ ?_
                · refine tr_V.icmp_ne (tgt := 121) dX7_moves_110 (by decide) ?_ ?_
                  · refine tr_V.aload_n (i := 0) dX7_moves_113 rfl rfl ?_
                    refine tr_V.iload_n (i := 1) dX7_moves_114 rfl rfl ?_
                    refine tr_V.bd (fun c22 h23 => ?_)
                    refine tr_V.callV (C_X7_measureNow p1 c17 _ h23) yk_X7_measureNow iv_X7_measureNow ml_X7_217 shM_1 rfl ⟨rfl, Nat.le_of_ble_eq_true rfl⟩ rfl (Nat.le_of_ble_eq_true rfl) rfl dX7_moves_115 ?_
                    refine tr_V.goto (tgt := 123) dX7_moves_118 (by decide) ?_
                    exact tr_V.to (fun h => h) ⟨rfl, rfl, rfl, rfl, rfl, rfl, rfl, rfl, rfl, rfl, trivial⟩
                  · refine tr_V.ldc ct_X7_246 dX7_moves_121 ?_
                    exact tr_V.to (fun h => h) ⟨rfl, rfl, rfl, rfl, rfl, rfl, rfl, rfl, rfl, rfl, trivial⟩
                · intro v21
                  refine tr_V.istore (i := 11) dX7_moves_123 (Nat.le_of_ble_eq_true rfl) rfl ?_
                  refine tr_V.aload_n (i := 0) dX7_moves_125 rfl rfl ?_
                  refine tr_V.iload dX7_moves_126 rfl ?_
                  refine tr_V.iload dX7_moves_128 rfl ?_
                  refine tr_V.bd (fun c24 h25 => ?_)
                  refine tr_V.callV (C_X7_shift q16 a14 c17 _ h25) yk_X7_shift iv_X7_shift ml_X7_370 shM_1 rfl ⟨rfl, Nat.le_of_ble_eq_true rfl⟩ rfl (Nat.le_of_ble_eq_true rfl) rfl dX7_moves_130 ?_
                  refine tr_V.iload dX7_moves_133 rfl ?_
                  refine tr_V.iload dX7_moves_135 rfl ?_
                  refine tr_V.icmp_eq (tgt := 155) dX7_moves_137 (by decide) ?_ ?_
                  · refine tr_V.iinc (cst := (1 : Int32)) dX7_moves_155 rfl (by decide) rfl ?_
                    refine tr_V.goto (tgt := 59) dX7_moves_158 (by decide) ?_
                    exact tr_V.to (fun h => h) ⟨rfl, rfl, rfl, rfl, rfl, rfl, rfl, rfl, trivial⟩
                  · refine tr_V.iload dX7_moves_140 rfl ?_
                    refine tr_V.iload dX7_moves_142 rfl ?_
                    refine tr_V.icmp_ge (tgt := 155) dX7_moves_144 (by decide) ?_ ?_
                    · refine tr_V.iload dX7_moves_147 rfl ?_
                      refine tr_V.istore (i := 6) dX7_moves_149 (Nat.le_of_ble_eq_true rfl) rfl ?_
                      refine tr_V.iload dX7_moves_151 rfl ?_
                      refine tr_V.istore (i := 7) dX7_moves_153 (Nat.le_of_ble_eq_true rfl) rfl ?_
                      refine tr_V.iinc (cst := (1 : Int32)) dX7_moves_155 rfl (by decide) rfl ?_
                      refine tr_V.goto (tgt := 59) dX7_moves_158 (by decide) ?_
                      exact tr_V.to (fun h => h) ⟨rfl, rfl, rfl, rfl, rfl, rfl, rfl, rfl, trivial⟩
                    · refine tr_V.iinc (cst := (1 : Int32)) dX7_moves_155 rfl (by decide) rfl ?_
                      refine tr_V.goto (tgt := 59) dX7_moves_158 (by decide) ?_
                      exact tr_V.to (fun h => h) ⟨rfl, rfl, rfl, rfl, rfl, rfl, rfl, rfl, trivial⟩
              · exact tr_V.to (fun h => h) ⟨rfl, rfl, rfl, rfl, rfl, rfl, rfl, trivial⟩
            · intro v11
              refine tr_V.iload dX7_moves_161 rfl ?_
              refine tr_V.bipush (v := (-9 : Int32)) dX7_moves_163 (by decide) ?_
              refine tr_V.icmp_eq (tgt := 198) dX7_moves_165 (by decide) ?_ ?_
              · refine tr_V.goto (tgt := 41) dX7_moves_198 (by decide) ?_
                exact tr_V.to (fun h => h) ⟨rfl, rfl, rfl, rfl, rfl, rfl, trivial⟩
              · refine tr_V.aload_n (i := 0) dX7_moves_168 rfl rfl ?_
                refine tr_V.aload_n (i := 0) dX7_moves_169 rfl rfl ?_
                refine tr_V.getR (Nat.succ_pos _) fl_X7_44 shM_1 rfl dX7_moves_170 ?_
                refine tr_V.iload dX7_moves_173 rfl ?_
                refine tr_V.aload_n (i := 0) dX7_moves_175 rfl rfl ?_
                refine tr_V.getI fl_X7_157 shM_1 rfl dX7_moves_176 ?_
                refine tr_V.idiv dX7_moves_179 (fun q26 => ?_)
                refine tr_V.bd (fun a27 h28 => ?_)
                refine tr_V.iald h28 shM_13 dX7_moves_180 ?_
                refine tr_V.iload dX7_moves_181 rfl ?_
                refine tr_V.aload_n (i := 0) dX7_moves_183 rfl rfl ?_
                refine tr_V.getI fl_X7_157 shM_1 rfl dX7_moves_184 ?_
                refine tr_V.irem dX7_moves_187 (fun q29 => ?_)
                refine tr_V.bd (fun c30 h31 => ?_)
                refine tr_V.callV (C_X7_shift a27 q29 v11.2.2 _ h31) yk_X7_shift iv_X7_shift ml_X7_370 shM_1 rfl ⟨rfl, Nat.le_of_ble_eq_true rfl⟩ rfl (Nat.le_of_ble_eq_true rfl) rfl dX7_moves_188 ?_
                refine tr_V.iload dX7_moves_191 rfl ?_
                refine tr_V.istore (i := 4) dX7_moves_193 (Nat.le_of_ble_eq_true rfl) rfl ?_
                refine tr_V.iinc (cst := (1 : Int32)) dX7_moves_195 rfl (by decide) rfl ?_
                refine tr_V.goto (tgt := 41) dX7_moves_198 (by decide) ?_
                exact tr_V.to (fun h => h) ⟨rfl, rfl, rfl, rfl, rfl, rfl, trivial⟩
        · intro v9
          refine tr_V.aload_n (i := 0) dX7_moves_201 rfl rfl ?_
          refine tr_V.iload_n (i := 2) dX7_moves_202 rfl rfl ?_
          refine tr_V.bd (fun c32 h33 => ?_)
          refine tr_V.callV (C_X7_lineToRow p2 v9.2.2 _ h33) yk_X7_lineToRow iv_X7_lineToRow ml_X7_308 shM_1 rfl ⟨rfl, Nat.le_of_ble_eq_true rfl⟩ rfl (Nat.le_of_ble_eq_true rfl) rfl dX7_moves_203 ?_
          refine tr_V.aload_n (i := 0) dX7_moves_206 rfl rfl ?_
          refine tr_V.iload dX7_moves_207 rfl ?_
          refine tr_V.iload dX7_moves_209 rfl ?_
          refine tr_V.bd (fun c34 h35 => ?_)
          refine tr_V.callV (C_X7_tells v9.1 v9.2.1 c32 _ h35) yk_X7_tells iv_X7_tells ml_X7_114 shM_1 rfl ⟨rfl, Nat.le_of_ble_eq_true rfl⟩ rfl (Nat.le_of_ble_eq_true rfl) rfl dX7_moves_211 ?_
          exact tr_V.iret dX7_moves_214 rfl (fun h => h)
abbrev xX7_apart : tr_X := (cX7_apart, 7, RX7, (some .int), 4, shM, 24)
theorem cw_X7_apart : Cond.code yX7_apart cX7_apart 7 (some .int) ∈ tr_tbl := tr_in 1728 (by decide +kernel) rfl
theorem yk_X7_apart : tr_yk yX7_apart (xX7_apart) 2 := ⟨cw_X7_apart, in_X7, ⟨by decide +kernel, by decide +kernel, by decide +kernel⟩, Nat.le_of_ble_eq_true rfl⟩
theorem iv_X7_apart : Cond.instanceMethod yX7_apart ∈ tr_tbl ∧ Cond.selects (yX7_apart).cls yX7_apart yX7_apart ∈ tr_tbl := ⟨tr_in 1726 (by decide +kernel) rfl, tr_in 1727 (by decide +kernel) rfl⟩
def mX7_apart_l87  (s18 : Int32 × tr_M) : Option ((Int32 × tr_M) ⊕ (tr_M)) :=
  if s18.1 < (s18.2.1 1 10) then (
    Option.bind (tr_rd 10 s18.2 12 s18.1) (fun a19 =>
    Option.bind (tr_wr 10 s18.2 19 s18.1 a19) (fun M21 =>
    some (.inl ((s18.1 + (1 : Int32)), M21))
    )
    )
  ) else (
    some (.inr s18.2)
  )
def mX7_apart_l149 (c23 : Int32 × tr_M) (s25 : Int32 × Int32) (s26 : Int32 × Int32) : Option ((Int32 × Int32) ⊕ ((Int32 × Int32) ⊕ ((tr_M) ⊕ ((tr_M) ⊕ (Int32 × tr_M))))) :=
  if s26.2 < (c23.2.1 1 10) then (
    Option.bind (tr_rd 10 c23.2 19 s25.2) (fun a27 =>
    Option.bind (tr_rd 10 c23.2 13 a27) (fun a29 =>
    Option.bind (tr_rd 10 c23.2 19 s26.2) (fun a31 =>
    Option.bind (tr_rd 10 c23.2 13 a31) (fun a33 =>
    if a33 < a29 then (
      some (.inl ((s26.1 + (1 : Int32)), (s26.2 + (1 : Int32))))
    ) else (
      some (.inl ((s26.1 + (0 : Int32)), (s26.2 + (1 : Int32))))
    )
    )
    )
    )
    )
  ) else (
    some (.inr (.inl (s26.1, (s25.2 + (1 : Int32)))))
  )
def mX7_apart_l134 (c23 : Int32 × tr_M) (s25 : Int32 × Int32) : Option ((Int32 × Int32) ⊕ ((tr_M) ⊕ ((tr_M) ⊕ (Int32 × tr_M)))) :=
  if s25.2 < (c23.2.1 1 10) then (
    tr_loop (mX7_apart_l149 c23 s25) (s25.1, (s25.2 + (1 : Int32)))
  ) else (
    some (.inr (.inr (.inr (s25.1, c23.2))))
  )
def mX7_apart (p1 : Int32) (p2 : Int32) (M : tr_M) : Option (Int32 × tr_M) :=
  Option.bind (mX7_isRow p1) (fun c1 =>
  if c1 = 0 then (
    some ((-1 : Int32), M)
  ) else (
    Option.bind (mX7_isRow p2) (fun c3 =>
    if c3 = 0 then (
      some ((-1 : Int32), M)
    ) else (
      Option.bind (tr_rd 6 M 3 p1) (fun a5 =>
      Option.bind (show Option ((tr_M) ⊕ (Int32 × tr_M)) from
        if a5 < 0 then (
          some (.inl M)
        ) else (
          Option.bind (tr_rd 6 M 3 p2) (fun a8 =>
          if a8 < 0 then (
            some (.inl M)
          ) else (
            Option.bind (tr_rd 6 M 3 p1) (fun a10 =>
            Option.bind (show Option ((tr_M) ⊕ ((tr_M) ⊕ (Int32 × tr_M))) from
              if a10 = (M.1 1 10) then (
                Option.bind (tr_rd 6 M 3 p2) (fun a13 =>
                if a13 = (M.1 1 10) then (
                  Option.bind (mX7_needOrder p1 M) (fun c15 =>
                  if c15.1 < 0 then (
                    some (.inr (.inr (c15.1, c15.2)))
                  ) else (
                    Option.bind (show Option (tr_M) from
                      tr_loop (mX7_apart_l87) ((0 : Int32), c15.2)
                    ) (fun (v17 : tr_M) =>
                      Option.bind (mX7_needOrder p2 v17) (fun c23 =>
                      if c23.1 < 0 then (
                        some (.inr (.inr (c23.1, c23.2)))
                      ) else (
                        tr_loop (mX7_apart_l134 c23) ((0 : Int32), (0 : Int32))
                      )
                      )
                    )
                  )
                  )
                ) else (
                  some (.inl M)
                )
                )
              ) else (
                some (.inl M)
              )
            ) (tr_el (fun (v12 : tr_M) =>
              Option.bind (mX7_meets (5 : Int32) v12) (fun c35 =>
              some (.inr (c35.1, c35.2))
              )
            ))
            )
          )
          )
        )
      ) (tr_el (fun (v7 : tr_M) =>
        Option.bind (mX7_meets (1 : Int32) v7) (fun c37 =>
        some (c37.1, c37.2)
        )
      ))
      )
    )
    )
  )
  )
set_option maxRecDepth 100000 in
set_option maxHeartbeats 4000000 in
theorem C_X7_apart (p1 : Int32) (p2 : Int32) (M : tr_M) (r : Int32 × tr_M) (h : mX7_apart p1 p2 M = some r) : tr_I yX7_apart (xX7_apart) [.ref 1, .int p1, .int p2] M (some (.int r.1)) r.2 := by
  refine tr_I.of (Z := fun q : Int32 × tr_M => (some (.int r.1) : Option Value) = some (.int q.1) ∧ r.2 = q.2) pn_X7 rfl gdM (Nat.le_of_ble_eq_true rfl) (fun Wt => ?_) h ⟨rfl, rfl⟩
  unfold mX7_apart
  refine tr_V.iload_n (i := 1) dX7_apart_0 rfl rfl ?_
  refine tr_V.bd (fun c1 h2 => ?_)
  refine tr_V.callS (C_X7_isRow p1 M _ h2) yk_X7_isRow sc_X7_isRow ml_X7_102 ⟨rfl, Nat.le_of_ble_eq_true rfl⟩ rfl (Nat.le_of_ble_eq_true rfl) rfl dX7_apart_1 ?_
  refine tr_V.if_eq (tgt := 14) dX7_apart_4 (by decide) ?_ ?_
  · refine tr_V.iconst (v := (-1 : Int32)) dX7_apart_14 (by decide) ?_
    exact tr_V.iret dX7_apart_15 rfl (fun h => h)
  · refine tr_V.iload_n (i := 2) dX7_apart_7 rfl rfl ?_
    refine tr_V.bd (fun c3 h4 => ?_)
    refine tr_V.callS (C_X7_isRow p2 M _ h4) yk_X7_isRow sc_X7_isRow ml_X7_102 ⟨rfl, Nat.le_of_ble_eq_true rfl⟩ rfl (Nat.le_of_ble_eq_true rfl) rfl dX7_apart_8 ?_
    refine tr_V.if_ne (tgt := 16) dX7_apart_11 (by decide) ?_ ?_
    · refine tr_V.iconst (v := (-1 : Int32)) dX7_apart_14 (by decide) ?_
      exact tr_V.iret dX7_apart_15 rfl (fun h => h)
    · refine tr_V.aload_n (i := 0) dX7_apart_16 rfl rfl ?_
      refine tr_V.getR (Nat.succ_pos _) fl_X7_13 shM_1 rfl dX7_apart_17 ?_
      refine tr_V.iload_n (i := 1) dX7_apart_20 rfl rfl ?_
      refine tr_V.bd (fun a5 h6 => ?_)
      refine tr_V.iald h6 shM_3 dX7_apart_21 ?_
      refine tr_V.seqE (τ := tr_M) (pc' := 34) (L := fun v7 => [(0, some (.ref 1))]) (S := fun v7 => []) (Mf := fun v7 => v7) ?_ ?_
      · refine tr_V.if_lt (tgt := 34) dX7_apart_22 (by decide) ?_ ?_
        · exact tr_V.to (fun h => h) ⟨rfl, trivial⟩
        · refine tr_V.aload_n (i := 0) dX7_apart_25 rfl rfl ?_
          refine tr_V.getR (Nat.succ_pos _) fl_X7_13 shM_1 rfl dX7_apart_26 ?_
          refine tr_V.iload_n (i := 2) dX7_apart_29 rfl rfl ?_
          refine tr_V.bd (fun a8 h9 => ?_)
          refine tr_V.iald h9 shM_3 dX7_apart_30 ?_
          refine tr_V.if_ge (tgt := 40) dX7_apart_31 (by decide) ?_ ?_
          · exact tr_V.to (fun h => h) ⟨rfl, trivial⟩
          · refine tr_V.aload_n (i := 0) dX7_apart_40 rfl rfl ?_
            refine tr_V.getR (Nat.succ_pos _) fl_X7_13 shM_1 rfl dX7_apart_41 ?_
            refine tr_V.iload_n (i := 1) dX7_apart_44 rfl rfl ?_
            refine tr_V.bd (fun a10 h11 => ?_)
            refine tr_V.iald h11 shM_3 dX7_apart_45 ?_
            refine tr_V.aload_n (i := 0) dX7_apart_46 rfl rfl ?_
            refine tr_V.getI fl_X7_157 shM_1 rfl dX7_apart_47 ?_
            refine tr_V.seqE (τ := tr_M) (pc' := 66) (L := fun v12 => [(0, some (.ref 1))]) (S := fun v12 => []) (Mf := fun v12 => v12) ?_ ?_
            · refine tr_V.icmp_ne (tgt := 66) dX7_apart_50 (by decide) ?_ ?_
              · refine tr_V.aload_n (i := 0) dX7_apart_53 rfl rfl ?_
                refine tr_V.getR (Nat.succ_pos _) fl_X7_13 shM_1 rfl dX7_apart_54 ?_
                refine tr_V.iload_n (i := 2) dX7_apart_57 rfl rfl ?_
                refine tr_V.bd (fun a13 h14 => ?_)
                refine tr_V.iald h14 shM_3 dX7_apart_58 ?_
                refine tr_V.aload_n (i := 0) dX7_apart_59 rfl rfl ?_
                refine tr_V.getI fl_X7_157 shM_1 rfl dX7_apart_60 ?_
                refine tr_V.icmp_eq (tgt := 72) dX7_apart_63 (by decide) ?_ ?_
                · refine tr_V.aload_n (i := 0) dX7_apart_72 rfl rfl ?_
                  refine tr_V.iload_n (i := 1) dX7_apart_73 rfl rfl ?_
                  refine tr_V.bd (fun c15 h16 => ?_)
                  refine tr_V.callV (C_X7_needOrder p1 M _ h16) yk_X7_needOrder iv_X7_needOrder ml_X7_214 shM_1 rfl ⟨rfl, Nat.le_of_ble_eq_true rfl⟩ rfl (Nat.le_of_ble_eq_true rfl) rfl dX7_apart_74 ?_
                  refine tr_V.istore_n (i := 3) dX7_apart_77 rfl (Nat.le_of_ble_eq_true rfl) rfl ?_
                  refine tr_V.iload_n (i := 3) dX7_apart_78 rfl rfl ?_
                  refine tr_V.if_ge (tgt := 84) dX7_apart_79 (by decide) ?_ ?_
                  · refine tr_V.iload_n (i := 3) dX7_apart_82 rfl rfl ?_
                    exact tr_V.iret dX7_apart_83 rfl (fun h => h)
                  · refine tr_V.iconst (v := (0 : Int32)) dX7_apart_84 (by decide) ?_
                    refine tr_V.istore (i := 4) dX7_apart_85 (Nat.le_of_ble_eq_true rfl) rfl ?_
                    refine tr_V.seq (τ := tr_M) (pc' := 116) (L := fun v17 => [(0, some (.ref 1)), (2, some (.int p2))]) (S := fun v17 => []) (Mf := fun v17 => v17) ?_ ?_
                    · refine tr_V.loop (σ := Int32 × tr_M) (step := mX7_apart_l87) (L := fun s18 => [(0, some (.ref 1)), (2, some (.int p2)), (4, some (.int s18.1))]) (Mf := fun s18 => s18.2) ?_ ((0 : Int32), c15.2) ⟨rfl, rfl, rfl, trivial⟩
                      intro s18
                      refine tr_V.iload dX7_apart_87 rfl ?_
                      refine tr_V.aload_n (i := 0) dX7_apart_89 rfl rfl ?_
                      refine tr_V.getI fl_X7_157 shM_1 rfl dX7_apart_90 ?_
                      refine tr_V.icmp_ge (tgt := 116) dX7_apart_93 (by decide) ?_ ?_
                      · refine tr_V.aload_n (i := 0) dX7_apart_96 rfl rfl ?_
                        refine tr_V.getR (Nat.succ_pos _) fl_X7_62 shM_1 rfl dX7_apart_97 ?_
                        refine tr_V.iload dX7_apart_100 rfl ?_
                        refine tr_V.aload_n (i := 0) dX7_apart_102 rfl rfl ?_
                        refine tr_V.getR (Nat.succ_pos _) fl_X7_41 shM_1 rfl dX7_apart_103 ?_
                        refine tr_V.iload dX7_apart_106 rfl ?_
                        refine tr_V.bd (fun a19 h20 => ?_)
                        refine tr_V.iald h20 shM_12 dX7_apart_108 ?_
                        refine tr_V.bd (fun M21 h22 => ?_)
                        refine tr_V.iast h22 shM_19 dX7_apart_109 ?_
                        refine tr_V.iinc (cst := (1 : Int32)) dX7_apart_110 rfl (by decide) rfl ?_
                        refine tr_V.goto (tgt := 87) dX7_apart_113 (by decide) ?_
                        exact tr_V.to (fun h => h) ⟨rfl, rfl, rfl, trivial⟩
                      · exact tr_V.to (fun h => h) ⟨rfl, rfl, trivial⟩
                    · intro v17
                      refine tr_V.aload_n (i := 0) dX7_apart_116 rfl rfl ?_
                      refine tr_V.iload_n (i := 2) dX7_apart_117 rfl rfl ?_
                      refine tr_V.bd (fun c23 h24 => ?_)
                      refine tr_V.callV (C_X7_needOrder p2 v17 _ h24) yk_X7_needOrder iv_X7_needOrder ml_X7_214 shM_1 rfl ⟨rfl, Nat.le_of_ble_eq_true rfl⟩ rfl (Nat.le_of_ble_eq_true rfl) rfl dX7_apart_118 ?_
                      refine tr_V.istore_n (i := 3) dX7_apart_121 rfl (Nat.le_of_ble_eq_true rfl) rfl ?_
                      refine tr_V.iload_n (i := 3) dX7_apart_122 rfl rfl ?_
                      refine tr_V.if_ge (tgt := 128) dX7_apart_123 (by decide) ?_ ?_
                      · refine tr_V.iload_n (i := 3) dX7_apart_126 rfl rfl ?_
                        exact tr_V.iret dX7_apart_127 rfl (fun h => h)
                      · refine tr_V.iconst (v := (0 : Int32)) dX7_apart_128 (by decide) ?_
                        refine tr_V.istore (i := 4) dX7_apart_129 (Nat.le_of_ble_eq_true rfl) rfl ?_
                        refine tr_V.iconst (v := (0 : Int32)) dX7_apart_131 (by decide) ?_
                        refine tr_V.istore (i := 5) dX7_apart_132 (Nat.le_of_ble_eq_true rfl) rfl ?_
                        refine tr_V.loop (σ := Int32 × Int32) (step := mX7_apart_l134 c23) (L := fun s25 => [(0, some (.ref 1)), (4, some (.int s25.1)), (5, some (.int s25.2))]) (Mf := fun s25 => c23.2) ?_ ((0 : Int32), (0 : Int32)) ⟨rfl, rfl, rfl, trivial⟩
                        intro s25
                        refine tr_V.iload dX7_apart_134 rfl ?_
                        refine tr_V.aload_n (i := 0) dX7_apart_136 rfl rfl ?_
                        refine tr_V.getI fl_X7_157 shM_1 rfl dX7_apart_137 ?_
                        refine tr_V.icmp_ge (tgt := 207) dX7_apart_140 (by decide) ?_ ?_
                        · refine tr_V.iload dX7_apart_143 rfl ?_
                          refine tr_V.iconst (v := (1 : Int32)) dX7_apart_145 (by decide) ?_
                          refine tr_V.iadd dX7_apart_146 ?_
                          refine tr_V.istore (i := 6) dX7_apart_147 (Nat.le_of_ble_eq_true rfl) rfl ?_
                          refine tr_V.loop (σ := Int32 × Int32) (step := mX7_apart_l149 c23 s25) (L := fun s26 => [(0, some (.ref 1)), (4, some (.int s26.1)), (5, some (.int s25.2)), (6, some (.int s26.2))]) (Mf := fun s26 => c23.2) ?_ (s25.1, (s25.2 + (1 : Int32))) ⟨rfl, rfl, rfl, rfl, trivial⟩
                          intro s26
                          refine tr_V.iload dX7_apart_149 rfl ?_
                          refine tr_V.aload_n (i := 0) dX7_apart_151 rfl rfl ?_
                          refine tr_V.getI fl_X7_157 shM_1 rfl dX7_apart_152 ?_
                          refine tr_V.icmp_ge (tgt := 201) dX7_apart_155 (by decide) ?_ ?_
                          · refine tr_V.iload dX7_apart_158 rfl ?_
                            refine tr_V.aload_n (i := 0) dX7_apart_160 rfl rfl ?_
                            refine tr_V.getR (Nat.succ_pos _) fl_X7_44 shM_1 rfl dX7_apart_161 ?_
                            refine tr_V.aload_n (i := 0) dX7_apart_164 rfl rfl ?_
                            refine tr_V.getR (Nat.succ_pos _) fl_X7_62 shM_1 rfl dX7_apart_165 ?_
                            refine tr_V.iload dX7_apart_168 rfl ?_
                            refine tr_V.bd (fun a27 h28 => ?_)
                            refine tr_V.iald h28 shM_19 dX7_apart_170 ?_
                            refine tr_V.bd (fun a29 h30 => ?_)
                            refine tr_V.iald h30 shM_13 dX7_apart_171 ?_
                            refine tr_V.aload_n (i := 0) dX7_apart_172 rfl rfl ?_
                            refine tr_V.getR (Nat.succ_pos _) fl_X7_44 shM_1 rfl dX7_apart_173 ?_
                            refine tr_V.aload_n (i := 0) dX7_apart_176 rfl rfl ?_
                            refine tr_V.getR (Nat.succ_pos _) fl_X7_62 shM_1 rfl dX7_apart_177 ?_
                            refine tr_V.iload dX7_apart_180 rfl ?_
                            refine tr_V.bd (fun a31 h32 => ?_)
                            refine tr_V.iald h32 shM_19 dX7_apart_182 ?_
                            refine tr_V.bd (fun a33 h34 => ?_)
                            refine tr_V.iald h34 shM_13 dX7_apart_183 ?_
                            refine tr_V.icmp_le (tgt := 191) dX7_apart_184 (by decide) ?_ ?_
                            · refine tr_V.iconst (v := (1 : Int32)) dX7_apart_187 (by decide) ?_
                              refine tr_V.goto (tgt := 192) dX7_apart_188 (by decide) ?_
                              refine tr_V.iadd dX7_apart_192 ?_
                              refine tr_V.istore (i := 4) dX7_apart_193 (Nat.le_of_ble_eq_true rfl) rfl ?_
                              refine tr_V.iinc (cst := (1 : Int32)) dX7_apart_195 rfl (by decide) rfl ?_
                              refine tr_V.goto (tgt := 149) dX7_apart_198 (by decide) ?_
                              exact tr_V.to (fun h => h) ⟨rfl, rfl, rfl, rfl, trivial⟩
                            · refine tr_V.iconst (v := (0 : Int32)) dX7_apart_191 (by decide) ?_
                              refine tr_V.iadd dX7_apart_192 ?_
                              refine tr_V.istore (i := 4) dX7_apart_193 (Nat.le_of_ble_eq_true rfl) rfl ?_
                              refine tr_V.iinc (cst := (1 : Int32)) dX7_apart_195 rfl (by decide) rfl ?_
                              refine tr_V.goto (tgt := 149) dX7_apart_198 (by decide) ?_
                              exact tr_V.to (fun h => h) ⟨rfl, rfl, rfl, rfl, trivial⟩
                          · refine tr_V.iinc (cst := (1 : Int32)) dX7_apart_201 rfl (by decide) rfl ?_
                            refine tr_V.goto (tgt := 134) dX7_apart_204 (by decide) ?_
                            exact tr_V.to (fun h => h) ⟨rfl, rfl, rfl, trivial⟩
                        · refine tr_V.iload dX7_apart_207 rfl ?_
                          exact tr_V.iret dX7_apart_209 rfl (fun h => h)
                · exact tr_V.to (fun h => h) ⟨rfl, trivial⟩
              · exact tr_V.to (fun h => h) ⟨rfl, trivial⟩
            · intro v12
              refine tr_V.aload_n (i := 0) dX7_apart_66 rfl rfl ?_
              refine tr_V.iconst (v := (5 : Int32)) dX7_apart_67 (by decide) ?_
              refine tr_V.bd (fun c35 h36 => ?_)
              refine tr_V.callV (C_X7_meets (5 : Int32) v12 _ h36) yk_X7_meets iv_X7_meets ml_X7_106 shM_1 rfl ⟨rfl, Nat.le_of_ble_eq_true rfl⟩ rfl (Nat.le_of_ble_eq_true rfl) rfl dX7_apart_68 ?_
              exact tr_V.iret dX7_apart_71 rfl (fun h => h)
      · intro v7
        refine tr_V.aload_n (i := 0) dX7_apart_34 rfl rfl ?_
        refine tr_V.iconst (v := (1 : Int32)) dX7_apart_35 (by decide) ?_
        refine tr_V.bd (fun c37 h38 => ?_)
        refine tr_V.callV (C_X7_meets (1 : Int32) v7 _ h38) yk_X7_meets iv_X7_meets ml_X7_106 shM_1 rfl ⟨rfl, Nat.le_of_ble_eq_true rfl⟩ rfl (Nat.le_of_ble_eq_true rfl) rfl dX7_apart_36 ?_
        exact tr_V.iret dX7_apart_39 rfl (fun h => h)
abbrev xX7_isSeed : tr_X := (cX7_isSeed, 1, RX7, (some .boolean), 2, shM, 24)
theorem cw_X7_isSeed : Cond.code yX7_isSeed cX7_isSeed 1 (some .boolean) ∈ tr_tbl := tr_in 1735 (by decide +kernel) rfl
theorem yk_X7_isSeed : tr_yk yX7_isSeed (xX7_isSeed) 1 := ⟨cw_X7_isSeed, in_X7, ⟨by decide +kernel, by decide +kernel, by decide +kernel⟩, Nat.le_of_ble_eq_true rfl⟩
theorem sc_X7_isSeed : Cond.static yX7_isSeed ∈ tr_tbl := tr_in 1734 (by decide +kernel) rfl
def mX7_isSeed (p0 : Int32) : Option (Int32) :=
  Option.bind (tr_gd ((mX7_in p0 (1 : Int32) (2147483646 : Int32)) &&& 1 == (mX7_in p0 (1 : Int32) (2147483646 : Int32)))) (fun _ => some (mX7_in p0 (1 : Int32) (2147483646 : Int32)))
set_option maxRecDepth 100000 in
set_option maxHeartbeats 4000000 in
theorem C_X7_isSeed (p0 : Int32) (M : tr_M) (r : Int32) (h : mX7_isSeed p0 = some r) : tr_I yX7_isSeed (xX7_isSeed) [.int p0] M (some (.int r)) M := by
  refine tr_I.of (Z := fun q : Int32 => (some (.int r) : Option Value) = some (.int q) ∧ M = M) pn_X7 rfl gdM (Nat.le_of_ble_eq_true rfl) (fun Wt => ?_) h ⟨rfl, rfl⟩
  unfold mX7_isSeed
  refine tr_V.iload_n (i := 0) dX7_isSeed_0 rfl rfl ?_
  refine tr_V.iconst (v := (1 : Int32)) dX7_isSeed_1 (by decide) ?_
  refine tr_V.ldcw ct_X7_373 dX7_isSeed_2 ?_
  refine tr_V.callS (C_X7_in p0 (1 : Int32) (2147483646 : Int32) M) yk_X7_in sc_X7_in ml_X7_92 ⟨rfl, Nat.le_of_ble_eq_true rfl⟩ rfl (Nat.le_of_ble_eq_true rfl) rfl dX7_isSeed_5 ?_
  refine tr_V.gd (fun h3 => ?_)
  exact tr_V.zret h3 dX7_isSeed_8 rfl (fun h => h)
