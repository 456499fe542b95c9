abbrev xX7_mark : tr_X := (cX7_mark, 7, RX7, (some .int), 3, shM, 24)
theorem cw_X7_mark : Cond.code yX7_mark cX7_mark 7 (some .int) ∈ tr_tbl := tr_in 1422 (by decide +kernel) rfl
theorem yk_X7_mark : tr_yk yX7_mark (xX7_mark) 2 := ⟨cw_X7_mark, in_X7, ⟨by decide +kernel, by decide +kernel, by decide +kernel⟩, Nat.le_of_ble_eq_true rfl⟩
theorem iv_X7_mark : Cond.instanceMethod yX7_mark ∈ tr_tbl ∧ Cond.selects (yX7_mark).cls yX7_mark yX7_mark ∈ tr_tbl := ⟨tr_in 1420 (by decide +kernel) rfl, tr_in 1421 (by decide +kernel) rfl⟩
def mX7_mark (p1 : Int32) (p2 : Int32) (M : tr_M) : Option (Int32 × tr_M) :=
  Option.bind (mX7_isRule p1 M) (fun c1 =>
  if c1 = 0 then (
    some ((-1 : Int32), M)
  ) else (
    if (mX7_in p2 (1 : Int32) (6 : Int32)) = 0 then (
      some ((-1 : Int32), M)
    ) else (
      Option.bind (mX7_ruleAt p1 (0 : Int32) M) (fun c5 =>
      Option.bind (mX7_ruleAt p1 (1 : Int32) M) (fun c7 =>
      Option.bind (mX7_ruleAt p1 (2 : Int32) M) (fun c9 =>
      Option.bind (mX7_ruleAt p1 (3 : Int32) M) (fun c11 =>
      Option.bind (show Option ((tr_M) ⊕ (Int32 × tr_M)) from
        if c5 = p2 then (
          some (.inl M)
        ) else (
          Option.bind (show Option ((Unit) ⊕ ((tr_M) ⊕ (Int32 × tr_M))) from
            if p2 = (1 : Int32) then (
              if c5 = (2 : Int32) then (
                some (.inr (.inl M))
              ) else (
                some (.inl ())
              )
            ) else (
              some (.inl ())
            )
          ) (tr_el (fun (v14 : Unit) =>
            Option.bind (show Option ((Unit) ⊕ ((tr_M) ⊕ (Int32 × tr_M))) from
              if p2 = (5 : Int32) then (
                if c5 = (6 : Int32) then (
                  some (.inr (.inl M))
                ) else (
                  some (.inl ())
                )
              ) else (
                some (.inl ())
              )
            ) (tr_el (fun (v15 : Unit) =>
              Option.bind (mX7_meets (3 : Int32) M) (fun c16 =>
              some (.inr (c16.1, c16.2))
              )
            ))
          ))
        )
      ) (tr_el (fun (v13 : tr_M) =>
        if p2 = (1 : Int32) then (
          some (c7, v13)
        ) else (
        if p2 = (2 : Int32) then (
          some (c9, v13)
        ) else (
        if p2 = (3 : Int32) then (
          some (c9, v13)
        ) else (
        if p2 = (4 : Int32) then (
          some ((mX7_lesser c9 ((v13.1 1 10) - (1 : Int32))), v13)
        ) else (
        if p2 = (5 : Int32) then (
          if c5 = (6 : Int32) then (
            some ((mX7_lesser c9 c11), v13)
          ) else (
            some ((mX7_lesser c7 c9), v13)
          )
        ) else (
          some (c7, v13)
        )))))
      ))
      )
      )
      )
      )
    )
  )
  )
set_option maxRecDepth 100000 in
set_option maxHeartbeats 4000000 in
theorem C_X7_mark (p1 : Int32) (p2 : Int32) (M : tr_M) (r : Int32 × tr_M) (h : mX7_mark p1 p2 M = some r) : tr_I yX7_mark (xX7_mark) [.ref 1, .int p1, .int p2] M (some (.int r.1)) r.2 := by
  refine tr_I.of (Z := fun q : Int32 × tr_M => (some (.int r.1) : Option Value) = some (.int q.1) ∧ r.2 = q.2) pn_X7 rfl gdM (Nat.le_of_ble_eq_true rfl) (fun Wt => ?_) h ⟨rfl, rfl⟩
  unfold mX7_mark
  refine tr_V.aload_n (i := 0) dX7_mark_0 rfl rfl ?_
  refine tr_V.iload_n (i := 1) dX7_mark_1 rfl rfl ?_
  refine tr_V.bd (fun c1 h2 => ?_)
  refine tr_V.callV (C_X7_isRule p1 M _ h2) yk_X7_isRule iv_X7_isRule ml_X7_177 shM_1 rfl ⟨rfl, Nat.le_of_ble_eq_true rfl⟩ rfl (Nat.le_of_ble_eq_true rfl) rfl dX7_mark_2 ?_
  refine tr_V.if_eq (tgt := 18) dX7_mark_5 (by decide) ?_ ?_
  · refine tr_V.iconst (v := (-1 : Int32)) dX7_mark_18 (by decide) ?_
    exact tr_V.iret dX7_mark_19 rfl (fun h => h)
  · refine tr_V.iload_n (i := 2) dX7_mark_8 rfl rfl ?_
    refine tr_V.iconst (v := (1 : Int32)) dX7_mark_9 (by decide) ?_
    refine tr_V.bipush (v := (6 : Int32)) dX7_mark_10 (by decide) ?_
    refine tr_V.callS (C_X7_in p2 (1 : Int32) (6 : Int32) M) yk_X7_in sc_X7_in ml_X7_92 ⟨rfl, Nat.le_of_ble_eq_true rfl⟩ rfl (Nat.le_of_ble_eq_true rfl) rfl dX7_mark_12 ?_
    refine tr_V.if_ne (tgt := 20) dX7_mark_15 (by decide) ?_ ?_
    · refine tr_V.iconst (v := (-1 : Int32)) dX7_mark_18 (by decide) ?_
      exact tr_V.iret dX7_mark_19 rfl (fun h => h)
    · refine tr_V.aload_n (i := 0) dX7_mark_20 rfl rfl ?_
      refine tr_V.iload_n (i := 1) dX7_mark_21 rfl rfl ?_
      refine tr_V.iconst (v := (0 : Int32)) dX7_mark_22 (by decide) ?_
      refine tr_V.bd (fun c5 h6 => ?_)
      refine tr_V.callV (C_X7_ruleAt p1 (0 : Int32) M _ h6) yk_X7_ruleAt iv_X7_ruleAt ml_X7_180 shM_1 rfl ⟨rfl, Nat.le_of_ble_eq_true rfl⟩ rfl (Nat.le_of_ble_eq_true rfl) rfl dX7_mark_23 ?_
      refine tr_V.istore_n (i := 3) dX7_mark_26 rfl (Nat.le_of_ble_eq_true rfl) rfl ?_
      refine tr_V.aload_n (i := 0) dX7_mark_27 rfl rfl ?_
      refine tr_V.iload_n (i := 1) dX7_mark_28 rfl rfl ?_
      refine tr_V.iconst (v := (1 : Int32)) dX7_mark_29 (by decide) ?_
      refine tr_V.bd (fun c7 h8 => ?_)
      refine tr_V.callV (C_X7_ruleAt p1 (1 : Int32) M _ h8) yk_X7_ruleAt iv_X7_ruleAt ml_X7_180 shM_1 rfl ⟨rfl, Nat.le_of_ble_eq_true rfl⟩ rfl (Nat.le_of_ble_eq_true rfl) rfl dX7_mark_30 ?_
      refine tr_V.istore (i := 4) dX7_mark_33 (Nat.le_of_ble_eq_true rfl) rfl ?_
      refine tr_V.aload_n (i := 0) dX7_mark_35 rfl rfl ?_
      refine tr_V.iload_n (i := 1) dX7_mark_36 rfl rfl ?_
      refine tr_V.iconst (v := (2 : Int32)) dX7_mark_37 (by decide) ?_
      refine tr_V.bd (fun c9 h10 => ?_)
      refine tr_V.callV (C_X7_ruleAt p1 (2 : Int32) M _ h10) yk_X7_ruleAt iv_X7_ruleAt ml_X7_180 shM_1 rfl ⟨rfl, Nat.le_of_ble_eq_true rfl⟩ rfl (Nat.le_of_ble_eq_true rfl) rfl dX7_mark_38 ?_
      refine tr_V.istore (i := 5) dX7_mark_41 (Nat.le_of_ble_eq_true rfl) rfl ?_
      refine tr_V.aload_n (i := 0) dX7_mark_43 rfl rfl ?_
      refine tr_V.iload_n (i := 1) dX7_mark_44 rfl rfl ?_
      refine tr_V.iconst (v := (3 : Int32)) dX7_mark_45 (by decide) ?_
      refine tr_V.bd (fun c11 h12 => ?_)
      refine tr_V.callV (C_X7_ruleAt p1 (3 : Int32) M _ h12) yk_X7_ruleAt iv_X7_ruleAt ml_X7_180 shM_1 rfl ⟨rfl, Nat.le_of_ble_eq_true rfl⟩ rfl (Nat.le_of_ble_eq_true rfl) rfl dX7_mark_46 ?_
      refine tr_V.istore (i := 6) dX7_mark_49 (Nat.le_of_ble_eq_true rfl) rfl ?_
      refine tr_V.iload_n (i := 3) dX7_mark_51 rfl rfl ?_
      refine tr_V.iload_n (i := 2) dX7_mark_52 rfl rfl ?_
      refine tr_V.seqE (τ := tr_M) (pc' := 83) (L := fun v13 => [(0, some (.ref 1)), (2, some (.int p2)), (3, some (.int c5)), (4, some (.int c7)), (5, some (.int c9)), (6, some (.int c11))]) (S := fun v13 => []) (Mf := fun v13 => v13) ?_ ?_
      · refine tr_V.icmp_eq (tgt := 83) dX7_mark_53 (by decide) ?_ ?_
        · exact tr_V.to (fun h => h) ⟨rfl, rfl, rfl, rfl, rfl, rfl, trivial⟩
        · refine tr_V.iload_n (i := 2) dX7_mark_56 rfl rfl ?_
          refine tr_V.iconst (v := (1 : Int32)) dX7_mark_57 (by decide) ?_
          refine tr_V.seqE (τ := Unit) (pc' := 66) (L := fun v14 => [(0, some (.ref 1)), (2, some (.int p2)), (3, some (.int c5)), (4, some (.int c7)), (5, some (.int c9)), (6, some (.int c11))]) (S := fun v14 => []) (Mf := fun v14 => M) ?_ ?_
          · refine tr_V.icmp_ne (tgt := 66) dX7_mark_58 (by decide) ?_ ?_
            · refine tr_V.iload_n (i := 3) dX7_mark_61 rfl rfl ?_
              refine tr_V.iconst (v := (2 : Int32)) dX7_mark_62 (by decide) ?_
              refine tr_V.icmp_eq (tgt := 83) dX7_mark_63 (by decide) ?_ ?_
              · exact tr_V.to (fun h => h) ⟨rfl, rfl, rfl, rfl, rfl, rfl, trivial⟩
              · exact tr_V.to (fun h => h) ⟨rfl, rfl, rfl, rfl, rfl, rfl, trivial⟩
            · exact tr_V.to (fun h => h) ⟨rfl, rfl, rfl, rfl, rfl, rfl, trivial⟩
          · intro v14
            refine tr_V.iload_n (i := 2) dX7_mark_66 rfl rfl ?_
            refine tr_V.iconst (v := (5 : Int32)) dX7_mark_67 (by decide) ?_
            refine tr_V.seqE (τ := Unit) (pc' := 77) (L := fun v15 => [(0, some (.ref 1))]) (S := fun v15 => []) (Mf := fun v15 => M) ?_ ?_
            · refine tr_V.icmp_ne (tgt := 77) dX7_mark_68 (by decide) ?_ ?_
              · refine tr_V.iload_n (i := 3) dX7_mark_71 rfl rfl ?_
                refine tr_V.bipush (v := (6 : Int32)) dX7_mark_72 (by decide) ?_
                refine tr_V.icmp_eq (tgt := 83) dX7_mark_74 (by decide) ?_ ?_
                · exact tr_V.to (fun h => h) ⟨rfl, rfl, rfl, rfl, rfl, rfl, trivial⟩
                · exact tr_V.to (fun h => h) ⟨rfl, trivial⟩
              · exact tr_V.to (fun h => h) ⟨rfl, trivial⟩
            · intro v15
              refine tr_V.aload_n (i := 0) dX7_mark_77 rfl rfl ?_
              refine tr_V.iconst (v := (3 : Int32)) dX7_mark_78 (by decide) ?_
              refine tr_V.bd (fun c16 h17 => ?_)
              refine tr_V.callV (C_X7_meets (3 : Int32) M _ h17) yk_X7_meets iv_X7_meets ml_X7_106 shM_1 rfl ⟨rfl, Nat.le_of_ble_eq_true rfl⟩ rfl (Nat.le_of_ble_eq_true rfl) rfl dX7_mark_79 ?_
              exact tr_V.iret dX7_mark_82 rfl (fun h => h)
      · intro v13
        refine tr_V.iload_n (i := 2) dX7_mark_83 rfl rfl ?_
        refine tr_V.case (k := (1 : Int32)) (fun c18 => ?_) (fun c18 => ?_)
        · refine tr_V.tableIn (tgt := 120) dX7_mark_84 c18 (by decide) rfl (by decide) ?_
          refine tr_V.iload dX7_mark_120 rfl ?_
          exact tr_V.iret dX7_mark_122 rfl (fun h => h)
        · refine tr_V.case (k := (2 : Int32)) (fun c19 => ?_) (fun c19 => ?_)
          · refine tr_V.tableIn (tgt := 123) dX7_mark_84 c19 (by decide) rfl (by decide) ?_
            refine tr_V.iload dX7_mark_123 rfl ?_
            exact tr_V.iret dX7_mark_125 rfl (fun h => h)
          · refine tr_V.case (k := (3 : Int32)) (fun c20 => ?_) (fun c20 => ?_)
            · refine tr_V.tableIn (tgt := 126) dX7_mark_84 c20 (by decide) rfl (by decide) ?_
              refine tr_V.iload dX7_mark_126 rfl ?_
              exact tr_V.iret dX7_mark_128 rfl (fun h => h)
            · refine tr_V.case (k := (4 : Int32)) (fun c23 => ?_) (fun c23 => ?_)
              · refine tr_V.tableIn (tgt := 129) dX7_mark_84 c23 (by decide) rfl (by decide) ?_
                refine tr_V.iload dX7_mark_129 rfl ?_
                refine tr_V.aload_n (i := 0) dX7_mark_131 rfl rfl ?_
                refine tr_V.getI fl_X7_157 shM_1 rfl dX7_mark_132 ?_
                refine tr_V.iconst (v := (1 : Int32)) dX7_mark_135 (by decide) ?_
                refine tr_V.isub dX7_mark_136 ?_
                refine tr_V.callS (C_X7_lesser c9 ((v13.1 1 10) - (1 : Int32)) v13) yk_X7_lesser sc_X7_lesser ml_X7_183 ⟨rfl, Nat.le_of_ble_eq_true rfl⟩ rfl (Nat.le_of_ble_eq_true rfl) rfl dX7_mark_137 ?_
                exact tr_V.iret dX7_mark_140 rfl (fun h => h)
              · refine tr_V.case (k := (5 : Int32)) (fun c28 => ?_) (fun c28 => ?_)
                · refine tr_V.tableIn (tgt := 141) dX7_mark_84 c28 (by decide) rfl (by decide) ?_
                  refine tr_V.iload_n (i := 3) dX7_mark_141 rfl rfl ?_
                  refine tr_V.bipush (v := (6 : Int32)) dX7_mark_142 (by decide) ?_
                  refine tr_V.icmp_ne (tgt := 157) dX7_mark_144 (by decide) ?_ ?_
                  · refine tr_V.iload dX7_mark_147 rfl ?_
                    refine tr_V.iload dX7_mark_149 rfl ?_
                    refine tr_V.callS (C_X7_lesser c9 c11 v13) yk_X7_lesser sc_X7_lesser ml_X7_183 ⟨rfl, Nat.le_of_ble_eq_true rfl⟩ rfl (Nat.le_of_ble_eq_true rfl) rfl dX7_mark_151 ?_
                    refine tr_V.goto (tgt := 164) dX7_mark_154 (by decide) ?_
                    exact tr_V.iret dX7_mark_164 rfl (fun h => h)
                  · refine tr_V.iload dX7_mark_157 rfl ?_
                    refine tr_V.iload dX7_mark_159 rfl ?_
                    refine tr_V.callS (C_X7_lesser c7 c9 v13) yk_X7_lesser sc_X7_lesser ml_X7_183 ⟨rfl, Nat.le_of_ble_eq_true rfl⟩ rfl (Nat.le_of_ble_eq_true rfl) rfl dX7_mark_161 ?_
                    exact tr_V.iret dX7_mark_164 rfl (fun h => h)
                · refine tr_V.tableOut (tgt := 165) dX7_mark_84 (by have := lv_neT c18 (a := 1) (by decide); have := lv_neT c19 (a := 2) (by decide); have := lv_neT c20 (a := 3) (by decide); have := lv_neT c23 (a := 4) (by decide); have := lv_neT c28 (a := 5) (by decide); omega) (by decide) ?_
                  refine tr_V.iload dX7_mark_165 rfl ?_
                  exact tr_V.iret dX7_mark_167 rfl (fun h => h)
abbrev xX7_layPlaces : tr_X := (cX7_layPlaces, 2, RX7, (Option.none : Option Jvm.ClassFile.FieldType), 1, shM, 24)
theorem cw_X7_layPlaces : Cond.code yX7_layPlaces cX7_layPlaces 2 (Option.none : Option Jvm.ClassFile.FieldType) ∈ tr_tbl := tr_in 1443 (by decide +kernel) rfl
theorem yk_X7_layPlaces : tr_yk yX7_layPlaces (xX7_layPlaces) 0 := ⟨cw_X7_layPlaces, in_X7, ⟨by decide +kernel, by decide +kernel, by decide +kernel⟩, Nat.le_of_ble_eq_true rfl⟩
theorem iv_X7_layPlaces : Cond.instanceMethod yX7_layPlaces ∈ tr_tbl ∧ Cond.selects (yX7_layPlaces).cls yX7_layPlaces yX7_layPlaces ∈ tr_tbl := ⟨tr_in 1442 (by decide +kernel) rfl, tr_in 75 (by decide +kernel) rfl⟩
def mX7_layPlaces_l2  (s1 : Int32 × tr_M) : Option ((Int32 × tr_M) ⊕ (tr_M)) :=
  if s1.1 < (s1.2.1 1 10) then (
    Option.bind (tr_rd 10 s1.2 12 s1.1) (fun a2 =>
    Option.bind (tr_wr 10 s1.2 13 a2 s1.1) (fun M4 =>
    some (.inl ((s1.1 + (1 : Int32)), M4))
    )
    )
  ) else (
    some (.inr s1.2)
  )
def mX7_layPlaces  (M : tr_M) : Option (tr_M) :=
  tr_loop (mX7_layPlaces_l2) ((0 : Int32), M)
set_option maxRecDepth 100000 in
set_option maxHeartbeats 4000000 in
theorem C_X7_layPlaces  (M M' : tr_M) (h : mX7_layPlaces M = some M') : tr_I yX7_layPlaces (xX7_layPlaces) [.ref 1] M none M' := by
  refine tr_I.of (Z := fun q : tr_M => (none : Option Value) = none ∧ M' = q) pn_X7 rfl gdM (Nat.le_of_ble_eq_true rfl) (fun Wt => ?_) h ⟨rfl, rfl⟩
  unfold mX7_layPlaces
  refine tr_V.iconst (v := (0 : Int32)) dX7_layPlaces_0 (by decide) ?_
  refine tr_V.istore_n (i := 1) dX7_layPlaces_1 rfl (Nat.le_of_ble_eq_true rfl) rfl ?_
  refine tr_V.loop (σ := Int32 × tr_M) (step := mX7_layPlaces_l2) (L := fun s1 => [(0, some (.ref 1)), (1, some (.int s1.1))]) (Mf := fun s1 => s1.2) ?_ ((0 : Int32), M) ⟨rfl, rfl, trivial⟩
  intro s1
  refine tr_V.iload_n (i := 1) dX7_layPlaces_2 rfl rfl ?_
  refine tr_V.aload_n (i := 0) dX7_layPlaces_3 rfl rfl ?_
  refine tr_V.getI fl_X7_157 shM_1 rfl dX7_layPlaces_4 ?_
  refine tr_V.icmp_ge (tgt := 28) dX7_layPlaces_7 (by decide) ?_ ?_
  · refine tr_V.aload_n (i := 0) dX7_layPlaces_10 rfl rfl ?_
    refine tr_V.getR (Nat.succ_pos _) fl_X7_44 shM_1 rfl dX7_layPlaces_11 ?_
    refine tr_V.aload_n (i := 0) dX7_layPlaces_14 rfl rfl ?_
    refine tr_V.getR (Nat.succ_pos _) fl_X7_41 shM_1 rfl dX7_layPlaces_15 ?_
    refine tr_V.iload_n (i := 1) dX7_layPlaces_18 rfl rfl ?_
    refine tr_V.bd (fun a2 h3 => ?_)
    refine tr_V.iald h3 shM_12 dX7_layPlaces_19 ?_
    refine tr_V.iload_n (i := 1) dX7_layPlaces_20 rfl rfl ?_
    refine tr_V.bd (fun M4 h5 => ?_)
    refine tr_V.iast h5 shM_13 dX7_layPlaces_21 ?_
    refine tr_V.iinc (cst := (1 : Int32)) dX7_layPlaces_22 rfl (by decide) rfl ?_
    refine tr_V.goto (tgt := 2) dX7_layPlaces_25 (by decide) ?_
    exact tr_V.to (fun h => h) ⟨rfl, rfl, trivial⟩
  · exact tr_V.vret dX7_layPlaces_28 rfl (fun h => h)
abbrev xX7_needOrder : tr_X := (cX7_needOrder, 6, RX7, (some .int), 3, shM, 24)
theorem cw_X7_needOrder : Cond.code yX7_needOrder cX7_needOrder 6 (some .int) ∈ tr_tbl := tr_in 1436 (by decide +kernel) rfl
theorem yk_X7_needOrder : tr_yk yX7_needOrder (xX7_needOrder) 1 := ⟨cw_X7_needOrder, in_X7, ⟨by decide +kernel, by decide +kernel, by decide +kernel⟩, Nat.le_of_ble_eq_true rfl⟩
theorem iv_X7_needOrder : Cond.instanceMethod yX7_needOrder ∈ tr_tbl ∧ Cond.selects (yX7_needOrder).cls yX7_needOrder yX7_needOrder ∈ tr_tbl := ⟨tr_in 1435 (by decide +kernel) rfl, tr_in 74 (by decide +kernel) rfl⟩
def mX7_needOrder_l41 (p1 : Int32) (M : tr_M) (s8 : Int32 × Int32 × Int32) : Option ((Int32 × Int32 × Int32) ⊕ (Int32)) :=
  if s8.2.2 < (M.1 1 10) then (
    Option.bind (mX7_rowAt p1 s8.2.2 M) (fun c9 =>
    Option.bind (show Option (Int32) from
      if s8.2.1 = 0 then (
        some (0 : Int32)
      ) else (
        Option.bind (mX7_isThing c9 M) (fun c12 =>
        if c12 = 0 then (
          some (0 : Int32)
        ) else (
          if (mX7_has s8.1 c9) = 0 then (
            some (1 : Int32)
          ) else (
            some (0 : Int32)
          )
        )
        )
      )
    ) (fun (v11 : Int32) =>
      if v11 = 0 then (
        some (.inl ((s8.1 ||| (0 : Int32)), v11, (s8.2.2 + (1 : Int32))))
      ) else (
        some (.inl ((s8.1 ||| ((1 : Int32) <<< (c9 &&& 31))), v11, (s8.2.2 + (1 : Int32))))
      )
    )
    )
  ) else (
    some (.inr s8.2.1)
  )
def mX7_needOrder_l121 (p1 : Int32) (s19 : Int32 × tr_M) : Option ((Int32 × tr_M) ⊕ (tr_M)) :=
  if s19.1 < (s19.2.1 1 10) then (
    Option.bind (mX7_rowAt p1 s19.1 s19.2) (fun c20 =>
    Option.bind (tr_wr 10 s19.2 12 s19.1 c20) (fun M22 =>
    some (.inl ((s19.1 + (1 : Int32)), M22))
    )
    )
  ) else (
    some (.inr s19.2)
  )
def mX7_needOrder (p1 : Int32) (M : tr_M) : Option (Int32 × tr_M) :=
  Option.bind (tr_rd 6 M 3 p1) (fun a1 =>
  if a1 < 0 then (
    Option.bind (mX7_meets (1 : Int32) M) (fun c3 =>
    some (c3.1, c3.2)
    )
  ) else (
    Option.bind (tr_rd 6 M 3 p1) (fun a5 =>
    if a5 = (M.1 1 10) then (
      Option.bind (show Option (Int32) from
        tr_loop (mX7_needOrder_l41 p1 M) ((0 : Int32), (1 : Int32), (0 : Int32))
      ) (fun (v7 : Int32) =>
        if v7 = 0 then (
          Option.bind (mX7_meets (3 : Int32) M) (fun c16 =>
          some (c16.1, c16.2)
          )
        ) else (
          Option.bind (show Option (tr_M) from
            tr_loop (mX7_needOrder_l121 p1) ((0 : Int32), M)
          ) (fun (v18 : tr_M) =>
            Option.bind (mX7_layPlaces v18) (fun c24 =>
            some ((0 : Int32), c24)
            )
          )
        )
      )
    ) else (
      Option.bind (mX7_meets (5 : Int32) M) (fun c26 =>
      some (c26.1, c26.2)
      )
    )
    )
  )
  )
set_option maxRecDepth 100000 in
set_option maxHeartbeats 4000000 in
theorem C_X7_needOrder (p1 : Int32) (M : tr_M) (r : Int32 × tr_M) (h : mX7_needOrder p1 M = some r) : tr_I yX7_needOrder (xX7_needOrder) [.ref 1, .int p1] M (some (.int r.1)) r.2 := by
  refine tr_I.of (Z := fun q : Int32 × tr_M => (some (.int r.1) : Option Value) = some (.int q.1) ∧ r.2 = q.2) pn_X7 rfl gdM (Nat.le_of_ble_eq_true rfl) (fun Wt => ?_) h ⟨rfl, rfl⟩
  unfold mX7_needOrder
  refine tr_V.aload_n (i := 0) dX7_needOrder_0 rfl rfl ?_
  refine tr_V.getR (Nat.succ_pos _) fl_X7_13 shM_1 rfl dX7_needOrder_1 ?_
  refine tr_V.iload_n (i := 1) dX7_needOrder_4 rfl rfl ?_
  refine tr_V.bd (fun a1 h2 => ?_)
  refine tr_V.iald h2 shM_3 dX7_needOrder_5 ?_
  refine tr_V.if_ge (tgt := 15) dX7_needOrder_6 (by decide) ?_ ?_
  · refine tr_V.aload_n (i := 0) dX7_needOrder_9 rfl rfl ?_
    refine tr_V.iconst (v := (1 : Int32)) dX7_needOrder_10 (by decide) ?_
    refine tr_V.bd (fun c3 h4 => ?_)
    refine tr_V.callV (C_X7_meets (1 : Int32) M _ h4) yk_X7_meets iv_X7_meets ml_X7_106 shM_1 rfl ⟨rfl, Nat.le_of_ble_eq_true rfl⟩ rfl (Nat.le_of_ble_eq_true rfl) rfl dX7_needOrder_11 ?_
    exact tr_V.iret dX7_needOrder_14 rfl (fun h => h)
  · refine tr_V.aload_n (i := 0) dX7_needOrder_15 rfl rfl ?_
    refine tr_V.getR (Nat.succ_pos _) fl_X7_13 shM_1 rfl dX7_needOrder_16 ?_
    refine tr_V.iload_n (i := 1) dX7_needOrder_19 rfl rfl ?_
    refine tr_V.bd (fun a5 h6 => ?_)
    refine tr_V.iald h6 shM_3 dX7_needOrder_20 ?_
    refine tr_V.aload_n (i := 0) dX7_needOrder_21 rfl rfl ?_
    refine tr_V.getI fl_X7_157 shM_1 rfl dX7_needOrder_22 ?_
    refine tr_V.icmp_eq (tgt := 34) dX7_needOrder_25 (by decide) ?_ ?_
    · refine tr_V.iconst (v := (0 : Int32)) dX7_needOrder_34 (by decide) ?_
      refine tr_V.istore_n (i := 2) dX7_needOrder_35 rfl (Nat.le_of_ble_eq_true rfl) rfl ?_
      refine tr_V.iconst (v := (1 : Int32)) dX7_needOrder_36 (by decide) ?_
      refine tr_V.istore_n (i := 3) dX7_needOrder_37 rfl (Nat.le_of_ble_eq_true rfl) rfl ?_
      refine tr_V.iconst (v := (0 : Int32)) dX7_needOrder_38 (by decide) ?_
      refine tr_V.istore (i := 4) dX7_needOrder_39 (Nat.le_of_ble_eq_true rfl) rfl ?_
      refine tr_V.seq (τ := Int32) (pc' := 108) (L := fun v7 => [(0, some (.ref 1)), (1, some (.int p1)), (3, some (.int v7))]) (S := fun v7 => []) (Mf := fun v7 => M) ?_ ?_
      · refine tr_V.loop (σ := Int32 × Int32 × Int32) (step := mX7_needOrder_l41 p1 M) (L := fun s8 => [(0, some (.ref 1)), (1, some (.int p1)), (2, some (.int s8.1)), (3, some (.int s8.2.1)), (4, some (.int s8.2.2))]) (Mf := fun s8 => M) ?_ ((0 : Int32), (1 : Int32), (0 : Int32)) ⟨rfl, rfl, rfl, rfl, rfl, trivial⟩
        intro s8
        refine tr_V.iload dX7_needOrder_41 rfl ?_
        refine tr_V.aload_n (i := 0) dX7_needOrder_43 rfl rfl ?_
        refine tr_V.getI fl_X7_157 shM_1 rfl dX7_needOrder_44 ?_
        refine tr_V.icmp_ge (tgt := 108) dX7_needOrder_47 (by decide) ?_ ?_
        · refine tr_V.aload_n (i := 0) dX7_needOrder_50 rfl rfl ?_
          refine tr_V.iload_n (i := 1) dX7_needOrder_51 rfl rfl ?_
          refine tr_V.iload dX7_needOrder_52 rfl ?_
          refine tr_V.bd (fun c9 h10 => ?_)
          refine tr_V.callV (C_X7_rowAt p1 s8.2.2 M _ h10) yk_X7_rowAt iv_X7_rowAt ml_X7_110 shM_1 rfl ⟨rfl, Nat.le_of_ble_eq_true rfl⟩ rfl (Nat.le_of_ble_eq_true rfl) rfl dX7_needOrder_54 ?_
          refine tr_V.istore (i := 5) dX7_needOrder_57 (Nat.le_of_ble_eq_true rfl) rfl ?_
          refine tr_V.iload_n (i := 3) dX7_needOrder_59 rfl rfl ?_
          refine tr_V.seq (τ := Int32) (pc' := 86) (L := fun v11 => [(0, some (.ref 1)), (1, some (.int p1)), (2, some (.int s8.1)), (4, some (.int s8.2.2)), (5, some (.int c9))]) (S := fun v11 => [.int v11]) (Mf := fun v11 => M) ?_ ?_
          · refine tr_V.if_eq (tgt := 85) dX7_needOrder_60 (by decide) ?_ ?_
            · refine tr_V.iconst (v := (0 : Int32)) dX7_needOrder_85 (by decide) ?_
              exact tr_V.to (fun h => h) ⟨rfl, rfl, rfl, rfl, rfl, trivial⟩
            · refine tr_V.aload_n (i := 0) dX7_needOrder_63 rfl rfl ?_
              refine tr_V.iload dX7_needOrder_64 rfl ?_
              refine tr_V.bd (fun c12 h13 => ?_)
              refine tr_V.callV (C_X7_isThing c9 M _ h13) yk_X7_isThing iv_X7_isThing ml_X7_163 shM_1 rfl ⟨rfl, Nat.le_of_ble_eq_true rfl⟩ rfl (Nat.le_of_ble_eq_true rfl) rfl dX7_needOrder_66 ?_
              refine tr_V.if_eq (tgt := 85) dX7_needOrder_69 (by decide) ?_ ?_
              · refine tr_V.iconst (v := (0 : Int32)) dX7_needOrder_85 (by decide) ?_
                exact tr_V.to (fun h => h) ⟨rfl, rfl, rfl, rfl, rfl, trivial⟩
              · refine tr_V.iload_n (i := 2) dX7_needOrder_72 rfl rfl ?_
                refine tr_V.iload dX7_needOrder_73 rfl ?_
                refine tr_V.callS (C_X7_has s8.1 c9 M) yk_X7_has sc_X7_has ml_X7_186 ⟨rfl, Nat.le_of_ble_eq_true rfl⟩ rfl (Nat.le_of_ble_eq_true rfl) rfl dX7_needOrder_75 ?_
                refine tr_V.if_ne (tgt := 85) dX7_needOrder_78 (by decide) ?_ ?_
                · refine tr_V.iconst (v := (1 : Int32)) dX7_needOrder_81 (by decide) ?_
                  refine tr_V.goto (tgt := 86) dX7_needOrder_82 (by decide) ?_
                  exact tr_V.to (fun h => h) ⟨rfl, rfl, rfl, rfl, rfl, trivial⟩
                · refine tr_V.iconst (v := (0 : Int32)) dX7_needOrder_85 (by decide) ?_
                  exact tr_V.to (fun h => h) ⟨rfl, rfl, rfl, rfl, rfl, trivial⟩
          · intro v11
            refine tr_V.istore_n (i := 3) dX7_needOrder_86 rfl (Nat.le_of_ble_eq_true rfl) rfl ?_
            refine tr_V.iload_n (i := 2) dX7_needOrder_87 rfl rfl ?_
            refine tr_V.iload_n (i := 3) dX7_needOrder_88 rfl rfl ?_
            refine tr_V.if_eq (tgt := 99) dX7_needOrder_89 (by decide) ?_ ?_
            · refine tr_V.iconst (v := (0 : Int32)) dX7_needOrder_99 (by decide) ?_
              refine tr_V.ior dX7_needOrder_100 ?_
              refine tr_V.istore_n (i := 2) dX7_needOrder_101 rfl (Nat.le_of_ble_eq_true rfl) rfl ?_
              refine tr_V.iinc (cst := (1 : Int32)) dX7_needOrder_102 rfl (by decide) rfl ?_
              refine tr_V.goto (tgt := 41) dX7_needOrder_105 (by decide) ?_
              exact tr_V.to (fun h => h) ⟨rfl, rfl, rfl, rfl, rfl, trivial⟩
            · refine tr_V.iconst (v := (1 : Int32)) dX7_needOrder_92 (by decide) ?_
              refine tr_V.iload dX7_needOrder_93 rfl ?_
              refine tr_V.ishl dX7_needOrder_95 ?_
              refine tr_V.goto (tgt := 100) dX7_needOrder_96 (by decide) ?_
              refine tr_V.ior dX7_needOrder_100 ?_
              refine tr_V.istore_n (i := 2) dX7_needOrder_101 rfl (Nat.le_of_ble_eq_true rfl) rfl ?_
              refine tr_V.iinc (cst := (1 : Int32)) dX7_needOrder_102 rfl (by decide) rfl ?_
              refine tr_V.goto (tgt := 41) dX7_needOrder_105 (by decide) ?_
              exact tr_V.to (fun h => h) ⟨rfl, rfl, rfl, rfl, rfl, trivial⟩
        · exact tr_V.to (fun h => h) ⟨rfl, rfl, rfl, trivial⟩
      · intro v7
        refine tr_V.iload_n (i := 3) dX7_needOrder_108 rfl rfl ?_
        refine tr_V.if_ne (tgt := 118) dX7_needOrder_109 (by decide) ?_ ?_
        · refine tr_V.aload_n (i := 0) dX7_needOrder_112 rfl rfl ?_
          refine tr_V.iconst (v := (3 : Int32)) dX7_needOrder_113 (by decide) ?_
          refine tr_V.bd (fun c16 h17 => ?_)
          refine tr_V.callV (C_X7_meets (3 : Int32) M _ h17) yk_X7_meets iv_X7_meets ml_X7_106 shM_1 rfl ⟨rfl, Nat.le_of_ble_eq_true rfl⟩ rfl (Nat.le_of_ble_eq_true rfl) rfl dX7_needOrder_114 ?_
          exact tr_V.iret dX7_needOrder_117 rfl (fun h => h)
        · refine tr_V.iconst (v := (0 : Int32)) dX7_needOrder_118 (by decide) ?_
          refine tr_V.istore (i := 4) dX7_needOrder_119 (Nat.le_of_ble_eq_true rfl) rfl ?_
          refine tr_V.seq (τ := tr_M) (pc' := 150) (L := fun v18 => [(0, some (.ref 1))]) (S := fun v18 => []) (Mf := fun v18 => v18) ?_ ?_
          · refine tr_V.loop (σ := Int32 × tr_M) (step := mX7_needOrder_l121 p1) (L := fun s19 => [(0, some (.ref 1)), (1, some (.int p1)), (4, some (.int s19.1))]) (Mf := fun s19 => s19.2) ?_ ((0 : Int32), M) ⟨rfl, rfl, rfl, trivial⟩
            intro s19
            refine tr_V.iload dX7_needOrder_121 rfl ?_
            refine tr_V.aload_n (i := 0) dX7_needOrder_123 rfl rfl ?_
            refine tr_V.getI fl_X7_157 shM_1 rfl dX7_needOrder_124 ?_
            refine tr_V.icmp_ge (tgt := 150) dX7_needOrder_127 (by decide) ?_ ?_
            · refine tr_V.aload_n (i := 0) dX7_needOrder_130 rfl rfl ?_
              refine tr_V.getR (Nat.succ_pos _) fl_X7_41 shM_1 rfl dX7_needOrder_131 ?_
              refine tr_V.iload dX7_needOrder_134 rfl ?_
              refine tr_V.aload_n (i := 0) dX7_needOrder_136 rfl rfl ?_
              refine tr_V.iload_n (i := 1) dX7_needOrder_137 rfl rfl ?_
              refine tr_V.iload dX7_needOrder_138 rfl ?_
              refine tr_V.bd (fun c20 h21 => ?_)
              refine tr_V.callV (C_X7_rowAt p1 s19.1 s19.2 _ h21) yk_X7_rowAt iv_X7_rowAt ml_X7_110 shM_1 rfl ⟨rfl, Nat.le_of_ble_eq_true rfl⟩ rfl (Nat.le_of_ble_eq_true rfl) rfl dX7_needOrder_140 ?_
              refine tr_V.bd (fun M22 h23 => ?_)
              refine tr_V.iast h23 shM_12 dX7_needOrder_143 ?_
              refine tr_V.iinc (cst := (1 : Int32)) dX7_needOrder_144 rfl (by decide) rfl ?_
              refine tr_V.goto (tgt := 121) dX7_needOrder_147 (by decide) ?_
              exact tr_V.to (fun h => h) ⟨rfl, rfl, rfl, trivial⟩
            · exact tr_V.to (fun h => h) ⟨rfl, trivial⟩
          · intro v18
            refine tr_V.aload_n (i := 0) dX7_needOrder_150 rfl rfl ?_
            refine tr_V.bd (fun c24 h25 => ?_)
            refine tr_V.callV (C_X7_layPlaces v18 _ h25) yk_X7_layPlaces iv_X7_layPlaces ml_X7_189 shM_1 rfl ⟨rfl, Nat.le_of_ble_eq_true rfl⟩ rfl (Nat.le_of_ble_eq_true rfl) rfl dX7_needOrder_151 ?_
            refine tr_V.iconst (v := (0 : Int32)) dX7_needOrder_154 (by decide) ?_
            exact tr_V.iret dX7_needOrder_155 rfl (fun h => h)
    · refine tr_V.aload_n (i := 0) dX7_needOrder_28 rfl rfl ?_
      refine tr_V.iconst (v := (5 : Int32)) dX7_needOrder_29 (by decide) ?_
      refine tr_V.bd (fun c26 h27 => ?_)
      refine tr_V.callV (C_X7_meets (5 : Int32) M _ h27) yk_X7_meets iv_X7_meets ml_X7_106 shM_1 rfl ⟨rfl, Nat.le_of_ble_eq_true rfl⟩ rfl (Nat.le_of_ble_eq_true rfl) rfl dX7_needOrder_30 ?_
      exact tr_V.iret dX7_needOrder_33 rfl (fun h => h)
abbrev xX7_isMeasure : tr_X := (cX7_isMeasure, 1, RX7, (some .boolean), 2, shM, 24)
theorem cw_X7_isMeasure : Cond.code yX7_isMeasure cX7_isMeasure 1 (some .boolean) ∈ tr_tbl := tr_in 1432 (by decide +kernel) rfl
theorem yk_X7_isMeasure : tr_yk yX7_isMeasure (xX7_isMeasure) 1 := ⟨cw_X7_isMeasure, in_X7, ⟨by decide +kernel, by decide +kernel, by decide +kernel⟩, Nat.le_of_ble_eq_true rfl⟩
theorem sc_X7_isMeasure : Cond.static yX7_isMeasure ∈ tr_tbl := tr_in 1431 (by decide +kernel) rfl
def mX7_isMeasure (p0 : Int32) : Option (Int32) :=
  Option.bind (tr_gd ((mX7_in p0 (0 : Int32) (4 : Int32)) &&& 1 == (mX7_in p0 (0 : Int32) (4 : Int32)))) (fun _ => some (mX7_in p0 (0 : Int32) (4 : Int32)))
set_option maxRecDepth 100000 in
set_option maxHeartbeats 4000000 in
theorem C_X7_isMeasure (p0 : Int32) (M : tr_M) (r : Int32) (h : mX7_isMeasure p0 = some r) : tr_I yX7_isMeasure (xX7_isMeasure) [.int p0] M (some (.int r)) M := by
  refine tr_I.of (Z := fun q : Int32 => (some (.int r) : Option Value) = some (.int q) ∧ M = M) pn_X7 rfl gdM (Nat.le_of_ble_eq_true rfl) (fun Wt => ?_) h ⟨rfl, rfl⟩
  unfold mX7_isMeasure
  refine tr_V.iload_n (i := 0) dX7_isMeasure_0 rfl rfl ?_
  refine tr_V.iconst (v := (0 : Int32)) dX7_isMeasure_1 (by decide) ?_
  refine tr_V.iconst (v := (4 : Int32)) dX7_isMeasure_2 (by decide) ?_
  refine tr_V.callS (C_X7_in p0 (0 : Int32) (4 : Int32) M) yk_X7_in sc_X7_in ml_X7_92 ⟨rfl, Nat.le_of_ble_eq_true rfl⟩ rfl (Nat.le_of_ble_eq_true rfl) rfl dX7_isMeasure_3 ?_
  refine tr_V.gd (fun h3 => ?_)
  exact tr_V.zret h3 dX7_isMeasure_6 rfl (fun h => h)
abbrev xX7_cutOf : tr_X := (cX7_cutOf, 5, RX7, (some .int), 2, shM, 24)
theorem cw_X7_cutOf : Cond.code yX7_cutOf cX7_cutOf 5 (some .int) ∈ tr_tbl := tr_in 1462 (by decide +kernel) rfl
theorem yk_X7_cutOf : tr_yk yX7_cutOf (xX7_cutOf) 1 := ⟨cw_X7_cutOf, in_X7, ⟨by decide +kernel, by decide +kernel, by decide +kernel⟩, Nat.le_of_ble_eq_true rfl⟩
theorem iv_X7_cutOf : Cond.instanceMethod yX7_cutOf ∈ tr_tbl ∧ Cond.selects (yX7_cutOf).cls yX7_cutOf yX7_cutOf ∈ tr_tbl := ⟨tr_in 1461 (by decide +kernel) rfl, tr_in 79 (by decide +kernel) rfl⟩
def mX7_cutOf_l15 (p1 : Int32) (M : tr_M) (s1 : Int32 × Int32) (s2 : Int32 × Int32) : Option ((Int32 × Int32) ⊕ ((Int32 × Int32) ⊕ (Int32))) :=
  if s2.2 < (M.1 1 10) then (
    if (mX7_has p1 s1.2) = 0 then (
      some (.inl ((s2.1 + (0 : Int32)), (s2.2 + (1 : Int32))))
    ) else (
      if (mX7_has p1 s2.2) = 0 then (
        Option.bind (mX7_weight s1.2 s2.2 M) (fun c7 =>
        some (.inl ((s2.1 + c7), (s2.2 + (1 : Int32))))
        )
      ) else (
        some (.inl ((s2.1 + (0 : Int32)), (s2.2 + (1 : Int32))))
      )
    )
  ) else (
    some (.inr (.inl (s2.1, (s1.2 + (1 : Int32)))))
  )
def mX7_cutOf_l4 (p1 : Int32) (M : tr_M) (s1 : Int32 × Int32) : Option ((Int32 × Int32) ⊕ (Int32)) :=
  if s1.2 < (M.1 1 10) then (
    tr_loop (mX7_cutOf_l15 p1 M s1) (s1.1, (0 : Int32))
  ) else (
    some (.inr s1.1)
  )
def mX7_cutOf (p1 : Int32) (M : tr_M) : Option (Int32) :=
  tr_loop (mX7_cutOf_l4 p1 M) ((0 : Int32), (0 : Int32))
set_option maxRecDepth 100000 in
set_option maxHeartbeats 4000000 in
theorem C_X7_cutOf (p1 : Int32) (M : tr_M) (r : Int32) (h : mX7_cutOf p1 M = some r) : tr_I yX7_cutOf (xX7_cutOf) [.ref 1, .int p1] M (some (.int r)) M := by
  refine tr_I.of (Z := fun q : Int32 => (some (.int r) : Option Value) = some (.int q) ∧ M = M) pn_X7 rfl gdM (Nat.le_of_ble_eq_true rfl) (fun Wt => ?_) h ⟨rfl, rfl⟩
  unfold mX7_cutOf
  refine tr_V.iconst (v := (0 : Int32)) dX7_cutOf_0 (by decide) ?_
  refine tr_V.istore_n (i := 2) dX7_cutOf_1 rfl (Nat.le_of_ble_eq_true rfl) rfl ?_
  refine tr_V.iconst (v := (0 : Int32)) dX7_cutOf_2 (by decide) ?_
  refine tr_V.istore_n (i := 3) dX7_cutOf_3 rfl (Nat.le_of_ble_eq_true rfl) rfl ?_
  refine tr_V.loop (σ := Int32 × Int32) (step := mX7_cutOf_l4 p1 M) (L := fun s1 => [(0, some (.ref 1)), (1, some (.int p1)), (2, some (.int s1.1)), (3, some (.int s1.2))]) (Mf := fun s1 => M) ?_ ((0 : Int32), (0 : Int32)) ⟨rfl, rfl, rfl, rfl, trivial⟩
  intro s1
  refine tr_V.iload_n (i := 3) dX7_cutOf_4 rfl rfl ?_
  refine tr_V.aload_n (i := 0) dX7_cutOf_5 rfl rfl ?_
  refine tr_V.getI fl_X7_157 shM_1 rfl dX7_cutOf_6 ?_
  refine tr_V.icmp_ge (tgt := 67) dX7_cutOf_9 (by decide) ?_ ?_
  · refine tr_V.iconst (v := (0 : Int32)) dX7_cutOf_12 (by decide) ?_
    refine tr_V.istore (i := 4) dX7_cutOf_13 (Nat.le_of_ble_eq_true rfl) rfl ?_
    refine tr_V.loop (σ := Int32 × Int32) (step := mX7_cutOf_l15 p1 M s1) (L := fun s2 => [(0, some (.ref 1)), (1, some (.int p1)), (2, some (.int s2.1)), (3, some (.int s1.2)), (4, some (.int s2.2))]) (Mf := fun s2 => M) ?_ (s1.1, (0 : Int32)) ⟨rfl, rfl, rfl, rfl, rfl, trivial⟩
    intro s2
    refine tr_V.iload dX7_cutOf_15 rfl ?_
    refine tr_V.aload_n (i := 0) dX7_cutOf_17 rfl rfl ?_
    refine tr_V.getI fl_X7_157 shM_1 rfl dX7_cutOf_18 ?_
    refine tr_V.icmp_ge (tgt := 61) dX7_cutOf_21 (by decide) ?_ ?_
    · refine tr_V.iload_n (i := 2) dX7_cutOf_24 rfl rfl ?_
      refine tr_V.iload_n (i := 1) dX7_cutOf_25 rfl rfl ?_
      refine tr_V.iload_n (i := 3) dX7_cutOf_26 rfl rfl ?_
      refine tr_V.callS (C_X7_has p1 s1.2 M) yk_X7_has sc_X7_has ml_X7_186 ⟨rfl, Nat.le_of_ble_eq_true rfl⟩ rfl (Nat.le_of_ble_eq_true rfl) rfl dX7_cutOf_27 ?_
      refine tr_V.if_eq (tgt := 52) dX7_cutOf_30 (by decide) ?_ ?_
      · refine tr_V.iconst (v := (0 : Int32)) dX7_cutOf_52 (by decide) ?_
        refine tr_V.iadd dX7_cutOf_53 ?_
        refine tr_V.istore_n (i := 2) dX7_cutOf_54 rfl (Nat.le_of_ble_eq_true rfl) rfl ?_
        refine tr_V.iinc (cst := (1 : Int32)) dX7_cutOf_55 rfl (by decide) rfl ?_
        refine tr_V.goto (tgt := 15) dX7_cutOf_58 (by decide) ?_
        exact tr_V.to (fun h => h) ⟨rfl, rfl, rfl, rfl, rfl, trivial⟩
      · refine tr_V.iload_n (i := 1) dX7_cutOf_33 rfl rfl ?_
        refine tr_V.iload dX7_cutOf_34 rfl ?_
        refine tr_V.callS (C_X7_has p1 s2.2 M) yk_X7_has sc_X7_has ml_X7_186 ⟨rfl, Nat.le_of_ble_eq_true rfl⟩ rfl (Nat.le_of_ble_eq_true rfl) rfl dX7_cutOf_36 ?_
        refine tr_V.if_ne (tgt := 52) dX7_cutOf_39 (by decide) ?_ ?_
        · refine tr_V.aload_n (i := 0) dX7_cutOf_42 rfl rfl ?_
          refine tr_V.iload_n (i := 3) dX7_cutOf_43 rfl rfl ?_
          refine tr_V.iload dX7_cutOf_44 rfl ?_
          refine tr_V.bd (fun c7 h8 => ?_)
          refine tr_V.callV (C_X7_weight s1.2 s2.2 M _ h8) yk_X7_weight iv_X7_weight ml_X7_166 shM_1 rfl ⟨rfl, Nat.le_of_ble_eq_true rfl⟩ rfl (Nat.le_of_ble_eq_true rfl) rfl dX7_cutOf_46 ?_
          refine tr_V.goto (tgt := 53) dX7_cutOf_49 (by decide) ?_
          refine tr_V.iadd dX7_cutOf_53 ?_
          refine tr_V.istore_n (i := 2) dX7_cutOf_54 rfl (Nat.le_of_ble_eq_true rfl) rfl ?_
          refine tr_V.iinc (cst := (1 : Int32)) dX7_cutOf_55 rfl (by decide) rfl ?_
          refine tr_V.goto (tgt := 15) dX7_cutOf_58 (by decide) ?_
          exact tr_V.to (fun h => h) ⟨rfl, rfl, rfl, rfl, rfl, trivial⟩
        · refine tr_V.iconst (v := (0 : Int32)) dX7_cutOf_52 (by decide) ?_
          refine tr_V.iadd dX7_cutOf_53 ?_
          refine tr_V.istore_n (i := 2) dX7_cutOf_54 rfl (Nat.le_of_ble_eq_true rfl) rfl ?_
          refine tr_V.iinc (cst := (1 : Int32)) dX7_cutOf_55 rfl (by decide) rfl ?_
          refine tr_V.goto (tgt := 15) dX7_cutOf_58 (by decide) ?_
          exact tr_V.to (fun h => h) ⟨rfl, rfl, rfl, rfl, rfl, trivial⟩
    · refine tr_V.iinc (cst := (1 : Int32)) dX7_cutOf_61 rfl (by decide) rfl ?_
      refine tr_V.goto (tgt := 4) dX7_cutOf_64 (by decide) ?_
      exact tr_V.to (fun h => h) ⟨rfl, rfl, rfl, rfl, trivial⟩
  · refine tr_V.iload_n (i := 2) dX7_cutOf_67 rfl rfl ?_
    exact tr_V.iret dX7_cutOf_68 rfl (fun h => h)
abbrev xX7_heldOf : tr_X := (cX7_heldOf, 6, RX7, (some .int), 2, shM, 24)
theorem cw_X7_heldOf : Cond.code yX7_heldOf cX7_heldOf 6 (some .int) ∈ tr_tbl := tr_in 1466 (by decide +kernel) rfl
theorem yk_X7_heldOf : tr_yk yX7_heldOf (xX7_heldOf) 1 := ⟨cw_X7_heldOf, in_X7, ⟨by decide +kernel, by decide +kernel, by decide +kernel⟩, Nat.le_of_ble_eq_true rfl⟩
theorem iv_X7_heldOf : Cond.instanceMethod yX7_heldOf ∈ tr_tbl ∧ Cond.selects (yX7_heldOf).cls yX7_heldOf yX7_heldOf ∈ tr_tbl := ⟨tr_in 1465 (by decide +kernel) rfl, tr_in 80 (by decide +kernel) rfl⟩
def mX7_heldOf_l18 (p1 : Int32) (M : tr_M) (s1 : Int32 × Int32) (s3 : Int32 × Int32) : Option ((Int32 × Int32) ⊕ (Int32)) :=
  if s3.2 < (M.1 1 10) then (
    if s3.1 = 0 then (
      if (mX7_has p1 s1.2) = 0 then (
        some (.inl ((0 : Int32), (s3.2 + (1 : Int32))))
      ) else (
        if (mX7_has p1 s3.2) = 0 then (
          Option.bind (mX7_weight s1.2 s3.2 M) (fun c8 =>
          if 0 < c8 then (
            some (.inl ((1 : Int32), (s3.2 + (1 : Int32))))
          ) else (
            some (.inl ((0 : Int32), (s3.2 + (1 : Int32))))
          )
          )
        ) else (
          some (.inl ((0 : Int32), (s3.2 + (1 : Int32))))
        )
      )
    ) else (
      some (.inl ((1 : Int32), (s3.2 + (1 : Int32))))
    )
  ) else (
    some (.inr s3.1)
  )
def mX7_heldOf_l4 (p1 : Int32) (M : tr_M) (s1 : Int32 × Int32) : Option ((Int32 × Int32) ⊕ (Int32)) :=
  if s1.2 < (M.1 1 10) then (
    Option.bind (show Option (Int32) from
      tr_loop (mX7_heldOf_l18 p1 M s1) ((0 : Int32), (0 : Int32))
    ) (fun (v2 : Int32) =>
      if v2 = 0 then (
        some (.inl ((s1.1 + (0 : Int32)), (s1.2 + (1 : Int32))))
      ) else (
        some (.inl ((s1.1 + (1 : Int32)), (s1.2 + (1 : Int32))))
      )
    )
  ) else (
    some (.inr s1.1)
  )
def mX7_heldOf (p1 : Int32) (M : tr_M) : Option (Int32) :=
  tr_loop (mX7_heldOf_l4 p1 M) ((0 : Int32), (0 : Int32))
set_option maxRecDepth 100000 in
set_option maxHeartbeats 4000000 in
theorem C_X7_heldOf (p1 : Int32) (M : tr_M) (r : Int32) (h : mX7_heldOf p1 M = some r) : tr_I yX7_heldOf (xX7_heldOf) [.ref 1, .int p1] M (some (.int r)) M := by
  refine tr_I.of (Z := fun q : Int32 => (some (.int r) : Option Value) = some (.int q) ∧ M = M) pn_X7 rfl gdM (Nat.le_of_ble_eq_true rfl) (fun Wt => ?_) h ⟨rfl, rfl⟩
  unfold mX7_heldOf
  refine tr_V.iconst (v := (0 : Int32)) dX7_heldOf_0 (by decide) ?_
  refine tr_V.istore_n (i := 2) dX7_heldOf_1 rfl (Nat.le_of_ble_eq_true rfl) rfl ?_
  refine tr_V.iconst (v := (0 : Int32)) dX7_heldOf_2 (by decide) ?_
  refine tr_V.istore_n (i := 3) dX7_heldOf_3 rfl (Nat.le_of_ble_eq_true rfl) rfl ?_
  refine tr_V.loop (σ := Int32 × Int32) (step := mX7_heldOf_l4 p1 M) (L := fun s1 => [(0, some (.ref 1)), (1, some (.int p1)), (2, some (.int s1.1)), (3, some (.int s1.2))]) (Mf := fun s1 => M) ?_ ((0 : Int32), (0 : Int32)) ⟨rfl, rfl, rfl, rfl, trivial⟩
  intro s1
  refine tr_V.iload_n (i := 3) dX7_heldOf_4 rfl rfl ?_
  refine tr_V.aload_n (i := 0) dX7_heldOf_5 rfl rfl ?_
  refine tr_V.getI fl_X7_157 shM_1 rfl dX7_heldOf_6 ?_
  refine tr_V.icmp_ge (tgt := 91) dX7_heldOf_9 (by decide) ?_ ?_
  · refine tr_V.iconst (v := (0 : Int32)) dX7_heldOf_12 (by decide) ?_
    refine tr_V.istore (i := 4) dX7_heldOf_13 (Nat.le_of_ble_eq_true rfl) rfl ?_
    refine tr_V.iconst (v := (0 : Int32)) dX7_heldOf_15 (by decide) ?_
    refine tr_V.istore (i := 5) dX7_heldOf_16 (Nat.le_of_ble_eq_true rfl) rfl ?_
    refine tr_V.seq (τ := Int32) (pc' := 72) (L := fun v2 => [(0, some (.ref 1)), (1, some (.int p1)), (2, some (.int s1.1)), (3, some (.int s1.2)), (4, some (.int v2))]) (S := fun v2 => []) (Mf := fun v2 => M) ?_ ?_
    · refine tr_V.loop (σ := Int32 × Int32) (step := mX7_heldOf_l18 p1 M s1) (L := fun s3 => [(0, some (.ref 1)), (1, some (.int p1)), (2, some (.int s1.1)), (3, some (.int s1.2)), (4, some (.int s3.1)), (5, some (.int s3.2))]) (Mf := fun s3 => M) ?_ ((0 : Int32), (0 : Int32)) ⟨rfl, rfl, rfl, rfl, rfl, rfl, trivial⟩
      intro s3
      refine tr_V.iload dX7_heldOf_18 rfl ?_
      refine tr_V.aload_n (i := 0) dX7_heldOf_20 rfl rfl ?_
      refine tr_V.getI fl_X7_157 shM_1 rfl dX7_heldOf_21 ?_
      refine tr_V.icmp_ge (tgt := 72) dX7_heldOf_24 (by decide) ?_ ?_
      · refine tr_V.iload dX7_heldOf_27 rfl ?_
        refine tr_V.if_ne (tgt := 59) dX7_heldOf_29 (by decide) ?_ ?_
        · refine tr_V.iload_n (i := 1) dX7_heldOf_32 rfl rfl ?_
          refine tr_V.iload_n (i := 3) dX7_heldOf_33 rfl rfl ?_
          refine tr_V.callS (C_X7_has p1 s1.2 M) yk_X7_has sc_X7_has ml_X7_186 ⟨rfl, Nat.le_of_ble_eq_true rfl⟩ rfl (Nat.le_of_ble_eq_true rfl) rfl dX7_heldOf_34 ?_
          refine tr_V.if_eq (tgt := 63) dX7_heldOf_37 (by decide) ?_ ?_
          · refine tr_V.iconst (v := (0 : Int32)) dX7_heldOf_63 (by decide) ?_
            refine tr_V.istore (i := 4) dX7_heldOf_64 (Nat.le_of_ble_eq_true rfl) rfl ?_
            refine tr_V.iinc (cst := (1 : Int32)) dX7_heldOf_66 rfl (by decide) rfl ?_
            refine tr_V.goto (tgt := 18) dX7_heldOf_69 (by decide) ?_
            exact tr_V.to (fun h => h) ⟨rfl, rfl, rfl, rfl, rfl, rfl, trivial⟩
          · refine tr_V.iload_n (i := 1) dX7_heldOf_40 rfl rfl ?_
            refine tr_V.iload dX7_heldOf_41 rfl ?_
            refine tr_V.callS (C_X7_has p1 s3.2 M) yk_X7_has sc_X7_has ml_X7_186 ⟨rfl, Nat.le_of_ble_eq_true rfl⟩ rfl (Nat.le_of_ble_eq_true rfl) rfl dX7_heldOf_43 ?_
            refine tr_V.if_ne (tgt := 63) dX7_heldOf_46 (by decide) ?_ ?_
            · refine tr_V.aload_n (i := 0) dX7_heldOf_49 rfl rfl ?_
              refine tr_V.iload_n (i := 3) dX7_heldOf_50 rfl rfl ?_
              refine tr_V.iload dX7_heldOf_51 rfl ?_
              refine tr_V.bd (fun c8 h9 => ?_)
              refine tr_V.callV (C_X7_weight s1.2 s3.2 M _ h9) yk_X7_weight iv_X7_weight ml_X7_166 shM_1 rfl ⟨rfl, Nat.le_of_ble_eq_true rfl⟩ rfl (Nat.le_of_ble_eq_true rfl) rfl dX7_heldOf_53 ?_
              refine tr_V.if_le (tgt := 63) dX7_heldOf_56 (by decide) ?_ ?_
              · refine tr_V.iconst (v := (1 : Int32)) dX7_heldOf_59 (by decide) ?_
                refine tr_V.goto (tgt := 64) dX7_heldOf_60 (by decide) ?_
                refine tr_V.istore (i := 4) dX7_heldOf_64 (Nat.le_of_ble_eq_true rfl) rfl ?_
                refine tr_V.iinc (cst := (1 : Int32)) dX7_heldOf_66 rfl (by decide) rfl ?_
                refine tr_V.goto (tgt := 18) dX7_heldOf_69 (by decide) ?_
                exact tr_V.to (fun h => h) ⟨rfl, rfl, rfl, rfl, rfl, rfl, trivial⟩
              · refine tr_V.iconst (v := (0 : Int32)) dX7_heldOf_63 (by decide) ?_
                refine tr_V.istore (i := 4) dX7_heldOf_64 (Nat.le_of_ble_eq_true rfl) rfl ?_
                refine tr_V.iinc (cst := (1 : Int32)) dX7_heldOf_66 rfl (by decide) rfl ?_
                refine tr_V.goto (tgt := 18) dX7_heldOf_69 (by decide) ?_
                exact tr_V.to (fun h => h) ⟨rfl, rfl, rfl, rfl, rfl, rfl, trivial⟩
            · refine tr_V.iconst (v := (0 : Int32)) dX7_heldOf_63 (by decide) ?_
              refine tr_V.istore (i := 4) dX7_heldOf_64 (Nat.le_of_ble_eq_true rfl) rfl ?_
              refine tr_V.iinc (cst := (1 : Int32)) dX7_heldOf_66 rfl (by decide) rfl ?_
              refine tr_V.goto (tgt := 18) dX7_heldOf_69 (by decide) ?_
              exact tr_V.to (fun h => h) ⟨rfl, rfl, rfl, rfl, rfl, rfl, trivial⟩
        · refine tr_V.iconst (v := (1 : Int32)) dX7_heldOf_59 (by decide) ?_
          refine tr_V.goto (tgt := 64) dX7_heldOf_60 (by decide) ?_
          refine tr_V.istore (i := 4) dX7_heldOf_64 (Nat.le_of_ble_eq_true rfl) rfl ?_
          refine tr_V.iinc (cst := (1 : Int32)) dX7_heldOf_66 rfl (by decide) rfl ?_
          refine tr_V.goto (tgt := 18) dX7_heldOf_69 (by decide) ?_
          exact tr_V.to (fun h => h) ⟨rfl, rfl, rfl, rfl, rfl, rfl, trivial⟩
      · exact tr_V.to (fun h => h) ⟨rfl, rfl, rfl, rfl, rfl, trivial⟩
    · intro v2
      refine tr_V.iload_n (i := 2) dX7_heldOf_72 rfl rfl ?_
      refine tr_V.iload dX7_heldOf_73 rfl ?_
      refine tr_V.if_eq (tgt := 82) dX7_heldOf_75 (by decide) ?_ ?_
      · refine tr_V.iconst (v := (0 : Int32)) dX7_heldOf_82 (by decide) ?_
        refine tr_V.iadd dX7_heldOf_83 ?_
        refine tr_V.istore_n (i := 2) dX7_heldOf_84 rfl (Nat.le_of_ble_eq_true rfl) rfl ?_
        refine tr_V.iinc (cst := (1 : Int32)) dX7_heldOf_85 rfl (by decide) rfl ?_
        refine tr_V.goto (tgt := 4) dX7_heldOf_88 (by decide) ?_
        exact tr_V.to (fun h => h) ⟨rfl, rfl, rfl, rfl, trivial⟩
      · refine tr_V.iconst (v := (1 : Int32)) dX7_heldOf_78 (by decide) ?_
        refine tr_V.goto (tgt := 83) dX7_heldOf_79 (by decide) ?_
        refine tr_V.iadd dX7_heldOf_83 ?_
        refine tr_V.istore_n (i := 2) dX7_heldOf_84 rfl (Nat.le_of_ble_eq_true rfl) rfl ?_
        refine tr_V.iinc (cst := (1 : Int32)) dX7_heldOf_85 rfl (by decide) rfl ?_
        refine tr_V.goto (tgt := 4) dX7_heldOf_88 (by decide) ?_
        exact tr_V.to (fun h => h) ⟨rfl, rfl, rfl, rfl, trivial⟩
  · refine tr_V.iload_n (i := 2) dX7_heldOf_91 rfl rfl ?_
    exact tr_V.iret dX7_heldOf_92 rfl (fun h => h)
abbrev xX7_reachNow : tr_X := (cX7_reachNow, 4, RX7, (some .int), 2, shM, 24)
theorem cw_X7_reachNow : Cond.code yX7_reachNow cX7_reachNow 4 (some .int) ∈ tr_tbl := tr_in 1451 (by decide +kernel) rfl
theorem yk_X7_reachNow : tr_yk yX7_reachNow (xX7_reachNow) 0 := ⟨cw_X7_reachNow, in_X7, ⟨by decide +kernel, by decide +kernel, by decide +kernel⟩, Nat.le_of_ble_eq_true rfl⟩
theorem iv_X7_reachNow : Cond.instanceMethod yX7_reachNow ∈ tr_tbl ∧ Cond.selects (yX7_reachNow).cls yX7_reachNow yX7_reachNow ∈ tr_tbl := ⟨tr_in 1450 (by decide +kernel) rfl, tr_in 77 (by decide +kernel) rfl⟩
def mX7_reachNow_l14 (M : tr_M) (s1 : Int32 × Int32) (s2 : Int32 × Int32) : Option ((Int32 × Int32) ⊕ ((Int32 × Int32) ⊕ (Int32))) :=
  if s2.2 < (M.1 1 10) then (
    Option.bind (mX7_weight s1.2 s2.2 M) (fun c3 =>
    if 0 < c3 then (
      Option.bind (tr_rd 10 M 13 s1.2) (fun a5 =>
      Option.bind (tr_rd 10 M 13 s2.2) (fun a7 =>
      some (.inl ((mX7_greater s2.1 (a5 - a7)), (s2.2 + (1 : Int32))))
      )
      )
    ) else (
      some (.inl (s2.1, (s2.2 + (1 : Int32))))
    )
    )
  ) else (
    some (.inr (.inl (s2.1, (s1.2 + (1 : Int32)))))
  )
def mX7_reachNow_l4 (M : tr_M) (s1 : Int32 × Int32) : Option ((Int32 × Int32) ⊕ (Int32)) :=
  if s1.2 < (M.1 1 10) then (
    tr_loop (mX7_reachNow_l14 M s1) (s1.1, (0 : Int32))
  ) else (
    some (.inr s1.1)
  )
def mX7_reachNow  (M : tr_M) : Option (Int32) :=
  tr_loop (mX7_reachNow_l4 M) ((0 : Int32), (0 : Int32))
set_option maxRecDepth 100000 in
set_option maxHeartbeats 4000000 in
theorem C_X7_reachNow  (M : tr_M) (r : Int32) (h : mX7_reachNow M = some r) : tr_I yX7_reachNow (xX7_reachNow) [.ref 1] M (some (.int r)) M := by
  refine tr_I.of (Z := fun q : Int32 => (some (.int r) : Option Value) = some (.int q) ∧ M = M) pn_X7 rfl gdM (Nat.le_of_ble_eq_true rfl) (fun Wt => ?_) h ⟨rfl, rfl⟩
  unfold mX7_reachNow
  refine tr_V.iconst (v := (0 : Int32)) dX7_reachNow_0 (by decide) ?_
  refine tr_V.istore_n (i := 1) dX7_reachNow_1 rfl (Nat.le_of_ble_eq_true rfl) rfl ?_
  refine tr_V.iconst (v := (0 : Int32)) dX7_reachNow_2 (by decide) ?_
  refine tr_V.istore_n (i := 2) dX7_reachNow_3 rfl (Nat.le_of_ble_eq_true rfl) rfl ?_
  refine tr_V.loop (σ := Int32 × Int32) (step := mX7_reachNow_l4 M) (L := fun s1 => [(0, some (.ref 1)), (1, some (.int s1.1)), (2, some (.int s1.2))]) (Mf := fun s1 => M) ?_ ((0 : Int32), (0 : Int32)) ⟨rfl, rfl, rfl, trivial⟩
  intro s1
  refine tr_V.iload_n (i := 2) dX7_reachNow_4 rfl rfl ?_
  refine tr_V.aload_n (i := 0) dX7_reachNow_5 rfl rfl ?_
  refine tr_V.getI fl_X7_157 shM_1 rfl dX7_reachNow_6 ?_
  refine tr_V.icmp_ge (tgt := 65) dX7_reachNow_9 (by decide) ?_ ?_
  · refine tr_V.iconst (v := (0 : Int32)) dX7_reachNow_12 (by decide) ?_
    refine tr_V.istore_n (i := 3) dX7_reachNow_13 rfl (Nat.le_of_ble_eq_true rfl) rfl ?_
    refine tr_V.loop (σ := Int32 × Int32) (step := mX7_reachNow_l14 M s1) (L := fun s2 => [(0, some (.ref 1)), (1, some (.int s2.1)), (2, some (.int s1.2)), (3, some (.int s2.2))]) (Mf := fun s2 => M) ?_ (s1.1, (0 : Int32)) ⟨rfl, rfl, rfl, rfl, trivial⟩
    intro s2
    refine tr_V.iload_n (i := 3) dX7_reachNow_14 rfl rfl ?_
    refine tr_V.aload_n (i := 0) dX7_reachNow_15 rfl rfl ?_
    refine tr_V.getI fl_X7_157 shM_1 rfl dX7_reachNow_16 ?_
    refine tr_V.icmp_ge (tgt := 59) dX7_reachNow_19 (by decide) ?_ ?_
    · refine tr_V.aload_n (i := 0) dX7_reachNow_22 rfl rfl ?_
      refine tr_V.iload_n (i := 2) dX7_reachNow_23 rfl rfl ?_
      refine tr_V.iload_n (i := 3) dX7_reachNow_24 rfl rfl ?_
      refine tr_V.bd (fun c3 h4 => ?_)
      refine tr_V.callV (C_X7_weight s1.2 s2.2 M _ h4) yk_X7_weight iv_X7_weight ml_X7_166 shM_1 rfl ⟨rfl, Nat.le_of_ble_eq_true rfl⟩ rfl (Nat.le_of_ble_eq_true rfl) rfl dX7_reachNow_25 ?_
      refine tr_V.if_le (tgt := 51) dX7_reachNow_28 (by decide) ?_ ?_
      · refine tr_V.iload_n (i := 1) dX7_reachNow_31 rfl rfl ?_
        refine tr_V.aload_n (i := 0) dX7_reachNow_32 rfl rfl ?_
        refine tr_V.getR (Nat.succ_pos _) fl_X7_44 shM_1 rfl dX7_reachNow_33 ?_
        refine tr_V.iload_n (i := 2) dX7_reachNow_36 rfl rfl ?_
        refine tr_V.bd (fun a5 h6 => ?_)
        refine tr_V.iald h6 shM_13 dX7_reachNow_37 ?_
        refine tr_V.aload_n (i := 0) dX7_reachNow_38 rfl rfl ?_
        refine tr_V.getR (Nat.succ_pos _) fl_X7_44 shM_1 rfl dX7_reachNow_39 ?_
        refine tr_V.iload_n (i := 3) dX7_reachNow_42 rfl rfl ?_
        refine tr_V.bd (fun a7 h8 => ?_)
        refine tr_V.iald h8 shM_13 dX7_reachNow_43 ?_
        refine tr_V.isub dX7_reachNow_44 ?_
        refine tr_V.callS (C_X7_greater s2.1 (a5 - a7) M) yk_X7_greater sc_X7_greater ml_X7_192 ⟨rfl, Nat.le_of_ble_eq_true rfl⟩ rfl (Nat.le_of_ble_eq_true rfl) rfl dX7_reachNow_45 ?_
        refine tr_V.goto (tgt := 52) dX7_reachNow_48 (by decide) ?_
        refine tr_V.istore_n (i := 1) dX7_reachNow_52 rfl (Nat.le_of_ble_eq_true rfl) rfl ?_
        refine tr_V.iinc (cst := (1 : Int32)) dX7_reachNow_53 rfl (by decide) rfl ?_
        refine tr_V.goto (tgt := 14) dX7_reachNow_56 (by decide) ?_
        exact tr_V.to (fun h => h) ⟨rfl, rfl, rfl, rfl, trivial⟩
      · refine tr_V.iload_n (i := 1) dX7_reachNow_51 rfl rfl ?_
        refine tr_V.istore_n (i := 1) dX7_reachNow_52 rfl (Nat.le_of_ble_eq_true rfl) rfl ?_
        refine tr_V.iinc (cst := (1 : Int32)) dX7_reachNow_53 rfl (by decide) rfl ?_
        refine tr_V.goto (tgt := 14) dX7_reachNow_56 (by decide) ?_
        exact tr_V.to (fun h => h) ⟨rfl, rfl, rfl, rfl, trivial⟩
    · refine tr_V.iinc (cst := (1 : Int32)) dX7_reachNow_59 rfl (by decide) rfl ?_
      refine tr_V.goto (tgt := 4) dX7_reachNow_62 (by decide) ?_
      exact tr_V.to (fun h => h) ⟨rfl, rfl, rfl, trivial⟩
  · refine tr_V.iload_n (i := 1) dX7_reachNow_65 rfl rfl ?_
    exact tr_V.iret dX7_reachNow_66 rfl (fun h => h)
abbrev xX7_isSum : tr_X := (cX7_isSum, 1, RX7, (some .boolean), 1, shM, 24)
theorem cw_X7_isSum : Cond.code yX7_isSum cX7_isSum 1 (some .boolean) ∈ tr_tbl := tr_in 1469 (by decide +kernel) rfl
theorem yk_X7_isSum : tr_yk yX7_isSum (xX7_isSum) 1 := ⟨cw_X7_isSum, in_X7, ⟨by decide +kernel, by decide +kernel, by decide +kernel⟩, Nat.le_of_ble_eq_true rfl⟩
theorem sc_X7_isSum : Cond.static yX7_isSum ∈ tr_tbl := tr_in 1468 (by decide +kernel) rfl
def mX7_isSum' (p0 : Int32) : Option Int32 :=
  if p0 = 0 then (
    some (1 : Int32)
  ) else (
    if p0 = (3 : Int32) then (
      some (1 : Int32)
    ) else (
      some (0 : Int32)
    )
  )
def mX7_isSum (p0 : Int32) : Int32 :=
  if p0 = 0 then (
    (1 : Int32)
  ) else (
    if p0 = (3 : Int32) then (
      (1 : Int32)
    ) else (
      (0 : Int32)
    )
  )
theorem mX7_isSum_eq (p0 : Int32) : mX7_isSum' p0 = some (mX7_isSum p0) := by
  unfold mX7_isSum' mX7_isSum
  repeat' split
  all_goals rfl
set_option maxRecDepth 100000 in
set_option maxHeartbeats 4000000 in
theorem C_X7_isSum (p0 : Int32) (M : tr_M) : tr_I yX7_isSum (xX7_isSum) [.int p0] M (some (.int (mX7_isSum p0))) M := by
  refine tr_I.of (Z := fun q : Int32 => (some (.int (mX7_isSum p0)) : Option Value) = some (.int q) ∧ M = M) pn_X7 rfl gdM (Nat.le_of_ble_eq_true rfl) (fun Wt => ?_) (mX7_isSum_eq p0) ⟨rfl, rfl⟩
  unfold mX7_isSum'
  refine tr_V.iload_n (i := 0) dX7_isSum_0 rfl rfl ?_
  refine tr_V.if_eq (tgt := 9) dX7_isSum_1 (by decide) ?_ ?_
  · refine tr_V.iconst (v := (1 : Int32)) dX7_isSum_9 (by decide) ?_
    refine tr_V.goto (tgt := 14) dX7_isSum_10 (by decide) ?_
    exact tr_V.zret (by decide) dX7_isSum_14 rfl (fun h => h)
  · refine tr_V.iload_n (i := 0) dX7_isSum_4 rfl rfl ?_
    refine tr_V.iconst (v := (3 : Int32)) dX7_isSum_5 (by decide) ?_
    refine tr_V.icmp_ne (tgt := 13) dX7_isSum_6 (by decide) ?_ ?_
    · refine tr_V.iconst (v := (1 : Int32)) dX7_isSum_9 (by decide) ?_
      refine tr_V.goto (tgt := 14) dX7_isSum_10 (by decide) ?_
      exact tr_V.zret (by decide) dX7_isSum_14 rfl (fun h => h)
    · refine tr_V.iconst (v := (0 : Int32)) dX7_isSum_13 (by decide) ?_
      exact tr_V.zret (by decide) dX7_isSum_14 rfl (fun h => h)
abbrev xX7_edgeOf : tr_X := (cX7_edgeOf, 3, RX7, (some .int), 3, shM, 24)
theorem cw_X7_edgeOf : Cond.code yX7_edgeOf cX7_edgeOf 3 (some .int) ∈ tr_tbl := tr_in 1458 (by decide +kernel) rfl
theorem yk_X7_edgeOf : tr_yk yX7_edgeOf (xX7_edgeOf) 2 := ⟨cw_X7_edgeOf, in_X7, ⟨by decide +kernel, by decide +kernel, by decide +kernel⟩, Nat.le_of_ble_eq_true rfl⟩
theorem iv_X7_edgeOf : Cond.instanceMethod yX7_edgeOf ∈ tr_tbl ∧ Cond.selects (yX7_edgeOf).cls yX7_edgeOf yX7_edgeOf ∈ tr_tbl := ⟨tr_in 1457 (by decide +kernel) rfl, tr_in 78 (by decide +kernel) rfl⟩
def mX7_edgeOf (p1 : Int32) (p2 : Int32) (M : tr_M) : Option (Int32) :=
  Option.bind (show Option ((Unit) ⊕ (Int32)) from
    if p1 = 0 then (
      some (.inl ())
    ) else (
      if p1 = (1 : Int32) then (
        some (.inl ())
      ) else (
        Option.bind (mX7_heldOf p2 M) (fun c2 =>
        some (.inr c2)
        )
      )
    )
  ) (tr_el (fun (v1 : Unit) =>
    Option.bind (mX7_cutOf p2 M) (fun c4 =>
    some c4
    )
  ))
set_option maxRecDepth 100000 in
set_option maxHeartbeats 4000000 in
theorem C_X7_edgeOf (p1 : Int32) (p2 : Int32) (M : tr_M) (r : Int32) (h : mX7_edgeOf p1 p2 M = some r) : tr_I yX7_edgeOf (xX7_edgeOf) [.ref 1, .int p1, .int p2] M (some (.int r)) M := by
  refine tr_I.of (Z := fun q : Int32 => (some (.int r) : Option Value) = some (.int q) ∧ M = M) pn_X7 rfl gdM (Nat.le_of_ble_eq_true rfl) (fun Wt => ?_) h ⟨rfl, rfl⟩
  unfold mX7_edgeOf
  refine tr_V.iload_n (i := 1) dX7_edgeOf_0 rfl rfl ?_
  refine tr_V.seqE (τ := Unit) (pc' := 9) (L := fun v1 => [(0, some (.ref 1)), (2, some (.int p2))]) (S := fun v1 => []) (Mf := fun v1 => M) ?_ ?_
  · refine tr_V.if_eq (tgt := 9) dX7_edgeOf_1 (by decide) ?_ ?_
    · exact tr_V.to (fun h => h) ⟨rfl, rfl, trivial⟩
    · refine tr_V.iload_n (i := 1) dX7_edgeOf_4 rfl rfl ?_
      refine tr_V.iconst (v := (1 : Int32)) dX7_edgeOf_5 (by decide) ?_
      refine tr_V.icmp_ne (tgt := 17) dX7_edgeOf_6 (by decide) ?_ ?_
      · exact tr_V.to (fun h => h) ⟨rfl, rfl, trivial⟩
      · refine tr_V.aload_n (i := 0) dX7_edgeOf_17 rfl rfl ?_
        refine tr_V.iload_n (i := 2) dX7_edgeOf_18 rfl rfl ?_
        refine tr_V.bd (fun c2 h3 => ?_)
        refine tr_V.callV (C_X7_heldOf p2 M _ h3) yk_X7_heldOf iv_X7_heldOf ml_X7_198 shM_1 rfl ⟨rfl, Nat.le_of_ble_eq_true rfl⟩ rfl (Nat.le_of_ble_eq_true rfl) rfl dX7_edgeOf_19 ?_
        exact tr_V.iret dX7_edgeOf_22 rfl (fun h => h)
  · intro v1
    refine tr_V.aload_n (i := 0) dX7_edgeOf_9 rfl rfl ?_
    refine tr_V.iload_n (i := 2) dX7_edgeOf_10 rfl rfl ?_
    refine tr_V.bd (fun c4 h5 => ?_)
    refine tr_V.callV (C_X7_cutOf p2 M _ h5) yk_X7_cutOf iv_X7_cutOf ml_X7_195 shM_1 rfl ⟨rfl, Nat.le_of_ble_eq_true rfl⟩ rfl (Nat.le_of_ble_eq_true rfl) rfl dX7_edgeOf_11 ?_
    refine tr_V.goto (tgt := 22) dX7_edgeOf_14 (by decide) ?_
    exact tr_V.iret dX7_edgeOf_22 rfl (fun h => h)
abbrev xX7_measureNow : tr_X := (cX7_measureNow, 6, RX7, (some .int), 4, shM, 24)
theorem cw_X7_measureNow : Cond.code yX7_measureNow cX7_measureNow 6 (some .int) ∈ tr_tbl := tr_in 1447 (by decide +kernel) rfl
theorem yk_X7_measureNow : tr_yk yX7_measureNow (xX7_measureNow) 1 := ⟨cw_X7_measureNow, in_X7, ⟨by decide +kernel, by decide +kernel, by decide +kernel⟩, Nat.le_of_ble_eq_true rfl⟩
theorem iv_X7_measureNow : Cond.instanceMethod yX7_measureNow ∈ tr_tbl ∧ Cond.selects (yX7_measureNow).cls yX7_measureNow yX7_measureNow ∈ tr_tbl := ⟨tr_in 1446 (by decide +kernel) rfl, tr_in 76 (by decide +kernel) rfl⟩
def mX7_measureNow_l17 (p1 : Int32) (M : tr_M) (s3 : Int32 × Int32 × Int32) : Option ((Int32 × Int32 × Int32) ⊕ (Int32)) :=
  if s3.2.2 < ((M.1 1 10) - (1 : Int32)) then (
    Option.bind (tr_rd 10 M 12 s3.2.2) (fun a4 =>
    Option.bind (some (s3.2.1 ||| ((1 : Int32) <<< (a4 &&& 31)))) (fun x6 =>
    Option.bind (mX7_edgeOf p1 x6 M) (fun c8 =>
    if (mX7_isSum p1) = 0 then (
      some (.inl ((mX7_greater s3.1 c8), x6, (s3.2.2 + (1 : Int32))))
    ) else (
      some (.inl ((s3.1 + c8), x6, (s3.2.2 + (1 : Int32))))
    )
    )
    )
    )
  ) else (
    some (.inr s3.1)
  )
def mX7_measureNow (p1 : Int32) (M : tr_M) : Option (Int32) :=
  if p1 = (4 : Int32) then (
    Option.bind (mX7_reachNow M) (fun c1 =>
    some c1
    )
  ) else (
    tr_loop (mX7_measureNow_l17 p1 M) ((0 : Int32), (0 : Int32), (0 : Int32))
  )
set_option maxRecDepth 100000 in
set_option maxHeartbeats 4000000 in
theorem C_X7_measureNow (p1 : Int32) (M : tr_M) (r : Int32) (h : mX7_measureNow p1 M = some r) : tr_I yX7_measureNow (xX7_measureNow) [.ref 1, .int p1] M (some (.int r)) M := by
  refine tr_I.of (Z := fun q : Int32 => (some (.int r) : Option Value) = some (.int q) ∧ M = M) pn_X7 rfl gdM (Nat.le_of_ble_eq_true rfl) (fun Wt => ?_) h ⟨rfl, rfl⟩
  unfold mX7_measureNow
  refine tr_V.iload_n (i := 1) dX7_measureNow_0 rfl rfl ?_
  refine tr_V.iconst (v := (4 : Int32)) dX7_measureNow_1 (by decide) ?_
  refine tr_V.icmp_ne (tgt := 10) dX7_measureNow_2 (by decide) ?_ ?_
  · refine tr_V.aload_n (i := 0) dX7_measureNow_5 rfl rfl ?_
    refine tr_V.bd (fun c1 h2 => ?_)
    refine tr_V.callV (C_X7_reachNow M _ h2) yk_X7_reachNow iv_X7_reachNow ml_X7_201 shM_1 rfl ⟨rfl, Nat.le_of_ble_eq_true rfl⟩ rfl (Nat.le_of_ble_eq_true rfl) rfl dX7_measureNow_6 ?_
    exact tr_V.iret dX7_measureNow_9 rfl (fun h => h)
  · refine tr_V.iconst (v := (0 : Int32)) dX7_measureNow_10 (by decide) ?_
    refine tr_V.istore_n (i := 2) dX7_measureNow_11 rfl (Nat.le_of_ble_eq_true rfl) rfl ?_
    refine tr_V.iconst (v := (0 : Int32)) dX7_measureNow_12 (by decide) ?_
    refine tr_V.istore_n (i := 3) dX7_measureNow_13 rfl (Nat.le_of_ble_eq_true rfl) rfl ?_
    refine tr_V.iconst (v := (0 : Int32)) dX7_measureNow_14 (by decide) ?_
    refine tr_V.istore (i := 4) dX7_measureNow_15 (Nat.le_of_ble_eq_true rfl) rfl ?_
    refine tr_V.loop (σ := Int32 × Int32 × Int32) (step := mX7_measureNow_l17 p1 M) (L := fun s3 => [(0, some (.ref 1)), (1, some (.int p1)), (2, some (.int s3.1)), (3, some (.int s3.2.1)), (4, some (.int s3.2.2))]) (Mf := fun s3 => M) ?_ ((0 : Int32), (0 : Int32), (0 : Int32)) ⟨rfl, rfl, rfl, rfl, rfl, trivial⟩
    intro s3
    refine tr_V.iload dX7_measureNow_17 rfl ?_
    refine tr_V.aload_n (i := 0) dX7_measureNow_19 rfl rfl ?_
    refine tr_V.getI fl_X7_157 shM_1 rfl dX7_measureNow_20 ?_
    refine tr_V.iconst (v := (1 : Int32)) dX7_measureNow_23 (by decide) ?_
    refine tr_V.isub dX7_measureNow_24 ?_
    refine tr_V.icmp_ge (tgt := 75) dX7_measureNow_25 (by decide) ?_ ?_
    · refine tr_V.iload_n (i := 3) dX7_measureNow_28 rfl rfl ?_
      refine tr_V.iconst (v := (1 : Int32)) dX7_measureNow_29 (by decide) ?_
      refine tr_V.aload_n (i := 0) dX7_measureNow_30 rfl rfl ?_
      refine tr_V.getR (Nat.succ_pos _) fl_X7_41 shM_1 rfl dX7_measureNow_31 ?_
      refine tr_V.iload dX7_measureNow_34 rfl ?_
      refine tr_V.bd (fun a4 h5 => ?_)
      refine tr_V.iald h5 shM_12 dX7_measureNow_36 ?_
      refine tr_V.ishl dX7_measureNow_37 ?_
      refine tr_V.ior dX7_measureNow_38 ?_
      refine tr_V.bd (fun x6 h7 => ?_)
      refine tr_V.nmI h7 ?_
      refine tr_V.istore_n (i := 3) dX7_measureNow_39 rfl (Nat.le_of_ble_eq_true rfl) rfl ?_
      refine tr_V.aload_n (i := 0) dX7_measureNow_40 rfl rfl ?_
      refine tr_V.iload_n (i := 1) dX7_measureNow_41 rfl rfl ?_
      refine tr_V.iload_n (i := 3) dX7_measureNow_42 rfl rfl ?_
      refine tr_V.bd (fun c8 h9 => ?_)
      refine tr_V.callV (C_X7_edgeOf p1 x6 M _ h9) yk_X7_edgeOf iv_X7_edgeOf ml_X7_205 shM_1 rfl ⟨rfl, Nat.le_of_ble_eq_true rfl⟩ rfl (Nat.le_of_ble_eq_true rfl) rfl dX7_measureNow_43 ?_
      refine tr_V.istore (i := 5) dX7_measureNow_46 (Nat.le_of_ble_eq_true rfl) rfl ?_
      refine tr_V.iload_n (i := 1) dX7_measureNow_48 rfl rfl ?_
      refine tr_V.callS (C_X7_isSum p1 M) yk_X7_isSum sc_X7_isSum ml_X7_208 ⟨rfl, Nat.le_of_ble_eq_true rfl⟩ rfl (Nat.le_of_ble_eq_true rfl) rfl dX7_measureNow_49 ?_
      refine tr_V.if_eq (tgt := 62) dX7_measureNow_52 (by decide) ?_ ?_
      · refine tr_V.iload_n (i := 2) dX7_measureNow_62 rfl rfl ?_
        refine tr_V.iload dX7_measureNow_63 rfl ?_
        refine tr_V.callS (C_X7_greater s3.1 c8 M) yk_X7_greater sc_X7_greater ml_X7_192 ⟨rfl, Nat.le_of_ble_eq_true rfl⟩ rfl (Nat.le_of_ble_eq_true rfl) rfl dX7_measureNow_65 ?_
        refine tr_V.istore_n (i := 2) dX7_measureNow_68 rfl (Nat.le_of_ble_eq_true rfl) rfl ?_
        refine tr_V.iinc (cst := (1 : Int32)) dX7_measureNow_69 rfl (by decide) rfl ?_
        refine tr_V.goto (tgt := 17) dX7_measureNow_72 (by decide) ?_
        exact tr_V.to (fun h => h) ⟨rfl, rfl, rfl, rfl, rfl, trivial⟩
      · refine tr_V.iload_n (i := 2) dX7_measureNow_55 rfl rfl ?_
        refine tr_V.iload dX7_measureNow_56 rfl ?_
        refine tr_V.iadd dX7_measureNow_58 ?_
        refine tr_V.goto (tgt := 68) dX7_measureNow_59 (by decide) ?_
        refine tr_V.istore_n (i := 2) dX7_measureNow_68 rfl (Nat.le_of_ble_eq_true rfl) rfl ?_
        refine tr_V.iinc (cst := (1 : Int32)) dX7_measureNow_69 rfl (by decide) rfl ?_
        refine tr_V.goto (tgt := 17) dX7_measureNow_72 (by decide) ?_
        exact tr_V.to (fun h => h) ⟨rfl, rfl, rfl, rfl, rfl, trivial⟩
    · refine tr_V.iload_n (i := 2) dX7_measureNow_75 rfl rfl ?_
      exact tr_V.iret dX7_measureNow_76 rfl (fun h => h)
abbrev xX7_measure : tr_X := (cX7_measure, 4, RX7, (some .int), 5, shM, 24)
theorem cw_X7_measure : Cond.code yX7_measure cX7_measure 4 (some .int) ∈ tr_tbl := tr_in 1429 (by decide +kernel) rfl
theorem yk_X7_measure : tr_yk yX7_measure (xX7_measure) 2 := ⟨cw_X7_measure, in_X7, ⟨by decide +kernel, by decide +kernel, by decide +kernel⟩, Nat.le_of_ble_eq_true rfl⟩
theorem iv_X7_measure : Cond.instanceMethod yX7_measure ∈ tr_tbl ∧ Cond.selects (yX7_measure).cls yX7_measure yX7_measure ∈ tr_tbl := ⟨tr_in 1427 (by decide +kernel) rfl, tr_in 1428 (by decide +kernel) rfl⟩
def mX7_measure (p1 : Int32) (p2 : Int32) (M : tr_M) : Option (Int32 × tr_M) :=
  Option.bind (mX7_isMeasure p1) (fun c1 =>
  if c1 = 0 then (
    some ((-1 : Int32), M)
  ) else (
    Option.bind (mX7_isRow p2) (fun c3 =>
    if c3 = 0 then (
      some ((-1 : Int32), M)
    ) else (
      Option.bind (mX7_needOrder p2 M) (fun c5 =>
      if c5.1 < 0 then (
        some (c5.1, c5.2)
      ) else (
        Option.bind (mX7_measureNow p1 c5.2) (fun c7 =>
        some (c7, c5.2)
        )
      )
      )
    )
    )
  )
  )
set_option maxRecDepth 100000 in
set_option maxHeartbeats 4000000 in
theorem C_X7_measure (p1 : Int32) (p2 : Int32) (M : tr_M) (r : Int32 × tr_M) (h : mX7_measure p1 p2 M = some r) : tr_I yX7_measure (xX7_measure) [.ref 1, .int p1, .int p2] M (some (.int r.1)) r.2 := by
  refine tr_I.of (Z := fun q : Int32 × tr_M => (some (.int r.1) : Option Value) = some (.int q.1) ∧ r.2 = q.2) pn_X7 rfl gdM (Nat.le_of_ble_eq_true rfl) (fun Wt => ?_) h ⟨rfl, rfl⟩
  unfold mX7_measure
  refine tr_V.iload_n (i := 1) dX7_measure_0 rfl rfl ?_
  refine tr_V.bd (fun c1 h2 => ?_)
  refine tr_V.callS (C_X7_isMeasure p1 M _ h2) yk_X7_isMeasure sc_X7_isMeasure ml_X7_211 ⟨rfl, Nat.le_of_ble_eq_true rfl⟩ rfl (Nat.le_of_ble_eq_true rfl) rfl dX7_measure_1 ?_
  refine tr_V.if_eq (tgt := 14) dX7_measure_4 (by decide) ?_ ?_
  · refine tr_V.iconst (v := (-1 : Int32)) dX7_measure_14 (by decide) ?_
    exact tr_V.iret dX7_measure_15 rfl (fun h => h)
  · refine tr_V.iload_n (i := 2) dX7_measure_7 rfl rfl ?_
    refine tr_V.bd (fun c3 h4 => ?_)
    refine tr_V.callS (C_X7_isRow p2 M _ h4) yk_X7_isRow sc_X7_isRow ml_X7_102 ⟨rfl, Nat.le_of_ble_eq_true rfl⟩ rfl (Nat.le_of_ble_eq_true rfl) rfl dX7_measure_8 ?_
    refine tr_V.if_ne (tgt := 16) dX7_measure_11 (by decide) ?_ ?_
    · refine tr_V.iconst (v := (-1 : Int32)) dX7_measure_14 (by decide) ?_
      exact tr_V.iret dX7_measure_15 rfl (fun h => h)
    · refine tr_V.aload_n (i := 0) dX7_measure_16 rfl rfl ?_
      refine tr_V.iload_n (i := 2) dX7_measure_17 rfl rfl ?_
      refine tr_V.bd (fun c5 h6 => ?_)
      refine tr_V.callV (C_X7_needOrder p2 M _ h6) yk_X7_needOrder iv_X7_needOrder ml_X7_214 shM_1 rfl ⟨rfl, Nat.le_of_ble_eq_true rfl⟩ rfl (Nat.le_of_ble_eq_true rfl) rfl dX7_measure_18 ?_
      refine tr_V.istore_n (i := 3) dX7_measure_21 rfl (Nat.le_of_ble_eq_true rfl) rfl ?_
      refine tr_V.iload_n (i := 3) dX7_measure_22 rfl rfl ?_
      refine tr_V.if_ge (tgt := 30) dX7_measure_23 (by decide) ?_ ?_
      · refine tr_V.iload_n (i := 3) dX7_measure_26 rfl rfl ?_
        refine tr_V.goto (tgt := 35) dX7_measure_27 (by decide) ?_
        exact tr_V.iret dX7_measure_35 rfl (fun h => h)
      · refine tr_V.aload_n (i := 0) dX7_measure_30 rfl rfl ?_
        refine tr_V.iload_n (i := 1) dX7_measure_31 rfl rfl ?_
        refine tr_V.bd (fun c7 h8 => ?_)
        refine tr_V.callV (C_X7_measureNow p1 c5.2 _ h8) yk_X7_measureNow iv_X7_measureNow ml_X7_217 shM_1 rfl ⟨rfl, Nat.le_of_ble_eq_true rfl⟩ rfl (Nat.le_of_ble_eq_true rfl) rfl dX7_measure_32 ?_
        exact tr_V.iret dX7_measure_35 rfl (fun h => h)
abbrev xX7_isKept : tr_X := (cX7_isKept, 6, RX7, (some .boolean), 2, shM, 24)
theorem cw_X7_isKept : Cond.code yX7_isKept cX7_isKept 6 (some .boolean) ∈ tr_tbl := tr_in 1481 (by decide +kernel) rfl
theorem yk_X7_isKept : tr_yk yX7_isKept (xX7_isKept) 1 := ⟨cw_X7_isKept, in_X7, ⟨by decide +kernel, by decide +kernel, by decide +kernel⟩, Nat.le_of_ble_eq_true rfl⟩
theorem iv_X7_isKept : Cond.instanceMethod yX7_isKept ∈ tr_tbl ∧ Cond.selects (yX7_isKept).cls yX7_isKept yX7_isKept ∈ tr_tbl := ⟨tr_in 1480 (by decide +kernel) rfl, tr_in 82 (by decide +kernel) rfl⟩
def mX7_isKept (p1 : Int32) (M : tr_M) : Option (Int32) :=
  Option.bind (mX7_ruleAt p1 (1 : Int32) M) (fun c1 =>
  Option.bind (tr_rd 10 M 13 c1) (fun a3 =>
  Option.bind (mX7_ruleAt p1 (0 : Int32) M) (fun c5 =>
  Option.bind (mX7_ruleAt p1 (2 : Int32) M) (fun c7 =>
  Option.bind (mX7_ruleAt p1 (4 : Int32) M) (fun c9 =>
  if c9 = (1 : Int32) then (
    some (1 : Int32)
  ) else (
    if c5 = 0 then (
      some (1 : Int32)
    ) else (
      if c5 = (3 : Int32) then (
        if a3 = c7 then (
          some (1 : Int32)
        ) else (
          some (0 : Int32)
        )
      ) else (
        if c5 = (4 : Int32) then (
          if c7 < a3 then (
            some (0 : Int32)
          ) else (
            some (1 : Int32)
          )
        ) else (
          Option.bind (tr_rd 10 M 13 c7) (fun a11 =>
          if c5 = (1 : Int32) then (
            if a3 < a11 then (
              some (1 : Int32)
            ) else (
              some (0 : Int32)
            )
          ) else (
          if c5 = (2 : Int32) then (
            if (a3 + (1 : Int32)) = a11 then (
              some (1 : Int32)
            ) else (
              some (0 : Int32)
            )
          ) else (
          if c5 = (3 : Int32) then (
            Option.bind (show Option (Int32) from
              if a11 < a3 then (
                some (1 : Int32)
              ) else (
                some (0 : Int32)
              )
            ) (fun (v15 : Int32) =>
              Option.bind (mX7_ruleAt p1 (3 : Int32) M) (fun c16 =>
              Option.bind (tr_rd 10 M 13 c16) (fun a18 =>
              Option.bind (show Option (Int32) from
                if a18 < a3 then (
                  some (1 : Int32)
                ) else (
                  some (0 : Int32)
                )
              ) (fun (v20 : Int32) =>
                if v15 = v20 then (
                  some (0 : Int32)
                ) else (
                  some (1 : Int32)
                )
              )
              )
              )
            )
          ) else (
          if c5 = (4 : Int32) then (
            Option.bind (show Option (Int32) from
              if a11 < a3 then (
                some (1 : Int32)
              ) else (
                some (0 : Int32)
              )
            ) (fun (v22 : Int32) =>
              Option.bind (mX7_ruleAt p1 (3 : Int32) M) (fun c23 =>
              Option.bind (tr_rd 10 M 13 c23) (fun a25 =>
              Option.bind (show Option (Int32) from
                if a25 < a3 then (
                  some (1 : Int32)
                ) else (
                  some (0 : Int32)
                )
              ) (fun (v27 : Int32) =>
                if v22 = v27 then (
                  some (0 : Int32)
                ) else (
                  some (1 : Int32)
                )
              )
              )
              )
            )
          ) else (
          if c5 = (5 : Int32) then (
            if (1 : Int32) < (a3 - a11) then (
              some (1 : Int32)
            ) else (
              if (1 : Int32) < (a11 - a3) then (
                some (1 : Int32)
              ) else (
                some (0 : Int32)
              )
            )
          ) else (
            Option.bind (show Option (Int32) from
              if a11 < a3 then (
                some (1 : Int32)
              ) else (
                some (0 : Int32)
              )
            ) (fun (v30 : Int32) =>
              Option.bind (mX7_ruleAt p1 (3 : Int32) M) (fun c31 =>
              Option.bind (tr_rd 10 M 13 c31) (fun a33 =>
              Option.bind (show Option (Int32) from
                if a33 < a3 then (
                  some (1 : Int32)
                ) else (
                  some (0 : Int32)
                )
              ) (fun (v35 : Int32) =>
                if v30 = v35 then (
                  some (0 : Int32)
                ) else (
                  some (1 : Int32)
                )
              )
              )
              )
            )
          )))))
          )
        )
      )
    )
  )
  )
  )
  )
  )
  )
set_option maxRecDepth 100000 in
set_option maxHeartbeats 4000000 in
theorem C_X7_isKept (p1 : Int32) (M : tr_M) (r : Int32) (h : mX7_isKept p1 M = some r) : tr_I yX7_isKept (xX7_isKept) [.ref 1, .int p1] M (some (.int r)) M := by
  refine tr_I.of (Z := fun q : Int32 => (some (.int r) : Option Value) = some (.int q) ∧ M = M) pn_X7 rfl gdM (Nat.le_of_ble_eq_true rfl) (fun Wt => ?_) h ⟨rfl, rfl⟩
  unfold mX7_isKept
  refine tr_V.aload_n (i := 0) dX7_isKept_0 rfl rfl ?_
  refine tr_V.getR (Nat.succ_pos _) fl_X7_44 shM_1 rfl dX7_isKept_1 ?_
  refine tr_V.aload_n (i := 0) dX7_isKept_4 rfl rfl ?_
  refine tr_V.iload_n (i := 1) dX7_isKept_5 rfl rfl ?_
  refine tr_V.iconst (v := (1 : Int32)) dX7_isKept_6 (by decide) ?_
  refine tr_V.bd (fun c1 h2 => ?_)
  refine tr_V.callV (C_X7_ruleAt p1 (1 : Int32) M _ h2) yk_X7_ruleAt iv_X7_ruleAt ml_X7_180 shM_1 rfl ⟨rfl, Nat.le_of_ble_eq_true rfl⟩ rfl (Nat.le_of_ble_eq_true rfl) rfl dX7_isKept_7 ?_
  refine tr_V.bd (fun a3 h4 => ?_)
  refine tr_V.iald h4 shM_13 dX7_isKept_10 ?_
  refine tr_V.istore_n (i := 2) dX7_isKept_11 rfl (Nat.le_of_ble_eq_true rfl) rfl ?_
  refine tr_V.aload_n (i := 0) dX7_isKept_12 rfl rfl ?_
  refine tr_V.iload_n (i := 1) dX7_isKept_13 rfl rfl ?_
  refine tr_V.iconst (v := (0 : Int32)) dX7_isKept_14 (by decide) ?_
  refine tr_V.bd (fun c5 h6 => ?_)
  refine tr_V.callV (C_X7_ruleAt p1 (0 : Int32) M _ h6) yk_X7_ruleAt iv_X7_ruleAt ml_X7_180 shM_1 rfl ⟨rfl, Nat.le_of_ble_eq_true rfl⟩ rfl (Nat.le_of_ble_eq_true rfl) rfl dX7_isKept_15 ?_
  refine tr_V.istore_n (i := 3) dX7_isKept_18 rfl (Nat.le_of_ble_eq_true rfl) rfl ?_
  refine tr_V.aload_n (i := 0) dX7_isKept_19 rfl rfl ?_
  refine tr_V.iload_n (i := 1) dX7_isKept_20 rfl rfl ?_
  refine tr_V.iconst (v := (2 : Int32)) dX7_isKept_21 (by decide) ?_
  refine tr_V.bd (fun c7 h8 => ?_)
  refine tr_V.callV (C_X7_ruleAt p1 (2 : Int32) M _ h8) yk_X7_ruleAt iv_X7_ruleAt ml_X7_180 shM_1 rfl ⟨rfl, Nat.le_of_ble_eq_true rfl⟩ rfl (Nat.le_of_ble_eq_true rfl) rfl dX7_isKept_22 ?_
  refine tr_V.istore (i := 4) dX7_isKept_25 (Nat.le_of_ble_eq_true rfl) rfl ?_
  refine tr_V.aload_n (i := 0) dX7_isKept_27 rfl rfl ?_
  refine tr_V.iload_n (i := 1) dX7_isKept_28 rfl rfl ?_
  refine tr_V.iconst (v := (4 : Int32)) dX7_isKept_29 (by decide) ?_
  refine tr_V.bd (fun c9 h10 => ?_)
  refine tr_V.callV (C_X7_ruleAt p1 (4 : Int32) M _ h10) yk_X7_ruleAt iv_X7_ruleAt ml_X7_180 shM_1 rfl ⟨rfl, Nat.le_of_ble_eq_true rfl⟩ rfl (Nat.le_of_ble_eq_true rfl) rfl dX7_isKept_30 ?_
  refine tr_V.iconst (v := (1 : Int32)) dX7_isKept_33 (by decide) ?_
  refine tr_V.icmp_eq (tgt := 41) dX7_isKept_34 (by decide) ?_ ?_
  · refine tr_V.iconst (v := (1 : Int32)) dX7_isKept_41 (by decide) ?_
    exact tr_V.zret (by decide) dX7_isKept_42 rfl (fun h => h)
  · refine tr_V.iload_n (i := 3) dX7_isKept_37 rfl rfl ?_
    refine tr_V.if_ne (tgt := 43) dX7_isKept_38 (by decide) ?_ ?_
    · refine tr_V.iconst (v := (1 : Int32)) dX7_isKept_41 (by decide) ?_
      exact tr_V.zret (by decide) dX7_isKept_42 rfl (fun h => h)
    · refine tr_V.iload_n (i := 3) dX7_isKept_43 rfl rfl ?_
      refine tr_V.iconst (v := (3 : Int32)) dX7_isKept_44 (by decide) ?_
      refine tr_V.icmp_ne (tgt := 60) dX7_isKept_45 (by decide) ?_ ?_
      · refine tr_V.iload_n (i := 2) dX7_isKept_48 rfl rfl ?_
        refine tr_V.iload dX7_isKept_49 rfl ?_
        refine tr_V.icmp_ne (tgt := 58) dX7_isKept_51 (by decide) ?_ ?_
        · refine tr_V.iconst (v := (1 : Int32)) dX7_isKept_54 (by decide) ?_
          refine tr_V.goto (tgt := 59) dX7_isKept_55 (by decide) ?_
          exact tr_V.zret (by decide) dX7_isKept_59 rfl (fun h => h)
        · refine tr_V.iconst (v := (0 : Int32)) dX7_isKept_58 (by decide) ?_
          exact tr_V.zret (by decide) dX7_isKept_59 rfl (fun h => h)
      · refine tr_V.iload_n (i := 3) dX7_isKept_60 rfl rfl ?_
        refine tr_V.iconst (v := (4 : Int32)) dX7_isKept_61 (by decide) ?_
        refine tr_V.icmp_ne (tgt := 77) dX7_isKept_62 (by decide) ?_ ?_
        · refine tr_V.iload_n (i := 2) dX7_isKept_65 rfl rfl ?_
          refine tr_V.iload dX7_isKept_66 rfl ?_
          refine tr_V.icmp_gt (tgt := 75) dX7_isKept_68 (by decide) ?_ ?_
          · refine tr_V.iconst (v := (0 : Int32)) dX7_isKept_75 (by decide) ?_
            exact tr_V.zret (by decide) dX7_isKept_76 rfl (fun h => h)
          · refine tr_V.iconst (v := (1 : Int32)) dX7_isKept_71 (by decide) ?_
            refine tr_V.goto (tgt := 76) dX7_isKept_72 (by decide) ?_
            exact tr_V.zret (by decide) dX7_isKept_76 rfl (fun h => h)
        · refine tr_V.aload_n (i := 0) dX7_isKept_77 rfl rfl ?_
          refine tr_V.getR (Nat.succ_pos _) fl_X7_44 shM_1 rfl dX7_isKept_78 ?_
          refine tr_V.iload dX7_isKept_81 rfl ?_
          refine tr_V.bd (fun a11 h12 => ?_)
          refine tr_V.iald h12 shM_13 dX7_isKept_83 ?_
          refine tr_V.istore (i := 5) dX7_isKept_84 (Nat.le_of_ble_eq_true rfl) rfl ?_
          refine tr_V.iload_n (i := 3) dX7_isKept_86 rfl rfl ?_
          refine tr_V.case (k := (1 : Int32)) (fun c13 => ?_) (fun c13 => ?_)
          · refine tr_V.tableIn (tgt := 120) dX7_isKept_87 c13 (by decide) rfl (by decide) ?_
            refine tr_V.iload_n (i := 2) dX7_isKept_120 rfl rfl ?_
            refine tr_V.iload dX7_isKept_121 rfl ?_
            refine tr_V.icmp_ge (tgt := 130) dX7_isKept_123 (by decide) ?_ ?_
            · refine tr_V.iconst (v := (1 : Int32)) dX7_isKept_126 (by decide) ?_
              refine tr_V.goto (tgt := 131) dX7_isKept_127 (by decide) ?_
              exact tr_V.zret (by decide) dX7_isKept_131 rfl (fun h => h)
            · refine tr_V.iconst (v := (0 : Int32)) dX7_isKept_130 (by decide) ?_
              exact tr_V.zret (by decide) dX7_isKept_131 rfl (fun h => h)
          · refine tr_V.case (k := (2 : Int32)) (fun c14 => ?_) (fun c14 => ?_)
            · refine tr_V.tableIn (tgt := 132) dX7_isKept_87 c14 (by decide) rfl (by decide) ?_
              refine tr_V.iload_n (i := 2) dX7_isKept_132 rfl rfl ?_
              refine tr_V.iconst (v := (1 : Int32)) dX7_isKept_133 (by decide) ?_
              refine tr_V.iadd dX7_isKept_134 ?_
              refine tr_V.iload dX7_isKept_135 rfl ?_
              refine tr_V.icmp_ne (tgt := 144) dX7_isKept_137 (by decide) ?_ ?_
              · refine tr_V.iconst (v := (1 : Int32)) dX7_isKept_140 (by decide) ?_
                refine tr_V.goto (tgt := 145) dX7_isKept_141 (by decide) ?_
                exact tr_V.zret (by decide) dX7_isKept_145 rfl (fun h => h)
              · refine tr_V.iconst (v := (0 : Int32)) dX7_isKept_144 (by decide) ?_
                exact tr_V.zret (by decide) dX7_isKept_145 rfl (fun h => h)
            · refine tr_V.case (k := (3 : Int32)) (fun c21 => ?_) (fun c21 => ?_)
              · refine tr_V.tableIn (tgt := 168) dX7_isKept_87 c21 (by decide) rfl (by decide) ?_
                refine tr_V.iload dX7_isKept_168 rfl ?_
                refine tr_V.iload_n (i := 2) dX7_isKept_170 rfl rfl ?_
                refine tr_V.seq (τ := Int32) (pc' := 179) (L := fun v15 => [(0, some (.ref 1)), (1, some (.int p1)), (2, some (.int a3))]) (S := fun v15 => [.int v15]) (Mf := fun v15 => M) ?_ ?_
                · refine tr_V.icmp_ge (tgt := 178) dX7_isKept_171 (by decide) ?_ ?_
                  · refine tr_V.iconst (v := (1 : Int32)) dX7_isKept_174 (by decide) ?_
                    refine tr_V.goto (tgt := 179) dX7_isKept_175 (by decide) ?_
                    exact tr_V.to (fun h => h) ⟨rfl, rfl, rfl, trivial⟩
                  · refine tr_V.iconst (v := (0 : Int32)) dX7_isKept_178 (by decide) ?_
                    exact tr_V.to (fun h => h) ⟨rfl, rfl, rfl, trivial⟩
                · intro v15
                  refine tr_V.aload_n (i := 0) dX7_isKept_179 rfl rfl ?_
                  refine tr_V.getR (Nat.succ_pos _) fl_X7_44 shM_1 rfl dX7_isKept_180 ?_
                  refine tr_V.aload_n (i := 0) dX7_isKept_183 rfl rfl ?_
                  refine tr_V.iload_n (i := 1) dX7_isKept_184 rfl rfl ?_
                  refine tr_V.iconst (v := (3 : Int32)) dX7_isKept_185 (by decide) ?_
                  refine tr_V.bd (fun c16 h17 => ?_)
                  refine tr_V.callV (C_X7_ruleAt p1 (3 : Int32) M _ h17) yk_X7_ruleAt iv_X7_ruleAt ml_X7_180 shM_1 rfl ⟨rfl, Nat.le_of_ble_eq_true rfl⟩ rfl (Nat.le_of_ble_eq_true rfl) rfl dX7_isKept_186 ?_
                  refine tr_V.bd (fun a18 h19 => ?_)
                  refine tr_V.iald h19 shM_13 dX7_isKept_189 ?_
                  refine tr_V.iload_n (i := 2) dX7_isKept_190 rfl rfl ?_
                  refine tr_V.seq (τ := Int32) (pc' := 199) (L := fun v20 => []) (S := fun v20 => [.int v20, .int v15]) (Mf := fun v20 => M) ?_ ?_
                  · refine tr_V.icmp_ge (tgt := 198) dX7_isKept_191 (by decide) ?_ ?_
                    · refine tr_V.iconst (v := (1 : Int32)) dX7_isKept_194 (by decide) ?_
                      refine tr_V.goto (tgt := 199) dX7_isKept_195 (by decide) ?_
                      exact tr_V.to (fun h => h) trivial
                    · refine tr_V.iconst (v := (0 : Int32)) dX7_isKept_198 (by decide) ?_
                      exact tr_V.to (fun h => h) trivial
                  · intro v20
                    refine tr_V.icmp_eq (tgt := 206) dX7_isKept_199 (by decide) ?_ ?_
                    · refine tr_V.iconst (v := (0 : Int32)) dX7_isKept_206 (by decide) ?_
                      exact tr_V.zret (by decide) dX7_isKept_207 rfl (fun h => h)
                    · refine tr_V.iconst (v := (1 : Int32)) dX7_isKept_202 (by decide) ?_
                      refine tr_V.goto (tgt := 207) dX7_isKept_203 (by decide) ?_
                      exact tr_V.zret (by decide) dX7_isKept_207 rfl (fun h => h)
              · refine tr_V.case (k := (4 : Int32)) (fun c28 => ?_) (fun c28 => ?_)
                · refine tr_V.tableIn (tgt := 168) dX7_isKept_87 c28 (by decide) rfl (by decide) ?_
                  refine tr_V.iload dX7_isKept_168 rfl ?_
                  refine tr_V.iload_n (i := 2) dX7_isKept_170 rfl rfl ?_
                  refine tr_V.seq (τ := Int32) (pc' := 179) (L := fun v22 => [(0, some (.ref 1)), (1, some (.int p1)), (2, some (.int a3))]) (S := fun v22 => [.int v22]) (Mf := fun v22 => M) ?_ ?_
                  · refine tr_V.icmp_ge (tgt := 178) dX7_isKept_171 (by decide) ?_ ?_
                    · refine tr_V.iconst (v := (1 : Int32)) dX7_isKept_174 (by decide) ?_
                      refine tr_V.goto (tgt := 179) dX7_isKept_175 (by decide) ?_
                      exact tr_V.to (fun h => h) ⟨rfl, rfl, rfl, trivial⟩
                    · refine tr_V.iconst (v := (0 : Int32)) dX7_isKept_178 (by decide) ?_
                      exact tr_V.to (fun h => h) ⟨rfl, rfl, rfl, trivial⟩
                  · intro v22
                    refine tr_V.aload_n (i := 0) dX7_isKept_179 rfl rfl ?_
                    refine tr_V.getR (Nat.succ_pos _) fl_X7_44 shM_1 rfl dX7_isKept_180 ?_
                    refine tr_V.aload_n (i := 0) dX7_isKept_183 rfl rfl ?_
                    refine tr_V.iload_n (i := 1) dX7_isKept_184 rfl rfl ?_
                    refine tr_V.iconst (v := (3 : Int32)) dX7_isKept_185 (by decide) ?_
                    refine tr_V.bd (fun c23 h24 => ?_)
                    refine tr_V.callV (C_X7_ruleAt p1 (3 : Int32) M _ h24) yk_X7_ruleAt iv_X7_ruleAt ml_X7_180 shM_1 rfl ⟨rfl, Nat.le_of_ble_eq_true rfl⟩ rfl (Nat.le_of_ble_eq_true rfl) rfl dX7_isKept_186 ?_
                    refine tr_V.bd (fun a25 h26 => ?_)
                    refine tr_V.iald h26 shM_13 dX7_isKept_189 ?_
                    refine tr_V.iload_n (i := 2) dX7_isKept_190 rfl rfl ?_
                    refine tr_V.seq (τ := Int32) (pc' := 199) (L := fun v27 => []) (S := fun v27 => [.int v27, .int v22]) (Mf := fun v27 => M) ?_ ?_
                    · refine tr_V.icmp_ge (tgt := 198) dX7_isKept_191 (by decide) ?_ ?_
                      · refine tr_V.iconst (v := (1 : Int32)) dX7_isKept_194 (by decide) ?_
                        refine tr_V.goto (tgt := 199) dX7_isKept_195 (by decide) ?_
                        exact tr_V.to (fun h => h) trivial
                      · refine tr_V.iconst (v := (0 : Int32)) dX7_isKept_198 (by decide) ?_
                        exact tr_V.to (fun h => h) trivial
                    · intro v27
                      refine tr_V.icmp_eq (tgt := 206) dX7_isKept_199 (by decide) ?_ ?_
                      · refine tr_V.iconst (v := (0 : Int32)) dX7_isKept_206 (by decide) ?_
                        exact tr_V.zret (by decide) dX7_isKept_207 rfl (fun h => h)
                      · refine tr_V.iconst (v := (1 : Int32)) dX7_isKept_202 (by decide) ?_
                        refine tr_V.goto (tgt := 207) dX7_isKept_203 (by decide) ?_
                        exact tr_V.zret (by decide) dX7_isKept_207 rfl (fun h => h)
                · refine tr_V.case (k := (5 : Int32)) (fun c29 => ?_) (fun c29 => ?_)
                  · refine tr_V.tableIn (tgt := 146) dX7_isKept_87 c29 (by decide) rfl (by decide) ?_
                    refine tr_V.iload_n (i := 2) dX7_isKept_146 rfl rfl ?_
                    refine tr_V.iload dX7_isKept_147 rfl ?_
                    refine tr_V.isub dX7_isKept_149 ?_
                    refine tr_V.iconst (v := (1 : Int32)) dX7_isKept_150 (by decide) ?_
                    refine tr_V.icmp_gt (tgt := 162) dX7_isKept_151 (by decide) ?_ ?_
                    · refine tr_V.iconst (v := (1 : Int32)) dX7_isKept_162 (by decide) ?_
                      refine tr_V.goto (tgt := 167) dX7_isKept_163 (by decide) ?_
                      exact tr_V.zret (by decide) dX7_isKept_167 rfl (fun h => h)
                    · refine tr_V.iload dX7_isKept_154 rfl ?_
                      refine tr_V.iload_n (i := 2) dX7_isKept_156 rfl rfl ?_
                      refine tr_V.isub dX7_isKept_157 ?_
                      refine tr_V.iconst (v := (1 : Int32)) dX7_isKept_158 (by decide) ?_
                      refine tr_V.icmp_le (tgt := 166) dX7_isKept_159 (by decide) ?_ ?_
                      · refine tr_V.iconst (v := (1 : Int32)) dX7_isKept_162 (by decide) ?_
                        refine tr_V.goto (tgt := 167) dX7_isKept_163 (by decide) ?_
                        exact tr_V.zret (by decide) dX7_isKept_167 rfl (fun h => h)
                      · refine tr_V.iconst (v := (0 : Int32)) dX7_isKept_166 (by decide) ?_
                        exact tr_V.zret (by decide) dX7_isKept_167 rfl (fun h => h)
                  · refine tr_V.tableOut (tgt := 168) dX7_isKept_87 (by have := lv_neT c13 (a := 1) (by decide); have := lv_neT c14 (a := 2) (by decide); have := lv_neT c21 (a := 3) (by decide); have := lv_neT c28 (a := 4) (by decide); have := lv_neT c29 (a := 5) (by decide); omega) (by decide) ?_
                    refine tr_V.iload dX7_isKept_168 rfl ?_
                    refine tr_V.iload_n (i := 2) dX7_isKept_170 rfl rfl ?_
                    refine tr_V.seq (τ := Int32) (pc' := 179) (L := fun v30 => [(0, some (.ref 1)), (1, some (.int p1)), (2, some (.int a3))]) (S := fun v30 => [.int v30]) (Mf := fun v30 => M) ?_ ?_
                    · refine tr_V.icmp_ge (tgt := 178) dX7_isKept_171 (by decide) ?_ ?_
                      · refine tr_V.iconst (v := (1 : Int32)) dX7_isKept_174 (by decide) ?_
                        refine tr_V.goto (tgt := 179) dX7_isKept_175 (by decide) ?_
                        exact tr_V.to (fun h => h) ⟨rfl, rfl, rfl, trivial⟩
                      · refine tr_V.iconst (v := (0 : Int32)) dX7_isKept_178 (by decide) ?_
                        exact tr_V.to (fun h => h) ⟨rfl, rfl, rfl, trivial⟩
                    · intro v30
                      refine tr_V.aload_n (i := 0) dX7_isKept_179 rfl rfl ?_
                      refine tr_V.getR (Nat.succ_pos _) fl_X7_44 shM_1 rfl dX7_isKept_180 ?_
                      refine tr_V.aload_n (i := 0) dX7_isKept_183 rfl rfl ?_
                      refine tr_V.iload_n (i := 1) dX7_isKept_184 rfl rfl ?_
                      refine tr_V.iconst (v := (3 : Int32)) dX7_isKept_185 (by decide) ?_
                      refine tr_V.bd (fun c31 h32 => ?_)
                      refine tr_V.callV (C_X7_ruleAt p1 (3 : Int32) M _ h32) yk_X7_ruleAt iv_X7_ruleAt ml_X7_180 shM_1 rfl ⟨rfl, Nat.le_of_ble_eq_true rfl⟩ rfl (Nat.le_of_ble_eq_true rfl) rfl dX7_isKept_186 ?_
                      refine tr_V.bd (fun a33 h34 => ?_)
                      refine tr_V.iald h34 shM_13 dX7_isKept_189 ?_
                      refine tr_V.iload_n (i := 2) dX7_isKept_190 rfl rfl ?_
                      refine tr_V.seq (τ := Int32) (pc' := 199) (L := fun v35 => []) (S := fun v35 => [.int v35, .int v30]) (Mf := fun v35 => M) ?_ ?_
                      · refine tr_V.icmp_ge (tgt := 198) dX7_isKept_191 (by decide) ?_ ?_
                        · refine tr_V.iconst (v := (1 : Int32)) dX7_isKept_194 (by decide) ?_
                          refine tr_V.goto (tgt := 199) dX7_isKept_195 (by decide) ?_
                          exact tr_V.to (fun h => h) trivial
                        · refine tr_V.iconst (v := (0 : Int32)) dX7_isKept_198 (by decide) ?_
                          exact tr_V.to (fun h => h) trivial
                      · intro v35
                        refine tr_V.icmp_eq (tgt := 206) dX7_isKept_199 (by decide) ?_ ?_
                        · refine tr_V.iconst (v := (0 : Int32)) dX7_isKept_206 (by decide) ?_
                          exact tr_V.zret (by decide) dX7_isKept_207 rfl (fun h => h)
                        · refine tr_V.iconst (v := (1 : Int32)) dX7_isKept_202 (by decide) ?_
                          refine tr_V.goto (tgt := 207) dX7_isKept_203 (by decide) ?_
                          exact tr_V.zret (by decide) dX7_isKept_207 rfl (fun h => h)
abbrev xX7_brokenNow : tr_X := (cX7_brokenNow, 2, RX7, (some .int), 3, shM, 24)
theorem cw_X7_brokenNow : Cond.code yX7_brokenNow cX7_brokenNow 2 (some .int) ∈ tr_tbl := tr_in 1477 (by decide +kernel) rfl
theorem yk_X7_brokenNow : tr_yk yX7_brokenNow (xX7_brokenNow) 0 := ⟨cw_X7_brokenNow, in_X7, ⟨by decide +kernel, by decide +kernel, by decide +kernel⟩, Nat.le_of_ble_eq_true rfl⟩
theorem iv_X7_brokenNow : Cond.instanceMethod yX7_brokenNow ∈ tr_tbl ∧ Cond.selects (yX7_brokenNow).cls yX7_brokenNow yX7_brokenNow ∈ tr_tbl := ⟨tr_in 1476 (by decide +kernel) rfl, tr_in 81 (by decide +kernel) rfl⟩
def mX7_brokenNow_l2 (M : tr_M) (s1 : Int32) : Option ((Int32) ⊕ (Int32)) :=
  if s1 < (M.1 1 12) then (
    Option.bind (mX7_isKept s1 M) (fun c2 =>
    if c2 = 0 then (
      some (.inr s1)
    ) else (
      some (.inl (s1 + (1 : Int32)))
    )
    )
  ) else (
    some (.inr (-9 : Int32))
  )
def mX7_brokenNow  (M : tr_M) : Option (Int32) :=
  tr_loop (mX7_brokenNow_l2 M) (0 : Int32)
set_option maxRecDepth 100000 in
set_option maxHeartbeats 4000000 in
theorem C_X7_brokenNow  (M : tr_M) (r : Int32) (h : mX7_brokenNow M = some r) : tr_I yX7_brokenNow (xX7_brokenNow) [.ref 1] M (some (.int r)) M := by
  refine tr_I.of (Z := fun q : Int32 => (some (.int r) : Option Value) = some (.int q) ∧ M = M) pn_X7 rfl gdM (Nat.le_of_ble_eq_true rfl) (fun Wt => ?_) h ⟨rfl, rfl⟩
  unfold mX7_brokenNow
  refine tr_V.iconst (v := (0 : Int32)) dX7_brokenNow_0 (by decide) ?_
  refine tr_V.istore_n (i := 1) dX7_brokenNow_1 rfl (Nat.le_of_ble_eq_true rfl) rfl ?_
  refine tr_V.loop (σ := Int32) (step := mX7_brokenNow_l2 M) (L := fun s1 => [(0, some (.ref 1)), (1, some (.int s1))]) (Mf := fun s1 => M) ?_ (0 : Int32) ⟨rfl, rfl, trivial⟩
  intro s1
  refine tr_V.iload_n (i := 1) dX7_brokenNow_2 rfl rfl ?_
  refine tr_V.aload_n (i := 0) dX7_brokenNow_3 rfl rfl ?_
  refine tr_V.getI fl_X7_160 shM_1 rfl dX7_brokenNow_4 ?_
  refine tr_V.icmp_ge (tgt := 26) dX7_brokenNow_7 (by decide) ?_ ?_
  · refine tr_V.aload_n (i := 0) dX7_brokenNow_10 rfl rfl ?_
    refine tr_V.iload_n (i := 1) dX7_brokenNow_11 rfl rfl ?_
    refine tr_V.bd (fun c2 h3 => ?_)
    refine tr_V.callV (C_X7_isKept s1 M _ h3) yk_X7_isKept iv_X7_isKept ml_X7_220 shM_1 rfl ⟨rfl, Nat.le_of_ble_eq_true rfl⟩ rfl (Nat.le_of_ble_eq_true rfl) rfl dX7_brokenNow_12 ?_
    refine tr_V.if_ne (tgt := 20) dX7_brokenNow_15 (by decide) ?_ ?_
    · refine tr_V.iload_n (i := 1) dX7_brokenNow_18 rfl rfl ?_
      exact tr_V.iret dX7_brokenNow_19 rfl (fun h => h)
    · refine tr_V.iinc (cst := (1 : Int32)) dX7_brokenNow_20 rfl (by decide) rfl ?_
      refine tr_V.goto (tgt := 2) dX7_brokenNow_23 (by decide) ?_
      exact tr_V.to (fun h => h) ⟨rfl, rfl, trivial⟩
  · refine tr_V.bipush (v := (-9 : Int32)) dX7_brokenNow_26 (by decide) ?_
    exact tr_V.iret dX7_brokenNow_28 rfl (fun h => h)
abbrev xX7_breaks : tr_X := (cX7_breaks, 3, RX7, (some .int), 4, shM, 24)
theorem cw_X7_breaks : Cond.code yX7_breaks cX7_breaks 3 (some .int) ∈ tr_tbl := tr_in 1473 (by decide +kernel) rfl
theorem yk_X7_breaks : tr_yk yX7_breaks (xX7_breaks) 1 := ⟨cw_X7_breaks, in_X7, ⟨by decide +kernel, by decide +kernel, by decide +kernel⟩, Nat.le_of_ble_eq_true rfl⟩
theorem iv_X7_breaks : Cond.instanceMethod yX7_breaks ∈ tr_tbl ∧ Cond.selects (yX7_breaks).cls yX7_breaks yX7_breaks ∈ tr_tbl := ⟨tr_in 1471 (by decide +kernel) rfl, tr_in 1472 (by decide +kernel) rfl⟩
def mX7_breaks (p1 : Int32) (M : tr_M) : Option (Int32 × tr_M) :=
  Option.bind (mX7_isRow p1) (fun c1 =>
  if c1 = 0 then (
    some ((-1 : Int32), M)
  ) else (
    Option.bind (mX7_needOrder p1 M) (fun c3 =>
    if c3.1 < 0 then (
      some (c3.1, c3.2)
    ) else (
      Option.bind (mX7_brokenNow c3.2) (fun c5 =>
      some (c5, c3.2)
      )
    )
    )
  )
  )
set_option maxRecDepth 100000 in
set_option maxHeartbeats 4000000 in
theorem C_X7_breaks (p1 : Int32) (M : tr_M) (r : Int32 × tr_M) (h : mX7_breaks p1 M = some r) : tr_I yX7_breaks (xX7_breaks) [.ref 1, .int p1] M (some (.int r.1)) r.2 := by
  refine tr_I.of (Z := fun q : Int32 × tr_M => (some (.int r.1) : Option Value) = some (.int q.1) ∧ r.2 = q.2) pn_X7 rfl gdM (Nat.le_of_ble_eq_true rfl) (fun Wt => ?_) h ⟨rfl, rfl⟩
  unfold mX7_breaks
  refine tr_V.iload_n (i := 1) dX7_breaks_0 rfl rfl ?_
  refine tr_V.bd (fun c1 h2 => ?_)
  refine tr_V.callS (C_X7_isRow p1 M _ h2) yk_X7_isRow sc_X7_isRow ml_X7_102 ⟨rfl, Nat.le_of_ble_eq_true rfl⟩ rfl (Nat.le_of_ble_eq_true rfl) rfl dX7_breaks_1 ?_
  refine tr_V.if_ne (tgt := 9) dX7_breaks_4 (by decide) ?_ ?_
  · refine tr_V.iconst (v := (-1 : Int32)) dX7_breaks_7 (by decide) ?_
    exact tr_V.iret dX7_breaks_8 rfl (fun h => h)
  · refine tr_V.aload_n (i := 0) dX7_breaks_9 rfl rfl ?_
    refine tr_V.iload_n (i := 1) dX7_breaks_10 rfl rfl ?_
    refine tr_V.bd (fun c3 h4 => ?_)
    refine tr_V.callV (C_X7_needOrder p1 M _ h4) yk_X7_needOrder iv_X7_needOrder ml_X7_214 shM_1 rfl ⟨rfl, Nat.le_of_ble_eq_true rfl⟩ rfl (Nat.le_of_ble_eq_true rfl) rfl dX7_breaks_11 ?_
    refine tr_V.istore_n (i := 2) dX7_breaks_14 rfl (Nat.le_of_ble_eq_true rfl) rfl ?_
    refine tr_V.iload_n (i := 2) dX7_breaks_15 rfl rfl ?_
    refine tr_V.if_ge (tgt := 23) dX7_breaks_16 (by decide) ?_ ?_
    · refine tr_V.iload_n (i := 2) dX7_breaks_19 rfl rfl ?_
      refine tr_V.goto (tgt := 27) dX7_breaks_20 (by decide) ?_
      exact tr_V.iret dX7_breaks_27 rfl (fun h => h)
    · refine tr_V.aload_n (i := 0) dX7_breaks_23 rfl rfl ?_
      refine tr_V.bd (fun c5 h6 => ?_)
      refine tr_V.callV (C_X7_brokenNow c3.2 _ h6) yk_X7_brokenNow iv_X7_brokenNow ml_X7_223 shM_1 rfl ⟨rfl, Nat.le_of_ble_eq_true rfl⟩ rfl (Nat.le_of_ble_eq_true rfl) rfl dX7_breaks_24 ?_
      exact tr_V.iret dX7_breaks_27 rfl (fun h => h)
abbrev xX7_gap : tr_X := (cX7_gap, 6, RX7, (some .int), 4, shM, 24)
theorem cw_X7_gap : Cond.code yX7_gap cX7_gap 6 (some .int) ∈ tr_tbl := tr_in 1485 (by decide +kernel) rfl
theorem yk_X7_gap : tr_yk yX7_gap (xX7_gap) 2 := ⟨cw_X7_gap, in_X7, ⟨by decide +kernel, by decide +kernel, by decide +kernel⟩, Nat.le_of_ble_eq_true rfl⟩
theorem iv_X7_gap : Cond.instanceMethod yX7_gap ∈ tr_tbl ∧ Cond.selects (yX7_gap).cls yX7_gap yX7_gap ∈ tr_tbl := ⟨tr_in 1483 (by decide +kernel) rfl, tr_in 1484 (by decide +kernel) rfl⟩
def mX7_gap_l53 (p2 : Int32) (c5 : Int32 × tr_M) (s8 : Int32 × Int32) : Option ((Int32 × Int32) ⊕ (Int32)) :=
  if p2 < s8.2 then (
    some (.inr s8.1)
  ) else (
    Option.bind (tr_rd 10 c5.2 12 s8.2) (fun a9 =>
    some (.inl ((s8.1 ||| ((1 : Int32) <<< (a9 &&& 31))), (s8.2 + (1 : Int32))))
    )
  )
def mX7_gap (p1 : Int32) (p2 : Int32) (M : tr_M) : Option (Int32 × tr_M) :=
  Option.bind (mX7_isRow p1) (fun c1 =>
  if c1 = 0 then (
    some ((-1 : Int32), M)
  ) else (
    if (mX7_in p2 (0 : Int32) (8 : Int32)) = 0 then (
      some ((-1 : Int32), M)
    ) else (
      Option.bind (mX7_needOrder p1 M) (fun c5 =>
      if c5.1 < 0 then (
        some (c5.1, c5.2)
      ) else (
        if p2 < ((c5.2.1 1 10) - (1 : Int32)) then (
          Option.bind (show Option (Int32) from
            tr_loop (mX7_gap_l53 p2 c5) ((0 : Int32), (0 : Int32))
          ) (fun (v7 : Int32) =>
            Option.bind (mX7_heldOf v7 c5.2) (fun c11 =>
            Option.bind (mX7_cutOf v7 c5.2) (fun c13 =>
            Option.bind (mX7_tells c11 c13 c5.2) (fun c15 =>
            some (c15.1, c15.2)
            )
            )
            )
          )
        ) else (
          Option.bind (mX7_meets (2 : Int32) c5.2) (fun c17 =>
          some (c17.1, c17.2)
          )
        )
      )
      )
    )
  )
  )
set_option maxRecDepth 100000 in
set_option maxHeartbeats 4000000 in
theorem C_X7_gap (p1 : Int32) (p2 : Int32) (M : tr_M) (r : Int32 × tr_M) (h : mX7_gap p1 p2 M = some r) : tr_I yX7_gap (xX7_gap) [.ref 1, .int p1, .int p2] M (some (.int r.1)) r.2 := by
  refine tr_I.of (Z := fun q : Int32 × tr_M => (some (.int r.1) : Option Value) = some (.int q.1) ∧ r.2 = q.2) pn_X7 rfl gdM (Nat.le_of_ble_eq_true rfl) (fun Wt => ?_) h ⟨rfl, rfl⟩
  unfold mX7_gap
  refine tr_V.iload_n (i := 1) dX7_gap_0 rfl rfl ?_
  refine tr_V.bd (fun c1 h2 => ?_)
  refine tr_V.callS (C_X7_isRow p1 M _ h2) yk_X7_isRow sc_X7_isRow ml_X7_102 ⟨rfl, Nat.le_of_ble_eq_true rfl⟩ rfl (Nat.le_of_ble_eq_true rfl) rfl dX7_gap_1 ?_
  refine tr_V.if_eq (tgt := 17) dX7_gap_4 (by decide) ?_ ?_
  · refine tr_V.iconst (v := (-1 : Int32)) dX7_gap_17 (by decide) ?_
    exact tr_V.iret dX7_gap_18 rfl (fun h => h)
  · refine tr_V.iload_n (i := 2) dX7_gap_7 rfl rfl ?_
    refine tr_V.iconst (v := (0 : Int32)) dX7_gap_8 (by decide) ?_
    refine tr_V.bipush (v := (8 : Int32)) dX7_gap_9 (by decide) ?_
    refine tr_V.callS (C_X7_in p2 (0 : Int32) (8 : Int32) M) yk_X7_in sc_X7_in ml_X7_92 ⟨rfl, Nat.le_of_ble_eq_true rfl⟩ rfl (Nat.le_of_ble_eq_true rfl) rfl dX7_gap_11 ?_
    refine tr_V.if_ne (tgt := 19) dX7_gap_14 (by decide) ?_ ?_
    · refine tr_V.iconst (v := (-1 : Int32)) dX7_gap_17 (by decide) ?_
      exact tr_V.iret dX7_gap_18 rfl (fun h => h)
    · refine tr_V.aload_n (i := 0) dX7_gap_19 rfl rfl ?_
      refine tr_V.iload_n (i := 1) dX7_gap_20 rfl rfl ?_
      refine tr_V.bd (fun c5 h6 => ?_)
      refine tr_V.callV (C_X7_needOrder p1 M _ h6) yk_X7_needOrder iv_X7_needOrder ml_X7_214 shM_1 rfl ⟨rfl, Nat.le_of_ble_eq_true rfl⟩ rfl (Nat.le_of_ble_eq_true rfl) rfl dX7_gap_21 ?_
      refine tr_V.istore_n (i := 3) dX7_gap_24 rfl (Nat.le_of_ble_eq_true rfl) rfl ?_
      refine tr_V.iload_n (i := 3) dX7_gap_25 rfl rfl ?_
      refine tr_V.if_ge (tgt := 31) dX7_gap_26 (by decide) ?_ ?_
      · refine tr_V.iload_n (i := 3) dX7_gap_29 rfl rfl ?_
        exact tr_V.iret dX7_gap_30 rfl (fun h => h)
      · refine tr_V.iload_n (i := 2) dX7_gap_31 rfl rfl ?_
        refine tr_V.aload_n (i := 0) dX7_gap_32 rfl rfl ?_
        refine tr_V.getI fl_X7_157 shM_1 rfl dX7_gap_33 ?_
        refine tr_V.iconst (v := (1 : Int32)) dX7_gap_36 (by decide) ?_
        refine tr_V.isub dX7_gap_37 ?_
        refine tr_V.icmp_lt (tgt := 47) dX7_gap_38 (by decide) ?_ ?_
        · refine tr_V.iconst (v := (0 : Int32)) dX7_gap_47 (by decide) ?_
          refine tr_V.istore (i := 4) dX7_gap_48 (Nat.le_of_ble_eq_true rfl) rfl ?_
          refine tr_V.iconst (v := (0 : Int32)) dX7_gap_50 (by decide) ?_
          refine tr_V.istore (i := 5) dX7_gap_51 (Nat.le_of_ble_eq_true rfl) rfl ?_
          refine tr_V.seq (τ := Int32) (pc' := 79) (L := fun v7 => [(0, some (.ref 1)), (4, some (.int v7))]) (S := fun v7 => []) (Mf := fun v7 => c5.2) ?_ ?_
          · refine tr_V.loop (σ := Int32 × Int32) (step := mX7_gap_l53 p2 c5) (L := fun s8 => [(0, some (.ref 1)), (2, some (.int p2)), (4, some (.int s8.1)), (5, some (.int s8.2))]) (Mf := fun s8 => c5.2) ?_ ((0 : Int32), (0 : Int32)) ⟨rfl, rfl, rfl, rfl, trivial⟩
            intro s8
            refine tr_V.iload dX7_gap_53 rfl ?_
            refine tr_V.iload_n (i := 2) dX7_gap_55 rfl rfl ?_
            refine tr_V.icmp_gt (tgt := 79) dX7_gap_56 (by decide) ?_ ?_
            · exact tr_V.to (fun h => h) ⟨rfl, rfl, trivial⟩
            · refine tr_V.iload dX7_gap_59 rfl ?_
              refine tr_V.iconst (v := (1 : Int32)) dX7_gap_61 (by decide) ?_
              refine tr_V.aload_n (i := 0) dX7_gap_62 rfl rfl ?_
              refine tr_V.getR (Nat.succ_pos _) fl_X7_41 shM_1 rfl dX7_gap_63 ?_
              refine tr_V.iload dX7_gap_66 rfl ?_
              refine tr_V.bd (fun a9 h10 => ?_)
              refine tr_V.iald h10 shM_12 dX7_gap_68 ?_
              refine tr_V.ishl dX7_gap_69 ?_
              refine tr_V.ior dX7_gap_70 ?_
              refine tr_V.istore (i := 4) dX7_gap_71 (Nat.le_of_ble_eq_true rfl) rfl ?_
              refine tr_V.iinc (cst := (1 : Int32)) dX7_gap_73 rfl (by decide) rfl ?_
              refine tr_V.goto (tgt := 53) dX7_gap_76 (by decide) ?_
              exact tr_V.to (fun h => h) ⟨rfl, rfl, rfl, rfl, trivial⟩
          · intro v7
            refine tr_V.aload_n (i := 0) dX7_gap_79 rfl rfl ?_
            refine tr_V.aload_n (i := 0) dX7_gap_80 rfl rfl ?_
            refine tr_V.iload dX7_gap_81 rfl ?_
            refine tr_V.bd (fun c11 h12 => ?_)
            refine tr_V.callV (C_X7_heldOf v7 c5.2 _ h12) yk_X7_heldOf iv_X7_heldOf ml_X7_198 shM_1 rfl ⟨rfl, Nat.le_of_ble_eq_true rfl⟩ rfl (Nat.le_of_ble_eq_true rfl) rfl dX7_gap_83 ?_
            refine tr_V.aload_n (i := 0) dX7_gap_86 rfl rfl ?_
            refine tr_V.iload dX7_gap_87 rfl ?_
            refine tr_V.bd (fun c13 h14 => ?_)
            refine tr_V.callV (C_X7_cutOf v7 c5.2 _ h14) yk_X7_cutOf iv_X7_cutOf ml_X7_195 shM_1 rfl ⟨rfl, Nat.le_of_ble_eq_true rfl⟩ rfl (Nat.le_of_ble_eq_true rfl) rfl dX7_gap_89 ?_
            refine tr_V.bd (fun c15 h16 => ?_)
            refine tr_V.callV (C_X7_tells c11 c13 c5.2 _ h16) yk_X7_tells iv_X7_tells ml_X7_114 shM_1 rfl ⟨rfl, Nat.le_of_ble_eq_true rfl⟩ rfl (Nat.le_of_ble_eq_true rfl) rfl dX7_gap_92 ?_
            exact tr_V.iret dX7_gap_95 rfl (fun h => h)
        · refine tr_V.aload_n (i := 0) dX7_gap_41 rfl rfl ?_
          refine tr_V.iconst (v := (2 : Int32)) dX7_gap_42 (by decide) ?_
          refine tr_V.bd (fun c17 h18 => ?_)
          refine tr_V.callV (C_X7_meets (2 : Int32) c5.2 _ h18) yk_X7_meets iv_X7_meets ml_X7_106 shM_1 rfl ⟨rfl, Nat.le_of_ble_eq_true rfl⟩ rfl (Nat.le_of_ble_eq_true rfl) rfl dX7_gap_43 ?_
          exact tr_V.iret dX7_gap_46 rfl (fun h => h)
abbrev xX7_spot : tr_X := (cX7_spot, 2, RX7, (some .int), 1, shM, 24)
theorem cw_X7_spot : Cond.code yX7_spot cX7_spot 2 (some .int) ∈ tr_tbl := tr_in 1537 (by decide +kernel) rfl
theorem yk_X7_spot : tr_yk yX7_spot (xX7_spot) 2 := ⟨cw_X7_spot, in_X7, ⟨by decide +kernel, by decide +kernel, by decide +kernel⟩, Nat.le_of_ble_eq_true rfl⟩
theorem sc_X7_spot : Cond.static yX7_spot ∈ tr_tbl := tr_in 1536 (by decide +kernel) rfl
def mX7_spot' (p0 : Int32) (p1 : Int32) : Option Int32 :=
  some (((10 : Int32) * p0) + p1)
def mX7_spot (p0 : Int32) (p1 : Int32) : Int32 :=
  (((10 : Int32) * p0) + p1)
theorem mX7_spot_eq (p0 : Int32) (p1 : Int32) : mX7_spot' p0 p1 = some (mX7_spot p0 p1) := by
  unfold mX7_spot' mX7_spot
  rfl
set_option maxRecDepth 100000 in
set_option maxHeartbeats 4000000 in
theorem C_X7_spot (p0 : Int32) (p1 : Int32) (M : tr_M) : tr_I yX7_spot (xX7_spot) [.int p0, .int p1] M (some (.int (mX7_spot p0 p1))) M := by
  refine tr_I.of (Z := fun q : Int32 => (some (.int (mX7_spot p0 p1)) : Option Value) = some (.int q) ∧ M = M) pn_X7 rfl gdM (Nat.le_of_ble_eq_true rfl) (fun Wt => ?_) (mX7_spot_eq p0 p1) ⟨rfl, rfl⟩
  unfold mX7_spot'
  refine tr_V.bipush (v := (10 : Int32)) dX7_spot_0 (by decide) ?_
  refine tr_V.iload_n (i := 0) dX7_spot_2 rfl rfl ?_
  refine tr_V.imul dX7_spot_3 ?_
  refine tr_V.iload_n (i := 1) dX7_spot_4 rfl rfl ?_
  refine tr_V.iadd dX7_spot_5 ?_
  exact tr_V.iret dX7_spot_6 rfl (fun h => h)
