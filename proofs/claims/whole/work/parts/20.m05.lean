abbrev xX6_leastsOf : tr_X := (cX6_leastsOf, 3, RX6, (some (.object "TiedRow$LeastOrders")), 26, shC, 81)
theorem cw_X6_leastsOf : Cond.code yX6_leastsOf cX6_leastsOf 3 (some (.object "TiedRow$LeastOrders")) ∈ tr_tbl := tr_in 681 (by decide +kernel) rfl
theorem yk_X6_leastsOf : tr_yk yX6_leastsOf (xX6_leastsOf) 1 := ⟨cw_X6_leastsOf, in_X6, ⟨by decide +kernel, by decide +kernel, by decide +kernel⟩, Nat.le_of_ble_eq_true rfl⟩
theorem iv_X6_leastsOf : Cond.instanceMethod yX6_leastsOf ∈ tr_tbl ∧ Cond.selects (yX6_leastsOf).cls yX6_leastsOf yX6_leastsOf ∈ tr_tbl := ⟨tr_in 680 (by decide +kernel) rfl, tr_in 16 (by decide +kernel) rfl⟩
def mX6_leastsOf (p1 : Int32) (M : tr_M) : Option (Nat × tr_M) :=
  if (mX6_isSpent p1 M) = 0 then (
    if (M.1 1 15) = p1 then (
      some ((M.1 1 16).toNatClampNeg, M)
    ) else (
      Option.bind (show Option (Int32) from
        if p1 = (4 : Int32) then (
          some (5 : Int32)
        ) else (
          some p1
        )
      ) (fun (v3 : Int32) =>
        Option.bind (mX4_solve v3 M) (fun c4 =>
        Option.bind (show Option (Nat × tr_M) from
          if c4.1 = 0 then (
            some (0, c4.2)
          ) else (
            if p1 = (4 : Int32) then (
              Option.bind (mX6_walked c4.2) (fun c7 =>
              some (c7.1, c7.2)
              )
            ) else (
              some (25, c4.2)
            )
          )
        ) (fun (v6 : Nat × tr_M) =>
          Option.bind (tr_gd (decide (v6.1 < 2147483648))) (fun _ =>
          Option.bind (some (tr_st v6.2 1 16 (nI v6.1))) (fun M9 =>
          Option.bind (some (tr_st M9 1 15 p1)) (fun M12 =>
          some ((M12.1 1 16).toNatClampNeg, M12)
          )
          )
          )
        )
        )
      )
    )
  ) else (
    some (0, M)
  )
set_option maxRecDepth 100000 in
set_option maxHeartbeats 4000000 in
theorem C_X6_leastsOf (p1 : Int32) (M : tr_M) (r : Nat × tr_M) (h : mX6_leastsOf p1 M = some r) : tr_I yX6_leastsOf (xX6_leastsOf) [.ref 1, .int p1] M (some (.ref r.1)) r.2 := by
  refine tr_I.of (Z := fun q : Nat × tr_M => (some (.ref r.1) : Option Value) = some (.ref q.1) ∧ r.2 = q.2) pn_X6 rfl gdC (Nat.le_of_ble_eq_true rfl) (fun Wt => ?_) h ⟨rfl, rfl⟩
  unfold mX6_leastsOf
  refine tr_V.aload_n (i := 0) dX6_leastsOf_0 rfl rfl ?_
  refine tr_V.iload_n (i := 1) dX6_leastsOf_1 rfl rfl ?_
  refine tr_V.callV (C_X6_isSpent p1 M) yk_X6_isSpent iv_X6_isSpent ml_X6_224 shC_1 rfl ⟨rfl, Nat.le_of_ble_eq_true rfl⟩ rfl (Nat.le_of_ble_eq_true rfl) rfl dX6_leastsOf_2 ?_
  refine tr_V.if_eq (tgt := 10) dX6_leastsOf_5 (by decide) ?_ ?_
  · refine tr_V.aload_n (i := 0) dX6_leastsOf_10 rfl rfl ?_
    refine tr_V.getI fl_X6_74 shC_1 rfl dX6_leastsOf_11 ?_
    refine tr_V.iload_n (i := 1) dX6_leastsOf_14 rfl rfl ?_
    refine tr_V.icmp_eq (tgt := 69) dX6_leastsOf_15 (by decide) ?_ ?_
    · refine tr_V.aload_n (i := 0) dX6_leastsOf_69 rfl rfl ?_
      refine tr_V.getM fl_X6_77 shC_1 rfl dX6_leastsOf_70 ?_
      exact tr_V.aret dX6_leastsOf_73 rfl (fun h => h)
    · refine tr_V.aload_n (i := 0) dX6_leastsOf_18 rfl rfl ?_
      refine tr_V.getR (Nat.succ_pos _) fl_X6_36 shC_1 rfl dX6_leastsOf_19 ?_
      refine tr_V.iload_n (i := 1) dX6_leastsOf_22 rfl rfl ?_
      refine tr_V.iconst (v := (4 : Int32)) dX6_leastsOf_23 (by decide) ?_
      refine tr_V.seq (τ := Int32) (pc' := 32) (L := fun v3 => [(0, some (.ref 1)), (1, some (.int p1))]) (S := fun v3 => [.int v3, .ref 25]) (Mf := fun v3 => M) ?_ ?_
      · refine tr_V.icmp_ne (tgt := 31) dX6_leastsOf_24 (by decide) ?_ ?_
        · refine tr_V.iconst (v := (5 : Int32)) dX6_leastsOf_27 (by decide) ?_
          refine tr_V.goto (tgt := 32) dX6_leastsOf_28 (by decide) ?_
          exact tr_V.to (fun h => h) ⟨rfl, rfl, trivial⟩
        · refine tr_V.iload_n (i := 1) dX6_leastsOf_31 rfl rfl ?_
          exact tr_V.to (fun h => h) ⟨rfl, rfl, trivial⟩
      · intro v3
        refine tr_V.bd (fun c4 h5 => ?_)
        refine tr_V.callV (C_X4_solve v3 M _ h5) yk_X4_solve iv_X4_solve ml_X6_349 shC_25 rfl ⟨rfl, Nat.le_of_ble_eq_true rfl⟩ rfl (Nat.le_of_ble_eq_true rfl) rfl dX6_leastsOf_32 ?_
        refine tr_V.istore_n (i := 2) dX6_leastsOf_35 rfl (Nat.le_of_ble_eq_true rfl) rfl ?_
        refine tr_V.aload_n (i := 0) dX6_leastsOf_36 rfl rfl ?_
        refine tr_V.iload_n (i := 2) dX6_leastsOf_37 rfl rfl ?_
        refine tr_V.seq (τ := Nat × tr_M) (pc' := 61) (L := fun v6 => [(0, some (.ref 1)), (1, some (.int p1))]) (S := fun v6 => [.ref v6.1, .ref 1]) (Mf := fun v6 => v6.2) ?_ ?_
        · refine tr_V.if_ne (tgt := 45) dX6_leastsOf_38 (by decide) ?_ ?_
          · refine tr_V.null dX6_leastsOf_41 ?_
            refine tr_V.goto (tgt := 61) dX6_leastsOf_42 (by decide) ?_
            exact tr_V.to (fun h => h) ⟨rfl, rfl, trivial⟩
          · refine tr_V.iload_n (i := 1) dX6_leastsOf_45 rfl rfl ?_
            refine tr_V.iconst (v := (4 : Int32)) dX6_leastsOf_46 (by decide) ?_
            refine tr_V.icmp_ne (tgt := 57) dX6_leastsOf_47 (by decide) ?_ ?_
            · refine tr_V.aload_n (i := 0) dX6_leastsOf_50 rfl rfl ?_
              refine tr_V.bd (fun c7 h8 => ?_)
              refine tr_V.callV (C_X6_walked c4.2 _ h8) yk_X6_walked iv_X6_walked ml_X6_268 shC_1 rfl ⟨rfl, Nat.le_of_ble_eq_true rfl⟩ rfl (Nat.le_of_ble_eq_true rfl) rfl dX6_leastsOf_51 ?_
              refine tr_V.goto (tgt := 61) dX6_leastsOf_54 (by decide) ?_
              exact tr_V.to (fun h => h) ⟨rfl, rfl, trivial⟩
            · refine tr_V.aload_n (i := 0) dX6_leastsOf_57 rfl rfl ?_
              refine tr_V.getR (Nat.succ_pos _) fl_X6_36 shC_1 rfl dX6_leastsOf_58 ?_
              exact tr_V.to (fun h => h) ⟨rfl, rfl, trivial⟩
        · intro v6
          refine tr_V.gd (fun h11 => ?_)
          refine tr_V.bd (fun M9 h10 => ?_)
          refine tr_V.putM (of_decide_eq_true h11) fl_X6_77 shC_1 rfl dX6_leastsOf_61 h10 ?_
          refine tr_V.aload_n (i := 0) dX6_leastsOf_64 rfl rfl ?_
          refine tr_V.iload_n (i := 1) dX6_leastsOf_65 rfl rfl ?_
          refine tr_V.bd (fun M12 h13 => ?_)
          refine tr_V.putI fl_X6_74 shC_1 rfl dX6_leastsOf_66 h13 ?_
          refine tr_V.aload_n (i := 0) dX6_leastsOf_69 rfl rfl ?_
          refine tr_V.getM fl_X6_77 shC_1 rfl dX6_leastsOf_70 ?_
          exact tr_V.aret dX6_leastsOf_73 rfl (fun h => h)
  · refine tr_V.null dX6_leastsOf_8 ?_
    exact tr_V.aret dX6_leastsOf_9 rfl (fun h => h)
abbrev xX6_noLeast : tr_X := (cX6_noLeast, 2, RX6, (some .int), 2, shC, 81)
theorem cw_X6_noLeast : Cond.code yX6_noLeast cX6_noLeast 2 (some .int) ∈ tr_tbl := tr_in 787 (by decide +kernel) rfl
theorem yk_X6_noLeast : tr_yk yX6_noLeast (xX6_noLeast) 1 := ⟨cw_X6_noLeast, in_X6, ⟨by decide +kernel, by decide +kernel, by decide +kernel⟩, Nat.le_of_ble_eq_true rfl⟩
theorem iv_X6_noLeast : Cond.instanceMethod yX6_noLeast ∈ tr_tbl ∧ Cond.selects (yX6_noLeast).cls yX6_noLeast yX6_noLeast ∈ tr_tbl := ⟨tr_in 786 (by decide +kernel) rfl, tr_in 31 (by decide +kernel) rfl⟩
def mX6_noLeast (p1 : Int32) (M : tr_M) : Option (Int32 × tr_M) :=
  if (mX6_isSpent p1 M) = 0 then (
    Option.bind (mX6_found (4 : Int32) M) (fun c3 =>
    some (c3.1, c3.2)
    )
  ) else (
    some ((-6 : Int32), M)
  )
set_option maxRecDepth 100000 in
set_option maxHeartbeats 4000000 in
theorem C_X6_noLeast (p1 : Int32) (M : tr_M) (r : Int32 × tr_M) (h : mX6_noLeast p1 M = some r) : tr_I yX6_noLeast (xX6_noLeast) [.ref 1, .int p1] M (some (.int r.1)) r.2 := by
  refine tr_I.of (Z := fun q : Int32 × tr_M => (some (.int r.1) : Option Value) = some (.int q.1) ∧ r.2 = q.2) pn_X6 rfl gdC (Nat.le_of_ble_eq_true rfl) (fun Wt => ?_) h ⟨rfl, rfl⟩
  unfold mX6_noLeast
  refine tr_V.aload_n (i := 0) dX6_noLeast_0 rfl rfl ?_
  refine tr_V.iload_n (i := 1) dX6_noLeast_1 rfl rfl ?_
  refine tr_V.callV (C_X6_isSpent p1 M) yk_X6_isSpent iv_X6_isSpent ml_X6_224 shC_1 rfl ⟨rfl, Nat.le_of_ble_eq_true rfl⟩ rfl (Nat.le_of_ble_eq_true rfl) rfl dX6_noLeast_2 ?_
  refine tr_V.if_eq (tgt := 13) dX6_noLeast_5 (by decide) ?_ ?_
  · refine tr_V.aload_n (i := 0) dX6_noLeast_13 rfl rfl ?_
    refine tr_V.iconst (v := (4 : Int32)) dX6_noLeast_14 (by decide) ?_
    refine tr_V.bd (fun c3 h4 => ?_)
    refine tr_V.callV (C_X6_found (4 : Int32) M _ h4) yk_X6_found iv_X6_found ml_X6_88 shC_1 rfl ⟨rfl, Nat.le_of_ble_eq_true rfl⟩ rfl (Nat.le_of_ble_eq_true rfl) rfl dX6_noLeast_15 ?_
    exact tr_V.iret dX6_noLeast_18 rfl (fun h => h)
  · refine tr_V.bipush (v := (-6 : Int32)) dX6_noLeast_8 (by decide) ?_
    refine tr_V.goto (tgt := 18) dX6_noLeast_10 (by decide) ?_
    exact tr_V.iret dX6_noLeast_18 rfl (fun h => h)
def mLO_value (q : Nat)  (M : tr_M) : Option (Int32) := if q = 25 then mX4_value M else if q = 24 then some (mX2_value M) else none
set_option maxHeartbeats 4000000 in
theorem K_LO_value {ρ : Type} {X : tr_X} {E : tr_E} {pc : Nat} {lv : tr_L} {st : List Value} {M : tr_M} {φ : Option ρ} {Z : ρ → Prop} {q idx : Nat}  {v : Int32} (hv : mLO_value q  M = some v) (hc : X.2.2.2.2.2 = (shC, 81)) (hlev : 1 < X.2.2.2.2.1) (hl : Cond.methodLink X.2.2.1 idx (⟨RX0, "value", "()I"⟩ : MethodName) ∈ tr_tbl) (hw : tr_wd st ≤ 8) (hd : decode X.1 pc = .ok (.invokevirtual idx, 3)) (h : tr_V X E (pc + 3) lv ([.int v] ++ st) M φ Z) : tr_V X E pc lv (.ref q :: st) M φ Z := by
  unfold mLO_value at hv
  by_cases h25 : q = 25
  · subst h25
    rw [if_pos rfl] at hv
    exact tr_V.callA (x := (⟨RX0, "value", "()I"⟩ : MethodName)) (C_X4_value  M _ hv) yk_X4_value ⟨tr_in 795 (by decide +kernel) rfl, tr_in 794 (by decide +kernel) rfl, tr_in 790 (by decide +kernel) rfl, by decide +kernel⟩ ⟨by decide +kernel, by decide +kernel, by decide +kernel⟩ hl (by rw [hc]; exact shC_25) rfl ⟨hc.symm, Nat.lt_of_le_of_lt (Nat.le_of_ble_eq_true rfl) hlev⟩ rfl hw rfl hd h
  by_cases h24 : q = 24
  · subst h24
    rw [if_neg (by decide), if_pos rfl] at hv
    cases hv
    exact tr_V.callA (x := (⟨RX0, "value", "()I"⟩ : MethodName)) (C_X2_value  M) yk_X2_value ⟨tr_in 792 (by decide +kernel) rfl, tr_in 791 (by decide +kernel) rfl, tr_in 790 (by decide +kernel) rfl, by decide +kernel⟩ ⟨by decide +kernel, by decide +kernel, by decide +kernel⟩ hl (by rw [hc]; exact shC_24) rfl ⟨hc.symm, Nat.lt_of_le_of_lt (Nat.le_of_ble_eq_true rfl) hlev⟩ rfl hw rfl hd h
  · rw [if_neg h25, if_neg h24] at hv
    cases hv
abbrev xX6_least : tr_X := (cX6_least, 3, RX6, (some .int), 27, shC, 81)
theorem cw_X6_least : Cond.code yX6_least cX6_least 3 (some .int) ∈ tr_tbl := tr_in 677 (by decide +kernel) rfl
theorem yk_X6_least : tr_yk yX6_least (xX6_least) 1 := ⟨cw_X6_least, in_X6, ⟨by decide +kernel, by decide +kernel, by decide +kernel⟩, Nat.le_of_ble_eq_true rfl⟩
theorem iv_X6_least : Cond.instanceMethod yX6_least ∈ tr_tbl ∧ Cond.selects (yX6_least).cls yX6_least yX6_least ∈ tr_tbl := ⟨tr_in 675 (by decide +kernel) rfl, tr_in 676 (by decide +kernel) rfl⟩
def mX6_least (p1 : Int32) (M : tr_M) : Option (Int32 × tr_M) :=
  if (mX6_isMeasure p1) = 0 then (
    some ((-1 : Int32), M)
  ) else (
    Option.bind (mX6_leastsOf p1 M) (fun c3 =>
    if c3.1 = 0 then (
      Option.bind (mX6_noLeast p1 c3.2) (fun c5 =>
      some (c5.1, c5.2)
      )
    ) else (
      Option.bind (mLO_value c3.1 c3.2) (fun c7 =>
      some (c7, c3.2)
      )
    )
    )
  )
set_option maxRecDepth 100000 in
set_option maxHeartbeats 4000000 in
theorem C_X6_least (p1 : Int32) (M : tr_M) (r : Int32 × tr_M) (h : mX6_least p1 M = some r) : tr_I yX6_least (xX6_least) [.ref 1, .int p1] M (some (.int r.1)) r.2 := by
  refine tr_I.of (Z := fun q : Int32 × tr_M => (some (.int r.1) : Option Value) = some (.int q.1) ∧ r.2 = q.2) pn_X6 rfl gdC (Nat.le_of_ble_eq_true rfl) (fun Wt => ?_) h ⟨rfl, rfl⟩
  unfold mX6_least
  refine tr_V.iload_n (i := 1) dX6_least_0 rfl rfl ?_
  refine tr_V.callS (C_X6_isMeasure p1 M) yk_X6_isMeasure sc_X6_isMeasure ml_X6_184 ⟨rfl, Nat.le_of_ble_eq_true rfl⟩ rfl (Nat.le_of_ble_eq_true rfl) rfl dX6_least_1 ?_
  refine tr_V.if_ne (tgt := 9) dX6_least_4 (by decide) ?_ ?_
  · refine tr_V.iconst (v := (-1 : Int32)) dX6_least_7 (by decide) ?_
    exact tr_V.iret dX6_least_8 rfl (fun h => h)
  · refine tr_V.aload_n (i := 0) dX6_least_9 rfl rfl ?_
    refine tr_V.iload_n (i := 1) dX6_least_10 rfl rfl ?_
    refine tr_V.bd (fun c3 h4 => ?_)
    refine tr_V.callV (C_X6_leastsOf p1 M _ h4) yk_X6_leastsOf iv_X6_leastsOf ml_X6_204 shC_1 rfl ⟨rfl, Nat.le_of_ble_eq_true rfl⟩ rfl (Nat.le_of_ble_eq_true rfl) rfl dX6_least_11 ?_
    refine tr_V.astore_n (i := 2) dX6_least_14 rfl (Nat.le_of_ble_eq_true rfl) rfl ?_
    refine tr_V.aload_n (i := 2) dX6_least_15 rfl rfl ?_
    refine tr_V.ifnonnull (tgt := 27) dX6_least_16 (by decide) ?_ ?_
    · refine tr_V.aload_n (i := 0) dX6_least_19 rfl rfl ?_
      refine tr_V.iload_n (i := 1) dX6_least_20 rfl rfl ?_
      refine tr_V.bd (fun c5 h6 => ?_)
      refine tr_V.callV (C_X6_noLeast p1 c3.2 _ h6) yk_X6_noLeast iv_X6_noLeast ml_X6_208 shC_1 rfl ⟨rfl, Nat.le_of_ble_eq_true rfl⟩ rfl (Nat.le_of_ble_eq_true rfl) rfl dX6_least_21 ?_
      refine tr_V.goto (tgt := 31) dX6_least_24 (by decide) ?_
      exact tr_V.iret dX6_least_31 rfl (fun h => h)
    · refine tr_V.aload_n (i := 2) dX6_least_27 rfl rfl ?_
      refine tr_V.bd (fun c7 h8 => ?_)
      refine K_LO_value h8 rfl (Nat.le_of_ble_eq_true rfl) ml_X6_211 (Nat.le_of_ble_eq_true rfl) dX6_least_28 ?_
      exact tr_V.iret dX6_least_31 rfl (fun h => h)
def mLO_pick (q : Nat) (p0 : Int32) (p1 : Nat) (M : tr_M) : Option (tr_M) := if q = 25 then mX4_pick p0 p1 M else if q = 24 then mX2_pick p0 p1 M else none
set_option maxHeartbeats 4000000 in
theorem K_LO_pick {ρ : Type} {X : tr_X} {E : tr_E} {pc : Nat} {lv : tr_L} {st : List Value} {M : tr_M} {φ : Option ρ} {Z : ρ → Prop} {q idx : Nat} {p0 : Int32} {p1 : Nat} {v : tr_M} (hv : mLO_pick q p0 p1 M = some v) (hc : X.2.2.2.2.2 = (shC, 81)) (hlev : 5 < X.2.2.2.2.1) (hl : Cond.methodLink X.2.2.1 idx (⟨RX0, "pick", "(I[I)V"⟩ : MethodName) ∈ tr_tbl) (hw : tr_wd st ≤ 8) (hd : decode X.1 pc = .ok (.invokevirtual idx, 3)) (h : tr_V X E (pc + 3) lv ([] ++ st) v φ Z) : tr_V X E pc lv (.ref p1 :: .int p0 :: .ref q :: st) M φ Z := by
  unfold mLO_pick at hv
  by_cases h25 : q = 25
  · subst h25
    rw [if_pos rfl] at hv
    exact tr_V.callA (x := (⟨RX0, "pick", "(I[I)V"⟩ : MethodName)) (C_X4_pick p0 p1 M _ hv) yk_X4_pick ⟨tr_in 813 (by decide +kernel) rfl, tr_in 812 (by decide +kernel) rfl, tr_in 803 (by decide +kernel) rfl, by decide +kernel⟩ ⟨by decide +kernel, by decide +kernel, by decide +kernel⟩ hl (by rw [hc]; exact shC_25) rfl ⟨hc.symm, Nat.lt_of_le_of_lt (Nat.le_of_ble_eq_true rfl) hlev⟩ rfl hw rfl hd h
  by_cases h24 : q = 24
  · subst h24
    rw [if_neg (by decide), if_pos rfl] at hv
    exact tr_V.callA (x := (⟨RX0, "pick", "(I[I)V"⟩ : MethodName)) (C_X2_pick p0 p1 M _ hv) yk_X2_pick ⟨tr_in 805 (by decide +kernel) rfl, tr_in 804 (by decide +kernel) rfl, tr_in 803 (by decide +kernel) rfl, by decide +kernel⟩ ⟨by decide +kernel, by decide +kernel, by decide +kernel⟩ hl (by rw [hc]; exact shC_24) rfl ⟨hc.symm, Nat.lt_of_le_of_lt (Nat.le_of_ble_eq_true rfl) hlev⟩ rfl hw rfl hd h
  · rw [if_neg h25, if_neg h24] at hv
    cases hv
abbrev xX6_layOrder : tr_X := (cX6_layOrder, 3, RX6, (Option.none : Option Jvm.ClassFile.FieldType), 4, shC, 81)
theorem cw_X6_layOrder : Cond.code yX6_layOrder cX6_layOrder 3 (Option.none : Option Jvm.ClassFile.FieldType) ∈ tr_tbl := tr_in 820 (by decide +kernel) rfl
theorem yk_X6_layOrder : tr_yk yX6_layOrder (xX6_layOrder) 2 := ⟨cw_X6_layOrder, in_X6, ⟨by decide +kernel, by decide +kernel, by decide +kernel⟩, Nat.le_of_ble_eq_true rfl⟩
theorem iv_X6_layOrder : Cond.instanceMethod yX6_layOrder ∈ tr_tbl ∧ Cond.selects (yX6_layOrder).cls yX6_layOrder yX6_layOrder ∈ tr_tbl := ⟨tr_in 819 (by decide +kernel) rfl, tr_in 33 (by decide +kernel) rfl⟩
def mX6_layOrder (p1 : Int32) (p2 : Nat) (M : tr_M) : Option (tr_M) :=
  Option.bind (tr_ra 6 (fun i => 62 + 2 * i) p1) (fun r1 =>
  Option.bind (mX1_make r1 (M.1 26 0) (0 : Int32) M) (fun c3 =>
  Option.bind (tr_ra 6 (fun i => 62 + 2 * i) p1) (fun r5 =>
  Option.bind (tr_cpy (tr_len shC p2) (tr_len shC (r5 + 1)) c3 p2 (0 : Int32) (r5 + 1) (0 : Int32) (c3.1 26 0)) (fun M7 =>
  some M7
  )
  )
  )
  )
set_option maxRecDepth 100000 in
set_option maxHeartbeats 4000000 in
theorem C_X6_layOrder (p1 : Int32) (p2 : Nat) (M M' : tr_M) (h : mX6_layOrder p1 p2 M = some M') : tr_I yX6_layOrder (xX6_layOrder) [.ref 1, .int p1, .ref p2] M none M' := by
  refine tr_I.of (Z := fun q : tr_M => (none : Option Value) = none ∧ M' = q) pn_X6 rfl gdC (Nat.le_of_ble_eq_true rfl) (fun Wt => ?_) h ⟨rfl, rfl⟩
  unfold mX6_layOrder
  refine tr_V.aload_n (i := 0) dX6_layOrder_0 rfl rfl ?_
  refine tr_V.getR (Nat.succ_pos _) fl_X6_11 shC_1 rfl dX6_layOrder_1 ?_
  refine tr_V.iload_n (i := 1) dX6_layOrder_4 rfl rfl ?_
  refine tr_V.bd (fun r1 h2 => ?_)
  refine tr_V.aald (ty := .object RX1) h2 shC_2 (isL_pos (isL_2 h2)) (fun _ => rfl) rfl dX6_layOrder_5 ?_
  refine tr_V.aload_n (i := 0) dX6_layOrder_6 rfl rfl ?_
  refine tr_V.getR (Nat.succ_pos _) fl_X6_43 shC_1 rfl dX6_layOrder_7 ?_
  refine tr_V.getI fl_X6_136 shC_26 rfl dX6_layOrder_10 ?_
  refine tr_V.iconst (v := (0 : Int32)) dX6_layOrder_13 (by decide) ?_
  refine tr_V.bd (fun c3 h4 => ?_)
  refine tr_V.callV (C_X1_make r1 (isL_2 h2) (M.1 26 0) (0 : Int32) M _ h4) yk_X1_make iv_X1_make ml_X6_92 (shL (isL_2 h2)) rfl ⟨rfl, Nat.le_of_ble_eq_true rfl⟩ rfl (Nat.le_of_ble_eq_true rfl) rfl dX6_layOrder_14 ?_
  refine tr_V.aload_n (i := 2) dX6_layOrder_17 rfl rfl ?_
  refine tr_V.iconst (v := (0 : Int32)) dX6_layOrder_18 (by decide) ?_
  refine tr_V.aload_n (i := 0) dX6_layOrder_19 rfl rfl ?_
  refine tr_V.getR (Nat.succ_pos _) fl_X6_11 shC_1 rfl dX6_layOrder_20 ?_
  refine tr_V.iload_n (i := 1) dX6_layOrder_23 rfl rfl ?_
  refine tr_V.bd (fun r5 h6 => ?_)
  refine tr_V.aald (ty := .object RX1) h6 shC_2 (isL_pos (isL_2 h6)) (fun _ => rfl) rfl dX6_layOrder_24 ?_
  refine tr_V.getR (Nat.succ_pos _) fl_X6_99 (shL (isL_2 h6)) rfl dX6_layOrder_25 ?_
  refine tr_V.iconst (v := (0 : Int32)) dX6_layOrder_28 (by decide) ?_
  refine tr_V.aload_n (i := 0) dX6_layOrder_29 rfl rfl ?_
  refine tr_V.getR (Nat.succ_pos _) fl_X6_43 shC_1 rfl dX6_layOrder_30 ?_
  refine tr_V.getI fl_X6_136 shC_26 rfl dX6_layOrder_33 ?_
  refine tr_V.bd (fun M7 h8 => ?_)
  refine tr_V.copy h8 ml_X6_113 w_acN w_acS w_acI (Nat.le_of_ble_eq_true rfl) (Nat.le_of_ble_eq_true rfl) dX6_layOrder_36 ?_
  exact tr_V.vret dX6_layOrder_39 rfl (fun h => h)
abbrev xX6_first : tr_X := (cX6_first, 4, RX6, (some .int), 27, shC, 81)
theorem cw_X6_first : Cond.code yX6_first cX6_first 4 (some .int) ∈ tr_tbl := tr_in 800 (by decide +kernel) rfl
theorem yk_X6_first : tr_yk yX6_first (xX6_first) 2 := ⟨cw_X6_first, in_X6, ⟨by decide +kernel, by decide +kernel, by decide +kernel⟩, Nat.le_of_ble_eq_true rfl⟩
theorem iv_X6_first : Cond.instanceMethod yX6_first ∈ tr_tbl ∧ Cond.selects (yX6_first).cls yX6_first yX6_first ∈ tr_tbl := ⟨tr_in 798 (by decide +kernel) rfl, tr_in 799 (by decide +kernel) rfl⟩
def mX6_first (p1 : Int32) (p2 : Int32) (M : tr_M) : Option (Int32 × tr_M) :=
  if (mX6_isMeasure p1) = 0 then (
    some ((-1 : Int32), M)
  ) else (
    if (mX6_isRow p2) = 0 then (
      some ((-1 : Int32), M)
    ) else (
      Option.bind (mX6_leastsOf p1 M) (fun c5 =>
      if c5.1 = 0 then (
        Option.bind (mX6_noLeast p1 c5.2) (fun c7 =>
        some (c7.1, c7.2)
        )
      ) else (
        Option.bind (mLO_pick c5.1 (0 : Int32) 59 c5.2) (fun c9 =>
        Option.bind (mX6_layOrder p2 59 c9) (fun c11 =>
        Option.bind (mLO_value c5.1 c11) (fun c13 =>
        some (c13, c11)
        )
        )
        )
      )
      )
    )
  )
set_option maxRecDepth 100000 in
set_option maxHeartbeats 4000000 in
theorem C_X6_first (p1 : Int32) (p2 : Int32) (M : tr_M) (r : Int32 × tr_M) (h : mX6_first p1 p2 M = some r) : tr_I yX6_first (xX6_first) [.ref 1, .int p1, .int p2] M (some (.int r.1)) r.2 := by
  refine tr_I.of (Z := fun q : Int32 × tr_M => (some (.int r.1) : Option Value) = some (.int q.1) ∧ r.2 = q.2) pn_X6 rfl gdC (Nat.le_of_ble_eq_true rfl) (fun Wt => ?_) h ⟨rfl, rfl⟩
  unfold mX6_first
  refine tr_V.iload_n (i := 1) dX6_first_0 rfl rfl ?_
  refine tr_V.callS (C_X6_isMeasure p1 M) yk_X6_isMeasure sc_X6_isMeasure ml_X6_184 ⟨rfl, Nat.le_of_ble_eq_true rfl⟩ rfl (Nat.le_of_ble_eq_true rfl) rfl dX6_first_1 ?_
  refine tr_V.if_eq (tgt := 14) dX6_first_4 (by decide) ?_ ?_
  · refine tr_V.iconst (v := (-1 : Int32)) dX6_first_14 (by decide) ?_
    exact tr_V.iret dX6_first_15 rfl (fun h => h)
  · refine tr_V.iload_n (i := 2) dX6_first_7 rfl rfl ?_
    refine tr_V.callS (C_X6_isRow p2 M) yk_X6_isRow sc_X6_isRow ml_X6_84 ⟨rfl, Nat.le_of_ble_eq_true rfl⟩ rfl (Nat.le_of_ble_eq_true rfl) rfl dX6_first_8 ?_
    refine tr_V.if_ne (tgt := 16) dX6_first_11 (by decide) ?_ ?_
    · refine tr_V.iconst (v := (-1 : Int32)) dX6_first_14 (by decide) ?_
      exact tr_V.iret dX6_first_15 rfl (fun h => h)
    · refine tr_V.aload_n (i := 0) dX6_first_16 rfl rfl ?_
      refine tr_V.iload_n (i := 1) dX6_first_17 rfl rfl ?_
      refine tr_V.bd (fun c5 h6 => ?_)
      refine tr_V.callV (C_X6_leastsOf p1 M _ h6) yk_X6_leastsOf iv_X6_leastsOf ml_X6_204 shC_1 rfl ⟨rfl, Nat.le_of_ble_eq_true rfl⟩ rfl (Nat.le_of_ble_eq_true rfl) rfl dX6_first_18 ?_
      refine tr_V.astore_n (i := 3) dX6_first_21 rfl (Nat.le_of_ble_eq_true rfl) rfl ?_
      refine tr_V.aload_n (i := 3) dX6_first_22 rfl rfl ?_
      refine tr_V.ifnonnull (tgt := 32) dX6_first_23 (by decide) ?_ ?_
      · refine tr_V.aload_n (i := 0) dX6_first_26 rfl rfl ?_
        refine tr_V.iload_n (i := 1) dX6_first_27 rfl rfl ?_
        refine tr_V.bd (fun c7 h8 => ?_)
        refine tr_V.callV (C_X6_noLeast p1 c5.2 _ h8) yk_X6_noLeast iv_X6_noLeast ml_X6_208 shC_1 rfl ⟨rfl, Nat.le_of_ble_eq_true rfl⟩ rfl (Nat.le_of_ble_eq_true rfl) rfl dX6_first_28 ?_
        exact tr_V.iret dX6_first_31 rfl (fun h => h)
      · refine tr_V.aload_n (i := 3) dX6_first_32 rfl rfl ?_
        refine tr_V.iconst (v := (0 : Int32)) dX6_first_33 (by decide) ?_
        refine tr_V.aload_n (i := 0) dX6_first_34 rfl rfl ?_
        refine tr_V.getR (Nat.succ_pos _) fl_X6_51 shC_1 rfl dX6_first_35 ?_
        refine tr_V.bd (fun c9 h10 => ?_)
        refine K_LO_pick h10 rfl (Nat.le_of_ble_eq_true rfl) ml_X6_217 (Nat.le_of_ble_eq_true rfl) dX6_first_38 ?_
        refine tr_V.aload_n (i := 0) dX6_first_41 rfl rfl ?_
        refine tr_V.iload_n (i := 2) dX6_first_42 rfl rfl ?_
        refine tr_V.aload_n (i := 0) dX6_first_43 rfl rfl ?_
        refine tr_V.getR (Nat.succ_pos _) fl_X6_51 shC_1 rfl dX6_first_44 ?_
        refine tr_V.bd (fun c11 h12 => ?_)
        refine tr_V.callV (C_X6_layOrder p2 59 c9 _ h12) yk_X6_layOrder iv_X6_layOrder ml_X6_221 shC_1 rfl ⟨rfl, Nat.le_of_ble_eq_true rfl⟩ rfl (Nat.le_of_ble_eq_true rfl) rfl dX6_first_47 ?_
        refine tr_V.aload_n (i := 3) dX6_first_50 rfl rfl ?_
        refine tr_V.bd (fun c13 h14 => ?_)
        refine K_LO_value h14 rfl (Nat.le_of_ble_eq_true rfl) ml_X6_211 (Nat.le_of_ble_eq_true rfl) dX6_first_51 ?_
        exact tr_V.iret dX6_first_54 rfl (fun h => h)
def mLO_number (q : Nat)  (M : tr_M) : Option (Int32 × tr_M) := if q = 25 then mX4_number M else if q = 24 then some (mX2_number M, M) else none
set_option maxHeartbeats 4000000 in
theorem K_LO_number {ρ : Type} {X : tr_X} {E : tr_E} {pc : Nat} {lv : tr_L} {st : List Value} {M : tr_M} {φ : Option ρ} {Z : ρ → Prop} {q idx : Nat}  {v : Int32 × tr_M} (hv : mLO_number q  M = some v) (hc : X.2.2.2.2.2 = (shC, 81)) (hlev : 5 < X.2.2.2.2.1) (hl : Cond.methodLink X.2.2.1 idx (⟨RX0, "number", "()I"⟩ : MethodName) ∈ tr_tbl) (hw : tr_wd st ≤ 8) (hd : decode X.1 pc = .ok (.invokevirtual idx, 3)) (h : tr_V X E (pc + 3) lv ([.int v.1] ++ st) v.2 φ Z) : tr_V X E pc lv (.ref q :: st) M φ Z := by
  unfold mLO_number at hv
  by_cases h25 : q = 25
  · subst h25
    rw [if_pos rfl] at hv
    exact tr_V.callA (x := (⟨RX0, "number", "()I"⟩ : MethodName)) (C_X4_number  M _ hv) yk_X4_number ⟨tr_in 832 (by decide +kernel) rfl, tr_in 831 (by decide +kernel) rfl, tr_in 827 (by decide +kernel) rfl, by decide +kernel⟩ ⟨by decide +kernel, by decide +kernel, by decide +kernel⟩ hl (by rw [hc]; exact shC_25) rfl ⟨hc.symm, Nat.lt_of_le_of_lt (Nat.le_of_ble_eq_true rfl) hlev⟩ rfl hw rfl hd h
  by_cases h24 : q = 24
  · subst h24
    rw [if_neg (by decide), if_pos rfl] at hv
    cases hv
    exact tr_V.callA (x := (⟨RX0, "number", "()I"⟩ : MethodName)) (C_X2_number  M) yk_X2_number ⟨tr_in 829 (by decide +kernel) rfl, tr_in 828 (by decide +kernel) rfl, tr_in 827 (by decide +kernel) rfl, by decide +kernel⟩ ⟨by decide +kernel, by decide +kernel, by decide +kernel⟩ hl (by rw [hc]; exact shC_24) rfl ⟨hc.symm, Nat.lt_of_le_of_lt (Nat.le_of_ble_eq_true rfl) hlev⟩ rfl hw rfl hd h
  · rw [if_neg h25, if_neg h24] at hv
    cases hv
abbrev xX6_ways : tr_X := (cX6_ways, 3, RX6, (some .int), 27, shC, 81)
theorem cw_X6_ways : Cond.code yX6_ways cX6_ways 3 (some .int) ∈ tr_tbl := tr_in 824 (by decide +kernel) rfl
theorem yk_X6_ways : tr_yk yX6_ways (xX6_ways) 1 := ⟨cw_X6_ways, in_X6, ⟨by decide +kernel, by decide +kernel, by decide +kernel⟩, Nat.le_of_ble_eq_true rfl⟩
theorem iv_X6_ways : Cond.instanceMethod yX6_ways ∈ tr_tbl ∧ Cond.selects (yX6_ways).cls yX6_ways yX6_ways ∈ tr_tbl := ⟨tr_in 822 (by decide +kernel) rfl, tr_in 823 (by decide +kernel) rfl⟩
def mX6_ways (p1 : Int32) (M : tr_M) : Option (Int32 × tr_M) :=
  if (mX6_isMeasure p1) = 0 then (
    some ((-1 : Int32), M)
  ) else (
    if (mX6_isSpent p1 M) = 0 then (
      Option.bind (mX6_leastsOf p1 M) (fun c5 =>
      if c5.1 = 0 then (
        some ((0 : Int32), c5.2)
      ) else (
        Option.bind (mLO_number c5.1 c5.2) (fun c7 =>
        some (c7.1, c7.2)
        )
      )
      )
    ) else (
      some ((-6 : Int32), M)
    )
  )
set_option maxRecDepth 100000 in
set_option maxHeartbeats 4000000 in
theorem C_X6_ways (p1 : Int32) (M : tr_M) (r : Int32 × tr_M) (h : mX6_ways p1 M = some r) : tr_I yX6_ways (xX6_ways) [.ref 1, .int p1] M (some (.int r.1)) r.2 := by
  refine tr_I.of (Z := fun q : Int32 × tr_M => (some (.int r.1) : Option Value) = some (.int q.1) ∧ r.2 = q.2) pn_X6 rfl gdC (Nat.le_of_ble_eq_true rfl) (fun Wt => ?_) h ⟨rfl, rfl⟩
  unfold mX6_ways
  refine tr_V.iload_n (i := 1) dX6_ways_0 rfl rfl ?_
  refine tr_V.callS (C_X6_isMeasure p1 M) yk_X6_isMeasure sc_X6_isMeasure ml_X6_184 ⟨rfl, Nat.le_of_ble_eq_true rfl⟩ rfl (Nat.le_of_ble_eq_true rfl) rfl dX6_ways_1 ?_
  refine tr_V.if_ne (tgt := 9) dX6_ways_4 (by decide) ?_ ?_
  · refine tr_V.iconst (v := (-1 : Int32)) dX6_ways_7 (by decide) ?_
    exact tr_V.iret dX6_ways_8 rfl (fun h => h)
  · refine tr_V.aload_n (i := 0) dX6_ways_9 rfl rfl ?_
    refine tr_V.iload_n (i := 1) dX6_ways_10 rfl rfl ?_
    refine tr_V.callV (C_X6_isSpent p1 M) yk_X6_isSpent iv_X6_isSpent ml_X6_224 shC_1 rfl ⟨rfl, Nat.le_of_ble_eq_true rfl⟩ rfl (Nat.le_of_ble_eq_true rfl) rfl dX6_ways_11 ?_
    refine tr_V.if_eq (tgt := 20) dX6_ways_14 (by decide) ?_ ?_
    · refine tr_V.aload_n (i := 0) dX6_ways_20 rfl rfl ?_
      refine tr_V.iload_n (i := 1) dX6_ways_21 rfl rfl ?_
      refine tr_V.bd (fun c5 h6 => ?_)
      refine tr_V.callV (C_X6_leastsOf p1 M _ h6) yk_X6_leastsOf iv_X6_leastsOf ml_X6_204 shC_1 rfl ⟨rfl, Nat.le_of_ble_eq_true rfl⟩ rfl (Nat.le_of_ble_eq_true rfl) rfl dX6_ways_22 ?_
      refine tr_V.astore_n (i := 2) dX6_ways_25 rfl (Nat.le_of_ble_eq_true rfl) rfl ?_
      refine tr_V.aload_n (i := 2) dX6_ways_26 rfl rfl ?_
      refine tr_V.ifnonnull (tgt := 34) dX6_ways_27 (by decide) ?_ ?_
      · refine tr_V.iconst (v := (0 : Int32)) dX6_ways_30 (by decide) ?_
        refine tr_V.goto (tgt := 38) dX6_ways_31 (by decide) ?_
        exact tr_V.iret dX6_ways_38 rfl (fun h => h)
      · refine tr_V.aload_n (i := 2) dX6_ways_34 rfl rfl ?_
        refine tr_V.bd (fun c7 h8 => ?_)
        refine K_LO_number h8 rfl (Nat.le_of_ble_eq_true rfl) ml_X6_227 (Nat.le_of_ble_eq_true rfl) dX6_ways_35 ?_
        exact tr_V.iret dX6_ways_38 rfl (fun h => h)
    · refine tr_V.bipush (v := (-6 : Int32)) dX6_ways_17 (by decide) ?_
      exact tr_V.iret dX6_ways_19 rfl (fun h => h)
def mLO_indexOf (q : Nat) (p0 : Nat) (M : tr_M) : Option (Int32 × tr_M) := if q = 25 then mX4_indexOf p0 M else if q = 24 then Option.map (fun v => (v, M)) (mX2_indexOf p0 M) else none
set_option maxHeartbeats 4000000 in
theorem K_LO_indexOf {ρ : Type} {X : tr_X} {E : tr_E} {pc : Nat} {lv : tr_L} {st : List Value} {M : tr_M} {φ : Option ρ} {Z : ρ → Prop} {q idx : Nat} {p0 : Nat} {v : Int32 × tr_M} (hv : mLO_indexOf q p0 M = some v) (hc : X.2.2.2.2.2 = (shC, 81)) (hlev : 5 < X.2.2.2.2.1) (hl : Cond.methodLink X.2.2.1 idx (⟨RX0, "indexOf", "([I)I"⟩ : MethodName) ∈ tr_tbl) (hw : tr_wd st ≤ 8) (hd : decode X.1 pc = .ok (.invokevirtual idx, 3)) (h : tr_V X E (pc + 3) lv ([.int v.1] ++ st) v.2 φ Z) : tr_V X E pc lv (.ref p0 :: .ref q :: st) M φ Z := by
  unfold mLO_indexOf at hv
  by_cases h25 : q = 25
  · subst h25
    rw [if_pos rfl] at hv
    exact tr_V.callA (x := (⟨RX0, "indexOf", "([I)I"⟩ : MethodName)) (C_X4_indexOf p0 M _ hv) yk_X4_indexOf ⟨tr_in 845 (by decide +kernel) rfl, tr_in 844 (by decide +kernel) rfl, tr_in 840 (by decide +kernel) rfl, by decide +kernel⟩ ⟨by decide +kernel, by decide +kernel, by decide +kernel⟩ hl (by rw [hc]; exact shC_25) rfl ⟨hc.symm, Nat.lt_of_le_of_lt (Nat.le_of_ble_eq_true rfl) hlev⟩ rfl hw rfl hd h
  by_cases h24 : q = 24
  · subst h24
    rw [if_neg (by decide), if_pos rfl] at hv
    obtain ⟨v1, hv1, hv2⟩ := Option.map_eq_some_iff.mp hv
    subst hv2
    exact tr_V.callA (x := (⟨RX0, "indexOf", "([I)I"⟩ : MethodName)) (C_X2_indexOf p0 M _ hv1) yk_X2_indexOf ⟨tr_in 842 (by decide +kernel) rfl, tr_in 841 (by decide +kernel) rfl, tr_in 840 (by decide +kernel) rfl, by decide +kernel⟩ ⟨by decide +kernel, by decide +kernel, by decide +kernel⟩ hl (by rw [hc]; exact shC_24) rfl ⟨hc.symm, Nat.lt_of_le_of_lt (Nat.le_of_ble_eq_true rfl) hlev⟩ rfl hw rfl hd h
  · rw [if_neg h25, if_neg h24] at hv
    cases hv
abbrev xX6_rank : tr_X := (cX6_rank, 5, RX6, (some .int), 27, shC, 81)
theorem cw_X6_rank : Cond.code yX6_rank cX6_rank 5 (some .int) ∈ tr_tbl := tr_in 837 (by decide +kernel) rfl
theorem yk_X6_rank : tr_yk yX6_rank (xX6_rank) 2 := ⟨cw_X6_rank, in_X6, ⟨by decide +kernel, by decide +kernel, by decide +kernel⟩, Nat.le_of_ble_eq_true rfl⟩
theorem iv_X6_rank : Cond.instanceMethod yX6_rank ∈ tr_tbl ∧ Cond.selects (yX6_rank).cls yX6_rank yX6_rank ∈ tr_tbl := ⟨tr_in 835 (by decide +kernel) rfl, tr_in 836 (by decide +kernel) rfl⟩
def mX6_rank (p1 : Int32) (p2 : Int32) (M : tr_M) : Option (Int32 × tr_M) :=
  if (mX6_isMeasure p1) = 0 then (
    some ((-1 : Int32), M)
  ) else (
    if (mX6_isRow p2) = 0 then (
      some ((-1 : Int32), M)
    ) else (
      Option.bind (mX6_orderFault p2 M) (fun c5 =>
      if c5 = 0 then (
        Option.bind (mX6_leastsOf p1 M) (fun c7 =>
        if c7.1 = 0 then (
          Option.bind (mX6_noLeast p1 c7.2) (fun c9 =>
          some (c9.1, c9.2)
          )
        ) else (
          Option.bind (tr_ra 6 (fun i => 62 + 2 * i) p2) (fun r11 =>
          Option.bind (mLO_indexOf c7.1 (r11 + 1) c7.2) (fun c13 =>
          some (c13.1, c13.2)
          )
          )
        )
        )
      ) else (
        Option.bind (mX6_found c5 M) (fun c15 =>
        some (c15.1, c15.2)
        )
      )
      )
    )
  )
set_option maxRecDepth 100000 in
set_option maxHeartbeats 4000000 in
theorem C_X6_rank (p1 : Int32) (p2 : Int32) (M : tr_M) (r : Int32 × tr_M) (h : mX6_rank p1 p2 M = some r) : tr_I yX6_rank (xX6_rank) [.ref 1, .int p1, .int p2] M (some (.int r.1)) r.2 := by
  refine tr_I.of (Z := fun q : Int32 × tr_M => (some (.int r.1) : Option Value) = some (.int q.1) ∧ r.2 = q.2) pn_X6 rfl gdC (Nat.le_of_ble_eq_true rfl) (fun Wt => ?_) h ⟨rfl, rfl⟩
  unfold mX6_rank
  refine tr_V.iload_n (i := 1) dX6_rank_0 rfl rfl ?_
  refine tr_V.callS (C_X6_isMeasure p1 M) yk_X6_isMeasure sc_X6_isMeasure ml_X6_184 ⟨rfl, Nat.le_of_ble_eq_true rfl⟩ rfl (Nat.le_of_ble_eq_true rfl) rfl dX6_rank_1 ?_
  refine tr_V.if_eq (tgt := 14) dX6_rank_4 (by decide) ?_ ?_
  · refine tr_V.iconst (v := (-1 : Int32)) dX6_rank_14 (by decide) ?_
    exact tr_V.iret dX6_rank_15 rfl (fun h => h)
  · refine tr_V.iload_n (i := 2) dX6_rank_7 rfl rfl ?_
    refine tr_V.callS (C_X6_isRow p2 M) yk_X6_isRow sc_X6_isRow ml_X6_84 ⟨rfl, Nat.le_of_ble_eq_true rfl⟩ rfl (Nat.le_of_ble_eq_true rfl) rfl dX6_rank_8 ?_
    refine tr_V.if_ne (tgt := 16) dX6_rank_11 (by decide) ?_ ?_
    · refine tr_V.iconst (v := (-1 : Int32)) dX6_rank_14 (by decide) ?_
      exact tr_V.iret dX6_rank_15 rfl (fun h => h)
    · refine tr_V.aload_n (i := 0) dX6_rank_16 rfl rfl ?_
      refine tr_V.iload_n (i := 2) dX6_rank_17 rfl rfl ?_
      refine tr_V.bd (fun c5 h6 => ?_)
      refine tr_V.callV (C_X6_orderFault p2 M _ h6) yk_X6_orderFault iv_X6_orderFault ml_X6_187 shC_1 rfl ⟨rfl, Nat.le_of_ble_eq_true rfl⟩ rfl (Nat.le_of_ble_eq_true rfl) rfl dX6_rank_18 ?_
      refine tr_V.istore_n (i := 3) dX6_rank_21 rfl (Nat.le_of_ble_eq_true rfl) rfl ?_
      refine tr_V.iload_n (i := 3) dX6_rank_22 rfl rfl ?_
      refine tr_V.if_eq (tgt := 32) dX6_rank_23 (by decide) ?_ ?_
      · refine tr_V.aload_n (i := 0) dX6_rank_32 rfl rfl ?_
        refine tr_V.iload_n (i := 1) dX6_rank_33 rfl rfl ?_
        refine tr_V.bd (fun c7 h8 => ?_)
        refine tr_V.callV (C_X6_leastsOf p1 M _ h8) yk_X6_leastsOf iv_X6_leastsOf ml_X6_204 shC_1 rfl ⟨rfl, Nat.le_of_ble_eq_true rfl⟩ rfl (Nat.le_of_ble_eq_true rfl) rfl dX6_rank_34 ?_
        refine tr_V.astore (i := 4) dX6_rank_37 (Nat.le_of_ble_eq_true rfl) rfl ?_
        refine tr_V.aload dX6_rank_39 rfl ?_
        refine tr_V.ifnonnull (tgt := 52) dX6_rank_41 (by decide) ?_ ?_
        · refine tr_V.aload_n (i := 0) dX6_rank_44 rfl rfl ?_
          refine tr_V.iload_n (i := 1) dX6_rank_45 rfl rfl ?_
          refine tr_V.bd (fun c9 h10 => ?_)
          refine tr_V.callV (C_X6_noLeast p1 c7.2 _ h10) yk_X6_noLeast iv_X6_noLeast ml_X6_208 shC_1 rfl ⟨rfl, Nat.le_of_ble_eq_true rfl⟩ rfl (Nat.le_of_ble_eq_true rfl) rfl dX6_rank_46 ?_
          refine tr_V.goto (tgt := 66) dX6_rank_49 (by decide) ?_
          exact tr_V.iret dX6_rank_66 rfl (fun h => h)
        · refine tr_V.aload dX6_rank_52 rfl ?_
          refine tr_V.aload_n (i := 0) dX6_rank_54 rfl rfl ?_
          refine tr_V.getR (Nat.succ_pos _) fl_X6_11 shC_1 rfl dX6_rank_55 ?_
          refine tr_V.iload_n (i := 2) dX6_rank_58 rfl rfl ?_
          refine tr_V.bd (fun r11 h12 => ?_)
          refine tr_V.aald (ty := .object RX1) h12 shC_2 (isL_pos (isL_2 h12)) (fun _ => rfl) rfl dX6_rank_59 ?_
          refine tr_V.getR (Nat.succ_pos _) fl_X6_99 (shL (isL_2 h12)) rfl dX6_rank_60 ?_
          refine tr_V.bd (fun c13 h14 => ?_)
          refine K_LO_indexOf h14 rfl (Nat.le_of_ble_eq_true rfl) ml_X6_230 (Nat.le_of_ble_eq_true rfl) dX6_rank_63 ?_
          exact tr_V.iret dX6_rank_66 rfl (fun h => h)
      · refine tr_V.aload_n (i := 0) dX6_rank_26 rfl rfl ?_
        refine tr_V.iload_n (i := 3) dX6_rank_27 rfl rfl ?_
        refine tr_V.bd (fun c15 h16 => ?_)
        refine tr_V.callV (C_X6_found c5 M _ h16) yk_X6_found iv_X6_found ml_X6_88 shC_1 rfl ⟨rfl, Nat.le_of_ble_eq_true rfl⟩ rfl (Nat.le_of_ble_eq_true rfl) rfl dX6_rank_28 ?_
        exact tr_V.iret dX6_rank_31 rfl (fun h => h)
abbrev xX6_order : tr_X := (cX6_order, 5, RX6, (some .int), 27, shC, 81)
theorem cw_X6_order : Cond.code yX6_order cX6_order 5 (some .int) ∈ tr_tbl := tr_in 850 (by decide +kernel) rfl
theorem yk_X6_order : tr_yk yX6_order (xX6_order) 3 := ⟨cw_X6_order, in_X6, ⟨by decide +kernel, by decide +kernel, by decide +kernel⟩, Nat.le_of_ble_eq_true rfl⟩
theorem iv_X6_order : Cond.instanceMethod yX6_order ∈ tr_tbl ∧ Cond.selects (yX6_order).cls yX6_order yX6_order ∈ tr_tbl := ⟨tr_in 848 (by decide +kernel) rfl, tr_in 849 (by decide +kernel) rfl⟩
def mX6_order (p1 : Int32) (p2 : Int32) (p3 : Int32) (M : tr_M) : Option (Int32 × tr_M) :=
  if (mX6_isMeasure p1) = 0 then (
    some ((-1 : Int32), M)
  ) else (
    if p2 < 0 then (
      some ((-1 : Int32), M)
    ) else (
      if (mX6_isRow p3) = 0 then (
        some ((-1 : Int32), M)
      ) else (
        Option.bind (mX6_leastsOf p1 M) (fun c5 =>
        if c5.1 = 0 then (
          Option.bind (mX6_noLeast p1 c5.2) (fun c7 =>
          some (c7.1, c7.2)
          )
        ) else (
          Option.bind (mLO_number c5.1 c5.2) (fun c9 =>
          if p2 < c9.1 then (
            Option.bind (mLO_pick c5.1 p2 59 c9.2) (fun c11 =>
            Option.bind (mX6_layOrder p3 59 c11) (fun c13 =>
            some ((1 : Int32), c13)
            )
            )
          ) else (
            Option.bind (mX6_found (2 : Int32) c9.2) (fun c15 =>
            some (c15.1, c15.2)
            )
          )
          )
        )
        )
      )
    )
  )
set_option maxRecDepth 100000 in
set_option maxHeartbeats 4000000 in
theorem C_X6_order (p1 : Int32) (p2 : Int32) (p3 : Int32) (M : tr_M) (r : Int32 × tr_M) (h : mX6_order p1 p2 p3 M = some r) : tr_I yX6_order (xX6_order) [.ref 1, .int p1, .int p2, .int p3] M (some (.int r.1)) r.2 := by
  refine tr_I.of (Z := fun q : Int32 × tr_M => (some (.int r.1) : Option Value) = some (.int q.1) ∧ r.2 = q.2) pn_X6 rfl gdC (Nat.le_of_ble_eq_true rfl) (fun Wt => ?_) h ⟨rfl, rfl⟩
  unfold mX6_order
  refine tr_V.iload_n (i := 1) dX6_order_0 rfl rfl ?_
  refine tr_V.callS (C_X6_isMeasure p1 M) yk_X6_isMeasure sc_X6_isMeasure ml_X6_184 ⟨rfl, Nat.le_of_ble_eq_true rfl⟩ rfl (Nat.le_of_ble_eq_true rfl) rfl dX6_order_1 ?_
  refine tr_V.if_eq (tgt := 18) dX6_order_4 (by decide) ?_ ?_
  · refine tr_V.iconst (v := (-1 : Int32)) dX6_order_18 (by decide) ?_
    exact tr_V.iret dX6_order_19 rfl (fun h => h)
  · refine tr_V.iload_n (i := 2) dX6_order_7 rfl rfl ?_
    refine tr_V.if_lt (tgt := 18) dX6_order_8 (by decide) ?_ ?_
    · refine tr_V.iconst (v := (-1 : Int32)) dX6_order_18 (by decide) ?_
      exact tr_V.iret dX6_order_19 rfl (fun h => h)
    · refine tr_V.iload_n (i := 3) dX6_order_11 rfl rfl ?_
      refine tr_V.callS (C_X6_isRow p3 M) yk_X6_isRow sc_X6_isRow ml_X6_84 ⟨rfl, Nat.le_of_ble_eq_true rfl⟩ rfl (Nat.le_of_ble_eq_true rfl) rfl dX6_order_12 ?_
      refine tr_V.if_ne (tgt := 20) dX6_order_15 (by decide) ?_ ?_
      · refine tr_V.iconst (v := (-1 : Int32)) dX6_order_18 (by decide) ?_
        exact tr_V.iret dX6_order_19 rfl (fun h => h)
      · refine tr_V.aload_n (i := 0) dX6_order_20 rfl rfl ?_
        refine tr_V.iload_n (i := 1) dX6_order_21 rfl rfl ?_
        refine tr_V.bd (fun c5 h6 => ?_)
        refine tr_V.callV (C_X6_leastsOf p1 M _ h6) yk_X6_leastsOf iv_X6_leastsOf ml_X6_204 shC_1 rfl ⟨rfl, Nat.le_of_ble_eq_true rfl⟩ rfl (Nat.le_of_ble_eq_true rfl) rfl dX6_order_22 ?_
        refine tr_V.astore (i := 4) dX6_order_25 (Nat.le_of_ble_eq_true rfl) rfl ?_
        refine tr_V.aload dX6_order_27 rfl ?_
        refine tr_V.ifnonnull (tgt := 38) dX6_order_29 (by decide) ?_ ?_
        · refine tr_V.aload_n (i := 0) dX6_order_32 rfl rfl ?_
          refine tr_V.iload_n (i := 1) dX6_order_33 rfl rfl ?_
          refine tr_V.bd (fun c7 h8 => ?_)
          refine tr_V.callV (C_X6_noLeast p1 c5.2 _ h8) yk_X6_noLeast iv_X6_noLeast ml_X6_208 shC_1 rfl ⟨rfl, Nat.le_of_ble_eq_true rfl⟩ rfl (Nat.le_of_ble_eq_true rfl) rfl dX6_order_34 ?_
          exact tr_V.iret dX6_order_37 rfl (fun h => h)
        · refine tr_V.iload_n (i := 2) dX6_order_38 rfl rfl ?_
          refine tr_V.aload dX6_order_39 rfl ?_
          refine tr_V.bd (fun c9 h10 => ?_)
          refine K_LO_number h10 rfl (Nat.le_of_ble_eq_true rfl) ml_X6_227 (Nat.le_of_ble_eq_true rfl) dX6_order_41 ?_
          refine tr_V.icmp_lt (tgt := 53) dX6_order_44 (by decide) ?_ ?_
          · refine tr_V.aload dX6_order_53 rfl ?_
            refine tr_V.iload_n (i := 2) dX6_order_55 rfl rfl ?_
            refine tr_V.aload_n (i := 0) dX6_order_56 rfl rfl ?_
            refine tr_V.getR (Nat.succ_pos _) fl_X6_51 shC_1 rfl dX6_order_57 ?_
            refine tr_V.bd (fun c11 h12 => ?_)
            refine K_LO_pick h12 rfl (Nat.le_of_ble_eq_true rfl) ml_X6_217 (Nat.le_of_ble_eq_true rfl) dX6_order_60 ?_
            refine tr_V.aload_n (i := 0) dX6_order_63 rfl rfl ?_
            refine tr_V.iload_n (i := 3) dX6_order_64 rfl rfl ?_
            refine tr_V.aload_n (i := 0) dX6_order_65 rfl rfl ?_
            refine tr_V.getR (Nat.succ_pos _) fl_X6_51 shC_1 rfl dX6_order_66 ?_
            refine tr_V.bd (fun c13 h14 => ?_)
            refine tr_V.callV (C_X6_layOrder p3 59 c11 _ h14) yk_X6_layOrder iv_X6_layOrder ml_X6_221 shC_1 rfl ⟨rfl, Nat.le_of_ble_eq_true rfl⟩ rfl (Nat.le_of_ble_eq_true rfl) rfl dX6_order_69 ?_
            refine tr_V.iconst (v := (1 : Int32)) dX6_order_72 (by decide) ?_
            exact tr_V.iret dX6_order_73 rfl (fun h => h)
          · refine tr_V.aload_n (i := 0) dX6_order_47 rfl rfl ?_
            refine tr_V.iconst (v := (2 : Int32)) dX6_order_48 (by decide) ?_
            refine tr_V.bd (fun c15 h16 => ?_)
            refine tr_V.callV (C_X6_found (2 : Int32) c9.2 _ h16) yk_X6_found iv_X6_found ml_X6_88 shC_1 rfl ⟨rfl, Nat.le_of_ble_eq_true rfl⟩ rfl (Nat.le_of_ble_eq_true rfl) rfl dX6_order_49 ?_
            exact tr_V.iret dX6_order_52 rfl (fun h => h)
abbrev xX6_all : tr_X := (cX6_all, 2, RX6, (some .int), 27, shC, 81)
theorem cw_X6_all : Cond.code yX6_all cX6_all 2 (some .int) ∈ tr_tbl := tr_in 854 (by decide +kernel) rfl
theorem yk_X6_all : tr_yk yX6_all (xX6_all) 0 := ⟨cw_X6_all, in_X6, ⟨by decide +kernel, by decide +kernel, by decide +kernel⟩, Nat.le_of_ble_eq_true rfl⟩
theorem iv_X6_all : Cond.instanceMethod yX6_all ∈ tr_tbl ∧ Cond.selects (yX6_all).cls yX6_all yX6_all ∈ tr_tbl := ⟨tr_in 852 (by decide +kernel) rfl, tr_in 853 (by decide +kernel) rfl⟩
def mX6_all  (M : tr_M) : Option (Int32 × tr_M) :=
  Option.bind (mX6_leastsOf (5 : Int32) M) (fun c1 =>
  if c1.1 = 0 then (
    some ((0 : Int32), c1.2)
  ) else (
    Option.bind (mLO_number c1.1 c1.2) (fun c3 =>
    some (c3.1, c3.2)
    )
  )
  )
set_option maxRecDepth 100000 in
set_option maxHeartbeats 4000000 in
theorem C_X6_all  (M : tr_M) (r : Int32 × tr_M) (h : mX6_all M = some r) : tr_I yX6_all (xX6_all) [.ref 1] M (some (.int r.1)) r.2 := by
  refine tr_I.of (Z := fun q : Int32 × tr_M => (some (.int r.1) : Option Value) = some (.int q.1) ∧ r.2 = q.2) pn_X6 rfl gdC (Nat.le_of_ble_eq_true rfl) (fun Wt => ?_) h ⟨rfl, rfl⟩
  unfold mX6_all
  refine tr_V.aload_n (i := 0) dX6_all_0 rfl rfl ?_
  refine tr_V.iconst (v := (5 : Int32)) dX6_all_1 (by decide) ?_
  refine tr_V.bd (fun c1 h2 => ?_)
  refine tr_V.callV (C_X6_leastsOf (5 : Int32) M _ h2) yk_X6_leastsOf iv_X6_leastsOf ml_X6_204 shC_1 rfl ⟨rfl, Nat.le_of_ble_eq_true rfl⟩ rfl (Nat.le_of_ble_eq_true rfl) rfl dX6_all_2 ?_
  refine tr_V.astore_n (i := 1) dX6_all_5 rfl (Nat.le_of_ble_eq_true rfl) rfl ?_
  refine tr_V.aload_n (i := 1) dX6_all_6 rfl rfl ?_
  refine tr_V.ifnonnull (tgt := 14) dX6_all_7 (by decide) ?_ ?_
  · refine tr_V.iconst (v := (0 : Int32)) dX6_all_10 (by decide) ?_
    refine tr_V.goto (tgt := 18) dX6_all_11 (by decide) ?_
    exact tr_V.iret dX6_all_18 rfl (fun h => h)
  · refine tr_V.aload_n (i := 1) dX6_all_14 rfl rfl ?_
    refine tr_V.bd (fun c3 h4 => ?_)
    refine K_LO_number h4 rfl (Nat.le_of_ble_eq_true rfl) ml_X6_227 (Nat.le_of_ble_eq_true rfl) dX6_all_15 ?_
    exact tr_V.iret dX6_all_18 rfl (fun h => h)
abbrev xX6_bound : tr_X := (cX6_bound, 2, RX6, (some .int), 4, shC, 81)
theorem cw_X6_bound : Cond.code yX6_bound cX6_bound 2 (some .int) ∈ tr_tbl := tr_in 858 (by decide +kernel) rfl
theorem yk_X6_bound : tr_yk yX6_bound (xX6_bound) 1 := ⟨cw_X6_bound, in_X6, ⟨by decide +kernel, by decide +kernel, by decide +kernel⟩, Nat.le_of_ble_eq_true rfl⟩
theorem iv_X6_bound : Cond.instanceMethod yX6_bound ∈ tr_tbl ∧ Cond.selects (yX6_bound).cls yX6_bound yX6_bound ∈ tr_tbl := ⟨tr_in 856 (by decide +kernel) rfl, tr_in 857 (by decide +kernel) rfl⟩
def mX6_bound (p1 : Int32) (M : tr_M) : Option (Int32) :=
  if (mX6_isMeasure p1) = 0 then (
    some (-1 : Int32)
  ) else (
    Option.bind (mX5_boundOf 26 p1 M) (fun c3 =>
    some c3
    )
  )
set_option maxRecDepth 100000 in
set_option maxHeartbeats 4000000 in
theorem C_X6_bound (p1 : Int32) (M : tr_M) (r : Int32) (h : mX6_bound p1 M = some r) : tr_I yX6_bound (xX6_bound) [.ref 1, .int p1] M (some (.int r)) M := by
  refine tr_I.of (Z := fun q : Int32 => (some (.int r) : Option Value) = some (.int q) ∧ M = M) pn_X6 rfl gdC (Nat.le_of_ble_eq_true rfl) (fun Wt => ?_) h ⟨rfl, rfl⟩
  unfold mX6_bound
  refine tr_V.iload_n (i := 1) dX6_bound_0 rfl rfl ?_
  refine tr_V.callS (C_X6_isMeasure p1 M) yk_X6_isMeasure sc_X6_isMeasure ml_X6_184 ⟨rfl, Nat.le_of_ble_eq_true rfl⟩ rfl (Nat.le_of_ble_eq_true rfl) rfl dX6_bound_1 ?_
  refine tr_V.if_ne (tgt := 9) dX6_bound_4 (by decide) ?_ ?_
  · refine tr_V.iconst (v := (-1 : Int32)) dX6_bound_7 (by decide) ?_
    exact tr_V.iret dX6_bound_8 rfl (fun h => h)
  · refine tr_V.aload_n (i := 0) dX6_bound_9 rfl rfl ?_
    refine tr_V.getR (Nat.succ_pos _) fl_X6_43 shC_1 rfl dX6_bound_10 ?_
    refine tr_V.iload_n (i := 1) dX6_bound_13 rfl rfl ?_
    refine tr_V.bd (fun c3 h4 => ?_)
    refine tr_V.callV (C_X5_boundOf 26 isW_26 p1 M _ h4) yk_X5_boundOf iv_X5_boundOf ml_X6_233 shC_26 rfl ⟨rfl, Nat.le_of_ble_eq_true rfl⟩ rfl (Nat.le_of_ble_eq_true rfl) rfl dX6_bound_14 ?_
    exact tr_V.iret dX6_bound_17 rfl (fun h => h)
abbrev xX6_valueOr : tr_X := (cX6_valueOr, 2, RX6, (some .int), 2, shC, 81)
theorem cw_X6_valueOr : Cond.code yX6_valueOr cX6_valueOr 2 (some .int) ∈ tr_tbl := tr_in 896 (by decide +kernel) rfl
theorem yk_X6_valueOr : tr_yk yX6_valueOr (xX6_valueOr) 2 := ⟨cw_X6_valueOr, in_X6, ⟨by decide +kernel, by decide +kernel, by decide +kernel⟩, Nat.le_of_ble_eq_true rfl⟩
theorem sc_X6_valueOr : Cond.static yX6_valueOr ∈ tr_tbl := tr_in 895 (by decide +kernel) rfl
def mX6_valueOr (p0 : Nat) (p1 : Int32) (M : tr_M) : Option (Int32) :=
  if p0 = 0 then (
    some p1
  ) else (
    Option.bind (mLO_value p0 M) (fun c1 =>
    some c1
    )
  )
set_option maxRecDepth 100000 in
set_option maxHeartbeats 4000000 in
theorem C_X6_valueOr (p0 : Nat) (p1 : Int32) (M : tr_M) (r : Int32) (h : mX6_valueOr p0 p1 M = some r) : tr_I yX6_valueOr (xX6_valueOr) [.ref p0, .int p1] M (some (.int r)) M := by
  refine tr_I.of (Z := fun q : Int32 => (some (.int r) : Option Value) = some (.int q) ∧ M = M) pn_X6 rfl gdC (Nat.le_of_ble_eq_true rfl) (fun Wt => ?_) h ⟨rfl, rfl⟩
  unfold mX6_valueOr
  refine tr_V.aload_n (i := 0) dX6_valueOr_0 rfl rfl ?_
  refine tr_V.ifnonnull (tgt := 8) dX6_valueOr_1 (by decide) ?_ ?_
  · refine tr_V.iload_n (i := 1) dX6_valueOr_4 rfl rfl ?_
    refine tr_V.goto (tgt := 12) dX6_valueOr_5 (by decide) ?_
    exact tr_V.iret dX6_valueOr_12 rfl (fun h => h)
  · refine tr_V.aload_n (i := 0) dX6_valueOr_8 rfl rfl ?_
    refine tr_V.bd (fun c1 h2 => ?_)
    refine K_LO_value h2 rfl (Nat.le_of_ble_eq_true rfl) ml_X6_211 (Nat.le_of_ble_eq_true rfl) dX6_valueOr_9 ?_
    exact tr_V.iret dX6_valueOr_12 rfl (fun h => h)
abbrev xX6_costs : tr_X := (cX6_costs, 8, RX6, (some .int), 27, shC, 81)
theorem cw_X6_costs : Cond.code yX6_costs cX6_costs 8 (some .int) ∈ tr_tbl := tr_in 893 (by decide +kernel) rfl
theorem yk_X6_costs : tr_yk yX6_costs (xX6_costs) 3 := ⟨cw_X6_costs, in_X6, ⟨by decide +kernel, by decide +kernel, by decide +kernel⟩, Nat.le_of_ble_eq_true rfl⟩
theorem iv_X6_costs : Cond.instanceMethod yX6_costs ∈ tr_tbl ∧ Cond.selects (yX6_costs).cls yX6_costs yX6_costs ∈ tr_tbl := ⟨tr_in 891 (by decide +kernel) rfl, tr_in 892 (by decide +kernel) rfl⟩
def mX6_costs (p1 : Int32) (p2 : Int32) (p3 : Int32) (M : tr_M) : Option (Int32 × tr_M) :=
  if (mX6_isMeasure p1) = 0 then (
    some ((-1 : Int32), M)
  ) else (
    if (mX5_areUnlike 26 p2 p3 M) = 0 then (
      some ((-1 : Int32), M)
    ) else (
      Option.bind (mX6_leastsOf p1 M) (fun c5 =>
      if c5.1 = 0 then (
        Option.bind (mX6_noLeast p1 c5.2) (fun c7 =>
        some (c7.1, c7.2)
        )
      ) else (
        Option.bind (tr_ra 10 (fun i => 28 + i) p2) (fun r9 =>
        Option.bind (tr_rd 10 c5.2 r9 p3) (fun a11 =>
        if a11 = 0 then (
          some ((0 : Int32), c5.2)
        ) else (
          Option.bind (mLO_value c5.1 c5.2) (fun c13 =>
          Option.bind (mX5_setTie 26 p2 p3 (0 : Int32) c5.2) (fun c15 =>
          Option.bind (mX6_forget c15) (fun c17 =>
          Option.bind (mX6_leastsOf p1 c17) (fun c19 =>
          Option.bind (mX6_valueOr c19.1 c13 c19.2) (fun c21 =>
          Option.bind (mX5_setTie 26 p2 p3 a11 c19.2) (fun c23 =>
          Option.bind (mX6_forget c23) (fun c25 =>
          some ((c13 - c21), c25)
          )
          )
          )
          )
          )
          )
          )
        )
        )
        )
      )
      )
    )
  )
set_option maxRecDepth 100000 in
set_option maxHeartbeats 4000000 in
theorem C_X6_costs (p1 : Int32) (p2 : Int32) (p3 : Int32) (M : tr_M) (r : Int32 × tr_M) (h : mX6_costs p1 p2 p3 M = some r) : tr_I yX6_costs (xX6_costs) [.ref 1, .int p1, .int p2, .int p3] M (some (.int r.1)) r.2 := by
  refine tr_I.of (Z := fun q : Int32 × tr_M => (some (.int r.1) : Option Value) = some (.int q.1) ∧ r.2 = q.2) pn_X6 rfl gdC (Nat.le_of_ble_eq_true rfl) (fun Wt => ?_) h ⟨rfl, rfl⟩
  unfold mX6_costs
  refine tr_V.iload_n (i := 1) dX6_costs_0 rfl rfl ?_
  refine tr_V.callS (C_X6_isMeasure p1 M) yk_X6_isMeasure sc_X6_isMeasure ml_X6_184 ⟨rfl, Nat.le_of_ble_eq_true rfl⟩ rfl (Nat.le_of_ble_eq_true rfl) rfl dX6_costs_1 ?_
  refine tr_V.if_eq (tgt := 19) dX6_costs_4 (by decide) ?_ ?_
  · refine tr_V.iconst (v := (-1 : Int32)) dX6_costs_19 (by decide) ?_
    exact tr_V.iret dX6_costs_20 rfl (fun h => h)
  · refine tr_V.aload_n (i := 0) dX6_costs_7 rfl rfl ?_
    refine tr_V.getR (Nat.succ_pos _) fl_X6_43 shC_1 rfl dX6_costs_8 ?_
    refine tr_V.iload_n (i := 2) dX6_costs_11 rfl rfl ?_
    refine tr_V.iload_n (i := 3) dX6_costs_12 rfl rfl ?_
    refine tr_V.callV (C_X5_areUnlike 26 isW_26 p2 p3 M) yk_X5_areUnlike iv_X5_areUnlike ml_X6_139 shC_26 rfl ⟨rfl, Nat.le_of_ble_eq_true rfl⟩ rfl (Nat.le_of_ble_eq_true rfl) rfl dX6_costs_13 ?_
    refine tr_V.if_ne (tgt := 21) dX6_costs_16 (by decide) ?_ ?_
    · refine tr_V.iconst (v := (-1 : Int32)) dX6_costs_19 (by decide) ?_
      exact tr_V.iret dX6_costs_20 rfl (fun h => h)
    · refine tr_V.aload_n (i := 0) dX6_costs_21 rfl rfl ?_
      refine tr_V.iload_n (i := 1) dX6_costs_22 rfl rfl ?_
      refine tr_V.bd (fun c5 h6 => ?_)
      refine tr_V.callV (C_X6_leastsOf p1 M _ h6) yk_X6_leastsOf iv_X6_leastsOf ml_X6_204 shC_1 rfl ⟨rfl, Nat.le_of_ble_eq_true rfl⟩ rfl (Nat.le_of_ble_eq_true rfl) rfl dX6_costs_23 ?_
      refine tr_V.astore (i := 4) dX6_costs_26 (Nat.le_of_ble_eq_true rfl) rfl ?_
      refine tr_V.aload dX6_costs_28 rfl ?_
      refine tr_V.ifnonnull (tgt := 39) dX6_costs_30 (by decide) ?_ ?_
      · refine tr_V.aload_n (i := 0) dX6_costs_33 rfl rfl ?_
        refine tr_V.iload_n (i := 1) dX6_costs_34 rfl rfl ?_
        refine tr_V.bd (fun c7 h8 => ?_)
        refine tr_V.callV (C_X6_noLeast p1 c5.2 _ h8) yk_X6_noLeast iv_X6_noLeast ml_X6_208 shC_1 rfl ⟨rfl, Nat.le_of_ble_eq_true rfl⟩ rfl (Nat.le_of_ble_eq_true rfl) rfl dX6_costs_35 ?_
        exact tr_V.iret dX6_costs_38 rfl (fun h => h)
      · refine tr_V.aload_n (i := 0) dX6_costs_39 rfl rfl ?_
        refine tr_V.getR (Nat.succ_pos _) fl_X6_43 shC_1 rfl dX6_costs_40 ?_
        refine tr_V.getR (Nat.succ_pos _) fl_X6_142 shC_26 rfl dX6_costs_43 ?_
        refine tr_V.iload_n (i := 2) dX6_costs_46 rfl rfl ?_
        refine tr_V.bd (fun r9 h10 => ?_)
        refine tr_V.aald (ty := .array .int) h10 shC_27 (tr_ra_pos h10 (by omega)) (fun _ => rfl) rfl dX6_costs_47 ?_
        refine tr_V.iload_n (i := 3) dX6_costs_48 rfl rfl ?_
        refine tr_V.bd (fun a11 h12 => ?_)
        refine tr_V.iald h12 (shW_in isW_26 h10) dX6_costs_49 ?_
        refine tr_V.istore (i := 5) dX6_costs_50 (Nat.le_of_ble_eq_true rfl) rfl ?_
        refine tr_V.iload dX6_costs_52 rfl ?_
        refine tr_V.if_ne (tgt := 59) dX6_costs_54 (by decide) ?_ ?_
        · refine tr_V.iconst (v := (0 : Int32)) dX6_costs_57 (by decide) ?_
          exact tr_V.iret dX6_costs_58 rfl (fun h => h)
        · refine tr_V.aload dX6_costs_59 rfl ?_
          refine tr_V.bd (fun c13 h14 => ?_)
          refine K_LO_value h14 rfl (Nat.le_of_ble_eq_true rfl) ml_X6_211 (Nat.le_of_ble_eq_true rfl) dX6_costs_61 ?_
          refine tr_V.istore (i := 6) dX6_costs_64 (Nat.le_of_ble_eq_true rfl) rfl ?_
          refine tr_V.aload_n (i := 0) dX6_costs_66 rfl rfl ?_
          refine tr_V.getR (Nat.succ_pos _) fl_X6_43 shC_1 rfl dX6_costs_67 ?_
          refine tr_V.iload_n (i := 2) dX6_costs_70 rfl rfl ?_
          refine tr_V.iload_n (i := 3) dX6_costs_71 rfl rfl ?_
          refine tr_V.iconst (v := (0 : Int32)) dX6_costs_72 (by decide) ?_
          refine tr_V.bd (fun c15 h16 => ?_)
          refine tr_V.callV (C_X5_setTie 26 isW_26 p2 p3 (0 : Int32) c5.2 _ h16) yk_X5_setTie iv_X5_setTie ml_X6_146 shC_26 rfl ⟨rfl, Nat.le_of_ble_eq_true rfl⟩ rfl (Nat.le_of_ble_eq_true rfl) rfl dX6_costs_73 ?_
          refine tr_V.aload_n (i := 0) dX6_costs_76 rfl rfl ?_
          refine tr_V.bd (fun c17 h18 => ?_)
          refine tr_V.callV (C_X6_forget c15 _ h18) yk_X6_forget iv_X6_forget ml_X6_133 shC_1 rfl ⟨rfl, Nat.le_of_ble_eq_true rfl⟩ rfl (Nat.le_of_ble_eq_true rfl) rfl dX6_costs_77 ?_
          refine tr_V.aload_n (i := 0) dX6_costs_80 rfl rfl ?_
          refine tr_V.iload_n (i := 1) dX6_costs_81 rfl rfl ?_
          refine tr_V.bd (fun c19 h20 => ?_)
          refine tr_V.callV (C_X6_leastsOf p1 c17 _ h20) yk_X6_leastsOf iv_X6_leastsOf ml_X6_204 shC_1 rfl ⟨rfl, Nat.le_of_ble_eq_true rfl⟩ rfl (Nat.le_of_ble_eq_true rfl) rfl dX6_costs_82 ?_
          refine tr_V.iload dX6_costs_85 rfl ?_
          refine tr_V.bd (fun c21 h22 => ?_)
          refine tr_V.callS (C_X6_valueOr c19.1 c13 c19.2 _ h22) yk_X6_valueOr sc_X6_valueOr ml_X6_236 ⟨rfl, Nat.le_of_ble_eq_true rfl⟩ rfl (Nat.le_of_ble_eq_true rfl) rfl dX6_costs_87 ?_
          refine tr_V.istore (i := 7) dX6_costs_90 (Nat.le_of_ble_eq_true rfl) rfl ?_
          refine tr_V.aload_n (i := 0) dX6_costs_92 rfl rfl ?_
          refine tr_V.getR (Nat.succ_pos _) fl_X6_43 shC_1 rfl dX6_costs_93 ?_
          refine tr_V.iload_n (i := 2) dX6_costs_96 rfl rfl ?_
          refine tr_V.iload_n (i := 3) dX6_costs_97 rfl rfl ?_
          refine tr_V.iload dX6_costs_98 rfl ?_
          refine tr_V.bd (fun c23 h24 => ?_)
          refine tr_V.callV (C_X5_setTie 26 isW_26 p2 p3 a11 c19.2 _ h24) yk_X5_setTie iv_X5_setTie ml_X6_146 shC_26 rfl ⟨rfl, Nat.le_of_ble_eq_true rfl⟩ rfl (Nat.le_of_ble_eq_true rfl) rfl dX6_costs_100 ?_
          refine tr_V.aload_n (i := 0) dX6_costs_103 rfl rfl ?_
          refine tr_V.bd (fun c25 h26 => ?_)
          refine tr_V.callV (C_X6_forget c23 _ h26) yk_X6_forget iv_X6_forget ml_X6_133 shC_1 rfl ⟨rfl, Nat.le_of_ble_eq_true rfl⟩ rfl (Nat.le_of_ble_eq_true rfl) rfl dX6_costs_104 ?_
          refine tr_V.iload dX6_costs_107 rfl ?_
          refine tr_V.iload dX6_costs_109 rfl ?_
          refine tr_V.isub dX6_costs_111 ?_
          exact tr_V.iret dX6_costs_112 rfl (fun h => h)
abbrev xX6_bars : tr_X := (cX6_bars, 6, RX6, (some .int), 27, shC, 81)
theorem cw_X6_bars : Cond.code yX6_bars cX6_bars 6 (some .int) ∈ tr_tbl := tr_in 900 (by decide +kernel) rfl
theorem yk_X6_bars : tr_yk yX6_bars (xX6_bars) 2 := ⟨cw_X6_bars, in_X6, ⟨by decide +kernel, by decide +kernel, by decide +kernel⟩, Nat.le_of_ble_eq_true rfl⟩
theorem iv_X6_bars : Cond.instanceMethod yX6_bars ∈ tr_tbl ∧ Cond.selects (yX6_bars).cls yX6_bars yX6_bars ∈ tr_tbl := ⟨tr_in 898 (by decide +kernel) rfl, tr_in 899 (by decide +kernel) rfl⟩
def mX6_bars (p1 : Int32) (p2 : Int32) (M : tr_M) : Option (Int32 × tr_M) :=
  if (mX6_isMeasure p1) = 0 then (
    some ((-1 : Int32), M)
  ) else (
    if (mX5_isRule 26 p2 M) = 0 then (
      some ((-1 : Int32), M)
    ) else (
      Option.bind (mX6_leastsOf p1 M) (fun c5 =>
      if c5.1 = 0 then (
        Option.bind (mX6_noLeast p1 c5.2) (fun c7 =>
        some (c7.1, c7.2)
        )
      ) else (
        if (mX5_isOff 26 p2 c5.2) = 0 then (
          Option.bind (mLO_value c5.1 c5.2) (fun c11 =>
          Option.bind (mX5_setOff 26 p2 (1 : Int32) c5.2) (fun c13 =>
          Option.bind (mX6_forget c13) (fun c15 =>
          Option.bind (mX6_leastsOf p1 c15) (fun c17 =>
          Option.bind (mX6_valueOr c17.1 c11 c17.2) (fun c19 =>
          Option.bind (mX5_setOff 26 p2 (0 : Int32) c17.2) (fun c21 =>
          Option.bind (mX6_forget c21) (fun c23 =>
          some ((c11 - c19), c23)
          )
          )
          )
          )
          )
          )
          )
        ) else (
          some ((0 : Int32), c5.2)
        )
      )
      )
    )
  )
set_option maxRecDepth 100000 in
set_option maxHeartbeats 4000000 in
theorem C_X6_bars (p1 : Int32) (p2 : Int32) (M : tr_M) (r : Int32 × tr_M) (h : mX6_bars p1 p2 M = some r) : tr_I yX6_bars (xX6_bars) [.ref 1, .int p1, .int p2] M (some (.int r.1)) r.2 := by
  refine tr_I.of (Z := fun q : Int32 × tr_M => (some (.int r.1) : Option Value) = some (.int q.1) ∧ r.2 = q.2) pn_X6 rfl gdC (Nat.le_of_ble_eq_true rfl) (fun Wt => ?_) h ⟨rfl, rfl⟩
  unfold mX6_bars
  refine tr_V.iload_n (i := 1) dX6_bars_0 rfl rfl ?_
  refine tr_V.callS (C_X6_isMeasure p1 M) yk_X6_isMeasure sc_X6_isMeasure ml_X6_184 ⟨rfl, Nat.le_of_ble_eq_true rfl⟩ rfl (Nat.le_of_ble_eq_true rfl) rfl dX6_bars_1 ?_
  refine tr_V.if_eq (tgt := 18) dX6_bars_4 (by decide) ?_ ?_
  · refine tr_V.iconst (v := (-1 : Int32)) dX6_bars_18 (by decide) ?_
    exact tr_V.iret dX6_bars_19 rfl (fun h => h)
  · refine tr_V.aload_n (i := 0) dX6_bars_7 rfl rfl ?_
    refine tr_V.getR (Nat.succ_pos _) fl_X6_43 shC_1 rfl dX6_bars_8 ?_
    refine tr_V.iload_n (i := 2) dX6_bars_11 rfl rfl ?_
    refine tr_V.callV (C_X5_isRule 26 isW_26 p2 M) yk_X5_isRule iv_X5_isRule ml_X6_161 shC_26 rfl ⟨rfl, Nat.le_of_ble_eq_true rfl⟩ rfl (Nat.le_of_ble_eq_true rfl) rfl dX6_bars_12 ?_
    refine tr_V.if_ne (tgt := 20) dX6_bars_15 (by decide) ?_ ?_
    · refine tr_V.iconst (v := (-1 : Int32)) dX6_bars_18 (by decide) ?_
      exact tr_V.iret dX6_bars_19 rfl (fun h => h)
    · refine tr_V.aload_n (i := 0) dX6_bars_20 rfl rfl ?_
      refine tr_V.iload_n (i := 1) dX6_bars_21 rfl rfl ?_
      refine tr_V.bd (fun c5 h6 => ?_)
      refine tr_V.callV (C_X6_leastsOf p1 M _ h6) yk_X6_leastsOf iv_X6_leastsOf ml_X6_204 shC_1 rfl ⟨rfl, Nat.le_of_ble_eq_true rfl⟩ rfl (Nat.le_of_ble_eq_true rfl) rfl dX6_bars_22 ?_
      refine tr_V.astore_n (i := 3) dX6_bars_25 rfl (Nat.le_of_ble_eq_true rfl) rfl ?_
      refine tr_V.aload_n (i := 3) dX6_bars_26 rfl rfl ?_
      refine tr_V.ifnonnull (tgt := 36) dX6_bars_27 (by decide) ?_ ?_
      · refine tr_V.aload_n (i := 0) dX6_bars_30 rfl rfl ?_
        refine tr_V.iload_n (i := 1) dX6_bars_31 rfl rfl ?_
        refine tr_V.bd (fun c7 h8 => ?_)
        refine tr_V.callV (C_X6_noLeast p1 c5.2 _ h8) yk_X6_noLeast iv_X6_noLeast ml_X6_208 shC_1 rfl ⟨rfl, Nat.le_of_ble_eq_true rfl⟩ rfl (Nat.le_of_ble_eq_true rfl) rfl dX6_bars_32 ?_
        exact tr_V.iret dX6_bars_35 rfl (fun h => h)
      · refine tr_V.aload_n (i := 0) dX6_bars_36 rfl rfl ?_
        refine tr_V.getR (Nat.succ_pos _) fl_X6_43 shC_1 rfl dX6_bars_37 ?_
        refine tr_V.iload_n (i := 2) dX6_bars_40 rfl rfl ?_
        refine tr_V.callV (C_X5_isOff 26 isW_26 p2 c5.2) yk_X5_isOff iv_X5_isOff ml_X6_164 shC_26 rfl ⟨rfl, Nat.le_of_ble_eq_true rfl⟩ rfl (Nat.le_of_ble_eq_true rfl) rfl dX6_bars_41 ?_
        refine tr_V.if_eq (tgt := 49) dX6_bars_44 (by decide) ?_ ?_
        · refine tr_V.aload_n (i := 3) dX6_bars_49 rfl rfl ?_
          refine tr_V.bd (fun c11 h12 => ?_)
          refine K_LO_value h12 rfl (Nat.le_of_ble_eq_true rfl) ml_X6_211 (Nat.le_of_ble_eq_true rfl) dX6_bars_50 ?_
          refine tr_V.istore (i := 4) dX6_bars_53 (Nat.le_of_ble_eq_true rfl) rfl ?_
          refine tr_V.aload_n (i := 0) dX6_bars_55 rfl rfl ?_
          refine tr_V.getR (Nat.succ_pos _) fl_X6_43 shC_1 rfl dX6_bars_56 ?_
          refine tr_V.iload_n (i := 2) dX6_bars_59 rfl rfl ?_
          refine tr_V.iconst (v := (1 : Int32)) dX6_bars_60 (by decide) ?_
          refine tr_V.bd (fun c13 h14 => ?_)
          refine tr_V.callV (C_X5_setOff 26 isW_26 p2 (1 : Int32) c5.2 _ h14) yk_X5_setOff iv_X5_setOff ml_X6_167 shC_26 rfl ⟨rfl, Nat.le_of_ble_eq_true rfl⟩ rfl (Nat.le_of_ble_eq_true rfl) rfl dX6_bars_61 ?_
          refine tr_V.aload_n (i := 0) dX6_bars_64 rfl rfl ?_
          refine tr_V.bd (fun c15 h16 => ?_)
          refine tr_V.callV (C_X6_forget c13 _ h16) yk_X6_forget iv_X6_forget ml_X6_133 shC_1 rfl ⟨rfl, Nat.le_of_ble_eq_true rfl⟩ rfl (Nat.le_of_ble_eq_true rfl) rfl dX6_bars_65 ?_
          refine tr_V.aload_n (i := 0) dX6_bars_68 rfl rfl ?_
          refine tr_V.iload_n (i := 1) dX6_bars_69 rfl rfl ?_
          refine tr_V.bd (fun c17 h18 => ?_)
          refine tr_V.callV (C_X6_leastsOf p1 c15 _ h18) yk_X6_leastsOf iv_X6_leastsOf ml_X6_204 shC_1 rfl ⟨rfl, Nat.le_of_ble_eq_true rfl⟩ rfl (Nat.le_of_ble_eq_true rfl) rfl dX6_bars_70 ?_
          refine tr_V.iload dX6_bars_73 rfl ?_
          refine tr_V.bd (fun c19 h20 => ?_)
          refine tr_V.callS (C_X6_valueOr c17.1 c11 c17.2 _ h20) yk_X6_valueOr sc_X6_valueOr ml_X6_236 ⟨rfl, Nat.le_of_ble_eq_true rfl⟩ rfl (Nat.le_of_ble_eq_true rfl) rfl dX6_bars_75 ?_
          refine tr_V.istore (i := 5) dX6_bars_78 (Nat.le_of_ble_eq_true rfl) rfl ?_
          refine tr_V.aload_n (i := 0) dX6_bars_80 rfl rfl ?_
          refine tr_V.getR (Nat.succ_pos _) fl_X6_43 shC_1 rfl dX6_bars_81 ?_
          refine tr_V.iload_n (i := 2) dX6_bars_84 rfl rfl ?_
          refine tr_V.iconst (v := (0 : Int32)) dX6_bars_85 (by decide) ?_
          refine tr_V.bd (fun c21 h22 => ?_)
          refine tr_V.callV (C_X5_setOff 26 isW_26 p2 (0 : Int32) c17.2 _ h22) yk_X5_setOff iv_X5_setOff ml_X6_167 shC_26 rfl ⟨rfl, Nat.le_of_ble_eq_true rfl⟩ rfl (Nat.le_of_ble_eq_true rfl) rfl dX6_bars_86 ?_
          refine tr_V.aload_n (i := 0) dX6_bars_89 rfl rfl ?_
          refine tr_V.bd (fun c23 h24 => ?_)
          refine tr_V.callV (C_X6_forget c21 _ h24) yk_X6_forget iv_X6_forget ml_X6_133 shC_1 rfl ⟨rfl, Nat.le_of_ble_eq_true rfl⟩ rfl (Nat.le_of_ble_eq_true rfl) rfl dX6_bars_90 ?_
          refine tr_V.iload dX6_bars_93 rfl ?_
          refine tr_V.iload dX6_bars_95 rfl ?_
          refine tr_V.isub dX6_bars_97 ?_
          exact tr_V.iret dX6_bars_98 rfl (fun h => h)
        · refine tr_V.iconst (v := (0 : Int32)) dX6_bars_47 (by decide) ?_
          exact tr_V.iret dX6_bars_48 rfl (fun h => h)
abbrev xX6_where : tr_X := (cX6_where, 5, RX6, (some .int), 27, shC, 81)
theorem cw_X6_where : Cond.code yX6_where cX6_where 5 (some .int) ∈ tr_tbl := tr_in 904 (by decide +kernel) rfl
theorem yk_X6_where : tr_yk yX6_where (xX6_where) 3 := ⟨cw_X6_where, in_X6, ⟨by decide +kernel, by decide +kernel, by decide +kernel⟩, Nat.le_of_ble_eq_true rfl⟩
theorem iv_X6_where : Cond.instanceMethod yX6_where ∈ tr_tbl ∧ Cond.selects (yX6_where).cls yX6_where yX6_where ∈ tr_tbl := ⟨tr_in 902 (by decide +kernel) rfl, tr_in 903 (by decide +kernel) rfl⟩
def mX6_where (p1 : Int32) (p2 : Int32) (p3 : Int32) (M : tr_M) : Option (Int32 × tr_M) :=
  if (mX6_isMeasure p1) = 0 then (
    some ((-1 : Int32), M)
  ) else (
    if (mX5_isThing 26 p2 M) = 0 then (
      some ((-1 : Int32), M)
    ) else (
      if p3 < 0 then (
        some ((-1 : Int32), M)
      ) else (
        if p3 < (M.1 26 0) then (
          if (mX6_isSpent p1 M) = 0 then (
            Option.bind (mX4_pin p2 p3 M) (fun c7 =>
            Option.bind (mX6_forget c7) (fun c9 =>
            Option.bind (mX6_leastsOf p1 c9) (fun c11 =>
            Option.bind (mX6_valueOr c11.1 (-9 : Int32) c11.2) (fun c13 =>
            Option.bind (mX4_unpin c11.2) (fun c15 =>
            Option.bind (mX6_forget c15) (fun c17 =>
            if c13 = (-9 : Int32) then (
              Option.bind (mX6_leastsOf (5 : Int32) c17) (fun c19 =>
              if c19.1 = 0 then (
                Option.bind (mX6_found (4 : Int32) c19.2) (fun c21 =>
                some (c21.1, c21.2)
                )
              ) else (
                some (c13, c19.2)
              )
              )
            ) else (
              some (c13, c17)
            )
            )
            )
            )
            )
            )
            )
          ) else (
            some ((-6 : Int32), M)
          )
        ) else (
          some ((-1 : Int32), M)
        )
      )
    )
  )
set_option maxRecDepth 100000 in
set_option maxHeartbeats 4000000 in
theorem C_X6_where (p1 : Int32) (p2 : Int32) (p3 : Int32) (M : tr_M) (r : Int32 × tr_M) (h : mX6_where p1 p2 p3 M = some r) : tr_I yX6_where (xX6_where) [.ref 1, .int p1, .int p2, .int p3] M (some (.int r.1)) r.2 := by
  refine tr_I.of (Z := fun q : Int32 × tr_M => (some (.int r.1) : Option Value) = some (.int q.1) ∧ r.2 = q.2) pn_X6 rfl gdC (Nat.le_of_ble_eq_true rfl) (fun Wt => ?_) h ⟨rfl, rfl⟩
  unfold mX6_where
  refine tr_V.iload_n (i := 1) dX6_where_0 rfl rfl ?_
  refine tr_V.callS (C_X6_isMeasure p1 M) yk_X6_isMeasure sc_X6_isMeasure ml_X6_184 ⟨rfl, Nat.le_of_ble_eq_true rfl⟩ rfl (Nat.le_of_ble_eq_true rfl) rfl dX6_where_1 ?_
  refine tr_V.if_eq (tgt := 33) dX6_where_4 (by decide) ?_ ?_
  · refine tr_V.iconst (v := (-1 : Int32)) dX6_where_33 (by decide) ?_
    exact tr_V.iret dX6_where_34 rfl (fun h => h)
  · refine tr_V.aload_n (i := 0) dX6_where_7 rfl rfl ?_
    refine tr_V.getR (Nat.succ_pos _) fl_X6_43 shC_1 rfl dX6_where_8 ?_
    refine tr_V.iload_n (i := 2) dX6_where_11 rfl rfl ?_
    refine tr_V.callV (C_X5_isThing 26 isW_26 p2 M) yk_X5_isThing iv_X5_isThing ml_X6_240 shC_26 rfl ⟨rfl, Nat.le_of_ble_eq_true rfl⟩ rfl (Nat.le_of_ble_eq_true rfl) rfl dX6_where_12 ?_
    refine tr_V.if_eq (tgt := 33) dX6_where_15 (by decide) ?_ ?_
    · refine tr_V.iconst (v := (-1 : Int32)) dX6_where_33 (by decide) ?_
      exact tr_V.iret dX6_where_34 rfl (fun h => h)
    · refine tr_V.iload_n (i := 3) dX6_where_18 rfl rfl ?_
      refine tr_V.if_lt (tgt := 33) dX6_where_19 (by decide) ?_ ?_
      · refine tr_V.iconst (v := (-1 : Int32)) dX6_where_33 (by decide) ?_
        exact tr_V.iret dX6_where_34 rfl (fun h => h)
      · refine tr_V.iload_n (i := 3) dX6_where_22 rfl rfl ?_
        refine tr_V.aload_n (i := 0) dX6_where_23 rfl rfl ?_
        refine tr_V.getR (Nat.succ_pos _) fl_X6_43 shC_1 rfl dX6_where_24 ?_
        refine tr_V.getI fl_X6_136 shC_26 rfl dX6_where_27 ?_
        refine tr_V.icmp_lt (tgt := 35) dX6_where_30 (by decide) ?_ ?_
        · refine tr_V.aload_n (i := 0) dX6_where_35 rfl rfl ?_
          refine tr_V.iload_n (i := 1) dX6_where_36 rfl rfl ?_
          refine tr_V.callV (C_X6_isSpent p1 M) yk_X6_isSpent iv_X6_isSpent ml_X6_224 shC_1 rfl ⟨rfl, Nat.le_of_ble_eq_true rfl⟩ rfl (Nat.le_of_ble_eq_true rfl) rfl dX6_where_37 ?_
          refine tr_V.if_eq (tgt := 46) dX6_where_40 (by decide) ?_ ?_
          · refine tr_V.aload_n (i := 0) dX6_where_46 rfl rfl ?_
            refine tr_V.getR (Nat.succ_pos _) fl_X6_36 shC_1 rfl dX6_where_47 ?_
            refine tr_V.iload_n (i := 2) dX6_where_50 rfl rfl ?_
            refine tr_V.iload_n (i := 3) dX6_where_51 rfl rfl ?_
            refine tr_V.bd (fun c7 h8 => ?_)
            refine tr_V.callV (C_X4_pin p2 p3 M _ h8) yk_X4_pin iv_X4_pin ml_X6_243 shC_25 rfl ⟨rfl, Nat.le_of_ble_eq_true rfl⟩ rfl (Nat.le_of_ble_eq_true rfl) rfl dX6_where_52 ?_
            refine tr_V.aload_n (i := 0) dX6_where_55 rfl rfl ?_
            refine tr_V.bd (fun c9 h10 => ?_)
            refine tr_V.callV (C_X6_forget c7 _ h10) yk_X6_forget iv_X6_forget ml_X6_133 shC_1 rfl ⟨rfl, Nat.le_of_ble_eq_true rfl⟩ rfl (Nat.le_of_ble_eq_true rfl) rfl dX6_where_56 ?_
            refine tr_V.aload_n (i := 0) dX6_where_59 rfl rfl ?_
            refine tr_V.iload_n (i := 1) dX6_where_60 rfl rfl ?_
            refine tr_V.bd (fun c11 h12 => ?_)
            refine tr_V.callV (C_X6_leastsOf p1 c9 _ h12) yk_X6_leastsOf iv_X6_leastsOf ml_X6_204 shC_1 rfl ⟨rfl, Nat.le_of_ble_eq_true rfl⟩ rfl (Nat.le_of_ble_eq_true rfl) rfl dX6_where_61 ?_
            refine tr_V.bipush (v := (-9 : Int32)) dX6_where_64 (by decide) ?_
            refine tr_V.bd (fun c13 h14 => ?_)
            refine tr_V.callS (C_X6_valueOr c11.1 (-9 : Int32) c11.2 _ h14) yk_X6_valueOr sc_X6_valueOr ml_X6_236 ⟨rfl, Nat.le_of_ble_eq_true rfl⟩ rfl (Nat.le_of_ble_eq_true rfl) rfl dX6_where_66 ?_
            refine tr_V.istore (i := 4) dX6_where_69 (Nat.le_of_ble_eq_true rfl) rfl ?_
            refine tr_V.aload_n (i := 0) dX6_where_71 rfl rfl ?_
            refine tr_V.getR (Nat.succ_pos _) fl_X6_36 shC_1 rfl dX6_where_72 ?_
            refine tr_V.bd (fun c15 h16 => ?_)
            refine tr_V.callV (C_X4_unpin c11.2 _ h16) yk_X4_unpin iv_X4_unpin ml_X6_246 shC_25 rfl ⟨rfl, Nat.le_of_ble_eq_true rfl⟩ rfl (Nat.le_of_ble_eq_true rfl) rfl dX6_where_75 ?_
            refine tr_V.aload_n (i := 0) dX6_where_78 rfl rfl ?_
            refine tr_V.bd (fun c17 h18 => ?_)
            refine tr_V.callV (C_X6_forget c15 _ h18) yk_X6_forget iv_X6_forget ml_X6_133 shC_1 rfl ⟨rfl, Nat.le_of_ble_eq_true rfl⟩ rfl (Nat.le_of_ble_eq_true rfl) rfl dX6_where_79 ?_
            refine tr_V.iload dX6_where_82 rfl ?_
            refine tr_V.bipush (v := (-9 : Int32)) dX6_where_84 (by decide) ?_
            refine tr_V.icmp_ne (tgt := 105) dX6_where_86 (by decide) ?_ ?_
            · refine tr_V.aload_n (i := 0) dX6_where_89 rfl rfl ?_
              refine tr_V.iconst (v := (5 : Int32)) dX6_where_90 (by decide) ?_
              refine tr_V.bd (fun c19 h20 => ?_)
              refine tr_V.callV (C_X6_leastsOf (5 : Int32) c17 _ h20) yk_X6_leastsOf iv_X6_leastsOf ml_X6_204 shC_1 rfl ⟨rfl, Nat.le_of_ble_eq_true rfl⟩ rfl (Nat.le_of_ble_eq_true rfl) rfl dX6_where_91 ?_
              refine tr_V.ifnonnull (tgt := 105) dX6_where_94 (by decide) ?_ ?_
              · refine tr_V.aload_n (i := 0) dX6_where_97 rfl rfl ?_
                refine tr_V.iconst (v := (4 : Int32)) dX6_where_98 (by decide) ?_
                refine tr_V.bd (fun c21 h22 => ?_)
                refine tr_V.callV (C_X6_found (4 : Int32) c19.2 _ h22) yk_X6_found iv_X6_found ml_X6_88 shC_1 rfl ⟨rfl, Nat.le_of_ble_eq_true rfl⟩ rfl (Nat.le_of_ble_eq_true rfl) rfl dX6_where_99 ?_
                refine tr_V.goto (tgt := 107) dX6_where_102 (by decide) ?_
                exact tr_V.iret dX6_where_107 rfl (fun h => h)
              · refine tr_V.iload dX6_where_105 rfl ?_
                exact tr_V.iret dX6_where_107 rfl (fun h => h)
            · refine tr_V.iload dX6_where_105 rfl ?_
              exact tr_V.iret dX6_where_107 rfl (fun h => h)
          · refine tr_V.bipush (v := (-6 : Int32)) dX6_where_43 (by decide) ?_
            exact tr_V.iret dX6_where_45 rfl (fun h => h)
        · refine tr_V.iconst (v := (-1 : Int32)) dX6_where_33 (by decide) ?_
          exact tr_V.iret dX6_where_34 rfl (fun h => h)
def mLO_spreadOf (q : Nat) (p0 : Int32) (p1 : Nat) (M : tr_M) : Option (tr_M) := if q = 25 then mX4_spreadOf p0 p1 M else if q = 24 then mX2_spreadOf p0 p1 M else none
set_option maxHeartbeats 4000000 in
theorem K_LO_spreadOf {ρ : Type} {X : tr_X} {E : tr_E} {pc : Nat} {lv : tr_L} {st : List Value} {M : tr_M} {φ : Option ρ} {Z : ρ → Prop} {q idx : Nat} {p0 : Int32} {p1 : Nat} {v : tr_M} (hv : mLO_spreadOf q p0 p1 M = some v) (hc : X.2.2.2.2.2 = (shC, 81)) (hlev : 6 < X.2.2.2.2.1) (hl : Cond.methodLink X.2.2.1 idx (⟨RX0, "spreadOf", "(I[I)V"⟩ : MethodName) ∈ tr_tbl) (hw : tr_wd st ≤ 8) (hd : decode X.1 pc = .ok (.invokevirtual idx, 3)) (h : tr_V X E (pc + 3) lv ([] ++ st) v φ Z) : tr_V X E pc lv (.ref p1 :: .int p0 :: .ref q :: st) M φ Z := by
  unfold mLO_spreadOf at hv
  by_cases h25 : q = 25
  · subst h25
    rw [if_pos rfl] at hv
    exact tr_V.callA (x := (⟨RX0, "spreadOf", "(I[I)V"⟩ : MethodName)) (C_X4_spreadOf p0 p1 M _ hv) yk_X4_spreadOf ⟨tr_in 927 (by decide +kernel) rfl, tr_in 926 (by decide +kernel) rfl, tr_in 920 (by decide +kernel) rfl, by decide +kernel⟩ ⟨by decide +kernel, by decide +kernel, by decide +kernel⟩ hl (by rw [hc]; exact shC_25) rfl ⟨hc.symm, Nat.lt_of_le_of_lt (Nat.le_of_ble_eq_true rfl) hlev⟩ rfl hw rfl hd h
  by_cases h24 : q = 24
  · subst h24
    rw [if_neg (by decide), if_pos rfl] at hv
    exact tr_V.callA (x := (⟨RX0, "spreadOf", "(I[I)V"⟩ : MethodName)) (C_X2_spreadOf p0 p1 M _ hv) yk_X2_spreadOf ⟨tr_in 922 (by decide +kernel) rfl, tr_in 921 (by decide +kernel) rfl, tr_in 920 (by decide +kernel) rfl, by decide +kernel⟩ ⟨by decide +kernel, by decide +kernel, by decide +kernel⟩ hl (by rw [hc]; exact shC_24) rfl ⟨hc.symm, Nat.lt_of_le_of_lt (Nat.le_of_ble_eq_true rfl) hlev⟩ rfl hw rfl hd h
  · rw [if_neg h25, if_neg h24] at hv
    cases hv
abbrev xX6_places : tr_X := (cX6_places, 6, RX6, (some .int), 27, shC, 81)
theorem cw_X6_places : Cond.code yX6_places cX6_places 6 (some .int) ∈ tr_tbl := tr_in 917 (by decide +kernel) rfl
theorem yk_X6_places : tr_yk yX6_places (xX6_places) 2 := ⟨cw_X6_places, in_X6, ⟨by decide +kernel, by decide +kernel, by decide +kernel⟩, Nat.le_of_ble_eq_true rfl⟩
theorem iv_X6_places : Cond.instanceMethod yX6_places ∈ tr_tbl ∧ Cond.selects (yX6_places).cls yX6_places yX6_places ∈ tr_tbl := ⟨tr_in 915 (by decide +kernel) rfl, tr_in 916 (by decide +kernel) rfl⟩
def mX6_places_l51 (c9 : tr_M) (s11 : Int32 × Int32) : Option ((Int32 × Int32) ⊕ (Int32 × tr_M)) :=
  if s11.2 < (c9.1 26 0) then (
    Option.bind (tr_rd 10 c9 61 s11.2) (fun a12 =>
    if 0 < a12 then (
      Option.bind (some (s11.1 ||| ((1 : Int32) <<< (s11.2 &&& 31)))) (fun x14 =>
      some (.inl (x14, (s11.2 + (1 : Int32))))
      )
    ) else (
      some (.inl (s11.1, (s11.2 + (1 : Int32))))
    )
    )
  ) else (
    some (.inr (s11.1, c9))
  )
def mX6_places (p1 : Int32) (p2 : Int32) (M : tr_M) : Option (Int32 × tr_M) :=
  if (mX6_isMeasure p1) = 0 then (
    some ((-1 : Int32), M)
  ) else (
    if (mX5_isThing 26 p2 M) = 0 then (
      some ((-1 : Int32), M)
    ) else (
      Option.bind (mX6_leastsOf p1 M) (fun c5 =>
      if c5.1 = 0 then (
        Option.bind (mX6_noLeast p1 c5.2) (fun c7 =>
        some (c7.1, c7.2)
        )
      ) else (
        Option.bind (mLO_spreadOf c5.1 p2 61 c5.2) (fun c9 =>
        tr_loop (mX6_places_l51 c9) ((0 : Int32), (0 : Int32))
        )
      )
      )
    )
  )
set_option maxRecDepth 100000 in
set_option maxHeartbeats 4000000 in
theorem C_X6_places (p1 : Int32) (p2 : Int32) (M : tr_M) (r : Int32 × tr_M) (h : mX6_places p1 p2 M = some r) : tr_I yX6_places (xX6_places) [.ref 1, .int p1, .int p2] M (some (.int r.1)) r.2 := by
  refine tr_I.of (Z := fun q : Int32 × tr_M => (some (.int r.1) : Option Value) = some (.int q.1) ∧ r.2 = q.2) pn_X6 rfl gdC (Nat.le_of_ble_eq_true rfl) (fun Wt => ?_) h ⟨rfl, rfl⟩
  unfold mX6_places
  refine tr_V.iload_n (i := 1) dX6_places_0 rfl rfl ?_
  refine tr_V.callS (C_X6_isMeasure p1 M) yk_X6_isMeasure sc_X6_isMeasure ml_X6_184 ⟨rfl, Nat.le_of_ble_eq_true rfl⟩ rfl (Nat.le_of_ble_eq_true rfl) rfl dX6_places_1 ?_
  refine tr_V.if_eq (tgt := 18) dX6_places_4 (by decide) ?_ ?_
  · refine tr_V.iconst (v := (-1 : Int32)) dX6_places_18 (by decide) ?_
    exact tr_V.iret dX6_places_19 rfl (fun h => h)
  · refine tr_V.aload_n (i := 0) dX6_places_7 rfl rfl ?_
    refine tr_V.getR (Nat.succ_pos _) fl_X6_43 shC_1 rfl dX6_places_8 ?_
    refine tr_V.iload_n (i := 2) dX6_places_11 rfl rfl ?_
    refine tr_V.callV (C_X5_isThing 26 isW_26 p2 M) yk_X5_isThing iv_X5_isThing ml_X6_240 shC_26 rfl ⟨rfl, Nat.le_of_ble_eq_true rfl⟩ rfl (Nat.le_of_ble_eq_true rfl) rfl dX6_places_12 ?_
    refine tr_V.if_ne (tgt := 20) dX6_places_15 (by decide) ?_ ?_
    · refine tr_V.iconst (v := (-1 : Int32)) dX6_places_18 (by decide) ?_
      exact tr_V.iret dX6_places_19 rfl (fun h => h)
    · refine tr_V.aload_n (i := 0) dX6_places_20 rfl rfl ?_
      refine tr_V.iload_n (i := 1) dX6_places_21 rfl rfl ?_
      refine tr_V.bd (fun c5 h6 => ?_)
      refine tr_V.callV (C_X6_leastsOf p1 M _ h6) yk_X6_leastsOf iv_X6_leastsOf ml_X6_204 shC_1 rfl ⟨rfl, Nat.le_of_ble_eq_true rfl⟩ rfl (Nat.le_of_ble_eq_true rfl) rfl dX6_places_22 ?_
      refine tr_V.astore_n (i := 3) dX6_places_25 rfl (Nat.le_of_ble_eq_true rfl) rfl ?_
      refine tr_V.aload_n (i := 3) dX6_places_26 rfl rfl ?_
      refine tr_V.ifnonnull (tgt := 36) dX6_places_27 (by decide) ?_ ?_
      · refine tr_V.aload_n (i := 0) dX6_places_30 rfl rfl ?_
        refine tr_V.iload_n (i := 1) dX6_places_31 rfl rfl ?_
        refine tr_V.bd (fun c7 h8 => ?_)
        refine tr_V.callV (C_X6_noLeast p1 c5.2 _ h8) yk_X6_noLeast iv_X6_noLeast ml_X6_208 shC_1 rfl ⟨rfl, Nat.le_of_ble_eq_true rfl⟩ rfl (Nat.le_of_ble_eq_true rfl) rfl dX6_places_32 ?_
        exact tr_V.iret dX6_places_35 rfl (fun h => h)
      · refine tr_V.aload_n (i := 3) dX6_places_36 rfl rfl ?_
        refine tr_V.iload_n (i := 2) dX6_places_37 rfl rfl ?_
        refine tr_V.aload_n (i := 0) dX6_places_38 rfl rfl ?_
        refine tr_V.getR (Nat.succ_pos _) fl_X6_57 shC_1 rfl dX6_places_39 ?_
        refine tr_V.bd (fun c9 h10 => ?_)
        refine K_LO_spreadOf h10 rfl (Nat.le_of_ble_eq_true rfl) ml_X6_249 (Nat.le_of_ble_eq_true rfl) dX6_places_42 ?_
        refine tr_V.iconst (v := (0 : Int32)) dX6_places_45 (by decide) ?_
        refine tr_V.istore (i := 4) dX6_places_46 (Nat.le_of_ble_eq_true rfl) rfl ?_
        refine tr_V.iconst (v := (0 : Int32)) dX6_places_48 (by decide) ?_
        refine tr_V.istore (i := 5) dX6_places_49 (Nat.le_of_ble_eq_true rfl) rfl ?_
        refine tr_V.loop (σ := Int32 × Int32) (step := mX6_places_l51 c9) (L := fun s11 => [(0, some (.ref 1)), (4, some (.int s11.1)), (5, some (.int s11.2))]) (Mf := fun s11 => c9) ?_ ((0 : Int32), (0 : Int32)) ⟨rfl, rfl, rfl, trivial⟩
        intro s11
        refine tr_V.iload dX6_places_51 rfl ?_
        refine tr_V.aload_n (i := 0) dX6_places_53 rfl rfl ?_
        refine tr_V.getR (Nat.succ_pos _) fl_X6_43 shC_1 rfl dX6_places_54 ?_
        refine tr_V.getI fl_X6_136 shC_26 rfl dX6_places_57 ?_
        refine tr_V.icmp_ge (tgt := 88) dX6_places_60 (by decide) ?_ ?_
        · refine tr_V.aload_n (i := 0) dX6_places_63 rfl rfl ?_
          refine tr_V.getR (Nat.succ_pos _) fl_X6_57 shC_1 rfl dX6_places_64 ?_
          refine tr_V.iload dX6_places_67 rfl ?_
          refine tr_V.bd (fun a12 h13 => ?_)
          refine tr_V.iald h13 shC_61 dX6_places_69 ?_
          refine tr_V.if_le (tgt := 82) dX6_places_70 (by decide) ?_ ?_
          · refine tr_V.iload dX6_places_73 rfl ?_
            refine tr_V.iconst (v := (1 : Int32)) dX6_places_75 (by decide) ?_
            refine tr_V.iload dX6_places_76 rfl ?_
            refine tr_V.ishl dX6_places_78 ?_
            refine tr_V.ior dX6_places_79 ?_
            refine tr_V.bd (fun x14 h15 => ?_)
            refine tr_V.nmI h15 ?_
            refine tr_V.istore (i := 4) dX6_places_80 (Nat.le_of_ble_eq_true rfl) rfl ?_
            refine tr_V.iinc (cst := (1 : Int32)) dX6_places_82 rfl (by decide) rfl ?_
            refine tr_V.goto (tgt := 51) dX6_places_85 (by decide) ?_
            exact tr_V.to (fun h => h) ⟨rfl, rfl, rfl, trivial⟩
          · refine tr_V.iinc (cst := (1 : Int32)) dX6_places_82 rfl (by decide) rfl ?_
            refine tr_V.goto (tgt := 51) dX6_places_85 (by decide) ?_
            exact tr_V.to (fun h => h) ⟨rfl, rfl, rfl, trivial⟩
        · refine tr_V.iload dX6_places_88 rfl ?_
          exact tr_V.iret dX6_places_90 rfl (fun h => h)
abbrev xX6_tellFraction : tr_X := (cX6_tellFraction, 12, RX6, (Option.none : Option Jvm.ClassFile.FieldType), 1, shC, 81)
theorem cw_X6_tellFraction : Cond.code yX6_tellFraction cX6_tellFraction 12 (Option.none : Option Jvm.ClassFile.FieldType) ∈ tr_tbl := tr_in 950 (by decide +kernel) rfl
theorem yk_X6_tellFraction : tr_yk yX6_tellFraction (xX6_tellFraction) 2 := ⟨cw_X6_tellFraction, in_X6, ⟨by decide +kernel, by decide +kernel, by decide +kernel⟩, Nat.le_of_ble_eq_true rfl⟩
theorem iv_X6_tellFraction : Cond.instanceMethod yX6_tellFraction ∈ tr_tbl ∧ Cond.selects (yX6_tellFraction).cls yX6_tellFraction yX6_tellFraction ∈ tr_tbl := ⟨tr_in 949 (by decide +kernel) rfl, tr_in 43 (by decide +kernel) rfl⟩
def mX6_tellFraction_l9  (s2 : Int64 × Int64 × Int32) : Option ((Int64 × Int64 × Int32) ⊕ (Int64)) :=
  if s2.2.2 < (100 : Int32) then (
    if (lg_cmp s2.2.1 (0 : Int64)) = 0 then (
      some (.inr s2.1)
    ) else (
      Option.bind (tr_rml s2.1 s2.2.1) (fun q3 =>
      some (.inl (s2.2.1, q3, (s2.2.2 + (1 : Int32))))
      )
    )
  ) else (
    some (.inr s2.1)
  )
def mX6_tellFraction (p1 : Int64) (p3 : Int64) (M : tr_M) : Option (tr_M) :=
  Option.bind (show Option (Int64) from
    tr_loop (mX6_tellFraction_l9) (p1, p3, (0 : Int32))
  ) (fun (v1 : Int64) =>
    if (lg_cmp v1 (0 : Int64)) = 0 then (
      some M
    ) else (
      Option.bind (tr_dvl p1 v1) (fun q4 =>
      Option.bind (some (tr_sl M 1 13 q4)) (fun M5 =>
      Option.bind (tr_dvl p3 v1) (fun q7 =>
      Option.bind (some (tr_sl M5 1 14 q7)) (fun M8 =>
      some M8
      )
      )
      )
      )
    )
  )
set_option maxRecDepth 100000 in
set_option maxHeartbeats 4000000 in
theorem C_X6_tellFraction (p1 : Int64) (p3 : Int64) (M M' : tr_M) (h : mX6_tellFraction p1 p3 M = some M') : tr_I yX6_tellFraction (xX6_tellFraction) [.ref 1, .long p1, .long p3] M none M' := by
  refine tr_I.of (Z := fun q : tr_M => (none : Option Value) = none ∧ M' = q) pn_X6 rfl gdC (Nat.le_of_ble_eq_true rfl) (fun Wt => ?_) h ⟨rfl, rfl⟩
  unfold mX6_tellFraction
  refine tr_V.lload_n (i := 1) dX6_tellFraction_0 rfl rfl ?_
  refine tr_V.lstore (i := 5) dX6_tellFraction_1 (Nat.le_of_ble_eq_true rfl) rfl ?_
  refine tr_V.lload_n (i := 3) dX6_tellFraction_3 rfl rfl ?_
  refine tr_V.lstore (i := 7) dX6_tellFraction_4 (Nat.le_of_ble_eq_true rfl) rfl ?_
  refine tr_V.iconst (v := (0 : Int32)) dX6_tellFraction_6 (by decide) ?_
  refine tr_V.istore (i := 9) dX6_tellFraction_7 (Nat.le_of_ble_eq_true rfl) rfl ?_
  refine tr_V.seq (τ := Int64) (pc' := 44) (L := fun v1 => [(0, some (.ref 1)), (1, some (.long p1)), (3, some (.long p3)), (5, some (.long v1))]) (S := fun v1 => []) (Mf := fun v1 => M) ?_ ?_
  · refine tr_V.loop (σ := Int64 × Int64 × Int32) (step := mX6_tellFraction_l9) (L := fun s2 => [(0, some (.ref 1)), (1, some (.long p1)), (3, some (.long p3)), (5, some (.long s2.1)), (7, some (.long s2.2.1)), (9, some (.int s2.2.2))]) (Mf := fun s2 => M) ?_ (p1, p3, (0 : Int32)) ⟨rfl, rfl, rfl, rfl, rfl, rfl, trivial⟩
    intro s2
    refine tr_V.iload dX6_tellFraction_9 rfl ?_
    refine tr_V.bipush (v := (100 : Int32)) dX6_tellFraction_11 (by decide) ?_
    refine tr_V.icmp_ge (tgt := 44) dX6_tellFraction_13 (by decide) ?_ ?_
    · refine tr_V.lload dX6_tellFraction_16 rfl ?_
      refine tr_V.lconst (v := (0 : Int64)) dX6_tellFraction_18 (by decide) ?_
      refine tr_V.lcmp dX6_tellFraction_19 ?_
      refine tr_V.if_eq (tgt := 44) dX6_tellFraction_20 (by decide) ?_ ?_
      · exact tr_V.to (fun h => h) ⟨rfl, rfl, rfl, rfl, trivial⟩
      · refine tr_V.lload dX6_tellFraction_23 rfl ?_
        refine tr_V.lload dX6_tellFraction_25 rfl ?_
        refine tr_V.lrem dX6_tellFraction_27 (fun q3 => ?_)
        refine tr_V.lstore (i := 10) dX6_tellFraction_28 (Nat.le_of_ble_eq_true rfl) rfl ?_
        refine tr_V.lload dX6_tellFraction_30 rfl ?_
        refine tr_V.lstore (i := 5) dX6_tellFraction_32 (Nat.le_of_ble_eq_true rfl) rfl ?_
        refine tr_V.lload dX6_tellFraction_34 rfl ?_
        refine tr_V.lstore (i := 7) dX6_tellFraction_36 (Nat.le_of_ble_eq_true rfl) rfl ?_
        refine tr_V.iinc (cst := (1 : Int32)) dX6_tellFraction_38 rfl (by decide) rfl ?_
        refine tr_V.goto (tgt := 9) dX6_tellFraction_41 (by decide) ?_
        exact tr_V.to (fun h => h) ⟨rfl, rfl, rfl, rfl, rfl, rfl, trivial⟩
    · exact tr_V.to (fun h => h) ⟨rfl, rfl, rfl, rfl, trivial⟩
  · intro v1
    refine tr_V.lload dX6_tellFraction_44 rfl ?_
    refine tr_V.lconst (v := (0 : Int64)) dX6_tellFraction_46 (by decide) ?_
    refine tr_V.lcmp dX6_tellFraction_47 ?_
    refine tr_V.if_eq (tgt := 67) dX6_tellFraction_48 (by decide) ?_ ?_
    · exact tr_V.vret dX6_tellFraction_67 rfl (fun h => h)
    · refine tr_V.aload_n (i := 0) dX6_tellFraction_51 rfl rfl ?_
      refine tr_V.lload_n (i := 1) dX6_tellFraction_52 rfl rfl ?_
      refine tr_V.lload dX6_tellFraction_53 rfl ?_
      refine tr_V.ldiv dX6_tellFraction_55 (fun q4 => ?_)
      refine tr_V.bd (fun M5 h6 => ?_)
      refine tr_V.putJ fl_X6_67 shC_1 rfl dX6_tellFraction_56 h6 ?_
      refine tr_V.aload_n (i := 0) dX6_tellFraction_59 rfl rfl ?_
      refine tr_V.lload_n (i := 3) dX6_tellFraction_60 rfl rfl ?_
      refine tr_V.lload dX6_tellFraction_61 rfl ?_
      refine tr_V.ldiv dX6_tellFraction_63 (fun q7 => ?_)
      refine tr_V.bd (fun M8 h9 => ?_)
      refine tr_V.putJ fl_X6_71 shC_1 rfl dX6_tellFraction_64 h9 ?_
      exact tr_V.vret dX6_tellFraction_67 rfl (fun h => h)
abbrev xX6_middle : tr_X := (cX6_middle, 7, RX6, (some .int), 27, shC, 81)
theorem cw_X6_middle : Cond.code yX6_middle cX6_middle 7 (some .int) ∈ tr_tbl := tr_in 946 (by decide +kernel) rfl
theorem yk_X6_middle : tr_yk yX6_middle (xX6_middle) 2 := ⟨cw_X6_middle, in_X6, ⟨by decide +kernel, by decide +kernel, by decide +kernel⟩, Nat.le_of_ble_eq_true rfl⟩
theorem iv_X6_middle : Cond.instanceMethod yX6_middle ∈ tr_tbl ∧ Cond.selects (yX6_middle).cls yX6_middle yX6_middle ∈ tr_tbl := ⟨tr_in 944 (by decide +kernel) rfl, tr_in 945 (by decide +kernel) rfl⟩
def mX6_middle_l51 (c9 : tr_M) (s12 : Int64 × Int32) : Option ((Int64 × Int32) ⊕ (Int64)) :=
  if s12.2 < (c9.1 26 0) then (
    Option.bind (tr_rd 10 c9 61 s12.2) (fun a13 =>
    some (.inl ((s12.1 + (s12.2.toInt64 * a13.toInt64)), (s12.2 + (1 : Int32))))
    )
  ) else (
    some (.inr s12.1)
  )
def mX6_middle (p1 : Int32) (p2 : Int32) (M : tr_M) : Option (Int32 × tr_M) :=
  if (mX6_isMeasure p1) = 0 then (
    some ((-1 : Int32), M)
  ) else (
    if (mX5_isThing 26 p2 M) = 0 then (
      some ((-1 : Int32), M)
    ) else (
      Option.bind (mX6_leastsOf p1 M) (fun c5 =>
      if c5.1 = 0 then (
        Option.bind (mX6_noLeast p1 c5.2) (fun c7 =>
        some (c7.1, c7.2)
        )
      ) else (
        Option.bind (mLO_spreadOf c5.1 p2 61 c5.2) (fun c9 =>
        Option.bind (show Option (Int64) from
          tr_loop (mX6_middle_l51 c9) ((0 : Int64), (0 : Int32))
        ) (fun (v11 : Int64) =>
          Option.bind (mLO_number c5.1 c9) (fun c15 =>
          Option.bind (mX6_tellFraction v11 c15.1.toInt64 c15.2) (fun c17 =>
          Option.bind (mLO_number c5.1 c17) (fun c19 =>
          some (c19.1, c19.2)
          )
          )
          )
        )
        )
      )
      )
    )
  )
set_option maxRecDepth 100000 in
set_option maxHeartbeats 4000000 in
theorem C_X6_middle (p1 : Int32) (p2 : Int32) (M : tr_M) (r : Int32 × tr_M) (h : mX6_middle p1 p2 M = some r) : tr_I yX6_middle (xX6_middle) [.ref 1, .int p1, .int p2] M (some (.int r.1)) r.2 := by
  refine tr_I.of (Z := fun q : Int32 × tr_M => (some (.int r.1) : Option Value) = some (.int q.1) ∧ r.2 = q.2) pn_X6 rfl gdC (Nat.le_of_ble_eq_true rfl) (fun Wt => ?_) h ⟨rfl, rfl⟩
  unfold mX6_middle
  refine tr_V.iload_n (i := 1) dX6_middle_0 rfl rfl ?_
  refine tr_V.callS (C_X6_isMeasure p1 M) yk_X6_isMeasure sc_X6_isMeasure ml_X6_184 ⟨rfl, Nat.le_of_ble_eq_true rfl⟩ rfl (Nat.le_of_ble_eq_true rfl) rfl dX6_middle_1 ?_
  refine tr_V.if_eq (tgt := 18) dX6_middle_4 (by decide) ?_ ?_
  · refine tr_V.iconst (v := (-1 : Int32)) dX6_middle_18 (by decide) ?_
    exact tr_V.iret dX6_middle_19 rfl (fun h => h)
  · refine tr_V.aload_n (i := 0) dX6_middle_7 rfl rfl ?_
    refine tr_V.getR (Nat.succ_pos _) fl_X6_43 shC_1 rfl dX6_middle_8 ?_
    refine tr_V.iload_n (i := 2) dX6_middle_11 rfl rfl ?_
    refine tr_V.callV (C_X5_isThing 26 isW_26 p2 M) yk_X5_isThing iv_X5_isThing ml_X6_240 shC_26 rfl ⟨rfl, Nat.le_of_ble_eq_true rfl⟩ rfl (Nat.le_of_ble_eq_true rfl) rfl dX6_middle_12 ?_
    refine tr_V.if_ne (tgt := 20) dX6_middle_15 (by decide) ?_ ?_
    · refine tr_V.iconst (v := (-1 : Int32)) dX6_middle_18 (by decide) ?_
      exact tr_V.iret dX6_middle_19 rfl (fun h => h)
    · refine tr_V.aload_n (i := 0) dX6_middle_20 rfl rfl ?_
      refine tr_V.iload_n (i := 1) dX6_middle_21 rfl rfl ?_
      refine tr_V.bd (fun c5 h6 => ?_)
      refine tr_V.callV (C_X6_leastsOf p1 M _ h6) yk_X6_leastsOf iv_X6_leastsOf ml_X6_204 shC_1 rfl ⟨rfl, Nat.le_of_ble_eq_true rfl⟩ rfl (Nat.le_of_ble_eq_true rfl) rfl dX6_middle_22 ?_
      refine tr_V.astore_n (i := 3) dX6_middle_25 rfl (Nat.le_of_ble_eq_true rfl) rfl ?_
      refine tr_V.aload_n (i := 3) dX6_middle_26 rfl rfl ?_
      refine tr_V.ifnonnull (tgt := 36) dX6_middle_27 (by decide) ?_ ?_
      · refine tr_V.aload_n (i := 0) dX6_middle_30 rfl rfl ?_
        refine tr_V.iload_n (i := 1) dX6_middle_31 rfl rfl ?_
        refine tr_V.bd (fun c7 h8 => ?_)
        refine tr_V.callV (C_X6_noLeast p1 c5.2 _ h8) yk_X6_noLeast iv_X6_noLeast ml_X6_208 shC_1 rfl ⟨rfl, Nat.le_of_ble_eq_true rfl⟩ rfl (Nat.le_of_ble_eq_true rfl) rfl dX6_middle_32 ?_
        exact tr_V.iret dX6_middle_35 rfl (fun h => h)
      · refine tr_V.aload_n (i := 3) dX6_middle_36 rfl rfl ?_
        refine tr_V.iload_n (i := 2) dX6_middle_37 rfl rfl ?_
        refine tr_V.aload_n (i := 0) dX6_middle_38 rfl rfl ?_
        refine tr_V.getR (Nat.succ_pos _) fl_X6_57 shC_1 rfl dX6_middle_39 ?_
        refine tr_V.bd (fun c9 h10 => ?_)
        refine K_LO_spreadOf h10 rfl (Nat.le_of_ble_eq_true rfl) ml_X6_249 (Nat.le_of_ble_eq_true rfl) dX6_middle_42 ?_
        refine tr_V.lconst (v := (0 : Int64)) dX6_middle_45 (by decide) ?_
        refine tr_V.lstore (i := 4) dX6_middle_46 (Nat.le_of_ble_eq_true rfl) rfl ?_
        refine tr_V.iconst (v := (0 : Int32)) dX6_middle_48 (by decide) ?_
        refine tr_V.istore (i := 6) dX6_middle_49 (Nat.le_of_ble_eq_true rfl) rfl ?_
        refine tr_V.seq (τ := Int64) (pc' := 86) (L := fun v11 => [(0, some (.ref 1)), (3, some (.ref c5.1)), (4, some (.long v11))]) (S := fun v11 => []) (Mf := fun v11 => c9) ?_ ?_
        · refine tr_V.loop (σ := Int64 × Int32) (step := mX6_middle_l51 c9) (L := fun s12 => [(0, some (.ref 1)), (3, some (.ref c5.1)), (4, some (.long s12.1)), (6, some (.int s12.2))]) (Mf := fun s12 => c9) ?_ ((0 : Int64), (0 : Int32)) ⟨rfl, rfl, rfl, rfl, trivial⟩
          intro s12
          refine tr_V.iload dX6_middle_51 rfl ?_
          refine tr_V.aload_n (i := 0) dX6_middle_53 rfl rfl ?_
          refine tr_V.getR (Nat.succ_pos _) fl_X6_43 shC_1 rfl dX6_middle_54 ?_
          refine tr_V.getI fl_X6_136 shC_26 rfl dX6_middle_57 ?_
          refine tr_V.icmp_ge (tgt := 86) dX6_middle_60 (by decide) ?_ ?_
          · refine tr_V.lload dX6_middle_63 rfl ?_
            refine tr_V.iload dX6_middle_65 rfl ?_
            refine tr_V.i2l dX6_middle_67 ?_
            refine tr_V.aload_n (i := 0) dX6_middle_68 rfl rfl ?_
            refine tr_V.getR (Nat.succ_pos _) fl_X6_57 shC_1 rfl dX6_middle_69 ?_
            refine tr_V.iload dX6_middle_72 rfl ?_
            refine tr_V.bd (fun a13 h14 => ?_)
            refine tr_V.iald h14 shC_61 dX6_middle_74 ?_
            refine tr_V.i2l dX6_middle_75 ?_
            refine tr_V.lmul dX6_middle_76 ?_
            refine tr_V.ladd dX6_middle_77 ?_
            refine tr_V.lstore (i := 4) dX6_middle_78 (Nat.le_of_ble_eq_true rfl) rfl ?_
            refine tr_V.iinc (cst := (1 : Int32)) dX6_middle_80 rfl (by decide) rfl ?_
            refine tr_V.goto (tgt := 51) dX6_middle_83 (by decide) ?_
            exact tr_V.to (fun h => h) ⟨rfl, rfl, rfl, rfl, trivial⟩
          · exact tr_V.to (fun h => h) ⟨rfl, rfl, rfl, trivial⟩
        · intro v11
          refine tr_V.aload_n (i := 0) dX6_middle_86 rfl rfl ?_
          refine tr_V.lload dX6_middle_87 rfl ?_
          refine tr_V.aload_n (i := 3) dX6_middle_89 rfl rfl ?_
          refine tr_V.bd (fun c15 h16 => ?_)
          refine K_LO_number h16 rfl (Nat.le_of_ble_eq_true rfl) ml_X6_227 (Nat.le_of_ble_eq_true rfl) dX6_middle_90 ?_
          refine tr_V.i2l dX6_middle_93 ?_
          refine tr_V.bd (fun c17 h18 => ?_)
          refine tr_V.callV (C_X6_tellFraction v11 c15.1.toInt64 c15.2 _ h18) yk_X6_tellFraction iv_X6_tellFraction ml_X6_252 shC_1 rfl ⟨rfl, Nat.le_of_ble_eq_true rfl⟩ rfl (Nat.le_of_ble_eq_true rfl) rfl dX6_middle_94 ?_
          refine tr_V.aload_n (i := 3) dX6_middle_97 rfl rfl ?_
          refine tr_V.bd (fun c19 h20 => ?_)
          refine K_LO_number h20 rfl (Nat.le_of_ble_eq_true rfl) ml_X6_227 (Nat.le_of_ble_eq_true rfl) dX6_middle_98 ?_
          exact tr_V.iret dX6_middle_101 rfl (fun h => h)
def mLO_numberAhead (q : Nat) (p0 : Int32) (p1 : Int32) (M : tr_M) : Option (Int32 × tr_M) := if q = 25 then mX4_numberAhead p0 p1 M else if q = 24 then mX2_numberAhead p0 p1 M else none
set_option maxHeartbeats 4000000 in
theorem K_LO_numberAhead {ρ : Type} {X : tr_X} {E : tr_E} {pc : Nat} {lv : tr_L} {st : List Value} {M : tr_M} {φ : Option ρ} {Z : ρ → Prop} {q idx : Nat} {p0 : Int32} {p1 : Int32} {v : Int32 × tr_M} (hv : mLO_numberAhead q p0 p1 M = some v) (hc : X.2.2.2.2.2 = (shC, 81)) (hlev : 6 < X.2.2.2.2.1) (hl : Cond.methodLink X.2.2.1 idx (⟨RX0, "numberAhead", "(II)I"⟩ : MethodName) ∈ tr_tbl) (hw : tr_wd st ≤ 8) (hd : decode X.1 pc = .ok (.invokevirtual idx, 3)) (h : tr_V X E (pc + 3) lv ([.int v.1] ++ st) v.2 φ Z) : tr_V X E pc lv (.int p1 :: .int p0 :: .ref q :: st) M φ Z := by
  unfold mLO_numberAhead at hv
  by_cases h25 : q = 25
  · subst h25
    rw [if_pos rfl] at hv
    exact tr_V.callA (x := (⟨RX0, "numberAhead", "(II)I"⟩ : MethodName)) (C_X4_numberAhead p0 p1 M _ hv) yk_X4_numberAhead ⟨tr_in 962 (by decide +kernel) rfl, tr_in 961 (by decide +kernel) rfl, tr_in 957 (by decide +kernel) rfl, by decide +kernel⟩ ⟨by decide +kernel, by decide +kernel, by decide +kernel⟩ hl (by rw [hc]; exact shC_25) rfl ⟨hc.symm, Nat.lt_of_le_of_lt (Nat.le_of_ble_eq_true rfl) hlev⟩ rfl hw rfl hd h
  by_cases h24 : q = 24
  · subst h24
    rw [if_neg (by decide), if_pos rfl] at hv
    exact tr_V.callA (x := (⟨RX0, "numberAhead", "(II)I"⟩ : MethodName)) (C_X2_numberAhead p0 p1 M _ hv) yk_X2_numberAhead ⟨tr_in 959 (by decide +kernel) rfl, tr_in 958 (by decide +kernel) rfl, tr_in 957 (by decide +kernel) rfl, by decide +kernel⟩ ⟨by decide +kernel, by decide +kernel, by decide +kernel⟩ hl (by rw [hc]; exact shC_24) rfl ⟨hc.symm, Nat.lt_of_le_of_lt (Nat.le_of_ble_eq_true rfl) hlev⟩ rfl hw rfl hd h
  · rw [if_neg h25, if_neg h24] at hv
    cases hv
abbrev xX6_leads : tr_X := (cX6_leads, 5, RX6, (some .int), 27, shC, 81)
theorem cw_X6_leads : Cond.code yX6_leads cX6_leads 5 (some .int) ∈ tr_tbl := tr_in 954 (by decide +kernel) rfl
theorem yk_X6_leads : tr_yk yX6_leads (xX6_leads) 3 := ⟨cw_X6_leads, in_X6, ⟨by decide +kernel, by decide +kernel, by decide +kernel⟩, Nat.le_of_ble_eq_true rfl⟩
theorem iv_X6_leads : Cond.instanceMethod yX6_leads ∈ tr_tbl ∧ Cond.selects (yX6_leads).cls yX6_leads yX6_leads ∈ tr_tbl := ⟨tr_in 952 (by decide +kernel) rfl, tr_in 953 (by decide +kernel) rfl⟩
def mX6_leads (p1 : Int32) (p2 : Int32) (p3 : Int32) (M : tr_M) : Option (Int32 × tr_M) :=
  if (mX6_isMeasure p1) = 0 then (
    some ((-1 : Int32), M)
  ) else (
    if (mX5_areUnlike 26 p2 p3 M) = 0 then (
      some ((-1 : Int32), M)
    ) else (
      Option.bind (mX6_leastsOf p1 M) (fun c5 =>
      if c5.1 = 0 then (
        Option.bind (mX6_noLeast p1 c5.2) (fun c7 =>
        some (c7.1, c7.2)
        )
      ) else (
        Option.bind (mLO_numberAhead c5.1 p2 p3 c5.2) (fun c9 =>
        Option.bind (some (tr_st c9.2 1 12 c9.1)) (fun M11 =>
        if (M11.1 1 12) = 0 then (
          some ((0 : Int32), M11)
        ) else (
          Option.bind (mLO_number c5.1 M11) (fun c13 =>
          if (M11.1 1 12) = c13.1 then (
            some ((2 : Int32), c13.2)
          ) else (
            some ((1 : Int32), c13.2)
          )
          )
        )
        )
        )
      )
      )
    )
  )
set_option maxRecDepth 100000 in
set_option maxHeartbeats 4000000 in
theorem C_X6_leads (p1 : Int32) (p2 : Int32) (p3 : Int32) (M : tr_M) (r : Int32 × tr_M) (h : mX6_leads p1 p2 p3 M = some r) : tr_I yX6_leads (xX6_leads) [.ref 1, .int p1, .int p2, .int p3] M (some (.int r.1)) r.2 := by
  refine tr_I.of (Z := fun q : Int32 × tr_M => (some (.int r.1) : Option Value) = some (.int q.1) ∧ r.2 = q.2) pn_X6 rfl gdC (Nat.le_of_ble_eq_true rfl) (fun Wt => ?_) h ⟨rfl, rfl⟩
  unfold mX6_leads
  refine tr_V.iload_n (i := 1) dX6_leads_0 rfl rfl ?_
  refine tr_V.callS (C_X6_isMeasure p1 M) yk_X6_isMeasure sc_X6_isMeasure ml_X6_184 ⟨rfl, Nat.le_of_ble_eq_true rfl⟩ rfl (Nat.le_of_ble_eq_true rfl) rfl dX6_leads_1 ?_
  refine tr_V.if_eq (tgt := 19) dX6_leads_4 (by decide) ?_ ?_
  · refine tr_V.iconst (v := (-1 : Int32)) dX6_leads_19 (by decide) ?_
    exact tr_V.iret dX6_leads_20 rfl (fun h => h)
  · refine tr_V.aload_n (i := 0) dX6_leads_7 rfl rfl ?_
    refine tr_V.getR (Nat.succ_pos _) fl_X6_43 shC_1 rfl dX6_leads_8 ?_
    refine tr_V.iload_n (i := 2) dX6_leads_11 rfl rfl ?_
    refine tr_V.iload_n (i := 3) dX6_leads_12 rfl rfl ?_
    refine tr_V.callV (C_X5_areUnlike 26 isW_26 p2 p3 M) yk_X5_areUnlike iv_X5_areUnlike ml_X6_139 shC_26 rfl ⟨rfl, Nat.le_of_ble_eq_true rfl⟩ rfl (Nat.le_of_ble_eq_true rfl) rfl dX6_leads_13 ?_
    refine tr_V.if_ne (tgt := 21) dX6_leads_16 (by decide) ?_ ?_
    · refine tr_V.iconst (v := (-1 : Int32)) dX6_leads_19 (by decide) ?_
      exact tr_V.iret dX6_leads_20 rfl (fun h => h)
    · refine tr_V.aload_n (i := 0) dX6_leads_21 rfl rfl ?_
      refine tr_V.iload_n (i := 1) dX6_leads_22 rfl rfl ?_
      refine tr_V.bd (fun c5 h6 => ?_)
      refine tr_V.callV (C_X6_leastsOf p1 M _ h6) yk_X6_leastsOf iv_X6_leastsOf ml_X6_204 shC_1 rfl ⟨rfl, Nat.le_of_ble_eq_true rfl⟩ rfl (Nat.le_of_ble_eq_true rfl) rfl dX6_leads_23 ?_
      refine tr_V.astore (i := 4) dX6_leads_26 (Nat.le_of_ble_eq_true rfl) rfl ?_
      refine tr_V.aload dX6_leads_28 rfl ?_
      refine tr_V.ifnonnull (tgt := 39) dX6_leads_30 (by decide) ?_ ?_
      · refine tr_V.aload_n (i := 0) dX6_leads_33 rfl rfl ?_
        refine tr_V.iload_n (i := 1) dX6_leads_34 rfl rfl ?_
        refine tr_V.bd (fun c7 h8 => ?_)
        refine tr_V.callV (C_X6_noLeast p1 c5.2 _ h8) yk_X6_noLeast iv_X6_noLeast ml_X6_208 shC_1 rfl ⟨rfl, Nat.le_of_ble_eq_true rfl⟩ rfl (Nat.le_of_ble_eq_true rfl) rfl dX6_leads_35 ?_
        exact tr_V.iret dX6_leads_38 rfl (fun h => h)
      · refine tr_V.aload_n (i := 0) dX6_leads_39 rfl rfl ?_
        refine tr_V.aload dX6_leads_40 rfl ?_
        refine tr_V.iload_n (i := 2) dX6_leads_42 rfl rfl ?_
        refine tr_V.iload_n (i := 3) dX6_leads_43 rfl rfl ?_
        refine tr_V.bd (fun c9 h10 => ?_)
        refine K_LO_numberAhead h10 rfl (Nat.le_of_ble_eq_true rfl) ml_X6_256 (Nat.le_of_ble_eq_true rfl) dX6_leads_44 ?_
        refine tr_V.bd (fun M11 h12 => ?_)
        refine tr_V.putI fl_X6_64 shC_1 rfl dX6_leads_47 h12 ?_
        refine tr_V.aload_n (i := 0) dX6_leads_50 rfl rfl ?_
        refine tr_V.getI fl_X6_64 shC_1 rfl dX6_leads_51 ?_
        refine tr_V.if_ne (tgt := 59) dX6_leads_54 (by decide) ?_ ?_
        · refine tr_V.iconst (v := (0 : Int32)) dX6_leads_57 (by decide) ?_
          exact tr_V.iret dX6_leads_58 rfl (fun h => h)
        · refine tr_V.aload_n (i := 0) dX6_leads_59 rfl rfl ?_
          refine tr_V.getI fl_X6_64 shC_1 rfl dX6_leads_60 ?_
          refine tr_V.aload dX6_leads_63 rfl ?_
          refine tr_V.bd (fun c13 h14 => ?_)
          refine K_LO_number h14 rfl (Nat.le_of_ble_eq_true rfl) ml_X6_227 (Nat.le_of_ble_eq_true rfl) dX6_leads_65 ?_
          refine tr_V.icmp_ne (tgt := 75) dX6_leads_68 (by decide) ?_ ?_
          · refine tr_V.iconst (v := (2 : Int32)) dX6_leads_71 (by decide) ?_
            refine tr_V.goto (tgt := 76) dX6_leads_72 (by decide) ?_
            exact tr_V.iret dX6_leads_76 rfl (fun h => h)
          · refine tr_V.iconst (v := (1 : Int32)) dX6_leads_75 (by decide) ?_
            exact tr_V.iret dX6_leads_76 rfl (fun h => h)
abbrev xX6_solvedWithin : tr_X := (cX6_solvedWithin, 2, RX6, (some (.object "TiedRow$LeastOrders")), 6, shC, 81)
theorem cw_X6_solvedWithin : Cond.code yX6_solvedWithin cX6_solvedWithin 2 (some (.object "TiedRow$LeastOrders")) ∈ tr_tbl := tr_in 976 (by decide +kernel) rfl
theorem yk_X6_solvedWithin : tr_yk yX6_solvedWithin (xX6_solvedWithin) 1 := ⟨cw_X6_solvedWithin, in_X6, ⟨by decide +kernel, by decide +kernel, by decide +kernel⟩, Nat.le_of_ble_eq_true rfl⟩
theorem iv_X6_solvedWithin : Cond.instanceMethod yX6_solvedWithin ∈ tr_tbl ∧ Cond.selects (yX6_solvedWithin).cls yX6_solvedWithin yX6_solvedWithin ∈ tr_tbl := ⟨tr_in 975 (by decide +kernel) rfl, tr_in 44 (by decide +kernel) rfl⟩
def mX6_solvedWithin (p1 : Int32) (M : tr_M) : Option (Nat × tr_M) :=
  Option.bind (mX4_solveWithin p1 M) (fun c1 =>
  Option.bind (mX6_forget c1) (fun c3 =>
  some (25, c3)
  )
  )
set_option maxRecDepth 100000 in
set_option maxHeartbeats 4000000 in
theorem C_X6_solvedWithin (p1 : Int32) (M : tr_M) (r : Nat × tr_M) (h : mX6_solvedWithin p1 M = some r) : tr_I yX6_solvedWithin (xX6_solvedWithin) [.ref 1, .int p1] M (some (.ref r.1)) r.2 := by
  refine tr_I.of (Z := fun q : Nat × tr_M => (some (.ref r.1) : Option Value) = some (.ref q.1) ∧ r.2 = q.2) pn_X6 rfl gdC (Nat.le_of_ble_eq_true rfl) (fun Wt => ?_) h ⟨rfl, rfl⟩
  unfold mX6_solvedWithin
  refine tr_V.aload_n (i := 0) dX6_solvedWithin_0 rfl rfl ?_
  refine tr_V.getR (Nat.succ_pos _) fl_X6_36 shC_1 rfl dX6_solvedWithin_1 ?_
  refine tr_V.iload_n (i := 1) dX6_solvedWithin_4 rfl rfl ?_
  refine tr_V.bd (fun c1 h2 => ?_)
  refine tr_V.callV (C_X4_solveWithin p1 M _ h2) yk_X4_solveWithin iv_X4_solveWithin ml_X6_358 shC_25 rfl ⟨rfl, Nat.le_of_ble_eq_true rfl⟩ rfl (Nat.le_of_ble_eq_true rfl) rfl dX6_solvedWithin_5 ?_
  refine tr_V.aload_n (i := 0) dX6_solvedWithin_8 rfl rfl ?_
  refine tr_V.bd (fun c3 h4 => ?_)
  refine tr_V.callV (C_X6_forget c1 _ h4) yk_X6_forget iv_X6_forget ml_X6_133 shC_1 rfl ⟨rfl, Nat.le_of_ble_eq_true rfl⟩ rfl (Nat.le_of_ble_eq_true rfl) rfl dX6_solvedWithin_9 ?_
  refine tr_V.aload_n (i := 0) dX6_solvedWithin_12 rfl rfl ?_
  refine tr_V.getR (Nat.succ_pos _) fl_X6_36 shC_1 rfl dX6_solvedWithin_13 ?_
  exact tr_V.aret dX6_solvedWithin_16 rfl (fun h => h)
abbrev xX6_both : tr_X := (cX6_both, 5, RX6, (some .int), 27, shC, 81)
theorem cw_X6_both : Cond.code yX6_both cX6_both 5 (some .int) ∈ tr_tbl := tr_in 967 (by decide +kernel) rfl
theorem yk_X6_both : tr_yk yX6_both (xX6_both) 2 := ⟨cw_X6_both, in_X6, ⟨by decide +kernel, by decide +kernel, by decide +kernel⟩, Nat.le_of_ble_eq_true rfl⟩
theorem iv_X6_both : Cond.instanceMethod yX6_both ∈ tr_tbl ∧ Cond.selects (yX6_both).cls yX6_both yX6_both ∈ tr_tbl := ⟨tr_in 965 (by decide +kernel) rfl, tr_in 966 (by decide +kernel) rfl⟩
def mX6_both (p1 : Int32) (p2 : Int32) (M : tr_M) : Option (Int32 × tr_M) :=
  if (mX6_isMeasure p1) = 0 then (
    some ((-1 : Int32), M)
  ) else (
    if (mX6_isMeasure p2) = 0 then (
      some ((-1 : Int32), M)
    ) else (
      if (mX6_isSpent p2 M) = 0 then (
        Option.bind (mX6_leastsOf p1 M) (fun c7 =>
        if c7.1 = 0 then (
          Option.bind (mX6_noLeast p1 c7.2) (fun c9 =>
          some (c9.1, c9.2)
          )
        ) else (
          if p1 = p2 then (
            Option.bind (mLO_number c7.1 c7.2) (fun c11 =>
            Option.bind (some (tr_st c11.2 1 12 c11.1)) (fun M13 =>
            Option.bind (mLO_value c7.1 M13) (fun c15 =>
            some (c15, M13)
            )
            )
            )
          ) else (
            if p1 = (4 : Int32) then (
              Option.bind (mX2_compare p2 c7.2) (fun c17 =>
              Option.bind (some (tr_st c17 1 12 (c17.1 24 6))) (fun M19 =>
              some ((M19.1 24 5), M19)
              )
              )
            ) else (
              Option.bind (show Option (Nat × tr_M) from
                if p2 = (4 : Int32) then (
                  Option.bind (mX6_walked c7.2) (fun c22 =>
                  some (c22.1, c22.2)
                  )
                ) else (
                  Option.bind (mX6_solvedWithin p2 c7.2) (fun c24 =>
                  some (c24.1, c24.2)
                  )
                )
              ) (fun (v21 : Nat × tr_M) =>
                Option.bind (mLO_number v21.1 v21.2) (fun c26 =>
                Option.bind (some (tr_st c26.2 1 12 c26.1)) (fun M28 =>
                Option.bind (mLO_value v21.1 M28) (fun c30 =>
                some (c30, M28)
                )
                )
                )
              )
            )
          )
        )
        )
      ) else (
        some ((-6 : Int32), M)
      )
    )
  )
set_option maxRecDepth 100000 in
set_option maxHeartbeats 4000000 in
theorem C_X6_both (p1 : Int32) (p2 : Int32) (M : tr_M) (r : Int32 × tr_M) (h : mX6_both p1 p2 M = some r) : tr_I yX6_both (xX6_both) [.ref 1, .int p1, .int p2] M (some (.int r.1)) r.2 := by
  refine tr_I.of (Z := fun q : Int32 × tr_M => (some (.int r.1) : Option Value) = some (.int q.1) ∧ r.2 = q.2) pn_X6 rfl gdC (Nat.le_of_ble_eq_true rfl) (fun Wt => ?_) h ⟨rfl, rfl⟩
  unfold mX6_both
  refine tr_V.iload_n (i := 1) dX6_both_0 rfl rfl ?_
  refine tr_V.callS (C_X6_isMeasure p1 M) yk_X6_isMeasure sc_X6_isMeasure ml_X6_184 ⟨rfl, Nat.le_of_ble_eq_true rfl⟩ rfl (Nat.le_of_ble_eq_true rfl) rfl dX6_both_1 ?_
  refine tr_V.if_eq (tgt := 14) dX6_both_4 (by decide) ?_ ?_
  · refine tr_V.iconst (v := (-1 : Int32)) dX6_both_14 (by decide) ?_
    exact tr_V.iret dX6_both_15 rfl (fun h => h)
  · refine tr_V.iload_n (i := 2) dX6_both_7 rfl rfl ?_
    refine tr_V.callS (C_X6_isMeasure p2 M) yk_X6_isMeasure sc_X6_isMeasure ml_X6_184 ⟨rfl, Nat.le_of_ble_eq_true rfl⟩ rfl (Nat.le_of_ble_eq_true rfl) rfl dX6_both_8 ?_
    refine tr_V.if_ne (tgt := 16) dX6_both_11 (by decide) ?_ ?_
    · refine tr_V.iconst (v := (-1 : Int32)) dX6_both_14 (by decide) ?_
      exact tr_V.iret dX6_both_15 rfl (fun h => h)
    · refine tr_V.aload_n (i := 0) dX6_both_16 rfl rfl ?_
      refine tr_V.iload_n (i := 2) dX6_both_17 rfl rfl ?_
      refine tr_V.callV (C_X6_isSpent p2 M) yk_X6_isSpent iv_X6_isSpent ml_X6_224 shC_1 rfl ⟨rfl, Nat.le_of_ble_eq_true rfl⟩ rfl (Nat.le_of_ble_eq_true rfl) rfl dX6_both_18 ?_
      refine tr_V.if_eq (tgt := 27) dX6_both_21 (by decide) ?_ ?_
      · refine tr_V.aload_n (i := 0) dX6_both_27 rfl rfl ?_
        refine tr_V.iload_n (i := 1) dX6_both_28 rfl rfl ?_
        refine tr_V.bd (fun c7 h8 => ?_)
        refine tr_V.callV (C_X6_leastsOf p1 M _ h8) yk_X6_leastsOf iv_X6_leastsOf ml_X6_204 shC_1 rfl ⟨rfl, Nat.le_of_ble_eq_true rfl⟩ rfl (Nat.le_of_ble_eq_true rfl) rfl dX6_both_29 ?_
        refine tr_V.astore_n (i := 3) dX6_both_32 rfl (Nat.le_of_ble_eq_true rfl) rfl ?_
        refine tr_V.aload_n (i := 3) dX6_both_33 rfl rfl ?_
        refine tr_V.ifnonnull (tgt := 43) dX6_both_34 (by decide) ?_ ?_
        · refine tr_V.aload_n (i := 0) dX6_both_37 rfl rfl ?_
          refine tr_V.iload_n (i := 1) dX6_both_38 rfl rfl ?_
          refine tr_V.bd (fun c9 h10 => ?_)
          refine tr_V.callV (C_X6_noLeast p1 c7.2 _ h10) yk_X6_noLeast iv_X6_noLeast ml_X6_208 shC_1 rfl ⟨rfl, Nat.le_of_ble_eq_true rfl⟩ rfl (Nat.le_of_ble_eq_true rfl) rfl dX6_both_39 ?_
          exact tr_V.iret dX6_both_42 rfl (fun h => h)
        · refine tr_V.iload_n (i := 1) dX6_both_43 rfl rfl ?_
          refine tr_V.iload_n (i := 2) dX6_both_44 rfl rfl ?_
          refine tr_V.icmp_ne (tgt := 61) dX6_both_45 (by decide) ?_ ?_
          · refine tr_V.aload_n (i := 0) dX6_both_48 rfl rfl ?_
            refine tr_V.aload_n (i := 3) dX6_both_49 rfl rfl ?_
            refine tr_V.bd (fun c11 h12 => ?_)
            refine K_LO_number h12 rfl (Nat.le_of_ble_eq_true rfl) ml_X6_227 (Nat.le_of_ble_eq_true rfl) dX6_both_50 ?_
            refine tr_V.bd (fun M13 h14 => ?_)
            refine tr_V.putI fl_X6_64 shC_1 rfl dX6_both_53 h14 ?_
            refine tr_V.aload_n (i := 3) dX6_both_56 rfl rfl ?_
            refine tr_V.bd (fun c15 h16 => ?_)
            refine K_LO_value h16 rfl (Nat.le_of_ble_eq_true rfl) ml_X6_211 (Nat.le_of_ble_eq_true rfl) dX6_both_57 ?_
            exact tr_V.iret dX6_both_60 rfl (fun h => h)
          · refine tr_V.iload_n (i := 1) dX6_both_61 rfl rfl ?_
            refine tr_V.iconst (v := (4 : Int32)) dX6_both_62 (by decide) ?_
            refine tr_V.icmp_ne (tgt := 93) dX6_both_63 (by decide) ?_ ?_
            · refine tr_V.aload_n (i := 0) dX6_both_66 rfl rfl ?_
              refine tr_V.getR (Nat.succ_pos _) fl_X6_28 shC_1 rfl dX6_both_67 ?_
              refine tr_V.iload_n (i := 2) dX6_both_70 rfl rfl ?_
              refine tr_V.bd (fun c17 h18 => ?_)
              refine tr_V.callV (C_X2_compare p2 c7.2 _ h18) yk_X2_compare iv_X2_compare ml_X6_259 shC_24 rfl ⟨rfl, Nat.le_of_ble_eq_true rfl⟩ rfl (Nat.le_of_ble_eq_true rfl) rfl dX6_both_71 ?_
              refine tr_V.aload_n (i := 0) dX6_both_74 rfl rfl ?_
              refine tr_V.aload_n (i := 0) dX6_both_75 rfl rfl ?_
              refine tr_V.getR (Nat.succ_pos _) fl_X6_28 shC_1 rfl dX6_both_76 ?_
              refine tr_V.getI fl_X6_262 shC_24 rfl dX6_both_79 ?_
              refine tr_V.bd (fun M19 h20 => ?_)
              refine tr_V.putI fl_X6_64 shC_1 rfl dX6_both_82 h20 ?_
              refine tr_V.aload_n (i := 0) dX6_both_85 rfl rfl ?_
              refine tr_V.getR (Nat.succ_pos _) fl_X6_28 shC_1 rfl dX6_both_86 ?_
              refine tr_V.getI fl_X6_265 shC_24 rfl dX6_both_89 ?_
              exact tr_V.iret dX6_both_92 rfl (fun h => h)
            · refine tr_V.iload_n (i := 2) dX6_both_93 rfl rfl ?_
              refine tr_V.iconst (v := (4 : Int32)) dX6_both_94 (by decide) ?_
              refine tr_V.seq (τ := Nat × tr_M) (pc' := 110) (L := fun v21 => [(0, some (.ref 1))]) (S := fun v21 => [.ref v21.1]) (Mf := fun v21 => v21.2) ?_ ?_
              · refine tr_V.icmp_ne (tgt := 105) dX6_both_95 (by decide) ?_ ?_
                · refine tr_V.aload_n (i := 0) dX6_both_98 rfl rfl ?_
                  refine tr_V.bd (fun c22 h23 => ?_)
                  refine tr_V.callV (C_X6_walked c7.2 _ h23) yk_X6_walked iv_X6_walked ml_X6_268 shC_1 rfl ⟨rfl, Nat.le_of_ble_eq_true rfl⟩ rfl (Nat.le_of_ble_eq_true rfl) rfl dX6_both_99 ?_
                  refine tr_V.goto (tgt := 110) dX6_both_102 (by decide) ?_
                  exact tr_V.to (fun h => h) ⟨rfl, trivial⟩
                · refine tr_V.aload_n (i := 0) dX6_both_105 rfl rfl ?_
                  refine tr_V.iload_n (i := 2) dX6_both_106 rfl rfl ?_
                  refine tr_V.bd (fun c24 h25 => ?_)
                  refine tr_V.callV (C_X6_solvedWithin p2 c7.2 _ h25) yk_X6_solvedWithin iv_X6_solvedWithin ml_X6_272 shC_1 rfl ⟨rfl, Nat.le_of_ble_eq_true rfl⟩ rfl (Nat.le_of_ble_eq_true rfl) rfl dX6_both_107 ?_
                  exact tr_V.to (fun h => h) ⟨rfl, trivial⟩
              · intro v21
                refine tr_V.astore (i := 4) dX6_both_110 (Nat.le_of_ble_eq_true rfl) rfl ?_
                refine tr_V.aload_n (i := 0) dX6_both_112 rfl rfl ?_
                refine tr_V.aload dX6_both_113 rfl ?_
                refine tr_V.bd (fun c26 h27 => ?_)
                refine K_LO_number h27 rfl (Nat.le_of_ble_eq_true rfl) ml_X6_227 (Nat.le_of_ble_eq_true rfl) dX6_both_115 ?_
                refine tr_V.bd (fun M28 h29 => ?_)
                refine tr_V.putI fl_X6_64 shC_1 rfl dX6_both_118 h29 ?_
                refine tr_V.aload dX6_both_121 rfl ?_
                refine tr_V.bd (fun c30 h31 => ?_)
                refine K_LO_value h31 rfl (Nat.le_of_ble_eq_true rfl) ml_X6_211 (Nat.le_of_ble_eq_true rfl) dX6_both_123 ?_
                exact tr_V.iret dX6_both_126 rfl (fun h => h)
      · refine tr_V.bipush (v := (-6 : Int32)) dX6_both_24 (by decide) ?_
        exact tr_V.iret dX6_both_26 rfl (fun h => h)
abbrev xX6_must : tr_X := (cX6_must, 2, RX6, (some .int), 5, shC, 81)
theorem cw_X6_must : Cond.code yX6_must cX6_must 2 (some .int) ∈ tr_tbl := tr_in 984 (by decide +kernel) rfl
theorem yk_X6_must : tr_yk yX6_must (xX6_must) 0 := ⟨cw_X6_must, in_X6, ⟨by decide +kernel, by decide +kernel, by decide +kernel⟩, Nat.le_of_ble_eq_true rfl⟩
theorem iv_X6_must : Cond.instanceMethod yX6_must ∈ tr_tbl ∧ Cond.selects (yX6_must).cls yX6_must yX6_must ∈ tr_tbl := ⟨tr_in 982 (by decide +kernel) rfl, tr_in 983 (by decide +kernel) rfl⟩
def mX6_must  (M : tr_M) : Option (Int32 × tr_M) :=
  Option.bind (mX4_leastBroken M) (fun c1 =>
  Option.bind (mX6_forget c1.2) (fun c3 =>
  Option.bind (some (tr_st c3 1 12 (c1.1 &&& (255 : Int32)))) (fun M5 =>
  some ((c1.1 >>> ((8 : Int32) &&& 31)), M5)
  )
  )
  )
set_option maxRecDepth 100000 in
set_option maxHeartbeats 4000000 in
theorem C_X6_must  (M : tr_M) (r : Int32 × tr_M) (h : mX6_must M = some r) : tr_I yX6_must (xX6_must) [.ref 1] M (some (.int r.1)) r.2 := by
  refine tr_I.of (Z := fun q : Int32 × tr_M => (some (.int r.1) : Option Value) = some (.int q.1) ∧ r.2 = q.2) pn_X6 rfl gdC (Nat.le_of_ble_eq_true rfl) (fun Wt => ?_) h ⟨rfl, rfl⟩
  unfold mX6_must
  refine tr_V.aload_n (i := 0) dX6_must_0 rfl rfl ?_
  refine tr_V.getR (Nat.succ_pos _) fl_X6_36 shC_1 rfl dX6_must_1 ?_
  refine tr_V.bd (fun c1 h2 => ?_)
  refine tr_V.callV (C_X4_leastBroken M _ h2) yk_X4_leastBroken iv_X4_leastBroken ml_X6_275 shC_25 rfl ⟨rfl, Nat.le_of_ble_eq_true rfl⟩ rfl (Nat.le_of_ble_eq_true rfl) rfl dX6_must_4 ?_
  refine tr_V.istore_n (i := 1) dX6_must_7 rfl (Nat.le_of_ble_eq_true rfl) rfl ?_
  refine tr_V.aload_n (i := 0) dX6_must_8 rfl rfl ?_
  refine tr_V.bd (fun c3 h4 => ?_)
  refine tr_V.callV (C_X6_forget c1.2 _ h4) yk_X6_forget iv_X6_forget ml_X6_133 shC_1 rfl ⟨rfl, Nat.le_of_ble_eq_true rfl⟩ rfl (Nat.le_of_ble_eq_true rfl) rfl dX6_must_9 ?_
  refine tr_V.aload_n (i := 0) dX6_must_12 rfl rfl ?_
  refine tr_V.iload_n (i := 1) dX6_must_13 rfl rfl ?_
  refine tr_V.sipush (v := (255 : Int32)) dX6_must_14 (by decide) ?_
  refine tr_V.iand dX6_must_17 ?_
  refine tr_V.bd (fun M5 h6 => ?_)
  refine tr_V.putI fl_X6_64 shC_1 rfl dX6_must_18 h6 ?_
  refine tr_V.iload_n (i := 1) dX6_must_21 rfl rfl ?_
  refine tr_V.bipush (v := (8 : Int32)) dX6_must_22 (by decide) ?_
  refine tr_V.ishr dX6_must_24 ?_
  exact tr_V.iret dX6_must_25 rfl (fun h => h)
abbrev xX6_moveInto : tr_X := (cX6_moveInto, 5, RX6, (Option.none : Option Jvm.ClassFile.FieldType), 1, shC, 81)
theorem cw_X6_moveInto : Cond.code yX6_moveInto cX6_moveInto 5 (Option.none : Option Jvm.ClassFile.FieldType) ∈ tr_tbl := tr_in 1024 (by decide +kernel) rfl
theorem yk_X6_moveInto : tr_yk yX6_moveInto (xX6_moveInto) 2 := ⟨cw_X6_moveInto, in_X6, ⟨by decide +kernel, by decide +kernel, by decide +kernel⟩, Nat.le_of_ble_eq_true rfl⟩
theorem iv_X6_moveInto : Cond.instanceMethod yX6_moveInto ∈ tr_tbl ∧ Cond.selects (yX6_moveInto).cls yX6_moveInto yX6_moveInto ∈ tr_tbl := ⟨tr_in 1023 (by decide +kernel) rfl, tr_in 51 (by decide +kernel) rfl⟩
def mX6_moveInto_l5 (p1 : Int32) (p2 : Int32) (s1 : Int32 × Int32 × tr_M) : Option ((Int32 × Int32 × tr_M) ⊕ (tr_M)) :=
  if s1.2.1 < (s1.2.2.1 26 0) then (
    Option.bind (tr_rd 10 s1.2.2 58 s1.2.1) (fun a2 =>
    if a2 = p1 then (
      some (.inl (s1.1, (s1.2.1 + (1 : Int32)), s1.2.2))
    ) else (
      Option.bind (show Option (Int32) from
        if s1.1 = p2 then (
          some (s1.1 + (1 : Int32))
        ) else (
          some s1.1
        )
      ) (fun (v4 : Int32) =>
        Option.bind (tr_rd 10 s1.2.2 58 s1.2.1) (fun a5 =>
        Option.bind (tr_wr 10 s1.2.2 59 v4 a5) (fun M7 =>
        some (.inl ((v4 + (1 : Int32)), (s1.2.1 + (1 : Int32)), M7))
        )
        )
      )
    )
    )
  ) else (
    Option.bind (tr_wr 10 s1.2.2 59 p2 p1) (fun M9 =>
    some (.inr M9)
    )
  )
def mX6_moveInto (p1 : Int32) (p2 : Int32) (M : tr_M) : Option (tr_M) :=
  tr_loop (mX6_moveInto_l5 p1 p2) ((0 : Int32), (0 : Int32), M)
set_option maxRecDepth 100000 in
set_option maxHeartbeats 4000000 in
theorem C_X6_moveInto (p1 : Int32) (p2 : Int32) (M M' : tr_M) (h : mX6_moveInto p1 p2 M = some M') : tr_I yX6_moveInto (xX6_moveInto) [.ref 1, .int p1, .int p2] M none M' := by
  refine tr_I.of (Z := fun q : tr_M => (none : Option Value) = none ∧ M' = q) pn_X6 rfl gdC (Nat.le_of_ble_eq_true rfl) (fun Wt => ?_) h ⟨rfl, rfl⟩
  unfold mX6_moveInto
  refine tr_V.iconst (v := (0 : Int32)) dX6_moveInto_0 (by decide) ?_
  refine tr_V.istore_n (i := 3) dX6_moveInto_1 rfl (Nat.le_of_ble_eq_true rfl) rfl ?_
  refine tr_V.iconst (v := (0 : Int32)) dX6_moveInto_2 (by decide) ?_
  refine tr_V.istore (i := 4) dX6_moveInto_3 (Nat.le_of_ble_eq_true rfl) rfl ?_
  refine tr_V.loop (σ := Int32 × Int32 × tr_M) (step := mX6_moveInto_l5 p1 p2) (L := fun s1 => [(0, some (.ref 1)), (1, some (.int p1)), (2, some (.int p2)), (3, some (.int s1.1)), (4, some (.int s1.2.1))]) (Mf := fun s1 => s1.2.2) ?_ ((0 : Int32), (0 : Int32), M) ⟨rfl, rfl, rfl, rfl, rfl, trivial⟩
  intro s1
  refine tr_V.iload dX6_moveInto_5 rfl ?_
  refine tr_V.aload_n (i := 0) dX6_moveInto_7 rfl rfl ?_
  refine tr_V.getR (Nat.succ_pos _) fl_X6_43 shC_1 rfl dX6_moveInto_8 ?_
  refine tr_V.getI fl_X6_136 shC_26 rfl dX6_moveInto_11 ?_
  refine tr_V.icmp_ge (tgt := 58) dX6_moveInto_14 (by decide) ?_ ?_
  · refine tr_V.aload_n (i := 0) dX6_moveInto_17 rfl rfl ?_
    refine tr_V.getR (Nat.succ_pos _) fl_X6_48 shC_1 rfl dX6_moveInto_18 ?_
    refine tr_V.iload dX6_moveInto_21 rfl ?_
    refine tr_V.bd (fun a2 h3 => ?_)
    refine tr_V.iald h3 shC_58 dX6_moveInto_23 ?_
    refine tr_V.iload_n (i := 1) dX6_moveInto_24 rfl rfl ?_
    refine tr_V.icmp_eq (tgt := 52) dX6_moveInto_25 (by decide) ?_ ?_
    · refine tr_V.iinc (cst := (1 : Int32)) dX6_moveInto_52 rfl (by decide) rfl ?_
      refine tr_V.goto (tgt := 5) dX6_moveInto_55 (by decide) ?_
      exact tr_V.to (fun h => h) ⟨rfl, rfl, rfl, rfl, rfl, trivial⟩
    · refine tr_V.iload_n (i := 3) dX6_moveInto_28 rfl rfl ?_
      refine tr_V.iload_n (i := 2) dX6_moveInto_29 rfl rfl ?_
      refine tr_V.seq (τ := Int32) (pc' := 36) (L := fun v4 => [(0, some (.ref 1)), (1, some (.int p1)), (2, some (.int p2)), (3, some (.int v4)), (4, some (.int s1.2.1))]) (S := fun v4 => []) (Mf := fun v4 => s1.2.2) ?_ ?_
      · refine tr_V.icmp_ne (tgt := 36) dX6_moveInto_30 (by decide) ?_ ?_
        · refine tr_V.iinc (cst := (1 : Int32)) dX6_moveInto_33 rfl (by decide) rfl ?_
          exact tr_V.to (fun h => h) ⟨rfl, rfl, rfl, rfl, rfl, trivial⟩
        · exact tr_V.to (fun h => h) ⟨rfl, rfl, rfl, rfl, rfl, trivial⟩
      · intro v4
        refine tr_V.aload_n (i := 0) dX6_moveInto_36 rfl rfl ?_
        refine tr_V.getR (Nat.succ_pos _) fl_X6_51 shC_1 rfl dX6_moveInto_37 ?_
        refine tr_V.iload_n (i := 3) dX6_moveInto_40 rfl rfl ?_
        refine tr_V.aload_n (i := 0) dX6_moveInto_41 rfl rfl ?_
        refine tr_V.getR (Nat.succ_pos _) fl_X6_48 shC_1 rfl dX6_moveInto_42 ?_
        refine tr_V.iload dX6_moveInto_45 rfl ?_
        refine tr_V.bd (fun a5 h6 => ?_)
        refine tr_V.iald h6 shC_58 dX6_moveInto_47 ?_
        refine tr_V.bd (fun M7 h8 => ?_)
        refine tr_V.iast h8 shC_59 dX6_moveInto_48 ?_
        refine tr_V.iinc (cst := (1 : Int32)) dX6_moveInto_49 rfl (by decide) rfl ?_
        refine tr_V.iinc (cst := (1 : Int32)) dX6_moveInto_52 rfl (by decide) rfl ?_
        refine tr_V.goto (tgt := 5) dX6_moveInto_55 (by decide) ?_
        exact tr_V.to (fun h => h) ⟨rfl, rfl, rfl, rfl, rfl, trivial⟩
  · refine tr_V.aload_n (i := 0) dX6_moveInto_58 rfl rfl ?_
    refine tr_V.getR (Nat.succ_pos _) fl_X6_51 shC_1 rfl dX6_moveInto_59 ?_
    refine tr_V.iload_n (i := 2) dX6_moveInto_62 rfl rfl ?_
    refine tr_V.iload_n (i := 1) dX6_moveInto_63 rfl rfl ?_
    refine tr_V.bd (fun M9 h10 => ?_)
    refine tr_V.iast h10 shC_59 dX6_moveInto_64 ?_
    exact tr_V.vret dX6_moveInto_65 rfl (fun h => h)
abbrev xX6_keepIfBetter : tr_X := (cX6_keepIfBetter, 4, RX6, (some .int), 3, shC, 81)
theorem cw_X6_keepIfBetter : Cond.code yX6_keepIfBetter cX6_keepIfBetter 4 (some .int) ∈ tr_tbl := tr_in 1028 (by decide +kernel) rfl
theorem yk_X6_keepIfBetter : tr_yk yX6_keepIfBetter (xX6_keepIfBetter) 2 := ⟨cw_X6_keepIfBetter, in_X6, ⟨by decide +kernel, by decide +kernel, by decide +kernel⟩, Nat.le_of_ble_eq_true rfl⟩
theorem iv_X6_keepIfBetter : Cond.instanceMethod yX6_keepIfBetter ∈ tr_tbl ∧ Cond.selects (yX6_keepIfBetter).cls yX6_keepIfBetter yX6_keepIfBetter ∈ tr_tbl := ⟨tr_in 1027 (by decide +kernel) rfl, tr_in 52 (by decide +kernel) rfl⟩
def mX6_keepIfBetter (p1 : Int32) (p2 : Int32) (M : tr_M) : Option (Int32 × tr_M) :=
  Option.bind (mX5_firstBroken 26 59 M) (fun c1 =>
  if c1.1 = (-9 : Int32) then (
    Option.bind (mX5_measured 26 p1 59 c1.2) (fun c3 =>
    if c3 < p2 then (
      Option.bind (tr_cpy (tr_len shC 59) (tr_len shC 60) c1.2 59 (0 : Int32) 60 (0 : Int32) (c1.2.1 26 0)) (fun M5 =>
      some (c3, M5)
      )
    ) else (
      some (p2, c1.2)
    )
    )
  ) else (
    some (p2, c1.2)
  )
  )
set_option maxRecDepth 100000 in
set_option maxHeartbeats 4000000 in
theorem C_X6_keepIfBetter (p1 : Int32) (p2 : Int32) (M : tr_M) (r : Int32 × tr_M) (h : mX6_keepIfBetter p1 p2 M = some r) : tr_I yX6_keepIfBetter (xX6_keepIfBetter) [.ref 1, .int p1, .int p2] M (some (.int r.1)) r.2 := by
  refine tr_I.of (Z := fun q : Int32 × tr_M => (some (.int r.1) : Option Value) = some (.int q.1) ∧ r.2 = q.2) pn_X6 rfl gdC (Nat.le_of_ble_eq_true rfl) (fun Wt => ?_) h ⟨rfl, rfl⟩
  unfold mX6_keepIfBetter
  refine tr_V.aload_n (i := 0) dX6_keepIfBetter_0 rfl rfl ?_
  refine tr_V.getR (Nat.succ_pos _) fl_X6_43 shC_1 rfl dX6_keepIfBetter_1 ?_
  refine tr_V.aload_n (i := 0) dX6_keepIfBetter_4 rfl rfl ?_
  refine tr_V.getR (Nat.succ_pos _) fl_X6_51 shC_1 rfl dX6_keepIfBetter_5 ?_
  refine tr_V.bd (fun c1 h2 => ?_)
  refine tr_V.callV (C_X5_firstBroken 26 isW_26 59 M _ h2) yk_X5_firstBroken iv_X5_firstBroken ml_X6_194 shC_26 rfl ⟨rfl, Nat.le_of_ble_eq_true rfl⟩ rfl (Nat.le_of_ble_eq_true rfl) rfl dX6_keepIfBetter_8 ?_
  refine tr_V.bipush (v := (-9 : Int32)) dX6_keepIfBetter_11 (by decide) ?_
  refine tr_V.icmp_eq (tgt := 18) dX6_keepIfBetter_13 (by decide) ?_ ?_
  · refine tr_V.aload_n (i := 0) dX6_keepIfBetter_18 rfl rfl ?_
    refine tr_V.getR (Nat.succ_pos _) fl_X6_43 shC_1 rfl dX6_keepIfBetter_19 ?_
    refine tr_V.iload_n (i := 1) dX6_keepIfBetter_22 rfl rfl ?_
    refine tr_V.aload_n (i := 0) dX6_keepIfBetter_23 rfl rfl ?_
    refine tr_V.getR (Nat.succ_pos _) fl_X6_51 shC_1 rfl dX6_keepIfBetter_24 ?_
    refine tr_V.bd (fun c3 h4 => ?_)
    refine tr_V.callV (C_X5_measured 26 isW_26 p1 59 c1.2 _ h4) yk_X5_measured iv_X5_measured ml_X6_190 shC_26 rfl ⟨rfl, Nat.le_of_ble_eq_true rfl⟩ rfl (Nat.le_of_ble_eq_true rfl) rfl dX6_keepIfBetter_27 ?_
    refine tr_V.istore_n (i := 3) dX6_keepIfBetter_30 rfl (Nat.le_of_ble_eq_true rfl) rfl ?_
    refine tr_V.iload_n (i := 3) dX6_keepIfBetter_31 rfl rfl ?_
    refine tr_V.iload_n (i := 2) dX6_keepIfBetter_32 rfl rfl ?_
    refine tr_V.icmp_lt (tgt := 38) dX6_keepIfBetter_33 (by decide) ?_ ?_
    · refine tr_V.aload_n (i := 0) dX6_keepIfBetter_38 rfl rfl ?_
      refine tr_V.getR (Nat.succ_pos _) fl_X6_51 shC_1 rfl dX6_keepIfBetter_39 ?_
      refine tr_V.iconst (v := (0 : Int32)) dX6_keepIfBetter_42 (by decide) ?_
      refine tr_V.aload_n (i := 0) dX6_keepIfBetter_43 rfl rfl ?_
      refine tr_V.getR (Nat.succ_pos _) fl_X6_54 shC_1 rfl dX6_keepIfBetter_44 ?_
      refine tr_V.iconst (v := (0 : Int32)) dX6_keepIfBetter_47 (by decide) ?_
      refine tr_V.aload_n (i := 0) dX6_keepIfBetter_48 rfl rfl ?_
      refine tr_V.getR (Nat.succ_pos _) fl_X6_43 shC_1 rfl dX6_keepIfBetter_49 ?_
      refine tr_V.getI fl_X6_136 shC_26 rfl dX6_keepIfBetter_52 ?_
      refine tr_V.bd (fun M5 h6 => ?_)
      refine tr_V.copy h6 ml_X6_113 w_acN w_acS w_acI (Nat.le_of_ble_eq_true rfl) (Nat.le_of_ble_eq_true rfl) dX6_keepIfBetter_55 ?_
      refine tr_V.iload_n (i := 3) dX6_keepIfBetter_58 rfl rfl ?_
      exact tr_V.iret dX6_keepIfBetter_59 rfl (fun h => h)
    · refine tr_V.iload_n (i := 2) dX6_keepIfBetter_36 rfl rfl ?_
      exact tr_V.iret dX6_keepIfBetter_37 rfl (fun h => h)
  · refine tr_V.iload_n (i := 2) dX6_keepIfBetter_16 rfl rfl ?_
    exact tr_V.iret dX6_keepIfBetter_17 rfl (fun h => h)
