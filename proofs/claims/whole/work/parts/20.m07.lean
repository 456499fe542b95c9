abbrev xX6_digestOf_2 : tr_X := (cX6_digestOf, 7, RX6, (some .long), 1, shC, 81)
theorem cw_X6_digestOf : Cond.code yX6_digestOf cX6_digestOf 7 (some .long) ∈ tr_tbl := tr_in 1139 (by decide +kernel) rfl
theorem yk_X6_digestOf : tr_yk yX6_digestOf (xX6_digestOf_2) 2 := ⟨cw_X6_digestOf, in_X6, ⟨by decide +kernel, by decide +kernel, by decide +kernel⟩, Nat.le_of_ble_eq_true rfl⟩
theorem sc_X6_digestOf : Cond.static yX6_digestOf ∈ tr_tbl := tr_in 1138 (by decide +kernel) rfl
def mX6_digestOf_2_l30 (M : tr_M) (s1 : Int64 × Int32) (s6 : Int64 × Int32) : Option ((Int64 × Int32) ⊕ ((Int64 × Int32) ⊕ (Int64))) :=
  Option.bind (tr_ra 6 (fun i => 62 + 2 * i) s1.2) (fun r7 =>
  if s6.2 < (M.1 r7 1) then (
    Option.bind (tr_ra 6 (fun i => 62 + 2 * i) s1.2) (fun r9 =>
    Option.bind (tr_rd (tr_len shC (r9 + 1)) M (r9 + 1) s6.2) (fun a11 =>
    some (.inl ((((31 : Int64) * s6.1) + a11.toInt64), (s6.2 + (1 : Int32))))
    )
    )
  ) else (
    some (.inr (.inl (s6.1, (s1.2 + (1 : Int32)))))
  )
  )
def mX6_digestOf_2_l5 (M : tr_M) (s1 : Int64 × Int32) : Option ((Int64 × Int32) ⊕ (Int64)) :=
  if s1.2 < (6 : Int32) then (
    Option.bind (tr_ra 6 (fun i => 62 + 2 * i) s1.2) (fun r2 =>
    Option.bind (some (((31 : Int64) * s1.1) + (M.1 r2 1).toInt64)) (fun x4 =>
    tr_loop (mX6_digestOf_2_l30 M s1) (x4, (0 : Int32))
    )
    )
  ) else (
    some (.inr s1.1)
  )
def mX6_digestOf_2 (p1 : Int64) (M : tr_M) : Option (Int64) :=
  tr_loop (mX6_digestOf_2_l5 M) (p1, (0 : Int32))
set_option maxRecDepth 100000 in
set_option maxHeartbeats 4000000 in
theorem C_X6_digestOf_2 (p1 : Int64) (M : tr_M) (r : Int64) (h : mX6_digestOf_2 p1 M = some r) : tr_I yX6_digestOf (xX6_digestOf_2) [.ref 2, .long p1] M (some (.long r)) M := by
  refine tr_I.of (Z := fun q : Int64 => (some (.long r) : Option Value) = some (.long q) ∧ M = M) pn_X6 rfl gdC (Nat.le_of_ble_eq_true rfl) (fun Wt => ?_) h ⟨rfl, rfl⟩
  unfold mX6_digestOf_2
  refine tr_V.lload_n (i := 1) dX6_digestOf_0 rfl rfl ?_
  refine tr_V.lstore_n (i := 3) dX6_digestOf_1 rfl (Nat.le_of_ble_eq_true rfl) rfl ?_
  refine tr_V.iconst (v := (0 : Int32)) dX6_digestOf_2 (by decide) ?_
  refine tr_V.istore (i := 5) dX6_digestOf_3 (Nat.le_of_ble_eq_true rfl) rfl ?_
  refine tr_V.loop (σ := Int64 × Int32) (step := mX6_digestOf_2_l5 M) (L := fun s1 => [(0, some (.ref 2)), (3, some (.long s1.1)), (5, some (.int s1.2))]) (Mf := fun s1 => M) ?_ (p1, (0 : Int32)) ⟨rfl, rfl, rfl, trivial⟩
  intro s1
  refine tr_V.iload dX6_digestOf_5 rfl ?_
  refine tr_V.aload_n (i := 0) dX6_digestOf_7 rfl rfl ?_
  refine tr_V.alenR (ty := .object RX1) (v := (6 : Int32)) shC_2 (by decide) (fun _ => rfl) dX6_digestOf_8 ?_
  refine tr_V.icmp_ge (tgt := 72) dX6_digestOf_9 (by decide) ?_ ?_
  · refine tr_V.ldc2 ct_X6_326 dX6_digestOf_12 ?_
    refine tr_V.lload_n (i := 3) dX6_digestOf_15 rfl rfl ?_
    refine tr_V.lmul dX6_digestOf_16 ?_
    refine tr_V.aload_n (i := 0) dX6_digestOf_17 rfl rfl ?_
    refine tr_V.iload dX6_digestOf_18 rfl ?_
    refine tr_V.bd (fun r2 h3 => ?_)
    refine tr_V.aald (ty := .object RX1) h3 shC_2 (isL_pos (isL_2 h3)) (fun _ => rfl) rfl dX6_digestOf_20 ?_
    refine tr_V.getI fl_X6_106 (shL (isL_2 h3)) rfl dX6_digestOf_21 ?_
    refine tr_V.i2l dX6_digestOf_24 ?_
    refine tr_V.ladd dX6_digestOf_25 ?_
    refine tr_V.bd (fun x4 h5 => ?_)
    refine tr_V.nmJ h5 ?_
    refine tr_V.lstore_n (i := 3) dX6_digestOf_26 rfl (Nat.le_of_ble_eq_true rfl) rfl ?_
    refine tr_V.iconst (v := (0 : Int32)) dX6_digestOf_27 (by decide) ?_
    refine tr_V.istore (i := 6) dX6_digestOf_28 (Nat.le_of_ble_eq_true rfl) rfl ?_
    refine tr_V.loop (σ := Int64 × Int32) (step := mX6_digestOf_2_l30 M s1) (L := fun s6 => [(0, some (.ref 2)), (3, some (.long s6.1)), (5, some (.int s1.2)), (6, some (.int s6.2))]) (Mf := fun s6 => M) ?_ (x4, (0 : Int32)) ⟨rfl, rfl, rfl, rfl, trivial⟩
    intro s6
    refine tr_V.iload dX6_digestOf_30 rfl ?_
    refine tr_V.aload_n (i := 0) dX6_digestOf_32 rfl rfl ?_
    refine tr_V.iload dX6_digestOf_33 rfl ?_
    refine tr_V.bd (fun r7 h8 => ?_)
    refine tr_V.aald (ty := .object RX1) h8 shC_2 (isL_pos (isL_2 h8)) (fun _ => rfl) rfl dX6_digestOf_35 ?_
    refine tr_V.getI fl_X6_106 (shL (isL_2 h8)) rfl dX6_digestOf_36 ?_
    refine tr_V.icmp_ge (tgt := 66) dX6_digestOf_39 (by decide) ?_ ?_
    · refine tr_V.ldc2 ct_X6_326 dX6_digestOf_42 ?_
      refine tr_V.lload_n (i := 3) dX6_digestOf_45 rfl rfl ?_
      refine tr_V.lmul dX6_digestOf_46 ?_
      refine tr_V.aload_n (i := 0) dX6_digestOf_47 rfl rfl ?_
      refine tr_V.iload dX6_digestOf_48 rfl ?_
      refine tr_V.bd (fun r9 h10 => ?_)
      refine tr_V.aald (ty := .object RX1) h10 shC_2 (isL_pos (isL_2 h10)) (fun _ => rfl) rfl dX6_digestOf_50 ?_
      refine tr_V.getR (Nat.succ_pos _) fl_X6_99 (shL (isL_2 h10)) rfl dX6_digestOf_51 ?_
      refine tr_V.iload dX6_digestOf_54 rfl ?_
      refine tr_V.bd (fun a11 h12 => ?_)
      refine tr_V.ialdL h12 dX6_digestOf_56 ?_
      refine tr_V.i2l dX6_digestOf_57 ?_
      refine tr_V.ladd dX6_digestOf_58 ?_
      refine tr_V.lstore_n (i := 3) dX6_digestOf_59 rfl (Nat.le_of_ble_eq_true rfl) rfl ?_
      refine tr_V.iinc (cst := (1 : Int32)) dX6_digestOf_60 rfl (by decide) rfl ?_
      refine tr_V.goto (tgt := 30) dX6_digestOf_63 (by decide) ?_
      exact tr_V.to (fun h => h) ⟨rfl, rfl, rfl, rfl, trivial⟩
    · refine tr_V.iinc (cst := (1 : Int32)) dX6_digestOf_66 rfl (by decide) rfl ?_
      refine tr_V.goto (tgt := 5) dX6_digestOf_69 (by decide) ?_
      exact tr_V.to (fun h => h) ⟨rfl, rfl, rfl, trivial⟩
  · refine tr_V.lload_n (i := 3) dX6_digestOf_72 rfl rfl ?_
    exact tr_V.lret dX6_digestOf_73 rfl (fun h => h)
abbrev xX6_digestOf_3 : tr_X := (cX6_digestOf, 7, RX6, (some .long), 1, shC, 81)
def mX6_digestOf_3_l30 (M : tr_M) (s1 : Int64 × Int32) (s6 : Int64 × Int32) : Option ((Int64 × Int32) ⊕ ((Int64 × Int32) ⊕ (Int64))) :=
  Option.bind (tr_ra 4 (fun i => 74 + 2 * i) s1.2) (fun r7 =>
  if s6.2 < (M.1 r7 1) then (
    Option.bind (tr_ra 4 (fun i => 74 + 2 * i) s1.2) (fun r9 =>
    Option.bind (tr_rd (tr_len shC (r9 + 1)) M (r9 + 1) s6.2) (fun a11 =>
    some (.inl ((((31 : Int64) * s6.1) + a11.toInt64), (s6.2 + (1 : Int32))))
    )
    )
  ) else (
    some (.inr (.inl (s6.1, (s1.2 + (1 : Int32)))))
  )
  )
def mX6_digestOf_3_l5 (M : tr_M) (s1 : Int64 × Int32) : Option ((Int64 × Int32) ⊕ (Int64)) :=
  if s1.2 < (4 : Int32) then (
    Option.bind (tr_ra 4 (fun i => 74 + 2 * i) s1.2) (fun r2 =>
    Option.bind (some (((31 : Int64) * s1.1) + (M.1 r2 1).toInt64)) (fun x4 =>
    tr_loop (mX6_digestOf_3_l30 M s1) (x4, (0 : Int32))
    )
    )
  ) else (
    some (.inr s1.1)
  )
def mX6_digestOf_3 (p1 : Int64) (M : tr_M) : Option (Int64) :=
  tr_loop (mX6_digestOf_3_l5 M) (p1, (0 : Int32))
set_option maxRecDepth 100000 in
set_option maxHeartbeats 4000000 in
theorem C_X6_digestOf_3 (p1 : Int64) (M : tr_M) (r : Int64) (h : mX6_digestOf_3 p1 M = some r) : tr_I yX6_digestOf (xX6_digestOf_3) [.ref 3, .long p1] M (some (.long r)) M := by
  refine tr_I.of (Z := fun q : Int64 => (some (.long r) : Option Value) = some (.long q) ∧ M = M) pn_X6 rfl gdC (Nat.le_of_ble_eq_true rfl) (fun Wt => ?_) h ⟨rfl, rfl⟩
  unfold mX6_digestOf_3
  refine tr_V.lload_n (i := 1) dX6_digestOf_0 rfl rfl ?_
  refine tr_V.lstore_n (i := 3) dX6_digestOf_1 rfl (Nat.le_of_ble_eq_true rfl) rfl ?_
  refine tr_V.iconst (v := (0 : Int32)) dX6_digestOf_2 (by decide) ?_
  refine tr_V.istore (i := 5) dX6_digestOf_3 (Nat.le_of_ble_eq_true rfl) rfl ?_
  refine tr_V.loop (σ := Int64 × Int32) (step := mX6_digestOf_3_l5 M) (L := fun s1 => [(0, some (.ref 3)), (3, some (.long s1.1)), (5, some (.int s1.2))]) (Mf := fun s1 => M) ?_ (p1, (0 : Int32)) ⟨rfl, rfl, rfl, trivial⟩
  intro s1
  refine tr_V.iload dX6_digestOf_5 rfl ?_
  refine tr_V.aload_n (i := 0) dX6_digestOf_7 rfl rfl ?_
  refine tr_V.alenR (ty := .object RX1) (v := (4 : Int32)) shC_3 (by decide) (fun _ => rfl) dX6_digestOf_8 ?_
  refine tr_V.icmp_ge (tgt := 72) dX6_digestOf_9 (by decide) ?_ ?_
  · refine tr_V.ldc2 ct_X6_326 dX6_digestOf_12 ?_
    refine tr_V.lload_n (i := 3) dX6_digestOf_15 rfl rfl ?_
    refine tr_V.lmul dX6_digestOf_16 ?_
    refine tr_V.aload_n (i := 0) dX6_digestOf_17 rfl rfl ?_
    refine tr_V.iload dX6_digestOf_18 rfl ?_
    refine tr_V.bd (fun r2 h3 => ?_)
    refine tr_V.aald (ty := .object RX1) h3 shC_3 (isL_pos (isL_3 h3)) (fun _ => rfl) rfl dX6_digestOf_20 ?_
    refine tr_V.getI fl_X6_106 (shL (isL_3 h3)) rfl dX6_digestOf_21 ?_
    refine tr_V.i2l dX6_digestOf_24 ?_
    refine tr_V.ladd dX6_digestOf_25 ?_
    refine tr_V.bd (fun x4 h5 => ?_)
    refine tr_V.nmJ h5 ?_
    refine tr_V.lstore_n (i := 3) dX6_digestOf_26 rfl (Nat.le_of_ble_eq_true rfl) rfl ?_
    refine tr_V.iconst (v := (0 : Int32)) dX6_digestOf_27 (by decide) ?_
    refine tr_V.istore (i := 6) dX6_digestOf_28 (Nat.le_of_ble_eq_true rfl) rfl ?_
    refine tr_V.loop (σ := Int64 × Int32) (step := mX6_digestOf_3_l30 M s1) (L := fun s6 => [(0, some (.ref 3)), (3, some (.long s6.1)), (5, some (.int s1.2)), (6, some (.int s6.2))]) (Mf := fun s6 => M) ?_ (x4, (0 : Int32)) ⟨rfl, rfl, rfl, rfl, trivial⟩
    intro s6
    refine tr_V.iload dX6_digestOf_30 rfl ?_
    refine tr_V.aload_n (i := 0) dX6_digestOf_32 rfl rfl ?_
    refine tr_V.iload dX6_digestOf_33 rfl ?_
    refine tr_V.bd (fun r7 h8 => ?_)
    refine tr_V.aald (ty := .object RX1) h8 shC_3 (isL_pos (isL_3 h8)) (fun _ => rfl) rfl dX6_digestOf_35 ?_
    refine tr_V.getI fl_X6_106 (shL (isL_3 h8)) rfl dX6_digestOf_36 ?_
    refine tr_V.icmp_ge (tgt := 66) dX6_digestOf_39 (by decide) ?_ ?_
    · refine tr_V.ldc2 ct_X6_326 dX6_digestOf_42 ?_
      refine tr_V.lload_n (i := 3) dX6_digestOf_45 rfl rfl ?_
      refine tr_V.lmul dX6_digestOf_46 ?_
      refine tr_V.aload_n (i := 0) dX6_digestOf_47 rfl rfl ?_
      refine tr_V.iload dX6_digestOf_48 rfl ?_
      refine tr_V.bd (fun r9 h10 => ?_)
      refine tr_V.aald (ty := .object RX1) h10 shC_3 (isL_pos (isL_3 h10)) (fun _ => rfl) rfl dX6_digestOf_50 ?_
      refine tr_V.getR (Nat.succ_pos _) fl_X6_99 (shL (isL_3 h10)) rfl dX6_digestOf_51 ?_
      refine tr_V.iload dX6_digestOf_54 rfl ?_
      refine tr_V.bd (fun a11 h12 => ?_)
      refine tr_V.ialdL h12 dX6_digestOf_56 ?_
      refine tr_V.i2l dX6_digestOf_57 ?_
      refine tr_V.ladd dX6_digestOf_58 ?_
      refine tr_V.lstore_n (i := 3) dX6_digestOf_59 rfl (Nat.le_of_ble_eq_true rfl) rfl ?_
      refine tr_V.iinc (cst := (1 : Int32)) dX6_digestOf_60 rfl (by decide) rfl ?_
      refine tr_V.goto (tgt := 30) dX6_digestOf_63 (by decide) ?_
      exact tr_V.to (fun h => h) ⟨rfl, rfl, rfl, rfl, trivial⟩
    · refine tr_V.iinc (cst := (1 : Int32)) dX6_digestOf_66 rfl (by decide) rfl ?_
      refine tr_V.goto (tgt := 5) dX6_digestOf_69 (by decide) ?_
      exact tr_V.to (fun h => h) ⟨rfl, rfl, rfl, trivial⟩
  · refine tr_V.lload_n (i := 3) dX6_digestOf_72 rfl rfl ?_
    exact tr_V.lret dX6_digestOf_73 rfl (fun h => h)
abbrev xX6_digest : tr_X := (cX6_digest, 5, RX6, (some .long), 4, shC, 81)
theorem cw_X6_digest : Cond.code yX6_digest cX6_digest 5 (some .long) ∈ tr_tbl := tr_in 1133 (by decide +kernel) rfl
theorem yk_X6_digest : tr_yk yX6_digest (xX6_digest) 0 := ⟨cw_X6_digest, in_X6, ⟨by decide +kernel, by decide +kernel, by decide +kernel⟩, Nat.le_of_ble_eq_true rfl⟩
theorem iv_X6_digest : Cond.instanceMethod yX6_digest ∈ tr_tbl ∧ Cond.selects (yX6_digest).cls yX6_digest yX6_digest ∈ tr_tbl := ⟨tr_in 1131 (by decide +kernel) rfl, tr_in 1132 (by decide +kernel) rfl⟩
def mX6_digest_l6 (M : tr_M) (s2 : Int64 × Int32) : Option ((Int64 × Int32) ⊕ (Int64)) :=
  if (6 : Int32) < s2.2 then (
    some (.inr s2.1)
  ) else (
    Option.bind (mX6_count s2.2 M) (fun c3 =>
    some (.inl ((((31 : Int64) * s2.1) + c3.toInt64), (s2.2 + (1 : Int32))))
    )
  )
def mX6_digest_l49 (M : tr_M) (s6 : Int64 × Int32) (s7 : Int64 × Int32) : Option ((Int64 × Int32) ⊕ ((Int64 × Int32) ⊕ (Int64))) :=
  if s7.2 < (M.1 26 0) then (
    Option.bind (tr_ra 10 (fun i => 28 + i) s6.2) (fun r8 =>
    Option.bind (tr_rd 10 M r8 s7.2) (fun a10 =>
    some (.inl ((((31 : Int64) * s7.1) + a10.toInt64), (s7.2 + (1 : Int32))))
    )
    )
  ) else (
    some (.inr (.inl (s7.1, (s6.2 + (1 : Int32)))))
  )
def mX6_digest_l33 (M : tr_M) (s6 : Int64 × Int32) : Option ((Int64 × Int32) ⊕ (Int64)) :=
  if s6.2 < (M.1 26 0) then (
    tr_loop (mX6_digest_l49 M s6) (s6.1, (s6.2 + (1 : Int32)))
  ) else (
    some (.inr s6.1)
  )
def mX6_digest_l109 (M : tr_M) (s13 : Int64 × Int32) (s14 : Int64 × Int32) : Option ((Int64 × Int32) ⊕ ((Int64 × Int32) ⊕ (Int64))) :=
  if (4 : Int32) < s14.2 then (
    some (.inr (.inl (s14.1, (s13.2 + (1 : Int32)))))
  ) else (
    Option.bind (mX5_ruleNumber 26 s13.2 s14.2 M) (fun c15 =>
    some (.inl ((((31 : Int64) * s14.1) + c15.toInt64), (s14.2 + (1 : Int32))))
    )
  )
def mX6_digest_l95 (M : tr_M) (s13 : Int64 × Int32) : Option ((Int64 × Int32) ⊕ (Int64)) :=
  if s13.2 < (M.1 26 1) then (
    tr_loop (mX6_digest_l109 M s13) (s13.1, (0 : Int32))
  ) else (
    some (.inr s13.1)
  )
def mX6_digest  (M : tr_M) : Option (Int64) :=
  Option.bind (show Option (Int64) from
    tr_loop (mX6_digest_l6 M) ((17 : Int64), (0 : Int32))
  ) (fun (v1 : Int64) =>
    Option.bind (show Option (Int64) from
      tr_loop (mX6_digest_l33 M) (v1, (0 : Int32))
    ) (fun (v5 : Int64) =>
      Option.bind (show Option (Int64) from
        tr_loop (mX6_digest_l95 M) (v5, (0 : Int32))
      ) (fun (v12 : Int64) =>
        Option.bind (mX6_digestOf_2 v12 M) (fun c17 =>
        Option.bind (mX6_digestOf_3 c17 M) (fun c19 =>
        some c19
        )
        )
      )
    )
  )
set_option maxRecDepth 100000 in
set_option maxHeartbeats 4000000 in
theorem C_X6_digest  (M : tr_M) (r : Int64) (h : mX6_digest M = some r) : tr_I yX6_digest (xX6_digest) [.ref 1] M (some (.long r)) M := by
  refine tr_I.of (Z := fun q : Int64 => (some (.long r) : Option Value) = some (.long q) ∧ M = M) pn_X6 rfl gdC (Nat.le_of_ble_eq_true rfl) (fun Wt => ?_) h ⟨rfl, rfl⟩
  unfold mX6_digest
  refine tr_V.ldc2 ct_X6_324 dX6_digest_0 ?_
  refine tr_V.lstore_n (i := 1) dX6_digest_3 rfl (Nat.le_of_ble_eq_true rfl) rfl ?_
  refine tr_V.iconst (v := (0 : Int32)) dX6_digest_4 (by decide) ?_
  refine tr_V.istore_n (i := 3) dX6_digest_5 rfl (Nat.le_of_ble_eq_true rfl) rfl ?_
  refine tr_V.seq (τ := Int64) (pc' := 31) (L := fun v1 => [(0, some (.ref 1)), (1, some (.long v1))]) (S := fun v1 => []) (Mf := fun v1 => M) ?_ ?_
  · refine tr_V.loop (σ := Int64 × Int32) (step := mX6_digest_l6 M) (L := fun s2 => [(0, some (.ref 1)), (1, some (.long s2.1)), (3, some (.int s2.2))]) (Mf := fun s2 => M) ?_ ((17 : Int64), (0 : Int32)) ⟨rfl, rfl, rfl, trivial⟩
    intro s2
    refine tr_V.iload_n (i := 3) dX6_digest_6 rfl rfl ?_
    refine tr_V.bipush (v := (6 : Int32)) dX6_digest_7 (by decide) ?_
    refine tr_V.icmp_gt (tgt := 31) dX6_digest_9 (by decide) ?_ ?_
    · exact tr_V.to (fun h => h) ⟨rfl, rfl, trivial⟩
    · refine tr_V.ldc2 ct_X6_326 dX6_digest_12 ?_
      refine tr_V.lload_n (i := 1) dX6_digest_15 rfl rfl ?_
      refine tr_V.lmul dX6_digest_16 ?_
      refine tr_V.aload_n (i := 0) dX6_digest_17 rfl rfl ?_
      refine tr_V.iload_n (i := 3) dX6_digest_18 rfl rfl ?_
      refine tr_V.bd (fun c3 h4 => ?_)
      refine tr_V.callV (C_X6_count s2.2 M _ h4) yk_X6_count iv_X6_count ml_X6_328 shC_1 rfl ⟨rfl, Nat.le_of_ble_eq_true rfl⟩ rfl (Nat.le_of_ble_eq_true rfl) rfl dX6_digest_19 ?_
      refine tr_V.i2l dX6_digest_22 ?_
      refine tr_V.ladd dX6_digest_23 ?_
      refine tr_V.lstore_n (i := 1) dX6_digest_24 rfl (Nat.le_of_ble_eq_true rfl) rfl ?_
      refine tr_V.iinc (cst := (1 : Int32)) dX6_digest_25 rfl (by decide) rfl ?_
      refine tr_V.goto (tgt := 6) dX6_digest_28 (by decide) ?_
      exact tr_V.to (fun h => h) ⟨rfl, rfl, rfl, trivial⟩
  · intro v1
    refine tr_V.iconst (v := (0 : Int32)) dX6_digest_31 (by decide) ?_
    refine tr_V.istore_n (i := 3) dX6_digest_32 rfl (Nat.le_of_ble_eq_true rfl) rfl ?_
    refine tr_V.seq (τ := Int64) (pc' := 93) (L := fun v5 => [(0, some (.ref 1)), (1, some (.long v5))]) (S := fun v5 => []) (Mf := fun v5 => M) ?_ ?_
    · refine tr_V.loop (σ := Int64 × Int32) (step := mX6_digest_l33 M) (L := fun s6 => [(0, some (.ref 1)), (1, some (.long s6.1)), (3, some (.int s6.2))]) (Mf := fun s6 => M) ?_ (v1, (0 : Int32)) ⟨rfl, rfl, rfl, trivial⟩
      intro s6
      refine tr_V.iload_n (i := 3) dX6_digest_33 rfl rfl ?_
      refine tr_V.aload_n (i := 0) dX6_digest_34 rfl rfl ?_
      refine tr_V.getR (Nat.succ_pos _) fl_X6_43 shC_1 rfl dX6_digest_35 ?_
      refine tr_V.getI fl_X6_136 shC_26 rfl dX6_digest_38 ?_
      refine tr_V.icmp_ge (tgt := 93) dX6_digest_41 (by decide) ?_ ?_
      · refine tr_V.iload_n (i := 3) dX6_digest_44 rfl rfl ?_
        refine tr_V.iconst (v := (1 : Int32)) dX6_digest_45 (by decide) ?_
        refine tr_V.iadd dX6_digest_46 ?_
        refine tr_V.istore (i := 4) dX6_digest_47 (Nat.le_of_ble_eq_true rfl) rfl ?_
        refine tr_V.loop (σ := Int64 × Int32) (step := mX6_digest_l49 M s6) (L := fun s7 => [(0, some (.ref 1)), (1, some (.long s7.1)), (3, some (.int s6.2)), (4, some (.int s7.2))]) (Mf := fun s7 => M) ?_ (s6.1, (s6.2 + (1 : Int32))) ⟨rfl, rfl, rfl, rfl, trivial⟩
        intro s7
        refine tr_V.iload dX6_digest_49 rfl ?_
        refine tr_V.aload_n (i := 0) dX6_digest_51 rfl rfl ?_
        refine tr_V.getR (Nat.succ_pos _) fl_X6_43 shC_1 rfl dX6_digest_52 ?_
        refine tr_V.getI fl_X6_136 shC_26 rfl dX6_digest_55 ?_
        refine tr_V.icmp_ge (tgt := 87) dX6_digest_58 (by decide) ?_ ?_
        · refine tr_V.ldc2 ct_X6_326 dX6_digest_61 ?_
          refine tr_V.lload_n (i := 1) dX6_digest_64 rfl rfl ?_
          refine tr_V.lmul dX6_digest_65 ?_
          refine tr_V.aload_n (i := 0) dX6_digest_66 rfl rfl ?_
          refine tr_V.getR (Nat.succ_pos _) fl_X6_43 shC_1 rfl dX6_digest_67 ?_
          refine tr_V.getR (Nat.succ_pos _) fl_X6_142 shC_26 rfl dX6_digest_70 ?_
          refine tr_V.iload_n (i := 3) dX6_digest_73 rfl rfl ?_
          refine tr_V.bd (fun r8 h9 => ?_)
          refine tr_V.aald (ty := .array .int) h9 shC_27 (tr_ra_pos h9 (by omega)) (fun _ => rfl) rfl dX6_digest_74 ?_
          refine tr_V.iload dX6_digest_75 rfl ?_
          refine tr_V.bd (fun a10 h11 => ?_)
          refine tr_V.iald h11 (shW_in isW_26 h9) dX6_digest_77 ?_
          refine tr_V.i2l dX6_digest_78 ?_
          refine tr_V.ladd dX6_digest_79 ?_
          refine tr_V.lstore_n (i := 1) dX6_digest_80 rfl (Nat.le_of_ble_eq_true rfl) rfl ?_
          refine tr_V.iinc (cst := (1 : Int32)) dX6_digest_81 rfl (by decide) rfl ?_
          refine tr_V.goto (tgt := 49) dX6_digest_84 (by decide) ?_
          exact tr_V.to (fun h => h) ⟨rfl, rfl, rfl, rfl, trivial⟩
        · refine tr_V.iinc (cst := (1 : Int32)) dX6_digest_87 rfl (by decide) rfl ?_
          refine tr_V.goto (tgt := 33) dX6_digest_90 (by decide) ?_
          exact tr_V.to (fun h => h) ⟨rfl, rfl, rfl, trivial⟩
      · exact tr_V.to (fun h => h) ⟨rfl, rfl, trivial⟩
    · intro v5
      refine tr_V.iconst (v := (0 : Int32)) dX6_digest_93 (by decide) ?_
      refine tr_V.istore_n (i := 3) dX6_digest_94 rfl (Nat.le_of_ble_eq_true rfl) rfl ?_
      refine tr_V.seq (τ := Int64) (pc' := 145) (L := fun v12 => [(0, some (.ref 1)), (1, some (.long v12))]) (S := fun v12 => []) (Mf := fun v12 => M) ?_ ?_
      · refine tr_V.loop (σ := Int64 × Int32) (step := mX6_digest_l95 M) (L := fun s13 => [(0, some (.ref 1)), (1, some (.long s13.1)), (3, some (.int s13.2))]) (Mf := fun s13 => M) ?_ (v5, (0 : Int32)) ⟨rfl, rfl, rfl, trivial⟩
        intro s13
        refine tr_V.iload_n (i := 3) dX6_digest_95 rfl rfl ?_
        refine tr_V.aload_n (i := 0) dX6_digest_96 rfl rfl ?_
        refine tr_V.getR (Nat.succ_pos _) fl_X6_43 shC_1 rfl dX6_digest_97 ?_
        refine tr_V.getI fl_X6_154 shC_26 rfl dX6_digest_100 ?_
        refine tr_V.icmp_ge (tgt := 145) dX6_digest_103 (by decide) ?_ ?_
        · refine tr_V.iconst (v := (0 : Int32)) dX6_digest_106 (by decide) ?_
          refine tr_V.istore (i := 4) dX6_digest_107 (Nat.le_of_ble_eq_true rfl) rfl ?_
          refine tr_V.loop (σ := Int64 × Int32) (step := mX6_digest_l109 M s13) (L := fun s14 => [(0, some (.ref 1)), (1, some (.long s14.1)), (3, some (.int s13.2)), (4, some (.int s14.2))]) (Mf := fun s14 => M) ?_ (s13.1, (0 : Int32)) ⟨rfl, rfl, rfl, rfl, trivial⟩
          intro s14
          refine tr_V.iload dX6_digest_109 rfl ?_
          refine tr_V.iconst (v := (4 : Int32)) dX6_digest_111 (by decide) ?_
          refine tr_V.icmp_gt (tgt := 139) dX6_digest_112 (by decide) ?_ ?_
          · refine tr_V.iinc (cst := (1 : Int32)) dX6_digest_139 rfl (by decide) rfl ?_
            refine tr_V.goto (tgt := 95) dX6_digest_142 (by decide) ?_
            exact tr_V.to (fun h => h) ⟨rfl, rfl, rfl, trivial⟩
          · refine tr_V.ldc2 ct_X6_326 dX6_digest_115 ?_
            refine tr_V.lload_n (i := 1) dX6_digest_118 rfl rfl ?_
            refine tr_V.lmul dX6_digest_119 ?_
            refine tr_V.aload_n (i := 0) dX6_digest_120 rfl rfl ?_
            refine tr_V.getR (Nat.succ_pos _) fl_X6_43 shC_1 rfl dX6_digest_121 ?_
            refine tr_V.iload_n (i := 3) dX6_digest_124 rfl rfl ?_
            refine tr_V.iload dX6_digest_125 rfl ?_
            refine tr_V.bd (fun c15 h16 => ?_)
            refine tr_V.callV (C_X5_ruleNumber 26 isW_26 s13.2 s14.2 M _ h16) yk_X5_ruleNumber iv_X5_ruleNumber ml_X6_174 shC_26 rfl ⟨rfl, Nat.le_of_ble_eq_true rfl⟩ rfl (Nat.le_of_ble_eq_true rfl) rfl dX6_digest_127 ?_
            refine tr_V.i2l dX6_digest_130 ?_
            refine tr_V.ladd dX6_digest_131 ?_
            refine tr_V.lstore_n (i := 1) dX6_digest_132 rfl (Nat.le_of_ble_eq_true rfl) rfl ?_
            refine tr_V.iinc (cst := (1 : Int32)) dX6_digest_133 rfl (by decide) rfl ?_
            refine tr_V.goto (tgt := 109) dX6_digest_136 (by decide) ?_
            exact tr_V.to (fun h => h) ⟨rfl, rfl, rfl, rfl, trivial⟩
        · exact tr_V.to (fun h => h) ⟨rfl, rfl, trivial⟩
      · intro v12
        refine tr_V.aload_n (i := 0) dX6_digest_145 rfl rfl ?_
        refine tr_V.getR (Nat.succ_pos _) fl_X6_11 shC_1 rfl dX6_digest_146 ?_
        refine tr_V.lload_n (i := 1) dX6_digest_149 rfl rfl ?_
        refine tr_V.bd (fun c17 h18 => ?_)
        refine tr_V.callS (C_X6_digestOf_2 v12 M _ h18) yk_X6_digestOf sc_X6_digestOf ml_X6_331 ⟨rfl, Nat.le_of_ble_eq_true rfl⟩ rfl (Nat.le_of_ble_eq_true rfl) rfl dX6_digest_150 ?_
        refine tr_V.lstore_n (i := 1) dX6_digest_153 rfl (Nat.le_of_ble_eq_true rfl) rfl ?_
        refine tr_V.aload_n (i := 0) dX6_digest_154 rfl rfl ?_
        refine tr_V.getR (Nat.succ_pos _) fl_X6_15 shC_1 rfl dX6_digest_155 ?_
        refine tr_V.lload_n (i := 1) dX6_digest_158 rfl rfl ?_
        refine tr_V.bd (fun c19 h20 => ?_)
        refine tr_V.callS (C_X6_digestOf_3 c17 M _ h20) yk_X6_digestOf sc_X6_digestOf ml_X6_331 ⟨rfl, Nat.le_of_ble_eq_true rfl⟩ rfl (Nat.le_of_ble_eq_true rfl) rfl dX6_digest_159 ?_
        exact tr_V.lret dX6_digest_162 rfl (fun h => h)
abbrev xX7_in : tr_X := (cX7_in, 3, RX7, (some .boolean), 1, shM, 24)
theorem cw_X7_in : Cond.code yX7_in cX7_in 3 (some .boolean) ∈ tr_tbl := tr_in 1273 (by decide +kernel) rfl
theorem yk_X7_in : tr_yk yX7_in (xX7_in) 3 := ⟨cw_X7_in, in_X7, ⟨by decide +kernel, by decide +kernel, by decide +kernel⟩, Nat.le_of_ble_eq_true rfl⟩
theorem sc_X7_in : Cond.static yX7_in ∈ tr_tbl := tr_in 1272 (by decide +kernel) rfl
def mX7_in' (p0 : Int32) (p1 : Int32) (p2 : Int32) : Option Int32 :=
  if p0 < p1 then (
    some (0 : Int32)
  ) else (
    if p2 < p0 then (
      some (0 : Int32)
    ) else (
      some (1 : Int32)
    )
  )
def mX7_in (p0 : Int32) (p1 : Int32) (p2 : Int32) : Int32 :=
  if p0 < p1 then (
    (0 : Int32)
  ) else (
    if p2 < p0 then (
      (0 : Int32)
    ) else (
      (1 : Int32)
    )
  )
theorem mX7_in_eq (p0 : Int32) (p1 : Int32) (p2 : Int32) : mX7_in' p0 p1 p2 = some (mX7_in p0 p1 p2) := by
  unfold mX7_in' mX7_in
  repeat' split
  all_goals rfl
set_option maxRecDepth 100000 in
set_option maxHeartbeats 4000000 in
theorem C_X7_in (p0 : Int32) (p1 : Int32) (p2 : Int32) (M : tr_M) : tr_I yX7_in (xX7_in) [.int p0, .int p1, .int p2] M (some (.int (mX7_in p0 p1 p2))) M := by
  refine tr_I.of (Z := fun q : Int32 => (some (.int (mX7_in p0 p1 p2)) : Option Value) = some (.int q) ∧ M = M) pn_X7 rfl gdM (Nat.le_of_ble_eq_true rfl) (fun Wt => ?_) (mX7_in_eq p0 p1 p2) ⟨rfl, rfl⟩
  unfold mX7_in'
  refine tr_V.iload_n (i := 0) dX7_in_0 rfl rfl ?_
  refine tr_V.iload_n (i := 1) dX7_in_1 rfl rfl ?_
  refine tr_V.icmp_lt (tgt := 14) dX7_in_2 (by decide) ?_ ?_
  · refine tr_V.iconst (v := (0 : Int32)) dX7_in_14 (by decide) ?_
    exact tr_V.zret (by decide) dX7_in_15 rfl (fun h => h)
  · refine tr_V.iload_n (i := 0) dX7_in_5 rfl rfl ?_
    refine tr_V.iload_n (i := 2) dX7_in_6 rfl rfl ?_
    refine tr_V.icmp_gt (tgt := 14) dX7_in_7 (by decide) ?_ ?_
    · refine tr_V.iconst (v := (0 : Int32)) dX7_in_14 (by decide) ?_
      exact tr_V.zret (by decide) dX7_in_15 rfl (fun h => h)
    · refine tr_V.iconst (v := (1 : Int32)) dX7_in_10 (by decide) ?_
      refine tr_V.goto (tgt := 15) dX7_in_11 (by decide) ?_
      exact tr_V.zret (by decide) dX7_in_15 rfl (fun h => h)
abbrev xX7_has : tr_X := (cX7_has, 2, RX7, (some .boolean), 1, shM, 24)
theorem cw_X7_has : Cond.code yX7_has cX7_has 2 (some .boolean) ∈ tr_tbl := tr_in 1439 (by decide +kernel) rfl
theorem yk_X7_has : tr_yk yX7_has (xX7_has) 2 := ⟨cw_X7_has, in_X7, ⟨by decide +kernel, by decide +kernel, by decide +kernel⟩, Nat.le_of_ble_eq_true rfl⟩
theorem sc_X7_has : Cond.static yX7_has ∈ tr_tbl := tr_in 1438 (by decide +kernel) rfl
def mX7_has' (p0 : Int32) (p1 : Int32) : Option Int32 :=
  if ((p0 >>> (p1 &&& 31)) &&& (1 : Int32)) = (1 : Int32) then (
    some (1 : Int32)
  ) else (
    some (0 : Int32)
  )
def mX7_has (p0 : Int32) (p1 : Int32) : Int32 :=
  if ((p0 >>> (p1 &&& 31)) &&& (1 : Int32)) = (1 : Int32) then (
    (1 : Int32)
  ) else (
    (0 : Int32)
  )
theorem mX7_has_eq (p0 : Int32) (p1 : Int32) : mX7_has' p0 p1 = some (mX7_has p0 p1) := by
  unfold mX7_has' mX7_has
  repeat' split
  all_goals rfl
set_option maxRecDepth 100000 in
set_option maxHeartbeats 4000000 in
theorem C_X7_has (p0 : Int32) (p1 : Int32) (M : tr_M) : tr_I yX7_has (xX7_has) [.int p0, .int p1] M (some (.int (mX7_has p0 p1))) M := by
  refine tr_I.of (Z := fun q : Int32 => (some (.int (mX7_has p0 p1)) : Option Value) = some (.int q) ∧ M = M) pn_X7 rfl gdM (Nat.le_of_ble_eq_true rfl) (fun Wt => ?_) (mX7_has_eq p0 p1) ⟨rfl, rfl⟩
  unfold mX7_has'
  refine tr_V.iload_n (i := 0) dX7_has_0 rfl rfl ?_
  refine tr_V.iload_n (i := 1) dX7_has_1 rfl rfl ?_
  refine tr_V.ishr dX7_has_2 ?_
  refine tr_V.iconst (v := (1 : Int32)) dX7_has_3 (by decide) ?_
  refine tr_V.iand dX7_has_4 ?_
  refine tr_V.iconst (v := (1 : Int32)) dX7_has_5 (by decide) ?_
  refine tr_V.icmp_ne (tgt := 13) dX7_has_6 (by decide) ?_ ?_
  · refine tr_V.iconst (v := (1 : Int32)) dX7_has_9 (by decide) ?_
    refine tr_V.goto (tgt := 14) dX7_has_10 (by decide) ?_
    exact tr_V.zret (by decide) dX7_has_14 rfl (fun h => h)
  · refine tr_V.iconst (v := (0 : Int32)) dX7_has_13 (by decide) ?_
    exact tr_V.zret (by decide) dX7_has_14 rfl (fun h => h)
abbrev xX7_bits : tr_X := (cX7_bits, 3, RX7, (some .int), 1, shM, 24)
theorem cw_X7_bits : Cond.code yX7_bits cX7_bits 3 (some .int) ∈ tr_tbl := tr_in 1548 (by decide +kernel) rfl
theorem yk_X7_bits : tr_yk yX7_bits (xX7_bits) 1 := ⟨cw_X7_bits, in_X7, ⟨by decide +kernel, by decide +kernel, by decide +kernel⟩, Nat.le_of_ble_eq_true rfl⟩
theorem sc_X7_bits : Cond.static yX7_bits ∈ tr_tbl := tr_in 1547 (by decide +kernel) rfl
def mX7_bits_l4  (s1 : Int32 × Int32) : Option ((Int32 × Int32) ⊕ (Int32)) :=
  if s1.2 = 0 then (
    some (.inr s1.1)
  ) else (
    some (.inl ((s1.1 + (1 : Int32)), (s1.2 &&& (s1.2 - (1 : Int32)))))
  )
def mX7_bits (p0 : Int32) : Option (Int32) :=
  tr_loop (mX7_bits_l4) ((0 : Int32), p0)
set_option maxRecDepth 100000 in
set_option maxHeartbeats 4000000 in
theorem C_X7_bits (p0 : Int32) (M : tr_M) (r : Int32) (h : mX7_bits p0 = some r) : tr_I yX7_bits (xX7_bits) [.int p0] M (some (.int r)) M := by
  refine tr_I.of (Z := fun q : Int32 => (some (.int r) : Option Value) = some (.int q) ∧ M = M) pn_X7 rfl gdM (Nat.le_of_ble_eq_true rfl) (fun Wt => ?_) h ⟨rfl, rfl⟩
  unfold mX7_bits
  refine tr_V.iconst (v := (0 : Int32)) dX7_bits_0 (by decide) ?_
  refine tr_V.istore_n (i := 1) dX7_bits_1 rfl (Nat.le_of_ble_eq_true rfl) rfl ?_
  refine tr_V.iload_n (i := 0) dX7_bits_2 rfl rfl ?_
  refine tr_V.istore_n (i := 2) dX7_bits_3 rfl (Nat.le_of_ble_eq_true rfl) rfl ?_
  refine tr_V.loop (σ := Int32 × Int32) (step := mX7_bits_l4) (L := fun s1 => [(1, some (.int s1.1)), (2, some (.int s1.2))]) (Mf := fun s1 => M) ?_ ((0 : Int32), p0) ⟨rfl, rfl, trivial⟩
  intro s1
  refine tr_V.iload_n (i := 2) dX7_bits_4 rfl rfl ?_
  refine tr_V.if_eq (tgt := 20) dX7_bits_5 (by decide) ?_ ?_
  · refine tr_V.iload_n (i := 1) dX7_bits_20 rfl rfl ?_
    exact tr_V.iret dX7_bits_21 rfl (fun h => h)
  · refine tr_V.iinc (cst := (1 : Int32)) dX7_bits_8 rfl (by decide) rfl ?_
    refine tr_V.iload_n (i := 2) dX7_bits_11 rfl rfl ?_
    refine tr_V.iload_n (i := 2) dX7_bits_12 rfl rfl ?_
    refine tr_V.iconst (v := (1 : Int32)) dX7_bits_13 (by decide) ?_
    refine tr_V.isub dX7_bits_14 ?_
    refine tr_V.iand dX7_bits_15 ?_
    refine tr_V.istore_n (i := 2) dX7_bits_16 rfl (Nat.le_of_ble_eq_true rfl) rfl ?_
    refine tr_V.goto (tgt := 4) dX7_bits_17 (by decide) ?_
    exact tr_V.to (fun h => h) ⟨rfl, rfl, trivial⟩
abbrev xX7_lesser : tr_X := (cX7_lesser, 2, RX7, (some .int), 1, shM, 24)
theorem cw_X7_lesser : Cond.code yX7_lesser cX7_lesser 2 (some .int) ∈ tr_tbl := tr_in 1425 (by decide +kernel) rfl
theorem yk_X7_lesser : tr_yk yX7_lesser (xX7_lesser) 2 := ⟨cw_X7_lesser, in_X7, ⟨by decide +kernel, by decide +kernel, by decide +kernel⟩, Nat.le_of_ble_eq_true rfl⟩
theorem sc_X7_lesser : Cond.static yX7_lesser ∈ tr_tbl := tr_in 1424 (by decide +kernel) rfl
def mX7_lesser' (p0 : Int32) (p1 : Int32) : Option Int32 :=
  if p0 < p1 then (
    some p0
  ) else (
    some p1
  )
def mX7_lesser (p0 : Int32) (p1 : Int32) : Int32 :=
  if p0 < p1 then (
    p0
  ) else (
    p1
  )
theorem mX7_lesser_eq (p0 : Int32) (p1 : Int32) : mX7_lesser' p0 p1 = some (mX7_lesser p0 p1) := by
  unfold mX7_lesser' mX7_lesser
  repeat' split
  all_goals rfl
set_option maxRecDepth 100000 in
set_option maxHeartbeats 4000000 in
theorem C_X7_lesser (p0 : Int32) (p1 : Int32) (M : tr_M) : tr_I yX7_lesser (xX7_lesser) [.int p0, .int p1] M (some (.int (mX7_lesser p0 p1))) M := by
  refine tr_I.of (Z := fun q : Int32 => (some (.int (mX7_lesser p0 p1)) : Option Value) = some (.int q) ∧ M = M) pn_X7 rfl gdM (Nat.le_of_ble_eq_true rfl) (fun Wt => ?_) (mX7_lesser_eq p0 p1) ⟨rfl, rfl⟩
  unfold mX7_lesser'
  refine tr_V.iload_n (i := 0) dX7_lesser_0 rfl rfl ?_
  refine tr_V.iload_n (i := 1) dX7_lesser_1 rfl rfl ?_
  refine tr_V.icmp_ge (tgt := 9) dX7_lesser_2 (by decide) ?_ ?_
  · refine tr_V.iload_n (i := 0) dX7_lesser_5 rfl rfl ?_
    refine tr_V.goto (tgt := 10) dX7_lesser_6 (by decide) ?_
    exact tr_V.iret dX7_lesser_10 rfl (fun h => h)
  · refine tr_V.iload_n (i := 1) dX7_lesser_9 rfl rfl ?_
    exact tr_V.iret dX7_lesser_10 rfl (fun h => h)
abbrev xX7_greater : tr_X := (cX7_greater, 2, RX7, (some .int), 1, shM, 24)
theorem cw_X7_greater : Cond.code yX7_greater cX7_greater 2 (some .int) ∈ tr_tbl := tr_in 1454 (by decide +kernel) rfl
theorem yk_X7_greater : tr_yk yX7_greater (xX7_greater) 2 := ⟨cw_X7_greater, in_X7, ⟨by decide +kernel, by decide +kernel, by decide +kernel⟩, Nat.le_of_ble_eq_true rfl⟩
theorem sc_X7_greater : Cond.static yX7_greater ∈ tr_tbl := tr_in 1453 (by decide +kernel) rfl
def mX7_greater' (p0 : Int32) (p1 : Int32) : Option Int32 :=
  if p1 < p0 then (
    some p0
  ) else (
    some p1
  )
def mX7_greater (p0 : Int32) (p1 : Int32) : Int32 :=
  if p1 < p0 then (
    p0
  ) else (
    p1
  )
theorem mX7_greater_eq (p0 : Int32) (p1 : Int32) : mX7_greater' p0 p1 = some (mX7_greater p0 p1) := by
  unfold mX7_greater' mX7_greater
  repeat' split
  all_goals rfl
set_option maxRecDepth 100000 in
set_option maxHeartbeats 4000000 in
theorem C_X7_greater (p0 : Int32) (p1 : Int32) (M : tr_M) : tr_I yX7_greater (xX7_greater) [.int p0, .int p1] M (some (.int (mX7_greater p0 p1))) M := by
  refine tr_I.of (Z := fun q : Int32 => (some (.int (mX7_greater p0 p1)) : Option Value) = some (.int q) ∧ M = M) pn_X7 rfl gdM (Nat.le_of_ble_eq_true rfl) (fun Wt => ?_) (mX7_greater_eq p0 p1) ⟨rfl, rfl⟩
  unfold mX7_greater'
  refine tr_V.iload_n (i := 0) dX7_greater_0 rfl rfl ?_
  refine tr_V.iload_n (i := 1) dX7_greater_1 rfl rfl ?_
  refine tr_V.icmp_le (tgt := 9) dX7_greater_2 (by decide) ?_ ?_
  · refine tr_V.iload_n (i := 0) dX7_greater_5 rfl rfl ?_
    refine tr_V.goto (tgt := 10) dX7_greater_6 (by decide) ?_
    exact tr_V.iret dX7_greater_10 rfl (fun h => h)
  · refine tr_V.iload_n (i := 1) dX7_greater_9 rfl rfl ?_
    exact tr_V.iret dX7_greater_10 rfl (fun h => h)
abbrev xX7_meets : tr_X := (cX7_meets, 2, RX7, (some .int), 1, shM, 24)
theorem cw_X7_meets : Cond.code yX7_meets cX7_meets 2 (some .int) ∈ tr_tbl := tr_in 1296 (by decide +kernel) rfl
theorem yk_X7_meets : tr_yk yX7_meets (xX7_meets) 1 := ⟨cw_X7_meets, in_X7, ⟨by decide +kernel, by decide +kernel, by decide +kernel⟩, Nat.le_of_ble_eq_true rfl⟩
theorem iv_X7_meets : Cond.instanceMethod yX7_meets ∈ tr_tbl ∧ Cond.selects (yX7_meets).cls yX7_meets yX7_meets ∈ tr_tbl := ⟨tr_in 1295 (by decide +kernel) rfl, tr_in 58 (by decide +kernel) rfl⟩
def mX7_meets (p1 : Int32) (M : tr_M) : Option (Int32 × tr_M) :=
  Option.bind (some (tr_st M 1 0 p1)) (fun M1 =>
  Option.bind (tr_rd 6 M1 2 p1) (fun a3 =>
  Option.bind (tr_wr 6 M1 2 p1 (a3 + (1 : Int32))) (fun M5 =>
  some ((-3 : Int32), M5)
  )
  )
  )
set_option maxRecDepth 100000 in
set_option maxHeartbeats 4000000 in
theorem C_X7_meets (p1 : Int32) (M : tr_M) (r : Int32 × tr_M) (h : mX7_meets p1 M = some r) : tr_I yX7_meets (xX7_meets) [.ref 1, .int p1] M (some (.int r.1)) r.2 := by
  refine tr_I.of (Z := fun q : Int32 × tr_M => (some (.int r.1) : Option Value) = some (.int q.1) ∧ r.2 = q.2) pn_X7 rfl gdM (Nat.le_of_ble_eq_true rfl) (fun Wt => ?_) h ⟨rfl, rfl⟩
  unfold mX7_meets
  refine tr_V.aload_n (i := 0) dX7_meets_0 rfl rfl ?_
  refine tr_V.iload_n (i := 1) dX7_meets_1 rfl rfl ?_
  refine tr_V.bd (fun M1 h2 => ?_)
  refine tr_V.putI fl_X7_89 shM_1 rfl dX7_meets_2 h2 ?_
  refine tr_V.aload_n (i := 0) dX7_meets_5 rfl rfl ?_
  refine tr_V.getR (Nat.succ_pos _) fl_X7_7 shM_1 rfl dX7_meets_6 ?_
  refine tr_V.iload_n (i := 1) dX7_meets_9 rfl rfl ?_
  refine tr_V.dup2 rfl rfl dX7_meets_10 ?_
  refine tr_V.bd (fun a3 h4 => ?_)
  refine tr_V.iald h4 shM_2 dX7_meets_11 ?_
  refine tr_V.iconst (v := (1 : Int32)) dX7_meets_12 (by decide) ?_
  refine tr_V.iadd dX7_meets_13 ?_
  refine tr_V.bd (fun M5 h6 => ?_)
  refine tr_V.iast h6 shM_2 dX7_meets_14 ?_
  refine tr_V.bipush (v := (-3 : Int32)) dX7_meets_15 (by decide) ?_
  exact tr_V.iret dX7_meets_17 rfl (fun h => h)
abbrev xX7_finding : tr_X := (cX7_finding, 1, RX7, (some .int), 1, shM, 24)
theorem cw_X7_finding : Cond.code yX7_finding cX7_finding 1 (some .int) ∈ tr_tbl := tr_in 1266 (by decide +kernel) rfl
theorem yk_X7_finding : tr_yk yX7_finding (xX7_finding) 0 := ⟨cw_X7_finding, in_X7, ⟨by decide +kernel, by decide +kernel, by decide +kernel⟩, Nat.le_of_ble_eq_true rfl⟩
theorem iv_X7_finding : Cond.instanceMethod yX7_finding ∈ tr_tbl ∧ Cond.selects (yX7_finding).cls yX7_finding yX7_finding ∈ tr_tbl := ⟨tr_in 1264 (by decide +kernel) rfl, tr_in 1265 (by decide +kernel) rfl⟩
def mX7_finding'  (M : tr_M) : Option Int32 :=
  some (M.1 1 0)
def mX7_finding  (M : tr_M) : Int32 :=
  (M.1 1 0)
theorem mX7_finding_eq  (M : tr_M) : mX7_finding' M = some (mX7_finding M) := by
  unfold mX7_finding' mX7_finding
  rfl
set_option maxRecDepth 100000 in
set_option maxHeartbeats 4000000 in
theorem C_X7_finding  (M : tr_M) : tr_I yX7_finding (xX7_finding) [.ref 1] M (some (.int (mX7_finding M))) M := by
  refine tr_I.of (Z := fun q : Int32 => (some (.int (mX7_finding M)) : Option Value) = some (.int q) ∧ M = M) pn_X7 rfl gdM (Nat.le_of_ble_eq_true rfl) (fun Wt => ?_) (mX7_finding_eq M) ⟨rfl, rfl⟩
  unfold mX7_finding'
  refine tr_V.aload_n (i := 0) dX7_finding_0 rfl rfl ?_
  refine tr_V.getI fl_X7_89 shM_1 rfl dX7_finding_1 ?_
  exact tr_V.iret dX7_finding_4 rfl (fun h => h)
abbrev xX7_findings : tr_X := (cX7_findings, 2, RX7, (some .int), 2, shM, 24)
theorem cw_X7_findings : Cond.code yX7_findings cX7_findings 2 (some .int) ∈ tr_tbl := tr_in 1270 (by decide +kernel) rfl
theorem yk_X7_findings : tr_yk yX7_findings (xX7_findings) 1 := ⟨cw_X7_findings, in_X7, ⟨by decide +kernel, by decide +kernel, by decide +kernel⟩, Nat.le_of_ble_eq_true rfl⟩
theorem iv_X7_findings : Cond.instanceMethod yX7_findings ∈ tr_tbl ∧ Cond.selects (yX7_findings).cls yX7_findings yX7_findings ∈ tr_tbl := ⟨tr_in 1268 (by decide +kernel) rfl, tr_in 1269 (by decide +kernel) rfl⟩
def mX7_findings (p1 : Int32) (M : tr_M) : Option (Int32) :=
  if (mX7_in p1 (1 : Int32) (5 : Int32)) = 0 then (
    some (-1 : Int32)
  ) else (
    Option.bind (tr_rd 6 M 2 p1) (fun a3 =>
    some a3
    )
  )
set_option maxRecDepth 100000 in
set_option maxHeartbeats 4000000 in
theorem C_X7_findings (p1 : Int32) (M : tr_M) (r : Int32) (h : mX7_findings p1 M = some r) : tr_I yX7_findings (xX7_findings) [.ref 1, .int p1] M (some (.int r)) M := by
  refine tr_I.of (Z := fun q : Int32 => (some (.int r) : Option Value) = some (.int q) ∧ M = M) pn_X7 rfl gdM (Nat.le_of_ble_eq_true rfl) (fun Wt => ?_) h ⟨rfl, rfl⟩
  unfold mX7_findings
  refine tr_V.iload_n (i := 1) dX7_findings_0 rfl rfl ?_
  refine tr_V.iconst (v := (1 : Int32)) dX7_findings_1 (by decide) ?_
  refine tr_V.iconst (v := (5 : Int32)) dX7_findings_2 (by decide) ?_
  refine tr_V.callS (C_X7_in p1 (1 : Int32) (5 : Int32) M) yk_X7_in sc_X7_in ml_X7_92 ⟨rfl, Nat.le_of_ble_eq_true rfl⟩ rfl (Nat.le_of_ble_eq_true rfl) rfl dX7_findings_3 ?_
  refine tr_V.if_eq (tgt := 18) dX7_findings_6 (by decide) ?_ ?_
  · refine tr_V.iconst (v := (-1 : Int32)) dX7_findings_18 (by decide) ?_
    exact tr_V.iret dX7_findings_19 rfl (fun h => h)
  · refine tr_V.aload_n (i := 0) dX7_findings_9 rfl rfl ?_
    refine tr_V.getR (Nat.succ_pos _) fl_X7_7 shM_1 rfl dX7_findings_10 ?_
    refine tr_V.iload_n (i := 1) dX7_findings_13 rfl rfl ?_
    refine tr_V.bd (fun a3 h4 => ?_)
    refine tr_V.iald h4 shM_2 dX7_findings_14 ?_
    refine tr_V.goto (tgt := 19) dX7_findings_15 (by decide) ?_
    exact tr_V.iret dX7_findings_19 rfl (fun h => h)
abbrev xX7_tells : tr_X := (cX7_tells, 3, RX7, (some .int), 1, shM, 24)
theorem cw_X7_tells : Cond.code yX7_tells cX7_tells 3 (some .int) ∈ tr_tbl := tr_in 1308 (by decide +kernel) rfl
theorem yk_X7_tells : tr_yk yX7_tells (xX7_tells) 2 := ⟨cw_X7_tells, in_X7, ⟨by decide +kernel, by decide +kernel, by decide +kernel⟩, Nat.le_of_ble_eq_true rfl⟩
theorem iv_X7_tells : Cond.instanceMethod yX7_tells ∈ tr_tbl ∧ Cond.selects (yX7_tells).cls yX7_tells yX7_tells ∈ tr_tbl := ⟨tr_in 1307 (by decide +kernel) rfl, tr_in 60 (by decide +kernel) rfl⟩
def mX7_tells (p1 : Int32) (p2 : Int32) (M : tr_M) : Option (Int32 × tr_M) :=
  Option.bind (some (tr_st M 1 2 p1)) (fun M1 =>
  some (p2, M1)
  )
set_option maxRecDepth 100000 in
set_option maxHeartbeats 4000000 in
theorem C_X7_tells (p1 : Int32) (p2 : Int32) (M : tr_M) (r : Int32 × tr_M) (h : mX7_tells p1 p2 M = some r) : tr_I yX7_tells (xX7_tells) [.ref 1, .int p1, .int p2] M (some (.int r.1)) r.2 := by
  refine tr_I.of (Z := fun q : Int32 × tr_M => (some (.int r.1) : Option Value) = some (.int q.1) ∧ r.2 = q.2) pn_X7 rfl gdM (Nat.le_of_ble_eq_true rfl) (fun Wt => ?_) h ⟨rfl, rfl⟩
  unfold mX7_tells
  refine tr_V.aload_n (i := 0) dX7_tells_0 rfl rfl ?_
  refine tr_V.iload_n (i := 1) dX7_tells_1 rfl rfl ?_
  refine tr_V.bd (fun M1 h2 => ?_)
  refine tr_V.putI fl_X7_96 shM_1 rfl dX7_tells_2 h2 ?_
  refine tr_V.iload_n (i := 2) dX7_tells_5 rfl rfl ?_
  exact tr_V.iret dX7_tells_6 rfl (fun h => h)
abbrev xX7_asked : tr_X := (cX7_asked, 1, RX7, (some .int), 1, shM, 24)
theorem cw_X7_asked : Cond.code yX7_asked cX7_asked 1 (some .int) ∈ tr_tbl := tr_in 1277 (by decide +kernel) rfl
theorem yk_X7_asked : tr_yk yX7_asked (xX7_asked) 0 := ⟨cw_X7_asked, in_X7, ⟨by decide +kernel, by decide +kernel, by decide +kernel⟩, Nat.le_of_ble_eq_true rfl⟩
theorem iv_X7_asked : Cond.instanceMethod yX7_asked ∈ tr_tbl ∧ Cond.selects (yX7_asked).cls yX7_asked yX7_asked ∈ tr_tbl := ⟨tr_in 1275 (by decide +kernel) rfl, tr_in 1276 (by decide +kernel) rfl⟩
def mX7_asked'  (M : tr_M) : Option Int32 :=
  some (M.1 1 2)
def mX7_asked  (M : tr_M) : Int32 :=
  (M.1 1 2)
theorem mX7_asked_eq  (M : tr_M) : mX7_asked' M = some (mX7_asked M) := by
  unfold mX7_asked' mX7_asked
  rfl
set_option maxRecDepth 100000 in
set_option maxHeartbeats 4000000 in
theorem C_X7_asked  (M : tr_M) : tr_I yX7_asked (xX7_asked) [.ref 1] M (some (.int (mX7_asked M))) M := by
  refine tr_I.of (Z := fun q : Int32 => (some (.int (mX7_asked M)) : Option Value) = some (.int q) ∧ M = M) pn_X7 rfl gdM (Nat.le_of_ble_eq_true rfl) (fun Wt => ?_) (mX7_asked_eq M) ⟨rfl, rfl⟩
  unfold mX7_asked'
  refine tr_V.aload_n (i := 0) dX7_asked_0 rfl rfl ?_
  refine tr_V.getI fl_X7_96 shM_1 rfl dX7_asked_1 ?_
  exact tr_V.iret dX7_asked_4 rfl (fun h => h)
abbrev xX7_fraction : tr_X := (cX7_fraction, 12, RX7, (some .int), 1, shM, 24)
theorem cw_X7_fraction : Cond.code yX7_fraction cX7_fraction 12 (some .int) ∈ tr_tbl := tr_in 1668 (by decide +kernel) rfl
theorem yk_X7_fraction : tr_yk yX7_fraction (xX7_fraction) 3 := ⟨cw_X7_fraction, in_X7, ⟨by decide +kernel, by decide +kernel, by decide +kernel⟩, Nat.le_of_ble_eq_true rfl⟩
theorem iv_X7_fraction : Cond.instanceMethod yX7_fraction ∈ tr_tbl ∧ Cond.selects (yX7_fraction).cls yX7_fraction yX7_fraction ∈ tr_tbl := ⟨tr_in 1667 (by decide +kernel) rfl, tr_in 114 (by decide +kernel) rfl⟩
def mX7_fraction_l6  (s2 : Int64 × Int64) : Option ((Int64 × Int64) ⊕ (Int64)) :=
  if (lg_cmp s2.2 (0 : Int64)) = 0 then (
    some (.inr s2.1)
  ) else (
    Option.bind (tr_rml s2.1 s2.2) (fun q3 =>
    some (.inl (s2.2, q3))
    )
  )
def mX7_fraction (p1 : Int64) (p3 : Int64) (p5 : Int32) (M : tr_M) : Option (Int32 × tr_M) :=
  Option.bind (show Option (Int64) from
    tr_loop (mX7_fraction_l6) (p1, p3)
  ) (fun (v1 : Int64) =>
    Option.bind (tr_dvl p1 v1) (fun q4 =>
    Option.bind (some (tr_sl M 1 3 q4)) (fun M5 =>
    Option.bind (tr_dvl p3 v1) (fun q7 =>
    Option.bind (some (tr_sl M5 1 4 q7)) (fun M8 =>
    some (p5, M8)
    )
    )
    )
    )
  )
set_option maxRecDepth 100000 in
set_option maxHeartbeats 4000000 in
theorem C_X7_fraction (p1 : Int64) (p3 : Int64) (p5 : Int32) (M : tr_M) (r : Int32 × tr_M) (h : mX7_fraction p1 p3 p5 M = some r) : tr_I yX7_fraction (xX7_fraction) [.ref 1, .long p1, .long p3, .int p5] M (some (.int r.1)) r.2 := by
  refine tr_I.of (Z := fun q : Int32 × tr_M => (some (.int r.1) : Option Value) = some (.int q.1) ∧ r.2 = q.2) pn_X7 rfl gdM (Nat.le_of_ble_eq_true rfl) (fun Wt => ?_) h ⟨rfl, rfl⟩
  unfold mX7_fraction
  refine tr_V.lload_n (i := 1) dX7_fraction_0 rfl rfl ?_
  refine tr_V.lstore (i := 6) dX7_fraction_1 (Nat.le_of_ble_eq_true rfl) rfl ?_
  refine tr_V.lload_n (i := 3) dX7_fraction_3 rfl rfl ?_
  refine tr_V.lstore (i := 8) dX7_fraction_4 (Nat.le_of_ble_eq_true rfl) rfl ?_
  refine tr_V.seq (τ := Int64) (pc' := 31) (L := fun v1 => [(0, some (.ref 1)), (1, some (.long p1)), (3, some (.long p3)), (5, some (.int p5)), (6, some (.long v1))]) (S := fun v1 => []) (Mf := fun v1 => M) ?_ ?_
  · refine tr_V.loop (σ := Int64 × Int64) (step := mX7_fraction_l6) (L := fun s2 => [(0, some (.ref 1)), (1, some (.long p1)), (3, some (.long p3)), (5, some (.int p5)), (6, some (.long s2.1)), (8, some (.long s2.2))]) (Mf := fun s2 => M) ?_ (p1, p3) ⟨rfl, rfl, rfl, rfl, rfl, rfl, trivial⟩
    intro s2
    refine tr_V.lload dX7_fraction_6 rfl ?_
    refine tr_V.lconst (v := (0 : Int64)) dX7_fraction_8 (by decide) ?_
    refine tr_V.lcmp dX7_fraction_9 ?_
    refine tr_V.if_eq (tgt := 31) dX7_fraction_10 (by decide) ?_ ?_
    · exact tr_V.to (fun h => h) ⟨rfl, rfl, rfl, rfl, rfl, trivial⟩
    · refine tr_V.lload dX7_fraction_13 rfl ?_
      refine tr_V.lload dX7_fraction_15 rfl ?_
      refine tr_V.lrem dX7_fraction_17 (fun q3 => ?_)
      refine tr_V.lstore (i := 10) dX7_fraction_18 (Nat.le_of_ble_eq_true rfl) rfl ?_
      refine tr_V.lload dX7_fraction_20 rfl ?_
      refine tr_V.lstore (i := 6) dX7_fraction_22 (Nat.le_of_ble_eq_true rfl) rfl ?_
      refine tr_V.lload dX7_fraction_24 rfl ?_
      refine tr_V.lstore (i := 8) dX7_fraction_26 (Nat.le_of_ble_eq_true rfl) rfl ?_
      refine tr_V.goto (tgt := 6) dX7_fraction_28 (by decide) ?_
      exact tr_V.to (fun h => h) ⟨rfl, rfl, rfl, rfl, rfl, rfl, trivial⟩
  · intro v1
    refine tr_V.aload_n (i := 0) dX7_fraction_31 rfl rfl ?_
    refine tr_V.lload_n (i := 1) dX7_fraction_32 rfl rfl ?_
    refine tr_V.lload dX7_fraction_33 rfl ?_
    refine tr_V.ldiv dX7_fraction_35 (fun q4 => ?_)
    refine tr_V.bd (fun M5 h6 => ?_)
    refine tr_V.putJ fl_X7_99 shM_1 rfl dX7_fraction_36 h6 ?_
    refine tr_V.aload_n (i := 0) dX7_fraction_39 rfl rfl ?_
    refine tr_V.lload_n (i := 3) dX7_fraction_40 rfl rfl ?_
    refine tr_V.lload dX7_fraction_41 rfl ?_
    refine tr_V.ldiv dX7_fraction_43 (fun q7 => ?_)
    refine tr_V.bd (fun M8 h9 => ?_)
    refine tr_V.putJ fl_X7_81 shM_1 rfl dX7_fraction_44 h9 ?_
    refine tr_V.iload dX7_fraction_47 rfl ?_
    exact tr_V.iret dX7_fraction_49 rfl (fun h => h)
abbrev xX7_upper : tr_X := (cX7_upper, 1, RX7, (some .long), 1, shM, 24)
theorem cw_X7_upper : Cond.code yX7_upper cX7_upper 1 (some .long) ∈ tr_tbl := tr_in 1281 (by decide +kernel) rfl
theorem yk_X7_upper : tr_yk yX7_upper (xX7_upper) 0 := ⟨cw_X7_upper, in_X7, ⟨by decide +kernel, by decide +kernel, by decide +kernel⟩, Nat.le_of_ble_eq_true rfl⟩
theorem iv_X7_upper : Cond.instanceMethod yX7_upper ∈ tr_tbl ∧ Cond.selects (yX7_upper).cls yX7_upper yX7_upper ∈ tr_tbl := ⟨tr_in 1279 (by decide +kernel) rfl, tr_in 1280 (by decide +kernel) rfl⟩
def mX7_upper'  (M : tr_M) : Option Int64 :=
  some (M.2 1 3)
def mX7_upper  (M : tr_M) : Int64 :=
  (M.2 1 3)
theorem mX7_upper_eq  (M : tr_M) : mX7_upper' M = some (mX7_upper M) := by
  unfold mX7_upper' mX7_upper
  rfl
set_option maxRecDepth 100000 in
set_option maxHeartbeats 4000000 in
theorem C_X7_upper  (M : tr_M) : tr_I yX7_upper (xX7_upper) [.ref 1] M (some (.long (mX7_upper M))) M := by
  refine tr_I.of (Z := fun q : Int64 => (some (.long (mX7_upper M)) : Option Value) = some (.long q) ∧ M = M) pn_X7 rfl gdM (Nat.le_of_ble_eq_true rfl) (fun Wt => ?_) (mX7_upper_eq M) ⟨rfl, rfl⟩
  unfold mX7_upper'
  refine tr_V.aload_n (i := 0) dX7_upper_0 rfl rfl ?_
  refine tr_V.getJ fl_X7_99 shM_1 rfl dX7_upper_1 ?_
  exact tr_V.lret dX7_upper_4 rfl (fun h => h)
abbrev xX7_lower : tr_X := (cX7_lower, 1, RX7, (some .long), 1, shM, 24)
theorem cw_X7_lower : Cond.code yX7_lower cX7_lower 1 (some .long) ∈ tr_tbl := tr_in 1285 (by decide +kernel) rfl
theorem yk_X7_lower : tr_yk yX7_lower (xX7_lower) 0 := ⟨cw_X7_lower, in_X7, ⟨by decide +kernel, by decide +kernel, by decide +kernel⟩, Nat.le_of_ble_eq_true rfl⟩
theorem iv_X7_lower : Cond.instanceMethod yX7_lower ∈ tr_tbl ∧ Cond.selects (yX7_lower).cls yX7_lower yX7_lower ∈ tr_tbl := ⟨tr_in 1283 (by decide +kernel) rfl, tr_in 1284 (by decide +kernel) rfl⟩
def mX7_lower'  (M : tr_M) : Option Int64 :=
  some (M.2 1 4)
def mX7_lower  (M : tr_M) : Int64 :=
  (M.2 1 4)
theorem mX7_lower_eq  (M : tr_M) : mX7_lower' M = some (mX7_lower M) := by
  unfold mX7_lower' mX7_lower
  rfl
set_option maxRecDepth 100000 in
set_option maxHeartbeats 4000000 in
theorem C_X7_lower  (M : tr_M) : tr_I yX7_lower (xX7_lower) [.ref 1] M (some (.long (mX7_lower M))) M := by
  refine tr_I.of (Z := fun q : Int64 => (some (.long (mX7_lower M)) : Option Value) = some (.long q) ∧ M = M) pn_X7 rfl gdM (Nat.le_of_ble_eq_true rfl) (fun Wt => ?_) (mX7_lower_eq M) ⟨rfl, rfl⟩
  unfold mX7_lower'
  refine tr_V.aload_n (i := 0) dX7_lower_0 rfl rfl ?_
  refine tr_V.getJ fl_X7_81 shM_1 rfl dX7_lower_1 ?_
  exact tr_V.lret dX7_lower_4 rfl (fun h => h)
abbrev xX7_isRow : tr_X := (cX7_isRow, 1, RX7, (some .boolean), 2, shM, 24)
theorem cw_X7_isRow : Cond.code yX7_isRow cX7_isRow 1 (some .boolean) ∈ tr_tbl := tr_in 1292 (by decide +kernel) rfl
theorem yk_X7_isRow : tr_yk yX7_isRow (xX7_isRow) 1 := ⟨cw_X7_isRow, in_X7, ⟨by decide +kernel, by decide +kernel, by decide +kernel⟩, Nat.le_of_ble_eq_true rfl⟩
theorem sc_X7_isRow : Cond.static yX7_isRow ∈ tr_tbl := tr_in 1291 (by decide +kernel) rfl
def mX7_isRow (p0 : Int32) : Option (Int32) :=
  Option.bind (tr_gd ((mX7_in p0 (0 : Int32) (5 : Int32)) &&& 1 == (mX7_in p0 (0 : Int32) (5 : Int32)))) (fun _ => some (mX7_in p0 (0 : Int32) (5 : Int32)))
set_option maxRecDepth 100000 in
set_option maxHeartbeats 4000000 in
theorem C_X7_isRow (p0 : Int32) (M : tr_M) (r : Int32) (h : mX7_isRow p0 = some r) : tr_I yX7_isRow (xX7_isRow) [.int p0] M (some (.int r)) M := by
  refine tr_I.of (Z := fun q : Int32 => (some (.int r) : Option Value) = some (.int q) ∧ M = M) pn_X7 rfl gdM (Nat.le_of_ble_eq_true rfl) (fun Wt => ?_) h ⟨rfl, rfl⟩
  unfold mX7_isRow
  refine tr_V.iload_n (i := 0) dX7_isRow_0 rfl rfl ?_
  refine tr_V.iconst (v := (0 : Int32)) dX7_isRow_1 (by decide) ?_
  refine tr_V.iconst (v := (5 : Int32)) dX7_isRow_2 (by decide) ?_
  refine tr_V.callS (C_X7_in p0 (0 : Int32) (5 : Int32) M) yk_X7_in sc_X7_in ml_X7_92 ⟨rfl, Nat.le_of_ble_eq_true rfl⟩ rfl (Nat.le_of_ble_eq_true rfl) rfl dX7_isRow_3 ?_
  refine tr_V.gd (fun h3 => ?_)
  exact tr_V.zret h3 dX7_isRow_6 rfl (fun h => h)
abbrev xX7_rowAt : tr_X := (cX7_rowAt, 3, RX7, (some .int), 1, shM, 24)
theorem cw_X7_rowAt : Cond.code yX7_rowAt cX7_rowAt 3 (some .int) ∈ tr_tbl := tr_in 1304 (by decide +kernel) rfl
theorem yk_X7_rowAt : tr_yk yX7_rowAt (xX7_rowAt) 2 := ⟨cw_X7_rowAt, in_X7, ⟨by decide +kernel, by decide +kernel, by decide +kernel⟩, Nat.le_of_ble_eq_true rfl⟩
theorem iv_X7_rowAt : Cond.instanceMethod yX7_rowAt ∈ tr_tbl ∧ Cond.selects (yX7_rowAt).cls yX7_rowAt yX7_rowAt ∈ tr_tbl := ⟨tr_in 1303 (by decide +kernel) rfl, tr_in 59 (by decide +kernel) rfl⟩
def mX7_rowAt (p1 : Int32) (p2 : Int32) (M : tr_M) : Option (Int32) :=
  Option.bind (tr_rd 360 M 4 (((60 : Int32) * p1) + p2)) (fun a1 =>
  some a1
  )
set_option maxRecDepth 100000 in
set_option maxHeartbeats 4000000 in
theorem C_X7_rowAt (p1 : Int32) (p2 : Int32) (M : tr_M) (r : Int32) (h : mX7_rowAt p1 p2 M = some r) : tr_I yX7_rowAt (xX7_rowAt) [.ref 1, .int p1, .int p2] M (some (.int r)) M := by
  refine tr_I.of (Z := fun q : Int32 => (some (.int r) : Option Value) = some (.int q) ∧ M = M) pn_X7 rfl gdM (Nat.le_of_ble_eq_true rfl) (fun Wt => ?_) h ⟨rfl, rfl⟩
  unfold mX7_rowAt
  refine tr_V.aload_n (i := 0) dX7_rowAt_0 rfl rfl ?_
  refine tr_V.getR (Nat.succ_pos _) fl_X7_16 shM_1 rfl dX7_rowAt_1 ?_
  refine tr_V.bipush (v := (60 : Int32)) dX7_rowAt_4 (by decide) ?_
  refine tr_V.iload_n (i := 1) dX7_rowAt_6 rfl rfl ?_
  refine tr_V.imul dX7_rowAt_7 ?_
  refine tr_V.iload_n (i := 2) dX7_rowAt_8 rfl rfl ?_
  refine tr_V.iadd dX7_rowAt_9 ?_
  refine tr_V.bd (fun a1 h2 => ?_)
  refine tr_V.iald h2 shM_4 dX7_rowAt_10 ?_
  exact tr_V.iret dX7_rowAt_11 rfl (fun h => h)
abbrev xX7_row : tr_X := (cX7_row, 4, RX7, (some .int), 3, shM, 24)
theorem cw_X7_row : Cond.code yX7_row cX7_row 4 (some .int) ∈ tr_tbl := tr_in 1289 (by decide +kernel) rfl
theorem yk_X7_row : tr_yk yX7_row (xX7_row) 2 := ⟨cw_X7_row, in_X7, ⟨by decide +kernel, by decide +kernel, by decide +kernel⟩, Nat.le_of_ble_eq_true rfl⟩
theorem iv_X7_row : Cond.instanceMethod yX7_row ∈ tr_tbl ∧ Cond.selects (yX7_row).cls yX7_row yX7_row ∈ tr_tbl := ⟨tr_in 1287 (by decide +kernel) rfl, tr_in 1288 (by decide +kernel) rfl⟩
def mX7_row_l34 (p1 : Int32) (p2 : Int32) (s7 : Int32 × tr_M) : Option ((Int32 × tr_M) ⊕ (Int32 × tr_M)) :=
  if s7.1 < (60 : Int32) then (
    Option.bind (tr_wr 360 s7.2 4 (((60 : Int32) * p1) + s7.1) (0 : Int32)) (fun M8 =>
    some (.inl ((s7.1 + (1 : Int32)), M8))
    )
  ) else (
    some (.inr (p2, s7.2))
  )
def mX7_row (p1 : Int32) (p2 : Int32) (M : tr_M) : Option (Int32 × tr_M) :=
  Option.bind (mX7_isRow p1) (fun c1 =>
  if c1 = 0 then (
    some ((-1 : Int32), M)
  ) else (
    if (60 : Int32) < p2 then (
      some ((-1 : Int32), M)
    ) else (
      if p2 < 0 then (
        Option.bind (mX7_meets (5 : Int32) M) (fun c3 =>
        some (c3.1, c3.2)
        )
      ) else (
        Option.bind (tr_wr 6 M 3 p1 p2) (fun M5 =>
        tr_loop (mX7_row_l34 p1 p2) ((0 : Int32), M5)
        )
      )
    )
  )
  )
set_option maxRecDepth 100000 in
set_option maxHeartbeats 4000000 in
theorem C_X7_row (p1 : Int32) (p2 : Int32) (M : tr_M) (r : Int32 × tr_M) (h : mX7_row p1 p2 M = some r) : tr_I yX7_row (xX7_row) [.ref 1, .int p1, .int p2] M (some (.int r.1)) r.2 := by
  refine tr_I.of (Z := fun q : Int32 × tr_M => (some (.int r.1) : Option Value) = some (.int q.1) ∧ r.2 = q.2) pn_X7 rfl gdM (Nat.le_of_ble_eq_true rfl) (fun Wt => ?_) h ⟨rfl, rfl⟩
  unfold mX7_row
  refine tr_V.iload_n (i := 1) dX7_row_0 rfl rfl ?_
  refine tr_V.bd (fun c1 h2 => ?_)
  refine tr_V.callS (C_X7_isRow p1 M _ h2) yk_X7_isRow sc_X7_isRow ml_X7_102 ⟨rfl, Nat.le_of_ble_eq_true rfl⟩ rfl (Nat.le_of_ble_eq_true rfl) rfl dX7_row_1 ?_
  refine tr_V.if_eq (tgt := 13) dX7_row_4 (by decide) ?_ ?_
  · refine tr_V.iconst (v := (-1 : Int32)) dX7_row_13 (by decide) ?_
    exact tr_V.iret dX7_row_14 rfl (fun h => h)
  · refine tr_V.iload_n (i := 2) dX7_row_7 rfl rfl ?_
    refine tr_V.bipush (v := (60 : Int32)) dX7_row_8 (by decide) ?_
    refine tr_V.icmp_le (tgt := 15) dX7_row_10 (by decide) ?_ ?_
    · refine tr_V.iconst (v := (-1 : Int32)) dX7_row_13 (by decide) ?_
      exact tr_V.iret dX7_row_14 rfl (fun h => h)
    · refine tr_V.iload_n (i := 2) dX7_row_15 rfl rfl ?_
      refine tr_V.if_ge (tgt := 25) dX7_row_16 (by decide) ?_ ?_
      · refine tr_V.aload_n (i := 0) dX7_row_19 rfl rfl ?_
        refine tr_V.iconst (v := (5 : Int32)) dX7_row_20 (by decide) ?_
        refine tr_V.bd (fun c3 h4 => ?_)
        refine tr_V.callV (C_X7_meets (5 : Int32) M _ h4) yk_X7_meets iv_X7_meets ml_X7_106 shM_1 rfl ⟨rfl, Nat.le_of_ble_eq_true rfl⟩ rfl (Nat.le_of_ble_eq_true rfl) rfl dX7_row_21 ?_
        exact tr_V.iret dX7_row_24 rfl (fun h => h)
      · refine tr_V.aload_n (i := 0) dX7_row_25 rfl rfl ?_
        refine tr_V.getR (Nat.succ_pos _) fl_X7_13 shM_1 rfl dX7_row_26 ?_
        refine tr_V.iload_n (i := 1) dX7_row_29 rfl rfl ?_
        refine tr_V.iload_n (i := 2) dX7_row_30 rfl rfl ?_
        refine tr_V.bd (fun M5 h6 => ?_)
        refine tr_V.iast h6 shM_3 dX7_row_31 ?_
        refine tr_V.iconst (v := (0 : Int32)) dX7_row_32 (by decide) ?_
        refine tr_V.istore_n (i := 3) dX7_row_33 rfl (Nat.le_of_ble_eq_true rfl) rfl ?_
        refine tr_V.loop (σ := Int32 × tr_M) (step := mX7_row_l34 p1 p2) (L := fun s7 => [(0, some (.ref 1)), (1, some (.int p1)), (2, some (.int p2)), (3, some (.int s7.1))]) (Mf := fun s7 => s7.2) ?_ ((0 : Int32), M5) ⟨rfl, rfl, rfl, rfl, trivial⟩
        intro s7
        refine tr_V.iload_n (i := 3) dX7_row_34 rfl rfl ?_
        refine tr_V.bipush (v := (60 : Int32)) dX7_row_35 (by decide) ?_
        refine tr_V.icmp_ge (tgt := 58) dX7_row_37 (by decide) ?_ ?_
        · refine tr_V.aload_n (i := 0) dX7_row_40 rfl rfl ?_
          refine tr_V.getR (Nat.succ_pos _) fl_X7_16 shM_1 rfl dX7_row_41 ?_
          refine tr_V.bipush (v := (60 : Int32)) dX7_row_44 (by decide) ?_
          refine tr_V.iload_n (i := 1) dX7_row_46 rfl rfl ?_
          refine tr_V.imul dX7_row_47 ?_
          refine tr_V.iload_n (i := 3) dX7_row_48 rfl rfl ?_
          refine tr_V.iadd dX7_row_49 ?_
          refine tr_V.iconst (v := (0 : Int32)) dX7_row_50 (by decide) ?_
          refine tr_V.bd (fun M8 h9 => ?_)
          refine tr_V.iast h9 shM_4 dX7_row_51 ?_
          refine tr_V.iinc (cst := (1 : Int32)) dX7_row_52 rfl (by decide) rfl ?_
          refine tr_V.goto (tgt := 34) dX7_row_55 (by decide) ?_
          exact tr_V.to (fun h => h) ⟨rfl, rfl, rfl, rfl, trivial⟩
        · refine tr_V.iload_n (i := 2) dX7_row_58 rfl rfl ?_
          exact tr_V.iret dX7_row_59 rfl (fun h => h)
abbrev xX7_lay : tr_X := (cX7_lay, 5, RX7, (some .int), 3, shM, 24)
theorem cw_X7_lay : Cond.code yX7_lay cX7_lay 5 (some .int) ∈ tr_tbl := tr_in 1300 (by decide +kernel) rfl
theorem yk_X7_lay : tr_yk yX7_lay (xX7_lay) 3 := ⟨cw_X7_lay, in_X7, ⟨by decide +kernel, by decide +kernel, by decide +kernel⟩, Nat.le_of_ble_eq_true rfl⟩
theorem iv_X7_lay : Cond.instanceMethod yX7_lay ∈ tr_tbl ∧ Cond.selects (yX7_lay).cls yX7_lay yX7_lay ∈ tr_tbl := ⟨tr_in 1298 (by decide +kernel) rfl, tr_in 1299 (by decide +kernel) rfl⟩
def mX7_lay (p1 : Int32) (p2 : Int32) (p3 : Int32) (M : tr_M) : Option (Int32 × tr_M) :=
  Option.bind (mX7_isRow p1) (fun c1 =>
  if c1 = 0 then (
    some ((-1 : Int32), M)
  ) else (
    Option.bind (tr_rd 6 M 3 p1) (fun a3 =>
    if a3 < 0 then (
      Option.bind (mX7_meets (1 : Int32) M) (fun c5 =>
      some (c5.1, c5.2)
      )
    ) else (
      Option.bind (tr_rd 6 M 3 p1) (fun a7 =>
      if (mX7_in p2 (0 : Int32) (a7 - (1 : Int32))) = 0 then (
        Option.bind (mX7_meets (2 : Int32) M) (fun c11 =>
        some (c11.1, c11.2)
        )
      ) else (
        Option.bind (mX7_rowAt p1 p2 M) (fun c13 =>
        Option.bind (tr_wr 360 M 4 (((60 : Int32) * p1) + p2) p3) (fun M15 =>
        Option.bind (mX7_tells c13 (1 : Int32) M15) (fun c17 =>
        some (c17.1, c17.2)
        )
        )
        )
      )
      )
    )
    )
  )
  )
set_option maxRecDepth 100000 in
set_option maxHeartbeats 4000000 in
theorem C_X7_lay (p1 : Int32) (p2 : Int32) (p3 : Int32) (M : tr_M) (r : Int32 × tr_M) (h : mX7_lay p1 p2 p3 M = some r) : tr_I yX7_lay (xX7_lay) [.ref 1, .int p1, .int p2, .int p3] M (some (.int r.1)) r.2 := by
  refine tr_I.of (Z := fun q : Int32 × tr_M => (some (.int r.1) : Option Value) = some (.int q.1) ∧ r.2 = q.2) pn_X7 rfl gdM (Nat.le_of_ble_eq_true rfl) (fun Wt => ?_) h ⟨rfl, rfl⟩
  unfold mX7_lay
  refine tr_V.iload_n (i := 1) dX7_lay_0 rfl rfl ?_
  refine tr_V.bd (fun c1 h2 => ?_)
  refine tr_V.callS (C_X7_isRow p1 M _ h2) yk_X7_isRow sc_X7_isRow ml_X7_102 ⟨rfl, Nat.le_of_ble_eq_true rfl⟩ rfl (Nat.le_of_ble_eq_true rfl) rfl dX7_lay_1 ?_
  refine tr_V.if_ne (tgt := 9) dX7_lay_4 (by decide) ?_ ?_
  · refine tr_V.iconst (v := (-1 : Int32)) dX7_lay_7 (by decide) ?_
    exact tr_V.iret dX7_lay_8 rfl (fun h => h)
  · refine tr_V.aload_n (i := 0) dX7_lay_9 rfl rfl ?_
    refine tr_V.getR (Nat.succ_pos _) fl_X7_13 shM_1 rfl dX7_lay_10 ?_
    refine tr_V.iload_n (i := 1) dX7_lay_13 rfl rfl ?_
    refine tr_V.bd (fun a3 h4 => ?_)
    refine tr_V.iald h4 shM_3 dX7_lay_14 ?_
    refine tr_V.if_ge (tgt := 24) dX7_lay_15 (by decide) ?_ ?_
    · refine tr_V.aload_n (i := 0) dX7_lay_18 rfl rfl ?_
      refine tr_V.iconst (v := (1 : Int32)) dX7_lay_19 (by decide) ?_
      refine tr_V.bd (fun c5 h6 => ?_)
      refine tr_V.callV (C_X7_meets (1 : Int32) M _ h6) yk_X7_meets iv_X7_meets ml_X7_106 shM_1 rfl ⟨rfl, Nat.le_of_ble_eq_true rfl⟩ rfl (Nat.le_of_ble_eq_true rfl) rfl dX7_lay_20 ?_
      exact tr_V.iret dX7_lay_23 rfl (fun h => h)
    · refine tr_V.iload_n (i := 2) dX7_lay_24 rfl rfl ?_
      refine tr_V.iconst (v := (0 : Int32)) dX7_lay_25 (by decide) ?_
      refine tr_V.aload_n (i := 0) dX7_lay_26 rfl rfl ?_
      refine tr_V.getR (Nat.succ_pos _) fl_X7_13 shM_1 rfl dX7_lay_27 ?_
      refine tr_V.iload_n (i := 1) dX7_lay_30 rfl rfl ?_
      refine tr_V.bd (fun a7 h8 => ?_)
      refine tr_V.iald h8 shM_3 dX7_lay_31 ?_
      refine tr_V.iconst (v := (1 : Int32)) dX7_lay_32 (by decide) ?_
      refine tr_V.isub dX7_lay_33 ?_
      refine tr_V.callS (C_X7_in p2 (0 : Int32) (a7 - (1 : Int32)) M) yk_X7_in sc_X7_in ml_X7_92 ⟨rfl, Nat.le_of_ble_eq_true rfl⟩ rfl (Nat.le_of_ble_eq_true rfl) rfl dX7_lay_34 ?_
      refine tr_V.if_ne (tgt := 46) dX7_lay_37 (by decide) ?_ ?_
      · refine tr_V.aload_n (i := 0) dX7_lay_40 rfl rfl ?_
        refine tr_V.iconst (v := (2 : Int32)) dX7_lay_41 (by decide) ?_
        refine tr_V.bd (fun c11 h12 => ?_)
        refine tr_V.callV (C_X7_meets (2 : Int32) M _ h12) yk_X7_meets iv_X7_meets ml_X7_106 shM_1 rfl ⟨rfl, Nat.le_of_ble_eq_true rfl⟩ rfl (Nat.le_of_ble_eq_true rfl) rfl dX7_lay_42 ?_
        exact tr_V.iret dX7_lay_45 rfl (fun h => h)
      · refine tr_V.aload_n (i := 0) dX7_lay_46 rfl rfl ?_
        refine tr_V.iload_n (i := 1) dX7_lay_47 rfl rfl ?_
        refine tr_V.iload_n (i := 2) dX7_lay_48 rfl rfl ?_
        refine tr_V.bd (fun c13 h14 => ?_)
        refine tr_V.callV (C_X7_rowAt p1 p2 M _ h14) yk_X7_rowAt iv_X7_rowAt ml_X7_110 shM_1 rfl ⟨rfl, Nat.le_of_ble_eq_true rfl⟩ rfl (Nat.le_of_ble_eq_true rfl) rfl dX7_lay_49 ?_
        refine tr_V.istore (i := 4) dX7_lay_52 (Nat.le_of_ble_eq_true rfl) rfl ?_
        refine tr_V.aload_n (i := 0) dX7_lay_54 rfl rfl ?_
        refine tr_V.getR (Nat.succ_pos _) fl_X7_16 shM_1 rfl dX7_lay_55 ?_
        refine tr_V.bipush (v := (60 : Int32)) dX7_lay_58 (by decide) ?_
        refine tr_V.iload_n (i := 1) dX7_lay_60 rfl rfl ?_
        refine tr_V.imul dX7_lay_61 ?_
        refine tr_V.iload_n (i := 2) dX7_lay_62 rfl rfl ?_
        refine tr_V.iadd dX7_lay_63 ?_
        refine tr_V.iload_n (i := 3) dX7_lay_64 rfl rfl ?_
        refine tr_V.bd (fun M15 h16 => ?_)
        refine tr_V.iast h16 shM_4 dX7_lay_65 ?_
        refine tr_V.aload_n (i := 0) dX7_lay_66 rfl rfl ?_
        refine tr_V.iload dX7_lay_67 rfl ?_
        refine tr_V.iconst (v := (1 : Int32)) dX7_lay_69 (by decide) ?_
        refine tr_V.bd (fun c17 h18 => ?_)
        refine tr_V.callV (C_X7_tells c13 (1 : Int32) M15 _ h18) yk_X7_tells iv_X7_tells ml_X7_114 shM_1 rfl ⟨rfl, Nat.le_of_ble_eq_true rfl⟩ rfl (Nat.le_of_ble_eq_true rfl) rfl dX7_lay_70 ?_
        exact tr_V.iret dX7_lay_73 rfl (fun h => h)
abbrev xX7_at : tr_X := (cX7_at, 3, RX7, (some .int), 3, shM, 24)
theorem cw_X7_at : Cond.code yX7_at cX7_at 3 (some .int) ∈ tr_tbl := tr_in 1312 (by decide +kernel) rfl
theorem yk_X7_at : tr_yk yX7_at (xX7_at) 2 := ⟨cw_X7_at, in_X7, ⟨by decide +kernel, by decide +kernel, by decide +kernel⟩, Nat.le_of_ble_eq_true rfl⟩
theorem iv_X7_at : Cond.instanceMethod yX7_at ∈ tr_tbl ∧ Cond.selects (yX7_at).cls yX7_at yX7_at ∈ tr_tbl := ⟨tr_in 1310 (by decide +kernel) rfl, tr_in 1311 (by decide +kernel) rfl⟩
def mX7_at (p1 : Int32) (p2 : Int32) (M : tr_M) : Option (Int32 × tr_M) :=
  Option.bind (mX7_isRow p1) (fun c1 =>
  if c1 = 0 then (
    some ((-1 : Int32), M)
  ) else (
    Option.bind (tr_rd 6 M 3 p1) (fun a3 =>
    if a3 < 0 then (
      Option.bind (mX7_meets (1 : Int32) M) (fun c5 =>
      some (c5.1, c5.2)
      )
    ) else (
      Option.bind (tr_rd 6 M 3 p1) (fun a7 =>
      if (mX7_in p2 (0 : Int32) (a7 - (1 : Int32))) = 0 then (
        Option.bind (mX7_meets (2 : Int32) M) (fun c11 =>
        some (c11.1, c11.2)
        )
      ) else (
        Option.bind (mX7_rowAt p1 p2 M) (fun c13 =>
        Option.bind (mX7_tells c13 (1 : Int32) M) (fun c15 =>
        some (c15.1, c15.2)
        )
        )
      )
      )
    )
    )
  )
  )
set_option maxRecDepth 100000 in
set_option maxHeartbeats 4000000 in
theorem C_X7_at (p1 : Int32) (p2 : Int32) (M : tr_M) (r : Int32 × tr_M) (h : mX7_at p1 p2 M = some r) : tr_I yX7_at (xX7_at) [.ref 1, .int p1, .int p2] M (some (.int r.1)) r.2 := by
  refine tr_I.of (Z := fun q : Int32 × tr_M => (some (.int r.1) : Option Value) = some (.int q.1) ∧ r.2 = q.2) pn_X7 rfl gdM (Nat.le_of_ble_eq_true rfl) (fun Wt => ?_) h ⟨rfl, rfl⟩
  unfold mX7_at
  refine tr_V.iload_n (i := 1) dX7_at_0 rfl rfl ?_
  refine tr_V.bd (fun c1 h2 => ?_)
  refine tr_V.callS (C_X7_isRow p1 M _ h2) yk_X7_isRow sc_X7_isRow ml_X7_102 ⟨rfl, Nat.le_of_ble_eq_true rfl⟩ rfl (Nat.le_of_ble_eq_true rfl) rfl dX7_at_1 ?_
  refine tr_V.if_ne (tgt := 9) dX7_at_4 (by decide) ?_ ?_
  · refine tr_V.iconst (v := (-1 : Int32)) dX7_at_7 (by decide) ?_
    exact tr_V.iret dX7_at_8 rfl (fun h => h)
  · refine tr_V.aload_n (i := 0) dX7_at_9 rfl rfl ?_
    refine tr_V.getR (Nat.succ_pos _) fl_X7_13 shM_1 rfl dX7_at_10 ?_
    refine tr_V.iload_n (i := 1) dX7_at_13 rfl rfl ?_
    refine tr_V.bd (fun a3 h4 => ?_)
    refine tr_V.iald h4 shM_3 dX7_at_14 ?_
    refine tr_V.if_ge (tgt := 24) dX7_at_15 (by decide) ?_ ?_
    · refine tr_V.aload_n (i := 0) dX7_at_18 rfl rfl ?_
      refine tr_V.iconst (v := (1 : Int32)) dX7_at_19 (by decide) ?_
      refine tr_V.bd (fun c5 h6 => ?_)
      refine tr_V.callV (C_X7_meets (1 : Int32) M _ h6) yk_X7_meets iv_X7_meets ml_X7_106 shM_1 rfl ⟨rfl, Nat.le_of_ble_eq_true rfl⟩ rfl (Nat.le_of_ble_eq_true rfl) rfl dX7_at_20 ?_
      exact tr_V.iret dX7_at_23 rfl (fun h => h)
    · refine tr_V.iload_n (i := 2) dX7_at_24 rfl rfl ?_
      refine tr_V.iconst (v := (0 : Int32)) dX7_at_25 (by decide) ?_
      refine tr_V.aload_n (i := 0) dX7_at_26 rfl rfl ?_
      refine tr_V.getR (Nat.succ_pos _) fl_X7_13 shM_1 rfl dX7_at_27 ?_
      refine tr_V.iload_n (i := 1) dX7_at_30 rfl rfl ?_
      refine tr_V.bd (fun a7 h8 => ?_)
      refine tr_V.iald h8 shM_3 dX7_at_31 ?_
      refine tr_V.iconst (v := (1 : Int32)) dX7_at_32 (by decide) ?_
      refine tr_V.isub dX7_at_33 ?_
      refine tr_V.callS (C_X7_in p2 (0 : Int32) (a7 - (1 : Int32)) M) yk_X7_in sc_X7_in ml_X7_92 ⟨rfl, Nat.le_of_ble_eq_true rfl⟩ rfl (Nat.le_of_ble_eq_true rfl) rfl dX7_at_34 ?_
      refine tr_V.if_eq (tgt := 54) dX7_at_37 (by decide) ?_ ?_
      · refine tr_V.aload_n (i := 0) dX7_at_54 rfl rfl ?_
        refine tr_V.iconst (v := (2 : Int32)) dX7_at_55 (by decide) ?_
        refine tr_V.bd (fun c11 h12 => ?_)
        refine tr_V.callV (C_X7_meets (2 : Int32) M _ h12) yk_X7_meets iv_X7_meets ml_X7_106 shM_1 rfl ⟨rfl, Nat.le_of_ble_eq_true rfl⟩ rfl (Nat.le_of_ble_eq_true rfl) rfl dX7_at_56 ?_
        exact tr_V.iret dX7_at_59 rfl (fun h => h)
      · refine tr_V.aload_n (i := 0) dX7_at_40 rfl rfl ?_
        refine tr_V.aload_n (i := 0) dX7_at_41 rfl rfl ?_
        refine tr_V.iload_n (i := 1) dX7_at_42 rfl rfl ?_
        refine tr_V.iload_n (i := 2) dX7_at_43 rfl rfl ?_
        refine tr_V.bd (fun c13 h14 => ?_)
        refine tr_V.callV (C_X7_rowAt p1 p2 M _ h14) yk_X7_rowAt iv_X7_rowAt ml_X7_110 shM_1 rfl ⟨rfl, Nat.le_of_ble_eq_true rfl⟩ rfl (Nat.le_of_ble_eq_true rfl) rfl dX7_at_44 ?_
        refine tr_V.iconst (v := (1 : Int32)) dX7_at_47 (by decide) ?_
        refine tr_V.bd (fun c15 h16 => ?_)
        refine tr_V.callV (C_X7_tells c13 (1 : Int32) M _ h16) yk_X7_tells iv_X7_tells ml_X7_114 shM_1 rfl ⟨rfl, Nat.le_of_ble_eq_true rfl⟩ rfl (Nat.le_of_ble_eq_true rfl) rfl dX7_at_48 ?_
        refine tr_V.goto (tgt := 59) dX7_at_51 (by decide) ?_
        exact tr_V.iret dX7_at_59 rfl (fun h => h)
abbrev xX7_tear : tr_X := (cX7_tear, 2, RX7, (some .int), 3, shM, 24)
theorem cw_X7_tear : Cond.code yX7_tear cX7_tear 2 (some .int) ∈ tr_tbl := tr_in 1316 (by decide +kernel) rfl
theorem yk_X7_tear : tr_yk yX7_tear (xX7_tear) 1 := ⟨cw_X7_tear, in_X7, ⟨by decide +kernel, by decide +kernel, by decide +kernel⟩, Nat.le_of_ble_eq_true rfl⟩
theorem iv_X7_tear : Cond.instanceMethod yX7_tear ∈ tr_tbl ∧ Cond.selects (yX7_tear).cls yX7_tear yX7_tear ∈ tr_tbl := ⟨tr_in 1314 (by decide +kernel) rfl, tr_in 1315 (by decide +kernel) rfl⟩
def mX7_tear (p1 : Int32) (M : tr_M) : Option (Int32 × tr_M) :=
  Option.bind (mX7_isRow p1) (fun c1 =>
  if c1 = 0 then (
    some ((-1 : Int32), M)
  ) else (
    Option.bind (tr_rd 6 M 3 p1) (fun a3 =>
    if a3 < 0 then (
      Option.bind (mX7_meets (1 : Int32) M) (fun c5 =>
      some (c5.1, c5.2)
      )
    ) else (
      Option.bind (tr_wr 6 M 3 p1 (-1 : Int32)) (fun M7 =>
      some ((1 : Int32), M7)
      )
    )
    )
  )
  )
set_option maxRecDepth 100000 in
set_option maxHeartbeats 4000000 in
theorem C_X7_tear (p1 : Int32) (M : tr_M) (r : Int32 × tr_M) (h : mX7_tear p1 M = some r) : tr_I yX7_tear (xX7_tear) [.ref 1, .int p1] M (some (.int r.1)) r.2 := by
  refine tr_I.of (Z := fun q : Int32 × tr_M => (some (.int r.1) : Option Value) = some (.int q.1) ∧ r.2 = q.2) pn_X7 rfl gdM (Nat.le_of_ble_eq_true rfl) (fun Wt => ?_) h ⟨rfl, rfl⟩
  unfold mX7_tear
  refine tr_V.iload_n (i := 1) dX7_tear_0 rfl rfl ?_
  refine tr_V.bd (fun c1 h2 => ?_)
  refine tr_V.callS (C_X7_isRow p1 M _ h2) yk_X7_isRow sc_X7_isRow ml_X7_102 ⟨rfl, Nat.le_of_ble_eq_true rfl⟩ rfl (Nat.le_of_ble_eq_true rfl) rfl dX7_tear_1 ?_
  refine tr_V.if_ne (tgt := 9) dX7_tear_4 (by decide) ?_ ?_
  · refine tr_V.iconst (v := (-1 : Int32)) dX7_tear_7 (by decide) ?_
    exact tr_V.iret dX7_tear_8 rfl (fun h => h)
  · refine tr_V.aload_n (i := 0) dX7_tear_9 rfl rfl ?_
    refine tr_V.getR (Nat.succ_pos _) fl_X7_13 shM_1 rfl dX7_tear_10 ?_
    refine tr_V.iload_n (i := 1) dX7_tear_13 rfl rfl ?_
    refine tr_V.bd (fun a3 h4 => ?_)
    refine tr_V.iald h4 shM_3 dX7_tear_14 ?_
    refine tr_V.if_ge (tgt := 24) dX7_tear_15 (by decide) ?_ ?_
    · refine tr_V.aload_n (i := 0) dX7_tear_18 rfl rfl ?_
      refine tr_V.iconst (v := (1 : Int32)) dX7_tear_19 (by decide) ?_
      refine tr_V.bd (fun c5 h6 => ?_)
      refine tr_V.callV (C_X7_meets (1 : Int32) M _ h6) yk_X7_meets iv_X7_meets ml_X7_106 shM_1 rfl ⟨rfl, Nat.le_of_ble_eq_true rfl⟩ rfl (Nat.le_of_ble_eq_true rfl) rfl dX7_tear_20 ?_
      exact tr_V.iret dX7_tear_23 rfl (fun h => h)
    · refine tr_V.aload_n (i := 0) dX7_tear_24 rfl rfl ?_
      refine tr_V.getR (Nat.succ_pos _) fl_X7_13 shM_1 rfl dX7_tear_25 ?_
      refine tr_V.iload_n (i := 1) dX7_tear_28 rfl rfl ?_
      refine tr_V.iconst (v := (-1 : Int32)) dX7_tear_29 (by decide) ?_
      refine tr_V.bd (fun M7 h8 => ?_)
      refine tr_V.iast h8 shM_3 dX7_tear_30 ?_
      refine tr_V.iconst (v := (1 : Int32)) dX7_tear_31 (by decide) ?_
      exact tr_V.iret dX7_tear_32 rfl (fun h => h)
abbrev xX7_copy : tr_X := (cX7_copy, 7, RX7, (some .int), 3, shM, 24)
theorem cw_X7_copy : Cond.code yX7_copy cX7_copy 7 (some .int) ∈ tr_tbl := tr_in 1320 (by decide +kernel) rfl
theorem yk_X7_copy : tr_yk yX7_copy (xX7_copy) 5 := ⟨cw_X7_copy, in_X7, ⟨by decide +kernel, by decide +kernel, by decide +kernel⟩, Nat.le_of_ble_eq_true rfl⟩
theorem iv_X7_copy : Cond.instanceMethod yX7_copy ∈ tr_tbl ∧ Cond.selects (yX7_copy).cls yX7_copy yX7_copy ∈ tr_tbl := ⟨tr_in 1318 (by decide +kernel) rfl, tr_in 1319 (by decide +kernel) rfl⟩
def mX7_copy_l104 (p1 : Int32) (p2 : Int32) (p5 : Int32) (s18 : Int32 × tr_M) : Option ((Int32 × tr_M) ⊕ (tr_M)) :=
  if s18.1 < p5 then (
    Option.bind (mX7_rowAt p1 (p2 + s18.1) s18.2) (fun c19 =>
    Option.bind (tr_wr 60 s18.2 5 s18.1 c19) (fun M21 =>
    some (.inl ((s18.1 + (1 : Int32)), M21))
    )
    )
  ) else (
    some (.inr s18.2)
  )
def mX7_copy_l136 (p3 : Int32) (p4 : Int32) (p5 : Int32) (s23 : Int32 × tr_M) : Option ((Int32 × tr_M) ⊕ ((tr_M) ⊕ ((tr_M) ⊕ (Int32 × tr_M)))) :=
  if s23.1 < p5 then (
    Option.bind (tr_rd 60 s23.2 5 s23.1) (fun a24 =>
    Option.bind (tr_wr 360 s23.2 4 ((((60 : Int32) * p3) + p4) + s23.1) a24) (fun M26 =>
    some (.inl ((s23.1 + (1 : Int32)), M26))
    )
    )
  ) else (
    some (.inr (.inr (.inr ((1 : Int32), s23.2))))
  )
def mX7_copy (p1 : Int32) (p2 : Int32) (p3 : Int32) (p4 : Int32) (p5 : Int32) (M : tr_M) : Option (Int32 × tr_M) :=
  Option.bind (mX7_isRow p1) (fun c1 =>
  if c1 = 0 then (
    some ((-1 : Int32), M)
  ) else (
    Option.bind (mX7_isRow p3) (fun c3 =>
    if c3 = 0 then (
      some ((-1 : Int32), M)
    ) else (
      if p5 < 0 then (
        Option.bind (mX7_meets (5 : Int32) M) (fun c5 =>
        some (c5.1, c5.2)
        )
      ) else (
        Option.bind (tr_rd 6 M 3 p1) (fun a7 =>
        Option.bind (show Option ((tr_M) ⊕ (Int32 × tr_M)) from
          if a7 < 0 then (
            some (.inl M)
          ) else (
            Option.bind (tr_rd 6 M 3 p3) (fun a10 =>
            if a10 < 0 then (
              some (.inl M)
            ) else (
              Option.bind (show Option ((tr_M) ⊕ ((tr_M) ⊕ (Int32 × tr_M))) from
                if p2 < 0 then (
                  some (.inl M)
                ) else (
                  if p4 < 0 then (
                    some (.inl M)
                  ) else (
                    Option.bind (tr_rd 6 M 3 p1) (fun a13 =>
                    if 0 < (lg_cmp (p2.toInt64 + p5.toInt64) a13.toInt64) then (
                      some (.inl M)
                    ) else (
                      Option.bind (tr_rd 6 M 3 p3) (fun a15 =>
                      if 0 < (lg_cmp (p4.toInt64 + p5.toInt64) a15.toInt64) then (
                        some (.inl M)
                      ) else (
                        Option.bind (show Option (tr_M) from
                          tr_loop (mX7_copy_l104 p1 p2 p5) ((0 : Int32), M)
                        ) (fun (v17 : tr_M) =>
                          tr_loop (mX7_copy_l136 p3 p4 p5) ((0 : Int32), v17)
                        )
                      )
                      )
                    )
                    )
                  )
                )
              ) (tr_el (fun (v12 : tr_M) =>
                Option.bind (mX7_meets (2 : Int32) v12) (fun c28 =>
                some (.inr (c28.1, c28.2))
                )
              ))
            )
            )
          )
        ) (tr_el (fun (v9 : tr_M) =>
          Option.bind (mX7_meets (1 : Int32) v9) (fun c30 =>
          some (c30.1, c30.2)
          )
        ))
        )
      )
    )
    )
  )
  )
set_option maxRecDepth 100000 in
set_option maxHeartbeats 4000000 in
theorem C_X7_copy (p1 : Int32) (p2 : Int32) (p3 : Int32) (p4 : Int32) (p5 : Int32) (M : tr_M) (r : Int32 × tr_M) (h : mX7_copy p1 p2 p3 p4 p5 M = some r) : tr_I yX7_copy (xX7_copy) [.ref 1, .int p1, .int p2, .int p3, .int p4, .int p5] M (some (.int r.1)) r.2 := by
  refine tr_I.of (Z := fun q : Int32 × tr_M => (some (.int r.1) : Option Value) = some (.int q.1) ∧ r.2 = q.2) pn_X7 rfl gdM (Nat.le_of_ble_eq_true rfl) (fun Wt => ?_) h ⟨rfl, rfl⟩
  unfold mX7_copy
  refine tr_V.iload_n (i := 1) dX7_copy_0 rfl rfl ?_
  refine tr_V.bd (fun c1 h2 => ?_)
  refine tr_V.callS (C_X7_isRow p1 M _ h2) yk_X7_isRow sc_X7_isRow ml_X7_102 ⟨rfl, Nat.le_of_ble_eq_true rfl⟩ rfl (Nat.le_of_ble_eq_true rfl) rfl dX7_copy_1 ?_
  refine tr_V.if_eq (tgt := 14) dX7_copy_4 (by decide) ?_ ?_
  · refine tr_V.iconst (v := (-1 : Int32)) dX7_copy_14 (by decide) ?_
    exact tr_V.iret dX7_copy_15 rfl (fun h => h)
  · refine tr_V.iload_n (i := 3) dX7_copy_7 rfl rfl ?_
    refine tr_V.bd (fun c3 h4 => ?_)
    refine tr_V.callS (C_X7_isRow p3 M _ h4) yk_X7_isRow sc_X7_isRow ml_X7_102 ⟨rfl, Nat.le_of_ble_eq_true rfl⟩ rfl (Nat.le_of_ble_eq_true rfl) rfl dX7_copy_8 ?_
    refine tr_V.if_ne (tgt := 16) dX7_copy_11 (by decide) ?_ ?_
    · refine tr_V.iconst (v := (-1 : Int32)) dX7_copy_14 (by decide) ?_
      exact tr_V.iret dX7_copy_15 rfl (fun h => h)
    · refine tr_V.iload dX7_copy_16 rfl ?_
      refine tr_V.if_ge (tgt := 27) dX7_copy_18 (by decide) ?_ ?_
      · refine tr_V.aload_n (i := 0) dX7_copy_21 rfl rfl ?_
        refine tr_V.iconst (v := (5 : Int32)) dX7_copy_22 (by decide) ?_
        refine tr_V.bd (fun c5 h6 => ?_)
        refine tr_V.callV (C_X7_meets (5 : Int32) M _ h6) yk_X7_meets iv_X7_meets ml_X7_106 shM_1 rfl ⟨rfl, Nat.le_of_ble_eq_true rfl⟩ rfl (Nat.le_of_ble_eq_true rfl) rfl dX7_copy_23 ?_
        exact tr_V.iret dX7_copy_26 rfl (fun h => h)
      · refine tr_V.aload_n (i := 0) dX7_copy_27 rfl rfl ?_
        refine tr_V.getR (Nat.succ_pos _) fl_X7_13 shM_1 rfl dX7_copy_28 ?_
        refine tr_V.iload_n (i := 1) dX7_copy_31 rfl rfl ?_
        refine tr_V.bd (fun a7 h8 => ?_)
        refine tr_V.iald h8 shM_3 dX7_copy_32 ?_
        refine tr_V.seqE (τ := tr_M) (pc' := 45) (L := fun v9 => [(0, some (.ref 1))]) (S := fun v9 => []) (Mf := fun v9 => v9) ?_ ?_
        · refine tr_V.if_lt (tgt := 45) dX7_copy_33 (by decide) ?_ ?_
          · exact tr_V.to (fun h => h) ⟨rfl, trivial⟩
          · refine tr_V.aload_n (i := 0) dX7_copy_36 rfl rfl ?_
            refine tr_V.getR (Nat.succ_pos _) fl_X7_13 shM_1 rfl dX7_copy_37 ?_
            refine tr_V.iload_n (i := 3) dX7_copy_40 rfl rfl ?_
            refine tr_V.bd (fun a10 h11 => ?_)
            refine tr_V.iald h11 shM_3 dX7_copy_41 ?_
            refine tr_V.if_ge (tgt := 51) dX7_copy_42 (by decide) ?_ ?_
            · exact tr_V.to (fun h => h) ⟨rfl, trivial⟩
            · refine tr_V.iload_n (i := 2) dX7_copy_51 rfl rfl ?_
              refine tr_V.seqE (τ := tr_M) (pc' := 95) (L := fun v12 => [(0, some (.ref 1))]) (S := fun v12 => []) (Mf := fun v12 => v12) ?_ ?_
              · refine tr_V.if_lt (tgt := 95) dX7_copy_52 (by decide) ?_ ?_
                · exact tr_V.to (fun h => h) ⟨rfl, trivial⟩
                · refine tr_V.iload dX7_copy_55 rfl ?_
                  refine tr_V.if_lt (tgt := 95) dX7_copy_57 (by decide) ?_ ?_
                  · exact tr_V.to (fun h => h) ⟨rfl, trivial⟩
                  · refine tr_V.iload_n (i := 2) dX7_copy_60 rfl rfl ?_
                    refine tr_V.i2l dX7_copy_61 ?_
                    refine tr_V.iload dX7_copy_62 rfl ?_
                    refine tr_V.i2l dX7_copy_64 ?_
                    refine tr_V.ladd dX7_copy_65 ?_
                    refine tr_V.aload_n (i := 0) dX7_copy_66 rfl rfl ?_
                    refine tr_V.getR (Nat.succ_pos _) fl_X7_13 shM_1 rfl dX7_copy_67 ?_
                    refine tr_V.iload_n (i := 1) dX7_copy_70 rfl rfl ?_
                    refine tr_V.bd (fun a13 h14 => ?_)
                    refine tr_V.iald h14 shM_3 dX7_copy_71 ?_
                    refine tr_V.i2l dX7_copy_72 ?_
                    refine tr_V.lcmp dX7_copy_73 ?_
                    refine tr_V.if_gt (tgt := 95) dX7_copy_74 (by decide) ?_ ?_
                    · exact tr_V.to (fun h => h) ⟨rfl, trivial⟩
                    · refine tr_V.iload dX7_copy_77 rfl ?_
                      refine tr_V.i2l dX7_copy_79 ?_
                      refine tr_V.iload dX7_copy_80 rfl ?_
                      refine tr_V.i2l dX7_copy_82 ?_
                      refine tr_V.ladd dX7_copy_83 ?_
                      refine tr_V.aload_n (i := 0) dX7_copy_84 rfl rfl ?_
                      refine tr_V.getR (Nat.succ_pos _) fl_X7_13 shM_1 rfl dX7_copy_85 ?_
                      refine tr_V.iload_n (i := 3) dX7_copy_88 rfl rfl ?_
                      refine tr_V.bd (fun a15 h16 => ?_)
                      refine tr_V.iald h16 shM_3 dX7_copy_89 ?_
                      refine tr_V.i2l dX7_copy_90 ?_
                      refine tr_V.lcmp dX7_copy_91 ?_
                      refine tr_V.if_le (tgt := 101) dX7_copy_92 (by decide) ?_ ?_
                      · exact tr_V.to (fun h => h) ⟨rfl, trivial⟩
                      · refine tr_V.iconst (v := (0 : Int32)) dX7_copy_101 (by decide) ?_
                        refine tr_V.istore (i := 6) dX7_copy_102 (Nat.le_of_ble_eq_true rfl) rfl ?_
                        refine tr_V.seq (τ := tr_M) (pc' := 133) (L := fun v17 => [(0, some (.ref 1)), (3, some (.int p3)), (4, some (.int p4)), (5, some (.int p5))]) (S := fun v17 => []) (Mf := fun v17 => v17) ?_ ?_
                        · refine tr_V.loop (σ := Int32 × tr_M) (step := mX7_copy_l104 p1 p2 p5) (L := fun s18 => [(0, some (.ref 1)), (1, some (.int p1)), (2, some (.int p2)), (3, some (.int p3)), (4, some (.int p4)), (5, some (.int p5)), (6, some (.int s18.1))]) (Mf := fun s18 => s18.2) ?_ ((0 : Int32), M) ⟨rfl, rfl, rfl, rfl, rfl, rfl, rfl, trivial⟩
                          intro s18
                          refine tr_V.iload dX7_copy_104 rfl ?_
                          refine tr_V.iload dX7_copy_106 rfl ?_
                          refine tr_V.icmp_ge (tgt := 133) dX7_copy_108 (by decide) ?_ ?_
                          · refine tr_V.aload_n (i := 0) dX7_copy_111 rfl rfl ?_
                            refine tr_V.getR (Nat.succ_pos _) fl_X7_19 shM_1 rfl dX7_copy_112 ?_
                            refine tr_V.iload dX7_copy_115 rfl ?_
                            refine tr_V.aload_n (i := 0) dX7_copy_117 rfl rfl ?_
                            refine tr_V.iload_n (i := 1) dX7_copy_118 rfl rfl ?_
                            refine tr_V.iload_n (i := 2) dX7_copy_119 rfl rfl ?_
                            refine tr_V.iload dX7_copy_120 rfl ?_
                            refine tr_V.iadd dX7_copy_122 ?_
                            refine tr_V.bd (fun c19 h20 => ?_)
                            refine tr_V.callV (C_X7_rowAt p1 (p2 + s18.1) s18.2 _ h20) yk_X7_rowAt iv_X7_rowAt ml_X7_110 shM_1 rfl ⟨rfl, Nat.le_of_ble_eq_true rfl⟩ rfl (Nat.le_of_ble_eq_true rfl) rfl dX7_copy_123 ?_
                            refine tr_V.bd (fun M21 h22 => ?_)
                            refine tr_V.iast h22 shM_5 dX7_copy_126 ?_
                            refine tr_V.iinc (cst := (1 : Int32)) dX7_copy_127 rfl (by decide) rfl ?_
                            refine tr_V.goto (tgt := 104) dX7_copy_130 (by decide) ?_
                            exact tr_V.to (fun h => h) ⟨rfl, rfl, rfl, rfl, rfl, rfl, rfl, trivial⟩
                          · exact tr_V.to (fun h => h) ⟨rfl, rfl, rfl, rfl, trivial⟩
                        · intro v17
                          refine tr_V.iconst (v := (0 : Int32)) dX7_copy_133 (by decide) ?_
                          refine tr_V.istore (i := 6) dX7_copy_134 (Nat.le_of_ble_eq_true rfl) rfl ?_
                          refine tr_V.loop (σ := Int32 × tr_M) (step := mX7_copy_l136 p3 p4 p5) (L := fun s23 => [(0, some (.ref 1)), (3, some (.int p3)), (4, some (.int p4)), (5, some (.int p5)), (6, some (.int s23.1))]) (Mf := fun s23 => s23.2) ?_ ((0 : Int32), v17) ⟨rfl, rfl, rfl, rfl, rfl, trivial⟩
                          intro s23
                          refine tr_V.iload dX7_copy_136 rfl ?_
                          refine tr_V.iload dX7_copy_138 rfl ?_
                          refine tr_V.icmp_ge (tgt := 171) dX7_copy_140 (by decide) ?_ ?_
                          · refine tr_V.aload_n (i := 0) dX7_copy_143 rfl rfl ?_
                            refine tr_V.getR (Nat.succ_pos _) fl_X7_16 shM_1 rfl dX7_copy_144 ?_
                            refine tr_V.bipush (v := (60 : Int32)) dX7_copy_147 (by decide) ?_
                            refine tr_V.iload_n (i := 3) dX7_copy_149 rfl rfl ?_
                            refine tr_V.imul dX7_copy_150 ?_
                            refine tr_V.iload dX7_copy_151 rfl ?_
                            refine tr_V.iadd dX7_copy_153 ?_
                            refine tr_V.iload dX7_copy_154 rfl ?_
                            refine tr_V.iadd dX7_copy_156 ?_
                            refine tr_V.aload_n (i := 0) dX7_copy_157 rfl rfl ?_
                            refine tr_V.getR (Nat.succ_pos _) fl_X7_19 shM_1 rfl dX7_copy_158 ?_
                            refine tr_V.iload dX7_copy_161 rfl ?_
                            refine tr_V.bd (fun a24 h25 => ?_)
                            refine tr_V.iald h25 shM_5 dX7_copy_163 ?_
                            refine tr_V.bd (fun M26 h27 => ?_)
                            refine tr_V.iast h27 shM_4 dX7_copy_164 ?_
                            refine tr_V.iinc (cst := (1 : Int32)) dX7_copy_165 rfl (by decide) rfl ?_
                            refine tr_V.goto (tgt := 136) dX7_copy_168 (by decide) ?_
                            exact tr_V.to (fun h => h) ⟨rfl, rfl, rfl, rfl, rfl, trivial⟩
                          · refine tr_V.iconst (v := (1 : Int32)) dX7_copy_171 (by decide) ?_
                            exact tr_V.iret dX7_copy_172 rfl (fun h => h)
              · intro v12
                refine tr_V.aload_n (i := 0) dX7_copy_95 rfl rfl ?_
                refine tr_V.iconst (v := (2 : Int32)) dX7_copy_96 (by decide) ?_
                refine tr_V.bd (fun c28 h29 => ?_)
                refine tr_V.callV (C_X7_meets (2 : Int32) v12 _ h29) yk_X7_meets iv_X7_meets ml_X7_106 shM_1 rfl ⟨rfl, Nat.le_of_ble_eq_true rfl⟩ rfl (Nat.le_of_ble_eq_true rfl) rfl dX7_copy_97 ?_
                exact tr_V.iret dX7_copy_100 rfl (fun h => h)
        · intro v9
          refine tr_V.aload_n (i := 0) dX7_copy_45 rfl rfl ?_
          refine tr_V.iconst (v := (1 : Int32)) dX7_copy_46 (by decide) ?_
          refine tr_V.bd (fun c30 h31 => ?_)
          refine tr_V.callV (C_X7_meets (1 : Int32) v9 _ h31) yk_X7_meets iv_X7_meets ml_X7_106 shM_1 rfl ⟨rfl, Nat.le_of_ble_eq_true rfl⟩ rfl (Nat.le_of_ble_eq_true rfl) rfl dX7_copy_47 ?_
          exact tr_V.iret dX7_copy_50 rfl (fun h => h)
abbrev xX7_mean : tr_X := (cX7_mean, 5, RX7, (some .int), 3, shM, 24)
theorem cw_X7_mean : Cond.code yX7_mean cX7_mean 5 (some .int) ∈ tr_tbl := tr_in 1324 (by decide +kernel) rfl
theorem yk_X7_mean : tr_yk yX7_mean (xX7_mean) 1 := ⟨cw_X7_mean, in_X7, ⟨by decide +kernel, by decide +kernel, by decide +kernel⟩, Nat.le_of_ble_eq_true rfl⟩
theorem iv_X7_mean : Cond.instanceMethod yX7_mean ∈ tr_tbl ∧ Cond.selects (yX7_mean).cls yX7_mean yX7_mean ∈ tr_tbl := ⟨tr_in 1322 (by decide +kernel) rfl, tr_in 1323 (by decide +kernel) rfl⟩
def mX7_mean_l44 (p1 : Int32) (M : tr_M) (s12 : Int64 × Int32) : Option ((Int64 × Int32) ⊕ (Int64)) :=
  Option.bind (tr_rd 6 M 3 p1) (fun a13 =>
  if s12.2 < a13 then (
    Option.bind (mX7_rowAt p1 s12.2 M) (fun c15 =>
    some (.inl ((s12.1 + c15.toInt64), (s12.2 + (1 : Int32))))
    )
  ) else (
    some (.inr s12.1)
  )
  )
def mX7_mean (p1 : Int32) (M : tr_M) : Option (Int32 × tr_M) :=
  Option.bind (mX7_isRow p1) (fun c1 =>
  if c1 = 0 then (
    some ((-1 : Int32), M)
  ) else (
    Option.bind (tr_rd 6 M 3 p1) (fun a3 =>
    if a3 < 0 then (
      Option.bind (mX7_meets (1 : Int32) M) (fun c5 =>
      some (c5.1, c5.2)
      )
    ) else (
      Option.bind (tr_rd 6 M 3 p1) (fun a7 =>
      if a7 = 0 then (
        Option.bind (mX7_meets (4 : Int32) M) (fun c9 =>
        some (c9.1, c9.2)
        )
      ) else (
        Option.bind (show Option (Int64) from
          tr_loop (mX7_mean_l44 p1 M) ((0 : Int64), (0 : Int32))
        ) (fun (v11 : Int64) =>
          Option.bind (tr_rd 6 M 3 p1) (fun a17 =>
          Option.bind (tr_dvl v11 a17.toInt64) (fun q19 =>
          Option.bind (mX7_tells q19.toInt32 (1 : Int32) M) (fun c20 =>
          some (c20.1, c20.2)
          )
          )
          )
        )
      )
      )
    )
    )
  )
  )
set_option maxRecDepth 100000 in
set_option maxHeartbeats 4000000 in
theorem C_X7_mean (p1 : Int32) (M : tr_M) (r : Int32 × tr_M) (h : mX7_mean p1 M = some r) : tr_I yX7_mean (xX7_mean) [.ref 1, .int p1] M (some (.int r.1)) r.2 := by
  refine tr_I.of (Z := fun q : Int32 × tr_M => (some (.int r.1) : Option Value) = some (.int q.1) ∧ r.2 = q.2) pn_X7 rfl gdM (Nat.le_of_ble_eq_true rfl) (fun Wt => ?_) h ⟨rfl, rfl⟩
  unfold mX7_mean
  refine tr_V.iload_n (i := 1) dX7_mean_0 rfl rfl ?_
  refine tr_V.bd (fun c1 h2 => ?_)
  refine tr_V.callS (C_X7_isRow p1 M _ h2) yk_X7_isRow sc_X7_isRow ml_X7_102 ⟨rfl, Nat.le_of_ble_eq_true rfl⟩ rfl (Nat.le_of_ble_eq_true rfl) rfl dX7_mean_1 ?_
  refine tr_V.if_ne (tgt := 9) dX7_mean_4 (by decide) ?_ ?_
  · refine tr_V.iconst (v := (-1 : Int32)) dX7_mean_7 (by decide) ?_
    exact tr_V.iret dX7_mean_8 rfl (fun h => h)
  · refine tr_V.aload_n (i := 0) dX7_mean_9 rfl rfl ?_
    refine tr_V.getR (Nat.succ_pos _) fl_X7_13 shM_1 rfl dX7_mean_10 ?_
    refine tr_V.iload_n (i := 1) dX7_mean_13 rfl rfl ?_
    refine tr_V.bd (fun a3 h4 => ?_)
    refine tr_V.iald h4 shM_3 dX7_mean_14 ?_
    refine tr_V.if_ge (tgt := 24) dX7_mean_15 (by decide) ?_ ?_
    · refine tr_V.aload_n (i := 0) dX7_mean_18 rfl rfl ?_
      refine tr_V.iconst (v := (1 : Int32)) dX7_mean_19 (by decide) ?_
      refine tr_V.bd (fun c5 h6 => ?_)
      refine tr_V.callV (C_X7_meets (1 : Int32) M _ h6) yk_X7_meets iv_X7_meets ml_X7_106 shM_1 rfl ⟨rfl, Nat.le_of_ble_eq_true rfl⟩ rfl (Nat.le_of_ble_eq_true rfl) rfl dX7_mean_20 ?_
      exact tr_V.iret dX7_mean_23 rfl (fun h => h)
    · refine tr_V.aload_n (i := 0) dX7_mean_24 rfl rfl ?_
      refine tr_V.getR (Nat.succ_pos _) fl_X7_13 shM_1 rfl dX7_mean_25 ?_
      refine tr_V.iload_n (i := 1) dX7_mean_28 rfl rfl ?_
      refine tr_V.bd (fun a7 h8 => ?_)
      refine tr_V.iald h8 shM_3 dX7_mean_29 ?_
      refine tr_V.if_ne (tgt := 39) dX7_mean_30 (by decide) ?_ ?_
      · refine tr_V.aload_n (i := 0) dX7_mean_33 rfl rfl ?_
        refine tr_V.iconst (v := (4 : Int32)) dX7_mean_34 (by decide) ?_
        refine tr_V.bd (fun c9 h10 => ?_)
        refine tr_V.callV (C_X7_meets (4 : Int32) M _ h10) yk_X7_meets iv_X7_meets ml_X7_106 shM_1 rfl ⟨rfl, Nat.le_of_ble_eq_true rfl⟩ rfl (Nat.le_of_ble_eq_true rfl) rfl dX7_mean_35 ?_
        exact tr_V.iret dX7_mean_38 rfl (fun h => h)
      · refine tr_V.lconst (v := (0 : Int64)) dX7_mean_39 (by decide) ?_
        refine tr_V.lstore_n (i := 2) dX7_mean_40 rfl (Nat.le_of_ble_eq_true rfl) rfl ?_
        refine tr_V.iconst (v := (0 : Int32)) dX7_mean_41 (by decide) ?_
        refine tr_V.istore (i := 4) dX7_mean_42 (Nat.le_of_ble_eq_true rfl) rfl ?_
        refine tr_V.seq (τ := Int64) (pc' := 72) (L := fun v11 => [(0, some (.ref 1)), (1, some (.int p1)), (2, some (.long v11))]) (S := fun v11 => []) (Mf := fun v11 => M) ?_ ?_
        · refine tr_V.loop (σ := Int64 × Int32) (step := mX7_mean_l44 p1 M) (L := fun s12 => [(0, some (.ref 1)), (1, some (.int p1)), (2, some (.long s12.1)), (4, some (.int s12.2))]) (Mf := fun s12 => M) ?_ ((0 : Int64), (0 : Int32)) ⟨rfl, rfl, rfl, rfl, trivial⟩
          intro s12
          refine tr_V.iload dX7_mean_44 rfl ?_
          refine tr_V.aload_n (i := 0) dX7_mean_46 rfl rfl ?_
          refine tr_V.getR (Nat.succ_pos _) fl_X7_13 shM_1 rfl dX7_mean_47 ?_
          refine tr_V.iload_n (i := 1) dX7_mean_50 rfl rfl ?_
          refine tr_V.bd (fun a13 h14 => ?_)
          refine tr_V.iald h14 shM_3 dX7_mean_51 ?_
          refine tr_V.icmp_ge (tgt := 72) dX7_mean_52 (by decide) ?_ ?_
          · refine tr_V.lload_n (i := 2) dX7_mean_55 rfl rfl ?_
            refine tr_V.aload_n (i := 0) dX7_mean_56 rfl rfl ?_
            refine tr_V.iload_n (i := 1) dX7_mean_57 rfl rfl ?_
            refine tr_V.iload dX7_mean_58 rfl ?_
            refine tr_V.bd (fun c15 h16 => ?_)
            refine tr_V.callV (C_X7_rowAt p1 s12.2 M _ h16) yk_X7_rowAt iv_X7_rowAt ml_X7_110 shM_1 rfl ⟨rfl, Nat.le_of_ble_eq_true rfl⟩ rfl (Nat.le_of_ble_eq_true rfl) rfl dX7_mean_60 ?_
            refine tr_V.i2l dX7_mean_63 ?_
            refine tr_V.ladd dX7_mean_64 ?_
            refine tr_V.lstore_n (i := 2) dX7_mean_65 rfl (Nat.le_of_ble_eq_true rfl) rfl ?_
            refine tr_V.iinc (cst := (1 : Int32)) dX7_mean_66 rfl (by decide) rfl ?_
            refine tr_V.goto (tgt := 44) dX7_mean_69 (by decide) ?_
            exact tr_V.to (fun h => h) ⟨rfl, rfl, rfl, rfl, trivial⟩
          · exact tr_V.to (fun h => h) ⟨rfl, rfl, rfl, trivial⟩
        · intro v11
          refine tr_V.aload_n (i := 0) dX7_mean_72 rfl rfl ?_
          refine tr_V.lload_n (i := 2) dX7_mean_73 rfl rfl ?_
          refine tr_V.aload_n (i := 0) dX7_mean_74 rfl rfl ?_
          refine tr_V.getR (Nat.succ_pos _) fl_X7_13 shM_1 rfl dX7_mean_75 ?_
          refine tr_V.iload_n (i := 1) dX7_mean_78 rfl rfl ?_
          refine tr_V.bd (fun a17 h18 => ?_)
          refine tr_V.iald h18 shM_3 dX7_mean_79 ?_
          refine tr_V.i2l dX7_mean_80 ?_
          refine tr_V.ldiv dX7_mean_81 (fun q19 => ?_)
          refine tr_V.l2i dX7_mean_82 ?_
          refine tr_V.iconst (v := (1 : Int32)) dX7_mean_83 (by decide) ?_
          refine tr_V.bd (fun c20 h21 => ?_)
          refine tr_V.callV (C_X7_tells q19.toInt32 (1 : Int32) M _ h21) yk_X7_tells iv_X7_tells ml_X7_114 shM_1 rfl ⟨rfl, Nat.le_of_ble_eq_true rfl⟩ rfl (Nat.le_of_ble_eq_true rfl) rfl dX7_mean_84 ?_
          exact tr_V.iret dX7_mean_87 rfl (fun h => h)
abbrev xX7_isText : tr_X := (cX7_isText, 1, RX7, (some .boolean), 2, shM, 24)
theorem cw_X7_isText : Cond.code yX7_isText cX7_isText 1 (some .boolean) ∈ tr_tbl := tr_in 1331 (by decide +kernel) rfl
theorem yk_X7_isText : tr_yk yX7_isText (xX7_isText) 1 := ⟨cw_X7_isText, in_X7, ⟨by decide +kernel, by decide +kernel, by decide +kernel⟩, Nat.le_of_ble_eq_true rfl⟩
theorem sc_X7_isText : Cond.static yX7_isText ∈ tr_tbl := tr_in 1330 (by decide +kernel) rfl
def mX7_isText (p0 : Int32) : Option (Int32) :=
  Option.bind (tr_gd ((mX7_in p0 (0 : Int32) (3 : Int32)) &&& 1 == (mX7_in p0 (0 : Int32) (3 : Int32)))) (fun _ => some (mX7_in p0 (0 : Int32) (3 : Int32)))
set_option maxRecDepth 100000 in
set_option maxHeartbeats 4000000 in
theorem C_X7_isText (p0 : Int32) (M : tr_M) (r : Int32) (h : mX7_isText p0 = some r) : tr_I yX7_isText (xX7_isText) [.int p0] M (some (.int r)) M := by
  refine tr_I.of (Z := fun q : Int32 => (some (.int r) : Option Value) = some (.int q) ∧ M = M) pn_X7 rfl gdM (Nat.le_of_ble_eq_true rfl) (fun Wt => ?_) h ⟨rfl, rfl⟩
  unfold mX7_isText
  refine tr_V.iload_n (i := 0) dX7_isText_0 rfl rfl ?_
  refine tr_V.iconst (v := (0 : Int32)) dX7_isText_1 (by decide) ?_
  refine tr_V.iconst (v := (3 : Int32)) dX7_isText_2 (by decide) ?_
  refine tr_V.callS (C_X7_in p0 (0 : Int32) (3 : Int32) M) yk_X7_in sc_X7_in ml_X7_92 ⟨rfl, Nat.le_of_ble_eq_true rfl⟩ rfl (Nat.le_of_ble_eq_true rfl) rfl dX7_isText_3 ?_
  refine tr_V.gd (fun h3 => ?_)
  exact tr_V.zret h3 dX7_isText_6 rfl (fun h => h)
abbrev xX7_text : tr_X := (cX7_text, 4, RX7, (some .int), 3, shM, 24)
theorem cw_X7_text : Cond.code yX7_text cX7_text 4 (some .int) ∈ tr_tbl := tr_in 1328 (by decide +kernel) rfl
theorem yk_X7_text : tr_yk yX7_text (xX7_text) 2 := ⟨cw_X7_text, in_X7, ⟨by decide +kernel, by decide +kernel, by decide +kernel⟩, Nat.le_of_ble_eq_true rfl⟩
theorem iv_X7_text : Cond.instanceMethod yX7_text ∈ tr_tbl ∧ Cond.selects (yX7_text).cls yX7_text yX7_text ∈ tr_tbl := ⟨tr_in 1326 (by decide +kernel) rfl, tr_in 1327 (by decide +kernel) rfl⟩
def mX7_text_l34 (p1 : Int32) (p2 : Int32) (s7 : Int32 × tr_M) : Option ((Int32 × tr_M) ⊕ (Int32 × tr_M)) :=
  if s7.1 < (120 : Int32) then (
    Option.bind (tr_wr 480 s7.2 7 (((120 : Int32) * p1) + s7.1) (vp_nar .byte (32 : Int32))) (fun M8 =>
    some (.inl ((s7.1 + (1 : Int32)), M8))
    )
  ) else (
    some (.inr (p2, s7.2))
  )
def mX7_text (p1 : Int32) (p2 : Int32) (M : tr_M) : Option (Int32 × tr_M) :=
  Option.bind (mX7_isText p1) (fun c1 =>
  if c1 = 0 then (
    some ((-1 : Int32), M)
  ) else (
    if (120 : Int32) < p2 then (
      some ((-1 : Int32), M)
    ) else (
      if p2 < 0 then (
        Option.bind (mX7_meets (5 : Int32) M) (fun c3 =>
        some (c3.1, c3.2)
        )
      ) else (
        Option.bind (tr_wr 4 M 6 p1 p2) (fun M5 =>
        tr_loop (mX7_text_l34 p1 p2) ((0 : Int32), M5)
        )
      )
    )
  )
  )
set_option maxRecDepth 100000 in
set_option maxHeartbeats 4000000 in
theorem C_X7_text (p1 : Int32) (p2 : Int32) (M : tr_M) (r : Int32 × tr_M) (h : mX7_text p1 p2 M = some r) : tr_I yX7_text (xX7_text) [.ref 1, .int p1, .int p2] M (some (.int r.1)) r.2 := by
  refine tr_I.of (Z := fun q : Int32 × tr_M => (some (.int r.1) : Option Value) = some (.int q.1) ∧ r.2 = q.2) pn_X7 rfl gdM (Nat.le_of_ble_eq_true rfl) (fun Wt => ?_) h ⟨rfl, rfl⟩
  unfold mX7_text
  refine tr_V.iload_n (i := 1) dX7_text_0 rfl rfl ?_
  refine tr_V.bd (fun c1 h2 => ?_)
  refine tr_V.callS (C_X7_isText p1 M _ h2) yk_X7_isText sc_X7_isText ml_X7_117 ⟨rfl, Nat.le_of_ble_eq_true rfl⟩ rfl (Nat.le_of_ble_eq_true rfl) rfl dX7_text_1 ?_
  refine tr_V.if_eq (tgt := 13) dX7_text_4 (by decide) ?_ ?_
  · refine tr_V.iconst (v := (-1 : Int32)) dX7_text_13 (by decide) ?_
    exact tr_V.iret dX7_text_14 rfl (fun h => h)
  · refine tr_V.iload_n (i := 2) dX7_text_7 rfl rfl ?_
    refine tr_V.bipush (v := (120 : Int32)) dX7_text_8 (by decide) ?_
    refine tr_V.icmp_le (tgt := 15) dX7_text_10 (by decide) ?_ ?_
    · refine tr_V.iconst (v := (-1 : Int32)) dX7_text_13 (by decide) ?_
      exact tr_V.iret dX7_text_14 rfl (fun h => h)
    · refine tr_V.iload_n (i := 2) dX7_text_15 rfl rfl ?_
      refine tr_V.if_ge (tgt := 25) dX7_text_16 (by decide) ?_ ?_
      · refine tr_V.aload_n (i := 0) dX7_text_19 rfl rfl ?_
        refine tr_V.iconst (v := (5 : Int32)) dX7_text_20 (by decide) ?_
        refine tr_V.bd (fun c3 h4 => ?_)
        refine tr_V.callV (C_X7_meets (5 : Int32) M _ h4) yk_X7_meets iv_X7_meets ml_X7_106 shM_1 rfl ⟨rfl, Nat.le_of_ble_eq_true rfl⟩ rfl (Nat.le_of_ble_eq_true rfl) rfl dX7_text_21 ?_
        exact tr_V.iret dX7_text_24 rfl (fun h => h)
      · refine tr_V.aload_n (i := 0) dX7_text_25 rfl rfl ?_
        refine tr_V.getR (Nat.succ_pos _) fl_X7_22 shM_1 rfl dX7_text_26 ?_
        refine tr_V.iload_n (i := 1) dX7_text_29 rfl rfl ?_
        refine tr_V.iload_n (i := 2) dX7_text_30 rfl rfl ?_
        refine tr_V.bd (fun M5 h6 => ?_)
        refine tr_V.iast h6 shM_6 dX7_text_31 ?_
        refine tr_V.iconst (v := (0 : Int32)) dX7_text_32 (by decide) ?_
        refine tr_V.istore_n (i := 3) dX7_text_33 rfl (Nat.le_of_ble_eq_true rfl) rfl ?_
        refine tr_V.loop (σ := Int32 × tr_M) (step := mX7_text_l34 p1 p2) (L := fun s7 => [(0, some (.ref 1)), (1, some (.int p1)), (2, some (.int p2)), (3, some (.int s7.1))]) (Mf := fun s7 => s7.2) ?_ ((0 : Int32), M5) ⟨rfl, rfl, rfl, rfl, trivial⟩
        intro s7
        refine tr_V.iload_n (i := 3) dX7_text_34 rfl rfl ?_
        refine tr_V.bipush (v := (120 : Int32)) dX7_text_35 (by decide) ?_
        refine tr_V.icmp_ge (tgt := 59) dX7_text_37 (by decide) ?_ ?_
        · refine tr_V.aload_n (i := 0) dX7_text_40 rfl rfl ?_
          refine tr_V.getR (Nat.succ_pos _) fl_X7_25 shM_1 rfl dX7_text_41 ?_
          refine tr_V.bipush (v := (120 : Int32)) dX7_text_44 (by decide) ?_
          refine tr_V.iload_n (i := 1) dX7_text_46 rfl rfl ?_
          refine tr_V.imul dX7_text_47 ?_
          refine tr_V.iload_n (i := 3) dX7_text_48 rfl rfl ?_
          refine tr_V.iadd dX7_text_49 ?_
          refine tr_V.bipush (v := (32 : Int32)) dX7_text_50 (by decide) ?_
          refine tr_V.bd (fun M8 h9 => ?_)
          refine tr_V.bast h9 shM_7 dX7_text_52 ?_
          refine tr_V.iinc (cst := (1 : Int32)) dX7_text_53 rfl (by decide) rfl ?_
          refine tr_V.goto (tgt := 34) dX7_text_56 (by decide) ?_
          exact tr_V.to (fun h => h) ⟨rfl, rfl, rfl, rfl, trivial⟩
        · refine tr_V.iload_n (i := 2) dX7_text_59 rfl rfl ?_
          exact tr_V.iret dX7_text_60 rfl (fun h => h)
abbrev xX7_put : tr_X := (cX7_put, 5, RX7, (some .int), 3, shM, 24)
theorem cw_X7_put : Cond.code yX7_put cX7_put 5 (some .int) ∈ tr_tbl := tr_in 1335 (by decide +kernel) rfl
theorem yk_X7_put : tr_yk yX7_put (xX7_put) 3 := ⟨cw_X7_put, in_X7, ⟨by decide +kernel, by decide +kernel, by decide +kernel⟩, Nat.le_of_ble_eq_true rfl⟩
theorem iv_X7_put : Cond.instanceMethod yX7_put ∈ tr_tbl ∧ Cond.selects (yX7_put).cls yX7_put yX7_put ∈ tr_tbl := ⟨tr_in 1333 (by decide +kernel) rfl, tr_in 1334 (by decide +kernel) rfl⟩
def mX7_put (p1 : Int32) (p2 : Int32) (p3 : Int32) (M : tr_M) : Option (Int32 × tr_M) :=
  Option.bind (mX7_isText p1) (fun c1 =>
  if c1 = 0 then (
    some ((-1 : Int32), M)
  ) else (
    Option.bind (tr_rd 4 M 6 p1) (fun a3 =>
    if a3 < 0 then (
      Option.bind (mX7_meets (1 : Int32) M) (fun c5 =>
      some (c5.1, c5.2)
      )
    ) else (
      Option.bind (tr_rd 4 M 6 p1) (fun a7 =>
      if (mX7_in p2 (0 : Int32) (a7 - (1 : Int32))) = 0 then (
        Option.bind (mX7_meets (2 : Int32) M) (fun c11 =>
        some (c11.1, c11.2)
        )
      ) else (
        Option.bind (tr_rd 480 M 7 (((120 : Int32) * p1) + p2)) (fun a13 =>
        Option.bind (tr_wr 480 M 7 (((120 : Int32) * p1) + p2) (vp_nar .byte p3.toInt8.toInt32)) (fun M15 =>
        some (((1000 : Int32) + a13), M15)
        )
        )
      )
      )
    )
    )
  )
  )
set_option maxRecDepth 100000 in
set_option maxHeartbeats 4000000 in
theorem C_X7_put (p1 : Int32) (p2 : Int32) (p3 : Int32) (M : tr_M) (r : Int32 × tr_M) (h : mX7_put p1 p2 p3 M = some r) : tr_I yX7_put (xX7_put) [.ref 1, .int p1, .int p2, .int p3] M (some (.int r.1)) r.2 := by
  refine tr_I.of (Z := fun q : Int32 × tr_M => (some (.int r.1) : Option Value) = some (.int q.1) ∧ r.2 = q.2) pn_X7 rfl gdM (Nat.le_of_ble_eq_true rfl) (fun Wt => ?_) h ⟨rfl, rfl⟩
  unfold mX7_put
  refine tr_V.iload_n (i := 1) dX7_put_0 rfl rfl ?_
  refine tr_V.bd (fun c1 h2 => ?_)
  refine tr_V.callS (C_X7_isText p1 M _ h2) yk_X7_isText sc_X7_isText ml_X7_117 ⟨rfl, Nat.le_of_ble_eq_true rfl⟩ rfl (Nat.le_of_ble_eq_true rfl) rfl dX7_put_1 ?_
  refine tr_V.if_ne (tgt := 9) dX7_put_4 (by decide) ?_ ?_
  · refine tr_V.iconst (v := (-1 : Int32)) dX7_put_7 (by decide) ?_
    exact tr_V.iret dX7_put_8 rfl (fun h => h)
  · refine tr_V.aload_n (i := 0) dX7_put_9 rfl rfl ?_
    refine tr_V.getR (Nat.succ_pos _) fl_X7_22 shM_1 rfl dX7_put_10 ?_
    refine tr_V.iload_n (i := 1) dX7_put_13 rfl rfl ?_
    refine tr_V.bd (fun a3 h4 => ?_)
    refine tr_V.iald h4 shM_6 dX7_put_14 ?_
    refine tr_V.if_ge (tgt := 24) dX7_put_15 (by decide) ?_ ?_
    · refine tr_V.aload_n (i := 0) dX7_put_18 rfl rfl ?_
      refine tr_V.iconst (v := (1 : Int32)) dX7_put_19 (by decide) ?_
      refine tr_V.bd (fun c5 h6 => ?_)
      refine tr_V.callV (C_X7_meets (1 : Int32) M _ h6) yk_X7_meets iv_X7_meets ml_X7_106 shM_1 rfl ⟨rfl, Nat.le_of_ble_eq_true rfl⟩ rfl (Nat.le_of_ble_eq_true rfl) rfl dX7_put_20 ?_
      exact tr_V.iret dX7_put_23 rfl (fun h => h)
    · refine tr_V.iload_n (i := 2) dX7_put_24 rfl rfl ?_
      refine tr_V.iconst (v := (0 : Int32)) dX7_put_25 (by decide) ?_
      refine tr_V.aload_n (i := 0) dX7_put_26 rfl rfl ?_
      refine tr_V.getR (Nat.succ_pos _) fl_X7_22 shM_1 rfl dX7_put_27 ?_
      refine tr_V.iload_n (i := 1) dX7_put_30 rfl rfl ?_
      refine tr_V.bd (fun a7 h8 => ?_)
      refine tr_V.iald h8 shM_6 dX7_put_31 ?_
      refine tr_V.iconst (v := (1 : Int32)) dX7_put_32 (by decide) ?_
      refine tr_V.isub dX7_put_33 ?_
      refine tr_V.callS (C_X7_in p2 (0 : Int32) (a7 - (1 : Int32)) M) yk_X7_in sc_X7_in ml_X7_92 ⟨rfl, Nat.le_of_ble_eq_true rfl⟩ rfl (Nat.le_of_ble_eq_true rfl) rfl dX7_put_34 ?_
      refine tr_V.if_ne (tgt := 46) dX7_put_37 (by decide) ?_ ?_
      · refine tr_V.aload_n (i := 0) dX7_put_40 rfl rfl ?_
        refine tr_V.iconst (v := (2 : Int32)) dX7_put_41 (by decide) ?_
        refine tr_V.bd (fun c11 h12 => ?_)
        refine tr_V.callV (C_X7_meets (2 : Int32) M _ h12) yk_X7_meets iv_X7_meets ml_X7_106 shM_1 rfl ⟨rfl, Nat.le_of_ble_eq_true rfl⟩ rfl (Nat.le_of_ble_eq_true rfl) rfl dX7_put_42 ?_
        exact tr_V.iret dX7_put_45 rfl (fun h => h)
      · refine tr_V.aload_n (i := 0) dX7_put_46 rfl rfl ?_
        refine tr_V.getR (Nat.succ_pos _) fl_X7_25 shM_1 rfl dX7_put_47 ?_
        refine tr_V.bipush (v := (120 : Int32)) dX7_put_50 (by decide) ?_
        refine tr_V.iload_n (i := 1) dX7_put_52 rfl rfl ?_
        refine tr_V.imul dX7_put_53 ?_
        refine tr_V.iload_n (i := 2) dX7_put_54 rfl rfl ?_
        refine tr_V.iadd dX7_put_55 ?_
        refine tr_V.bd (fun a13 h14 => ?_)
        refine tr_V.bald h14 shM_7 dX7_put_56 ?_
        refine tr_V.istore (i := 4) dX7_put_57 (Nat.le_of_ble_eq_true rfl) rfl ?_
        refine tr_V.aload_n (i := 0) dX7_put_59 rfl rfl ?_
        refine tr_V.getR (Nat.succ_pos _) fl_X7_25 shM_1 rfl dX7_put_60 ?_
        refine tr_V.bipush (v := (120 : Int32)) dX7_put_63 (by decide) ?_
        refine tr_V.iload_n (i := 1) dX7_put_65 rfl rfl ?_
        refine tr_V.imul dX7_put_66 ?_
        refine tr_V.iload_n (i := 2) dX7_put_67 rfl rfl ?_
        refine tr_V.iadd dX7_put_68 ?_
        refine tr_V.iload_n (i := 3) dX7_put_69 rfl rfl ?_
        refine tr_V.i2b dX7_put_70 ?_
        refine tr_V.bd (fun M15 h16 => ?_)
        refine tr_V.bast h16 shM_7 dX7_put_71 ?_
        refine tr_V.sipush (v := (1000 : Int32)) dX7_put_72 (by decide) ?_
        refine tr_V.iload dX7_put_75 rfl ?_
        refine tr_V.iadd dX7_put_77 ?_
        exact tr_V.iret dX7_put_78 rfl (fun h => h)
abbrev xX7_byteAt : tr_X := (cX7_byteAt, 3, RX7, (some .int), 1, shM, 24)
theorem cw_X7_byteAt : Cond.code yX7_byteAt cX7_byteAt 3 (some .int) ∈ tr_tbl := tr_in 1347 (by decide +kernel) rfl
theorem yk_X7_byteAt : tr_yk yX7_byteAt (xX7_byteAt) 2 := ⟨cw_X7_byteAt, in_X7, ⟨by decide +kernel, by decide +kernel, by decide +kernel⟩, Nat.le_of_ble_eq_true rfl⟩
theorem iv_X7_byteAt : Cond.instanceMethod yX7_byteAt ∈ tr_tbl ∧ Cond.selects (yX7_byteAt).cls yX7_byteAt yX7_byteAt ∈ tr_tbl := ⟨tr_in 1346 (by decide +kernel) rfl, tr_in 62 (by decide +kernel) rfl⟩
def mX7_byteAt (p1 : Int32) (p2 : Int32) (M : tr_M) : Option (Int32) :=
  Option.bind (tr_rd 4 M 6 p1) (fun a1 =>
  if p2 < a1 then (
    Option.bind (tr_rd 480 M 7 (((120 : Int32) * p1) + p2)) (fun a3 =>
    some a3
    )
  ) else (
    some (0 : Int32)
  )
  )
set_option maxRecDepth 100000 in
set_option maxHeartbeats 4000000 in
theorem C_X7_byteAt (p1 : Int32) (p2 : Int32) (M : tr_M) (r : Int32) (h : mX7_byteAt p1 p2 M = some r) : tr_I yX7_byteAt (xX7_byteAt) [.ref 1, .int p1, .int p2] M (some (.int r)) M := by
  refine tr_I.of (Z := fun q : Int32 => (some (.int r) : Option Value) = some (.int q) ∧ M = M) pn_X7 rfl gdM (Nat.le_of_ble_eq_true rfl) (fun Wt => ?_) h ⟨rfl, rfl⟩
  unfold mX7_byteAt
  refine tr_V.iload_n (i := 2) dX7_byteAt_0 rfl rfl ?_
  refine tr_V.aload_n (i := 0) dX7_byteAt_1 rfl rfl ?_
  refine tr_V.getR (Nat.succ_pos _) fl_X7_22 shM_1 rfl dX7_byteAt_2 ?_
  refine tr_V.iload_n (i := 1) dX7_byteAt_5 rfl rfl ?_
  refine tr_V.bd (fun a1 h2 => ?_)
  refine tr_V.iald h2 shM_6 dX7_byteAt_6 ?_
  refine tr_V.icmp_ge (tgt := 24) dX7_byteAt_7 (by decide) ?_ ?_
  · refine tr_V.aload_n (i := 0) dX7_byteAt_10 rfl rfl ?_
    refine tr_V.getR (Nat.succ_pos _) fl_X7_25 shM_1 rfl dX7_byteAt_11 ?_
    refine tr_V.bipush (v := (120 : Int32)) dX7_byteAt_14 (by decide) ?_
    refine tr_V.iload_n (i := 1) dX7_byteAt_16 rfl rfl ?_
    refine tr_V.imul dX7_byteAt_17 ?_
    refine tr_V.iload_n (i := 2) dX7_byteAt_18 rfl rfl ?_
    refine tr_V.iadd dX7_byteAt_19 ?_
    refine tr_V.bd (fun a3 h4 => ?_)
    refine tr_V.bald h4 shM_7 dX7_byteAt_20 ?_
    refine tr_V.goto (tgt := 25) dX7_byteAt_21 (by decide) ?_
    exact tr_V.iret dX7_byteAt_25 rfl (fun h => h)
  · refine tr_V.iconst (v := (0 : Int32)) dX7_byteAt_24 (by decide) ?_
    exact tr_V.iret dX7_byteAt_25 rfl (fun h => h)
abbrev xX7_thing : tr_X := (cX7_thing, 5, RX7, (some .boolean), 2, shM, 24)
theorem cw_X7_thing : Cond.code yX7_thing cX7_thing 5 (some .boolean) ∈ tr_tbl := tr_in 1359 (by decide +kernel) rfl
theorem yk_X7_thing : tr_yk yX7_thing (xX7_thing) 3 := ⟨cw_X7_thing, in_X7, ⟨by decide +kernel, by decide +kernel, by decide +kernel⟩, Nat.le_of_ble_eq_true rfl⟩
theorem iv_X7_thing : Cond.instanceMethod yX7_thing ∈ tr_tbl ∧ Cond.selects (yX7_thing).cls yX7_thing yX7_thing ∈ tr_tbl := ⟨tr_in 1358 (by decide +kernel) rfl, tr_in 65 (by decide +kernel) rfl⟩
def mX7_thing (p1 : Int32) (p2 : Int32) (p3 : Int32) (M : tr_M) : Option (Int32 × tr_M) :=
  Option.bind (mX7_byteAt p1 (M.1 1 14) M) (fun c1 =>
  Option.bind (some (tr_st M 1 15 (c1 - (65 : Int32)))) (fun M3 =>
  Option.bind (show Option (Int32) from
    if (mX7_in (M3.1 1 15) (0 : Int32) ((M3.1 1 16) - (1 : Int32))) = 0 then (
      some (0 : Int32)
    ) else (
      if (M3.1 1 15) = p2 then (
        some (0 : Int32)
      ) else (
        if (M3.1 1 15) = p3 then (
          some (0 : Int32)
        ) else (
          some (1 : Int32)
        )
      )
    )
  ) (fun (v7 : Int32) =>
    if v7 = 0 then (
      Option.bind (some (tr_st M3 1 14 ((M3.1 1 14) + (0 : Int32)))) (fun M8 =>
      Option.bind (tr_gd (v7 &&& 1 == v7)) (fun _ => some (v7, M8))
      )
    ) else (
      Option.bind (some (tr_st M3 1 14 ((M3.1 1 14) + (1 : Int32)))) (fun M12 =>
      Option.bind (tr_gd (v7 &&& 1 == v7)) (fun _ => some (v7, M12))
      )
    )
  )
  )
  )
set_option maxRecDepth 100000 in
set_option maxHeartbeats 4000000 in
theorem C_X7_thing (p1 : Int32) (p2 : Int32) (p3 : Int32) (M : tr_M) (r : Int32 × tr_M) (h : mX7_thing p1 p2 p3 M = some r) : tr_I yX7_thing (xX7_thing) [.ref 1, .int p1, .int p2, .int p3] M (some (.int r.1)) r.2 := by
  refine tr_I.of (Z := fun q : Int32 × tr_M => (some (.int r.1) : Option Value) = some (.int q.1) ∧ r.2 = q.2) pn_X7 rfl gdM (Nat.le_of_ble_eq_true rfl) (fun Wt => ?_) h ⟨rfl, rfl⟩
  unfold mX7_thing
  refine tr_V.aload_n (i := 0) dX7_thing_0 rfl rfl ?_
  refine tr_V.aload_n (i := 0) dX7_thing_1 rfl rfl ?_
  refine tr_V.iload_n (i := 1) dX7_thing_2 rfl rfl ?_
  refine tr_V.aload_n (i := 0) dX7_thing_3 rfl rfl ?_
  refine tr_V.getI fl_X7_120 shM_1 rfl dX7_thing_4 ?_
  refine tr_V.bd (fun c1 h2 => ?_)
  refine tr_V.callV (C_X7_byteAt p1 (M.1 1 14) M _ h2) yk_X7_byteAt iv_X7_byteAt ml_X7_123 shM_1 rfl ⟨rfl, Nat.le_of_ble_eq_true rfl⟩ rfl (Nat.le_of_ble_eq_true rfl) rfl dX7_thing_7 ?_
  refine tr_V.bipush (v := (65 : Int32)) dX7_thing_10 (by decide) ?_
  refine tr_V.isub dX7_thing_12 ?_
  refine tr_V.bd (fun M3 h4 => ?_)
  refine tr_V.putI fl_X7_126 shM_1 rfl dX7_thing_13 h4 ?_
  refine tr_V.aload_n (i := 0) dX7_thing_16 rfl rfl ?_
  refine tr_V.getI fl_X7_126 shM_1 rfl dX7_thing_17 ?_
  refine tr_V.iconst (v := (0 : Int32)) dX7_thing_20 (by decide) ?_
  refine tr_V.aload_n (i := 0) dX7_thing_21 rfl rfl ?_
  refine tr_V.getI fl_X7_129 shM_1 rfl dX7_thing_22 ?_
  refine tr_V.iconst (v := (1 : Int32)) dX7_thing_25 (by decide) ?_
  refine tr_V.isub dX7_thing_26 ?_
  refine tr_V.callS (C_X7_in (M3.1 1 15) (0 : Int32) ((M3.1 1 16) - (1 : Int32)) M3) yk_X7_in sc_X7_in ml_X7_92 ⟨rfl, Nat.le_of_ble_eq_true rfl⟩ rfl (Nat.le_of_ble_eq_true rfl) rfl dX7_thing_27 ?_
  refine tr_V.seq (τ := Int32) (pc' := 54) (L := fun v7 => [(0, some (.ref 1))]) (S := fun v7 => [.int v7]) (Mf := fun v7 => M3) ?_ ?_
  · refine tr_V.if_eq (tgt := 53) dX7_thing_30 (by decide) ?_ ?_
    · refine tr_V.iconst (v := (0 : Int32)) dX7_thing_53 (by decide) ?_
      exact tr_V.to (fun h => h) ⟨rfl, trivial⟩
    · refine tr_V.aload_n (i := 0) dX7_thing_33 rfl rfl ?_
      refine tr_V.getI fl_X7_126 shM_1 rfl dX7_thing_34 ?_
      refine tr_V.iload_n (i := 2) dX7_thing_37 rfl rfl ?_
      refine tr_V.icmp_eq (tgt := 53) dX7_thing_38 (by decide) ?_ ?_
      · refine tr_V.iconst (v := (0 : Int32)) dX7_thing_53 (by decide) ?_
        exact tr_V.to (fun h => h) ⟨rfl, trivial⟩
      · refine tr_V.aload_n (i := 0) dX7_thing_41 rfl rfl ?_
        refine tr_V.getI fl_X7_126 shM_1 rfl dX7_thing_42 ?_
        refine tr_V.iload_n (i := 3) dX7_thing_45 rfl rfl ?_
        refine tr_V.icmp_eq (tgt := 53) dX7_thing_46 (by decide) ?_ ?_
        · refine tr_V.iconst (v := (0 : Int32)) dX7_thing_53 (by decide) ?_
          exact tr_V.to (fun h => h) ⟨rfl, trivial⟩
        · refine tr_V.iconst (v := (1 : Int32)) dX7_thing_49 (by decide) ?_
          refine tr_V.goto (tgt := 54) dX7_thing_50 (by decide) ?_
          exact tr_V.to (fun h => h) ⟨rfl, trivial⟩
  · intro v7
    refine tr_V.istore (i := 4) dX7_thing_54 (Nat.le_of_ble_eq_true rfl) rfl ?_
    refine tr_V.aload_n (i := 0) dX7_thing_56 rfl rfl ?_
    refine tr_V.dup rfl dX7_thing_57 ?_
    refine tr_V.getI fl_X7_120 shM_1 rfl dX7_thing_58 ?_
    refine tr_V.iload dX7_thing_61 rfl ?_
    refine tr_V.if_eq (tgt := 70) dX7_thing_63 (by decide) ?_ ?_
    · refine tr_V.iconst (v := (0 : Int32)) dX7_thing_70 (by decide) ?_
      refine tr_V.iadd dX7_thing_71 ?_
      refine tr_V.bd (fun M8 h9 => ?_)
      refine tr_V.putI fl_X7_120 shM_1 rfl dX7_thing_72 h9 ?_
      refine tr_V.iload dX7_thing_75 rfl ?_
      refine tr_V.gd (fun h10 => ?_)
      exact tr_V.zret h10 dX7_thing_77 rfl (fun h => h)
    · refine tr_V.iconst (v := (1 : Int32)) dX7_thing_66 (by decide) ?_
      refine tr_V.goto (tgt := 71) dX7_thing_67 (by decide) ?_
      refine tr_V.iadd dX7_thing_71 ?_
      refine tr_V.bd (fun M12 h13 => ?_)
      refine tr_V.putI fl_X7_120 shM_1 rfl dX7_thing_72 h13 ?_
      refine tr_V.iload dX7_thing_75 rfl ?_
      refine tr_V.gd (fun h14 => ?_)
      exact tr_V.zret h14 dX7_thing_77 rfl (fun h => h)
