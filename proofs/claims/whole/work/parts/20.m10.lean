abbrev xX7_keepsBy : tr_X := (cX7_keepsBy, 8, RX7, (some .boolean), 2, shM, 24)
theorem cw_X7_keepsBy : Cond.code yX7_keepsBy cX7_keepsBy 8 (some .boolean) ∈ tr_tbl := tr_in 1552 (by decide +kernel) rfl
theorem yk_X7_keepsBy : tr_yk yX7_keepsBy (xX7_keepsBy) 5 := ⟨cw_X7_keepsBy, in_X7, ⟨by decide +kernel, by decide +kernel, by decide +kernel⟩, Nat.le_of_ble_eq_true rfl⟩
theorem iv_X7_keepsBy : Cond.instanceMethod yX7_keepsBy ∈ tr_tbl ∧ Cond.selects (yX7_keepsBy).cls yX7_keepsBy yX7_keepsBy ∈ tr_tbl := ⟨tr_in 1551 (by decide +kernel) rfl, tr_in 96 (by decide +kernel) rfl⟩
def mX7_keepsBy (p1 : Int32) (p2 : Int32) (p3 : Int32) (p4 : Int32) (p5 : Int32) (M : tr_M) : Option (Int32) :=
  Option.bind (mX7_ruleAt p1 (1 : Int32) M) (fun c1 =>
  Option.bind (mX7_ruleAt p1 (2 : Int32) M) (fun c3 =>
  Option.bind (mX7_ruleAt p1 (0 : Int32) M) (fun c5 =>
  if c5 = (1 : Int32) then (
    if p4 = c3 then (
      if (mX7_has p2 c1) = 0 then (
        some (0 : Int32)
      ) else (
        some (1 : Int32)
      )
    ) else (
      some (1 : Int32)
    )
  ) else (
  if c5 = (2 : Int32) then (
    if p4 = c3 then (
      if p3 = c1 then (
        some (1 : Int32)
      ) else (
        some (0 : Int32)
      )
    ) else (
      if p3 = c1 then (
        some (0 : Int32)
      ) else (
        some (1 : Int32)
      )
    )
  ) else (
  if c5 = (3 : Int32) then (
    if p4 = c1 then (
      if p5 = c3 then (
        some (1 : Int32)
      ) else (
        some (0 : Int32)
      )
    ) else (
      some (1 : Int32)
    )
  ) else (
  if c5 = (4 : Int32) then (
    if p4 = c1 then (
      if c3 < p5 then (
        some (0 : Int32)
      ) else (
        some (1 : Int32)
      )
    ) else (
      some (1 : Int32)
    )
  ) else (
  if c5 = (5 : Int32) then (
    Option.bind (show Option ((Unit) ⊕ (Int32)) from
      if p4 = c1 then (
        if p3 = c3 then (
          some (.inr (0 : Int32))
        ) else (
          some (.inl ())
        )
      ) else (
        some (.inl ())
      )
    ) (tr_el (fun (v13 : Unit) =>
      if p4 = c3 then (
        if p3 = c1 then (
          some (0 : Int32)
        ) else (
          some (1 : Int32)
        )
      ) else (
        some (1 : Int32)
      )
    ))
  ) else (
  if c5 = (6 : Int32) then (
    if p4 = c1 then (
      Option.bind (mX7_ruleAt p1 (3 : Int32) M) (fun c17 =>
      if (mX7_has p2 c3) = (mX7_has p2 c17) then (
        some (0 : Int32)
      ) else (
        some (1 : Int32)
      )
      )
    ) else (
      some (1 : Int32)
    )
  ) else (
    some (1 : Int32)
  ))))))
  )
  )
  )
set_option maxRecDepth 100000 in
set_option maxHeartbeats 4000000 in
theorem C_X7_keepsBy (p1 : Int32) (p2 : Int32) (p3 : Int32) (p4 : Int32) (p5 : Int32) (M : tr_M) (r : Int32) (h : mX7_keepsBy p1 p2 p3 p4 p5 M = some r) : tr_I yX7_keepsBy (xX7_keepsBy) [.ref 1, .int p1, .int p2, .int p3, .int p4, .int p5] M (some (.int r)) M := by
  refine tr_I.of (Z := fun q : Int32 => (some (.int r) : Option Value) = some (.int q) ∧ M = M) pn_X7 rfl gdM (Nat.le_of_ble_eq_true rfl) (fun Wt => ?_) h ⟨rfl, rfl⟩
  unfold mX7_keepsBy
  refine tr_V.aload_n (i := 0) dX7_keepsBy_0 rfl rfl ?_
  refine tr_V.iload_n (i := 1) dX7_keepsBy_1 rfl rfl ?_
  refine tr_V.iconst (v := (1 : Int32)) dX7_keepsBy_2 (by decide) ?_
  refine tr_V.bd (fun c1 h2 => ?_)
  refine tr_V.callV (C_X7_ruleAt p1 (1 : Int32) M _ h2) yk_X7_ruleAt iv_X7_ruleAt ml_X7_180 shM_1 rfl ⟨rfl, Nat.le_of_ble_eq_true rfl⟩ rfl (Nat.le_of_ble_eq_true rfl) rfl dX7_keepsBy_3 ?_
  refine tr_V.istore (i := 6) dX7_keepsBy_6 (Nat.le_of_ble_eq_true rfl) rfl ?_
  refine tr_V.aload_n (i := 0) dX7_keepsBy_8 rfl rfl ?_
  refine tr_V.iload_n (i := 1) dX7_keepsBy_9 rfl rfl ?_
  refine tr_V.iconst (v := (2 : Int32)) dX7_keepsBy_10 (by decide) ?_
  refine tr_V.bd (fun c3 h4 => ?_)
  refine tr_V.callV (C_X7_ruleAt p1 (2 : Int32) M _ h4) yk_X7_ruleAt iv_X7_ruleAt ml_X7_180 shM_1 rfl ⟨rfl, Nat.le_of_ble_eq_true rfl⟩ rfl (Nat.le_of_ble_eq_true rfl) rfl dX7_keepsBy_11 ?_
  refine tr_V.istore (i := 7) dX7_keepsBy_14 (Nat.le_of_ble_eq_true rfl) rfl ?_
  refine tr_V.aload_n (i := 0) dX7_keepsBy_16 rfl rfl ?_
  refine tr_V.iload_n (i := 1) dX7_keepsBy_17 rfl rfl ?_
  refine tr_V.iconst (v := (0 : Int32)) dX7_keepsBy_18 (by decide) ?_
  refine tr_V.bd (fun c5 h6 => ?_)
  refine tr_V.callV (C_X7_ruleAt p1 (0 : Int32) M _ h6) yk_X7_ruleAt iv_X7_ruleAt ml_X7_180 shM_1 rfl ⟨rfl, Nat.le_of_ble_eq_true rfl⟩ rfl (Nat.le_of_ble_eq_true rfl) rfl dX7_keepsBy_19 ?_
  refine tr_V.case (k := (1 : Int32)) (fun c9 => ?_) (fun c9 => ?_)
  · refine tr_V.tableIn (tgt := 60) dX7_keepsBy_22 c9 (by decide) rfl (by decide) ?_
    refine tr_V.iload dX7_keepsBy_60 rfl ?_
    refine tr_V.iload dX7_keepsBy_62 rfl ?_
    refine tr_V.icmp_ne (tgt := 76) dX7_keepsBy_64 (by decide) ?_ ?_
    · refine tr_V.iload_n (i := 2) dX7_keepsBy_67 rfl rfl ?_
      refine tr_V.iload dX7_keepsBy_68 rfl ?_
      refine tr_V.callS (C_X7_has p2 c1 M) yk_X7_has sc_X7_has ml_X7_186 ⟨rfl, Nat.le_of_ble_eq_true rfl⟩ rfl (Nat.le_of_ble_eq_true rfl) rfl dX7_keepsBy_70 ?_
      refine tr_V.if_eq (tgt := 80) dX7_keepsBy_73 (by decide) ?_ ?_
      · refine tr_V.iconst (v := (0 : Int32)) dX7_keepsBy_80 (by decide) ?_
        exact tr_V.zret (by decide) dX7_keepsBy_81 rfl (fun h => h)
      · refine tr_V.iconst (v := (1 : Int32)) dX7_keepsBy_76 (by decide) ?_
        refine tr_V.goto (tgt := 81) dX7_keepsBy_77 (by decide) ?_
        exact tr_V.zret (by decide) dX7_keepsBy_81 rfl (fun h => h)
    · refine tr_V.iconst (v := (1 : Int32)) dX7_keepsBy_76 (by decide) ?_
      refine tr_V.goto (tgt := 81) dX7_keepsBy_77 (by decide) ?_
      exact tr_V.zret (by decide) dX7_keepsBy_81 rfl (fun h => h)
  · refine tr_V.case (k := (2 : Int32)) (fun c10 => ?_) (fun c10 => ?_)
    · refine tr_V.tableIn (tgt := 82) dX7_keepsBy_22 c10 (by decide) rfl (by decide) ?_
      refine tr_V.iload dX7_keepsBy_82 rfl ?_
      refine tr_V.iload dX7_keepsBy_84 rfl ?_
      refine tr_V.icmp_ne (tgt := 103) dX7_keepsBy_86 (by decide) ?_ ?_
      · refine tr_V.iload_n (i := 3) dX7_keepsBy_89 rfl rfl ?_
        refine tr_V.iload dX7_keepsBy_90 rfl ?_
        refine tr_V.icmp_ne (tgt := 99) dX7_keepsBy_92 (by decide) ?_ ?_
        · refine tr_V.iconst (v := (1 : Int32)) dX7_keepsBy_95 (by decide) ?_
          refine tr_V.goto (tgt := 114) dX7_keepsBy_96 (by decide) ?_
          exact tr_V.zret (by decide) dX7_keepsBy_114 rfl (fun h => h)
        · refine tr_V.iconst (v := (0 : Int32)) dX7_keepsBy_99 (by decide) ?_
          refine tr_V.goto (tgt := 114) dX7_keepsBy_100 (by decide) ?_
          exact tr_V.zret (by decide) dX7_keepsBy_114 rfl (fun h => h)
      · refine tr_V.iload_n (i := 3) dX7_keepsBy_103 rfl rfl ?_
        refine tr_V.iload dX7_keepsBy_104 rfl ?_
        refine tr_V.icmp_eq (tgt := 113) dX7_keepsBy_106 (by decide) ?_ ?_
        · refine tr_V.iconst (v := (0 : Int32)) dX7_keepsBy_113 (by decide) ?_
          exact tr_V.zret (by decide) dX7_keepsBy_114 rfl (fun h => h)
        · refine tr_V.iconst (v := (1 : Int32)) dX7_keepsBy_109 (by decide) ?_
          refine tr_V.goto (tgt := 114) dX7_keepsBy_110 (by decide) ?_
          exact tr_V.zret (by decide) dX7_keepsBy_114 rfl (fun h => h)
    · refine tr_V.case (k := (3 : Int32)) (fun c11 => ?_) (fun c11 => ?_)
      · refine tr_V.tableIn (tgt := 115) dX7_keepsBy_22 c11 (by decide) rfl (by decide) ?_
        refine tr_V.iload dX7_keepsBy_115 rfl ?_
        refine tr_V.iload dX7_keepsBy_117 rfl ?_
        refine tr_V.icmp_ne (tgt := 129) dX7_keepsBy_119 (by decide) ?_ ?_
        · refine tr_V.iload dX7_keepsBy_122 rfl ?_
          refine tr_V.iload dX7_keepsBy_124 rfl ?_
          refine tr_V.icmp_ne (tgt := 133) dX7_keepsBy_126 (by decide) ?_ ?_
          · refine tr_V.iconst (v := (1 : Int32)) dX7_keepsBy_129 (by decide) ?_
            refine tr_V.goto (tgt := 134) dX7_keepsBy_130 (by decide) ?_
            exact tr_V.zret (by decide) dX7_keepsBy_134 rfl (fun h => h)
          · refine tr_V.iconst (v := (0 : Int32)) dX7_keepsBy_133 (by decide) ?_
            exact tr_V.zret (by decide) dX7_keepsBy_134 rfl (fun h => h)
        · refine tr_V.iconst (v := (1 : Int32)) dX7_keepsBy_129 (by decide) ?_
          refine tr_V.goto (tgt := 134) dX7_keepsBy_130 (by decide) ?_
          exact tr_V.zret (by decide) dX7_keepsBy_134 rfl (fun h => h)
      · refine tr_V.case (k := (4 : Int32)) (fun c12 => ?_) (fun c12 => ?_)
        · refine tr_V.tableIn (tgt := 135) dX7_keepsBy_22 c12 (by decide) rfl (by decide) ?_
          refine tr_V.iload dX7_keepsBy_135 rfl ?_
          refine tr_V.iload dX7_keepsBy_137 rfl ?_
          refine tr_V.icmp_ne (tgt := 149) dX7_keepsBy_139 (by decide) ?_ ?_
          · refine tr_V.iload dX7_keepsBy_142 rfl ?_
            refine tr_V.iload dX7_keepsBy_144 rfl ?_
            refine tr_V.icmp_gt (tgt := 153) dX7_keepsBy_146 (by decide) ?_ ?_
            · refine tr_V.iconst (v := (0 : Int32)) dX7_keepsBy_153 (by decide) ?_
              exact tr_V.zret (by decide) dX7_keepsBy_154 rfl (fun h => h)
            · refine tr_V.iconst (v := (1 : Int32)) dX7_keepsBy_149 (by decide) ?_
              refine tr_V.goto (tgt := 154) dX7_keepsBy_150 (by decide) ?_
              exact tr_V.zret (by decide) dX7_keepsBy_154 rfl (fun h => h)
          · refine tr_V.iconst (v := (1 : Int32)) dX7_keepsBy_149 (by decide) ?_
            refine tr_V.goto (tgt := 154) dX7_keepsBy_150 (by decide) ?_
            exact tr_V.zret (by decide) dX7_keepsBy_154 rfl (fun h => h)
        · refine tr_V.case (k := (5 : Int32)) (fun c14 => ?_) (fun c14 => ?_)
          · refine tr_V.tableIn (tgt := 155) dX7_keepsBy_22 c14 (by decide) rfl (by decide) ?_
            refine tr_V.iload dX7_keepsBy_155 rfl ?_
            refine tr_V.iload dX7_keepsBy_157 rfl ?_
            refine tr_V.seqE (τ := Unit) (pc' := 168) (L := fun v13 => [(3, some (.int p3)), (4, some (.int p4)), (6, some (.int c1)), (7, some (.int c3))]) (S := fun v13 => []) (Mf := fun v13 => M) ?_ ?_
            · refine tr_V.icmp_ne (tgt := 168) dX7_keepsBy_159 (by decide) ?_ ?_
              · refine tr_V.iload_n (i := 3) dX7_keepsBy_162 rfl rfl ?_
                refine tr_V.iload dX7_keepsBy_163 rfl ?_
                refine tr_V.icmp_eq (tgt := 185) dX7_keepsBy_165 (by decide) ?_ ?_
                · refine tr_V.iconst (v := (0 : Int32)) dX7_keepsBy_185 (by decide) ?_
                  exact tr_V.zret (by decide) dX7_keepsBy_186 rfl (fun h => h)
                · exact tr_V.to (fun h => h) ⟨rfl, rfl, rfl, rfl, trivial⟩
              · exact tr_V.to (fun h => h) ⟨rfl, rfl, rfl, rfl, trivial⟩
            · intro v13
              refine tr_V.iload dX7_keepsBy_168 rfl ?_
              refine tr_V.iload dX7_keepsBy_170 rfl ?_
              refine tr_V.icmp_ne (tgt := 181) dX7_keepsBy_172 (by decide) ?_ ?_
              · refine tr_V.iload_n (i := 3) dX7_keepsBy_175 rfl rfl ?_
                refine tr_V.iload dX7_keepsBy_176 rfl ?_
                refine tr_V.icmp_eq (tgt := 185) dX7_keepsBy_178 (by decide) ?_ ?_
                · refine tr_V.iconst (v := (0 : Int32)) dX7_keepsBy_185 (by decide) ?_
                  exact tr_V.zret (by decide) dX7_keepsBy_186 rfl (fun h => h)
                · refine tr_V.iconst (v := (1 : Int32)) dX7_keepsBy_181 (by decide) ?_
                  refine tr_V.goto (tgt := 186) dX7_keepsBy_182 (by decide) ?_
                  exact tr_V.zret (by decide) dX7_keepsBy_186 rfl (fun h => h)
              · refine tr_V.iconst (v := (1 : Int32)) dX7_keepsBy_181 (by decide) ?_
                refine tr_V.goto (tgt := 186) dX7_keepsBy_182 (by decide) ?_
                exact tr_V.zret (by decide) dX7_keepsBy_186 rfl (fun h => h)
          · refine tr_V.case (k := (6 : Int32)) (fun c21 => ?_) (fun c21 => ?_)
            · refine tr_V.tableIn (tgt := 187) dX7_keepsBy_22 c21 (by decide) rfl (by decide) ?_
              refine tr_V.iload dX7_keepsBy_187 rfl ?_
              refine tr_V.iload dX7_keepsBy_189 rfl ?_
              refine tr_V.icmp_ne (tgt := 213) dX7_keepsBy_191 (by decide) ?_ ?_
              · refine tr_V.iload_n (i := 2) dX7_keepsBy_194 rfl rfl ?_
                refine tr_V.iload dX7_keepsBy_195 rfl ?_
                refine tr_V.callS (C_X7_has p2 c3 M) yk_X7_has sc_X7_has ml_X7_186 ⟨rfl, Nat.le_of_ble_eq_true rfl⟩ rfl (Nat.le_of_ble_eq_true rfl) rfl dX7_keepsBy_197 ?_
                refine tr_V.iload_n (i := 2) dX7_keepsBy_200 rfl rfl ?_
                refine tr_V.aload_n (i := 0) dX7_keepsBy_201 rfl rfl ?_
                refine tr_V.iload_n (i := 1) dX7_keepsBy_202 rfl rfl ?_
                refine tr_V.iconst (v := (3 : Int32)) dX7_keepsBy_203 (by decide) ?_
                refine tr_V.bd (fun c17 h18 => ?_)
                refine tr_V.callV (C_X7_ruleAt p1 (3 : Int32) M _ h18) yk_X7_ruleAt iv_X7_ruleAt ml_X7_180 shM_1 rfl ⟨rfl, Nat.le_of_ble_eq_true rfl⟩ rfl (Nat.le_of_ble_eq_true rfl) rfl dX7_keepsBy_204 ?_
                refine tr_V.callS (C_X7_has p2 c17 M) yk_X7_has sc_X7_has ml_X7_186 ⟨rfl, Nat.le_of_ble_eq_true rfl⟩ rfl (Nat.le_of_ble_eq_true rfl) rfl dX7_keepsBy_207 ?_
                refine tr_V.icmp_eq (tgt := 217) dX7_keepsBy_210 (by decide) ?_ ?_
                · refine tr_V.iconst (v := (0 : Int32)) dX7_keepsBy_217 (by decide) ?_
                  exact tr_V.zret (by decide) dX7_keepsBy_218 rfl (fun h => h)
                · refine tr_V.iconst (v := (1 : Int32)) dX7_keepsBy_213 (by decide) ?_
                  refine tr_V.goto (tgt := 218) dX7_keepsBy_214 (by decide) ?_
                  exact tr_V.zret (by decide) dX7_keepsBy_218 rfl (fun h => h)
              · refine tr_V.iconst (v := (1 : Int32)) dX7_keepsBy_213 (by decide) ?_
                refine tr_V.goto (tgt := 218) dX7_keepsBy_214 (by decide) ?_
                exact tr_V.zret (by decide) dX7_keepsBy_218 rfl (fun h => h)
            · refine tr_V.tableOut (tgt := 219) dX7_keepsBy_22 (by have := lv_neT c9 (a := 1) (by decide); have := lv_neT c10 (a := 2) (by decide); have := lv_neT c11 (a := 3) (by decide); have := lv_neT c12 (a := 4) (by decide); have := lv_neT c14 (a := 5) (by decide); have := lv_neT c21 (a := 6) (by decide); omega) (by decide) ?_
              refine tr_V.iconst (v := (1 : Int32)) dX7_keepsBy_219 (by decide) ?_
              exact tr_V.zret (by decide) dX7_keepsBy_220 rfl (fun h => h)
abbrev xX7_mayCome : tr_X := (cX7_mayCome, 7, RX7, (some .boolean), 3, shM, 24)
theorem cw_X7_mayCome : Cond.code yX7_mayCome cX7_mayCome 7 (some .boolean) ∈ tr_tbl := tr_in 1545 (by decide +kernel) rfl
theorem yk_X7_mayCome : tr_yk yX7_mayCome (xX7_mayCome) 3 := ⟨cw_X7_mayCome, in_X7, ⟨by decide +kernel, by decide +kernel, by decide +kernel⟩, Nat.le_of_ble_eq_true rfl⟩
theorem iv_X7_mayCome : Cond.instanceMethod yX7_mayCome ∈ tr_tbl ∧ Cond.selects (yX7_mayCome).cls yX7_mayCome yX7_mayCome ∈ tr_tbl := ⟨tr_in 1544 (by decide +kernel) rfl, tr_in 95 (by decide +kernel) rfl⟩
def mX7_mayCome_l67 (p1 : Int32) (p2 : Int32) (p3 : Int32) (M : tr_M) (c1 : Int32) (s7 : Int32 × Int32) : Option ((Int32 × Int32) ⊕ (Int32)) :=
  if s7.2 < (M.1 1 12) then (
    if s7.1 = 0 then (
      Option.bind (tr_gd (s7.1 &&& 1 == s7.1)) (fun _ => some (.inr s7.1))
    ) else (
      Option.bind (mX7_ruleAt s7.2 (4 : Int32) M) (fun c10 =>
      if c10 = (1 : Int32) then (
        some (.inl ((1 : Int32), (s7.2 + (1 : Int32))))
      ) else (
        Option.bind (mX7_keepsBy s7.2 p1 p2 p3 c1 M) (fun c12 =>
        if c12 = 0 then (
          some (.inl ((0 : Int32), (s7.2 + (1 : Int32))))
        ) else (
          some (.inl ((1 : Int32), (s7.2 + (1 : Int32))))
        )
        )
      )
      )
    )
  ) else (
    Option.bind (tr_gd (s7.1 &&& 1 == s7.1)) (fun _ => some (.inr s7.1))
  )
def mX7_mayCome (p1 : Int32) (p2 : Int32) (p3 : Int32) (M : tr_M) : Option (Int32) :=
  Option.bind (mX7_bits p1) (fun c1 =>
  Option.bind (show Option (Int32) from
    if (mX7_has p1 p3) = 0 then (
      Option.bind (show Option ((Unit) ⊕ (Int32)) from
        if (M.1 1 27) = p3 then (
          if (M.1 1 28) = c1 then (
            some (.inl ())
          ) else (
            some (.inr (0 : Int32))
          )
        ) else (
          some (.inl ())
        )
      ) (tr_el (fun (v6 : Unit) =>
        if (M.1 1 27) = (-9 : Int32) then (
          some (1 : Int32)
        ) else (
          if (M.1 1 28) = c1 then (
            if (M.1 1 27) = p3 then (
              some (1 : Int32)
            ) else (
              some (0 : Int32)
            )
          ) else (
            some (1 : Int32)
          )
        )
      ))
    ) else (
      some (0 : Int32)
    )
  ) (fun (v5 : Int32) =>
    tr_loop (mX7_mayCome_l67 p1 p2 p3 M c1) (v5, (0 : Int32))
  )
  )
set_option maxRecDepth 100000 in
set_option maxHeartbeats 4000000 in
theorem C_X7_mayCome (p1 : Int32) (p2 : Int32) (p3 : Int32) (M : tr_M) (r : Int32) (h : mX7_mayCome p1 p2 p3 M = some r) : tr_I yX7_mayCome (xX7_mayCome) [.ref 1, .int p1, .int p2, .int p3] M (some (.int r)) M := by
  refine tr_I.of (Z := fun q : Int32 => (some (.int r) : Option Value) = some (.int q) ∧ M = M) pn_X7 rfl gdM (Nat.le_of_ble_eq_true rfl) (fun Wt => ?_) h ⟨rfl, rfl⟩
  unfold mX7_mayCome
  refine tr_V.iload_n (i := 1) dX7_mayCome_0 rfl rfl ?_
  refine tr_V.bd (fun c1 h2 => ?_)
  refine tr_V.callS (C_X7_bits p1 M _ h2) yk_X7_bits sc_X7_bits ml_X7_226 ⟨rfl, Nat.le_of_ble_eq_true rfl⟩ rfl (Nat.le_of_ble_eq_true rfl) rfl dX7_mayCome_1 ?_
  refine tr_V.istore (i := 4) dX7_mayCome_4 (Nat.le_of_ble_eq_true rfl) rfl ?_
  refine tr_V.iload_n (i := 1) dX7_mayCome_6 rfl rfl ?_
  refine tr_V.iload_n (i := 3) dX7_mayCome_7 rfl rfl ?_
  refine tr_V.callS (C_X7_has p1 p3 M) yk_X7_has sc_X7_has ml_X7_186 ⟨rfl, Nat.le_of_ble_eq_true rfl⟩ rfl (Nat.le_of_ble_eq_true rfl) rfl dX7_mayCome_8 ?_
  refine tr_V.seq (τ := Int32) (pc' := 62) (L := fun v5 => [(0, some (.ref 1)), (1, some (.int p1)), (2, some (.int p2)), (3, some (.int p3)), (4, some (.int c1))]) (S := fun v5 => [.int v5]) (Mf := fun v5 => M) ?_ ?_
  · refine tr_V.if_ne (tgt := 61) dX7_mayCome_11 (by decide) ?_ ?_
    · refine tr_V.aload_n (i := 0) dX7_mayCome_14 rfl rfl ?_
      refine tr_V.getI fl_X7_85 shM_1 rfl dX7_mayCome_15 ?_
      refine tr_V.iload_n (i := 3) dX7_mayCome_18 rfl rfl ?_
      refine tr_V.seqE (τ := Unit) (pc' := 31) (L := fun v6 => [(0, some (.ref 1)), (1, some (.int p1)), (2, some (.int p2)), (3, some (.int p3)), (4, some (.int c1))]) (S := fun v6 => []) (Mf := fun v6 => M) ?_ ?_
      · refine tr_V.icmp_ne (tgt := 31) dX7_mayCome_19 (by decide) ?_ ?_
        · refine tr_V.aload_n (i := 0) dX7_mayCome_22 rfl rfl ?_
          refine tr_V.getI fl_X7_229 shM_1 rfl dX7_mayCome_23 ?_
          refine tr_V.iload dX7_mayCome_26 rfl ?_
          refine tr_V.icmp_ne (tgt := 61) dX7_mayCome_28 (by decide) ?_ ?_
          · exact tr_V.to (fun h => h) ⟨rfl, rfl, rfl, rfl, rfl, trivial⟩
          · refine tr_V.iconst (v := (0 : Int32)) dX7_mayCome_61 (by decide) ?_
            exact tr_V.to (fun h => h) ⟨rfl, rfl, rfl, rfl, rfl, trivial⟩
        · exact tr_V.to (fun h => h) ⟨rfl, rfl, rfl, rfl, rfl, trivial⟩
      · intro v6
        refine tr_V.aload_n (i := 0) dX7_mayCome_31 rfl rfl ?_
        refine tr_V.getI fl_X7_85 shM_1 rfl dX7_mayCome_32 ?_
        refine tr_V.bipush (v := (-9 : Int32)) dX7_mayCome_35 (by decide) ?_
        refine tr_V.icmp_eq (tgt := 57) dX7_mayCome_37 (by decide) ?_ ?_
        · refine tr_V.iconst (v := (1 : Int32)) dX7_mayCome_57 (by decide) ?_
          refine tr_V.goto (tgt := 62) dX7_mayCome_58 (by decide) ?_
          exact tr_V.to (fun h => h) ⟨rfl, rfl, rfl, rfl, rfl, trivial⟩
        · refine tr_V.aload_n (i := 0) dX7_mayCome_40 rfl rfl ?_
          refine tr_V.getI fl_X7_229 shM_1 rfl dX7_mayCome_41 ?_
          refine tr_V.iload dX7_mayCome_44 rfl ?_
          refine tr_V.icmp_ne (tgt := 57) dX7_mayCome_46 (by decide) ?_ ?_
          · refine tr_V.aload_n (i := 0) dX7_mayCome_49 rfl rfl ?_
            refine tr_V.getI fl_X7_85 shM_1 rfl dX7_mayCome_50 ?_
            refine tr_V.iload_n (i := 3) dX7_mayCome_53 rfl rfl ?_
            refine tr_V.icmp_ne (tgt := 61) dX7_mayCome_54 (by decide) ?_ ?_
            · refine tr_V.iconst (v := (1 : Int32)) dX7_mayCome_57 (by decide) ?_
              refine tr_V.goto (tgt := 62) dX7_mayCome_58 (by decide) ?_
              exact tr_V.to (fun h => h) ⟨rfl, rfl, rfl, rfl, rfl, trivial⟩
            · refine tr_V.iconst (v := (0 : Int32)) dX7_mayCome_61 (by decide) ?_
              exact tr_V.to (fun h => h) ⟨rfl, rfl, rfl, rfl, rfl, trivial⟩
          · refine tr_V.iconst (v := (1 : Int32)) dX7_mayCome_57 (by decide) ?_
            refine tr_V.goto (tgt := 62) dX7_mayCome_58 (by decide) ?_
            exact tr_V.to (fun h => h) ⟨rfl, rfl, rfl, rfl, rfl, trivial⟩
    · refine tr_V.iconst (v := (0 : Int32)) dX7_mayCome_61 (by decide) ?_
      exact tr_V.to (fun h => h) ⟨rfl, rfl, rfl, rfl, rfl, trivial⟩
  · intro v5
    refine tr_V.istore (i := 5) dX7_mayCome_62 (Nat.le_of_ble_eq_true rfl) rfl ?_
    refine tr_V.iconst (v := (0 : Int32)) dX7_mayCome_64 (by decide) ?_
    refine tr_V.istore (i := 6) dX7_mayCome_65 (Nat.le_of_ble_eq_true rfl) rfl ?_
    refine tr_V.loop (σ := Int32 × Int32) (step := mX7_mayCome_l67 p1 p2 p3 M c1) (L := fun s7 => [(0, some (.ref 1)), (1, some (.int p1)), (2, some (.int p2)), (3, some (.int p3)), (4, some (.int c1)), (5, some (.int s7.1)), (6, some (.int s7.2))]) (Mf := fun s7 => M) ?_ (v5, (0 : Int32)) ⟨rfl, rfl, rfl, rfl, rfl, rfl, rfl, trivial⟩
    intro s7
    refine tr_V.iload dX7_mayCome_67 rfl ?_
    refine tr_V.aload_n (i := 0) dX7_mayCome_69 rfl rfl ?_
    refine tr_V.getI fl_X7_160 shM_1 rfl dX7_mayCome_70 ?_
    refine tr_V.icmp_ge (tgt := 119) dX7_mayCome_73 (by decide) ?_ ?_
    · refine tr_V.iload dX7_mayCome_76 rfl ?_
      refine tr_V.if_eq (tgt := 119) dX7_mayCome_78 (by decide) ?_ ?_
      · refine tr_V.iload dX7_mayCome_119 rfl ?_
        refine tr_V.gd (fun h8 => ?_)
        exact tr_V.zret h8 dX7_mayCome_121 rfl (fun h => h)
      · refine tr_V.aload_n (i := 0) dX7_mayCome_81 rfl rfl ?_
        refine tr_V.iload dX7_mayCome_82 rfl ?_
        refine tr_V.iconst (v := (4 : Int32)) dX7_mayCome_84 (by decide) ?_
        refine tr_V.bd (fun c10 h11 => ?_)
        refine tr_V.callV (C_X7_ruleAt s7.2 (4 : Int32) M _ h11) yk_X7_ruleAt iv_X7_ruleAt ml_X7_180 shM_1 rfl ⟨rfl, Nat.le_of_ble_eq_true rfl⟩ rfl (Nat.le_of_ble_eq_true rfl) rfl dX7_mayCome_85 ?_
        refine tr_V.iconst (v := (1 : Int32)) dX7_mayCome_88 (by decide) ?_
        refine tr_V.icmp_eq (tgt := 106) dX7_mayCome_89 (by decide) ?_ ?_
        · refine tr_V.iconst (v := (1 : Int32)) dX7_mayCome_106 (by decide) ?_
          refine tr_V.goto (tgt := 111) dX7_mayCome_107 (by decide) ?_
          refine tr_V.istore (i := 5) dX7_mayCome_111 (Nat.le_of_ble_eq_true rfl) rfl ?_
          refine tr_V.iinc (cst := (1 : Int32)) dX7_mayCome_113 rfl (by decide) rfl ?_
          refine tr_V.goto (tgt := 67) dX7_mayCome_116 (by decide) ?_
          exact tr_V.to (fun h => h) ⟨rfl, rfl, rfl, rfl, rfl, rfl, rfl, trivial⟩
        · refine tr_V.aload_n (i := 0) dX7_mayCome_92 rfl rfl ?_
          refine tr_V.iload dX7_mayCome_93 rfl ?_
          refine tr_V.iload_n (i := 1) dX7_mayCome_95 rfl rfl ?_
          refine tr_V.iload_n (i := 2) dX7_mayCome_96 rfl rfl ?_
          refine tr_V.iload_n (i := 3) dX7_mayCome_97 rfl rfl ?_
          refine tr_V.iload dX7_mayCome_98 rfl ?_
          refine tr_V.bd (fun c12 h13 => ?_)
          refine tr_V.callV (C_X7_keepsBy s7.2 p1 p2 p3 c1 M _ h13) yk_X7_keepsBy iv_X7_keepsBy ml_X7_232 shM_1 rfl ⟨rfl, Nat.le_of_ble_eq_true rfl⟩ rfl (Nat.le_of_ble_eq_true rfl) rfl dX7_mayCome_100 ?_
          refine tr_V.if_eq (tgt := 110) dX7_mayCome_103 (by decide) ?_ ?_
          · refine tr_V.iconst (v := (0 : Int32)) dX7_mayCome_110 (by decide) ?_
            refine tr_V.istore (i := 5) dX7_mayCome_111 (Nat.le_of_ble_eq_true rfl) rfl ?_
            refine tr_V.iinc (cst := (1 : Int32)) dX7_mayCome_113 rfl (by decide) rfl ?_
            refine tr_V.goto (tgt := 67) dX7_mayCome_116 (by decide) ?_
            exact tr_V.to (fun h => h) ⟨rfl, rfl, rfl, rfl, rfl, rfl, rfl, trivial⟩
          · refine tr_V.iconst (v := (1 : Int32)) dX7_mayCome_106 (by decide) ?_
            refine tr_V.goto (tgt := 111) dX7_mayCome_107 (by decide) ?_
            refine tr_V.istore (i := 5) dX7_mayCome_111 (Nat.le_of_ble_eq_true rfl) rfl ?_
            refine tr_V.iinc (cst := (1 : Int32)) dX7_mayCome_113 rfl (by decide) rfl ?_
            refine tr_V.goto (tgt := 67) dX7_mayCome_116 (by decide) ?_
            exact tr_V.to (fun h => h) ⟨rfl, rfl, rfl, rfl, rfl, rfl, rfl, trivial⟩
    · refine tr_V.iload dX7_mayCome_119 rfl ?_
      refine tr_V.gd (fun h14 => ?_)
      exact tr_V.zret h14 dX7_mayCome_121 rfl (fun h => h)
abbrev xX7_full : tr_X := (cX7_full, 1, RX7, (some .int), 1, shM, 24)
theorem cw_X7_full : Cond.code yX7_full cX7_full 1 (some .int) ∈ tr_tbl := tr_in 1534 (by decide +kernel) rfl
theorem yk_X7_full : tr_yk yX7_full (xX7_full) 0 := ⟨cw_X7_full, in_X7, ⟨by decide +kernel, by decide +kernel, by decide +kernel⟩, Nat.le_of_ble_eq_true rfl⟩
theorem iv_X7_full : Cond.instanceMethod yX7_full ∈ tr_tbl ∧ Cond.selects (yX7_full).cls yX7_full yX7_full ∈ tr_tbl := ⟨tr_in 1533 (by decide +kernel) rfl, tr_in 93 (by decide +kernel) rfl⟩
def mX7_full'  (M : tr_M) : Option Int32 :=
  some (((1 : Int32) <<< ((M.1 1 10) &&& 31)) - (1 : Int32))
def mX7_full  (M : tr_M) : Int32 :=
  (((1 : Int32) <<< ((M.1 1 10) &&& 31)) - (1 : Int32))
theorem mX7_full_eq  (M : tr_M) : mX7_full' M = some (mX7_full M) := by
  unfold mX7_full' mX7_full
  rfl
set_option maxRecDepth 100000 in
set_option maxHeartbeats 4000000 in
theorem C_X7_full  (M : tr_M) : tr_I yX7_full (xX7_full) [.ref 1] M (some (.int (mX7_full M))) M := by
  refine tr_I.of (Z := fun q : Int32 => (some (.int (mX7_full M)) : Option Value) = some (.int q) ∧ M = M) pn_X7 rfl gdM (Nat.le_of_ble_eq_true rfl) (fun Wt => ?_) (mX7_full_eq M) ⟨rfl, rfl⟩
  unfold mX7_full'
  refine tr_V.iconst (v := (1 : Int32)) dX7_full_0 (by decide) ?_
  refine tr_V.aload_n (i := 0) dX7_full_1 rfl rfl ?_
  refine tr_V.getI fl_X7_157 shM_1 rfl dX7_full_2 ?_
  refine tr_V.ishl dX7_full_5 ?_
  refine tr_V.iconst (v := (1 : Int32)) dX7_full_6 (by decide) ?_
  refine tr_V.isub dX7_full_7 ?_
  exact tr_V.iret dX7_full_8 rfl (fun h => h)
abbrev xX7_layEdges : tr_X := (cX7_layEdges, 4, RX7, (Option.none : Option Jvm.ClassFile.FieldType), 4, shM, 24)
theorem cw_X7_layEdges : Cond.code yX7_layEdges cX7_layEdges 4 (Option.none : Option Jvm.ClassFile.FieldType) ∈ tr_tbl := tr_in 1530 (by decide +kernel) rfl
theorem yk_X7_layEdges : tr_yk yX7_layEdges (xX7_layEdges) 2 := ⟨cw_X7_layEdges, in_X7, ⟨by decide +kernel, by decide +kernel, by decide +kernel⟩, Nat.le_of_ble_eq_true rfl⟩
theorem iv_X7_layEdges : Cond.instanceMethod yX7_layEdges ∈ tr_tbl ∧ Cond.selects (yX7_layEdges).cls yX7_layEdges yX7_layEdges ∈ tr_tbl := ⟨tr_in 1529 (by decide +kernel) rfl, tr_in 92 (by decide +kernel) rfl⟩
def mX7_layEdges_l2 (p1 : Int32) (p2 : Nat) (s1 : Int32 × tr_M) : Option ((Int32 × tr_M) ⊕ (tr_M)) :=
  if (mX7_full s1.2) < s1.1 then (
    some (.inr s1.2)
  ) else (
    if s1.1 = (mX7_full s1.2) then (
      Option.bind (tr_wr (tr_len shM p2) s1.2 p2 s1.1 (0 : Int32)) (fun M6 =>
      some (.inl ((s1.1 + (1 : Int32)), M6))
      )
    ) else (
      Option.bind (mX7_edgeOf p1 s1.1 s1.2) (fun c8 =>
      Option.bind (tr_wr (tr_len shM p2) s1.2 p2 s1.1 c8) (fun M10 =>
      some (.inl ((s1.1 + (1 : Int32)), M10))
      )
      )
    )
  )
def mX7_layEdges (p1 : Int32) (p2 : Nat) (M : tr_M) : Option (tr_M) :=
  tr_loop (mX7_layEdges_l2 p1 p2) ((0 : Int32), M)
set_option maxRecDepth 100000 in
set_option maxHeartbeats 4000000 in
theorem C_X7_layEdges (p1 : Int32) (p2 : Nat) (M M' : tr_M) (h : mX7_layEdges p1 p2 M = some M') : tr_I yX7_layEdges (xX7_layEdges) [.ref 1, .int p1, .ref p2] M none M' := by
  refine tr_I.of (Z := fun q : tr_M => (none : Option Value) = none ∧ M' = q) pn_X7 rfl gdM (Nat.le_of_ble_eq_true rfl) (fun Wt => ?_) h ⟨rfl, rfl⟩
  unfold mX7_layEdges
  refine tr_V.iconst (v := (0 : Int32)) dX7_layEdges_0 (by decide) ?_
  refine tr_V.istore_n (i := 3) dX7_layEdges_1 rfl (Nat.le_of_ble_eq_true rfl) rfl ?_
  refine tr_V.loop (σ := Int32 × tr_M) (step := mX7_layEdges_l2 p1 p2) (L := fun s1 => [(0, some (.ref 1)), (1, some (.int p1)), (2, some (.ref p2)), (3, some (.int s1.1))]) (Mf := fun s1 => s1.2) ?_ ((0 : Int32), M) ⟨rfl, rfl, rfl, rfl, trivial⟩
  intro s1
  refine tr_V.iload_n (i := 3) dX7_layEdges_2 rfl rfl ?_
  refine tr_V.aload_n (i := 0) dX7_layEdges_3 rfl rfl ?_
  refine tr_V.callV (C_X7_full s1.2) yk_X7_full iv_X7_full ml_X7_236 shM_1 rfl ⟨rfl, Nat.le_of_ble_eq_true rfl⟩ rfl (Nat.le_of_ble_eq_true rfl) rfl dX7_layEdges_4 ?_
  refine tr_V.icmp_gt (tgt := 37) dX7_layEdges_7 (by decide) ?_ ?_
  · exact tr_V.vret dX7_layEdges_37 rfl (fun h => h)
  · refine tr_V.aload_n (i := 2) dX7_layEdges_10 rfl rfl ?_
    refine tr_V.iload_n (i := 3) dX7_layEdges_11 rfl rfl ?_
    refine tr_V.iload_n (i := 3) dX7_layEdges_12 rfl rfl ?_
    refine tr_V.aload_n (i := 0) dX7_layEdges_13 rfl rfl ?_
    refine tr_V.callV (C_X7_full s1.2) yk_X7_full iv_X7_full ml_X7_236 shM_1 rfl ⟨rfl, Nat.le_of_ble_eq_true rfl⟩ rfl (Nat.le_of_ble_eq_true rfl) rfl dX7_layEdges_14 ?_
    refine tr_V.icmp_ne (tgt := 24) dX7_layEdges_17 (by decide) ?_ ?_
    · refine tr_V.iconst (v := (0 : Int32)) dX7_layEdges_20 (by decide) ?_
      refine tr_V.goto (tgt := 30) dX7_layEdges_21 (by decide) ?_
      refine tr_V.bd (fun M6 h7 => ?_)
      refine tr_V.iastL h7 dX7_layEdges_30 ?_
      refine tr_V.iinc (cst := (1 : Int32)) dX7_layEdges_31 rfl (by decide) rfl ?_
      refine tr_V.goto (tgt := 2) dX7_layEdges_34 (by decide) ?_
      exact tr_V.to (fun h => h) ⟨rfl, rfl, rfl, rfl, trivial⟩
    · refine tr_V.aload_n (i := 0) dX7_layEdges_24 rfl rfl ?_
      refine tr_V.iload_n (i := 1) dX7_layEdges_25 rfl rfl ?_
      refine tr_V.iload_n (i := 3) dX7_layEdges_26 rfl rfl ?_
      refine tr_V.bd (fun c8 h9 => ?_)
      refine tr_V.callV (C_X7_edgeOf p1 s1.1 s1.2 _ h9) yk_X7_edgeOf iv_X7_edgeOf ml_X7_205 shM_1 rfl ⟨rfl, Nat.le_of_ble_eq_true rfl⟩ rfl (Nat.le_of_ble_eq_true rfl) rfl dX7_layEdges_27 ?_
      refine tr_V.bd (fun M10 h11 => ?_)
      refine tr_V.iastL h11 dX7_layEdges_30 ?_
      refine tr_V.iinc (cst := (1 : Int32)) dX7_layEdges_31 rfl (by decide) rfl ?_
      refine tr_V.goto (tgt := 2) dX7_layEdges_34 (by decide) ?_
      exact tr_V.to (fun h => h) ⟨rfl, rfl, rfl, rfl, trivial⟩
abbrev xX7_bestFrom : tr_X := (cX7_bestFrom, 9, RX7, (some .int), 4, shM, 24)
theorem cw_X7_bestFrom : Cond.code yX7_bestFrom cX7_bestFrom 9 (some .int) ∈ tr_tbl := tr_in 1541 (by decide +kernel) rfl
theorem yk_X7_bestFrom : tr_yk yX7_bestFrom (xX7_bestFrom) 3 := ⟨cw_X7_bestFrom, in_X7, ⟨by decide +kernel, by decide +kernel, by decide +kernel⟩, Nat.le_of_ble_eq_true rfl⟩
theorem iv_X7_bestFrom : Cond.instanceMethod yX7_bestFrom ∈ tr_tbl ∧ Cond.selects (yX7_bestFrom).cls yX7_bestFrom yX7_bestFrom ∈ tr_tbl := ⟨tr_in 1540 (by decide +kernel) rfl, tr_in 94 (by decide +kernel) rfl⟩
def mX7_bestFrom_l7 (p1 : Int32) (p2 : Int32) (p3 : Int32) (M : tr_M) (s1 : Int32 × Int32) : Option ((Int32 × Int32) ⊕ (Int32)) :=
  if s1.2 < (M.1 1 10) then (
    Option.bind (mX7_mayCome p2 p3 s1.2 M) (fun c2 =>
    if c2 = 0 then (
      some (.inl (s1.1, (s1.2 + (1 : Int32))))
    ) else (
      Option.bind (tr_rd 10240 M 16 (mX7_spot (p2 ||| ((1 : Int32) <<< (s1.2 &&& 31))) s1.2)) (fun a6 =>
      Option.bind (show Option (Int32) from
        if a6 < (1000000 : Int32) then (
          if (mX7_isSum p1) = 0 then (
            Option.bind (tr_rd 1024 M 14 (p2 ||| ((1 : Int32) <<< (s1.2 &&& 31)))) (fun a11 =>
            some (mX7_greater a11 a6)
            )
          ) else (
            Option.bind (tr_rd 1024 M 14 (p2 ||| ((1 : Int32) <<< (s1.2 &&& 31)))) (fun a15 =>
            some (a15 + a6)
            )
          )
        ) else (
          some (1000000 : Int32)
        )
      ) (fun (v8 : Int32) =>
        some (.inl ((mX7_lesser s1.1 v8), (s1.2 + (1 : Int32))))
      )
      )
    )
    )
  ) else (
    some (.inr s1.1)
  )
def mX7_bestFrom (p1 : Int32) (p2 : Int32) (p3 : Int32) (M : tr_M) : Option (Int32) :=
  tr_loop (mX7_bestFrom_l7 p1 p2 p3 M) ((1000000 : Int32), (0 : Int32))
set_option maxRecDepth 100000 in
set_option maxHeartbeats 4000000 in
theorem C_X7_bestFrom (p1 : Int32) (p2 : Int32) (p3 : Int32) (M : tr_M) (r : Int32) (h : mX7_bestFrom p1 p2 p3 M = some r) : tr_I yX7_bestFrom (xX7_bestFrom) [.ref 1, .int p1, .int p2, .int p3] M (some (.int r)) M := by
  refine tr_I.of (Z := fun q : Int32 => (some (.int r) : Option Value) = some (.int q) ∧ M = M) pn_X7 rfl gdM (Nat.le_of_ble_eq_true rfl) (fun Wt => ?_) h ⟨rfl, rfl⟩
  unfold mX7_bestFrom
  refine tr_V.ldc ct_X7_246 dX7_bestFrom_0 ?_
  refine tr_V.istore (i := 4) dX7_bestFrom_2 (Nat.le_of_ble_eq_true rfl) rfl ?_
  refine tr_V.iconst (v := (0 : Int32)) dX7_bestFrom_4 (by decide) ?_
  refine tr_V.istore (i := 5) dX7_bestFrom_5 (Nat.le_of_ble_eq_true rfl) rfl ?_
  refine tr_V.loop (σ := Int32 × Int32) (step := mX7_bestFrom_l7 p1 p2 p3 M) (L := fun s1 => [(0, some (.ref 1)), (1, some (.int p1)), (2, some (.int p2)), (3, some (.int p3)), (4, some (.int s1.1)), (5, some (.int s1.2))]) (Mf := fun s1 => M) ?_ ((1000000 : Int32), (0 : Int32)) ⟨rfl, rfl, rfl, rfl, rfl, rfl, trivial⟩
  intro s1
  refine tr_V.iload dX7_bestFrom_7 rfl ?_
  refine tr_V.aload_n (i := 0) dX7_bestFrom_9 rfl rfl ?_
  refine tr_V.getI fl_X7_157 shM_1 rfl dX7_bestFrom_10 ?_
  refine tr_V.icmp_ge (tgt := 110) dX7_bestFrom_13 (by decide) ?_ ?_
  · refine tr_V.aload_n (i := 0) dX7_bestFrom_16 rfl rfl ?_
    refine tr_V.iload_n (i := 2) dX7_bestFrom_17 rfl rfl ?_
    refine tr_V.iload_n (i := 3) dX7_bestFrom_18 rfl rfl ?_
    refine tr_V.iload dX7_bestFrom_19 rfl ?_
    refine tr_V.bd (fun c2 h3 => ?_)
    refine tr_V.callV (C_X7_mayCome p2 p3 s1.2 M _ h3) yk_X7_mayCome iv_X7_mayCome ml_X7_254 shM_1 rfl ⟨rfl, Nat.le_of_ble_eq_true rfl⟩ rfl (Nat.le_of_ble_eq_true rfl) rfl dX7_bestFrom_21 ?_
    refine tr_V.if_eq (tgt := 104) dX7_bestFrom_24 (by decide) ?_ ?_
    · refine tr_V.iinc (cst := (1 : Int32)) dX7_bestFrom_104 rfl (by decide) rfl ?_
      refine tr_V.goto (tgt := 7) dX7_bestFrom_107 (by decide) ?_
      exact tr_V.to (fun h => h) ⟨rfl, rfl, rfl, rfl, rfl, rfl, trivial⟩
    · refine tr_V.iload_n (i := 2) dX7_bestFrom_27 rfl rfl ?_
      refine tr_V.iconst (v := (1 : Int32)) dX7_bestFrom_28 (by decide) ?_
      refine tr_V.iload dX7_bestFrom_29 rfl ?_
      refine tr_V.ishl dX7_bestFrom_31 ?_
      refine tr_V.ior dX7_bestFrom_32 ?_
      refine tr_V.istore (i := 6) dX7_bestFrom_33 (Nat.le_of_ble_eq_true rfl) rfl ?_
      refine tr_V.aload_n (i := 0) dX7_bestFrom_35 rfl rfl ?_
      refine tr_V.getR (Nat.succ_pos _) fl_X7_53 shM_1 rfl dX7_bestFrom_36 ?_
      refine tr_V.iload dX7_bestFrom_39 rfl ?_
      refine tr_V.iload dX7_bestFrom_41 rfl ?_
      refine tr_V.callS (C_X7_spot (p2 ||| ((1 : Int32) <<< (s1.2 &&& 31))) s1.2 M) yk_X7_spot sc_X7_spot ml_X7_243 ⟨rfl, Nat.le_of_ble_eq_true rfl⟩ rfl (Nat.le_of_ble_eq_true rfl) rfl dX7_bestFrom_43 ?_
      refine tr_V.bd (fun a6 h7 => ?_)
      refine tr_V.iald h7 shM_16 dX7_bestFrom_46 ?_
      refine tr_V.istore (i := 7) dX7_bestFrom_47 (Nat.le_of_ble_eq_true rfl) rfl ?_
      refine tr_V.iload dX7_bestFrom_49 rfl ?_
      refine tr_V.ldc ct_X7_246 dX7_bestFrom_51 ?_
      refine tr_V.seq (τ := Int32) (pc' := 93) (L := fun v8 => [(0, some (.ref 1)), (1, some (.int p1)), (2, some (.int p2)), (3, some (.int p3)), (4, some (.int s1.1)), (5, some (.int s1.2))]) (S := fun v8 => [.int v8]) (Mf := fun v8 => M) ?_ ?_
      · refine tr_V.icmp_lt (tgt := 61) dX7_bestFrom_53 (by decide) ?_ ?_
        · refine tr_V.iload_n (i := 1) dX7_bestFrom_61 rfl rfl ?_
          refine tr_V.callS (C_X7_isSum p1 M) yk_X7_isSum sc_X7_isSum ml_X7_208 ⟨rfl, Nat.le_of_ble_eq_true rfl⟩ rfl (Nat.le_of_ble_eq_true rfl) rfl dX7_bestFrom_62 ?_
          refine tr_V.if_eq (tgt := 81) dX7_bestFrom_65 (by decide) ?_ ?_
          · refine tr_V.aload_n (i := 0) dX7_bestFrom_81 rfl rfl ?_
            refine tr_V.getR (Nat.succ_pos _) fl_X7_47 shM_1 rfl dX7_bestFrom_82 ?_
            refine tr_V.iload dX7_bestFrom_85 rfl ?_
            refine tr_V.bd (fun a11 h12 => ?_)
            refine tr_V.iald h12 shM_14 dX7_bestFrom_87 ?_
            refine tr_V.iload dX7_bestFrom_88 rfl ?_
            refine tr_V.callS (C_X7_greater a11 a6 M) yk_X7_greater sc_X7_greater ml_X7_192 ⟨rfl, Nat.le_of_ble_eq_true rfl⟩ rfl (Nat.le_of_ble_eq_true rfl) rfl dX7_bestFrom_90 ?_
            exact tr_V.to (fun h => h) ⟨rfl, rfl, rfl, rfl, rfl, rfl, trivial⟩
          · refine tr_V.aload_n (i := 0) dX7_bestFrom_68 rfl rfl ?_
            refine tr_V.getR (Nat.succ_pos _) fl_X7_47 shM_1 rfl dX7_bestFrom_69 ?_
            refine tr_V.iload dX7_bestFrom_72 rfl ?_
            refine tr_V.bd (fun a15 h16 => ?_)
            refine tr_V.iald h16 shM_14 dX7_bestFrom_74 ?_
            refine tr_V.iload dX7_bestFrom_75 rfl ?_
            refine tr_V.iadd dX7_bestFrom_77 ?_
            refine tr_V.goto (tgt := 93) dX7_bestFrom_78 (by decide) ?_
            exact tr_V.to (fun h => h) ⟨rfl, rfl, rfl, rfl, rfl, rfl, trivial⟩
        · refine tr_V.ldc ct_X7_246 dX7_bestFrom_56 ?_
          refine tr_V.goto (tgt := 93) dX7_bestFrom_58 (by decide) ?_
          exact tr_V.to (fun h => h) ⟨rfl, rfl, rfl, rfl, rfl, rfl, trivial⟩
      · intro v8
        refine tr_V.istore (i := 8) dX7_bestFrom_93 (Nat.le_of_ble_eq_true rfl) rfl ?_
        refine tr_V.iload dX7_bestFrom_95 rfl ?_
        refine tr_V.iload dX7_bestFrom_97 rfl ?_
        refine tr_V.callS (C_X7_lesser s1.1 v8 M) yk_X7_lesser sc_X7_lesser ml_X7_183 ⟨rfl, Nat.le_of_ble_eq_true rfl⟩ rfl (Nat.le_of_ble_eq_true rfl) rfl dX7_bestFrom_99 ?_
        refine tr_V.istore (i := 4) dX7_bestFrom_102 (Nat.le_of_ble_eq_true rfl) rfl ?_
        refine tr_V.iinc (cst := (1 : Int32)) dX7_bestFrom_104 rfl (by decide) rfl ?_
        refine tr_V.goto (tgt := 7) dX7_bestFrom_107 (by decide) ?_
        exact tr_V.to (fun h => h) ⟨rfl, rfl, rfl, rfl, rfl, rfl, trivial⟩
  · refine tr_V.iload dX7_bestFrom_110 rfl ?_
    exact tr_V.iret dX7_bestFrom_112 rfl (fun h => h)
abbrev xX7_layBests : tr_X := (cX7_layBests, 5, RX7, (some .int), 5, shM, 24)
theorem cw_X7_layBests : Cond.code yX7_layBests cX7_layBests 5 (some .int) ∈ tr_tbl := tr_in 1526 (by decide +kernel) rfl
theorem yk_X7_layBests : tr_yk yX7_layBests (xX7_layBests) 1 := ⟨cw_X7_layBests, in_X7, ⟨by decide +kernel, by decide +kernel, by decide +kernel⟩, Nat.le_of_ble_eq_true rfl⟩
theorem iv_X7_layBests : Cond.instanceMethod yX7_layBests ∈ tr_tbl ∧ Cond.selects (yX7_layBests).cls yX7_layBests yX7_layBests ∈ tr_tbl := ⟨tr_in 1525 (by decide +kernel) rfl, tr_in 91 (by decide +kernel) rfl⟩
def mX7_layBests_l20 (p1 : Int32) (s6 : Int32 × tr_M) (s7 : Int32 × tr_M) : Option ((Int32 × tr_M) ⊕ ((Int32 × tr_M) ⊕ (tr_M))) :=
  if s7.1 < (s7.2.1 1 10) then (
    Option.bind (show Option (Int32) from
      if (mX7_has s6.1 s7.1) = 0 then (
        if s6.1 = 0 then (
          if s7.1 = 0 then (
            some (1 : Int32)
          ) else (
            some (0 : Int32)
          )
        ) else (
          some (0 : Int32)
        )
      ) else (
        some (1 : Int32)
      )
    ) (fun (v10 : Int32) =>
      if v10 = 0 then (
        Option.bind (tr_wr 10240 s7.2 16 (mX7_spot s6.1 s7.1) (1000000 : Int32)) (fun M13 =>
        some (.inl ((s7.1 + (1 : Int32)), M13))
        )
      ) else (
        if s6.1 = (mX7_full s7.2) then (
          Option.bind (tr_wr 10240 s7.2 16 (mX7_spot s6.1 s7.1) (0 : Int32)) (fun M17 =>
          some (.inl ((s7.1 + (1 : Int32)), M17))
          )
        ) else (
          Option.bind (show Option (Int32) from
            if s6.1 = 0 then (
              some (-9 : Int32)
            ) else (
              some s7.1
            )
          ) (fun (v19 : Int32) =>
            Option.bind (mX7_bestFrom p1 s6.1 v19 s7.2) (fun c20 =>
            Option.bind (tr_wr 10240 s7.2 16 (mX7_spot s6.1 s7.1) c20) (fun M22 =>
            some (.inl ((s7.1 + (1 : Int32)), M22))
            )
            )
          )
        )
      )
    )
  ) else (
    Option.bind (some (s6.1 + (-1 : Int32))) (fun x24 =>
    some (.inr (.inl (x24, s7.2)))
    )
  )
def mX7_layBests_l14 (p1 : Int32) (s6 : Int32 × tr_M) : Option ((Int32 × tr_M) ⊕ (tr_M)) :=
  if s6.1 < 0 then (
    some (.inr s6.2)
  ) else (
    tr_loop (mX7_layBests_l20 p1 s6) ((0 : Int32), s6.2)
  )
def mX7_layBests (p1 : Int32) (M : tr_M) : Option (Int32 × tr_M) :=
  Option.bind (mX7_layEdges p1 14 M) (fun c1 =>
  Option.bind (show Option (tr_M) from
    tr_loop (mX7_layBests_l14 p1) ((mX7_full c1), c1)
  ) (fun (v5 : tr_M) =>
    if (v5.1 1 10) = 0 then (
      Option.bind (some (tr_st v5 1 29 (0 : Int32))) (fun M26 =>
      some ((M26.1 1 29), M26)
      )
    ) else (
      Option.bind (tr_rd 10240 v5 16 (mX7_spot (0 : Int32) (0 : Int32))) (fun a30 =>
      Option.bind (some (tr_st v5 1 29 a30)) (fun M32 =>
      some ((M32.1 1 29), M32)
      )
      )
    )
  )
  )
set_option maxRecDepth 100000 in
set_option maxHeartbeats 4000000 in
theorem C_X7_layBests (p1 : Int32) (M : tr_M) (r : Int32 × tr_M) (h : mX7_layBests p1 M = some r) : tr_I yX7_layBests (xX7_layBests) [.ref 1, .int p1] M (some (.int r.1)) r.2 := by
  refine tr_I.of (Z := fun q : Int32 × tr_M => (some (.int r.1) : Option Value) = some (.int q.1) ∧ r.2 = q.2) pn_X7 rfl gdM (Nat.le_of_ble_eq_true rfl) (fun Wt => ?_) h ⟨rfl, rfl⟩
  unfold mX7_layBests
  refine tr_V.aload_n (i := 0) dX7_layBests_0 rfl rfl ?_
  refine tr_V.iload_n (i := 1) dX7_layBests_1 rfl rfl ?_
  refine tr_V.aload_n (i := 0) dX7_layBests_2 rfl rfl ?_
  refine tr_V.getR (Nat.succ_pos _) fl_X7_47 shM_1 rfl dX7_layBests_3 ?_
  refine tr_V.bd (fun c1 h2 => ?_)
  refine tr_V.callV (C_X7_layEdges p1 14 M _ h2) yk_X7_layEdges iv_X7_layEdges ml_X7_239 shM_1 rfl ⟨rfl, Nat.le_of_ble_eq_true rfl⟩ rfl (Nat.le_of_ble_eq_true rfl) rfl dX7_layBests_6 ?_
  refine tr_V.aload_n (i := 0) dX7_layBests_9 rfl rfl ?_
  refine tr_V.callV (C_X7_full c1) yk_X7_full iv_X7_full ml_X7_236 shM_1 rfl ⟨rfl, Nat.le_of_ble_eq_true rfl⟩ rfl (Nat.le_of_ble_eq_true rfl) rfl dX7_layBests_10 ?_
  refine tr_V.istore_n (i := 2) dX7_layBests_13 rfl (Nat.le_of_ble_eq_true rfl) rfl ?_
  refine tr_V.seq (τ := tr_M) (pc' := 111) (L := fun v5 => [(0, some (.ref 1))]) (S := fun v5 => []) (Mf := fun v5 => v5) ?_ ?_
  · refine tr_V.loop (σ := Int32 × tr_M) (step := mX7_layBests_l14 p1) (L := fun s6 => [(0, some (.ref 1)), (1, some (.int p1)), (2, some (.int s6.1))]) (Mf := fun s6 => s6.2) ?_ ((mX7_full c1), c1) ⟨rfl, rfl, rfl, trivial⟩
    intro s6
    refine tr_V.iload_n (i := 2) dX7_layBests_14 rfl rfl ?_
    refine tr_V.if_lt (tgt := 111) dX7_layBests_15 (by decide) ?_ ?_
    · exact tr_V.to (fun h => h) ⟨rfl, trivial⟩
    · refine tr_V.iconst (v := (0 : Int32)) dX7_layBests_18 (by decide) ?_
      refine tr_V.istore_n (i := 3) dX7_layBests_19 rfl (Nat.le_of_ble_eq_true rfl) rfl ?_
      refine tr_V.loop (σ := Int32 × tr_M) (step := mX7_layBests_l20 p1 s6) (L := fun s7 => [(0, some (.ref 1)), (1, some (.int p1)), (2, some (.int s6.1)), (3, some (.int s7.1))]) (Mf := fun s7 => s7.2) ?_ ((0 : Int32), s6.2) ⟨rfl, rfl, rfl, rfl, trivial⟩
      intro s7
      refine tr_V.iload_n (i := 3) dX7_layBests_20 rfl rfl ?_
      refine tr_V.aload_n (i := 0) dX7_layBests_21 rfl rfl ?_
      refine tr_V.getI fl_X7_157 shM_1 rfl dX7_layBests_22 ?_
      refine tr_V.icmp_ge (tgt := 105) dX7_layBests_25 (by decide) ?_ ?_
      · refine tr_V.iload_n (i := 2) dX7_layBests_28 rfl rfl ?_
        refine tr_V.iload_n (i := 3) dX7_layBests_29 rfl rfl ?_
        refine tr_V.callS (C_X7_has s6.1 s7.1 s7.2) yk_X7_has sc_X7_has ml_X7_186 ⟨rfl, Nat.le_of_ble_eq_true rfl⟩ rfl (Nat.le_of_ble_eq_true rfl) rfl dX7_layBests_30 ?_
        refine tr_V.seq (τ := Int32) (pc' := 49) (L := fun v10 => [(0, some (.ref 1)), (1, some (.int p1)), (2, some (.int s6.1)), (3, some (.int s7.1))]) (S := fun v10 => [.int v10]) (Mf := fun v10 => s7.2) ?_ ?_
        · refine tr_V.if_ne (tgt := 44) dX7_layBests_33 (by decide) ?_ ?_
          · refine tr_V.iload_n (i := 2) dX7_layBests_36 rfl rfl ?_
            refine tr_V.if_ne (tgt := 48) dX7_layBests_37 (by decide) ?_ ?_
            · refine tr_V.iload_n (i := 3) dX7_layBests_40 rfl rfl ?_
              refine tr_V.if_ne (tgt := 48) dX7_layBests_41 (by decide) ?_ ?_
              · refine tr_V.iconst (v := (1 : Int32)) dX7_layBests_44 (by decide) ?_
                refine tr_V.goto (tgt := 49) dX7_layBests_45 (by decide) ?_
                exact tr_V.to (fun h => h) ⟨rfl, rfl, rfl, rfl, trivial⟩
              · refine tr_V.iconst (v := (0 : Int32)) dX7_layBests_48 (by decide) ?_
                exact tr_V.to (fun h => h) ⟨rfl, rfl, rfl, rfl, trivial⟩
            · refine tr_V.iconst (v := (0 : Int32)) dX7_layBests_48 (by decide) ?_
              exact tr_V.to (fun h => h) ⟨rfl, rfl, rfl, rfl, trivial⟩
          · refine tr_V.iconst (v := (1 : Int32)) dX7_layBests_44 (by decide) ?_
            refine tr_V.goto (tgt := 49) dX7_layBests_45 (by decide) ?_
            exact tr_V.to (fun h => h) ⟨rfl, rfl, rfl, rfl, trivial⟩
        · intro v10
          refine tr_V.istore (i := 4) dX7_layBests_49 (Nat.le_of_ble_eq_true rfl) rfl ?_
          refine tr_V.aload_n (i := 0) dX7_layBests_51 rfl rfl ?_
          refine tr_V.getR (Nat.succ_pos _) fl_X7_53 shM_1 rfl dX7_layBests_52 ?_
          refine tr_V.iload_n (i := 2) dX7_layBests_55 rfl rfl ?_
          refine tr_V.iload_n (i := 3) dX7_layBests_56 rfl rfl ?_
          refine tr_V.callS (C_X7_spot s6.1 s7.1 s7.2) yk_X7_spot sc_X7_spot ml_X7_243 ⟨rfl, Nat.le_of_ble_eq_true rfl⟩ rfl (Nat.le_of_ble_eq_true rfl) rfl dX7_layBests_57 ?_
          refine tr_V.iload dX7_layBests_60 rfl ?_
          refine tr_V.if_ne (tgt := 70) dX7_layBests_62 (by decide) ?_ ?_
          · refine tr_V.ldc ct_X7_246 dX7_layBests_65 ?_
            refine tr_V.goto (tgt := 98) dX7_layBests_67 (by decide) ?_
            refine tr_V.bd (fun M13 h14 => ?_)
            refine tr_V.iast h14 shM_16 dX7_layBests_98 ?_
            refine tr_V.iinc (cst := (1 : Int32)) dX7_layBests_99 rfl (by decide) rfl ?_
            refine tr_V.goto (tgt := 20) dX7_layBests_102 (by decide) ?_
            exact tr_V.to (fun h => h) ⟨rfl, rfl, rfl, rfl, trivial⟩
          · refine tr_V.iload_n (i := 2) dX7_layBests_70 rfl rfl ?_
            refine tr_V.aload_n (i := 0) dX7_layBests_71 rfl rfl ?_
            refine tr_V.callV (C_X7_full s7.2) yk_X7_full iv_X7_full ml_X7_236 shM_1 rfl ⟨rfl, Nat.le_of_ble_eq_true rfl⟩ rfl (Nat.le_of_ble_eq_true rfl) rfl dX7_layBests_72 ?_
            refine tr_V.icmp_ne (tgt := 82) dX7_layBests_75 (by decide) ?_ ?_
            · refine tr_V.iconst (v := (0 : Int32)) dX7_layBests_78 (by decide) ?_
              refine tr_V.goto (tgt := 98) dX7_layBests_79 (by decide) ?_
              refine tr_V.bd (fun M17 h18 => ?_)
              refine tr_V.iast h18 shM_16 dX7_layBests_98 ?_
              refine tr_V.iinc (cst := (1 : Int32)) dX7_layBests_99 rfl (by decide) rfl ?_
              refine tr_V.goto (tgt := 20) dX7_layBests_102 (by decide) ?_
              exact tr_V.to (fun h => h) ⟨rfl, rfl, rfl, rfl, trivial⟩
            · refine tr_V.aload_n (i := 0) dX7_layBests_82 rfl rfl ?_
              refine tr_V.iload_n (i := 1) dX7_layBests_83 rfl rfl ?_
              refine tr_V.iload_n (i := 2) dX7_layBests_84 rfl rfl ?_
              refine tr_V.iload_n (i := 2) dX7_layBests_85 rfl rfl ?_
              refine tr_V.seq (τ := Int32) (pc' := 95) (L := fun v19 => [(0, some (.ref 1)), (1, some (.int p1)), (2, some (.int s6.1)), (3, some (.int s7.1))]) (S := fun v19 => [.int v19, .int s6.1, .int p1, .ref 1, .int (mX7_spot s6.1 s7.1), .ref 16]) (Mf := fun v19 => s7.2) ?_ ?_
              · refine tr_V.if_ne (tgt := 94) dX7_layBests_86 (by decide) ?_ ?_
                · refine tr_V.bipush (v := (-9 : Int32)) dX7_layBests_89 (by decide) ?_
                  refine tr_V.goto (tgt := 95) dX7_layBests_91 (by decide) ?_
                  exact tr_V.to (fun h => h) ⟨rfl, rfl, rfl, rfl, trivial⟩
                · refine tr_V.iload_n (i := 3) dX7_layBests_94 rfl rfl ?_
                  exact tr_V.to (fun h => h) ⟨rfl, rfl, rfl, rfl, trivial⟩
              · intro v19
                refine tr_V.bd (fun c20 h21 => ?_)
                refine tr_V.callV (C_X7_bestFrom p1 s6.1 v19 s7.2 _ h21) yk_X7_bestFrom iv_X7_bestFrom ml_X7_247 shM_1 rfl ⟨rfl, Nat.le_of_ble_eq_true rfl⟩ rfl (Nat.le_of_ble_eq_true rfl) rfl dX7_layBests_95 ?_
                refine tr_V.bd (fun M22 h23 => ?_)
                refine tr_V.iast h23 shM_16 dX7_layBests_98 ?_
                refine tr_V.iinc (cst := (1 : Int32)) dX7_layBests_99 rfl (by decide) rfl ?_
                refine tr_V.goto (tgt := 20) dX7_layBests_102 (by decide) ?_
                exact tr_V.to (fun h => h) ⟨rfl, rfl, rfl, rfl, trivial⟩
      · refine tr_V.bd (fun x24 h25 => ?_)
        refine tr_V.iincN (cst := (-1 : Int32)) dX7_layBests_105 rfl (by decide) rfl h25 ?_
        refine tr_V.goto (tgt := 14) dX7_layBests_108 (by decide) ?_
        exact tr_V.to (fun h => h) ⟨rfl, rfl, rfl, trivial⟩
  · intro v5
    refine tr_V.aload_n (i := 0) dX7_layBests_111 rfl rfl ?_
    refine tr_V.aload_n (i := 0) dX7_layBests_112 rfl rfl ?_
    refine tr_V.getI fl_X7_157 shM_1 rfl dX7_layBests_113 ?_
    refine tr_V.if_ne (tgt := 123) dX7_layBests_116 (by decide) ?_ ?_
    · refine tr_V.iconst (v := (0 : Int32)) dX7_layBests_119 (by decide) ?_
      refine tr_V.goto (tgt := 133) dX7_layBests_120 (by decide) ?_
      refine tr_V.bd (fun M26 h27 => ?_)
      refine tr_V.putI fl_X7_251 shM_1 rfl dX7_layBests_133 h27 ?_
      refine tr_V.aload_n (i := 0) dX7_layBests_136 rfl rfl ?_
      refine tr_V.getI fl_X7_251 shM_1 rfl dX7_layBests_137 ?_
      exact tr_V.iret dX7_layBests_140 rfl (fun h => h)
    · refine tr_V.aload_n (i := 0) dX7_layBests_123 rfl rfl ?_
      refine tr_V.getR (Nat.succ_pos _) fl_X7_53 shM_1 rfl dX7_layBests_124 ?_
      refine tr_V.iconst (v := (0 : Int32)) dX7_layBests_127 (by decide) ?_
      refine tr_V.iconst (v := (0 : Int32)) dX7_layBests_128 (by decide) ?_
      refine tr_V.callS (C_X7_spot (0 : Int32) (0 : Int32) v5) yk_X7_spot sc_X7_spot ml_X7_243 ⟨rfl, Nat.le_of_ble_eq_true rfl⟩ rfl (Nat.le_of_ble_eq_true rfl) rfl dX7_layBests_129 ?_
      refine tr_V.bd (fun a30 h31 => ?_)
      refine tr_V.iald h31 shM_16 dX7_layBests_132 ?_
      refine tr_V.bd (fun M32 h33 => ?_)
      refine tr_V.putI fl_X7_251 shM_1 rfl dX7_layBests_133 h33 ?_
      refine tr_V.aload_n (i := 0) dX7_layBests_136 rfl rfl ?_
      refine tr_V.getI fl_X7_251 shM_1 rfl dX7_layBests_137 ?_
      exact tr_V.iret dX7_layBests_140 rfl (fun h => h)
abbrev xX7_isGood : tr_X := (cX7_isGood, 7, RX7, (some .boolean), 4, shM, 24)
theorem cw_X7_isGood : Cond.code yX7_isGood cX7_isGood 7 (some .boolean) ∈ tr_tbl := tr_in 1568 (by decide +kernel) rfl
theorem yk_X7_isGood : tr_yk yX7_isGood (xX7_isGood) 4 := ⟨cw_X7_isGood, in_X7, ⟨by decide +kernel, by decide +kernel, by decide +kernel⟩, Nat.le_of_ble_eq_true rfl⟩
theorem iv_X7_isGood : Cond.instanceMethod yX7_isGood ∈ tr_tbl ∧ Cond.selects (yX7_isGood).cls yX7_isGood yX7_isGood ∈ tr_tbl := ⟨tr_in 1567 (by decide +kernel) rfl, tr_in 100 (by decide +kernel) rfl⟩
def mX7_isGood (p1 : Int32) (p2 : Int32) (p3 : Int32) (p4 : Int32) (M : tr_M) : Option (Int32) :=
  Option.bind (mX7_mayCome p2 p3 p4 M) (fun c1 =>
  if c1 = 0 then (
    some (0 : Int32)
  ) else (
    Option.bind (tr_rd 10240 M 16 (mX7_spot (p2 ||| ((1 : Int32) <<< (p4 &&& 31))) p4)) (fun a5 =>
    if a5 < (1000000 : Int32) then (
      if (mX7_isSum p1) = 0 then (
        Option.bind (tr_rd 1024 M 14 (p2 ||| ((1 : Int32) <<< (p4 &&& 31)))) (fun a9 =>
        if (M.1 1 29) < a9 then (
          some (0 : Int32)
        ) else (
          if (M.1 1 29) < a5 then (
            some (0 : Int32)
          ) else (
            some (1 : Int32)
          )
        )
        )
      ) else (
        Option.bind (tr_rd 1024 M 14 (p2 ||| ((1 : Int32) <<< (p4 &&& 31)))) (fun a11 =>
        Option.bind (show Option (Int32) from
          if p2 = 0 then (
            some (0 : Int32)
          ) else (
            some p3
          )
        ) (fun (v13 : Int32) =>
          Option.bind (tr_rd 10240 M 16 (mX7_spot p2 v13)) (fun a16 =>
          if (a11 + a5) = a16 then (
            some (1 : Int32)
          ) else (
            some (0 : Int32)
          )
          )
        )
        )
      )
    ) else (
      some (0 : Int32)
    )
    )
  )
  )
set_option maxRecDepth 100000 in
set_option maxHeartbeats 4000000 in
theorem C_X7_isGood (p1 : Int32) (p2 : Int32) (p3 : Int32) (p4 : Int32) (M : tr_M) (r : Int32) (h : mX7_isGood p1 p2 p3 p4 M = some r) : tr_I yX7_isGood (xX7_isGood) [.ref 1, .int p1, .int p2, .int p3, .int p4] M (some (.int r)) M := by
  refine tr_I.of (Z := fun q : Int32 => (some (.int r) : Option Value) = some (.int q) ∧ M = M) pn_X7 rfl gdM (Nat.le_of_ble_eq_true rfl) (fun Wt => ?_) h ⟨rfl, rfl⟩
  unfold mX7_isGood
  refine tr_V.aload_n (i := 0) dX7_isGood_0 rfl rfl ?_
  refine tr_V.iload_n (i := 2) dX7_isGood_1 rfl rfl ?_
  refine tr_V.iload_n (i := 3) dX7_isGood_2 rfl rfl ?_
  refine tr_V.iload dX7_isGood_3 rfl ?_
  refine tr_V.bd (fun c1 h2 => ?_)
  refine tr_V.callV (C_X7_mayCome p2 p3 p4 M _ h2) yk_X7_mayCome iv_X7_mayCome ml_X7_254 shM_1 rfl ⟨rfl, Nat.le_of_ble_eq_true rfl⟩ rfl (Nat.le_of_ble_eq_true rfl) rfl dX7_isGood_5 ?_
  refine tr_V.if_ne (tgt := 13) dX7_isGood_8 (by decide) ?_ ?_
  · refine tr_V.iconst (v := (0 : Int32)) dX7_isGood_11 (by decide) ?_
    exact tr_V.zret (by decide) dX7_isGood_12 rfl (fun h => h)
  · refine tr_V.iload_n (i := 2) dX7_isGood_13 rfl rfl ?_
    refine tr_V.iconst (v := (1 : Int32)) dX7_isGood_14 (by decide) ?_
    refine tr_V.iload dX7_isGood_15 rfl ?_
    refine tr_V.ishl dX7_isGood_17 ?_
    refine tr_V.ior dX7_isGood_18 ?_
    refine tr_V.istore (i := 5) dX7_isGood_19 (Nat.le_of_ble_eq_true rfl) rfl ?_
    refine tr_V.aload_n (i := 0) dX7_isGood_21 rfl rfl ?_
    refine tr_V.getR (Nat.succ_pos _) fl_X7_53 shM_1 rfl dX7_isGood_22 ?_
    refine tr_V.iload dX7_isGood_25 rfl ?_
    refine tr_V.iload dX7_isGood_27 rfl ?_
    refine tr_V.callS (C_X7_spot (p2 ||| ((1 : Int32) <<< (p4 &&& 31))) p4 M) yk_X7_spot sc_X7_spot ml_X7_243 ⟨rfl, Nat.le_of_ble_eq_true rfl⟩ rfl (Nat.le_of_ble_eq_true rfl) rfl dX7_isGood_29 ?_
    refine tr_V.bd (fun a5 h6 => ?_)
    refine tr_V.iald h6 shM_16 dX7_isGood_32 ?_
    refine tr_V.istore (i := 6) dX7_isGood_33 (Nat.le_of_ble_eq_true rfl) rfl ?_
    refine tr_V.iload dX7_isGood_35 rfl ?_
    refine tr_V.ldc ct_X7_246 dX7_isGood_37 ?_
    refine tr_V.icmp_lt (tgt := 44) dX7_isGood_39 (by decide) ?_ ?_
    · refine tr_V.iload_n (i := 1) dX7_isGood_44 rfl rfl ?_
      refine tr_V.callS (C_X7_isSum p1 M) yk_X7_isSum sc_X7_isSum ml_X7_208 ⟨rfl, Nat.le_of_ble_eq_true rfl⟩ rfl (Nat.le_of_ble_eq_true rfl) rfl dX7_isGood_45 ?_
      refine tr_V.if_eq (tgt := 90) dX7_isGood_48 (by decide) ?_ ?_
      · refine tr_V.aload_n (i := 0) dX7_isGood_90 rfl rfl ?_
        refine tr_V.getR (Nat.succ_pos _) fl_X7_47 shM_1 rfl dX7_isGood_91 ?_
        refine tr_V.iload dX7_isGood_94 rfl ?_
        refine tr_V.bd (fun a9 h10 => ?_)
        refine tr_V.iald h10 shM_14 dX7_isGood_96 ?_
        refine tr_V.aload_n (i := 0) dX7_isGood_97 rfl rfl ?_
        refine tr_V.getI fl_X7_251 shM_1 rfl dX7_isGood_98 ?_
        refine tr_V.icmp_gt (tgt := 117) dX7_isGood_101 (by decide) ?_ ?_
        · refine tr_V.iconst (v := (0 : Int32)) dX7_isGood_117 (by decide) ?_
          exact tr_V.zret (by decide) dX7_isGood_118 rfl (fun h => h)
        · refine tr_V.iload dX7_isGood_104 rfl ?_
          refine tr_V.aload_n (i := 0) dX7_isGood_106 rfl rfl ?_
          refine tr_V.getI fl_X7_251 shM_1 rfl dX7_isGood_107 ?_
          refine tr_V.icmp_gt (tgt := 117) dX7_isGood_110 (by decide) ?_ ?_
          · refine tr_V.iconst (v := (0 : Int32)) dX7_isGood_117 (by decide) ?_
            exact tr_V.zret (by decide) dX7_isGood_118 rfl (fun h => h)
          · refine tr_V.iconst (v := (1 : Int32)) dX7_isGood_113 (by decide) ?_
            refine tr_V.goto (tgt := 118) dX7_isGood_114 (by decide) ?_
            exact tr_V.zret (by decide) dX7_isGood_118 rfl (fun h => h)
      · refine tr_V.aload_n (i := 0) dX7_isGood_51 rfl rfl ?_
        refine tr_V.getR (Nat.succ_pos _) fl_X7_47 shM_1 rfl dX7_isGood_52 ?_
        refine tr_V.iload dX7_isGood_55 rfl ?_
        refine tr_V.bd (fun a11 h12 => ?_)
        refine tr_V.iald h12 shM_14 dX7_isGood_57 ?_
        refine tr_V.iload dX7_isGood_58 rfl ?_
        refine tr_V.iadd dX7_isGood_60 ?_
        refine tr_V.aload_n (i := 0) dX7_isGood_61 rfl rfl ?_
        refine tr_V.getR (Nat.succ_pos _) fl_X7_53 shM_1 rfl dX7_isGood_62 ?_
        refine tr_V.iload_n (i := 2) dX7_isGood_65 rfl rfl ?_
        refine tr_V.iload_n (i := 2) dX7_isGood_66 rfl rfl ?_
        refine tr_V.seq (τ := Int32) (pc' := 75) (L := fun v13 => []) (S := fun v13 => [.int v13, .int p2, .ref 16, .int (a11 + a5)]) (Mf := fun v13 => M) ?_ ?_
        · refine tr_V.if_ne (tgt := 74) dX7_isGood_67 (by decide) ?_ ?_
          · refine tr_V.iconst (v := (0 : Int32)) dX7_isGood_70 (by decide) ?_
            refine tr_V.goto (tgt := 75) dX7_isGood_71 (by decide) ?_
            exact tr_V.to (fun h => h) trivial
          · refine tr_V.iload_n (i := 3) dX7_isGood_74 rfl rfl ?_
            exact tr_V.to (fun h => h) trivial
        · intro v13
          refine tr_V.callS (C_X7_spot p2 v13 M) yk_X7_spot sc_X7_spot ml_X7_243 ⟨rfl, Nat.le_of_ble_eq_true rfl⟩ rfl (Nat.le_of_ble_eq_true rfl) rfl dX7_isGood_75 ?_
          refine tr_V.bd (fun a16 h17 => ?_)
          refine tr_V.iald h17 shM_16 dX7_isGood_78 ?_
          refine tr_V.icmp_ne (tgt := 86) dX7_isGood_79 (by decide) ?_ ?_
          · refine tr_V.iconst (v := (1 : Int32)) dX7_isGood_82 (by decide) ?_
            refine tr_V.goto (tgt := 118) dX7_isGood_83 (by decide) ?_
            exact tr_V.zret (by decide) dX7_isGood_118 rfl (fun h => h)
          · refine tr_V.iconst (v := (0 : Int32)) dX7_isGood_86 (by decide) ?_
            refine tr_V.goto (tgt := 118) dX7_isGood_87 (by decide) ?_
            exact tr_V.zret (by decide) dX7_isGood_118 rfl (fun h => h)
    · refine tr_V.iconst (v := (0 : Int32)) dX7_isGood_42 (by decide) ?_
      exact tr_V.zret (by decide) dX7_isGood_43 rfl (fun h => h)
abbrev xX7_layWays : tr_X := (cX7_layWays, 6, RX7, (Option.none : Option Jvm.ClassFile.FieldType), 5, shM, 24)
theorem cw_X7_layWays : Cond.code yX7_layWays cX7_layWays 6 (Option.none : Option Jvm.ClassFile.FieldType) ∈ tr_tbl := tr_in 1564 (by decide +kernel) rfl
theorem yk_X7_layWays : tr_yk yX7_layWays (xX7_layWays) 1 := ⟨cw_X7_layWays, in_X7, ⟨by decide +kernel, by decide +kernel, by decide +kernel⟩, Nat.le_of_ble_eq_true rfl⟩
theorem iv_X7_layWays : Cond.instanceMethod yX7_layWays ∈ tr_tbl ∧ Cond.selects (yX7_layWays).cls yX7_layWays yX7_layWays ∈ tr_tbl := ⟨tr_in 1563 (by decide +kernel) rfl, tr_in 99 (by decide +kernel) rfl⟩
def mX7_layWays_l69 (p1 : Int32) (s4 : Int32 × tr_M) (s5 : Int32 × tr_M) (s17 : Int32 × Int32) : Option ((Int32 × Int32) ⊕ (Int32)) :=
  if s17.2 < (s5.2.1 1 10) then (
    Option.bind (show Option (Int32) from
      if s4.1 = 0 then (
        some (-9 : Int32)
      ) else (
        some s5.1
      )
    ) (fun (v18 : Int32) =>
      Option.bind (mX7_isGood p1 s4.1 v18 s17.2 s5.2) (fun c19 =>
      if c19 = 0 then (
        some (.inl ((s17.1 + (0 : Int32)), (s17.2 + (1 : Int32))))
      ) else (
        Option.bind (tr_rd 10240 s5.2 17 (mX7_spot (s4.1 ||| ((1 : Int32) <<< (s17.2 &&& 31))) s17.2)) (fun a23 =>
        some (.inl ((s17.1 + a23), (s17.2 + (1 : Int32))))
        )
      )
      )
    )
  ) else (
    some (.inr s17.1)
  )
def mX7_layWays_l11 (p1 : Int32) (s4 : Int32 × tr_M) (s5 : Int32 × tr_M) : Option ((Int32 × tr_M) ⊕ ((Int32 × tr_M) ⊕ (tr_M))) :=
  if s5.1 < (s5.2.1 1 10) then (
    Option.bind (show Option (Int32) from
      if s4.1 = (mX7_full s5.2) then (
        if (mX7_has s4.1 s5.1) = 0 then (
          some (0 : Int32)
        ) else (
          some (1 : Int32)
        )
      ) else (
        some (0 : Int32)
      )
    ) (fun (v8 : Int32) =>
      Option.bind (show Option (Int32) from
        if s4.1 < (mX7_full s5.2) then (
          Option.bind (show Option ((Unit) ⊕ (Int32)) from
            if (mX7_has s4.1 s5.1) = 0 then (
              if s4.1 = 0 then (
                if s5.1 = 0 then (
                  some (.inl ())
                ) else (
                  some (.inr v8)
                )
              ) else (
                some (.inr v8)
              )
            ) else (
              some (.inl ())
            )
          ) (tr_el (fun (v16 : Unit) =>
            tr_loop (mX7_layWays_l69 p1 s4 s5) (v8, (0 : Int32))
          ))
        ) else (
          some v8
        )
      ) (fun (v13 : Int32) =>
        Option.bind (tr_wr 10240 s5.2 17 (mX7_spot s4.1 s5.1) v13) (fun M27 =>
        some (.inl ((s5.1 + (1 : Int32)), M27))
        )
      )
    )
  ) else (
    Option.bind (some (s4.1 + (-1 : Int32))) (fun x29 =>
    some (.inr (.inl (x29, s5.2)))
    )
  )
def mX7_layWays_l5 (p1 : Int32) (s4 : Int32 × tr_M) : Option ((Int32 × tr_M) ⊕ (tr_M)) :=
  if s4.1 < 0 then (
    some (.inr s4.2)
  ) else (
    tr_loop (mX7_layWays_l11 p1 s4) ((0 : Int32), s4.2)
  )
def mX7_layWays (p1 : Int32) (M : tr_M) : Option (tr_M) :=
  Option.bind (show Option (tr_M) from
    tr_loop (mX7_layWays_l5 p1) ((mX7_full M), M)
  ) (fun (v3 : tr_M) =>
    if (v3.1 1 10) = 0 then (
      Option.bind (some (tr_st v3 1 30 (1 : Int32))) (fun M31 =>
      some M31
      )
    ) else (
      Option.bind (tr_rd 10240 v3 17 (mX7_spot (0 : Int32) (0 : Int32))) (fun a35 =>
      Option.bind (some (tr_st v3 1 30 a35)) (fun M37 =>
      some M37
      )
      )
    )
  )
set_option maxRecDepth 100000 in
set_option maxHeartbeats 4000000 in
theorem C_X7_layWays (p1 : Int32) (M M' : tr_M) (h : mX7_layWays p1 M = some M') : tr_I yX7_layWays (xX7_layWays) [.ref 1, .int p1] M none M' := by
  refine tr_I.of (Z := fun q : tr_M => (none : Option Value) = none ∧ M' = q) pn_X7 rfl gdM (Nat.le_of_ble_eq_true rfl) (fun Wt => ?_) h ⟨rfl, rfl⟩
  unfold mX7_layWays
  refine tr_V.aload_n (i := 0) dX7_layWays_0 rfl rfl ?_
  refine tr_V.callV (C_X7_full M) yk_X7_full iv_X7_full ml_X7_236 shM_1 rfl ⟨rfl, Nat.le_of_ble_eq_true rfl⟩ rfl (Nat.le_of_ble_eq_true rfl) rfl dX7_layWays_1 ?_
  refine tr_V.istore_n (i := 2) dX7_layWays_4 rfl (Nat.le_of_ble_eq_true rfl) rfl ?_
  refine tr_V.seq (τ := tr_M) (pc' := 154) (L := fun v3 => [(0, some (.ref 1))]) (S := fun v3 => []) (Mf := fun v3 => v3) ?_ ?_
  · refine tr_V.loop (σ := Int32 × tr_M) (step := mX7_layWays_l5 p1) (L := fun s4 => [(0, some (.ref 1)), (1, some (.int p1)), (2, some (.int s4.1))]) (Mf := fun s4 => s4.2) ?_ ((mX7_full M), M) ⟨rfl, rfl, rfl, trivial⟩
    intro s4
    refine tr_V.iload_n (i := 2) dX7_layWays_5 rfl rfl ?_
    refine tr_V.if_lt (tgt := 154) dX7_layWays_6 (by decide) ?_ ?_
    · exact tr_V.to (fun h => h) ⟨rfl, trivial⟩
    · refine tr_V.iconst (v := (0 : Int32)) dX7_layWays_9 (by decide) ?_
      refine tr_V.istore_n (i := 3) dX7_layWays_10 rfl (Nat.le_of_ble_eq_true rfl) rfl ?_
      refine tr_V.loop (σ := Int32 × tr_M) (step := mX7_layWays_l11 p1 s4) (L := fun s5 => [(0, some (.ref 1)), (1, some (.int p1)), (2, some (.int s4.1)), (3, some (.int s5.1))]) (Mf := fun s5 => s5.2) ?_ ((0 : Int32), s4.2) ⟨rfl, rfl, rfl, rfl, trivial⟩
      intro s5
      refine tr_V.iload_n (i := 3) dX7_layWays_11 rfl rfl ?_
      refine tr_V.aload_n (i := 0) dX7_layWays_12 rfl rfl ?_
      refine tr_V.getI fl_X7_157 shM_1 rfl dX7_layWays_13 ?_
      refine tr_V.icmp_ge (tgt := 148) dX7_layWays_16 (by decide) ?_ ?_
      · refine tr_V.iload_n (i := 2) dX7_layWays_19 rfl rfl ?_
        refine tr_V.aload_n (i := 0) dX7_layWays_20 rfl rfl ?_
        refine tr_V.callV (C_X7_full s5.2) yk_X7_full iv_X7_full ml_X7_236 shM_1 rfl ⟨rfl, Nat.le_of_ble_eq_true rfl⟩ rfl (Nat.le_of_ble_eq_true rfl) rfl dX7_layWays_21 ?_
        refine tr_V.seq (τ := Int32) (pc' := 40) (L := fun v8 => [(0, some (.ref 1)), (1, some (.int p1)), (2, some (.int s4.1)), (3, some (.int s5.1))]) (S := fun v8 => [.int v8]) (Mf := fun v8 => s5.2) ?_ ?_
        · refine tr_V.icmp_ne (tgt := 39) dX7_layWays_24 (by decide) ?_ ?_
          · refine tr_V.iload_n (i := 2) dX7_layWays_27 rfl rfl ?_
            refine tr_V.iload_n (i := 3) dX7_layWays_28 rfl rfl ?_
            refine tr_V.callS (C_X7_has s4.1 s5.1 s5.2) yk_X7_has sc_X7_has ml_X7_186 ⟨rfl, Nat.le_of_ble_eq_true rfl⟩ rfl (Nat.le_of_ble_eq_true rfl) rfl dX7_layWays_29 ?_
            refine tr_V.if_eq (tgt := 39) dX7_layWays_32 (by decide) ?_ ?_
            · refine tr_V.iconst (v := (0 : Int32)) dX7_layWays_39 (by decide) ?_
              exact tr_V.to (fun h => h) ⟨rfl, rfl, rfl, rfl, trivial⟩
            · refine tr_V.iconst (v := (1 : Int32)) dX7_layWays_35 (by decide) ?_
              refine tr_V.goto (tgt := 40) dX7_layWays_36 (by decide) ?_
              exact tr_V.to (fun h => h) ⟨rfl, rfl, rfl, rfl, trivial⟩
          · refine tr_V.iconst (v := (0 : Int32)) dX7_layWays_39 (by decide) ?_
            exact tr_V.to (fun h => h) ⟨rfl, rfl, rfl, rfl, trivial⟩
        · intro v8
          refine tr_V.istore (i := 4) dX7_layWays_40 (Nat.le_of_ble_eq_true rfl) rfl ?_
          refine tr_V.iload_n (i := 2) dX7_layWays_42 rfl rfl ?_
          refine tr_V.aload_n (i := 0) dX7_layWays_43 rfl rfl ?_
          refine tr_V.callV (C_X7_full s5.2) yk_X7_full iv_X7_full ml_X7_236 shM_1 rfl ⟨rfl, Nat.le_of_ble_eq_true rfl⟩ rfl (Nat.le_of_ble_eq_true rfl) rfl dX7_layWays_44 ?_
          refine tr_V.seq (τ := Int32) (pc' := 130) (L := fun v13 => [(0, some (.ref 1)), (1, some (.int p1)), (2, some (.int s4.1)), (3, some (.int s5.1)), (4, some (.int v13))]) (S := fun v13 => []) (Mf := fun v13 => s5.2) ?_ ?_
          · refine tr_V.icmp_ge (tgt := 130) dX7_layWays_47 (by decide) ?_ ?_
            · refine tr_V.iload_n (i := 2) dX7_layWays_50 rfl rfl ?_
              refine tr_V.iload_n (i := 3) dX7_layWays_51 rfl rfl ?_
              refine tr_V.callS (C_X7_has s4.1 s5.1 s5.2) yk_X7_has sc_X7_has ml_X7_186 ⟨rfl, Nat.le_of_ble_eq_true rfl⟩ rfl (Nat.le_of_ble_eq_true rfl) rfl dX7_layWays_52 ?_
              refine tr_V.seqE (τ := Unit) (pc' := 66) (L := fun v16 => [(0, some (.ref 1)), (1, some (.int p1)), (2, some (.int s4.1)), (3, some (.int s5.1)), (4, some (.int v8))]) (S := fun v16 => []) (Mf := fun v16 => s5.2) ?_ ?_
              · refine tr_V.if_ne (tgt := 66) dX7_layWays_55 (by decide) ?_ ?_
                · refine tr_V.iload_n (i := 2) dX7_layWays_58 rfl rfl ?_
                  refine tr_V.if_ne (tgt := 130) dX7_layWays_59 (by decide) ?_ ?_
                  · refine tr_V.iload_n (i := 3) dX7_layWays_62 rfl rfl ?_
                    refine tr_V.if_ne (tgt := 130) dX7_layWays_63 (by decide) ?_ ?_
                    · exact tr_V.to (fun h => h) ⟨rfl, rfl, rfl, rfl, rfl, trivial⟩
                    · exact tr_V.to (fun h => h) ⟨rfl, rfl, rfl, rfl, rfl, trivial⟩
                  · exact tr_V.to (fun h => h) ⟨rfl, rfl, rfl, rfl, rfl, trivial⟩
                · exact tr_V.to (fun h => h) ⟨rfl, rfl, rfl, rfl, rfl, trivial⟩
              · intro v16
                refine tr_V.iconst (v := (0 : Int32)) dX7_layWays_66 (by decide) ?_
                refine tr_V.istore (i := 5) dX7_layWays_67 (Nat.le_of_ble_eq_true rfl) rfl ?_
                refine tr_V.loop (σ := Int32 × Int32) (step := mX7_layWays_l69 p1 s4 s5) (L := fun s17 => [(0, some (.ref 1)), (1, some (.int p1)), (2, some (.int s4.1)), (3, some (.int s5.1)), (4, some (.int s17.1)), (5, some (.int s17.2))]) (Mf := fun s17 => s5.2) ?_ (v8, (0 : Int32)) ⟨rfl, rfl, rfl, rfl, rfl, rfl, trivial⟩
                intro s17
                refine tr_V.iload dX7_layWays_69 rfl ?_
                refine tr_V.aload_n (i := 0) dX7_layWays_71 rfl rfl ?_
                refine tr_V.getI fl_X7_157 shM_1 rfl dX7_layWays_72 ?_
                refine tr_V.icmp_ge (tgt := 130) dX7_layWays_75 (by decide) ?_ ?_
                · refine tr_V.iload dX7_layWays_78 rfl ?_
                  refine tr_V.aload_n (i := 0) dX7_layWays_80 rfl rfl ?_
                  refine tr_V.iload_n (i := 1) dX7_layWays_81 rfl rfl ?_
                  refine tr_V.iload_n (i := 2) dX7_layWays_82 rfl rfl ?_
                  refine tr_V.iload_n (i := 2) dX7_layWays_83 rfl rfl ?_
                  refine tr_V.seq (τ := Int32) (pc' := 93) (L := fun v18 => [(0, some (.ref 1)), (1, some (.int p1)), (2, some (.int s4.1)), (3, some (.int s5.1)), (5, some (.int s17.2))]) (S := fun v18 => [.int v18, .int s4.1, .int p1, .ref 1, .int s17.1]) (Mf := fun v18 => s5.2) ?_ ?_
                  · refine tr_V.if_ne (tgt := 92) dX7_layWays_84 (by decide) ?_ ?_
                    · refine tr_V.bipush (v := (-9 : Int32)) dX7_layWays_87 (by decide) ?_
                      refine tr_V.goto (tgt := 93) dX7_layWays_89 (by decide) ?_
                      exact tr_V.to (fun h => h) ⟨rfl, rfl, rfl, rfl, rfl, trivial⟩
                    · refine tr_V.iload_n (i := 3) dX7_layWays_92 rfl rfl ?_
                      exact tr_V.to (fun h => h) ⟨rfl, rfl, rfl, rfl, rfl, trivial⟩
                  · intro v18
                    refine tr_V.iload dX7_layWays_93 rfl ?_
                    refine tr_V.bd (fun c19 h20 => ?_)
                    refine tr_V.callV (C_X7_isGood p1 s4.1 v18 s17.2 s5.2 _ h20) yk_X7_isGood iv_X7_isGood ml_X7_257 shM_1 rfl ⟨rfl, Nat.le_of_ble_eq_true rfl⟩ rfl (Nat.le_of_ble_eq_true rfl) rfl dX7_layWays_95 ?_
                    refine tr_V.if_eq (tgt := 120) dX7_layWays_98 (by decide) ?_ ?_
                    · refine tr_V.iconst (v := (0 : Int32)) dX7_layWays_120 (by decide) ?_
                      refine tr_V.iadd dX7_layWays_121 ?_
                      refine tr_V.istore (i := 4) dX7_layWays_122 (Nat.le_of_ble_eq_true rfl) rfl ?_
                      refine tr_V.iinc (cst := (1 : Int32)) dX7_layWays_124 rfl (by decide) rfl ?_
                      refine tr_V.goto (tgt := 69) dX7_layWays_127 (by decide) ?_
                      exact tr_V.to (fun h => h) ⟨rfl, rfl, rfl, rfl, rfl, rfl, trivial⟩
                    · refine tr_V.aload_n (i := 0) dX7_layWays_101 rfl rfl ?_
                      refine tr_V.getR (Nat.succ_pos _) fl_X7_56 shM_1 rfl dX7_layWays_102 ?_
                      refine tr_V.iload_n (i := 2) dX7_layWays_105 rfl rfl ?_
                      refine tr_V.iconst (v := (1 : Int32)) dX7_layWays_106 (by decide) ?_
                      refine tr_V.iload dX7_layWays_107 rfl ?_
                      refine tr_V.ishl dX7_layWays_109 ?_
                      refine tr_V.ior dX7_layWays_110 ?_
                      refine tr_V.iload dX7_layWays_111 rfl ?_
                      refine tr_V.callS (C_X7_spot (s4.1 ||| ((1 : Int32) <<< (s17.2 &&& 31))) s17.2 s5.2) yk_X7_spot sc_X7_spot ml_X7_243 ⟨rfl, Nat.le_of_ble_eq_true rfl⟩ rfl (Nat.le_of_ble_eq_true rfl) rfl dX7_layWays_113 ?_
                      refine tr_V.bd (fun a23 h24 => ?_)
                      refine tr_V.iald h24 shM_17 dX7_layWays_116 ?_
                      refine tr_V.goto (tgt := 121) dX7_layWays_117 (by decide) ?_
                      refine tr_V.iadd dX7_layWays_121 ?_
                      refine tr_V.istore (i := 4) dX7_layWays_122 (Nat.le_of_ble_eq_true rfl) rfl ?_
                      refine tr_V.iinc (cst := (1 : Int32)) dX7_layWays_124 rfl (by decide) rfl ?_
                      refine tr_V.goto (tgt := 69) dX7_layWays_127 (by decide) ?_
                      exact tr_V.to (fun h => h) ⟨rfl, rfl, rfl, rfl, rfl, rfl, trivial⟩
                · exact tr_V.to (fun h => h) ⟨rfl, rfl, rfl, rfl, rfl, trivial⟩
            · exact tr_V.to (fun h => h) ⟨rfl, rfl, rfl, rfl, rfl, trivial⟩
          · intro v13
            refine tr_V.aload_n (i := 0) dX7_layWays_130 rfl rfl ?_
            refine tr_V.getR (Nat.succ_pos _) fl_X7_56 shM_1 rfl dX7_layWays_131 ?_
            refine tr_V.iload_n (i := 2) dX7_layWays_134 rfl rfl ?_
            refine tr_V.iload_n (i := 3) dX7_layWays_135 rfl rfl ?_
            refine tr_V.callS (C_X7_spot s4.1 s5.1 s5.2) yk_X7_spot sc_X7_spot ml_X7_243 ⟨rfl, Nat.le_of_ble_eq_true rfl⟩ rfl (Nat.le_of_ble_eq_true rfl) rfl dX7_layWays_136 ?_
            refine tr_V.iload dX7_layWays_139 rfl ?_
            refine tr_V.bd (fun M27 h28 => ?_)
            refine tr_V.iast h28 shM_17 dX7_layWays_141 ?_
            refine tr_V.iinc (cst := (1 : Int32)) dX7_layWays_142 rfl (by decide) rfl ?_
            refine tr_V.goto (tgt := 11) dX7_layWays_145 (by decide) ?_
            exact tr_V.to (fun h => h) ⟨rfl, rfl, rfl, rfl, trivial⟩
      · refine tr_V.bd (fun x29 h30 => ?_)
        refine tr_V.iincN (cst := (-1 : Int32)) dX7_layWays_148 rfl (by decide) rfl h30 ?_
        refine tr_V.goto (tgt := 5) dX7_layWays_151 (by decide) ?_
        exact tr_V.to (fun h => h) ⟨rfl, rfl, rfl, trivial⟩
  · intro v3
    refine tr_V.aload_n (i := 0) dX7_layWays_154 rfl rfl ?_
    refine tr_V.aload_n (i := 0) dX7_layWays_155 rfl rfl ?_
    refine tr_V.getI fl_X7_157 shM_1 rfl dX7_layWays_156 ?_
    refine tr_V.if_ne (tgt := 166) dX7_layWays_159 (by decide) ?_ ?_
    · refine tr_V.iconst (v := (1 : Int32)) dX7_layWays_162 (by decide) ?_
      refine tr_V.goto (tgt := 176) dX7_layWays_163 (by decide) ?_
      refine tr_V.bd (fun M31 h32 => ?_)
      refine tr_V.putI fl_X7_260 shM_1 rfl dX7_layWays_176 h32 ?_
      exact tr_V.vret dX7_layWays_179 rfl (fun h => h)
    · refine tr_V.aload_n (i := 0) dX7_layWays_166 rfl rfl ?_
      refine tr_V.getR (Nat.succ_pos _) fl_X7_56 shM_1 rfl dX7_layWays_167 ?_
      refine tr_V.iconst (v := (0 : Int32)) dX7_layWays_170 (by decide) ?_
      refine tr_V.iconst (v := (0 : Int32)) dX7_layWays_171 (by decide) ?_
      refine tr_V.callS (C_X7_spot (0 : Int32) (0 : Int32) v3) yk_X7_spot sc_X7_spot ml_X7_243 ⟨rfl, Nat.le_of_ble_eq_true rfl⟩ rfl (Nat.le_of_ble_eq_true rfl) rfl dX7_layWays_172 ?_
      refine tr_V.bd (fun a35 h36 => ?_)
      refine tr_V.iald h36 shM_17 dX7_layWays_175 ?_
      refine tr_V.bd (fun M37 h38 => ?_)
      refine tr_V.putI fl_X7_260 shM_1 rfl dX7_layWays_176 h38 ?_
      exact tr_V.vret dX7_layWays_179 rfl (fun h => h)
abbrev xX7_layComes : tr_X := (cX7_layComes, 5, RX7, (Option.none : Option Jvm.ClassFile.FieldType), 5, shM, 24)
theorem cw_X7_layComes : Cond.code yX7_layComes cX7_layComes 5 (Option.none : Option Jvm.ClassFile.FieldType) ∈ tr_tbl := tr_in 1660 (by decide +kernel) rfl
theorem yk_X7_layComes : tr_yk yX7_layComes (xX7_layComes) 1 := ⟨cw_X7_layComes, in_X7, ⟨by decide +kernel, by decide +kernel, by decide +kernel⟩, Nat.le_of_ble_eq_true rfl⟩
theorem iv_X7_layComes : Cond.instanceMethod yX7_layComes ∈ tr_tbl ∧ Cond.selects (yX7_layComes).cls yX7_layComes yX7_layComes ∈ tr_tbl := ⟨tr_in 1659 (by decide +kernel) rfl, tr_in 113 (by decide +kernel) rfl⟩
def mX7_layComes_l12 (s2 : Int32 × tr_M) (s5 : Int32 × tr_M) : Option ((Int32 × tr_M) ⊕ ((Int32 × tr_M) ⊕ (tr_M))) :=
  if s5.1 < (s5.2.1 1 10) then (
    if s2.1 = 0 then (
      if s5.1 = 0 then (
        Option.bind (tr_wr 10240 s5.2 18 (mX7_spot s2.1 s5.1) (1 : Int32)) (fun M8 =>
        some (.inl ((s5.1 + (1 : Int32)), M8))
        )
      ) else (
        Option.bind (tr_wr 10240 s5.2 18 (mX7_spot s2.1 s5.1) (0 : Int32)) (fun M10 =>
        some (.inl ((s5.1 + (1 : Int32)), M10))
        )
      )
    ) else (
      Option.bind (tr_wr 10240 s5.2 18 (mX7_spot s2.1 s5.1) (0 : Int32)) (fun M12 =>
      some (.inl ((s5.1 + (1 : Int32)), M12))
      )
    )
  ) else (
    some (.inr (.inl ((s2.1 + (1 : Int32)), s5.2)))
  )
def mX7_layComes_l2  (s2 : Int32 × tr_M) : Option ((Int32 × tr_M) ⊕ (tr_M)) :=
  if (mX7_full s2.2) < s2.1 then (
    some (.inr s2.2)
  ) else (
    tr_loop (mX7_layComes_l12 s2) ((0 : Int32), s2.2)
  )
def mX7_layComes_l91 (p1 : Int32) (s14 : Int32 × tr_M) (s17 : Int32 × tr_M) (s22 : Int32 × tr_M) : Option ((Int32 × tr_M) ⊕ ((Int32 × tr_M) ⊕ ((Int32 × tr_M) ⊕ (tr_M)))) :=
  if s22.1 < (s22.2.1 1 10) then (
    Option.bind (show Option (Int32) from
      if s14.1 = 0 then (
        some (-9 : Int32)
      ) else (
        some s17.1
      )
    ) (fun (v23 : Int32) =>
      Option.bind (mX7_isGood p1 s14.1 v23 s22.1 s22.2) (fun c24 =>
      if c24 = 0 then (
        some (.inl ((s22.1 + (1 : Int32)), s22.2))
      ) else (
        Option.bind (tr_rd 10240 s22.2 18 (mX7_spot (s14.1 ||| ((1 : Int32) <<< (s22.1 &&& 31))) s22.1)) (fun a28 =>
        Option.bind (tr_rd 10240 s22.2 18 (mX7_spot s14.1 s17.1)) (fun a32 =>
        Option.bind (tr_wr 10240 s22.2 18 (mX7_spot (s14.1 ||| ((1 : Int32) <<< (s22.1 &&& 31))) s22.1) (a28 + a32)) (fun M34 =>
        some (.inl ((s22.1 + (1 : Int32)), M34))
        )
        )
        )
      )
      )
    )
  ) else (
    some (.inr (.inl ((s17.1 + (1 : Int32)), s22.2)))
  )
def mX7_layComes_l67 (p1 : Int32) (s14 : Int32 × tr_M) (s17 : Int32 × tr_M) : Option ((Int32 × tr_M) ⊕ ((Int32 × tr_M) ⊕ (tr_M))) :=
  if s17.1 < (s17.2.1 1 10) then (
    Option.bind (tr_rd 10240 s17.2 18 (mX7_spot s14.1 s17.1)) (fun a20 =>
    if 0 < a20 then (
      tr_loop (mX7_layComes_l91 p1 s14 s17) ((0 : Int32), s17.2)
    ) else (
      some (.inl ((s17.1 + (1 : Int32)), s17.2))
    )
    )
  ) else (
    some (.inr (.inl ((s14.1 + (1 : Int32)), s17.2)))
  )
def mX7_layComes_l57 (p1 : Int32) (s14 : Int32 × tr_M) : Option ((Int32 × tr_M) ⊕ (tr_M)) :=
  if s14.1 < (mX7_full s14.2) then (
    tr_loop (mX7_layComes_l67 p1 s14) ((0 : Int32), s14.2)
  ) else (
    some (.inr s14.2)
  )
def mX7_layComes (p1 : Int32) (M : tr_M) : Option (tr_M) :=
  Option.bind (show Option (tr_M) from
    tr_loop (mX7_layComes_l2) ((0 : Int32), M)
  ) (fun (v1 : tr_M) =>
    tr_loop (mX7_layComes_l57 p1) ((0 : Int32), v1)
  )
set_option maxRecDepth 100000 in
set_option maxHeartbeats 4000000 in
theorem C_X7_layComes (p1 : Int32) (M M' : tr_M) (h : mX7_layComes p1 M = some M') : tr_I yX7_layComes (xX7_layComes) [.ref 1, .int p1] M none M' := by
  refine tr_I.of (Z := fun q : tr_M => (none : Option Value) = none ∧ M' = q) pn_X7 rfl gdM (Nat.le_of_ble_eq_true rfl) (fun Wt => ?_) h ⟨rfl, rfl⟩
  unfold mX7_layComes
  refine tr_V.iconst (v := (0 : Int32)) dX7_layComes_0 (by decide) ?_
  refine tr_V.istore_n (i := 2) dX7_layComes_1 rfl (Nat.le_of_ble_eq_true rfl) rfl ?_
  refine tr_V.seq (τ := tr_M) (pc' := 55) (L := fun v1 => [(0, some (.ref 1)), (1, some (.int p1))]) (S := fun v1 => []) (Mf := fun v1 => v1) ?_ ?_
  · refine tr_V.loop (σ := Int32 × tr_M) (step := mX7_layComes_l2) (L := fun s2 => [(0, some (.ref 1)), (1, some (.int p1)), (2, some (.int s2.1))]) (Mf := fun s2 => s2.2) ?_ ((0 : Int32), M) ⟨rfl, rfl, rfl, trivial⟩
    intro s2
    refine tr_V.iload_n (i := 2) dX7_layComes_2 rfl rfl ?_
    refine tr_V.aload_n (i := 0) dX7_layComes_3 rfl rfl ?_
    refine tr_V.callV (C_X7_full s2.2) yk_X7_full iv_X7_full ml_X7_236 shM_1 rfl ⟨rfl, Nat.le_of_ble_eq_true rfl⟩ rfl (Nat.le_of_ble_eq_true rfl) rfl dX7_layComes_4 ?_
    refine tr_V.icmp_gt (tgt := 55) dX7_layComes_7 (by decide) ?_ ?_
    · exact tr_V.to (fun h => h) ⟨rfl, rfl, trivial⟩
    · refine tr_V.iconst (v := (0 : Int32)) dX7_layComes_10 (by decide) ?_
      refine tr_V.istore_n (i := 3) dX7_layComes_11 rfl (Nat.le_of_ble_eq_true rfl) rfl ?_
      refine tr_V.loop (σ := Int32 × tr_M) (step := mX7_layComes_l12 s2) (L := fun s5 => [(0, some (.ref 1)), (1, some (.int p1)), (2, some (.int s2.1)), (3, some (.int s5.1))]) (Mf := fun s5 => s5.2) ?_ ((0 : Int32), s2.2) ⟨rfl, rfl, rfl, rfl, trivial⟩
      intro s5
      refine tr_V.iload_n (i := 3) dX7_layComes_12 rfl rfl ?_
      refine tr_V.aload_n (i := 0) dX7_layComes_13 rfl rfl ?_
      refine tr_V.getI fl_X7_157 shM_1 rfl dX7_layComes_14 ?_
      refine tr_V.icmp_ge (tgt := 49) dX7_layComes_17 (by decide) ?_ ?_
      · refine tr_V.aload_n (i := 0) dX7_layComes_20 rfl rfl ?_
        refine tr_V.getR (Nat.succ_pos _) fl_X7_59 shM_1 rfl dX7_layComes_21 ?_
        refine tr_V.iload_n (i := 2) dX7_layComes_24 rfl rfl ?_
        refine tr_V.iload_n (i := 3) dX7_layComes_25 rfl rfl ?_
        refine tr_V.callS (C_X7_spot s2.1 s5.1 s5.2) yk_X7_spot sc_X7_spot ml_X7_243 ⟨rfl, Nat.le_of_ble_eq_true rfl⟩ rfl (Nat.le_of_ble_eq_true rfl) rfl dX7_layComes_26 ?_
        refine tr_V.iload_n (i := 2) dX7_layComes_29 rfl rfl ?_
        refine tr_V.if_ne (tgt := 41) dX7_layComes_30 (by decide) ?_ ?_
        · refine tr_V.iload_n (i := 3) dX7_layComes_33 rfl rfl ?_
          refine tr_V.if_ne (tgt := 41) dX7_layComes_34 (by decide) ?_ ?_
          · refine tr_V.iconst (v := (1 : Int32)) dX7_layComes_37 (by decide) ?_
            refine tr_V.goto (tgt := 42) dX7_layComes_38 (by decide) ?_
            refine tr_V.bd (fun M8 h9 => ?_)
            refine tr_V.iast h9 shM_18 dX7_layComes_42 ?_
            refine tr_V.iinc (cst := (1 : Int32)) dX7_layComes_43 rfl (by decide) rfl ?_
            refine tr_V.goto (tgt := 12) dX7_layComes_46 (by decide) ?_
            exact tr_V.to (fun h => h) ⟨rfl, rfl, rfl, rfl, trivial⟩
          · refine tr_V.iconst (v := (0 : Int32)) dX7_layComes_41 (by decide) ?_
            refine tr_V.bd (fun M10 h11 => ?_)
            refine tr_V.iast h11 shM_18 dX7_layComes_42 ?_
            refine tr_V.iinc (cst := (1 : Int32)) dX7_layComes_43 rfl (by decide) rfl ?_
            refine tr_V.goto (tgt := 12) dX7_layComes_46 (by decide) ?_
            exact tr_V.to (fun h => h) ⟨rfl, rfl, rfl, rfl, trivial⟩
        · refine tr_V.iconst (v := (0 : Int32)) dX7_layComes_41 (by decide) ?_
          refine tr_V.bd (fun M12 h13 => ?_)
          refine tr_V.iast h13 shM_18 dX7_layComes_42 ?_
          refine tr_V.iinc (cst := (1 : Int32)) dX7_layComes_43 rfl (by decide) rfl ?_
          refine tr_V.goto (tgt := 12) dX7_layComes_46 (by decide) ?_
          exact tr_V.to (fun h => h) ⟨rfl, rfl, rfl, rfl, trivial⟩
      · refine tr_V.iinc (cst := (1 : Int32)) dX7_layComes_49 rfl (by decide) rfl ?_
        refine tr_V.goto (tgt := 2) dX7_layComes_52 (by decide) ?_
        exact tr_V.to (fun h => h) ⟨rfl, rfl, rfl, trivial⟩
  · intro v1
    refine tr_V.iconst (v := (0 : Int32)) dX7_layComes_55 (by decide) ?_
    refine tr_V.istore_n (i := 2) dX7_layComes_56 rfl (Nat.le_of_ble_eq_true rfl) rfl ?_
    refine tr_V.loop (σ := Int32 × tr_M) (step := mX7_layComes_l57 p1) (L := fun s14 => [(0, some (.ref 1)), (1, some (.int p1)), (2, some (.int s14.1))]) (Mf := fun s14 => s14.2) ?_ ((0 : Int32), v1) ⟨rfl, rfl, rfl, trivial⟩
    intro s14
    refine tr_V.iload_n (i := 2) dX7_layComes_57 rfl rfl ?_
    refine tr_V.aload_n (i := 0) dX7_layComes_58 rfl rfl ?_
    refine tr_V.callV (C_X7_full s14.2) yk_X7_full iv_X7_full ml_X7_236 shM_1 rfl ⟨rfl, Nat.le_of_ble_eq_true rfl⟩ rfl (Nat.le_of_ble_eq_true rfl) rfl dX7_layComes_59 ?_
    refine tr_V.icmp_ge (tgt := 168) dX7_layComes_62 (by decide) ?_ ?_
    · refine tr_V.iconst (v := (0 : Int32)) dX7_layComes_65 (by decide) ?_
      refine tr_V.istore_n (i := 3) dX7_layComes_66 rfl (Nat.le_of_ble_eq_true rfl) rfl ?_
      refine tr_V.loop (σ := Int32 × tr_M) (step := mX7_layComes_l67 p1 s14) (L := fun s17 => [(0, some (.ref 1)), (1, some (.int p1)), (2, some (.int s14.1)), (3, some (.int s17.1))]) (Mf := fun s17 => s17.2) ?_ ((0 : Int32), s14.2) ⟨rfl, rfl, rfl, rfl, trivial⟩
      intro s17
      refine tr_V.iload_n (i := 3) dX7_layComes_67 rfl rfl ?_
      refine tr_V.aload_n (i := 0) dX7_layComes_68 rfl rfl ?_
      refine tr_V.getI fl_X7_157 shM_1 rfl dX7_layComes_69 ?_
      refine tr_V.icmp_ge (tgt := 162) dX7_layComes_72 (by decide) ?_ ?_
      · refine tr_V.aload_n (i := 0) dX7_layComes_75 rfl rfl ?_
        refine tr_V.getR (Nat.succ_pos _) fl_X7_59 shM_1 rfl dX7_layComes_76 ?_
        refine tr_V.iload_n (i := 2) dX7_layComes_79 rfl rfl ?_
        refine tr_V.iload_n (i := 3) dX7_layComes_80 rfl rfl ?_
        refine tr_V.callS (C_X7_spot s14.1 s17.1 s17.2) yk_X7_spot sc_X7_spot ml_X7_243 ⟨rfl, Nat.le_of_ble_eq_true rfl⟩ rfl (Nat.le_of_ble_eq_true rfl) rfl dX7_layComes_81 ?_
        refine tr_V.bd (fun a20 h21 => ?_)
        refine tr_V.iald h21 shM_18 dX7_layComes_84 ?_
        refine tr_V.if_le (tgt := 156) dX7_layComes_85 (by decide) ?_ ?_
        · refine tr_V.iconst (v := (0 : Int32)) dX7_layComes_88 (by decide) ?_
          refine tr_V.istore (i := 4) dX7_layComes_89 (Nat.le_of_ble_eq_true rfl) rfl ?_
          refine tr_V.loop (σ := Int32 × tr_M) (step := mX7_layComes_l91 p1 s14 s17) (L := fun s22 => [(0, some (.ref 1)), (1, some (.int p1)), (2, some (.int s14.1)), (3, some (.int s17.1)), (4, some (.int s22.1))]) (Mf := fun s22 => s22.2) ?_ ((0 : Int32), s17.2) ⟨rfl, rfl, rfl, rfl, rfl, trivial⟩
          intro s22
          refine tr_V.iload dX7_layComes_91 rfl ?_
          refine tr_V.aload_n (i := 0) dX7_layComes_93 rfl rfl ?_
          refine tr_V.getI fl_X7_157 shM_1 rfl dX7_layComes_94 ?_
          refine tr_V.icmp_ge (tgt := 156) dX7_layComes_97 (by decide) ?_ ?_
          · refine tr_V.aload_n (i := 0) dX7_layComes_100 rfl rfl ?_
            refine tr_V.iload_n (i := 1) dX7_layComes_101 rfl rfl ?_
            refine tr_V.iload_n (i := 2) dX7_layComes_102 rfl rfl ?_
            refine tr_V.iload_n (i := 2) dX7_layComes_103 rfl rfl ?_
            refine tr_V.seq (τ := Int32) (pc' := 113) (L := fun v23 => [(0, some (.ref 1)), (1, some (.int p1)), (2, some (.int s14.1)), (3, some (.int s17.1)), (4, some (.int s22.1))]) (S := fun v23 => [.int v23, .int s14.1, .int p1, .ref 1]) (Mf := fun v23 => s22.2) ?_ ?_
            · refine tr_V.if_ne (tgt := 112) dX7_layComes_104 (by decide) ?_ ?_
              · refine tr_V.bipush (v := (-9 : Int32)) dX7_layComes_107 (by decide) ?_
                refine tr_V.goto (tgt := 113) dX7_layComes_109 (by decide) ?_
                exact tr_V.to (fun h => h) ⟨rfl, rfl, rfl, rfl, rfl, trivial⟩
              · refine tr_V.iload_n (i := 3) dX7_layComes_112 rfl rfl ?_
                exact tr_V.to (fun h => h) ⟨rfl, rfl, rfl, rfl, rfl, trivial⟩
            · intro v23
              refine tr_V.iload dX7_layComes_113 rfl ?_
              refine tr_V.bd (fun c24 h25 => ?_)
              refine tr_V.callV (C_X7_isGood p1 s14.1 v23 s22.1 s22.2 _ h25) yk_X7_isGood iv_X7_isGood ml_X7_257 shM_1 rfl ⟨rfl, Nat.le_of_ble_eq_true rfl⟩ rfl (Nat.le_of_ble_eq_true rfl) rfl dX7_layComes_115 ?_
              refine tr_V.if_eq (tgt := 150) dX7_layComes_118 (by decide) ?_ ?_
              · refine tr_V.iinc (cst := (1 : Int32)) dX7_layComes_150 rfl (by decide) rfl ?_
                refine tr_V.goto (tgt := 91) dX7_layComes_153 (by decide) ?_
                exact tr_V.to (fun h => h) ⟨rfl, rfl, rfl, rfl, rfl, trivial⟩
              · refine tr_V.aload_n (i := 0) dX7_layComes_121 rfl rfl ?_
                refine tr_V.getR (Nat.succ_pos _) fl_X7_59 shM_1 rfl dX7_layComes_122 ?_
                refine tr_V.iload_n (i := 2) dX7_layComes_125 rfl rfl ?_
                refine tr_V.iconst (v := (1 : Int32)) dX7_layComes_126 (by decide) ?_
                refine tr_V.iload dX7_layComes_127 rfl ?_
                refine tr_V.ishl dX7_layComes_129 ?_
                refine tr_V.ior dX7_layComes_130 ?_
                refine tr_V.iload dX7_layComes_131 rfl ?_
                refine tr_V.callS (C_X7_spot (s14.1 ||| ((1 : Int32) <<< (s22.1 &&& 31))) s22.1 s22.2) yk_X7_spot sc_X7_spot ml_X7_243 ⟨rfl, Nat.le_of_ble_eq_true rfl⟩ rfl (Nat.le_of_ble_eq_true rfl) rfl dX7_layComes_133 ?_
                refine tr_V.dup2 rfl rfl dX7_layComes_136 ?_
                refine tr_V.bd (fun a28 h29 => ?_)
                refine tr_V.iald h29 shM_18 dX7_layComes_137 ?_
                refine tr_V.aload_n (i := 0) dX7_layComes_138 rfl rfl ?_
                refine tr_V.getR (Nat.succ_pos _) fl_X7_59 shM_1 rfl dX7_layComes_139 ?_
                refine tr_V.iload_n (i := 2) dX7_layComes_142 rfl rfl ?_
                refine tr_V.iload_n (i := 3) dX7_layComes_143 rfl rfl ?_
                refine tr_V.callS (C_X7_spot s14.1 s17.1 s22.2) yk_X7_spot sc_X7_spot ml_X7_243 ⟨rfl, Nat.le_of_ble_eq_true rfl⟩ rfl (Nat.le_of_ble_eq_true rfl) rfl dX7_layComes_144 ?_
                refine tr_V.bd (fun a32 h33 => ?_)
                refine tr_V.iald h33 shM_18 dX7_layComes_147 ?_
                refine tr_V.iadd dX7_layComes_148 ?_
                refine tr_V.bd (fun M34 h35 => ?_)
                refine tr_V.iast h35 shM_18 dX7_layComes_149 ?_
                refine tr_V.iinc (cst := (1 : Int32)) dX7_layComes_150 rfl (by decide) rfl ?_
                refine tr_V.goto (tgt := 91) dX7_layComes_153 (by decide) ?_
                exact tr_V.to (fun h => h) ⟨rfl, rfl, rfl, rfl, rfl, trivial⟩
          · refine tr_V.iinc (cst := (1 : Int32)) dX7_layComes_156 rfl (by decide) rfl ?_
            refine tr_V.goto (tgt := 67) dX7_layComes_159 (by decide) ?_
            exact tr_V.to (fun h => h) ⟨rfl, rfl, rfl, rfl, trivial⟩
        · refine tr_V.iinc (cst := (1 : Int32)) dX7_layComes_156 rfl (by decide) rfl ?_
          refine tr_V.goto (tgt := 67) dX7_layComes_159 (by decide) ?_
          exact tr_V.to (fun h => h) ⟨rfl, rfl, rfl, rfl, trivial⟩
      · refine tr_V.iinc (cst := (1 : Int32)) dX7_layComes_162 rfl (by decide) rfl ?_
        refine tr_V.goto (tgt := 57) dX7_layComes_165 (by decide) ?_
        exact tr_V.to (fun h => h) ⟨rfl, rfl, rfl, trivial⟩
    · exact tr_V.vret dX7_layComes_168 rfl (fun h => h)
abbrev xX7_firstLine : tr_X := (cX7_firstLine, 2, RX7, (Option.none : Option Jvm.ClassFile.FieldType), 2, shM, 24)
theorem cw_X7_firstLine : Cond.code yX7_firstLine cX7_firstLine 2 (Option.none : Option Jvm.ClassFile.FieldType) ∈ tr_tbl := tr_in 1510 (by decide +kernel) rfl
theorem yk_X7_firstLine : tr_yk yX7_firstLine (xX7_firstLine) 0 := ⟨cw_X7_firstLine, in_X7, ⟨by decide +kernel, by decide +kernel, by decide +kernel⟩, Nat.le_of_ble_eq_true rfl⟩
theorem iv_X7_firstLine : Cond.instanceMethod yX7_firstLine ∈ tr_tbl ∧ Cond.selects (yX7_firstLine).cls yX7_firstLine yX7_firstLine ∈ tr_tbl := ⟨tr_in 1509 (by decide +kernel) rfl, tr_in 87 (by decide +kernel) rfl⟩
def mX7_firstLine_l2  (s2 : Int32 × tr_M) : Option ((Int32 × tr_M) ⊕ (tr_M)) :=
  if s2.1 < (s2.2.1 1 10) then (
    Option.bind (tr_wr 10 s2.2 12 s2.1 s2.1) (fun M3 =>
    some (.inl ((s2.1 + (1 : Int32)), M3))
    )
  ) else (
    some (.inr s2.2)
  )
def mX7_firstLine  (M : tr_M) : Option (tr_M) :=
  Option.bind (show Option (tr_M) from
    tr_loop (mX7_firstLine_l2) ((0 : Int32), M)
  ) (fun (v1 : tr_M) =>
    Option.bind (mX7_layPlaces v1) (fun c5 =>
    some c5
    )
  )
set_option maxRecDepth 100000 in
set_option maxHeartbeats 4000000 in
theorem C_X7_firstLine  (M M' : tr_M) (h : mX7_firstLine M = some M') : tr_I yX7_firstLine (xX7_firstLine) [.ref 1] M none M' := by
  refine tr_I.of (Z := fun q : tr_M => (none : Option Value) = none ∧ M' = q) pn_X7 rfl gdM (Nat.le_of_ble_eq_true rfl) (fun Wt => ?_) h ⟨rfl, rfl⟩
  unfold mX7_firstLine
  refine tr_V.iconst (v := (0 : Int32)) dX7_firstLine_0 (by decide) ?_
  refine tr_V.istore_n (i := 1) dX7_firstLine_1 rfl (Nat.le_of_ble_eq_true rfl) rfl ?_
  refine tr_V.seq (τ := tr_M) (pc' := 23) (L := fun v1 => [(0, some (.ref 1))]) (S := fun v1 => []) (Mf := fun v1 => v1) ?_ ?_
  · refine tr_V.loop (σ := Int32 × tr_M) (step := mX7_firstLine_l2) (L := fun s2 => [(0, some (.ref 1)), (1, some (.int s2.1))]) (Mf := fun s2 => s2.2) ?_ ((0 : Int32), M) ⟨rfl, rfl, trivial⟩
    intro s2
    refine tr_V.iload_n (i := 1) dX7_firstLine_2 rfl rfl ?_
    refine tr_V.aload_n (i := 0) dX7_firstLine_3 rfl rfl ?_
    refine tr_V.getI fl_X7_157 shM_1 rfl dX7_firstLine_4 ?_
    refine tr_V.icmp_ge (tgt := 23) dX7_firstLine_7 (by decide) ?_ ?_
    · refine tr_V.aload_n (i := 0) dX7_firstLine_10 rfl rfl ?_
      refine tr_V.getR (Nat.succ_pos _) fl_X7_41 shM_1 rfl dX7_firstLine_11 ?_
      refine tr_V.iload_n (i := 1) dX7_firstLine_14 rfl rfl ?_
      refine tr_V.iload_n (i := 1) dX7_firstLine_15 rfl rfl ?_
      refine tr_V.bd (fun M3 h4 => ?_)
      refine tr_V.iast h4 shM_12 dX7_firstLine_16 ?_
      refine tr_V.iinc (cst := (1 : Int32)) dX7_firstLine_17 rfl (by decide) rfl ?_
      refine tr_V.goto (tgt := 2) dX7_firstLine_20 (by decide) ?_
      exact tr_V.to (fun h => h) ⟨rfl, rfl, trivial⟩
    · exact tr_V.to (fun h => h) ⟨rfl, trivial⟩
  · intro v1
    refine tr_V.aload_n (i := 0) dX7_firstLine_23 rfl rfl ?_
    refine tr_V.bd (fun c5 h6 => ?_)
    refine tr_V.callV (C_X7_layPlaces v1 _ h6) yk_X7_layPlaces iv_X7_layPlaces ml_X7_189 shM_1 rfl ⟨rfl, Nat.le_of_ble_eq_true rfl⟩ rfl (Nat.le_of_ble_eq_true rfl) rfl dX7_firstLine_24 ?_
    exact tr_V.vret dX7_firstLine_27 rfl (fun h => h)
abbrev xX7_swap : tr_X := (cX7_swap, 4, RX7, (Option.none : Option Jvm.ClassFile.FieldType), 1, shM, 24)
theorem cw_X7_swap : Cond.code yX7_swap cX7_swap 4 (Option.none : Option Jvm.ClassFile.FieldType) ∈ tr_tbl := tr_in 1522 (by decide +kernel) rfl
theorem yk_X7_swap : tr_yk yX7_swap (xX7_swap) 2 := ⟨cw_X7_swap, in_X7, ⟨by decide +kernel, by decide +kernel, by decide +kernel⟩, Nat.le_of_ble_eq_true rfl⟩
theorem iv_X7_swap : Cond.instanceMethod yX7_swap ∈ tr_tbl ∧ Cond.selects (yX7_swap).cls yX7_swap yX7_swap ∈ tr_tbl := ⟨tr_in 1521 (by decide +kernel) rfl, tr_in 90 (by decide +kernel) rfl⟩
def mX7_swap (p1 : Int32) (p2 : Int32) (M : tr_M) : Option (tr_M) :=
  Option.bind (tr_rd 10 M 12 p1) (fun a1 =>
  Option.bind (tr_rd 10 M 12 p2) (fun a3 =>
  Option.bind (tr_wr 10 M 12 p1 a3) (fun M5 =>
  Option.bind (tr_wr 10 M5 12 p2 a1) (fun M7 =>
  some M7
  )
  )
  )
  )
set_option maxRecDepth 100000 in
set_option maxHeartbeats 4000000 in
theorem C_X7_swap (p1 : Int32) (p2 : Int32) (M M' : tr_M) (h : mX7_swap p1 p2 M = some M') : tr_I yX7_swap (xX7_swap) [.ref 1, .int p1, .int p2] M none M' := by
  refine tr_I.of (Z := fun q : tr_M => (none : Option Value) = none ∧ M' = q) pn_X7 rfl gdM (Nat.le_of_ble_eq_true rfl) (fun Wt => ?_) h ⟨rfl, rfl⟩
  unfold mX7_swap
  refine tr_V.aload_n (i := 0) dX7_swap_0 rfl rfl ?_
  refine tr_V.getR (Nat.succ_pos _) fl_X7_41 shM_1 rfl dX7_swap_1 ?_
  refine tr_V.iload_n (i := 1) dX7_swap_4 rfl rfl ?_
  refine tr_V.bd (fun a1 h2 => ?_)
  refine tr_V.iald h2 shM_12 dX7_swap_5 ?_
  refine tr_V.istore_n (i := 3) dX7_swap_6 rfl (Nat.le_of_ble_eq_true rfl) rfl ?_
  refine tr_V.aload_n (i := 0) dX7_swap_7 rfl rfl ?_
  refine tr_V.getR (Nat.succ_pos _) fl_X7_41 shM_1 rfl dX7_swap_8 ?_
  refine tr_V.iload_n (i := 1) dX7_swap_11 rfl rfl ?_
  refine tr_V.aload_n (i := 0) dX7_swap_12 rfl rfl ?_
  refine tr_V.getR (Nat.succ_pos _) fl_X7_41 shM_1 rfl dX7_swap_13 ?_
  refine tr_V.iload_n (i := 2) dX7_swap_16 rfl rfl ?_
  refine tr_V.bd (fun a3 h4 => ?_)
  refine tr_V.iald h4 shM_12 dX7_swap_17 ?_
  refine tr_V.bd (fun M5 h6 => ?_)
  refine tr_V.iast h6 shM_12 dX7_swap_18 ?_
  refine tr_V.aload_n (i := 0) dX7_swap_19 rfl rfl ?_
  refine tr_V.getR (Nat.succ_pos _) fl_X7_41 shM_1 rfl dX7_swap_20 ?_
  refine tr_V.iload_n (i := 2) dX7_swap_23 rfl rfl ?_
  refine tr_V.iload_n (i := 3) dX7_swap_24 rfl rfl ?_
  refine tr_V.bd (fun M7 h8 => ?_)
  refine tr_V.iast h8 shM_12 dX7_swap_25 ?_
  exact tr_V.vret dX7_swap_26 rfl (fun h => h)
abbrev xX7_nextLine : tr_X := (cX7_nextLine, 5, RX7, (some .boolean), 2, shM, 24)
theorem cw_X7_nextLine : Cond.code yX7_nextLine cX7_nextLine 5 (some .boolean) ∈ tr_tbl := tr_in 1518 (by decide +kernel) rfl
theorem yk_X7_nextLine : tr_yk yX7_nextLine (xX7_nextLine) 0 := ⟨cw_X7_nextLine, in_X7, ⟨by decide +kernel, by decide +kernel, by decide +kernel⟩, Nat.le_of_ble_eq_true rfl⟩
theorem iv_X7_nextLine : Cond.instanceMethod yX7_nextLine ∈ tr_tbl ∧ Cond.selects (yX7_nextLine).cls yX7_nextLine yX7_nextLine ∈ tr_tbl := ⟨tr_in 1517 (by decide +kernel) rfl, tr_in 89 (by decide +kernel) rfl⟩
def mX7_nextLine_l7 (M : tr_M) (s2 : Int32) : Option ((Int32) ⊕ (Int32)) :=
  if s2 < 0 then (
    some (.inr s2)
  ) else (
    Option.bind (tr_rd 10 M 12 s2) (fun a3 =>
    Option.bind (tr_rd 10 M 12 (s2 + (1 : Int32))) (fun a5 =>
    if a5 < a3 then (
      Option.bind (some (s2 + (-1 : Int32))) (fun x7 =>
      some (.inl x7)
      )
    ) else (
      some (.inr s2)
    )
    )
    )
  )
def mX7_nextLine_l47 (M : tr_M) (v1 : Int32) (s10 : Int32) : Option ((Int32) ⊕ (Int32)) :=
  Option.bind (tr_rd 10 M 12 s10) (fun a11 =>
  Option.bind (tr_rd 10 M 12 v1) (fun a13 =>
  if a11 < a13 then (
    Option.bind (some (s10 + (-1 : Int32))) (fun x15 =>
    some (.inl x15)
    )
  ) else (
    some (.inr s10)
  )
  )
  )
def mX7_nextLine_l86  (s20 : Int32 × Int32 × tr_M) : Option ((Int32 × Int32 × tr_M) ⊕ (tr_M)) :=
  if s20.1 < s20.2.1 then (
    Option.bind (mX7_swap s20.1 s20.2.1 s20.2.2) (fun c21 =>
    Option.bind (some (s20.2.1 + (-1 : Int32))) (fun x23 =>
    some (.inl ((s20.1 + (1 : Int32)), x23, c21))
    )
    )
  ) else (
    some (.inr s20.2.2)
  )
def mX7_nextLine  (M : tr_M) : Option (Int32 × tr_M) :=
  Option.bind (show Option (Int32) from
    tr_loop (mX7_nextLine_l7 M) ((M.1 1 10) - (2 : Int32))
  ) (fun (v1 : Int32) =>
    if v1 < 0 then (
      some ((0 : Int32), M)
    ) else (
      Option.bind (show Option (Int32) from
        tr_loop (mX7_nextLine_l47 M v1) ((M.1 1 10) - (1 : Int32))
      ) (fun (v9 : Int32) =>
        Option.bind (mX7_swap v1 v9 M) (fun c17 =>
        Option.bind (show Option (tr_M) from
          tr_loop (mX7_nextLine_l86) ((v1 + (1 : Int32)), ((c17.1 1 10) - (1 : Int32)), c17)
        ) (fun (v19 : tr_M) =>
          Option.bind (mX7_layPlaces v19) (fun c25 =>
          some ((1 : Int32), c25)
          )
        )
        )
      )
    )
  )
set_option maxRecDepth 100000 in
set_option maxHeartbeats 4000000 in
theorem C_X7_nextLine  (M : tr_M) (r : Int32 × tr_M) (h : mX7_nextLine M = some r) : tr_I yX7_nextLine (xX7_nextLine) [.ref 1] M (some (.int r.1)) r.2 := by
  refine tr_I.of (Z := fun q : Int32 × tr_M => (some (.int r.1) : Option Value) = some (.int q.1) ∧ r.2 = q.2) pn_X7 rfl gdM (Nat.le_of_ble_eq_true rfl) (fun Wt => ?_) h ⟨rfl, rfl⟩
  unfold mX7_nextLine
  refine tr_V.aload_n (i := 0) dX7_nextLine_0 rfl rfl ?_
  refine tr_V.getI fl_X7_157 shM_1 rfl dX7_nextLine_1 ?_
  refine tr_V.iconst (v := (2 : Int32)) dX7_nextLine_4 (by decide) ?_
  refine tr_V.isub dX7_nextLine_5 ?_
  refine tr_V.istore_n (i := 1) dX7_nextLine_6 rfl (Nat.le_of_ble_eq_true rfl) rfl ?_
  refine tr_V.seq (τ := Int32) (pc' := 34) (L := fun v1 => [(0, some (.ref 1)), (1, some (.int v1))]) (S := fun v1 => []) (Mf := fun v1 => M) ?_ ?_
  · refine tr_V.loop (σ := Int32) (step := mX7_nextLine_l7 M) (L := fun s2 => [(0, some (.ref 1)), (1, some (.int s2))]) (Mf := fun s2 => M) ?_ ((M.1 1 10) - (2 : Int32)) ⟨rfl, rfl, trivial⟩
    intro s2
    refine tr_V.iload_n (i := 1) dX7_nextLine_7 rfl rfl ?_
    refine tr_V.if_lt (tgt := 34) dX7_nextLine_8 (by decide) ?_ ?_
    · exact tr_V.to (fun h => h) ⟨rfl, rfl, trivial⟩
    · refine tr_V.aload_n (i := 0) dX7_nextLine_11 rfl rfl ?_
      refine tr_V.getR (Nat.succ_pos _) fl_X7_41 shM_1 rfl dX7_nextLine_12 ?_
      refine tr_V.iload_n (i := 1) dX7_nextLine_15 rfl rfl ?_
      refine tr_V.bd (fun a3 h4 => ?_)
      refine tr_V.iald h4 shM_12 dX7_nextLine_16 ?_
      refine tr_V.aload_n (i := 0) dX7_nextLine_17 rfl rfl ?_
      refine tr_V.getR (Nat.succ_pos _) fl_X7_41 shM_1 rfl dX7_nextLine_18 ?_
      refine tr_V.iload_n (i := 1) dX7_nextLine_21 rfl rfl ?_
      refine tr_V.iconst (v := (1 : Int32)) dX7_nextLine_22 (by decide) ?_
      refine tr_V.iadd dX7_nextLine_23 ?_
      refine tr_V.bd (fun a5 h6 => ?_)
      refine tr_V.iald h6 shM_12 dX7_nextLine_24 ?_
      refine tr_V.icmp_le (tgt := 34) dX7_nextLine_25 (by decide) ?_ ?_
      · refine tr_V.bd (fun x7 h8 => ?_)
        refine tr_V.iincN (cst := (-1 : Int32)) dX7_nextLine_28 rfl (by decide) rfl h8 ?_
        refine tr_V.goto (tgt := 7) dX7_nextLine_31 (by decide) ?_
        exact tr_V.to (fun h => h) ⟨rfl, rfl, trivial⟩
      · exact tr_V.to (fun h => h) ⟨rfl, rfl, trivial⟩
  · intro v1
    refine tr_V.iload_n (i := 1) dX7_nextLine_34 rfl rfl ?_
    refine tr_V.if_ge (tgt := 40) dX7_nextLine_35 (by decide) ?_ ?_
    · refine tr_V.iconst (v := (0 : Int32)) dX7_nextLine_38 (by decide) ?_
      exact tr_V.zret (by decide) dX7_nextLine_39 rfl (fun h => h)
    · refine tr_V.aload_n (i := 0) dX7_nextLine_40 rfl rfl ?_
      refine tr_V.getI fl_X7_157 shM_1 rfl dX7_nextLine_41 ?_
      refine tr_V.iconst (v := (1 : Int32)) dX7_nextLine_44 (by decide) ?_
      refine tr_V.isub dX7_nextLine_45 ?_
      refine tr_V.istore_n (i := 2) dX7_nextLine_46 rfl (Nat.le_of_ble_eq_true rfl) rfl ?_
      refine tr_V.seq (τ := Int32) (pc' := 68) (L := fun v9 => [(0, some (.ref 1)), (1, some (.int v1)), (2, some (.int v9))]) (S := fun v9 => []) (Mf := fun v9 => M) ?_ ?_
      · refine tr_V.loop (σ := Int32) (step := mX7_nextLine_l47 M v1) (L := fun s10 => [(0, some (.ref 1)), (1, some (.int v1)), (2, some (.int s10))]) (Mf := fun s10 => M) ?_ ((M.1 1 10) - (1 : Int32)) ⟨rfl, rfl, rfl, trivial⟩
        intro s10
        refine tr_V.aload_n (i := 0) dX7_nextLine_47 rfl rfl ?_
        refine tr_V.getR (Nat.succ_pos _) fl_X7_41 shM_1 rfl dX7_nextLine_48 ?_
        refine tr_V.iload_n (i := 2) dX7_nextLine_51 rfl rfl ?_
        refine tr_V.bd (fun a11 h12 => ?_)
        refine tr_V.iald h12 shM_12 dX7_nextLine_52 ?_
        refine tr_V.aload_n (i := 0) dX7_nextLine_53 rfl rfl ?_
        refine tr_V.getR (Nat.succ_pos _) fl_X7_41 shM_1 rfl dX7_nextLine_54 ?_
        refine tr_V.iload_n (i := 1) dX7_nextLine_57 rfl rfl ?_
        refine tr_V.bd (fun a13 h14 => ?_)
        refine tr_V.iald h14 shM_12 dX7_nextLine_58 ?_
        refine tr_V.icmp_ge (tgt := 68) dX7_nextLine_59 (by decide) ?_ ?_
        · refine tr_V.bd (fun x15 h16 => ?_)
          refine tr_V.iincN (cst := (-1 : Int32)) dX7_nextLine_62 rfl (by decide) rfl h16 ?_
          refine tr_V.goto (tgt := 47) dX7_nextLine_65 (by decide) ?_
          exact tr_V.to (fun h => h) ⟨rfl, rfl, rfl, trivial⟩
        · exact tr_V.to (fun h => h) ⟨rfl, rfl, rfl, trivial⟩
      · intro v9
        refine tr_V.aload_n (i := 0) dX7_nextLine_68 rfl rfl ?_
        refine tr_V.iload_n (i := 1) dX7_nextLine_69 rfl rfl ?_
        refine tr_V.iload_n (i := 2) dX7_nextLine_70 rfl rfl ?_
        refine tr_V.bd (fun c17 h18 => ?_)
        refine tr_V.callV (C_X7_swap v1 v9 M _ h18) yk_X7_swap iv_X7_swap ml_X7_263 shM_1 rfl ⟨rfl, Nat.le_of_ble_eq_true rfl⟩ rfl (Nat.le_of_ble_eq_true rfl) rfl dX7_nextLine_71 ?_
        refine tr_V.iload_n (i := 1) dX7_nextLine_74 rfl rfl ?_
        refine tr_V.iconst (v := (1 : Int32)) dX7_nextLine_75 (by decide) ?_
        refine tr_V.iadd dX7_nextLine_76 ?_
        refine tr_V.istore_n (i := 3) dX7_nextLine_77 rfl (Nat.le_of_ble_eq_true rfl) rfl ?_
        refine tr_V.aload_n (i := 0) dX7_nextLine_78 rfl rfl ?_
        refine tr_V.getI fl_X7_157 shM_1 rfl dX7_nextLine_79 ?_
        refine tr_V.iconst (v := (1 : Int32)) dX7_nextLine_82 (by decide) ?_
        refine tr_V.isub dX7_nextLine_83 ?_
        refine tr_V.istore (i := 4) dX7_nextLine_84 (Nat.le_of_ble_eq_true rfl) rfl ?_
        refine tr_V.seq (τ := tr_M) (pc' := 108) (L := fun v19 => [(0, some (.ref 1))]) (S := fun v19 => []) (Mf := fun v19 => v19) ?_ ?_
        · refine tr_V.loop (σ := Int32 × Int32 × tr_M) (step := mX7_nextLine_l86) (L := fun s20 => [(0, some (.ref 1)), (3, some (.int s20.1)), (4, some (.int s20.2.1))]) (Mf := fun s20 => s20.2.2) ?_ ((v1 + (1 : Int32)), ((c17.1 1 10) - (1 : Int32)), c17) ⟨rfl, rfl, rfl, trivial⟩
          intro s20
          refine tr_V.iload_n (i := 3) dX7_nextLine_86 rfl rfl ?_
          refine tr_V.iload dX7_nextLine_87 rfl ?_
          refine tr_V.icmp_ge (tgt := 108) dX7_nextLine_89 (by decide) ?_ ?_
          · refine tr_V.aload_n (i := 0) dX7_nextLine_92 rfl rfl ?_
            refine tr_V.iload_n (i := 3) dX7_nextLine_93 rfl rfl ?_
            refine tr_V.iload dX7_nextLine_94 rfl ?_
            refine tr_V.bd (fun c21 h22 => ?_)
            refine tr_V.callV (C_X7_swap s20.1 s20.2.1 s20.2.2 _ h22) yk_X7_swap iv_X7_swap ml_X7_263 shM_1 rfl ⟨rfl, Nat.le_of_ble_eq_true rfl⟩ rfl (Nat.le_of_ble_eq_true rfl) rfl dX7_nextLine_96 ?_
            refine tr_V.iinc (cst := (1 : Int32)) dX7_nextLine_99 rfl (by decide) rfl ?_
            refine tr_V.bd (fun x23 h24 => ?_)
            refine tr_V.iincN (cst := (-1 : Int32)) dX7_nextLine_102 rfl (by decide) rfl h24 ?_
            refine tr_V.goto (tgt := 86) dX7_nextLine_105 (by decide) ?_
            exact tr_V.to (fun h => h) ⟨rfl, rfl, rfl, trivial⟩
          · exact tr_V.to (fun h => h) ⟨rfl, trivial⟩
        · intro v19
          refine tr_V.aload_n (i := 0) dX7_nextLine_108 rfl rfl ?_
          refine tr_V.bd (fun c25 h26 => ?_)
          refine tr_V.callV (C_X7_layPlaces v19 _ h26) yk_X7_layPlaces iv_X7_layPlaces ml_X7_189 shM_1 rfl ⟨rfl, Nat.le_of_ble_eq_true rfl⟩ rfl (Nat.le_of_ble_eq_true rfl) rfl dX7_nextLine_109 ?_
          refine tr_V.iconst (v := (1 : Int32)) dX7_nextLine_112 (by decide) ?_
          exact tr_V.zret (by decide) dX7_nextLine_113 rfl (fun h => h)
abbrev xX7_isAllowedNow : tr_X := (cX7_isAllowedNow, 1, RX7, (some .boolean), 4, shM, 24)
theorem cw_X7_isAllowedNow : Cond.code yX7_isAllowedNow cX7_isAllowedNow 1 (some .boolean) ∈ tr_tbl := tr_in 1514 (by decide +kernel) rfl
theorem yk_X7_isAllowedNow : tr_yk yX7_isAllowedNow (xX7_isAllowedNow) 0 := ⟨cw_X7_isAllowedNow, in_X7, ⟨by decide +kernel, by decide +kernel, by decide +kernel⟩, Nat.le_of_ble_eq_true rfl⟩
theorem iv_X7_isAllowedNow : Cond.instanceMethod yX7_isAllowedNow ∈ tr_tbl ∧ Cond.selects (yX7_isAllowedNow).cls yX7_isAllowedNow yX7_isAllowedNow ∈ tr_tbl := ⟨tr_in 1513 (by decide +kernel) rfl, tr_in 88 (by decide +kernel) rfl⟩
def mX7_isAllowedNow  (M : tr_M) : Option (Int32) :=
  Option.bind (mX7_brokenNow M) (fun c1 =>
  if c1 = (-9 : Int32) then (
    if (M.1 1 27) = (-9 : Int32) then (
      some (1 : Int32)
    ) else (
      Option.bind (tr_rd 10 M 13 (M.1 1 27)) (fun a3 =>
      if a3 = (M.1 1 28) then (
        some (1 : Int32)
      ) else (
        some (0 : Int32)
      )
      )
    )
  ) else (
    some (0 : Int32)
  )
  )
set_option maxRecDepth 100000 in
set_option maxHeartbeats 4000000 in
theorem C_X7_isAllowedNow  (M : tr_M) (r : Int32) (h : mX7_isAllowedNow M = some r) : tr_I yX7_isAllowedNow (xX7_isAllowedNow) [.ref 1] M (some (.int r)) M := by
  refine tr_I.of (Z := fun q : Int32 => (some (.int r) : Option Value) = some (.int q) ∧ M = M) pn_X7 rfl gdM (Nat.le_of_ble_eq_true rfl) (fun Wt => ?_) h ⟨rfl, rfl⟩
  unfold mX7_isAllowedNow
  refine tr_V.aload_n (i := 0) dX7_isAllowedNow_0 rfl rfl ?_
  refine tr_V.bd (fun c1 h2 => ?_)
  refine tr_V.callV (C_X7_brokenNow M _ h2) yk_X7_brokenNow iv_X7_brokenNow ml_X7_223 shM_1 rfl ⟨rfl, Nat.le_of_ble_eq_true rfl⟩ rfl (Nat.le_of_ble_eq_true rfl) rfl dX7_isAllowedNow_1 ?_
  refine tr_V.bipush (v := (-9 : Int32)) dX7_isAllowedNow_4 (by decide) ?_
  refine tr_V.icmp_ne (tgt := 38) dX7_isAllowedNow_6 (by decide) ?_ ?_
  · refine tr_V.aload_n (i := 0) dX7_isAllowedNow_9 rfl rfl ?_
    refine tr_V.getI fl_X7_85 shM_1 rfl dX7_isAllowedNow_10 ?_
    refine tr_V.bipush (v := (-9 : Int32)) dX7_isAllowedNow_13 (by decide) ?_
    refine tr_V.icmp_eq (tgt := 34) dX7_isAllowedNow_15 (by decide) ?_ ?_
    · refine tr_V.iconst (v := (1 : Int32)) dX7_isAllowedNow_34 (by decide) ?_
      refine tr_V.goto (tgt := 39) dX7_isAllowedNow_35 (by decide) ?_
      exact tr_V.zret (by decide) dX7_isAllowedNow_39 rfl (fun h => h)
    · refine tr_V.aload_n (i := 0) dX7_isAllowedNow_18 rfl rfl ?_
      refine tr_V.getR (Nat.succ_pos _) fl_X7_44 shM_1 rfl dX7_isAllowedNow_19 ?_
      refine tr_V.aload_n (i := 0) dX7_isAllowedNow_22 rfl rfl ?_
      refine tr_V.getI fl_X7_85 shM_1 rfl dX7_isAllowedNow_23 ?_
      refine tr_V.bd (fun a3 h4 => ?_)
      refine tr_V.iald h4 shM_13 dX7_isAllowedNow_26 ?_
      refine tr_V.aload_n (i := 0) dX7_isAllowedNow_27 rfl rfl ?_
      refine tr_V.getI fl_X7_229 shM_1 rfl dX7_isAllowedNow_28 ?_
      refine tr_V.icmp_ne (tgt := 38) dX7_isAllowedNow_31 (by decide) ?_ ?_
      · refine tr_V.iconst (v := (1 : Int32)) dX7_isAllowedNow_34 (by decide) ?_
        refine tr_V.goto (tgt := 39) dX7_isAllowedNow_35 (by decide) ?_
        exact tr_V.zret (by decide) dX7_isAllowedNow_39 rfl (fun h => h)
      · refine tr_V.iconst (v := (0 : Int32)) dX7_isAllowedNow_38 (by decide) ?_
        exact tr_V.zret (by decide) dX7_isAllowedNow_39 rfl (fun h => h)
  · refine tr_V.iconst (v := (0 : Int32)) dX7_isAllowedNow_38 (by decide) ?_
    exact tr_V.zret (by decide) dX7_isAllowedNow_39 rfl (fun h => h)
abbrev xX7_leastReach : tr_X := (cX7_leastReach, 3, RX7, (some .int), 5, shM, 24)
theorem cw_X7_leastReach : Cond.code yX7_leastReach cX7_leastReach 3 (some .int) ∈ tr_tbl := tr_in 1505 (by decide +kernel) rfl
theorem yk_X7_leastReach : tr_yk yX7_leastReach (xX7_leastReach) 0 := ⟨cw_X7_leastReach, in_X7, ⟨by decide +kernel, by decide +kernel, by decide +kernel⟩, Nat.le_of_ble_eq_true rfl⟩
theorem iv_X7_leastReach : Cond.instanceMethod yX7_leastReach ∈ tr_tbl ∧ Cond.selects (yX7_leastReach).cls yX7_leastReach yX7_leastReach ∈ tr_tbl := ⟨tr_in 1504 (by decide +kernel) rfl, tr_in 86 (by decide +kernel) rfl⟩
def mX7_leastReach_l9  (s3 : Int32 × Int32 × tr_M) : Option ((Int32 × Int32 × tr_M) ⊕ (Int32 × tr_M)) :=
  if s3.2.1 = 0 then (
    Option.bind (some (tr_st s3.2.2 1 29 s3.1)) (fun M4 =>
    some (.inr (s3.1, M4))
    )
  ) else (
    Option.bind (mX7_isAllowedNow s3.2.2) (fun c6 =>
    Option.bind (show Option (Int32) from
      if c6 = 0 then (
        some s3.1
      ) else (
        Option.bind (mX7_reachNow s3.2.2) (fun c9 =>
        some (mX7_lesser s3.1 c9)
        )
      )
    ) (fun (v8 : Int32) =>
      Option.bind (mX7_nextLine s3.2.2) (fun c13 =>
      some (.inl (v8, c13.1, c13.2))
      )
    )
    )
  )
def mX7_leastReach  (M : tr_M) : Option (Int32 × tr_M) :=
  Option.bind (mX7_firstLine M) (fun c1 =>
  tr_loop (mX7_leastReach_l9) ((1000000 : Int32), (1 : Int32), c1)
  )
set_option maxRecDepth 100000 in
set_option maxHeartbeats 4000000 in
theorem C_X7_leastReach  (M : tr_M) (r : Int32 × tr_M) (h : mX7_leastReach M = some r) : tr_I yX7_leastReach (xX7_leastReach) [.ref 1] M (some (.int r.1)) r.2 := by
  refine tr_I.of (Z := fun q : Int32 × tr_M => (some (.int r.1) : Option Value) = some (.int q.1) ∧ r.2 = q.2) pn_X7 rfl gdM (Nat.le_of_ble_eq_true rfl) (fun Wt => ?_) h ⟨rfl, rfl⟩
  unfold mX7_leastReach
  refine tr_V.ldc ct_X7_246 dX7_leastReach_0 ?_
  refine tr_V.istore_n (i := 1) dX7_leastReach_2 rfl (Nat.le_of_ble_eq_true rfl) rfl ?_
  refine tr_V.aload_n (i := 0) dX7_leastReach_3 rfl rfl ?_
  refine tr_V.bd (fun c1 h2 => ?_)
  refine tr_V.callV (C_X7_firstLine M _ h2) yk_X7_firstLine iv_X7_firstLine ml_X7_267 shM_1 rfl ⟨rfl, Nat.le_of_ble_eq_true rfl⟩ rfl (Nat.le_of_ble_eq_true rfl) rfl dX7_leastReach_4 ?_
  refine tr_V.iconst (v := (1 : Int32)) dX7_leastReach_7 (by decide) ?_
  refine tr_V.istore_n (i := 2) dX7_leastReach_8 rfl (Nat.le_of_ble_eq_true rfl) rfl ?_
  refine tr_V.loop (σ := Int32 × Int32 × tr_M) (step := mX7_leastReach_l9) (L := fun s3 => [(0, some (.ref 1)), (1, some (.int s3.1)), (2, some (.int s3.2.1))]) (Mf := fun s3 => s3.2.2) ?_ ((1000000 : Int32), (1 : Int32), c1) ⟨rfl, rfl, rfl, trivial⟩
  intro s3
  refine tr_V.iload_n (i := 2) dX7_leastReach_9 rfl rfl ?_
  refine tr_V.if_eq (tgt := 41) dX7_leastReach_10 (by decide) ?_ ?_
  · refine tr_V.aload_n (i := 0) dX7_leastReach_41 rfl rfl ?_
    refine tr_V.iload_n (i := 1) dX7_leastReach_42 rfl rfl ?_
    refine tr_V.bd (fun M4 h5 => ?_)
    refine tr_V.putI fl_X7_251 shM_1 rfl dX7_leastReach_43 h5 ?_
    refine tr_V.iload_n (i := 1) dX7_leastReach_46 rfl rfl ?_
    exact tr_V.iret dX7_leastReach_47 rfl (fun h => h)
  · refine tr_V.aload_n (i := 0) dX7_leastReach_13 rfl rfl ?_
    refine tr_V.bd (fun c6 h7 => ?_)
    refine tr_V.callV (C_X7_isAllowedNow s3.2.2 _ h7) yk_X7_isAllowedNow iv_X7_isAllowedNow ml_X7_270 shM_1 rfl ⟨rfl, Nat.le_of_ble_eq_true rfl⟩ rfl (Nat.le_of_ble_eq_true rfl) rfl dX7_leastReach_14 ?_
    refine tr_V.seq (τ := Int32) (pc' := 32) (L := fun v8 => [(0, some (.ref 1))]) (S := fun v8 => [.int v8]) (Mf := fun v8 => s3.2.2) ?_ ?_
    · refine tr_V.if_eq (tgt := 31) dX7_leastReach_17 (by decide) ?_ ?_
      · refine tr_V.iload_n (i := 1) dX7_leastReach_31 rfl rfl ?_
        exact tr_V.to (fun h => h) ⟨rfl, trivial⟩
      · refine tr_V.iload_n (i := 1) dX7_leastReach_20 rfl rfl ?_
        refine tr_V.aload_n (i := 0) dX7_leastReach_21 rfl rfl ?_
        refine tr_V.bd (fun c9 h10 => ?_)
        refine tr_V.callV (C_X7_reachNow s3.2.2 _ h10) yk_X7_reachNow iv_X7_reachNow ml_X7_201 shM_1 rfl ⟨rfl, Nat.le_of_ble_eq_true rfl⟩ rfl (Nat.le_of_ble_eq_true rfl) rfl dX7_leastReach_22 ?_
        refine tr_V.callS (C_X7_lesser s3.1 c9 s3.2.2) yk_X7_lesser sc_X7_lesser ml_X7_183 ⟨rfl, Nat.le_of_ble_eq_true rfl⟩ rfl (Nat.le_of_ble_eq_true rfl) rfl dX7_leastReach_25 ?_
        refine tr_V.goto (tgt := 32) dX7_leastReach_28 (by decide) ?_
        exact tr_V.to (fun h => h) ⟨rfl, trivial⟩
    · intro v8
      refine tr_V.istore_n (i := 1) dX7_leastReach_32 rfl (Nat.le_of_ble_eq_true rfl) rfl ?_
      refine tr_V.aload_n (i := 0) dX7_leastReach_33 rfl rfl ?_
      refine tr_V.bd (fun c13 h14 => ?_)
      refine tr_V.callV (C_X7_nextLine s3.2.2 _ h14) yk_X7_nextLine iv_X7_nextLine ml_X7_274 shM_1 rfl ⟨rfl, Nat.le_of_ble_eq_true rfl⟩ rfl (Nat.le_of_ble_eq_true rfl) rfl dX7_leastReach_34 ?_
      refine tr_V.istore_n (i := 2) dX7_leastReach_37 rfl (Nat.le_of_ble_eq_true rfl) rfl ?_
      refine tr_V.goto (tgt := 9) dX7_leastReach_38 (by decide) ?_
      exact tr_V.to (fun h => h) ⟨rfl, rfl, rfl, trivial⟩
abbrev xX7_isLeastReach : tr_X := (cX7_isLeastReach, 1, RX7, (some .boolean), 5, shM, 24)
theorem cw_X7_isLeastReach : Cond.code yX7_isLeastReach cX7_isLeastReach 1 (some .boolean) ∈ tr_tbl := tr_in 1560 (by decide +kernel) rfl
theorem yk_X7_isLeastReach : tr_yk yX7_isLeastReach (xX7_isLeastReach) 0 := ⟨cw_X7_isLeastReach, in_X7, ⟨by decide +kernel, by decide +kernel, by decide +kernel⟩, Nat.le_of_ble_eq_true rfl⟩
theorem iv_X7_isLeastReach : Cond.instanceMethod yX7_isLeastReach ∈ tr_tbl ∧ Cond.selects (yX7_isLeastReach).cls yX7_isLeastReach yX7_isLeastReach ∈ tr_tbl := ⟨tr_in 1559 (by decide +kernel) rfl, tr_in 98 (by decide +kernel) rfl⟩
def mX7_isLeastReach  (M : tr_M) : Option (Int32) :=
  Option.bind (mX7_isAllowedNow M) (fun c1 =>
  if c1 = 0 then (
    some (0 : Int32)
  ) else (
    Option.bind (mX7_reachNow M) (fun c3 =>
    if c3 = (M.1 1 29) then (
      some (1 : Int32)
    ) else (
      some (0 : Int32)
    )
    )
  )
  )
set_option maxRecDepth 100000 in
set_option maxHeartbeats 4000000 in
theorem C_X7_isLeastReach  (M : tr_M) (r : Int32) (h : mX7_isLeastReach M = some r) : tr_I yX7_isLeastReach (xX7_isLeastReach) [.ref 1] M (some (.int r)) M := by
  refine tr_I.of (Z := fun q : Int32 => (some (.int r) : Option Value) = some (.int q) ∧ M = M) pn_X7 rfl gdM (Nat.le_of_ble_eq_true rfl) (fun Wt => ?_) h ⟨rfl, rfl⟩
  unfold mX7_isLeastReach
  refine tr_V.aload_n (i := 0) dX7_isLeastReach_0 rfl rfl ?_
  refine tr_V.bd (fun c1 h2 => ?_)
  refine tr_V.callV (C_X7_isAllowedNow M _ h2) yk_X7_isAllowedNow iv_X7_isAllowedNow ml_X7_270 shM_1 rfl ⟨rfl, Nat.le_of_ble_eq_true rfl⟩ rfl (Nat.le_of_ble_eq_true rfl) rfl dX7_isLeastReach_1 ?_
  refine tr_V.if_eq (tgt := 22) dX7_isLeastReach_4 (by decide) ?_ ?_
  · refine tr_V.iconst (v := (0 : Int32)) dX7_isLeastReach_22 (by decide) ?_
    exact tr_V.zret (by decide) dX7_isLeastReach_23 rfl (fun h => h)
  · refine tr_V.aload_n (i := 0) dX7_isLeastReach_7 rfl rfl ?_
    refine tr_V.bd (fun c3 h4 => ?_)
    refine tr_V.callV (C_X7_reachNow M _ h4) yk_X7_reachNow iv_X7_reachNow ml_X7_201 shM_1 rfl ⟨rfl, Nat.le_of_ble_eq_true rfl⟩ rfl (Nat.le_of_ble_eq_true rfl) rfl dX7_isLeastReach_8 ?_
    refine tr_V.aload_n (i := 0) dX7_isLeastReach_11 rfl rfl ?_
    refine tr_V.getI fl_X7_251 shM_1 rfl dX7_isLeastReach_12 ?_
    refine tr_V.icmp_ne (tgt := 22) dX7_isLeastReach_15 (by decide) ?_ ?_
    · refine tr_V.iconst (v := (1 : Int32)) dX7_isLeastReach_18 (by decide) ?_
      refine tr_V.goto (tgt := 23) dX7_isLeastReach_19 (by decide) ?_
      exact tr_V.zret (by decide) dX7_isLeastReach_23 rfl (fun h => h)
    · refine tr_V.iconst (v := (0 : Int32)) dX7_isLeastReach_22 (by decide) ?_
      exact tr_V.zret (by decide) dX7_isLeastReach_23 rfl (fun h => h)
