-- ===== end of PART A; then your names; then what follows =====
/-! THE CLAIM OUT OF ONE WALK OF THE LAW'S BODY. Your part is whole_start (and what it stands on); all else here is the same for every law, but numbers. -/
def R_law : String := "TiedRowLaw"
def lw_P (b : Addr) (xs : List Int32) (args : Array Value) (s : State) : Prop := args = #[.ref b] ∧ s.IntsAt b xs ∧ xs.length ≤ 3072 ∧ (Jvm.Cond.and given_1 narrow_1).before args s = true
def lw_Q (_ : Array Value) (s : State) (o : Outcome) (t : State) : Prop := o = .returned (some (.int 1)) ∧ Framed s o t [] 600000 7302250
def lw_Z (below : List Frame) (a : Array Value) (s : State) : State → Prop := fun t => ∃ o, t.status = .running ∧ Ended t below o ∧ lw_Q a s o t
/-- the law's own end, with 1 on the stack, nothing written that was there before, its room as the claim has it -/
theorem lw_ret {p : Program} {l : Launch} {e : Env} {s : State} {m : MethodId} {below : List Frame} {meth : Method} {c : Code} {b : Nat} (hx : p.tables.exec = Jvm.exec) (hb : c.code = code) (hr : meth.sig.returnType = ret) (hlocks : meth.locks = false) {pc : Nat} {H : Heap} {ls : Array Slot} (hdg : decode code pc = .ok (.ireturn, 1)) : W p l e room_1 s m #[Value.ref b] below meth c H [] 600000 7302250 (lw_Z below #[Value.ref b] s) (F0 m pc ls [.int 1]) := by
  intro T hT X
  obtain ⟨fs, hret, hrun, hended, hW, hframe⟩ := X.leave (v := some (.int 1)) (hlocks := hlocks) (fun h => by rw [hr] at h; cases h)
  have hmeth' : T.vm.method? m = some meth := X.method'
  refine ⟨T.setFrames fs, ?_, .returned (some (.int 1)), hrun, hended, rfl, ⟨_, rfl⟩, hW, hframe⟩
  jvm_step X.here [X.here.top, hx, hb, hdg, hmeth', hr, ret, narrow_b1]
  (try refine ⟨rfl, ?_⟩); (try refine ⟨rfl, ?_⟩)
  first | (intro acts; rw [hret _ acts rfl rfl rfl]) | rw [hret _ _ rfl rfl rfl]
  exact Steps.refl _
/-- what holds at the law's entry: the machine, the code, the tables' words (any of lw_tbl by 'hts w (by decide +kernel)'), the script of L ints xs at the cell b, what the Statement gives of the start (any of its parts by flat_of_before) -/
def lw_At (p : Program) (s : State) (m : MethodId) (meth : Method) (c : Code) (b L : Nat) (xs : Nat → Int32) : Prop :=
  p.tables.exec = Jvm.exec ∧ c.code = code ∧ meth.sig.returnType = ret ∧ c.maxLocals = 4 ∧ s.vm.findClass R_law = some m.cls ∧ (∀ w ∈ lw_tbl, w.before #[Value.ref b] s = true) ∧ va_X b L xs s s.heap ∧ b < s.heap.size ∧ meth.locks = false ∧ (Jvm.Cond.and given_1 narrow_1).before #[Value.ref b] s = true

theorem ml_L_13 : Cond.methodLink RL 13 yX6_row ∈ tr_tbl := tr_in 386 (by decide +kernel) rfl
theorem ml_L_17 : Cond.methodLink RL 17 yX7_row ∈ tr_tbl := tr_in 1286 (by decide +kernel) rfl
theorem ml_L_18 : Cond.methodLink RL 18 yX6_lay ∈ tr_tbl := tr_in 407 (by decide +kernel) rfl
theorem ml_L_22 : Cond.methodLink RL 22 yX7_lay ∈ tr_tbl := tr_in 1297 (by decide +kernel) rfl
theorem ml_L_23 : Cond.methodLink RL 23 yX6_at ∈ tr_tbl := tr_in 419 (by decide +kernel) rfl
theorem ml_L_26 : Cond.methodLink RL 26 yX7_at ∈ tr_tbl := tr_in 1309 (by decide +kernel) rfl
theorem ml_L_27 : Cond.methodLink RL 27 yX6_tear ∈ tr_tbl := tr_in 423 (by decide +kernel) rfl
theorem ml_L_31 : Cond.methodLink RL 31 yX7_tear ∈ tr_tbl := tr_in 1313 (by decide +kernel) rfl
theorem ml_L_32 : Cond.methodLink RL 32 yX6_copy ∈ tr_tbl := tr_in 428 (by decide +kernel) rfl
theorem ml_L_36 : Cond.methodLink RL 36 yX7_copy ∈ tr_tbl := tr_in 1317 (by decide +kernel) rfl
theorem ml_L_37 : Cond.methodLink RL 37 yX6_mean ∈ tr_tbl := tr_in 439 (by decide +kernel) rfl
theorem ml_L_40 : Cond.methodLink RL 40 yX7_mean ∈ tr_tbl := tr_in 1321 (by decide +kernel) rfl
theorem ml_L_41 : Cond.methodLink RL 41 yX6_text ∈ tr_tbl := tr_in 443 (by decide +kernel) rfl
theorem ml_L_44 : Cond.methodLink RL 44 yX7_text ∈ tr_tbl := tr_in 1325 (by decide +kernel) rfl
theorem ml_L_45 : Cond.methodLink RL 45 yX6_put ∈ tr_tbl := tr_in 450 (by decide +kernel) rfl
theorem ml_L_48 : Cond.methodLink RL 48 yX7_put ∈ tr_tbl := tr_in 1332 (by decide +kernel) rfl
theorem ml_L_49 : Cond.methodLink RL 49 yX6_fault ∈ tr_tbl := tr_in 454 (by decide +kernel) rfl
theorem ml_L_52 : Cond.methodLink RL 52 yX7_fault ∈ tr_tbl := tr_in 1336 (by decide +kernel) rfl
theorem ml_L_53 : Cond.methodLink RL 53 yX6_world ∈ tr_tbl := tr_in 528 (by decide +kernel) rfl
theorem ml_L_56 : Cond.methodLink RL 56 yX7_world ∈ tr_tbl := tr_in 1371 (by decide +kernel) rfl
theorem ml_L_57 : Cond.methodLink RL 57 yX6_tie ∈ tr_tbl := tr_in 543 (by decide +kernel) rfl
theorem ml_L_60 : Cond.methodLink RL 60 yX7_tie ∈ tr_tbl := tr_in 1375 (by decide +kernel) rfl
theorem ml_L_61 : Cond.methodLink RL 61 yX6_rule ∈ tr_tbl := tr_in 553 (by decide +kernel) rfl
theorem ml_L_65 : Cond.methodLink RL 65 yX7_rule ∈ tr_tbl := tr_in 1391 (by decide +kernel) rfl
theorem ml_L_66 : Cond.methodLink RL 66 yX6_off ∈ tr_tbl := tr_in 563 (by decide +kernel) rfl
theorem ml_L_69 : Cond.methodLink RL 69 yX7_off ∈ tr_tbl := tr_in 1399 (by decide +kernel) rfl
theorem ml_L_70 : Cond.methodLink RL 70 yX6_back ∈ tr_tbl := tr_in 579 (by decide +kernel) rfl
theorem ml_L_73 : Cond.methodLink RL 73 yX7_back ∈ tr_tbl := tr_in 1411 (by decide +kernel) rfl
theorem ml_L_74 : Cond.methodLink RL 74 yX6_told ∈ tr_tbl := tr_in 587 (by decide +kernel) rfl
theorem ml_L_77 : Cond.methodLink RL 77 yX7_told ∈ tr_tbl := tr_in 1415 (by decide +kernel) rfl
theorem ml_L_78 : Cond.methodLink RL 78 yX6_mark ∈ tr_tbl := tr_in 596 (by decide +kernel) rfl
theorem ml_L_81 : Cond.methodLink RL 81 yX7_mark ∈ tr_tbl := tr_in 1419 (by decide +kernel) rfl
theorem ml_L_82 : Cond.methodLink RL 82 yX6_measure ∈ tr_tbl := tr_in 611 (by decide +kernel) rfl
theorem ml_L_85 : Cond.methodLink RL 85 yX7_measure ∈ tr_tbl := tr_in 1426 (by decide +kernel) rfl
theorem ml_L_86 : Cond.methodLink RL 86 yX6_breaks ∈ tr_tbl := tr_in 649 (by decide +kernel) rfl
theorem ml_L_89 : Cond.methodLink RL 89 yX7_breaks ∈ tr_tbl := tr_in 1470 (by decide +kernel) rfl
theorem ml_L_90 : Cond.methodLink RL 90 yX6_gap ∈ tr_tbl := tr_in 668 (by decide +kernel) rfl
theorem ml_L_93 : Cond.methodLink RL 93 yX7_gap ∈ tr_tbl := tr_in 1482 (by decide +kernel) rfl
theorem ml_L_94 : Cond.methodLink RL 94 yX6_least ∈ tr_tbl := tr_in 674 (by decide +kernel) rfl
theorem ml_L_97 : Cond.methodLink RL 97 yX7_least ∈ tr_tbl := tr_in 1486 (by decide +kernel) rfl
theorem ml_L_98 : Cond.methodLink RL 98 yX6_first ∈ tr_tbl := tr_in 797 (by decide +kernel) rfl
theorem ml_L_101 : Cond.methodLink RL 101 yX7_first ∈ tr_tbl := tr_in 1569 (by decide +kernel) rfl
theorem ml_L_102 : Cond.methodLink RL 102 yX6_ways ∈ tr_tbl := tr_in 821 (by decide +kernel) rfl
theorem ml_L_105 : Cond.methodLink RL 105 yX7_ways ∈ tr_tbl := tr_in 1585 (by decide +kernel) rfl
theorem ml_L_106 : Cond.methodLink RL 106 yX6_rank ∈ tr_tbl := tr_in 834 (by decide +kernel) rfl
theorem ml_L_109 : Cond.methodLink RL 109 yX7_rank ∈ tr_tbl := tr_in 1589 (by decide +kernel) rfl
theorem ml_L_110 : Cond.methodLink RL 110 yX6_order ∈ tr_tbl := tr_in 847 (by decide +kernel) rfl
theorem ml_L_113 : Cond.methodLink RL 113 yX7_order ∈ tr_tbl := tr_in 1605 (by decide +kernel) rfl
theorem ml_L_114 : Cond.methodLink RL 114 yX6_all ∈ tr_tbl := tr_in 851 (by decide +kernel) rfl
theorem ml_L_118 : Cond.methodLink RL 118 yX7_all ∈ tr_tbl := tr_in 1609 (by decide +kernel) rfl
theorem ml_L_119 : Cond.methodLink RL 119 yX6_bound ∈ tr_tbl := tr_in 855 (by decide +kernel) rfl
theorem ml_L_122 : Cond.methodLink RL 122 yX7_bound ∈ tr_tbl := tr_in 1617 (by decide +kernel) rfl
theorem ml_L_123 : Cond.methodLink RL 123 yX6_costs ∈ tr_tbl := tr_in 890 (by decide +kernel) rfl
theorem ml_L_126 : Cond.methodLink RL 126 yX7_costs ∈ tr_tbl := tr_in 1637 (by decide +kernel) rfl
theorem ml_L_127 : Cond.methodLink RL 127 yX6_bars ∈ tr_tbl := tr_in 897 (by decide +kernel) rfl
theorem ml_L_130 : Cond.methodLink RL 130 yX7_bars ∈ tr_tbl := tr_in 1641 (by decide +kernel) rfl
theorem ml_L_131 : Cond.methodLink RL 131 yX6_where ∈ tr_tbl := tr_in 901 (by decide +kernel) rfl
theorem ml_L_134 : Cond.methodLink RL 134 yX7_where ∈ tr_tbl := tr_in 1645 (by decide +kernel) rfl
theorem ml_L_135 : Cond.methodLink RL 135 yX6_places ∈ tr_tbl := tr_in 914 (by decide +kernel) rfl
theorem ml_L_138 : Cond.methodLink RL 138 yX7_places ∈ tr_tbl := tr_in 1649 (by decide +kernel) rfl
theorem ml_L_139 : Cond.methodLink RL 139 yX6_middle ∈ tr_tbl := tr_in 943 (by decide +kernel) rfl
theorem ml_L_142 : Cond.methodLink RL 142 yX7_middle ∈ tr_tbl := tr_in 1661 (by decide +kernel) rfl
theorem ml_L_143 : Cond.methodLink RL 143 yX6_leads ∈ tr_tbl := tr_in 951 (by decide +kernel) rfl
theorem ml_L_146 : Cond.methodLink RL 146 yX7_leads ∈ tr_tbl := tr_in 1669 (by decide +kernel) rfl
theorem ml_L_147 : Cond.methodLink RL 147 yX6_both ∈ tr_tbl := tr_in 964 (by decide +kernel) rfl
theorem ml_L_150 : Cond.methodLink RL 150 yX7_both ∈ tr_tbl := tr_in 1677 (by decide +kernel) rfl
theorem ml_L_151 : Cond.methodLink RL 151 yX6_must ∈ tr_tbl := tr_in 981 (by decide +kernel) rfl
theorem ml_L_154 : Cond.methodLink RL 154 yX7_must ∈ tr_tbl := tr_in 1697 (by decide +kernel) rfl
theorem ml_L_155 : Cond.methodLink RL 155 yX6_swaps ∈ tr_tbl := tr_in 1008 (by decide +kernel) rfl
theorem ml_L_158 : Cond.methodLink RL 158 yX7_swaps ∈ tr_tbl := tr_in 1709 (by decide +kernel) rfl
theorem ml_L_159 : Cond.methodLink RL 159 yX6_moves ∈ tr_tbl := tr_in 1033 (by decide +kernel) rfl
theorem ml_L_162 : Cond.methodLink RL 162 yX7_moves ∈ tr_tbl := tr_in 1717 (by decide +kernel) rfl
theorem ml_L_163 : Cond.methodLink RL 163 yX6_apart ∈ tr_tbl := tr_in 1037 (by decide +kernel) rfl
theorem ml_L_166 : Cond.methodLink RL 166 yX7_apart ∈ tr_tbl := tr_in 1725 (by decide +kernel) rfl
theorem ml_L_167 : Cond.methodLink RL 167 yX6_draw ∈ tr_tbl := tr_in 1046 (by decide +kernel) rfl
theorem ml_L_170 : Cond.methodLink RL 170 yX7_draw ∈ tr_tbl := tr_in 1729 (by decide +kernel) rfl
theorem ml_L_171 : Cond.methodLink RL 171 yX6_lots ∈ tr_tbl := tr_in 1064 (by decide +kernel) rfl
theorem ml_L_174 : Cond.methodLink RL 174 yX7_lots ∈ tr_tbl := tr_in 1743 (by decide +kernel) rfl
theorem ml_L_175 : Cond.methodLink RL 175 yX6_average ∈ tr_tbl := tr_in 1068 (by decide +kernel) rfl
theorem ml_L_178 : Cond.methodLink RL 178 yX7_average ∈ tr_tbl := tr_in 1747 (by decide +kernel) rfl
theorem ml_L_179 : Cond.methodLink RL 179 yX6_image ∈ tr_tbl := tr_in 1077 (by decide +kernel) rfl
theorem ml_L_182 : Cond.methodLink RL 182 yX7_image ∈ tr_tbl := tr_in 1753 (by decide +kernel) rfl
theorem ml_L_183 : Cond.methodLink RL 183 yX6_on ∈ tr_tbl := tr_in 1085 (by decide +kernel) rfl
theorem ml_L_186 : Cond.methodLink RL 186 yX7_on ∈ tr_tbl := tr_in 1761 (by decide +kernel) rfl
theorem ml_L_187 : Cond.methodLink RL 187 yX6_asked ∈ tr_tbl := tr_in 1093 (by decide +kernel) rfl
theorem ml_L_190 : Cond.methodLink RL 190 yX7_asked ∈ tr_tbl := tr_in 1274 (by decide +kernel) rfl
theorem ml_L_191 : Cond.methodLink RL 191 yX6_upper ∈ tr_tbl := tr_in 1097 (by decide +kernel) rfl
theorem ml_L_195 : Cond.methodLink RL 195 yX7_upper ∈ tr_tbl := tr_in 1278 (by decide +kernel) rfl
theorem ml_L_196 : Cond.methodLink RL 196 yX6_lower ∈ tr_tbl := tr_in 1101 (by decide +kernel) rfl
theorem ml_L_199 : Cond.methodLink RL 199 yX7_lower ∈ tr_tbl := tr_in 1282 (by decide +kernel) rfl
theorem ml_L_200 : Cond.methodLink RL 200 yX6_count ∈ tr_tbl := tr_in 1105 (by decide +kernel) rfl
theorem ml_L_203 : Cond.methodLink RL 203 yX7_count ∈ tr_tbl := tr_in 1765 (by decide +kernel) rfl
theorem ml_L_204 : Cond.methodLink RL 204 yX6_finding ∈ tr_tbl := tr_in 1122 (by decide +kernel) rfl
theorem ml_L_207 : Cond.methodLink RL 207 yX7_finding ∈ tr_tbl := tr_in 1263 (by decide +kernel) rfl
theorem ml_L_208 : Cond.methodLink RL 208 yX6_findings ∈ tr_tbl := tr_in 1126 (by decide +kernel) rfl
theorem ml_L_211 : Cond.methodLink RL 211 yX7_findings ∈ tr_tbl := tr_in 1267 (by decide +kernel) rfl
theorem ml_L_212 : Cond.methodLink RL 212 yX6_digest ∈ tr_tbl := tr_in 1130 (by decide +kernel) rfl
theorem ml_L_215 : Cond.methodLink RL 215 yX7_digest ∈ tr_tbl := tr_in 1777 (by decide +kernel) rfl

abbrev tr_GT : Type := Nat → List (Nat × Value) → List Value → tr_M → tr_M → Prop
def tr_gS : Nat := 149577
def tr_GW (b : Nat) (B : Nat) (p : Program) (l : Launch) (e : Env) (s : State) (m : MethodId) (below : List Frame) (meth : Method) (c : Code) (dC : Nat → ClassId) (dI : Nat → Nat → Nat) (D : Nat → ClassId) : tr_GT := fun pc lv st M1 M2 =>
  ∀ (ls : Array Slot) (H : Heap) (locs : List Loc), lv_has ls 4 lv → va_P (dC, dI) vwCl (tr_ws B D shC 81 M1) H → va_P (dC, dI) vwCl (tr_ws (B + 81) D shM 24 M2) H → va_S (fun q => B < q) s.heap H locs →
    W p l e room_1 s m #[Value.ref b] below meth c H locs 105 tr_gS (lw_Z below #[Value.ref b] s) (F0 m pc ls st)
def tr_GOk (b L : Nat) (xs : Nat → Int32) (B : Nat) (Wt : tr_GT) : Prop := ∃ (p : Program) (l : Launch) (e : Env) (s : State) (m : MethodId) (below : List Frame) (meth : Method) (c : Code) (dC : Nat → ClassId) (dI : Nat → Nat → Nat) (D : Nat → ClassId),
  p.tables.exec = Jvm.exec ∧ c.code = code ∧ meth.sig.returnType = ret ∧ c.maxLocals = 4 ∧ s.vm.findClass RL = some m.cls ∧ (∀ w ∈ tr_tbl, w.before #[Value.ref b] s = true) ∧ va_X b L xs s s.heap ∧ b < s.heap.size ∧ s.heap.size = B + 1 ∧ meth.locks = false ∧ va_K (dC, dI) vwCl (tr_tys D) s ∧ (∀ x ∈ tr_abs, va_Nw (.declares x) s) ∧ Wt = tr_GW b B p l e s m below meth c dC dI D
def tr_G (b L : Nat) (xs : Nat → Int32) (B : Nat) (Wt : tr_GT) (pc : Nat) (lv : List (Nat × Value)) (st : List Value) (M1 M2 : tr_M) : Prop := tr_GOk b L xs B Wt → Wt pc lv st M1 M2
section TRG
variable {b L B : Nat} {xs : Nat → Int32} {Wt : tr_GT} {pc : Nat} {lv : List (Nat × Value)} {st : List Value} {M1 M2 : tr_M}

theorem tr_G.iconst {n : Int} {v : Int32} (hd : decode code pc = .ok (.iconst n, 1)) (hv : Int32.ofInt n = v) (h : tr_G b L xs B Wt (pc + 1) lv (.int v :: st) M1 M2) : tr_G b L xs B Wt pc lv (st) M1 M2 := by
  intro ok
  have k := h ok
  obtain ⟨p, l, e, s, m, below, meth, c, dC, dI, D, hx, hb, hr, hml, hown, hts, hX, hbl, hB, hlk, hK, hAb, hW⟩ := ok
  rw [hW] at k ⊢
  intro ls H locs hl hP1 hP2 hS
  exact lv_iconst hx hb hd hv (k ls H locs hl hP1 hP2 hS)
theorem tr_G.bipush {n : Int} {v : Int32} (hd : decode code pc = .ok (.bipush n, 2)) (hv : (Int8.ofInt n).toInt32 = v) (h : tr_G b L xs B Wt (pc + 2) lv (.int v :: st) M1 M2) : tr_G b L xs B Wt pc lv (st) M1 M2 := by
  intro ok
  have k := h ok
  obtain ⟨p, l, e, s, m, below, meth, c, dC, dI, D, hx, hb, hr, hml, hown, hts, hX, hbl, hB, hlk, hK, hAb, hW⟩ := ok
  rw [hW] at k ⊢
  intro ls H locs hl hP1 hP2 hS
  exact lv_bipush hx hb hd hv (k ls H locs hl hP1 hP2 hS)
theorem tr_G.iload_n {q : Fin 4} {i : Nat} {x : Int32} (hd : decode code pc = .ok (.iload_n q, 1)) (j : Nat) (hq : (q : Nat) = i) (hi : lv[j]? = some (i, .int x)) (h : tr_G b L xs B Wt (pc + 1) lv (.int x :: st) M1 M2) : tr_G b L xs B Wt pc lv (st) M1 M2 := by
  intro ok
  have k := h ok
  obtain ⟨p, l, e, s, m, below, meth, c, dC, dI, D, hx, hb, hr, hml, hown, hts, hX, hbl, hB, hlk, hK, hAb, hW⟩ := ok
  rw [hW] at k ⊢
  intro ls H locs hl hP1 hP2 hS
  exact lv_iload_n hx hb hd hq (lv_at hl j hi) (k ls H locs hl hP1 hP2 hS)
theorem tr_G.aload_n {q : Fin 4} {i x : Nat} (hd : decode code pc = .ok (.aload_n q, 1)) (j : Nat) (hq : (q : Nat) = i) (hi : lv[j]? = some (i, .ref x)) (h : tr_G b L xs B Wt (pc + 1) lv (.ref x :: st) M1 M2) : tr_G b L xs B Wt pc lv (st) M1 M2 := by
  intro ok
  have k := h ok
  obtain ⟨p, l, e, s, m, below, meth, c, dC, dI, D, hx, hb, hr, hml, hown, hts, hX, hbl, hB, hlk, hK, hAb, hW⟩ := ok
  rw [hW] at k ⊢
  intro ls H locs hl hP1 hP2 hS
  exact lv_aload_n hx hb hd hq (lv_at hl j hi) (k ls H locs hl hP1 hP2 hS)
theorem tr_G.iadd {x y : Int32} (hd : decode code pc = .ok (.iadd, 1)) (h : tr_G b L xs B Wt (pc + 1) lv (.int (x + y) :: st) M1 M2) : tr_G b L xs B Wt pc lv (.int y :: .int x :: st) M1 M2 := by
  intro ok
  have k := h ok
  obtain ⟨p, l, e, s, m, below, meth, c, dC, dI, D, hx, hb, hr, hml, hown, hts, hX, hbl, hB, hlk, hK, hAb, hW⟩ := ok
  rw [hW] at k ⊢
  intro ls H locs hl hP1 hP2 hS
  exact lv_iadd hx hb hd (k ls H locs hl hP1 hP2 hS)
theorem tr_G.isub {x y : Int32} (hd : decode code pc = .ok (.isub, 1)) (h : tr_G b L xs B Wt (pc + 1) lv (.int (x - y) :: st) M1 M2) : tr_G b L xs B Wt pc lv (.int y :: .int x :: st) M1 M2 := by
  intro ok
  have k := h ok
  obtain ⟨p, l, e, s, m, below, meth, c, dC, dI, D, hx, hb, hr, hml, hown, hts, hX, hbl, hB, hlk, hK, hAb, hW⟩ := ok
  rw [hW] at k ⊢
  intro ls H locs hl hP1 hP2 hS
  exact lv_isub hx hb hd (k ls H locs hl hP1 hP2 hS)
theorem tr_G.iand {x y : Int32} (hd : decode code pc = .ok (.iand, 1)) (h : tr_G b L xs B Wt (pc + 1) lv (.int (x &&& y) :: st) M1 M2) : tr_G b L xs B Wt pc lv (.int y :: .int x :: st) M1 M2 := by
  intro ok
  have k := h ok
  obtain ⟨p, l, e, s, m, below, meth, c, dC, dI, D, hx, hb, hr, hml, hown, hts, hX, hbl, hB, hlk, hK, hAb, hW⟩ := ok
  rw [hW] at k ⊢
  intro ls H locs hl hP1 hP2 hS
  exact lv_iand hx hb hd (k ls H locs hl hP1 hP2 hS)
theorem tr_G.lcmp {x y : Int64} (hd : decode code pc = .ok (.lcmp, 1)) (h : tr_G b L xs B Wt (pc + 1) lv (.int (lg_cmp x y) :: st) M1 M2) : tr_G b L xs B Wt pc lv (.long y :: .long x :: st) M1 M2 := by
  intro ok
  have k := h ok
  obtain ⟨p, l, e, s, m, below, meth, c, dC, dI, D, hx, hb, hr, hml, hown, hts, hX, hbl, hB, hlk, hK, hAb, hW⟩ := ok
  rw [hW] at k ⊢
  intro ls H locs hl hP1 hP2 hS
  exact W.lcmp hx hb hd (k ls H locs hl hP1 hP2 hS)
theorem tr_G.sld {x : Int32} {j : Nat} (hd : decode code pc = .ok (.iaload, 1)) (hxj : x = nI j) (hj : j < L) (hL : L < 2 ^ 31) (h : tr_G b L xs B Wt (pc + 1) lv (.int (xs j) :: st) M1 M2) : tr_G b L xs B Wt pc lv (.int x :: .ref b :: st) M1 M2 := by
  intro ok
  have k := h ok
  obtain ⟨p, l, e, s, m, below, meth, c, dC, dI, D, hx, hb, hr, hml, hown, hts, hX, hbl, hB, hlk, hK, hAb, hW⟩ := ok
  rw [hW] at k ⊢
  intro ls H locs hl hP1 hP2 hS
  subst hxj
  have k2 := k ls H locs hl hP1 hP2 hS
  refine va_sld hx hb hX hbl (by show ¬ B < b; omega) hS (vp_in_nI hj hL) hd ?_
  rw [nI_clamp (by omega)]
  exact k2
theorem tr_G.slen (hd : decode code pc = .ok (.arraylength, 1)) (h : tr_G b L xs B Wt (pc + 1) lv (.int (nI L) :: st) M1 M2) : tr_G b L xs B Wt pc lv (.ref b :: st) M1 M2 := by
  intro ok
  have k := h ok
  obtain ⟨p, l, e, s, m, below, meth, c, dC, dI, D, hx, hb, hr, hml, hown, hts, hX, hbl, hB, hlk, hK, hAb, hW⟩ := ok
  rw [hW] at k ⊢
  intro ls H locs hl hP1 hP2 hS
  exact va_slen hx hb hX hbl (by show ¬ B < b; omega) hS hd (k ls H locs hl hP1 hP2 hS)
theorem tr_G.icmp_gt {x y : Int32} {off : Int} {tgt : Nat} (hd : decode code pc = .ok (.if_icmp .gt off, 3)) (ht : (pc : Int) + off = (tgt : Int)) (h1 : y < x → tr_G b L xs B Wt tgt lv st M1 M2) (h2 : ¬ y < x → tr_G b L xs B Wt (pc + 3) lv st M1 M2) : tr_G b L xs B Wt pc lv (.int y :: .int x :: st) M1 M2 := by
  intro ok
  have k1 := fun q => h1 q ok
  have k2 := fun q => h2 q ok
  obtain ⟨p, l, e, s, m, below, meth, c, dC, dI, D, hx, hb, hr, hml, hown, hts, hX, hbl, hB, hlk, hK, hAb, hW⟩ := ok
  rw [hW] at k1 k2 ⊢
  intro ls H locs hl hP1 hP2 hS
  exact lv_icmp_gt hx hb hd ht (fun q => k1 q ls H locs hl hP1 hP2 hS) (fun q => k2 q ls H locs hl hP1 hP2 hS)
theorem tr_G.icmp_eq {x : Int32} {off : Int} {tgt : Nat} (hd : decode code pc = .ok (.if_icmp .eq off, 3)) (ht : (pc : Int) + off = (tgt : Int)) (h : tr_G b L xs B Wt tgt lv st M1 M2) : tr_G b L xs B Wt pc lv (.int x :: .int x :: st) M1 M2 := by
  intro ok
  have k := h ok
  obtain ⟨p, l, e, s, m, below, meth, c, dC, dI, D, hx, hb, hr, hml, hown, hts, hX, hbl, hB, hlk, hK, hAb, hW⟩ := ok
  rw [hW] at k ⊢
  intro ls H locs hl hP1 hP2 hS
  exact lv_icmp_eq hx hb hd ht (fun _ => k ls H locs hl hP1 hP2 hS) (fun q => absurd rfl q)
theorem tr_G.if_eq {x : Int32} {off : Int} {tgt : Nat} (hd : decode code pc = .ok (.ifCond .eq off, 3)) (ht : (pc : Int) + off = (tgt : Int)) (hz : x = 0) (h : tr_G b L xs B Wt tgt lv st M1 M2) : tr_G b L xs B Wt pc lv (.int x :: st) M1 M2 := by
  intro ok
  have k := h ok
  obtain ⟨p, l, e, s, m, below, meth, c, dC, dI, D, hx, hb, hr, hml, hown, hts, hX, hbl, hB, hlk, hK, hAb, hW⟩ := ok
  rw [hW] at k ⊢
  intro ls H locs hl hP1 hP2 hS
  exact lv_if_eq hx hb hd ht (fun _ => k ls H locs hl hP1 hP2 hS) (fun q => absurd hz q)
theorem tr_G.goto {off : Int} {tgt : Nat} (hd : decode code pc = .ok (.goto off, 3)) (ht : (pc : Int) + off = (tgt : Int)) (h : tr_G b L xs B Wt tgt lv st M1 M2) : tr_G b L xs B Wt pc lv st M1 M2 := by
  intro ok
  have k := h ok
  obtain ⟨p, l, e, s, m, below, meth, c, dC, dI, D, hx, hb, hr, hml, hown, hts, hX, hbl, hB, hlk, hK, hAb, hW⟩ := ok
  rw [hW] at k ⊢
  intro ls H locs hl hP1 hP2 hS
  exact lv_goto hx hb hd ht (k ls H locs hl hP1 hP2 hS)
theorem tr_G.iinc {i n0 : Nat} {nn : Int} {x v : Int32} {lv' : List (Nat × Value)} (hd : decode code pc = .ok (.iinc i nn, 3)) (hk : lv[n0]? = some (i, .int x)) (hv : x + Int32.ofInt nn = v) (hn : i < 4) (hlv : (i, Value.int v) :: lv.filter (fun q => !(q.1 == i) && !(q.1 + 1 == i && q.2.category == 2)) = lv') (h : tr_G b L xs B Wt (pc + 3) lv' st M1 M2) : tr_G b L xs B Wt pc lv st M1 M2 := by
  intro ok
  have k := h ok
  obtain ⟨p, l, e, s, m, below, meth, c, dC, dI, D, hx, hb, hr, hml, hown, hts, hX, hbl, hB, hlk, hK, hAb, hW⟩ := ok
  rw [hW] at k ⊢
  intro ls H locs hl hP1 hP2 hS
  exact lv_iinc (k := n0) hx hb hd hl hk hv hn hlv (fun ls' hl' => k ls' H locs hl' hP1 hP2 hS)
theorem tr_G.tableIn {dflt lo hi : Int} {offs : Array Int} {len : Nat} {x kk : Int32} {off : Int} {tgt : Nat} (hd : decode code pc = .ok (.tableswitch dflt lo hi offs, len)) (hxk : x = kk) (hbd : lo ≤ kk.toInt ∧ kk.toInt ≤ hi) (ho : offs[(kk.toInt - lo).toNat]? = some off) (ht : (pc : Int) + off = (tgt : Int)) (h : tr_G b L xs B Wt tgt lv st M1 M2) : tr_G b L xs B Wt pc lv (.int x :: st) M1 M2 := by
  intro ok
  have k := h ok
  obtain ⟨p, l, e, s, m, below, meth, c, dC, dI, D, hx, hb, hr, hml, hown, hts, hX, hbl, hB, hlk, hK, hAb, hW⟩ := ok
  rw [hW] at k ⊢
  intro ls H locs hl hP1 hP2 hS
  subst hxk
  exact lv_tableIn hx hb hd (Int.not_lt.mpr hbd.1) (Int.not_lt.mpr hbd.2) ho ht (k ls H locs hl hP1 hP2 hS)
theorem tr_G.tableOut {dflt lo hi : Int} {offs : Array Int} {len : Nat} {x : Int32} {tgt : Nat} (hd : decode code pc = .ok (.tableswitch dflt lo hi offs, len)) (ho : x.toInt < lo ∨ hi < x.toInt) (ht : (pc : Int) + dflt = (tgt : Int)) (h : tr_G b L xs B Wt tgt lv st M1 M2) : tr_G b L xs B Wt pc lv (.int x :: st) M1 M2 := by
  intro ok
  have k := h ok
  obtain ⟨p, l, e, s, m, below, meth, c, dC, dI, D, hx, hb, hr, hml, hown, hts, hX, hbl, hB, hlk, hK, hAb, hW⟩ := ok
  rw [hW] at k ⊢
  intro ls H locs hl hP1 hP2 hS
  exact lv_tableOut hx hb hd ho ht (k ls H locs hl hP1 hP2 hS)
theorem tr_G.ret (hd : decode code pc = .ok (.ireturn, 1)) : tr_G b L xs B Wt pc lv [.int 1] M1 M2 := by
  intro ok
  obtain ⟨p, l, e, s, m, below, meth, c, dC, dI, D, hx, hb, hr, hml, hown, hts, hX, hbl, hB, hlk, hK, hAb, hW⟩ := ok
  rw [hW]
  intro ls H locs hl hP1 hP2 hS
  refine va_forget (fun q hq => by have := hS.2.2 q hq; rw [hB]; exact this) ?_
  refine W.widen (k := 600000) (n := 7302250) (Nat.le_of_ble_eq_true rfl) (Nat.le_of_ble_eq_true rfl) ?_
  exact lw_ret hx hb hr hlk hd

theorem tr_G.callX {y : MethodName} {Y : tr_X} {n idx Nf ci : Nat} {av st0 : List Value} {v : Value} {N1 : tr_M} {T : u_T} {ks : List Nat} (hI : tr_I y Y (.ref 1 :: av) M1 (some v) N1) (hy : tr_yk y Y n) (hinst : Cond.instanceMethod y ∈ tr_tbl ∧ Cond.selects y.cls y y ∈ tr_tbl) (hl : Cond.methodLink RL idx y ∈ tr_tbl) (hcl : vwCl[ci]? = some (y.cls, T, Nf)) (hs : shC 1 = .inr (.inr (ci, ks))) (hc : Y.2.2.2.2.2 = (shC, 81) ∧ Y.2.2.2.2.1 < 200) (hn : av.length = n) (hav : ∀ B, av.map (tr_v B) = av) (hv : ∀ B, tr_v B v = v) (hw : (st.map fun v => v.category).sum ≤ 8) (he : st0 = av.reverse ++ .ref (B + 1) :: st) (hd : decode code pc = .ok (.invokevirtual idx, 3))
    (h : tr_G b L xs B Wt (pc + 3) lv (v :: st) N1 M2) : tr_G b L xs B Wt pc lv st0 M1 M2 := by
  intro ok
  have k := h ok
  obtain ⟨p, l, e, s, m, below, meth, c, dC, dI, D, hx, hb, hr, hml, hown, hts, hX, hbl, hB, hlk, hK, hAb, hW⟩ := ok
  rw [hW] at k ⊢
  intro ls H locs hl0 hP1 hP2 hS
  have hI := hI l dC dI B D
  rw [hc.1] at hI
  have hat := tr_ws_at (B := B) (D := D) (sh := shC) (M := M1) (a := 1) (N := 81) (by decide) (by decide)
  rw [tr_c_obj hs] at hat
  have hroom : (tr_R Y.2.2.2.2.1).frames + 1 ≤ room_1.frames ∧ 8 + (Y.2.1 + 11) + (tr_R Y.2.2.2.2.1).locals ≤ room_1.locals := by
    have := hc.2
    have := hy.2.2.2
    exact ⟨show 10 * _ + 1 ≤ 2048 by omega, show 8 + (_ + 11) + 200 * _ ≤ 84000 by omega⟩
  have cb := callB_of (R := room_1) (own := RL) (index := idx) (ws := Cond.code y Y.1 Y.2.1 Y.2.2.2.1 :: tr_tbl) (rm := tr_R Y.2.2.2.2.1) (mc := 0) (ms := 0) n hts (tr_goodIn fun w hw => (List.mem_cons.mp hw).elim (fun e => e ▸ hy.1) id) rfl rfl rfl (hts _ hy.2.1) (hts _ hl) hy.2.2.1 hroom
  subst he
  have hpre : ∀ U : State, U.heap = H → s.WarmedH U.vm → tr_Pc dC dI B D shC 81 (.ref 1 :: av) M1 (Value.ref (B + 1) :: av).toArray U := by
    have := tr_pre (av := .ref 1 :: av) hP1 hK hAb
    rw [List.map_cons, hav] at this
    exact this
  have hrun := va_runV (e := e) (below := below) (meth := meth) (locs := locs) (H := H) (cells := 105) (slots := tr_gS) (C := y.cls) (b := B + 1) (As := av) (rest := st) (g := F0 m pc ls (av.reverse ++ .ref (B + 1) :: st)) ⟨hx, hb, hml, hown, hts⟩ hI ⟨cb, hts _ hinst.1, hts _ hinst.2⟩ ⟨tr_blind, va_recv hK hP1 hcl hat, hpre⟩ rfl hn hl0.1 rfl (lv_room hw) hd ⟨Nat.le_of_ble_eq_true rfl, Nat.le_of_ble_eq_true rfl⟩
  intro T0 hT Xs
  obtain ⟨v0, st₀, t, T', L0, h0, X', hL, e1, e2, ⟨hv0, hP', hz, hk⟩, stp⟩ := hrun T0 hT Xs
  have hv0 : v0 = some v := by
    cases hv0
    show some (tr_v B v) = some v
    rw [hv]
  subst hv0
  rw [h0] at hz hk
  have hA : ∀ q, tr_A B 81 q → B < q := fun q hq => by
    have := hq.1
    omega
  have hS1 : va_S (fun q => B < q) s.heap T'.heap (locs ++ L0) := by
    refine ⟨Nat.le_trans hS.1 (by rw [e1]; exact hz), fun q h1 h2 => by rw [e1, hk q (Nat.lt_of_lt_of_le h1 hS.1) (fun z => h2 (hA q z))]; exact hS.2.1 q h1 h2, fun q hq => ?_⟩
    rcases List.mem_append.mp hq with h | h
    · exact hS.2.2 q h
    · exact hA _ (hL q h)
  rw [← e1] at hP'
  have hO : va_P (dC, dI) vwCl (tr_ws (B + 81) D shM 24 M2) T'.heap := hP2.kept (fun k q hq => by
    have hlt := (hP2 k q hq).lt
    obtain ⟨hk1, rfl⟩ := tr_ws_of hq
    rw [e1]
    refine hk _ hlt (fun z => ?_)
    have z1 := z.1
    have z2 := z.2
    have : B + 81 + (k + 1) ≤ B + 81 := z2
    omega)
  obtain ⟨t2, a1, b1⟩ := k ls T'.heap (locs ++ L0) hl0 hP' hO hS1 T' rfl X'
  exact ⟨t2, stp t2 a1, b1⟩

theorem tr_G.callM {y : MethodName} {Y : tr_X} {n idx Nf ci : Nat} {av st0 : List Value} {v : Value} {N2 : tr_M} {T : u_T} {ks : List Nat} (hI : tr_I y Y (.ref 1 :: av) M2 (some v) N2) (hy : tr_yk y Y n) (hinst : Cond.instanceMethod y ∈ tr_tbl ∧ Cond.selects y.cls y y ∈ tr_tbl) (hl : Cond.methodLink RL idx y ∈ tr_tbl) (hcl : vwCl[ci]? = some (y.cls, T, Nf)) (hs : shM 1 = .inr (.inr (ci, ks))) (hc : Y.2.2.2.2.2 = (shM, 24) ∧ Y.2.2.2.2.1 < 200) (hn : av.length = n) (hav : ∀ B, av.map (tr_v B) = av) (hv : ∀ B, tr_v B v = v) (hw : (st.map fun v => v.category).sum ≤ 8) (he : st0 = av.reverse ++ .ref ((B + 81) + 1) :: st) (hd : decode code pc = .ok (.invokevirtual idx, 3))
    (h : tr_G b L xs B Wt (pc + 3) lv (v :: st) M1 N2) : tr_G b L xs B Wt pc lv st0 M1 M2 := by
  intro ok
  have k := h ok
  obtain ⟨p, l, e, s, m, below, meth, c, dC, dI, D, hx, hb, hr, hml, hown, hts, hX, hbl, hB, hlk, hK, hAb, hW⟩ := ok
  rw [hW] at k ⊢
  intro ls H locs hl0 hP1 hP2 hS
  have hI := hI l dC dI (B + 81) D
  rw [hc.1] at hI
  have hat := tr_ws_at (B := (B + 81)) (D := D) (sh := shM) (M := M2) (a := 1) (N := 24) (by decide) (by decide)
  rw [tr_c_obj hs] at hat
  have hroom : (tr_R Y.2.2.2.2.1).frames + 1 ≤ room_1.frames ∧ 8 + (Y.2.1 + 11) + (tr_R Y.2.2.2.2.1).locals ≤ room_1.locals := by
    have := hc.2
    have := hy.2.2.2
    exact ⟨show 10 * _ + 1 ≤ 2048 by omega, show 8 + (_ + 11) + 200 * _ ≤ 84000 by omega⟩
  have cb := callB_of (R := room_1) (own := RL) (index := idx) (ws := Cond.code y Y.1 Y.2.1 Y.2.2.2.1 :: tr_tbl) (rm := tr_R Y.2.2.2.2.1) (mc := 0) (ms := 0) n hts (tr_goodIn fun w hw => (List.mem_cons.mp hw).elim (fun e => e ▸ hy.1) id) rfl rfl rfl (hts _ hy.2.1) (hts _ hl) hy.2.2.1 hroom
  subst he
  have hpre : ∀ U : State, U.heap = H → s.WarmedH U.vm → tr_Pc dC dI (B + 81) D shM 24 (.ref 1 :: av) M2 (Value.ref ((B + 81) + 1) :: av).toArray U := by
    have := tr_pre (av := .ref 1 :: av) hP2 hK hAb
    rw [List.map_cons, hav] at this
    exact this
  have hrun := va_runV (e := e) (below := below) (meth := meth) (locs := locs) (H := H) (cells := 105) (slots := tr_gS) (C := y.cls) (b := (B + 81) + 1) (As := av) (rest := st) (g := F0 m pc ls (av.reverse ++ .ref ((B + 81) + 1) :: st)) ⟨hx, hb, hml, hown, hts⟩ hI ⟨cb, hts _ hinst.1, hts _ hinst.2⟩ ⟨tr_blind, va_recv hK hP2 hcl hat, hpre⟩ rfl hn hl0.1 rfl (lv_room hw) hd ⟨Nat.le_of_ble_eq_true rfl, Nat.le_of_ble_eq_true rfl⟩
  intro T0 hT Xs
  obtain ⟨v0, st₀, t, T', L0, h0, X', hL, e1, e2, ⟨hv0, hP', hz, hk⟩, stp⟩ := hrun T0 hT Xs
  have hv0 : v0 = some v := by
    cases hv0
    show some (tr_v (B + 81) v) = some v
    rw [hv]
  subst hv0
  rw [h0] at hz hk
  have hA : ∀ q, tr_A (B + 81) 24 q → B < q := fun q hq => by
    have := hq.1
    omega
  have hS1 : va_S (fun q => B < q) s.heap T'.heap (locs ++ L0) := by
    refine ⟨Nat.le_trans hS.1 (by rw [e1]; exact hz), fun q h1 h2 => by rw [e1, hk q (Nat.lt_of_lt_of_le h1 hS.1) (fun z => h2 (hA q z))]; exact hS.2.1 q h1 h2, fun q hq => ?_⟩
    rcases List.mem_append.mp hq with h | h
    · exact hS.2.2 q h
    · exact hA _ (hL q h)
  rw [← e1] at hP'
  have hO : va_P (dC, dI) vwCl (tr_ws B D shC 81 M1) T'.heap := hP1.kept (fun k q hq => by
    have hlt := (hP1 k q hq).lt
    obtain ⟨hk1, rfl⟩ := tr_ws_of hq
    rw [e1]
    refine hk _ hlt (fun z => ?_)
    have z1 := z.1
    have z2 := z.2
    have : B + 81 < B + (k + 1) := z1
    omega)
  obtain ⟨t2, a1, b1⟩ := k ls T'.heap (locs ++ L0) hl0 hO hP' hS1 T' rfl X'
  exact ⟨t2, stp t2 a1, b1⟩

end TRG
theorem lg_cmp_self (x : Int64) : lg_cmp x x = 0 := by
  unfold lg_cmp
  simp
theorem nI_of_and (x : Int32) : x &&& 63 = nI (x.toBitVec.toNat % 64) := pk_and x 6 (by decide)
