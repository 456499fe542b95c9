def shCL : List tr_S := [.inl (0, 0), .inr (.inr (5, [6, 7, 8, 28, 29, 30, 61, 62, 63, 64, 65, 0, 0, 1, 1, 0, 2])), .inr (.inl (3, 6, fun i => 62 + 2 * i)), .inr (.inl (3, 4, fun i => 74 + 2 * i)), .inr (.inr (2, [9, 2, 0])), .inr (.inr (4, [0, 0, 0, 10, 21, 22, 23, 24, 25, 26, 27])), .inr (.inl (4, 10, fun i => 7 + i)), .inl (0, 10), .inl (0, 10), .inl (0, 10), .inl (0, 10), .inl (0, 10), .inl (0, 10), .inl (0, 10), .inl (0, 10), .inl (0, 10), .inl (0, 10), .inl (0, 10), .inl (0, 10), .inl (0, 8), .inl (0, 8), .inl (0, 8), .inl (0, 8), .inl (0, 10), .inr (.inr (1, [29, 30, 58, 0, 0, 0, 0, 59, 60])), .inr (.inr (3, [30, 49, 50, 51, 52, 53, 54, 55, 56, 57, 3, 3, 3, 0, 0])), .inr (.inr (4, [0, 0, 0, 31, 42, 43, 44, 45, 46, 47, 48])), .inr (.inl (4, 10, fun i => 28 + i)), .inl (0, 10), .inl (0, 10), .inl (0, 10), .inl (0, 10), .inl (0, 10), .inl (0, 10), .inl (0, 10), .inl (0, 10), .inl (0, 10), .inl (0, 10), .inl (0, 10), .inl (0, 10), .inl (0, 8), .inl (0, 8), .inl (0, 8), .inl (0, 8), .inl (0, 10), .inl (0, 1024), .inl (0, 1024), .inl (0, 11), .inl (0, 10240), .inl (0, 10240), .inl (0, 10240), .inl (0, 10240), .inl (0, 10), .inl (0, 110), .inl (0, 40320), .inl (0, 10), .inl (0, 10), .inl (0, 6), .inl (0, 10), .inl (0, 10), .inl (0, 10), .inl (0, 10), .inr (.inr (0, [67, 0])), .inl (0, 60), .inr (.inr (0, [69, 0])), .inl (0, 60), .inr (.inr (0, [71, 0])), .inl (0, 60), .inr (.inr (0, [73, 0])), .inl (0, 60), .inr (.inr (0, [75, 0])), .inl (0, 60), .inr (.inr (0, [77, 0])), .inl (0, 60), .inr (.inr (0, [79, 0])), .inl (0, 120), .inr (.inr (0, [81, 0])), .inl (0, 120), .inr (.inr (0, [83, 0])), .inl (0, 120), .inr (.inr (0, [85, 0])), .inl (0, 120)]
def shC (a : Nat) : tr_S := shCL.getD a (.inl (0, 0))
theorem shC_1 : shC 1 = .inr (.inr (5, [6, 7, 8, 28, 29, 30, 61, 62, 63, 64, 65, 0, 0, 1, 1, 0, 2])) := rfl
theorem shC_2 : shC 2 = .inr (.inl (3, 6, fun i => 62 + 2 * i)) := rfl
theorem shC_3 : shC 3 = .inr (.inl (3, 4, fun i => 74 + 2 * i)) := rfl
theorem shC_4 : shC 4 = .inr (.inr (2, [9, 2, 0])) := rfl
theorem shC_5 : shC 5 = .inr (.inr (4, [0, 0, 0, 10, 21, 22, 23, 24, 25, 26, 27])) := rfl
theorem shC_6 : shC 6 = .inr (.inl (4, 10, fun i => 7 + i)) := rfl
theorem shC_7 : shC 7 = .inl (0, 10) := rfl
theorem shC_8 : shC 8 = .inl (0, 10) := rfl
theorem shC_9 : shC 9 = .inl (0, 10) := rfl
theorem shC_10 : shC 10 = .inl (0, 10) := rfl
theorem shC_11 : shC 11 = .inl (0, 10) := rfl
theorem shC_12 : shC 12 = .inl (0, 10) := rfl
theorem shC_13 : shC 13 = .inl (0, 10) := rfl
theorem shC_14 : shC 14 = .inl (0, 10) := rfl
theorem shC_15 : shC 15 = .inl (0, 10) := rfl
theorem shC_16 : shC 16 = .inl (0, 10) := rfl
theorem shC_17 : shC 17 = .inl (0, 10) := rfl
theorem shC_18 : shC 18 = .inl (0, 10) := rfl
theorem shC_19 : shC 19 = .inl (0, 8) := rfl
theorem shC_20 : shC 20 = .inl (0, 8) := rfl
theorem shC_21 : shC 21 = .inl (0, 8) := rfl
theorem shC_22 : shC 22 = .inl (0, 8) := rfl
theorem shC_23 : shC 23 = .inl (0, 10) := rfl
theorem shC_24 : shC 24 = .inr (.inr (1, [29, 30, 58, 0, 0, 0, 0, 59, 60])) := rfl
theorem shC_25 : shC 25 = .inr (.inr (3, [30, 49, 50, 51, 52, 53, 54, 55, 56, 57, 3, 3, 3, 0, 0])) := rfl
theorem shC_26 : shC 26 = .inr (.inr (4, [0, 0, 0, 31, 42, 43, 44, 45, 46, 47, 48])) := rfl
theorem shC_27 : shC 27 = .inr (.inl (4, 10, fun i => 28 + i)) := rfl
theorem shC_28 : shC 28 = .inl (0, 10) := rfl
theorem shC_29 : shC 29 = .inl (0, 10) := rfl
theorem shC_30 : shC 30 = .inl (0, 10) := rfl
theorem shC_31 : shC 31 = .inl (0, 10) := rfl
theorem shC_32 : shC 32 = .inl (0, 10) := rfl
theorem shC_33 : shC 33 = .inl (0, 10) := rfl
theorem shC_34 : shC 34 = .inl (0, 10) := rfl
theorem shC_35 : shC 35 = .inl (0, 10) := rfl
theorem shC_36 : shC 36 = .inl (0, 10) := rfl
theorem shC_37 : shC 37 = .inl (0, 10) := rfl
theorem shC_38 : shC 38 = .inl (0, 10) := rfl
theorem shC_39 : shC 39 = .inl (0, 10) := rfl
theorem shC_40 : shC 40 = .inl (0, 8) := rfl
theorem shC_41 : shC 41 = .inl (0, 8) := rfl
theorem shC_42 : shC 42 = .inl (0, 8) := rfl
theorem shC_43 : shC 43 = .inl (0, 8) := rfl
theorem shC_44 : shC 44 = .inl (0, 10) := rfl
theorem shC_45 : shC 45 = .inl (0, 1024) := rfl
theorem shC_46 : shC 46 = .inl (0, 1024) := rfl
theorem shC_47 : shC 47 = .inl (0, 11) := rfl
theorem shC_48 : shC 48 = .inl (0, 10240) := rfl
theorem shC_49 : shC 49 = .inl (0, 10240) := rfl
theorem shC_50 : shC 50 = .inl (0, 10240) := rfl
theorem shC_51 : shC 51 = .inl (0, 10240) := rfl
theorem shC_52 : shC 52 = .inl (0, 10) := rfl
theorem shC_53 : shC 53 = .inl (0, 110) := rfl
theorem shC_54 : shC 54 = .inl (0, 40320) := rfl
theorem shC_55 : shC 55 = .inl (0, 10) := rfl
theorem shC_56 : shC 56 = .inl (0, 10) := rfl
theorem shC_57 : shC 57 = .inl (0, 6) := rfl
theorem shC_58 : shC 58 = .inl (0, 10) := rfl
theorem shC_59 : shC 59 = .inl (0, 10) := rfl
theorem shC_60 : shC 60 = .inl (0, 10) := rfl
theorem shC_61 : shC 61 = .inl (0, 10) := rfl
theorem shC_62 : shC 62 = .inr (.inr (0, [67, 0])) := rfl
theorem shC_63 : shC 63 = .inl (0, 60) := rfl
theorem shC_64 : shC 64 = .inr (.inr (0, [69, 0])) := rfl
theorem shC_65 : shC 65 = .inl (0, 60) := rfl
theorem shC_66 : shC 66 = .inr (.inr (0, [71, 0])) := rfl
theorem shC_67 : shC 67 = .inl (0, 60) := rfl
theorem shC_68 : shC 68 = .inr (.inr (0, [73, 0])) := rfl
theorem shC_69 : shC 69 = .inl (0, 60) := rfl
theorem shC_70 : shC 70 = .inr (.inr (0, [75, 0])) := rfl
theorem shC_71 : shC 71 = .inl (0, 60) := rfl
theorem shC_72 : shC 72 = .inr (.inr (0, [77, 0])) := rfl
theorem shC_73 : shC 73 = .inl (0, 60) := rfl
theorem shC_74 : shC 74 = .inr (.inr (0, [79, 0])) := rfl
theorem shC_75 : shC 75 = .inl (0, 120) := rfl
theorem shC_76 : shC 76 = .inr (.inr (0, [81, 0])) := rfl
theorem shC_77 : shC 77 = .inl (0, 120) := rfl
theorem shC_78 : shC 78 = .inr (.inr (0, [83, 0])) := rfl
theorem shC_79 : shC 79 = .inl (0, 120) := rfl
theorem shC_80 : shC 80 = .inr (.inr (0, [85, 0])) := rfl
theorem shC_81 : shC 81 = .inl (0, 120) := rfl
theorem gdC : tr_good shC 81 := by
  refine ⟨fun a h => ?_, by decide⟩
  rcases h with rfl | h
  · rfl
  · unfold shC
    rw [List.getD_eq_getElem?_getD, List.getElem?_eq_none (show shCL.length ≤ a from h)]
    rfl
def shML : List tr_S := [.inl (0, 0), .inr (.inr (6, [0, 6, 0, 1, 1, 7, 8, 9, 10, 11, 0, 12, 0, 13, 0, 0, 0, 0, 14, 15, 16, 17, 18, 19, 20, 21, 22, 0, 0, 0, 0, 23, 24, 25, 26, 27, 28, 1])), .inl (0, 6), .inl (0, 6), .inl (0, 360), .inl (0, 60), .inl (0, 4), .inl (1, 480), .inl (0, 100), .inl (0, 40), .inl (0, 100), .inl (0, 40), .inl (0, 10), .inl (0, 10), .inl (0, 1024), .inl (0, 1024), .inl (0, 10240), .inl (0, 10240), .inl (0, 10240), .inl (0, 10), .inl (0, 10), .inl (0, 10), .inl (0, 10240), .inl (0, 10240), .inl (2, 10240)]
def shM (a : Nat) : tr_S := shML.getD a (.inl (0, 0))
theorem shM_1 : shM 1 = .inr (.inr (6, [0, 6, 0, 1, 1, 7, 8, 9, 10, 11, 0, 12, 0, 13, 0, 0, 0, 0, 14, 15, 16, 17, 18, 19, 20, 21, 22, 0, 0, 0, 0, 23, 24, 25, 26, 27, 28, 1])) := rfl
theorem shM_2 : shM 2 = .inl (0, 6) := rfl
theorem shM_3 : shM 3 = .inl (0, 6) := rfl
theorem shM_4 : shM 4 = .inl (0, 360) := rfl
theorem shM_5 : shM 5 = .inl (0, 60) := rfl
theorem shM_6 : shM 6 = .inl (0, 4) := rfl
theorem shM_7 : shM 7 = .inl (1, 480) := rfl
theorem shM_8 : shM 8 = .inl (0, 100) := rfl
theorem shM_9 : shM 9 = .inl (0, 40) := rfl
theorem shM_10 : shM 10 = .inl (0, 100) := rfl
theorem shM_11 : shM 11 = .inl (0, 40) := rfl
theorem shM_12 : shM 12 = .inl (0, 10) := rfl
theorem shM_13 : shM 13 = .inl (0, 10) := rfl
theorem shM_14 : shM 14 = .inl (0, 1024) := rfl
theorem shM_15 : shM 15 = .inl (0, 1024) := rfl
theorem shM_16 : shM 16 = .inl (0, 10240) := rfl
theorem shM_17 : shM 17 = .inl (0, 10240) := rfl
theorem shM_18 : shM 18 = .inl (0, 10240) := rfl
theorem shM_19 : shM 19 = .inl (0, 10) := rfl
theorem shM_20 : shM 20 = .inl (0, 10) := rfl
theorem shM_21 : shM 21 = .inl (0, 10) := rfl
theorem shM_22 : shM 22 = .inl (0, 10240) := rfl
theorem shM_23 : shM 23 = .inl (0, 10240) := rfl
theorem shM_24 : shM 24 = .inl (2, 10240) := rfl
theorem gdM : tr_good shM 24 := by
  refine ⟨fun a h => ?_, by decide⟩
  rcases h with rfl | h
  · rfl
  · unfold shM
    rw [List.getD_eq_getElem?_getD, List.getElem?_eq_none (show shML.length ≤ a from h)]
    rfl
def tr_isW (o : Nat) : Prop := o = 5 ∨ o = 26
theorem isW_5 : tr_isW 5 := Or.inl rfl
theorem isW_26 : tr_isW 26 := Or.inr rfl
theorem shW {o : Nat} (h : tr_isW o) : shC o = .inr (.inr (4, [0, 0, 0, (o + 1) + 4, (o + 12) + 4, (o + 13) + 4, (o + 14) + 4, (o + 15) + 4, (o + 16) + 4, (o + 17) + 4, (o + 18) + 4])) := by rcases h with rfl | rfl <;> rfl
theorem shW_1 {o : Nat} (h : tr_isW o) : shC (o + 1) = .inr (.inl (4, 10, fun i => o + 2 + i)) := by rcases h with rfl | rfl <;> rfl
theorem shW_12 {o : Nat} (h : tr_isW o) : shC (o + 12) = .inl (0, 10) := by rcases h with rfl | rfl <;> rfl
theorem shW_13 {o : Nat} (h : tr_isW o) : shC (o + 13) = .inl (0, 10) := by rcases h with rfl | rfl <;> rfl
theorem shW_14 {o : Nat} (h : tr_isW o) : shC (o + 14) = .inl (0, 8) := by rcases h with rfl | rfl <;> rfl
theorem shW_15 {o : Nat} (h : tr_isW o) : shC (o + 15) = .inl (0, 8) := by rcases h with rfl | rfl <;> rfl
theorem shW_16 {o : Nat} (h : tr_isW o) : shC (o + 16) = .inl (0, 8) := by rcases h with rfl | rfl <;> rfl
theorem shW_17 {o : Nat} (h : tr_isW o) : shC (o + 17) = .inl (0, 8) := by rcases h with rfl | rfl <;> rfl
theorem shW_18 {o : Nat} (h : tr_isW o) : shC (o + 18) = .inl (0, 10) := by rcases h with rfl | rfl <;> rfl
theorem tr_ra_lt {n : Nat} {f : Nat → Nat} {i : Int32} {q : Nat} (h : tr_ra n f i = some q) : i.toNatClampNeg < n ∧ q = f i.toNatClampNeg := by
  by_cases hi : tr_ix i n = true
  · have h2 : f i.toNatClampNeg = q := by simpa [tr_ra, hi] using h
    refine ⟨?_, h2.symm⟩
    simp only [tr_ix, Bool.and_eq_true, decide_eq_true_eq] at hi
    exact hi.2
  · simp [tr_ra, hi] at h
theorem tr_ra_pos {n : Nat} {f : Nat → Nat} {i : Int32} {q : Nat} (h : tr_ra n f i = some q) (hf : 0 < f i.toNatClampNeg) : 0 < q := by rw [(tr_ra_lt h).2]; exact hf
theorem shW_in {o : Nat} (ho : tr_isW o) {i : Int32} {q : Nat} (h : tr_ra 10 (fun i => o + 2 + i) i = some q) : shC q = .inl (0, 10) := by
  obtain ⟨h1, h2⟩ := tr_ra_lt h
  generalize i.toNatClampNeg = k at h1 h2
  subst h2
  rcases ho with rfl | rfl
  all_goals
    rcases (show k = 0 ∨ k = 1 ∨ k = 2 ∨ k = 3 ∨ k = 4 ∨ k = 5 ∨ k = 6 ∨ k = 7 ∨ k = 8 ∨ k = 9 by omega) with rfl | rfl | rfl | rfl | rfl | rfl | rfl | rfl | rfl | rfl <;> rfl
def tr_isL (q : Nat) : Bool := decide (62 ≤ q ∧ q ≤ 80 ∧ q % 2 = 0)
def tr_isLp (q : Nat) : Prop := tr_isL q = true
theorem isL_of {q : Nat} (h : tr_isL q = true) : tr_isLp q := h
theorem isL_lt {q : Nat} (h : tr_isLp q) : q < 2 ^ 31 := by
  have := of_decide_eq_true h
  omega
theorem isL_pos {q : Nat} (h : tr_isLp q) : 0 < q := by
  have := of_decide_eq_true h
  omega
theorem isL_2 {i : Int32} {q : Nat} (h : tr_ra 6 (fun i => 62 + 2 * i) i = some q) : tr_isLp q := by
  obtain ⟨h1, h2⟩ := tr_ra_lt h
  refine decide_eq_true ?_
  omega
theorem isL_3 {i : Int32} {q : Nat} (h : tr_ra 4 (fun i => 74 + 2 * i) i = some q) : tr_isLp q := by
  obtain ⟨h1, h2⟩ := tr_ra_lt h
  refine decide_eq_true ?_
  omega
theorem shL {q : Nat} (h : tr_isLp q) : shC q = .inr (.inr (0, [(q + 1) + 4, 0])) := by
  have := of_decide_eq_true h
  rcases (show q = 62 ∨ q = 64 ∨ q = 66 ∨ q = 68 ∨ q = 70 ∨ q = 72 ∨ q = 74 ∨ q = 76 ∨ q = 78 ∨ q = 80 by omega) with rfl | rfl | rfl | rfl | rfl | rfl | rfl | rfl | rfl | rfl <;> rfl
theorem in_X1 : Cond.initialized RX1 ∈ tr_tbl := tr_in 136 (by decide +kernel) rfl
theorem pn_X1 : plainName RX1 = true := by decide +kernel
theorem in_X2 : Cond.initialized RX2 ∈ tr_tbl := tr_in 134 (by decide +kernel) rfl
theorem pn_X2 : plainName RX2 = true := by decide +kernel
theorem in_X3 : Cond.initialized RX3 ∈ tr_tbl := tr_in 131 (by decide +kernel) rfl
theorem pn_X3 : plainName RX3 = true := by decide +kernel
theorem in_X4 : Cond.initialized RX4 ∈ tr_tbl := tr_in 135 (by decide +kernel) rfl
theorem pn_X4 : plainName RX4 = true := by decide +kernel
theorem in_X5 : Cond.initialized RX5 ∈ tr_tbl := tr_in 132 (by decide +kernel) rfl
theorem pn_X5 : plainName RX5 = true := by decide +kernel
theorem in_X6 : Cond.initialized RX6 ∈ tr_tbl := tr_in 130 (by decide +kernel) rfl
theorem pn_X6 : plainName RX6 = true := by decide +kernel
theorem in_X7 : Cond.initialized RX7 ∈ tr_tbl := tr_in 137 (by decide +kernel) rfl
theorem pn_X7 : plainName RX7 = true := by decide +kernel
theorem in_J6 : Cond.initialized RJ6 ∈ tr_tbl := tr_in 141 (by decide +kernel) rfl
theorem pn_J6 : plainName RJ6 = true := by decide +kernel
theorem in_J7 : Cond.initialized RJ7 ∈ tr_tbl := tr_in 138 (by decide +kernel) rfl
theorem pn_J7 : plainName RJ7 = true := by decide +kernel
theorem uw_X1 : ∀ w ∈ u_ws RX1 TX1 2, w ∈ tr_tbl := tr_inw inX1 (by decide +kernel)
theorem uw_X2 : ∀ w ∈ u_ws RX2 TX2 9, w ∈ tr_tbl := tr_inw inX2 (by decide +kernel)
theorem uw_X3 : ∀ w ∈ u_ws RX3 TX3 3, w ∈ tr_tbl := tr_inw inX3 (by decide +kernel)
theorem uw_X4 : ∀ w ∈ u_ws RX4 TX4 15, w ∈ tr_tbl := tr_inw inX4 (by decide +kernel)
theorem uw_X5 : ∀ w ∈ u_ws RX5 TX5 11, w ∈ tr_tbl := tr_inw inX5 (by decide +kernel)
theorem uw_X6 : ∀ w ∈ u_ws RX6 TX6 17, w ∈ tr_tbl := tr_inw inX6 (by decide +kernel)
theorem uw_X7 : ∀ w ∈ u_ws RX7 TX7 38, w ∈ tr_tbl := tr_inw inX7 (by decide +kernel)
theorem w_acN : Cond.native arraycopyName ∈ tr_tbl := tr_in 438 (by decide +kernel) rfl
theorem w_acS : Cond.static arraycopyName ∈ tr_tbl := tr_in 437 (by decide +kernel) rfl
theorem w_acI : Cond.initialized "java/lang/System" ∈ tr_tbl := tr_in 139 (by decide +kernel) rfl
theorem in_J9 : Cond.initialized "java/lang/Math" ∈ tr_tbl := tr_in 140 (by decide +kernel) rfl
theorem w_mmaxS : Cond.static Lib.Math.max.name ∈ tr_tbl := tr_in 639 (by decide +kernel) rfl
theorem w_mmaxC : Cond.code Lib.Math.max.name Lib.Math.max.code 2 (some .int) ∈ tr_tbl := tr_in 640 (by decide +kernel) rfl
theorem w_mminS : Cond.static Lib.Math.min.name ∈ tr_tbl := tr_in 609 (by decide +kernel) rfl
theorem w_mminC : Cond.code Lib.Math.min.name Lib.Math.min.code 2 (some .int) ∈ tr_tbl := tr_in 610 (by decide +kernel) rfl
theorem w_mabsS : Cond.static Lib.Math.abs.name ∈ tr_tbl := tr_in 666 (by decide +kernel) rfl
theorem w_mabsC : Cond.code Lib.Math.abs.name Lib.Math.abs.code 1 (some .int) ∈ tr_tbl := tr_in 667 (by decide +kernel) rfl
theorem fl_X6_11 : tr_fl RX6 11 5 0 (.array (.object "TiedRow$Line")) true := ⟨RX6, TX6, 17, tyX6, rfl, uw_X6, by decide, tr_in 334 (by decide +kernel) rfl, rfl, tyX6_ok, nmX6, rfl, by decide +kernel⟩
theorem fl_X6_15 : tr_fl RX6 15 5 1 (.array (.object "TiedRow$Line")) true := ⟨RX6, TX6, 17, tyX6, rfl, uw_X6, by decide, tr_in 335 (by decide +kernel) rfl, rfl, tyX6_ok, nmX6, rfl, by decide +kernel⟩
theorem fl_X6_21 : tr_fl RX6 21 5 2 (.object "TiedRow$Reader") true := ⟨RX6, TX6, 17, tyX6, rfl, uw_X6, by decide, tr_in 336 (by decide +kernel) rfl, rfl, tyX6_ok, nmX6, rfl, by decide +kernel⟩
theorem fl_X6_28 : tr_fl RX6 28 5 3 (.object "TiedRow$LongWalk") true := ⟨RX6, TX6, 17, tyX6, rfl, uw_X6, by decide, tr_in 337 (by decide +kernel) rfl, rfl, tyX6_ok, nmX6, rfl, by decide +kernel⟩
theorem fl_X6_32 : tr_fl RX6 32 1 0 (.object "TiedRow$SetSearch") true := ⟨RX2, TX2, 9, tyX2, rfl, uw_X2, by decide, tr_in 288 (by decide +kernel) rfl, rfl, tyX2_ok, nmX2, rfl, by decide +kernel⟩
theorem fl_X6_36 : tr_fl RX6 36 5 4 (.object "TiedRow$SetSearch") true := ⟨RX6, TX6, 17, tyX6, rfl, uw_X6, by decide, tr_in 338 (by decide +kernel) rfl, rfl, tyX6_ok, nmX6, rfl, by decide +kernel⟩
theorem fl_X6_37 : tr_fl RX6 37 3 0 (.object "TiedRow$World") true := ⟨RX4, TX4, 15, tyX4, rfl, uw_X4, by decide, tr_in 240 (by decide +kernel) rfl, rfl, tyX4_ok, nmX4, rfl, by decide +kernel⟩
theorem fl_X6_43 : tr_fl RX6 43 5 5 (.object "TiedRow$World") true := ⟨RX6, TX6, 17, tyX6, rfl, uw_X6, by decide, tr_in 339 (by decide +kernel) rfl, rfl, tyX6_ok, nmX6, rfl, by decide +kernel⟩
theorem fl_X6_44 : tr_fl RX6 44 5 6 (.array .int) true := ⟨RX6, TX6, 17, tyX6, rfl, uw_X6, by decide, tr_in 340 (by decide +kernel) rfl, rfl, tyX6_ok, nmX6, rfl, by decide +kernel⟩
theorem fl_X6_48 : tr_fl RX6 48 5 7 (.array .int) true := ⟨RX6, TX6, 17, tyX6, rfl, uw_X6, by decide, tr_in 341 (by decide +kernel) rfl, rfl, tyX6_ok, nmX6, rfl, by decide +kernel⟩
theorem fl_X6_51 : tr_fl RX6 51 5 8 (.array .int) true := ⟨RX6, TX6, 17, tyX6, rfl, uw_X6, by decide, tr_in 342 (by decide +kernel) rfl, rfl, tyX6_ok, nmX6, rfl, by decide +kernel⟩
theorem fl_X6_54 : tr_fl RX6 54 5 9 (.array .int) true := ⟨RX6, TX6, 17, tyX6, rfl, uw_X6, by decide, tr_in 343 (by decide +kernel) rfl, rfl, tyX6_ok, nmX6, rfl, by decide +kernel⟩
theorem fl_X6_57 : tr_fl RX6 57 5 10 (.array .int) true := ⟨RX6, TX6, 17, tyX6, rfl, uw_X6, by decide, tr_in 344 (by decide +kernel) rfl, rfl, tyX6_ok, nmX6, rfl, by decide +kernel⟩
theorem fl_X6_60 : tr_fl RX6 60 5 11 .int false := ⟨RX6, TX6, 17, tyX6, rfl, uw_X6, by decide, tr_in 345 (by decide +kernel) rfl, rfl, tyX6_ok, nmX6, rfl, by decide +kernel⟩
theorem fl_X6_64 : tr_fl RX6 64 5 12 .int false := ⟨RX6, TX6, 17, tyX6, rfl, uw_X6, by decide, tr_in 346 (by decide +kernel) rfl, rfl, tyX6_ok, nmX6, rfl, by decide +kernel⟩
theorem fl_X6_67 : tr_fl RX6 67 5 13 .long false := ⟨RX6, TX6, 17, tyX6, rfl, uw_X6, by decide, tr_in 347 (by decide +kernel) rfl, rfl, tyX6_ok, nmX6, rfl, by decide +kernel⟩
theorem fl_X6_71 : tr_fl RX6 71 5 14 .long false := ⟨RX6, TX6, 17, tyX6, rfl, uw_X6, by decide, tr_in 348 (by decide +kernel) rfl, rfl, tyX6_ok, nmX6, rfl, by decide +kernel⟩
theorem fl_X6_74 : tr_fl RX6 74 5 15 .int false := ⟨RX6, TX6, 17, tyX6, rfl, uw_X6, by decide, tr_in 349 (by decide +kernel) rfl, rfl, tyX6_ok, nmX6, rfl, by decide +kernel⟩
theorem fl_X6_77 : tr_fl RX6 77 5 16 (.object "TiedRow$LeastOrders") false := ⟨RX6, TX6, 17, tyX6, rfl, uw_X6, by decide, tr_in 350 (by decide +kernel) rfl, rfl, tyX6_ok, nmX6, rfl, by decide +kernel⟩
theorem fl_X6_99 : tr_fl RX6 99 0 0 (.array .int) true := ⟨RX1, TX1, 2, tyX1, rfl, uw_X1, by decide, tr_in 325 (by decide +kernel) rfl, rfl, tyX1_ok, nmX1, rfl, by decide +kernel⟩
theorem fl_X6_106 : tr_fl RX6 106 0 1 .int false := ⟨RX1, TX1, 2, tyX1, rfl, uw_X1, by decide, tr_in 328 (by decide +kernel) rfl, rfl, tyX1_ok, nmX1, rfl, by decide +kernel⟩
theorem fl_X6_126 : tr_fl RX6 126 2 0 (.object "TiedRow$World") true := ⟨RX3, TX3, 3, tyX3, rfl, uw_X3, by decide, tr_in 211 (by decide +kernel) rfl, rfl, tyX3_ok, nmX3, rfl, by decide +kernel⟩
theorem fl_X6_136 : tr_fl RX6 136 4 0 .int false := ⟨RX5, TX5, 11, tyX5, rfl, uw_X5, by decide, tr_in 169 (by decide +kernel) rfl, rfl, tyX5_ok, nmX5, rfl, by decide +kernel⟩
theorem fl_X6_142 : tr_fl RX6 142 4 3 (.array (.array .int)) true := ⟨RX5, TX5, 11, tyX5, rfl, uw_X5, by decide, tr_in 177 (by decide +kernel) rfl, rfl, tyX5_ok, nmX5, rfl, by decide +kernel⟩
theorem fl_X6_154 : tr_fl RX6 154 4 1 .int false := ⟨RX5, TX5, 11, tyX5, rfl, uw_X5, by decide, tr_in 173 (by decide +kernel) rfl, rfl, tyX5_ok, nmX5, rfl, by decide +kernel⟩
theorem fl_X6_262 : tr_fl RX6 262 1 6 .int false := ⟨RX2, TX2, 9, tyX2, rfl, uw_X2, by decide, tr_in 296 (by decide +kernel) rfl, rfl, tyX2_ok, nmX2, rfl, by decide +kernel⟩
theorem fl_X6_265 : tr_fl RX6 265 1 5 .int false := ⟨RX2, TX2, 9, tyX2, rfl, uw_X2, by decide, tr_in 294 (by decide +kernel) rfl, rfl, tyX2_ok, nmX2, rfl, by decide +kernel⟩
theorem fl_X6_303 : tr_fl RX6 303 4 2 .int false := ⟨RX5, TX5, 11, tyX5, rfl, uw_X5, by decide, tr_in 175 (by decide +kernel) rfl, rfl, tyX5_ok, nmX5, rfl, by decide +kernel⟩
theorem fl_X1_9 : tr_fl RX1 9 0 1 .int false := ⟨RX1, TX1, 2, tyX1, rfl, uw_X1, by decide, tr_in 326 (by decide +kernel) rfl, rfl, tyX1_ok, nmX1, rfl, by decide +kernel⟩
theorem fl_X1_15 : tr_fl RX1 15 0 0 (.array .int) true := ⟨RX1, TX1, 2, tyX1, rfl, uw_X1, by decide, tr_in 323 (by decide +kernel) rfl, rfl, tyX1_ok, nmX1, rfl, by decide +kernel⟩
theorem fl_X2_12 : tr_fl RX2 12 1 0 (.object "TiedRow$SetSearch") true := ⟨RX2, TX2, 9, tyX2, rfl, uw_X2, by decide, tr_in 287 (by decide +kernel) rfl, rfl, tyX2_ok, nmX2, rfl, by decide +kernel⟩
theorem fl_X2_18 : tr_fl RX2 18 3 0 (.object "TiedRow$World") true := ⟨RX4, TX4, 15, tyX4, rfl, uw_X4, by decide, tr_in 239 (by decide +kernel) rfl, rfl, tyX4_ok, nmX4, rfl, by decide +kernel⟩
theorem fl_X2_22 : tr_fl RX2 22 1 1 (.object "TiedRow$World") true := ⟨RX2, TX2, 9, tyX2, rfl, uw_X2, by decide, tr_in 289 (by decide +kernel) rfl, rfl, tyX2_ok, nmX2, rfl, by decide +kernel⟩
theorem fl_X2_24 : tr_fl RX2 24 1 2 (.array .int) true := ⟨RX2, TX2, 9, tyX2, rfl, uw_X2, by decide, tr_in 290 (by decide +kernel) rfl, rfl, tyX2_ok, nmX2, rfl, by decide +kernel⟩
theorem fl_X2_28 : tr_fl RX2 28 1 3 .int false := ⟨RX2, TX2, 9, tyX2, rfl, uw_X2, by decide, tr_in 291 (by decide +kernel) rfl, rfl, tyX2_ok, nmX2, rfl, by decide +kernel⟩
theorem fl_X2_32 : tr_fl RX2 32 1 4 .int false := ⟨RX2, TX2, 9, tyX2, rfl, uw_X2, by decide, tr_in 292 (by decide +kernel) rfl, rfl, tyX2_ok, nmX2, rfl, by decide +kernel⟩
theorem fl_X2_35 : tr_fl RX2 35 1 5 .int false := ⟨RX2, TX2, 9, tyX2, rfl, uw_X2, by decide, tr_in 293 (by decide +kernel) rfl, rfl, tyX2_ok, nmX2, rfl, by decide +kernel⟩
theorem fl_X2_38 : tr_fl RX2 38 1 6 .int false := ⟨RX2, TX2, 9, tyX2, rfl, uw_X2, by decide, tr_in 295 (by decide +kernel) rfl, rfl, tyX2_ok, nmX2, rfl, by decide +kernel⟩
theorem fl_X2_41 : tr_fl RX2 41 1 7 (.array .int) true := ⟨RX2, TX2, 9, tyX2, rfl, uw_X2, by decide, tr_in 297 (by decide +kernel) rfl, rfl, tyX2_ok, nmX2, rfl, by decide +kernel⟩
theorem fl_X2_44 : tr_fl RX2 44 1 8 (.array .int) true := ⟨RX2, TX2, 9, tyX2, rfl, uw_X2, by decide, tr_in 298 (by decide +kernel) rfl, rfl, tyX2_ok, nmX2, rfl, by decide +kernel⟩
theorem fl_X2_52 : tr_fl RX2 52 4 0 .int false := ⟨RX5, TX5, 11, tyX5, rfl, uw_X5, by decide, tr_in 167 (by decide +kernel) rfl, rfl, tyX5_ok, nmX5, rfl, by decide +kernel⟩
theorem fl_X2_73 : tr_fl RX2 73 4 4 (.array .int) true := ⟨RX5, TX5, 11, tyX5, rfl, uw_X5, by decide, tr_in 179 (by decide +kernel) rfl, rfl, tyX5_ok, nmX5, rfl, by decide +kernel⟩
theorem fl_X3_12 : tr_fl RX3 12 2 0 (.object "TiedRow$World") true := ⟨RX3, TX3, 3, tyX3, rfl, uw_X3, by decide, tr_in 210 (by decide +kernel) rfl, rfl, tyX3_ok, nmX3, rfl, by decide +kernel⟩
theorem fl_X3_18 : tr_fl RX3 18 2 1 (.object "TiedRow$Line") false := ⟨RX3, TX3, 3, tyX3, rfl, uw_X3, by decide, tr_in 212 (by decide +kernel) rfl, rfl, tyX3_ok, nmX3, rfl, by decide +kernel⟩
theorem fl_X3_22 : tr_fl RX3 22 2 2 .int false := ⟨RX3, TX3, 3, tyX3, rfl, uw_X3, by decide, tr_in 213 (by decide +kernel) rfl, rfl, tyX3_ok, nmX3, rfl, by decide +kernel⟩
theorem fl_X3_37 : tr_fl RX3 37 0 1 .int false := ⟨RX1, TX1, 2, tyX1, rfl, uw_X1, by decide, tr_in 327 (by decide +kernel) rfl, rfl, tyX1_ok, nmX1, rfl, by decide +kernel⟩
theorem fl_X3_45 : tr_fl RX3 45 0 0 (.array .int) true := ⟨RX1, TX1, 2, tyX1, rfl, uw_X1, by decide, tr_in 324 (by decide +kernel) rfl, rfl, tyX1_ok, nmX1, rfl, by decide +kernel⟩
theorem fl_X3_77 : tr_fl RX3 77 4 1 .int false := ⟨RX5, TX5, 11, tyX5, rfl, uw_X5, by decide, tr_in 171 (by decide +kernel) rfl, rfl, tyX5_ok, nmX5, rfl, by decide +kernel⟩
theorem fl_X4_12 : tr_fl RX4 12 3 0 (.object "TiedRow$World") true := ⟨RX4, TX4, 15, tyX4, rfl, uw_X4, by decide, tr_in 238 (by decide +kernel) rfl, rfl, tyX4_ok, nmX4, rfl, by decide +kernel⟩
theorem fl_X4_18 : tr_fl RX4 18 3 1 (.array .int) true := ⟨RX4, TX4, 15, tyX4, rfl, uw_X4, by decide, tr_in 241 (by decide +kernel) rfl, rfl, tyX4_ok, nmX4, rfl, by decide +kernel⟩
theorem fl_X4_22 : tr_fl RX4 22 3 2 (.array .int) true := ⟨RX4, TX4, 15, tyX4, rfl, uw_X4, by decide, tr_in 242 (by decide +kernel) rfl, rfl, tyX4_ok, nmX4, rfl, by decide +kernel⟩
theorem fl_X4_25 : tr_fl RX4 25 3 3 (.array .int) true := ⟨RX4, TX4, 15, tyX4, rfl, uw_X4, by decide, tr_in 243 (by decide +kernel) rfl, rfl, tyX4_ok, nmX4, rfl, by decide +kernel⟩
theorem fl_X4_28 : tr_fl RX4 28 3 4 (.array .int) true := ⟨RX4, TX4, 15, tyX4, rfl, uw_X4, by decide, tr_in 244 (by decide +kernel) rfl, rfl, tyX4_ok, nmX4, rfl, by decide +kernel⟩
theorem fl_X4_31 : tr_fl RX4 31 3 5 (.array .int) true := ⟨RX4, TX4, 15, tyX4, rfl, uw_X4, by decide, tr_in 245 (by decide +kernel) rfl, rfl, tyX4_ok, nmX4, rfl, by decide +kernel⟩
theorem fl_X4_34 : tr_fl RX4 34 3 6 (.array .int) true := ⟨RX4, TX4, 15, tyX4, rfl, uw_X4, by decide, tr_in 246 (by decide +kernel) rfl, rfl, tyX4_ok, nmX4, rfl, by decide +kernel⟩
theorem fl_X4_37 : tr_fl RX4 37 3 7 (.array .int) true := ⟨RX4, TX4, 15, tyX4, rfl, uw_X4, by decide, tr_in 247 (by decide +kernel) rfl, rfl, tyX4_ok, nmX4, rfl, by decide +kernel⟩
theorem fl_X4_40 : tr_fl RX4 40 3 8 (.array .int) true := ⟨RX4, TX4, 15, tyX4, rfl, uw_X4, by decide, tr_in 248 (by decide +kernel) rfl, rfl, tyX4_ok, nmX4, rfl, by decide +kernel⟩
theorem fl_X4_43 : tr_fl RX4 43 3 9 (.array .int) true := ⟨RX4, TX4, 15, tyX4, rfl, uw_X4, by decide, tr_in 249 (by decide +kernel) rfl, rfl, tyX4_ok, nmX4, rfl, by decide +kernel⟩
theorem fl_X4_46 : tr_fl RX4 46 3 10 .boolean false := ⟨RX4, TX4, 15, tyX4, rfl, uw_X4, by decide, tr_in 250 (by decide +kernel) rfl, rfl, tyX4_ok, nmX4, rfl, by decide +kernel⟩
theorem fl_X4_50 : tr_fl RX4 50 3 11 .boolean false := ⟨RX4, TX4, 15, tyX4, rfl, uw_X4, by decide, tr_in 251 (by decide +kernel) rfl, rfl, tyX4_ok, nmX4, rfl, by decide +kernel⟩
theorem fl_X4_53 : tr_fl RX4 53 3 12 .boolean false := ⟨RX4, TX4, 15, tyX4, rfl, uw_X4, by decide, tr_in 252 (by decide +kernel) rfl, rfl, tyX4_ok, nmX4, rfl, by decide +kernel⟩
theorem fl_X4_56 : tr_fl RX4 56 3 13 .int false := ⟨RX4, TX4, 15, tyX4, rfl, uw_X4, by decide, tr_in 253 (by decide +kernel) rfl, rfl, tyX4_ok, nmX4, rfl, by decide +kernel⟩
theorem fl_X4_60 : tr_fl RX4 60 3 14 .int false := ⟨RX4, TX4, 15, tyX4, rfl, uw_X4, by decide, tr_in 254 (by decide +kernel) rfl, rfl, tyX4_ok, nmX4, rfl, by decide +kernel⟩
theorem fl_X4_96 : tr_fl RX4 96 4 0 .int false := ⟨RX5, TX5, 11, tyX5, rfl, uw_X5, by decide, tr_in 168 (by decide +kernel) rfl, rfl, tyX5_ok, nmX5, rfl, by decide +kernel⟩
theorem fl_X4_113 : tr_fl RX4 113 4 1 .int false := ⟨RX5, TX5, 11, tyX5, rfl, uw_X5, by decide, tr_in 172 (by decide +kernel) rfl, rfl, tyX5_ok, nmX5, rfl, by decide +kernel⟩
theorem fl_X5_9 : tr_fl RX5 9 4 0 .int false := ⟨RX5, TX5, 11, tyX5, rfl, uw_X5, by decide, tr_in 166 (by decide +kernel) rfl, rfl, tyX5_ok, nmX5, rfl, by decide +kernel⟩
theorem fl_X5_15 : tr_fl RX5 15 4 1 .int false := ⟨RX5, TX5, 11, tyX5, rfl, uw_X5, by decide, tr_in 170 (by decide +kernel) rfl, rfl, tyX5_ok, nmX5, rfl, by decide +kernel⟩
theorem fl_X5_18 : tr_fl RX5 18 4 2 .int false := ⟨RX5, TX5, 11, tyX5, rfl, uw_X5, by decide, tr_in 174 (by decide +kernel) rfl, rfl, tyX5_ok, nmX5, rfl, by decide +kernel⟩
theorem fl_X5_23 : tr_fl RX5 23 4 3 (.array (.array .int)) true := ⟨RX5, TX5, 11, tyX5, rfl, uw_X5, by decide, tr_in 176 (by decide +kernel) rfl, rfl, tyX5_ok, nmX5, rfl, by decide +kernel⟩
theorem fl_X5_26 : tr_fl RX5 26 4 4 (.array .int) true := ⟨RX5, TX5, 11, tyX5, rfl, uw_X5, by decide, tr_in 178 (by decide +kernel) rfl, rfl, tyX5_ok, nmX5, rfl, by decide +kernel⟩
theorem fl_X5_30 : tr_fl RX5 30 4 5 (.array .int) true := ⟨RX5, TX5, 11, tyX5, rfl, uw_X5, by decide, tr_in 180 (by decide +kernel) rfl, rfl, tyX5_ok, nmX5, rfl, by decide +kernel⟩
theorem fl_X5_33 : tr_fl RX5 33 4 6 (.array .int) true := ⟨RX5, TX5, 11, tyX5, rfl, uw_X5, by decide, tr_in 181 (by decide +kernel) rfl, rfl, tyX5_ok, nmX5, rfl, by decide +kernel⟩
theorem fl_X5_36 : tr_fl RX5 36 4 7 (.array .int) true := ⟨RX5, TX5, 11, tyX5, rfl, uw_X5, by decide, tr_in 182 (by decide +kernel) rfl, rfl, tyX5_ok, nmX5, rfl, by decide +kernel⟩
theorem fl_X5_39 : tr_fl RX5 39 4 8 (.array .int) true := ⟨RX5, TX5, 11, tyX5, rfl, uw_X5, by decide, tr_in 183 (by decide +kernel) rfl, rfl, tyX5_ok, nmX5, rfl, by decide +kernel⟩
theorem fl_X5_42 : tr_fl RX5 42 4 9 (.array .int) true := ⟨RX5, TX5, 11, tyX5, rfl, uw_X5, by decide, tr_in 184 (by decide +kernel) rfl, rfl, tyX5_ok, nmX5, rfl, by decide +kernel⟩
theorem fl_X5_45 : tr_fl RX5 45 4 10 (.array .int) true := ⟨RX5, TX5, 11, tyX5, rfl, uw_X5, by decide, tr_in 185 (by decide +kernel) rfl, rfl, tyX5_ok, nmX5, rfl, by decide +kernel⟩
theorem fl_X7_7 : tr_fl RX7 7 6 1 (.array .int) true := ⟨RX7, TX7, 38, tyX7, rfl, uw_X7, by decide, tr_in 1147 (by decide +kernel) rfl, rfl, tyX7_ok, nmX7, rfl, by decide +kernel⟩
theorem fl_X7_13 : tr_fl RX7 13 6 5 (.array .int) true := ⟨RX7, TX7, 38, tyX7, rfl, uw_X7, by decide, tr_in 1151 (by decide +kernel) rfl, rfl, tyX7_ok, nmX7, rfl, by decide +kernel⟩
theorem fl_X7_16 : tr_fl RX7 16 6 6 (.array .int) true := ⟨RX7, TX7, 38, tyX7, rfl, uw_X7, by decide, tr_in 1152 (by decide +kernel) rfl, rfl, tyX7_ok, nmX7, rfl, by decide +kernel⟩
theorem fl_X7_19 : tr_fl RX7 19 6 7 (.array .int) true := ⟨RX7, TX7, 38, tyX7, rfl, uw_X7, by decide, tr_in 1153 (by decide +kernel) rfl, rfl, tyX7_ok, nmX7, rfl, by decide +kernel⟩
theorem fl_X7_22 : tr_fl RX7 22 6 8 (.array .int) true := ⟨RX7, TX7, 38, tyX7, rfl, uw_X7, by decide, tr_in 1154 (by decide +kernel) rfl, rfl, tyX7_ok, nmX7, rfl, by decide +kernel⟩
theorem fl_X7_25 : tr_fl RX7 25 6 9 (.array .byte) true := ⟨RX7, TX7, 38, tyX7, rfl, uw_X7, by decide, tr_in 1155 (by decide +kernel) rfl, rfl, tyX7_ok, nmX7, rfl, by decide +kernel⟩
theorem fl_X7_29 : tr_fl RX7 29 6 11 (.array .int) true := ⟨RX7, TX7, 38, tyX7, rfl, uw_X7, by decide, tr_in 1157 (by decide +kernel) rfl, rfl, tyX7_ok, nmX7, rfl, by decide +kernel⟩
theorem fl_X7_32 : tr_fl RX7 32 6 13 (.array .int) true := ⟨RX7, TX7, 38, tyX7, rfl, uw_X7, by decide, tr_in 1159 (by decide +kernel) rfl, rfl, tyX7_ok, nmX7, rfl, by decide +kernel⟩
theorem fl_X7_35 : tr_fl RX7 35 6 18 (.array .int) true := ⟨RX7, TX7, 38, tyX7, rfl, uw_X7, by decide, tr_in 1164 (by decide +kernel) rfl, rfl, tyX7_ok, nmX7, rfl, by decide +kernel⟩
theorem fl_X7_38 : tr_fl RX7 38 6 19 (.array .int) true := ⟨RX7, TX7, 38, tyX7, rfl, uw_X7, by decide, tr_in 1165 (by decide +kernel) rfl, rfl, tyX7_ok, nmX7, rfl, by decide +kernel⟩
theorem fl_X7_41 : tr_fl RX7 41 6 20 (.array .int) true := ⟨RX7, TX7, 38, tyX7, rfl, uw_X7, by decide, tr_in 1166 (by decide +kernel) rfl, rfl, tyX7_ok, nmX7, rfl, by decide +kernel⟩
theorem fl_X7_44 : tr_fl RX7 44 6 21 (.array .int) true := ⟨RX7, TX7, 38, tyX7, rfl, uw_X7, by decide, tr_in 1167 (by decide +kernel) rfl, rfl, tyX7_ok, nmX7, rfl, by decide +kernel⟩
theorem fl_X7_47 : tr_fl RX7 47 6 22 (.array .int) true := ⟨RX7, TX7, 38, tyX7, rfl, uw_X7, by decide, tr_in 1168 (by decide +kernel) rfl, rfl, tyX7_ok, nmX7, rfl, by decide +kernel⟩
theorem fl_X7_50 : tr_fl RX7 50 6 23 (.array .int) true := ⟨RX7, TX7, 38, tyX7, rfl, uw_X7, by decide, tr_in 1169 (by decide +kernel) rfl, rfl, tyX7_ok, nmX7, rfl, by decide +kernel⟩
theorem fl_X7_53 : tr_fl RX7 53 6 24 (.array .int) true := ⟨RX7, TX7, 38, tyX7, rfl, uw_X7, by decide, tr_in 1170 (by decide +kernel) rfl, rfl, tyX7_ok, nmX7, rfl, by decide +kernel⟩
theorem fl_X7_56 : tr_fl RX7 56 6 25 (.array .int) true := ⟨RX7, TX7, 38, tyX7, rfl, uw_X7, by decide, tr_in 1171 (by decide +kernel) rfl, rfl, tyX7_ok, nmX7, rfl, by decide +kernel⟩
theorem fl_X7_59 : tr_fl RX7 59 6 26 (.array .int) true := ⟨RX7, TX7, 38, tyX7, rfl, uw_X7, by decide, tr_in 1172 (by decide +kernel) rfl, rfl, tyX7_ok, nmX7, rfl, by decide +kernel⟩
theorem fl_X7_62 : tr_fl RX7 62 6 31 (.array .int) true := ⟨RX7, TX7, 38, tyX7, rfl, uw_X7, by decide, tr_in 1177 (by decide +kernel) rfl, rfl, tyX7_ok, nmX7, rfl, by decide +kernel⟩
theorem fl_X7_65 : tr_fl RX7 65 6 32 (.array .int) true := ⟨RX7, TX7, 38, tyX7, rfl, uw_X7, by decide, tr_in 1178 (by decide +kernel) rfl, rfl, tyX7_ok, nmX7, rfl, by decide +kernel⟩
theorem fl_X7_68 : tr_fl RX7 68 6 33 (.array .int) true := ⟨RX7, TX7, 38, tyX7, rfl, uw_X7, by decide, tr_in 1179 (by decide +kernel) rfl, rfl, tyX7_ok, nmX7, rfl, by decide +kernel⟩
theorem fl_X7_71 : tr_fl RX7 71 6 34 (.array .int) true := ⟨RX7, TX7, 38, tyX7, rfl, uw_X7, by decide, tr_in 1180 (by decide +kernel) rfl, rfl, tyX7_ok, nmX7, rfl, by decide +kernel⟩
theorem fl_X7_74 : tr_fl RX7 74 6 35 (.array .int) true := ⟨RX7, TX7, 38, tyX7, rfl, uw_X7, by decide, tr_in 1181 (by decide +kernel) rfl, rfl, tyX7_ok, nmX7, rfl, by decide +kernel⟩
theorem fl_X7_77 : tr_fl RX7 77 6 36 (.array .boolean) true := ⟨RX7, TX7, 38, tyX7, rfl, uw_X7, by decide, tr_in 1182 (by decide +kernel) rfl, rfl, tyX7_ok, nmX7, rfl, by decide +kernel⟩
theorem fl_X7_81 : tr_fl RX7 81 6 4 .long false := ⟨RX7, TX7, 38, tyX7, rfl, uw_X7, by decide, tr_in 1150 (by decide +kernel) rfl, rfl, tyX7_ok, nmX7, rfl, by decide +kernel⟩
theorem fl_X7_85 : tr_fl RX7 85 6 27 .int false := ⟨RX7, TX7, 38, tyX7, rfl, uw_X7, by decide, tr_in 1173 (by decide +kernel) rfl, rfl, tyX7_ok, nmX7, rfl, by decide +kernel⟩
theorem fl_X7_89 : tr_fl RX7 89 6 0 .int false := ⟨RX7, TX7, 38, tyX7, rfl, uw_X7, by decide, tr_in 1146 (by decide +kernel) rfl, rfl, tyX7_ok, nmX7, rfl, by decide +kernel⟩
theorem fl_X7_96 : tr_fl RX7 96 6 2 .int false := ⟨RX7, TX7, 38, tyX7, rfl, uw_X7, by decide, tr_in 1148 (by decide +kernel) rfl, rfl, tyX7_ok, nmX7, rfl, by decide +kernel⟩
theorem fl_X7_99 : tr_fl RX7 99 6 3 .long false := ⟨RX7, TX7, 38, tyX7, rfl, uw_X7, by decide, tr_in 1149 (by decide +kernel) rfl, rfl, tyX7_ok, nmX7, rfl, by decide +kernel⟩
theorem fl_X7_120 : tr_fl RX7 120 6 14 .int false := ⟨RX7, TX7, 38, tyX7, rfl, uw_X7, by decide, tr_in 1160 (by decide +kernel) rfl, rfl, tyX7_ok, nmX7, rfl, by decide +kernel⟩
theorem fl_X7_126 : tr_fl RX7 126 6 15 .int false := ⟨RX7, TX7, 38, tyX7, rfl, uw_X7, by decide, tr_in 1161 (by decide +kernel) rfl, rfl, tyX7_ok, nmX7, rfl, by decide +kernel⟩
theorem fl_X7_129 : tr_fl RX7 129 6 16 .int false := ⟨RX7, TX7, 38, tyX7, rfl, uw_X7, by decide, tr_in 1162 (by decide +kernel) rfl, rfl, tyX7_ok, nmX7, rfl, by decide +kernel⟩
theorem fl_X7_145 : tr_fl RX7 145 6 17 .int false := ⟨RX7, TX7, 38, tyX7, rfl, uw_X7, by decide, tr_in 1163 (by decide +kernel) rfl, rfl, tyX7_ok, nmX7, rfl, by decide +kernel⟩
theorem fl_X7_157 : tr_fl RX7 157 6 10 .int false := ⟨RX7, TX7, 38, tyX7, rfl, uw_X7, by decide, tr_in 1156 (by decide +kernel) rfl, rfl, tyX7_ok, nmX7, rfl, by decide +kernel⟩
theorem fl_X7_160 : tr_fl RX7 160 6 12 .int false := ⟨RX7, TX7, 38, tyX7, rfl, uw_X7, by decide, tr_in 1158 (by decide +kernel) rfl, rfl, tyX7_ok, nmX7, rfl, by decide +kernel⟩
theorem fl_X7_229 : tr_fl RX7 229 6 28 .int false := ⟨RX7, TX7, 38, tyX7, rfl, uw_X7, by decide, tr_in 1174 (by decide +kernel) rfl, rfl, tyX7_ok, nmX7, rfl, by decide +kernel⟩
theorem fl_X7_251 : tr_fl RX7 251 6 29 .int false := ⟨RX7, TX7, 38, tyX7, rfl, uw_X7, by decide, tr_in 1175 (by decide +kernel) rfl, rfl, tyX7_ok, nmX7, rfl, by decide +kernel⟩
theorem fl_X7_260 : tr_fl RX7 260 6 30 .int false := ⟨RX7, TX7, 38, tyX7, rfl, uw_X7, by decide, tr_in 1176 (by decide +kernel) rfl, rfl, tyX7_ok, nmX7, rfl, by decide +kernel⟩
theorem fl_X7_399 : tr_fl RX7 399 6 37 .long false := ⟨RX7, TX7, 38, tyX7, rfl, uw_X7, by decide, tr_in 1183 (by decide +kernel) rfl, rfl, tyX7_ok, nmX7, rfl, by decide +kernel⟩
theorem ml_X6_84 : Cond.methodLink RX6 84 yX6_isRow ∈ tr_tbl := tr_in 390 (by decide +kernel) rfl
theorem ml_X6_88 : Cond.methodLink RX6 88 yX6_found ∈ tr_tbl := tr_in 393 (by decide +kernel) rfl
theorem ml_X6_92 : Cond.methodLink RX6 92 yX1_make ∈ tr_tbl := tr_in 397 (by decide +kernel) rfl
theorem ml_X6_96 : Cond.methodLink RX6 96 yX1_faultAt ∈ tr_tbl := tr_in 411 (by decide +kernel) rfl
theorem ml_X6_102 : Cond.methodLink RX6 102 yX1_isMissing ∈ tr_tbl := tr_in 427 (by decide +kernel) rfl
theorem ml_X6_109 : Cond.methodLink RX6 109 yX1_holdsRun ∈ tr_tbl := tr_in 432 (by decide +kernel) rfl
theorem ml_X6_113 : Cond.methodLink RX6 113 arraycopyName ∈ tr_tbl := tr_in 436 (by decide +kernel) rfl
theorem ml_X6_119 : Cond.methodLink RX6 119 yX6_isText ∈ tr_tbl := tr_in 447 (by decide +kernel) rfl
theorem ml_X6_122 : Cond.methodLink RX6 122 yX3_read ∈ tr_tbl := tr_in 458 (by decide +kernel) rfl
theorem ml_X6_127 : Cond.methodLink RX6 127 yX5_take ∈ tr_tbl := tr_in 532 (by decide +kernel) rfl
theorem ml_X6_133 : Cond.methodLink RX6 133 yX6_forget ∈ tr_tbl := tr_in 539 (by decide +kernel) rfl
theorem ml_X6_139 : Cond.methodLink RX6 139 yX5_areUnlike ∈ tr_tbl := tr_in 547 (by decide +kernel) rfl
theorem ml_X6_146 : Cond.methodLink RX6 146 yX5_setTie ∈ tr_tbl := tr_in 552 (by decide +kernel) rfl
theorem ml_X6_150 : Cond.methodLink RX6 150 yX5_canRule ∈ tr_tbl := tr_in 557 (by decide +kernel) rfl
theorem ml_X6_157 : Cond.methodLink RX6 157 yX5_addRule ∈ tr_tbl := tr_in 562 (by decide +kernel) rfl
theorem ml_X6_161 : Cond.methodLink RX6 161 yX5_isRule ∈ tr_tbl := tr_in 567 (by decide +kernel) rfl
theorem ml_X6_164 : Cond.methodLink RX6 164 yX5_isOff ∈ tr_tbl := tr_in 571 (by decide +kernel) rfl
theorem ml_X6_167 : Cond.methodLink RX6 167 yX5_setOff ∈ tr_tbl := tr_in 575 (by decide +kernel) rfl
theorem ml_X6_171 : Cond.methodLink RX6 171 yX5_dropRules ∈ tr_tbl := tr_in 583 (by decide +kernel) rfl
theorem ml_X6_174 : Cond.methodLink RX6 174 yX5_ruleNumber ∈ tr_tbl := tr_in 591 (by decide +kernel) rfl
theorem ml_X6_178 : Cond.methodLink RX6 178 yX5_isOfKind ∈ tr_tbl := tr_in 600 (by decide +kernel) rfl
theorem ml_X6_181 : Cond.methodLink RX6 181 yX5_markOf ∈ tr_tbl := tr_in 604 (by decide +kernel) rfl
theorem ml_X6_184 : Cond.methodLink RX6 184 yX6_isMeasure ∈ tr_tbl := tr_in 615 (by decide +kernel) rfl
theorem ml_X6_187 : Cond.methodLink RX6 187 yX6_orderFault ∈ tr_tbl := tr_in 618 (by decide +kernel) rfl
theorem ml_X6_190 : Cond.methodLink RX6 190 yX5_measured ∈ tr_tbl := tr_in 630 (by decide +kernel) rfl
theorem ml_X6_194 : Cond.methodLink RX6 194 yX5_firstBroken ∈ tr_tbl := tr_in 653 (by decide +kernel) rfl
theorem ml_X6_198 : Cond.methodLink RX6 198 yX5_weightAdded ∈ tr_tbl := tr_in 672 (by decide +kernel) rfl
theorem ml_X6_201 : Cond.methodLink RX6 201 yX5_heldBy ∈ tr_tbl := tr_in 673 (by decide +kernel) rfl
theorem ml_X6_204 : Cond.methodLink RX6 204 yX6_leastsOf ∈ tr_tbl := tr_in 678 (by decide +kernel) rfl
theorem ml_X6_208 : Cond.methodLink RX6 208 yX6_noLeast ∈ tr_tbl := tr_in 784 (by decide +kernel) rfl
theorem ml_X6_211 : Cond.methodLink RX6 211 (⟨RX0, "value", "()I"⟩ : MethodName) ∈ tr_tbl := tr_in 788 (by decide +kernel) rfl
theorem ml_X6_217 : Cond.methodLink RX6 217 (⟨RX0, "pick", "(I[I)V"⟩ : MethodName) ∈ tr_tbl := tr_in 801 (by decide +kernel) rfl
theorem ml_X6_221 : Cond.methodLink RX6 221 yX6_layOrder ∈ tr_tbl := tr_in 817 (by decide +kernel) rfl
theorem ml_X6_224 : Cond.methodLink RX6 224 yX6_isSpent ∈ tr_tbl := tr_in 682 (by decide +kernel) rfl
theorem ml_X6_227 : Cond.methodLink RX6 227 (⟨RX0, "number", "()I"⟩ : MethodName) ∈ tr_tbl := tr_in 825 (by decide +kernel) rfl
theorem ml_X6_230 : Cond.methodLink RX6 230 (⟨RX0, "indexOf", "([I)I"⟩ : MethodName) ∈ tr_tbl := tr_in 838 (by decide +kernel) rfl
theorem ml_X6_233 : Cond.methodLink RX6 233 yX5_boundOf ∈ tr_tbl := tr_in 859 (by decide +kernel) rfl
theorem ml_X6_236 : Cond.methodLink RX6 236 yX6_valueOr ∈ tr_tbl := tr_in 894 (by decide +kernel) rfl
theorem ml_X6_240 : Cond.methodLink RX6 240 yX5_isThing ∈ tr_tbl := tr_in 905 (by decide +kernel) rfl
theorem ml_X6_243 : Cond.methodLink RX6 243 yX4_pin ∈ tr_tbl := tr_in 906 (by decide +kernel) rfl
theorem ml_X6_246 : Cond.methodLink RX6 246 yX4_unpin ∈ tr_tbl := tr_in 910 (by decide +kernel) rfl
theorem ml_X6_249 : Cond.methodLink RX6 249 (⟨RX0, "spreadOf", "(I[I)V"⟩ : MethodName) ∈ tr_tbl := tr_in 918 (by decide +kernel) rfl
theorem ml_X6_252 : Cond.methodLink RX6 252 yX6_tellFraction ∈ tr_tbl := tr_in 947 (by decide +kernel) rfl
theorem ml_X6_256 : Cond.methodLink RX6 256 (⟨RX0, "numberAhead", "(II)I"⟩ : MethodName) ∈ tr_tbl := tr_in 955 (by decide +kernel) rfl
theorem ml_X6_259 : Cond.methodLink RX6 259 yX2_compare ∈ tr_tbl := tr_in 968 (by decide +kernel) rfl
theorem ml_X6_268 : Cond.methodLink RX6 268 yX6_walked ∈ tr_tbl := tr_in 745 (by decide +kernel) rfl
theorem ml_X6_272 : Cond.methodLink RX6 272 yX6_solvedWithin ∈ tr_tbl := tr_in 973 (by decide +kernel) rfl
theorem ml_X6_275 : Cond.methodLink RX6 275 yX4_leastBroken ∈ tr_tbl := tr_in 985 (by decide +kernel) rfl
theorem ml_X6_278 : Cond.methodLink RX6 278 yX6_improved ∈ tr_tbl := tr_in 1012 (by decide +kernel) rfl
theorem ml_X6_282 : Cond.methodLink RX6 282 yX6_bothOrdersFault ∈ tr_tbl := tr_in 1041 (by decide +kernel) rfl
theorem ml_X6_285 : Cond.methodLink RX6 285 yX5_seatsOf ∈ tr_tbl := tr_in 1045 (by decide +kernel) rfl
theorem ml_X6_289 : Cond.methodLink RX6 289 yX6_isSeed ∈ tr_tbl := tr_in 1050 (by decide +kernel) rfl
theorem ml_X6_292 : Cond.methodLink RX6 292 yX6_drawOrder ∈ tr_tbl := tr_in 1054 (by decide +kernel) rfl
theorem ml_X6_295 : Cond.methodLink RX6 295 yX5_allWeight ∈ tr_tbl := tr_in 1072 (by decide +kernel) rfl
theorem ml_X6_300 : Cond.methodLink RX6 300 yX6_imageSize ∈ tr_tbl := tr_in 1081 (by decide +kernel) rfl
theorem ml_X6_306 : Cond.methodLink RX6 306 yX6_imageFault ∈ tr_tbl := tr_in 1089 (by decide +kernel) rfl
theorem ml_X6_309 : Cond.methodLink RX6 309 yX5_tieCount ∈ tr_tbl := tr_in 1109 (by decide +kernel) rfl
theorem ml_X6_312 : Cond.methodLink RX6 312 yX5_aheadCount ∈ tr_tbl := tr_in 1113 (by decide +kernel) rfl
theorem ml_X6_315 : Cond.methodLink RX6 315 yJ6_bitCount_0f7a4 ∈ tr_tbl := tr_in 1118 (by decide +kernel) rfl
theorem ml_X6_320 : Cond.methodLink RX6 320 yX6_thereOf ∈ tr_tbl := tr_in 1119 (by decide +kernel) rfl
theorem ml_X6_328 : Cond.methodLink RX6 328 yX6_count ∈ tr_tbl := tr_in 1136 (by decide +kernel) rfl
theorem ml_X6_331 : Cond.methodLink RX6 331 yX6_digestOf ∈ tr_tbl := tr_in 1137 (by decide +kernel) rfl
theorem ml_X6_337 : Cond.methodLink RX6 337 yX5_isOrder ∈ tr_tbl := tr_in 622 (by decide +kernel) rfl
theorem ml_X6_341 : Cond.methodLink RX6 341 yX5_everything ∈ tr_tbl := tr_in 1058 (by decide +kernel) rfl
theorem ml_X6_346 : Cond.methodLink RX6 346 yX5_memberOf ∈ tr_tbl := tr_in 1060 (by decide +kernel) rfl
theorem ml_X6_349 : Cond.methodLink RX6 349 yX4_solve ∈ tr_tbl := tr_in 686 (by decide +kernel) rfl
theorem ml_X6_352 : Cond.methodLink RX6 352 yX4_fillLeast ∈ tr_tbl := tr_in 749 (by decide +kernel) rfl
theorem ml_X6_355 : Cond.methodLink RX6 355 yX2_go ∈ tr_tbl := tr_in 761 (by decide +kernel) rfl
theorem ml_X6_358 : Cond.methodLink RX6 358 yX4_solveWithin ∈ tr_tbl := tr_in 977 (by decide +kernel) rfl
theorem ml_X6_362 : Cond.methodLink RX6 362 yX6_bestMove ∈ tr_tbl := tr_in 1017 (by decide +kernel) rfl
theorem ml_X6_365 : Cond.methodLink RX6 365 yX6_bestSwap ∈ tr_tbl := tr_in 1029 (by decide +kernel) rfl
theorem ml_X6_368 : Cond.methodLink RX6 368 yX6_keepIfBetter ∈ tr_tbl := tr_in 1025 (by decide +kernel) rfl
theorem ml_X6_371 : Cond.methodLink RX6 371 yX6_moveInto ∈ tr_tbl := tr_in 1021 (by decide +kernel) rfl
theorem ml_X1_19 : Cond.methodLink RX1 19 yJ7_fill_fda19 ∈ tr_tbl := tr_in 401 (by decide +kernel) rfl
theorem ml_X1_25 : Cond.methodLink RX1 25 yX1_isMissing ∈ tr_tbl := tr_in 415 (by decide +kernel) rfl
theorem ml_X2_48 : Cond.methodLink RX2 48 yX2_step ∈ tr_tbl := tr_in 766 (by decide +kernel) rfl
theorem ml_X2_57 : Cond.methodLink RX2 57 yX2_keep ∈ tr_tbl := tr_in 770 (by decide +kernel) rfl
theorem ml_X2_61 : Cond.methodLink RX2 61 yX4_nextInLeast ∈ tr_tbl := tr_in 774 (by decide +kernel) rfl
theorem ml_X2_65 : Cond.methodLink RX2 65 yX2_reachAtLeast ∈ tr_tbl := tr_in 778 (by decide +kernel) rfl
theorem ml_X2_68 : Cond.methodLink RX2 68 Lib.Math.max.name ∈ tr_tbl := tr_in 783 (by decide +kernel) rfl
theorem ml_X2_76 : Cond.methodLink RX2 76 yJ6_bitCount_0f7a4 ∈ tr_tbl := tr_in 782 (by decide +kernel) rfl
theorem ml_X2_82 : Cond.methodLink RX2 82 yX2_unpack ∈ tr_tbl := tr_in 807 (by decide +kernel) rfl
theorem ml_X2_86 : Cond.methodLink RX2 86 arraycopyName ∈ tr_tbl := tr_in 811 (by decide +kernel) rfl
theorem ml_X2_92 : Cond.methodLink RX2 92 yJ7_fill_53178 ∈ tr_tbl := tr_in 924 (by decide +kernel) rfl
theorem ml_X2_98 : Cond.methodLink RX2 98 yX5_seatsOf ∈ tr_tbl := tr_in 925 (by decide +kernel) rfl
theorem ml_X2_102 : Cond.methodLink RX2 102 yX5_measured ∈ tr_tbl := tr_in 972 (by decide +kernel) rfl
theorem ml_X3_26 : Cond.methodLink RX3 26 yX5_clear ∈ tr_tbl := tr_in 462 (by decide +kernel) rfl
theorem ml_X3_30 : Cond.methodLink RX3 30 yX3_skipBlanks ∈ tr_tbl := tr_in 469 (by decide +kernel) rfl
theorem ml_X3_33 : Cond.methodLink RX3 33 yX3_readHead ∈ tr_tbl := tr_in 477 (by decide +kernel) rfl
theorem ml_X3_42 : Cond.methodLink RX3 42 yX3_readItem ∈ tr_tbl := tr_in 489 (by decide +kernel) rfl
theorem ml_X3_49 : Cond.methodLink RX3 49 yX3_sign ∈ tr_tbl := tr_in 473 (by decide +kernel) rfl
theorem ml_X3_53 : Cond.methodLink RX3 53 yX5_isThing ∈ tr_tbl := tr_in 497 (by decide +kernel) rfl
theorem ml_X3_57 : Cond.methodLink RX3 57 yX3_isFigure ∈ tr_tbl := tr_in 481 (by decide +kernel) rfl
theorem ml_X3_60 : Cond.methodLink RX3 60 yX3_takeFigure ∈ tr_tbl := tr_in 485 (by decide +kernel) rfl
theorem ml_X3_63 : Cond.methodLink RX3 63 yX3_isThingBut ∈ tr_tbl := tr_in 493 (by decide +kernel) rfl
theorem ml_X3_67 : Cond.methodLink RX3 67 yX3_takeThing ∈ tr_tbl := tr_in 501 (by decide +kernel) rfl
theorem ml_X3_70 : Cond.methodLink RX3 70 yX3_readTie ∈ tr_tbl := tr_in 505 (by decide +kernel) rfl
theorem ml_X3_73 : Cond.methodLink RX3 73 yX3_kindOf ∈ tr_tbl := tr_in 517 (by decide +kernel) rfl
theorem ml_X3_80 : Cond.methodLink RX3 80 yX3_readRule ∈ tr_tbl := tr_in 520 (by decide +kernel) rfl
theorem ml_X3_83 : Cond.methodLink RX3 83 yX5_setTie ∈ tr_tbl := tr_in 509 (by decide +kernel) rfl
theorem ml_X3_87 : Cond.methodLink RX3 87 yX5_addRule ∈ tr_tbl := tr_in 524 (by decide +kernel) rfl
theorem ml_X4_63 : Cond.methodLink RX4 63 yX4_fillFitting ∈ tr_tbl := tr_in 690 (by decide +kernel) rfl
theorem ml_X4_66 : Cond.methodLink RX4 66 yX4_fillBest ∈ tr_tbl := tr_in 714 (by decide +kernel) rfl
theorem ml_X4_71 : Cond.methodLink RX4 71 yX4_fillLeast ∈ tr_tbl := tr_in 815 (by decide +kernel) rfl
theorem ml_X4_74 : Cond.methodLink RX4 74 yX4_fillGapCosts ∈ tr_tbl := tr_in 718 (by decide +kernel) rfl
theorem ml_X4_77 : Cond.methodLink RX4 77 yX5_everything ∈ tr_tbl := tr_in 694 (by decide +kernel) rfl
theorem ml_X4_81 : Cond.methodLink RX4 81 yX4_lastsOf ∈ tr_tbl := tr_in 724 (by decide +kernel) rfl
theorem ml_X4_85 : Cond.methodLink RX4 85 yX4_isState ∈ tr_tbl := tr_in 728 (by decide +kernel) rfl
theorem ml_X4_89 : Cond.methodLink RX4 89 yX4_stateOf ∈ tr_tbl := tr_in 731 (by decide +kernel) rfl
theorem ml_X4_93 : Cond.methodLink RX4 93 yX4_bestOf ∈ tr_tbl := tr_in 734 (by decide +kernel) rfl
theorem ml_X4_99 : Cond.methodLink RX4 99 yJ6_bitCount_0f7a4 ∈ tr_tbl := tr_in 699 (by decide +kernel) rfl
theorem ml_X4_104 : Cond.methodLink RX4 104 yX5_heldBy ∈ tr_tbl := tr_in 722 (by decide +kernel) rfl
theorem ml_X4_107 : Cond.methodLink RX4 107 yX5_weightAdded ∈ tr_tbl := tr_in 723 (by decide +kernel) rfl
theorem ml_X4_110 : Cond.methodLink RX4 110 yX4_pinnedOut ∈ tr_tbl := tr_in 695 (by decide +kernel) rfl
theorem ml_X4_116 : Cond.methodLink RX4 116 yX5_barredBehind ∈ tr_tbl := tr_in 705 (by decide +kernel) rfl
theorem ml_X4_119 : Cond.methodLink RX4 119 yX5_barredNextTo ∈ tr_tbl := tr_in 710 (by decide +kernel) rfl
theorem ml_X4_122 : Cond.methodLink RX4 122 yX4_nextOf ∈ tr_tbl := tr_in 738 (by decide +kernel) rfl
theorem ml_X4_125 : Cond.methodLink RX4 125 Lib.Math.min.name ∈ tr_tbl := tr_in 743 (by decide +kernel) rfl
theorem ml_X4_130 : Cond.methodLink RX4 130 Lib.Math.max.name ∈ tr_tbl := tr_in 744 (by decide +kernel) rfl
theorem ml_X4_133 : Cond.methodLink RX4 133 yX4_fillLeastFrom ∈ tr_tbl := tr_in 753 (by decide +kernel) rfl
theorem ml_X4_137 : Cond.methodLink RX4 137 yX4_goesOnLeast ∈ tr_tbl := tr_in 757 (by decide +kernel) rfl
theorem ml_X4_141 : Cond.methodLink RX4 141 yX4_nextInLeast ∈ tr_tbl := tr_in 816 (by decide +kernel) rfl
theorem ml_X4_144 : Cond.methodLink RX4 144 yJ7_fill_53178 ∈ tr_tbl := tr_in 929 (by decide +kernel) rfl
theorem ml_X4_150 : Cond.methodLink RX4 150 yX4_fillComing ∈ tr_tbl := tr_in 930 (by decide +kernel) rfl
theorem ml_X4_153 : Cond.methodLink RX4 153 yX4_numberTaking ∈ tr_tbl := tr_in 939 (by decide +kernel) rfl
theorem ml_X4_156 : Cond.methodLink RX4 156 yJ7_fill_fda19 ∈ tr_tbl := tr_in 934 (by decide +kernel) rfl
theorem ml_X4_159 : Cond.methodLink RX4 159 yX4_comeOnFrom ∈ tr_tbl := tr_in 935 (by decide +kernel) rfl
theorem ml_X4_162 : Cond.methodLink RX4 162 yX4_fillNextCosts ∈ tr_tbl := tr_in 989 (by decide +kernel) rfl
theorem ml_X4_165 : Cond.methodLink RX4 165 yX4_fillBehindCosts ∈ tr_tbl := tr_in 1000 (by decide +kernel) rfl
theorem ml_X4_168 : Cond.methodLink RX4 168 yX4_leastBrokenFrom ∈ tr_tbl := tr_in 1004 (by decide +kernel) rfl
theorem ml_X4_171 : Cond.methodLink RX4 171 yX4_costOfRule ∈ tr_tbl := tr_in 993 (by decide +kernel) rfl
theorem ml_X4_174 : Cond.methodLink RX4 174 yX4_addCosts ∈ tr_tbl := tr_in 996 (by decide +kernel) rfl
theorem ml_X5_48 : Cond.methodLink RX5 48 yJ7_fill_53178 ∈ tr_tbl := tr_in 466 (by decide +kernel) rfl
theorem ml_X5_54 : Cond.methodLink RX5 54 yX5_clear ∈ tr_tbl := tr_in 536 (by decide +kernel) rfl
theorem ml_X5_58 : Cond.methodLink RX5 58 yX5_setTie ∈ tr_tbl := tr_in 537 (by decide +kernel) rfl
theorem ml_X5_62 : Cond.methodLink RX5 62 yX5_addRule ∈ tr_tbl := tr_in 538 (by decide +kernel) rfl
theorem ml_X5_66 : Cond.methodLink RX5 66 yX5_isThing ∈ tr_tbl := tr_in 551 (by decide +kernel) rfl
theorem ml_X5_70 : Cond.methodLink RX5 70 yX5_setSide ∈ tr_tbl := tr_in 513 (by decide +kernel) rfl
theorem ml_X5_73 : Cond.methodLink RX5 73 yJ6_bitCount_0f7a4 ∈ tr_tbl := tr_in 709 (by decide +kernel) rfl
theorem ml_X5_79 : Cond.methodLink RX5 79 yX5_areUnlike ∈ tr_tbl := tr_in 561 (by decide +kernel) rfl
theorem ml_X5_83 : Cond.methodLink RX5 83 yX5_isOff ∈ tr_tbl := tr_in 595 (by decide +kernel) rfl
theorem ml_X5_86 : Cond.methodLink RX5 86 yX5_isOfKind ∈ tr_tbl := tr_in 1117 (by decide +kernel) rfl
theorem ml_X5_89 : Cond.methodLink RX5 89 Lib.Math.min.name ∈ tr_tbl := tr_in 608 (by decide +kernel) rfl
theorem ml_X5_95 : Cond.methodLink RX5 95 yX5_everything ∈ tr_tbl := tr_in 626 (by decide +kernel) rfl
theorem ml_X5_99 : Cond.methodLink RX5 99 yX5_seatsOf ∈ tr_tbl := tr_in 657 (by decide +kernel) rfl
theorem ml_X5_103 : Cond.methodLink RX5 103 yX5_isKept ∈ tr_tbl := tr_in 661 (by decide +kernel) rfl
theorem ml_X5_106 : Cond.methodLink RX5 106 Lib.Math.abs.name ∈ tr_tbl := tr_in 665 (by decide +kernel) rfl
theorem ml_X5_109 : Cond.methodLink RX5 109 yX5_longest ∈ tr_tbl := tr_in 634 (by decide +kernel) rfl
theorem ml_X5_113 : Cond.methodLink RX5 113 yX5_weightAdded ∈ tr_tbl := tr_in 641 (by decide +kernel) rfl
theorem ml_X5_116 : Cond.methodLink RX5 116 yX5_heldBy ∈ tr_tbl := tr_in 645 (by decide +kernel) rfl
theorem ml_X5_119 : Cond.methodLink RX5 119 Lib.Math.max.name ∈ tr_tbl := tr_in 638 (by decide +kernel) rfl
theorem ml_X5_122 : Cond.methodLink RX5 122 yX5_nearestProducts ∈ tr_tbl := tr_in 863 (by decide +kernel) rfl
theorem ml_X5_125 : Cond.methodLink RX5 125 yX5_halfCutUp ∈ tr_tbl := tr_in 867 (by decide +kernel) rfl
theorem ml_X5_128 : Cond.methodLink RX5 128 yX5_mostLoad ∈ tr_tbl := tr_in 870 (by decide +kernel) rfl
theorem ml_X5_131 : Cond.methodLink RX5 131 yX5_fewestTies ∈ tr_tbl := tr_in 874 (by decide +kernel) rfl
theorem ml_X5_134 : Cond.methodLink RX5 134 yX5_groups ∈ tr_tbl := tr_in 878 (by decide +kernel) rfl
theorem ml_X5_137 : Cond.methodLink RX5 137 yX5_mostTies ∈ tr_tbl := tr_in 886 (by decide +kernel) rfl
theorem ml_X5_140 : Cond.methodLink RX5 140 yX5_groupOf ∈ tr_tbl := tr_in 882 (by decide +kernel) rfl
theorem ml_X7_92 : Cond.methodLink RX7 92 yX7_in ∈ tr_tbl := tr_in 1271 (by decide +kernel) rfl
theorem ml_X7_102 : Cond.methodLink RX7 102 yX7_isRow ∈ tr_tbl := tr_in 1290 (by decide +kernel) rfl
theorem ml_X7_106 : Cond.methodLink RX7 106 yX7_meets ∈ tr_tbl := tr_in 1293 (by decide +kernel) rfl
theorem ml_X7_110 : Cond.methodLink RX7 110 yX7_rowAt ∈ tr_tbl := tr_in 1301 (by decide +kernel) rfl
theorem ml_X7_114 : Cond.methodLink RX7 114 yX7_tells ∈ tr_tbl := tr_in 1305 (by decide +kernel) rfl
theorem ml_X7_117 : Cond.methodLink RX7 117 yX7_isText ∈ tr_tbl := tr_in 1329 (by decide +kernel) rfl
theorem ml_X7_123 : Cond.methodLink RX7 123 yX7_byteAt ∈ tr_tbl := tr_in 1344 (by decide +kernel) rfl
theorem ml_X7_132 : Cond.methodLink RX7 132 yX7_thing ∈ tr_tbl := tr_in 1356 (by decide +kernel) rfl
theorem ml_X7_135 : Cond.methodLink RX7 135 yX7_figure ∈ tr_tbl := tr_in 1367 (by decide +kernel) rfl
theorem ml_X7_138 : Cond.methodLink RX7 138 yX7_kindOf ∈ tr_tbl := tr_in 1360 (by decide +kernel) rfl
theorem ml_X7_141 : Cond.methodLink RX7 141 yX7_readsTie ∈ tr_tbl := tr_in 1363 (by decide +kernel) rfl
theorem ml_X7_148 : Cond.methodLink RX7 148 yX7_readsCount ∈ tr_tbl := tr_in 1348 (by decide +kernel) rfl
theorem ml_X7_151 : Cond.methodLink RX7 151 yX7_readsItem ∈ tr_tbl := tr_in 1352 (by decide +kernel) rfl
theorem ml_X7_154 : Cond.methodLink RX7 154 yX7_faultOf ∈ tr_tbl := tr_in 1340 (by decide +kernel) rfl
theorem ml_X7_163 : Cond.methodLink RX7 163 yX7_isThing ∈ tr_tbl := tr_in 1379 (by decide +kernel) rfl
theorem ml_X7_166 : Cond.methodLink RX7 166 yX7_weight ∈ tr_tbl := tr_in 1383 (by decide +kernel) rfl
theorem ml_X7_169 : Cond.methodLink RX7 169 yX7_layTie ∈ tr_tbl := tr_in 1387 (by decide +kernel) rfl
theorem ml_X7_173 : Cond.methodLink RX7 173 yX7_isRuleTold ∈ tr_tbl := tr_in 1395 (by decide +kernel) rfl
theorem ml_X7_177 : Cond.methodLink RX7 177 yX7_isRule ∈ tr_tbl := tr_in 1403 (by decide +kernel) rfl
theorem ml_X7_180 : Cond.methodLink RX7 180 yX7_ruleAt ∈ tr_tbl := tr_in 1407 (by decide +kernel) rfl
theorem ml_X7_183 : Cond.methodLink RX7 183 yX7_lesser ∈ tr_tbl := tr_in 1423 (by decide +kernel) rfl
theorem ml_X7_186 : Cond.methodLink RX7 186 yX7_has ∈ tr_tbl := tr_in 1437 (by decide +kernel) rfl
theorem ml_X7_189 : Cond.methodLink RX7 189 yX7_layPlaces ∈ tr_tbl := tr_in 1440 (by decide +kernel) rfl
theorem ml_X7_192 : Cond.methodLink RX7 192 yX7_greater ∈ tr_tbl := tr_in 1452 (by decide +kernel) rfl
theorem ml_X7_195 : Cond.methodLink RX7 195 yX7_cutOf ∈ tr_tbl := tr_in 1459 (by decide +kernel) rfl
theorem ml_X7_198 : Cond.methodLink RX7 198 yX7_heldOf ∈ tr_tbl := tr_in 1463 (by decide +kernel) rfl
theorem ml_X7_201 : Cond.methodLink RX7 201 yX7_reachNow ∈ tr_tbl := tr_in 1448 (by decide +kernel) rfl
theorem ml_X7_205 : Cond.methodLink RX7 205 yX7_edgeOf ∈ tr_tbl := tr_in 1455 (by decide +kernel) rfl
theorem ml_X7_208 : Cond.methodLink RX7 208 yX7_isSum ∈ tr_tbl := tr_in 1467 (by decide +kernel) rfl
theorem ml_X7_211 : Cond.methodLink RX7 211 yX7_isMeasure ∈ tr_tbl := tr_in 1430 (by decide +kernel) rfl
theorem ml_X7_214 : Cond.methodLink RX7 214 yX7_needOrder ∈ tr_tbl := tr_in 1433 (by decide +kernel) rfl
theorem ml_X7_217 : Cond.methodLink RX7 217 yX7_measureNow ∈ tr_tbl := tr_in 1444 (by decide +kernel) rfl
theorem ml_X7_220 : Cond.methodLink RX7 220 yX7_isKept ∈ tr_tbl := tr_in 1478 (by decide +kernel) rfl
theorem ml_X7_223 : Cond.methodLink RX7 223 yX7_brokenNow ∈ tr_tbl := tr_in 1474 (by decide +kernel) rfl
theorem ml_X7_226 : Cond.methodLink RX7 226 yX7_bits ∈ tr_tbl := tr_in 1546 (by decide +kernel) rfl
theorem ml_X7_232 : Cond.methodLink RX7 232 yX7_keepsBy ∈ tr_tbl := tr_in 1549 (by decide +kernel) rfl
theorem ml_X7_236 : Cond.methodLink RX7 236 yX7_full ∈ tr_tbl := tr_in 1531 (by decide +kernel) rfl
theorem ml_X7_239 : Cond.methodLink RX7 239 yX7_layEdges ∈ tr_tbl := tr_in 1527 (by decide +kernel) rfl
theorem ml_X7_243 : Cond.methodLink RX7 243 yX7_spot ∈ tr_tbl := tr_in 1535 (by decide +kernel) rfl
theorem ml_X7_247 : Cond.methodLink RX7 247 yX7_bestFrom ∈ tr_tbl := tr_in 1538 (by decide +kernel) rfl
theorem ml_X7_254 : Cond.methodLink RX7 254 yX7_mayCome ∈ tr_tbl := tr_in 1542 (by decide +kernel) rfl
theorem ml_X7_257 : Cond.methodLink RX7 257 yX7_isGood ∈ tr_tbl := tr_in 1565 (by decide +kernel) rfl
theorem ml_X7_263 : Cond.methodLink RX7 263 yX7_swap ∈ tr_tbl := tr_in 1519 (by decide +kernel) rfl
theorem ml_X7_267 : Cond.methodLink RX7 267 yX7_firstLine ∈ tr_tbl := tr_in 1507 (by decide +kernel) rfl
theorem ml_X7_270 : Cond.methodLink RX7 270 yX7_isAllowedNow ∈ tr_tbl := tr_in 1511 (by decide +kernel) rfl
theorem ml_X7_274 : Cond.methodLink RX7 274 yX7_nextLine ∈ tr_tbl := tr_in 1515 (by decide +kernel) rfl
theorem ml_X7_277 : Cond.methodLink RX7 277 yX7_isLeastReach ∈ tr_tbl := tr_in 1557 (by decide +kernel) rfl
theorem ml_X7_280 : Cond.methodLink RX7 280 yX7_leastReach ∈ tr_tbl := tr_in 1502 (by decide +kernel) rfl
theorem ml_X7_283 : Cond.methodLink RX7 283 yX7_layBests ∈ tr_tbl := tr_in 1523 (by decide +kernel) rfl
theorem ml_X7_286 : Cond.methodLink RX7 286 yX7_isTooLong ∈ tr_tbl := tr_in 1494 (by decide +kernel) rfl
theorem ml_X7_289 : Cond.methodLink RX7 289 yX7_leastOf ∈ tr_tbl := tr_in 1498 (by decide +kernel) rfl
theorem ml_X7_292 : Cond.methodLink RX7 292 yX7_waysReach ∈ tr_tbl := tr_in 1553 (by decide +kernel) rfl
theorem ml_X7_295 : Cond.methodLink RX7 295 yX7_layWays ∈ tr_tbl := tr_in 1561 (by decide +kernel) rfl
theorem ml_X7_299 : Cond.methodLink RX7 299 yX7_needLeast ∈ tr_tbl := tr_in 1490 (by decide +kernel) rfl
theorem ml_X7_302 : Cond.methodLink RX7 302 yX7_clear ∈ tr_tbl := tr_in 1581 (by decide +kernel) rfl
theorem ml_X7_305 : Cond.methodLink RX7 305 yX7_layLeast ∈ tr_tbl := tr_in 1573 (by decide +kernel) rfl
theorem ml_X7_308 : Cond.methodLink RX7 308 yX7_lineToRow ∈ tr_tbl := tr_in 1577 (by decide +kernel) rfl
theorem ml_X7_311 : Cond.methodLink RX7 311 yX7_rankReach ∈ tr_tbl := tr_in 1593 (by decide +kernel) rfl
theorem ml_X7_314 : Cond.methodLink RX7 314 yX7_rankBySets ∈ tr_tbl := tr_in 1601 (by decide +kernel) rfl
theorem ml_X7_317 : Cond.methodLink RX7 317 yX7_isWanted ∈ tr_tbl := tr_in 1597 (by decide +kernel) rfl
theorem ml_X7_320 : Cond.methodLink RX7 320 yX7_allowedMany ∈ tr_tbl := tr_in 1613 (by decide +kernel) rfl
theorem ml_X7_323 : Cond.methodLink RX7 323 yX7_nearestOf ∈ tr_tbl := tr_in 1621 (by decide +kernel) rfl
theorem ml_X7_326 : Cond.methodLink RX7 326 yX7_tiesOf ∈ tr_tbl := tr_in 1625 (by decide +kernel) rfl
theorem ml_X7_329 : Cond.methodLink RX7 329 yX7_weightOf ∈ tr_tbl := tr_in 1629 (by decide +kernel) rfl
theorem ml_X7_332 : Cond.methodLink RX7 332 yX7_groups ∈ tr_tbl := tr_in 1633 (by decide +kernel) rfl
theorem ml_X7_335 : Cond.methodLink RX7 335 yX7_layComes ∈ tr_tbl := tr_in 1657 (by decide +kernel) rfl
theorem ml_X7_338 : Cond.methodLink RX7 338 yX7_layPlaceMany ∈ tr_tbl := tr_in 1653 (by decide +kernel) rfl
theorem ml_X7_341 : Cond.methodLink RX7 341 yX7_fraction ∈ tr_tbl := tr_in 1665 (by decide +kernel) rfl
theorem ml_X7_345 : Cond.methodLink RX7 345 yX7_leadMany ∈ tr_tbl := tr_in 1673 (by decide +kernel) rfl
theorem ml_X7_348 : Cond.methodLink RX7 348 yX7_bothByLines ∈ tr_tbl := tr_in 1681 (by decide +kernel) rfl
theorem ml_X7_351 : Cond.methodLink RX7 351 yX7_bothBySets ∈ tr_tbl := tr_in 1685 (by decide +kernel) rfl
theorem ml_X7_354 : Cond.methodLink RX7 354 yX7_bestAlong ∈ tr_tbl := tr_in 1689 (by decide +kernel) rfl
theorem ml_X7_357 : Cond.methodLink RX7 357 yX7_goesOn ∈ tr_tbl := tr_in 1693 (by decide +kernel) rfl
theorem ml_X7_361 : Cond.methodLink RX7 361 yX7_layOff ∈ tr_tbl := tr_in 1701 (by decide +kernel) rfl
theorem ml_X7_364 : Cond.methodLink RX7 364 yX7_isAnyAllowed ∈ tr_tbl := tr_in 1705 (by decide +kernel) rfl
theorem ml_X7_367 : Cond.methodLink RX7 367 yX7_needAllowed ∈ tr_tbl := tr_in 1713 (by decide +kernel) rfl
theorem ml_X7_370 : Cond.methodLink RX7 370 yX7_shift ∈ tr_tbl := tr_in 1721 (by decide +kernel) rfl
theorem ml_X7_378 : Cond.methodLink RX7 378 yX7_isSeed ∈ tr_tbl := tr_in 1733 (by decide +kernel) rfl
theorem ml_X7_381 : Cond.methodLink RX7 381 yX7_drawLine ∈ tr_tbl := tr_in 1737 (by decide +kernel) rfl
theorem ml_X7_388 : Cond.methodLink RX7 388 yX7_offBits ∈ tr_tbl := tr_in 1757 (by decide +kernel) rfl
theorem ml_X7_391 : Cond.methodLink RX7 391 yX7_tieMany ∈ tr_tbl := tr_in 1773 (by decide +kernel) rfl
theorem ml_X7_394 : Cond.methodLink RX7 394 yX7_counted ∈ tr_tbl := tr_in 1769 (by decide +kernel) rfl
theorem ml_X7_404 : Cond.methodLink RX7 404 yX7_mix ∈ tr_tbl := tr_in 1782 (by decide +kernel) rfl
theorem ml_J7_13 : Cond.methodLink RJ7 13 yJ7_rangeCheck_23922 ∈ tr_tbl := tr_in 404 (by decide +kernel) rfl
theorem ct_X6_361 : Cond.constant RX6 361 1000000 ∈ tr_tbl := tr_in 1016 (by decide +kernel) rfl
theorem ct_X2_23 : Cond.constant RX2 23 40320 ∈ tr_tbl := tr_in 286 (by decide +kernel) rfl
theorem ct_X2_47 : Cond.constant RX2 47 268435456 ∈ tr_tbl := tr_in 765 (by decide +kernel) rfl
theorem ct_X4_70 : Cond.constant RX4 70 268435456 ∈ tr_tbl := tr_in 742 (by decide +kernel) rfl
theorem ct_X7_246 : Cond.constant RX7 246 1000000 ∈ tr_tbl := tr_in 1506 (by decide +kernel) rfl
theorem ct_X7_373 : Cond.constant RX7 373 2147483646 ∈ tr_tbl := tr_in 1736 (by decide +kernel) rfl
theorem ct_J6_265 : Cond.constant RJ6 265 1431655765 ∈ tr_tbl := tr_in 702 (by decide +kernel) rfl
theorem ct_J6_266 : Cond.constant RJ6 266 858993459 ∈ tr_tbl := tr_in 703 (by decide +kernel) rfl
theorem ct_J6_267 : Cond.constant RJ6 267 252645135 ∈ tr_tbl := tr_in 704 (by decide +kernel) rfl
theorem ct_X6_298 : Cond.constantLong RX6 298 3 ∈ tr_tbl := tr_in 1076 (by decide +kernel) rfl
theorem ct_X6_324 : Cond.constantLong RX6 324 17 ∈ tr_tbl := tr_in 1134 (by decide +kernel) rfl
theorem ct_X6_326 : Cond.constantLong RX6 326 31 ∈ tr_tbl := tr_in 1135 (by decide +kernel) rfl
theorem ct_X6_335 : Cond.constantLong RX6 335 2147483647 ∈ tr_tbl := tr_in 1053 (by decide +kernel) rfl
theorem ct_X6_344 : Cond.constantLong RX6 344 48271 ∈ tr_tbl := tr_in 1059 (by decide +kernel) rfl
theorem ct_X7_374 : Cond.constantLong RX7 374 48271 ∈ tr_tbl := tr_in 1741 (by decide +kernel) rfl
theorem ct_X7_376 : Cond.constantLong RX7 376 2147483647 ∈ tr_tbl := tr_in 1742 (by decide +kernel) rfl
theorem ct_X7_384 : Cond.constantLong RX7 384 2 ∈ tr_tbl := tr_in 1751 (by decide +kernel) rfl
theorem ct_X7_386 : Cond.constantLong RX7 386 3 ∈ tr_tbl := tr_in 1752 (by decide +kernel) rfl
theorem ct_X7_397 : Cond.constantLong RX7 397 31 ∈ tr_tbl := tr_in 1786 (by decide +kernel) rfl
theorem ct_X7_402 : Cond.constantLong RX7 402 17 ∈ tr_tbl := tr_in 1781 (by decide +kernel) rfl
