/-! ===== measure, breaks, gap, apart ===== -/
theorem isMeasure_cases (p : Int32) : (mX6_isMeasure p = 0 ∧ mX7_isMeasure p = some 0) ∨ ∃ m, m ≤ 4 ∧ p = nI m ∧ mX6_isMeasure p = 1 ∧ mX7_isMeasure p = some 1 := by
  unfold mX6_isMeasure mX7_isMeasure
  rcases in_cases0 p (show 4 < 1000 by decide) with ⟨i1, i2⟩ | ⟨j, hj, rfl, i1⟩
  · left
    rw [show (4 : Int32) = nI 4 from rfl, i1]
    refine ⟨?_, rfl⟩
    by_cases h0 : p < 0
    · rw [if_pos h0]
    · rw [if_neg h0, if_pos (i2.resolve_left h0)]
  · right
    refine ⟨j, hj, rfl, ?_, by rw [show (4 : Int32) = nI 4 from rfl, i1]; rfl⟩
    rw [if_neg (nI_pos (by omega)), if_neg]
    rw [show (4 : Int32) = nI 4 from rfl, nlt (by decide) (by omega)]
    omega
theorem meets_neg (q : Int32) (M : tr_M) {a : Int32} {N : tr_M} (h : mX7_meets q M = some (a, N)) : a = -3 := by
  unfold mX7_meets at h
  simp only [Option.bind_some] at h
  rw [Option.bind_eq_some_iff] at h
  obtain ⟨b, h1, h⟩ := h
  rw [Option.bind_eq_some_iff] at h
  obtain ⟨c, h2, h⟩ := h
  cases h
  rfl
/-- a row that is no order: what both sides say of it -/
theorem fault_res {M1 M2 : tr_M} (h : ITF M1 M2) {q : Nat} (hq : q = 1 ∨ q = 3 ∨ q = 5) (k : Int32 × tr_M → Option (Int32 × tr_M)) : Res2 (if nI q = 0 then none else Option.bind (mX6_found (nI q) M1) (fun c => some (c.1, c.2))) (Option.bind (Option.bind (mX7_meets (nI q) M2) (fun c => some (c.1, c.2))) (fun c => if c.1 < 0 then some (c.1, c.2) else k c)) M1 M2 := by
  have hne : ¬ nI q = 0 := by rcases hq with rfl | rfl | rfl <;> decide
  rw [if_neg hne]
  obtain ⟨r, N1, N2, f1, f2, f3⟩ := (found_both h (f := q) (by omega)).to2
  rw [f1, f2]
  have hr : r = -3 := meets_neg _ _ f2
  subst hr
  exact ⟨_, N1, N2, rfl, rfl, f3⟩
theorem r_measure {w : Wd} {M1 M2 : tr_M} (h : ITF M1 M2) (hw : IWd w M1 M2) (p1 p2 : Int32) : Res2 (mX6_measure p1 p2 M1) (mX7_measure p1 p2 M2) M1 M2 := by
  have hn := hw.1.1
  unfold mX6_measure mX7_measure
  rcases isMeasure_cases p1 with ⟨e1, e2⟩ | ⟨m, hm, rfl, e1, e2⟩
  · rw [e1, e2]
    exact (Res.same h).to2
  · rcases isRow_cases p2 with ⟨d1, d2⟩ | ⟨r, hr, rfl, d1, d2⟩
    · rw [e1, e2, d1, d2]
      exact (Res.same h).to2
    · have hl := len_row hr
      simp only [e1, e2, d1, d2, Option.bind_some, if_neg (show ¬ (1 : Int32) = 0 by decide)]
      rcases order_both h hw hr with ⟨q, hq, g1, g2, -⟩ | ⟨f, N2, hf, hc, g1, g2, g3, g4, -⟩
      · rw [g1, g2]
        have := fault_res h hq (fun c => Option.bind (mX7_measureNow (nI m) c.2) fun c7 => some (c7, c.2))
        have hne : ¬ nI q = 0 := by rcases hq with rfl | rfl | rfl <;> decide
        rw [if_neg hne] at this
        simp only [Option.bind_some, if_neg hne]
        exact this
      · rw [g1, g2]
        simp only [Option.bind_some, if_true, tr_ra_nI hr (show 6 < 2147483648 by decide), if_neg (show ¬ (0 : Int32) < 0 by decide)]
        rw [measured_eq hw.1 hw.2.1 hf hc (by omega) (by omega) hm, measureNow_eq hw.1 (hw.2.2.sm g4) hf g3 hm]
        exact Res2.sc h SC.rf g4
theorem r_breaks {w : Wd} {M1 M2 : tr_M} (h : ITF M1 M2) (hw : IWd w M1 M2) (p1 : Int32) : Res2 (mX6_breaks p1 M1) (mX7_breaks p1 M2) M1 M2 := by
  have hn := hw.1.1
  unfold mX6_breaks mX7_breaks
  rcases isRow_cases p1 with ⟨d1, d2⟩ | ⟨r, hr, rfl, d1, d2⟩
  · rw [d1, d2]
    exact (Res.same h).to2
  · have hl := len_row hr
    simp only [d1, d2, Option.bind_some, if_neg (show ¬ (1 : Int32) = 0 by decide)]
    rcases order_both h hw hr with ⟨q, hq, g1, g2, -⟩ | ⟨f, N2, hf, hc, g1, g2, g3, g4, -⟩
    · rw [g1, g2]
      have := fault_res h hq (fun c => Option.bind (mX7_brokenNow c.2) fun c5 => some (c5, c.2))
      have hne : ¬ nI q = 0 := by rcases hq with rfl | rfl | rfl <;> decide
      rw [if_neg hne] at this
      simp only [Option.bind_some, if_neg hne]
      exact this
    · rw [g1, g2]
      simp only [Option.bind_some, if_true, tr_ra_nI hr (show 6 < 2147483648 by decide), if_neg (show ¬ (0 : Int32) < 0 by decide)]
      rw [firstBroken_eq hw.1 hw.2.1 hf hc (by omega) (by omega) rfl (by omega), brokenNow_eq hw.1 (hw.2.2.sm g4) hf g3]
      exact Res2.sc h (SC.row (by omega)) g4
theorem r_gap {w : Wd} {M1 M2 : tr_M} (h : ITF M1 M2) (hw : IWd w M1 M2) (p1 p2 : Int32) : Res2 (mX6_gap p1 p2 M1) (mX7_gap p1 p2 M2) M1 M2 := by
  have hn := hw.1.1
  unfold mX6_gap mX7_gap
  rcases isRow_cases p1 with ⟨d1, d2⟩ | ⟨r, hr, rfl, d1, d2⟩
  · rw [d1, d2]
    exact (Res.same h).to2
  · have hl := len_row hr
    simp only [d1, d2, Option.bind_some, if_neg (show ¬ (1 : Int32) = 0 by decide)]
    rcases in_cases0 p2 (show 8 < 1000 by decide) with ⟨i1, i2⟩ | ⟨j, hj, rfl, i1⟩
    · rw [show (8 : Int32) = nI 8 from rfl, i1, if_pos rfl]
      by_cases h0 : p2 < 0
      · rw [if_pos h0]; exact (Res.same h).to2
      · rw [if_neg h0, if_pos (i2.resolve_left h0)]; exact (Res.same h).to2
    · rw [show (8 : Int32) = nI 8 from rfl, i1, if_neg (nI_pos (by omega)), if_neg (show ¬ (1 : Int32) = 0 by decide), if_neg (by rw [nlt (by decide) (by omega)]; omega)]
      rcases order_both h hw hr with ⟨q, hq, g1, g2, -⟩ | ⟨f, N2, hf, hc, g1, g2, g3, g4, g5, g6, -⟩
      · rw [g1, g2]
        have hne : ¬ nI q = 0 := by rcases hq with rfl | rfl | rfl <;> decide
        simp only [Option.bind_some, if_neg hne]
        obtain ⟨r', N1, N2, f1, f2, f3⟩ := (found_both h (f := q) (by omega)).to2
        have hr' : r' = -3 := meets_neg _ _ f2
        subst hr'
        rw [f1, f2]
        exact ⟨_, N1, N2, rfl, rfl, f3⟩
      · rw [g1, g2]
        have hN : N2.1 1 10 = nI w.1 := by rw [g6 1 (by decide) (by decide)]; exact hw.2.2.1
        simp only [Option.bind_some, if_true, if_neg (show ¬ (0 : Int32) < 0 by decide), hw.2.1.1, hN]
        simp (disch := omega) only [show (2 : Int32) = nI 2 from rfl, sub_lt, show (1 : Int32) = nI 1 from rfl, lt_sub]
        by_cases c : 1 + j < w.1
        · rw [if_neg (show ¬ w.1 < 2 + j by omega), if_pos c]
          simp only [Option.bind_some, if_true]
          have hp := pre_lt10 hf hn (show j + 1 ≤ w.1 by omega)
          have e1 : tr_loop (mX6_gap_l63 (nI r) (nI j) M1) (0, 0, 0) = some (nI (pre f (j + 1)), nI (cutN w (pre f (j + 1)))) := by
            refine tr_loop_seq' (fun i => (nI (pre f i), nI (cutN w (pre f i)), nI i)) (j + 1) ?_ (by omega) (fun i hi => ?_) ?_
            · show (nI 0, nI (cutN w 0), nI 0) = _
              have := gN_0 (w := w) 0
              unfold gN at this
              rw [if_pos (Or.inl rfl)] at this
              rw [this]
              rfl
            · unfold mX6_gap_l63
              have hfi := hf.1 i (by omega)
              have hnew := pre_new hf (show i < w.1 by omega)
              have hp := pre_lt10 hf hn (show i ≤ w.1 by omega)
              simp (disch := omega) only [nlt, show ¬ j < i by omega, if_false, tr_ra_nI, tr_rd_nI, hc i (by omega), Option.bind_some, weightAdded_eq hw.1 hw.2.1, across_eq hw.1 hfi hnew, ins_nI, nadd1]
              rfl
            · unfold mX6_gap_l63
              simp (disch := omega) only [nlt, show j < j + 1 by omega, if_true]
          have e2 : tr_loop (mX7_gap_l53 (nI j) (0, N2)) (0, 0) = some (nI (pre f (j + 1))) := by
            refine tr_loop_seq' (fun i => (nI (pre f i), nI i)) (j + 1) rfl (by omega) (fun i hi => ?_) ?_
            · unfold mX7_gap_l53
              have hfi := hf.1 i (by omega)
              simp (disch := omega) only [nlt, show ¬ j < i by omega, if_false, tr_rd_nI, g3.1 i (by omega), Option.bind_some, ins_nI, nadd1]
              rfl
            · unfold mX7_gap_l53
              simp (disch := omega) only [nlt, show j < j + 1 by omega, if_true]
          rw [e1, e2]
          dsimp only [Option.bind_some]
          rw [heldBy_eq hw.1 hw.2.1 hp, heldOf_eq hw.1 (hw.2.2.sm g4) hp, cutOf_eq hw.1 (hw.2.2.sm g4) hp]
          simp only [Option.bind_some, tells_eq]
          obtain ⟨a1, a2, a3⟩ := ask_both (h.sc SC.rf g4) (nI (heldN w (pre f (j + 1))))
          exact ⟨_, _, _, rfl, rfl, a1, a2.to2, g4.km.tr a3⟩
        · rw [if_pos (show w.1 < 2 + j by omega), if_neg c]
          simp only [Option.bind_some, if_neg (show ¬ nI 2 = 0 by decide)]
          obtain ⟨r', N1, N3, f1, f2, f3, f4, f5⟩ := (found_both (h.sc SC.rf g4) (f := 2) (by omega)).to2
          rw [f1, f2]
          exact ⟨_, N1, N3, rfl, rfl, f3, f4, g4.km.tr f5⟩
