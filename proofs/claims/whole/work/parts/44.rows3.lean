theorem textM_eq {r n : Nat} {M : tr_M} (hr : r < 4) : tr_loop (mX7_text_l34 (nI r) (nI n)) (0, M) = some (nI n, tr_row M 7 (fl (M.1 7) (120 * r) 120 32)) := by
  refine tr_loop_seq' (fun i => (nI i, tr_row M 7 (fl (M.1 7) (120 * r) i 32))) 120 ?_ (by decide) (fun i hi => ?_) ?_
  · show (nI 0, tr_row M 7 (fl (M.1 7) (120 * r) 0 32)) = _
    rw [fl_0, tr_row_id rfl]
    rfl
  · unfold mX7_text_l34
    simp only [show (120 : Int32) = nI 120 from rfl, nlt (show i < 2147483648 by omega) (show 120 < 2147483648 by decide), if_pos hi, nmul, nadd]
    rw [tr_wr_nI (by omega) (by decide), Option.bind_some, tr_row_st, nadd1, show vp_nar .byte 32 = 32 by decide, fl_s]
  · unfold mX7_text_l34
    simp only [show (120 : Int32) = nI 120 from rfl, nlt (show 120 < 2147483648 by decide) (show 120 < 2147483648 by decide), Nat.lt_irrefl, if_false]
theorem made_text {M1 M2 : tr_M} (h : ITF M1 M2) {r n : Nat} (hr : r < 4) (hn : n ≤ 120) {g1 g2 : Nat → Int32} (hg : ∀ i, i < n → g1 i = g2 (120 * r + i)) (hg2 : ∀ j, j < 120 * r ∨ 120 * r + 120 ≤ j → g2 j = M2.1 7 j) {v1 v2 : Int32} (hv1 : v1 = nI n) (hv2 : v2 = nI n) : ITF (tr_row (tr_st M1 (74 + 2 * r) 1 v1) (74 + 2 * r + 1) g1) (tr_row (tr_st M2 6 r v2) 7 g2) ∧ KC M1 (tr_row (tr_st M1 (74 + 2 * r) 1 v1) (74 + 2 * r + 1) g1) ∧ KM M2 (tr_row (tr_st M2 6 r v2) 7 g2) := by
  obtain ⟨hR, hT, h1, h2, h3, h4, h5⟩ := h
  subst hv1 hv2
  refine ⟨⟨fun t ht => ?_, fun q hq => ?_, ?_, fun g hg => ?_, ?_, h4, h5⟩, ⟨fun b hb1 hb2 => ?_, fun k hk => ?_⟩, ?_, ?_, ?_, ?_, ?_⟩
  · have := hR t ht
    simpa (disch := omega) only [tr_st_ne, tr_row_ne] using this
  · by_cases e : q = r
    · subst e
      right
      refine ⟨n, hn, ?_, ?_, fun i hi => ?_⟩
      · rw [tr_row_ne (by omega), tr_st_s]
      · rw [tr_row_ne (by omega), tr_st_s]
      · rw [show 75 + 2 * q = 74 + 2 * q + 1 by omega, tr_row_s, tr_row_s]
        exact hg i hi
    · have := hT q hq
      rcases this with ⟨e1, e2⟩ | ⟨s, hs, e1, e2, e3⟩
      · left
        rw [tr_row_ne (by omega), tr_st_ne (by omega), tr_row_ne (by omega), tr_st_j e]
        exact ⟨e1, e2⟩
      · right
        refine ⟨s, hs, ?_, ?_, fun i hi => ?_⟩
        · rw [tr_row_ne (by omega), tr_st_ne (by omega)]; exact e1
        · rw [tr_row_ne (by omega), tr_st_j e]; exact e2
        · have h9 : 120 * q + i < 120 * r ∨ 120 * r + 120 ≤ 120 * q + i := by omega
          show (tr_row (tr_st M1 (74 + 2 * r) 1 (nI n)) (74 + 2 * r + 1) g1).1 (75 + 2 * q) i = (tr_row (tr_st M2 6 r (nI n)) 7 g2).1 7 (120 * q + i)
          rw [tr_row_ne (by omega), tr_st_ne (by omega), tr_row_s, hg2 _ h9]
          exact e3 i hi
  · simpa (disch := omega) only [tr_st_ne, tr_row_ne] using h1
  · have := h2 g hg
    simpa (disch := omega) only [tr_st_ne, tr_row_ne] using this
  · simpa (disch := omega) only [tr_st_ne, tr_row_ne] using h3
  · rw [tr_row_ne (by omega), tr_st_ne (by omega)]
  · rw [tr_row_ne (by omega), tr_st_ne (by omega)]
  all_goals simp (disch := omega) only [tr_st_ne, tr_row_ne]
theorem r_text {M1 M2 : tr_M} (h : ITF M1 M2) (p1 p2 : Int32) : Res (mX6_text p1 p2 M1) (mX7_text p1 p2 M2) M1 M2 := by
  unfold mX6_text mX7_text
  rcases isText_cases p1 with ⟨e1, e2⟩ | ⟨r, hr, rfl, e1, e2⟩
  · simp only [e1, e2, Option.bind_some, if_true]
    exact Res.same h
  · simp only [e1, e2, Option.bind_some, if_neg (show ¬ (1 : Int32) = 0 by decide)]
    rcases pos_cases p2 120 (by decide) with h6 | ⟨h6, h7⟩ | ⟨n, hn, rfl, h6, h7⟩
    · have h6 : (120 : Int32) < p2 := h6
      simp only [if_pos h6]
      exact Res.same h
    · have h6 : ¬ (120 : Int32) < p2 := h6
      simp only [if_neg h6, if_pos h7]
      exact (found_both h (f := 5) (by decide)).pair
    · have h6 : ¬ (120 : Int32) < nI n := h6
      simp only [if_neg h6, if_neg h7]
      rw [tr_ra_nI hr (by decide), Option.bind_some, make_eq (len_text hr) (by decide) hn (by decide), tr_wr_nI hr (by decide)]
      simp only [Option.bind_some]
      rw [textM_eq hr]
      obtain ⟨g1, g2, g3⟩ := made_text h hr hn (g1 := fl (M1.1 (74 + 2 * r + 1)) 0 n 32) (g2 := fl (M2.1 7) (120 * r) 120 32) (fun i hi => by rw [fl_in (by omega) (by omega), fl_in (by omega) (by omega)]) (fun j hj => fl_out hj) rfl rfl
      exact ⟨_, _, _, rfl, by rw [tr_st_ne (by decide)], g1, g2, g3⟩
theorem set_text {M1 M2 : tr_M} (h : ITF M1 M2) {r i : Nat} (hr : r < 4) (hi : i < 120) (v : Int32) : ITF (tr_st M1 (74 + 2 * r + 1) i v) (tr_st M2 7 (120 * r + i) v) ∧ KC M1 (tr_st M1 (74 + 2 * r + 1) i v) ∧ KM M2 (tr_st M2 7 (120 * r + i) v) := by
  obtain ⟨hR, hT, h1, h2, h3, h4, h5⟩ := h
  refine ⟨⟨fun t ht => ?_, fun q hq => ?_, ?_, fun g hg => ?_, ?_, h4, h5⟩, ⟨fun b hb1 hb2 => ?_, fun k hk => ?_⟩, ?_, ?_, ?_, ?_, ?_⟩
  · have := hR t ht
    simpa (disch := omega) only [tr_st_ne] using this
  · have := hT q hq
    rcases this with ⟨e1, e2⟩ | ⟨s, hs, e1, e2, e3⟩
    · left
      rw [tr_st_ne (by omega), tr_st_ne (by decide)]
      exact ⟨e1, e2⟩
    · right
      refine ⟨s, hs, by rw [tr_st_ne (by omega)]; exact e1, by rw [tr_st_ne (by decide)]; exact e2, fun j hj => ?_⟩
      have e4 := e3 j hj
      show (tr_st M1 (74 + 2 * r + 1) i v).1 (75 + 2 * q) j = (tr_st M2 7 (120 * r + i) v).1 7 (120 * q + j)
      rw [tr_st_1, tr_st_1]
      by_cases c : q = r ∧ j = i
      · rw [if_pos (by omega), if_pos (by omega)]
      · rw [if_neg (by omega), if_neg (by omega)]
        exact e4
  · simpa (disch := omega) only [tr_st_ne] using h1
  · have := h2 g hg
    simpa (disch := omega) only [tr_st_ne] using this
  · simpa (disch := omega) only [tr_st_ne] using h3
  · rw [tr_st_ne (by omega)]
  · rw [tr_st_ne (by omega)]
  all_goals simp (disch := omega) only [tr_st_ne]
theorem r_put {M1 M2 : tr_M} (h : ITF M1 M2) (p1 p2 p3 : Int32) : Res (mX6_put p1 p2 p3 M1) (mX7_put p1 p2 p3 M2) M1 M2 := by
  unfold mX6_put mX7_put
  rcases isText_cases p1 with ⟨e1, e2⟩ | ⟨r, hr, rfl, e1, e2⟩
  · simp only [e1, e2, Option.bind_some, if_true]
    exact Res.same h
  · simp only [e1, e2, Option.bind_some, if_neg (show ¬ (1 : Int32) = 0 by decide), tr_ra_nI hr (show 4 < 2147483648 by decide), tr_rd_nI hr (show 4 < 2147483648 by decide)]
    rcases h.2.1 r hr with ⟨m1, m2⟩ | ⟨s, hs, m1, m2, m3⟩
    · rw [faultAt_m m1, m2, if_neg (by decide), if_pos (by decide)]
      exact (found_both h (f := 1) (by decide)).pair
    · rw [m2, if_neg (nI_pos (by omega))]
      rcases in_cases p2 (show s < 1000 by omega) with ⟨i1, i2⟩ | ⟨i, hi, rfl, i1⟩
      · rw [faultAt_o m1 (by omega) i2, i1, if_neg (by decide), if_pos rfl]
        exact (found_both h (f := 2) (by decide)).pair
      · rw [faultAt_i m1 (by omega) hi, i1, if_pos rfl, if_neg (by decide), len_text hr, tr_rd_nI (by omega) (by decide)]
        have e := m3 i hi
        have e : M1.1 (74 + 2 * r + 1) i = M2.1 7 (120 * r + i) := by rw [show 74 + 2 * r + 1 = 75 + 2 * r by omega]; exact e
        rw [e, tr_wr_nI (show i < 120 by omega) (by decide), show (120 : Int32) = nI 120 from rfl, nmul, nadd, tr_rd_nI (show 120 * r + i < 480 by omega) (by decide), tr_wr_nI (show 120 * r + i < 480 by omega) (by decide), pk_vb]
        simp only [Option.bind_some]
        exact ⟨_, _, _, rfl, by rw [Int32.add_comm], set_text h hr (show i < 120 by omega) _⟩
theorem r_findings {M1 M2 : tr_M} (h : ITF M1 M2) (p : Int32) : ∃ v, mX6_findings p M1 = some v ∧ mX7_findings p M2 = some v := by
  unfold mX6_findings mX7_findings mX7_in
  by_cases h1 : p < 1
  · simp only [if_pos h1, if_true]
    exact ⟨_, rfl, rfl⟩
  · by_cases h5 : (5 : Int32) < p
    · simp only [if_neg h1, if_pos h5, if_true]
      exact ⟨_, rfl, rfl⟩
    · simp only [if_neg h1, if_neg h5, if_neg (show ¬ (1 : Int32) = 0 by decide)]
      rcases n_cases p with hn | ⟨k, hk, rfl⟩
      · exact absurd (n_lt_neg hn (k := 1) (by decide)).1 h1
      · have h5 : ¬ nI 5 < nI k := h5
        rw [nlt (by decide) hk] at h5
        rw [tr_rd_nI (by omega) (by decide), tr_rd_nI (by omega) (by decide), h.2.2.2.1 k (by omega)]
        exact ⟨_, rfl, rfl⟩
/-- sums of longs -/
def sl64 (g : Nat → Int32) : Nat → Int64
  | 0 => 0
  | n + 1 => sl64 g n + (g n).toInt64
theorem sl64_congr {g g' : Nat → Int32} : ∀ {n : Nat}, (∀ i, i < n → g i = g' i) → sl64 g n = sl64 g' n
  | 0, _ => rfl
  | n + 1, h => by
    unfold sl64
    rw [sl64_congr (fun i hi => h i (by omega)), h n (by omega)]
theorem meanC_eq {r s : Nat} {M : tr_M} (hr : r < 6) (hs : s ≤ 60) (h : M.1 (62 + 2 * r) 1 = nI s) : tr_loop (mX6_mean_l52 (nI r) M (62 + 2 * r)) (0, 0) = some (sl64 (M.1 (62 + 2 * r + 1)) s) := by
  refine tr_loop_seq' (fun i => (sl64 (M.1 (62 + 2 * r + 1)) i, nI i)) s rfl (by omega) (fun i hi => ?_) ?_
  · unfold mX6_mean_l52
    simp only [h, nlt (show i < 2147483648 by omega) (show s < 2147483648 by omega), if_pos hi]
    rw [tr_ra_nI hr (by decide), Option.bind_some, len_row hr, tr_rd_nI (by omega) (by decide), Option.bind_some, nadd1]
    rfl
  · unfold mX6_mean_l52
    simp only [h, nlt (show s < 2147483648 by omega) (show s < 2147483648 by omega), Nat.lt_irrefl, if_false]
theorem meanM_eq {r s : Nat} {M : tr_M} (hr : r < 6) (hs : s ≤ 60) (h : M.1 3 r = nI s) : tr_loop (mX7_mean_l44 (nI r) M) (0, 0) = some (sl64 (fun i => M.1 4 (60 * r + i)) s) := by
  refine tr_loop_seq' (fun i => (sl64 (fun i => M.1 4 (60 * r + i)) i, nI i)) s rfl (by omega) (fun i hi => ?_) ?_
  · unfold mX7_mean_l44
    rw [tr_rd_nI hr (by decide), Option.bind_some]
    simp only [h, nlt (show i < 2147483648 by omega) (show s < 2147483648 by omega), if_pos hi]
    rw [rowAt_eq hr (by omega), Option.bind_some, nadd1]
    rfl
  · unfold mX7_mean_l44
    rw [tr_rd_nI hr (by decide), Option.bind_some]
    simp only [h, nlt (show s < 2147483648 by omega) (show s < 2147483648 by omega), Nat.lt_irrefl, if_false]
theorem r_mean {M1 M2 : tr_M} (h : ITF M1 M2) (p1 : Int32) : Res (mX6_mean p1 M1) (mX7_mean p1 M2) M1 M2 := by
  unfold mX6_mean mX7_mean
  rcases isRow_cases p1 with ⟨e1, e2⟩ | ⟨r, hr, rfl, e1, e2⟩
  · simp only [e1, e2, Option.bind_some, if_true]
    exact Res.same h
  · simp only [e1, e2, Option.bind_some, if_neg (show ¬ (1 : Int32) = 0 by decide), tr_ra_nI hr (show 6 < 2147483648 by decide), tr_rd_nI hr (show 6 < 2147483648 by decide)]
    rcases h.1 r hr with ⟨m1, m2⟩ | ⟨s, hs, m1, m2, m3⟩
    · rw [miss_m m1, m2, if_neg (by decide), if_pos (by decide)]
      exact (found_both h (f := 1) (by decide)).pair
    · rw [miss_s m1 (by omega), m2, if_neg (nI_pos (by omega)), if_pos rfl, m1]
      by_cases h0 : s = 0
      · subst h0
        rw [if_pos (show nI 0 = 0 from rfl), if_pos (show nI 0 = 0 from rfl)]
        exact (found_both h (f := 4) (by decide)).pair
      · have h00 : ¬ nI s = 0 := nI_ne0 (by omega) (by omega)
        rw [if_neg h00, if_neg h00]
        have hd : ¬ (nI s).toInt64 = 0 := by
          rw [nI_l (by omega)]
          intro e
          have := (lN_eq (a := s) (b := 0) (by omega) (by decide)).mp e
          omega
        show Res (Option.bind (tr_loop (mX6_mean_l52 (nI r) M1 (62 + 2 * r)) (0, 0)) _) (Option.bind (tr_loop (mX7_mean_l44 (nI r) M2) (0, 0)) _) M1 M2
        rw [meanC_eq hr hs m1, meanM_eq hr hs m2, sl64_congr (g := M1.1 (62 + 2 * r + 1)) (g' := fun i => M2.1 4 (60 * r + i)) (fun i hi => by rw [show 62 + 2 * r + 1 = 63 + 2 * r by omega]; exact m3 i hi)]
        simp only [Option.bind_some, tr_dvl, if_neg hd, tells_eq]
        exact ⟨_, _, _, rfl, rfl, ask_both h _⟩
/-- a stretch of a row is laid -/
theorem cpA_eq {r i n : Nat} {M : tr_M} (hr : r < 6) (hn : i + n ≤ 60) : tr_loop (mX7_copy_l104 (nI r) (nI i) (nI n)) (0, M) = some (tr_row M 5 (fun j => if j < n then M.1 4 (60 * r + i + j) else M.1 5 j)) := by
  refine tr_loop_seq' (fun k => (nI k, tr_row M 5 (fun j => if j < k then M.1 4 (60 * r + i + j) else M.1 5 j))) n ?_ (by omega) (fun k hk => ?_) ?_
  · show (nI 0, tr_row M 5 (fun j => if j < 0 then _ else M.1 5 j)) = _
    simp only [Nat.not_lt_zero, if_false]
    rw [tr_row_id rfl]
    rfl
  · unfold mX7_copy_l104
    simp only [nlt (show k < 2147483648 by omega) (show n < 2147483648 by omega), if_pos hk, nadd]
    rw [rowAt_eq hr (by omega), tr_row_ne (by decide)]
    simp only [Option.bind_some]
    rw [tr_wr_nI (by omega) (by decide), tr_row_st, nadd1]
    simp only [Option.bind_some]
    congr 4
    funext j
    by_cases e : j = k
    · subst e
      rw [if_pos rfl, if_pos (by omega), show 60 * r + i + j = 60 * r + (i + j) by omega]
    · rw [if_neg e]
      by_cases e2 : j < k
      · rw [if_pos e2, if_pos (by omega)]
      · rw [if_neg e2, if_neg (by omega)]
  · unfold mX7_copy_l104
    simp only [nlt (show n < 2147483648 by omega) (show n < 2147483648 by omega), Nat.lt_irrefl, if_false]
theorem cpB_eq {r i n : Nat} {M : tr_M} (hr : r < 6) (hn : i + n ≤ 60) : tr_loop (mX7_copy_l136 (nI r) (nI i) (nI n)) (0, M) = some (.inr (.inr (1, tr_row M 4 (fun j => if 60 * r + i ≤ j ∧ j < 60 * r + i + n then M.1 5 (j - (60 * r + i)) else M.1 4 j)))) := by
  refine tr_loop_seq' (fun k => (nI k, tr_row M 4 (fun j => if 60 * r + i ≤ j ∧ j < 60 * r + i + k then M.1 5 (j - (60 * r + i)) else M.1 4 j))) n ?_ (by omega) (fun k hk => ?_) ?_
  · show (nI 0, tr_row M 4 _) = _
    rw [tr_row_id (funext fun j => if_neg (by omega))]
    rfl
  · unfold mX7_copy_l136
    simp only [nlt (show k < 2147483648 by omega) (show n < 2147483648 by omega), if_pos hk, show (60 : Int32) = nI 60 from rfl, nmul, nadd]
    rw [tr_rd_nI (show k < 60 by omega) (by decide), tr_row_ne (by decide)]
    simp only [Option.bind_some]
    rw [tr_wr_nI (by omega) (by decide), tr_row_st, nadd1]
    simp only [Option.bind_some]
    congr 4
    funext j
    by_cases e : j = 60 * r + i + k
    · subst e
      rw [if_pos rfl, if_pos (by omega), show 60 * r + i + k - (60 * r + i) = k by omega]
    · rw [if_neg e]
      by_cases e2 : 60 * r + i ≤ j ∧ j < 60 * r + i + k
      · rw [if_pos e2, if_pos (by omega)]
      · rw [if_neg e2, if_neg (by omega)]
  · unfold mX7_copy_l136
    simp only [nlt (show n < 2147483648 by omega) (show n < 2147483648 by omega), Nat.lt_irrefl, if_false]
theorem holds_eq {o s n : Nat} {p : Int32} {M : tr_M} (h : M.1 o 1 = nI s) (hs : s < 1000) (hn : n < 2147483648) : (mX1_holdsRun o p (nI n) M = 0 ∧ (p < 0 ∨ ∃ k, k < 2147483648 ∧ p = nI k ∧ s < k + n)) ∨ ∃ k, k < 1000 ∧ p = nI k ∧ k + n ≤ s ∧ mX1_holdsRun o p (nI n) M = 1 := by
  unfold mX1_holdsRun
  rcases n_cases p with hp | ⟨k, hk, rfl⟩
  · left
    rw [if_pos hp]
    exact ⟨rfl, Or.inl hp⟩
  · rw [if_neg (nI_pos hk), h]
    have e : (nI s - nI n < nI k) ↔ s < k + n := by
      rw [Int32.lt_iff_toInt_lt, nI_toInt hk]
      have e1 : (nI s - nI n).toInt = (s : Int) - n := by
        rw [Int32.toInt_sub, nI_toInt (show s < 2 ^ 31 by omega), nI_toInt (show n < 2 ^ 31 by omega)]
        rw [Int.bmod_eq_of_le] <;> omega
      rw [e1]
      omega
    by_cases c : s < k + n
    · left
      rw [if_pos (e.mpr c)]
      exact ⟨rfl, Or.inr ⟨k, hk, rfl, c⟩⟩
    · right
      exact ⟨k, by omega, rfl, by omega, by rw [if_neg (fun q => c (e.mp q))]⟩
theorem long_gt {k n s : Nat} (hk : k < 2147483648) (hn : n < 2147483648) (hs : s < 1000) : (0 < lg_cmp ((nI k).toInt64 + (nI n).toInt64) (nI s).toInt64) ↔ s < k + n := by
  rw [lg_cmp_gt, nI_l hk, nI_l hn, nI_l (show s < 2 ^ 31 by omega), lN_add, pk_lLT (by omega) (by omega)]
theorem r_copy {M1 M2 : tr_M} (h : ITF M1 M2) (p1 p2 p3 p4 p5 : Int32) : Res (mX6_copy p1 p2 p3 p4 p5 M1) (mX7_copy p1 p2 p3 p4 p5 M2) M1 M2 := by
  unfold mX6_copy mX7_copy
  rcases isRow_cases p1 with ⟨e1, e2⟩ | ⟨r, hr, rfl, e1, e2⟩
  · simp only [e1, e2, Option.bind_some, if_true]
    exact Res.same h
  · rcases isRow_cases p3 with ⟨d1, d2⟩ | ⟨t, ht, rfl, d1, d2⟩
    · simp only [e1, e2, d1, d2, Option.bind_some, if_neg (show ¬ (1 : Int32) = 0 by decide), if_true]
      exact Res.same h
    · simp only [e1, e2, d1, d2, Option.bind_some, if_neg (show ¬ (1 : Int32) = 0 by decide)]
      rcases n_cases p5 with hp5 | ⟨n, hn, rfl⟩
      · simp only [if_pos hp5]
        exact (found_both h (f := 5) (by decide)).pair
      · simp only [if_neg (nI_pos hn), tr_ra_nI hr (show 6 < 2147483648 by decide), tr_rd_nI hr (show 6 < 2147483648 by decide), tr_ra_nI ht (show 6 < 2147483648 by decide), tr_rd_nI ht (show 6 < 2147483648 by decide), Option.bind_some]
        rcases h.1 r hr with ⟨m1, m2⟩ | ⟨s, hs, m1, m2, m3⟩
        · simp only [miss_m m1, m2, if_neg (show ¬ (1 : Int32) = 0 by decide), if_pos (show (-1 : Int32) < 0 by decide), Option.bind_some, tr_el]
          exact (found_both h (f := 1) (by decide)).pair
        · simp only [miss_s m1 (show s < 1000 by omega), m2, if_neg (nI_pos (show s < 2 ^ 31 by omega)), if_true]
          rcases h.1 t ht with ⟨l1, l2⟩ | ⟨q, hq, l1, l2, l3⟩
          · simp only [miss_m l1, l2, if_neg (show ¬ (1 : Int32) = 0 by decide), if_pos (show (-1 : Int32) < 0 by decide), Option.bind_some, tr_el]
            exact (found_both h (f := 1) (by decide)).pair
          · simp only [miss_s l1 (show q < 1000 by omega), l2, if_neg (nI_pos (show q < 2 ^ 31 by omega)), if_true]
            have bey : Res (Option.bind (Option.bind (mX6_found 2 M1) (fun c => some (Sum.inr (c.1, c.2) : tr_M ⊕ (Int32 × tr_M)))) (tr_el (fun v11 => Option.bind (mX6_found 1 v11) (fun c33 => some (c33.1, c33.2))))) (Option.bind (Option.bind (mX7_meets 2 M2) (fun c => some (Sum.inr (c.1, c.2) : tr_M ⊕ (Int32 × tr_M)))) (tr_el (fun v9 => Option.bind (mX7_meets 1 v9) (fun c30 => some (c30.1, c30.2))))) M1 M2 := by
              obtain ⟨a, N1, N2, f1, f2, f3⟩ := found_both h (f := 2) (by decide)
              have f1 : mX6_found 2 M1 = some (a, N1) := f1
              have f2 : mX7_meets 2 M2 = some (a, N2) := f2
              refine ⟨a, N1, N2, ?_, ?_, f3⟩
              · rw [f1]; rfl
              · rw [f2]; rfl
            rcases holds_eq (p := p2) m1 (show s < 1000 by omega) hn with ⟨c1, c2⟩ | ⟨k, hk, rfl, c2, c1⟩
            · rw [c1, if_pos rfl]
              rcases c2 with c2 | ⟨k, hk, rfl, c2⟩
              · simp only [if_pos c2, Option.bind_some, tr_el]
                exact bey
              · rw [if_neg (nI_pos hk)]
                by_cases c4 : p4 < 0
                · simp only [if_pos c4, Option.bind_some, tr_el]
                  exact bey
                · simp only [if_neg c4, if_pos ((long_gt hk hn (show s < 1000 by omega)).mpr c2), Option.bind_some, tr_el]
                  exact bey
            · rw [c1, if_neg (by decide), if_neg (nI_pos (show k < 2 ^ 31 by omega))]
              have g1 : ¬ 0 < lg_cmp ((nI k).toInt64 + (nI n).toInt64) (nI s).toInt64 := by rw [long_gt (by omega) hn (by omega)]; omega
              rcases holds_eq (p := p4) l1 (show q < 1000 by omega) hn with ⟨b1, b2⟩ | ⟨j, hj, rfl, b2, b1⟩
              · rw [b1, if_pos rfl]
                rcases b2 with b2 | ⟨j, hj, rfl, b2⟩
                · simp only [if_pos b2, Option.bind_some, tr_el]
                  exact bey
                · simp only [if_neg (nI_pos hj), if_neg g1, if_pos ((long_gt hj hn (show q < 1000 by omega)).mpr b2), Option.bind_some, tr_el]
                  exact bey
              · have g2 : ¬ 0 < lg_cmp ((nI j).toInt64 + (nI n).toInt64) (nI q).toInt64 := by rw [long_gt (by omega) hn (by omega)]; omega
                rw [b1, if_neg (by decide)]
                simp only [if_neg (nI_pos (show j < 2 ^ 31 by omega)), if_neg g1, if_neg g2]
                rw [len_row hr, len_row ht, tr_cpy_nI (by omega) (by omega) (by decide) (by decide) (by decide) (by decide), cpA_eq hr (by omega)]
                simp only [Option.bind_some]
                rw [cpB_eq ht (by omega)]
                simp only [Option.bind_some, tr_el]
                obtain ⟨hR, hT, h1, h2, h3, h4, h5⟩ := h
                refine ⟨_, _, _, rfl, rfl, ⟨fun u hu => ?_, fun u hu => ?_, ?_, fun g hg => ?_, ?_, h4, h5⟩, ⟨fun b hb1 hb2 => ?_, fun k hk => ?_⟩, ?_, ?_, ?_, ?_, ?_⟩
                · rcases hR u hu with ⟨v1, v2⟩ | ⟨z, hz, v1, v2, v3⟩
                  · left
                    simp (disch := omega) only [tr_row_ne]
                    exact ⟨v1, v2⟩
                  · right
                    refine ⟨z, hz, ?_, ?_, fun i hi => ?_⟩
                    · simp (disch := omega) only [tr_row_ne]; exact v1
                    · simp (disch := omega) only [tr_row_ne]; exact v2
                    · have e3 := v3 i hi
                      show (tr_row M1 (62 + 2 * t + 1) (va_cpy (M1.1 (62 + 2 * r + 1)) (M1.1 (62 + 2 * t + 1)) k j n)).1 (63 + 2 * u) i = (tr_row (tr_row M2 5 (fun j => if j < n then M2.1 4 (60 * r + k + j) else M2.1 5 j)) 4 (fun x => if 60 * t + j ≤ x ∧ x < 60 * t + j + n then (tr_row M2 5 (fun j => if j < n then M2.1 4 (60 * r + k + j) else M2.1 5 j)).1 5 (x - (60 * t + j)) else (tr_row M2 5 (fun j => if j < n then M2.1 4 (60 * r + k + j) else M2.1 5 j)).1 4 x)).1 4 (60 * u + i)
                      rw [tr_row_s, tr_row_s, tr_row_ne (show (4 : Nat) ≠ 5 by decide)]
                      by_cases eu : u = t
                      · subst eu
                        rw [show 63 + 2 * u = 62 + 2 * u + 1 by omega, tr_row_s]
                        unfold va_cpy
                        by_cases ci : j ≤ i ∧ i < j + n
                        · rw [if_pos ci, if_pos (by omega), if_pos (by omega)]
                          have := m3 (k + (i - j)) (by omega)
                          rw [show 62 + 2 * r + 1 = 63 + 2 * r by omega, show 60 * r + k + (60 * u + i - (60 * u + j)) = 60 * r + (k + (i - j)) by omega]
                          exact this
                        · rw [if_neg ci, if_neg (by omega)]
                          rw [show 62 + 2 * u + 1 = 63 + 2 * u by omega]
                          exact e3
                      · rw [tr_row_ne (by omega), if_neg (by omega)]
                        exact e3
                · have := hT u hu
                  simpa (disch := omega) only [tr_row_ne] using this
                · simpa (disch := omega) only [tr_row_ne] using h1
                · have := h2 g hg
                  simpa (disch := omega) only [tr_row_ne] using this
                · simpa (disch := omega) only [tr_row_ne] using h3
                · rw [tr_row_ne (by omega)]
                · rw [tr_row_ne (by omega)]
                all_goals simp (disch := omega) only [tr_row_ne]
