theorem tr_row_st {M : tr_M} {a k : Nat} {f : Nat → Int32} {v : Int32} : tr_st (tr_row M a f) a k v = tr_row M a (fun j => if j = k then v else f j) := by
  refine Prod.ext (funext fun b => funext fun j => ?_) rfl
  show (if b = a ∧ j = k then v else (if b = a then f else M.1 b) j) = (if b = a then (fun j => if j = k then v else f j) else M.1 b) j
  by_cases hb : b = a
  · simp [hb]
  · simp [hb]
theorem tr_row_id {M : tr_M} {a : Nat} {f : Nat → Int32} (h : f = M.1 a) : tr_row M a f = M := by
  subst h
  refine Prod.ext (funext fun b => ?_) rfl
  show (if b = a then M.1 a else M.1 b) = M.1 b
  by_cases hb : b = a
  · rw [if_pos hb, hb]
  · rw [if_neg hb]
/-- the places lo .. lo + n - 1 of a row are v -/
def fl (f : Nat → Int32) (lo n : Nat) (v : Int32) : Nat → Int32 := fun j => if lo ≤ j ∧ j < lo + n then v else f j
theorem fl_0 {f : Nat → Int32} {lo : Nat} {v : Int32} : fl f lo 0 v = f := funext fun j => if_neg (by omega)
theorem fl_s {f : Nat → Int32} {lo n : Nat} {v : Int32} : (fun j => if j = lo + n then v else fl f lo n v j) = fl f lo (n + 1) v := funext fun j => by
  unfold fl
  by_cases h : j = lo + n
  · rw [if_pos h, if_pos (by omega)]
  · rw [if_neg h]
    by_cases h2 : lo ≤ j ∧ j < lo + n
    · rw [if_pos h2, if_pos (by omega)]
    · rw [if_neg h2, if_neg (by omega)]
theorem fl_in {f : Nat → Int32} {lo n j : Nat} {v : Int32} (h : lo ≤ j) (h2 : j < lo + n) : fl f lo n v j = v := if_pos ⟨h, h2⟩
theorem fl_out {f : Nat → Int32} {lo n j : Nat} {v : Int32} (h : j < lo ∨ lo + n ≤ j) : fl f lo n v j = f j := if_neg (by omega)
/-- Arrays.fill(a, 0, n, v) -/
theorem fill_eq {sh : Nat → tr_S} {a n : Nat} {v : Int32} {M : tr_M} (h0 : 0 < tr_len sh a) (hn : n ≤ tr_len sh a) (hl : tr_len sh a < 2147483648) : mJ7_fill_fda19 sh a 0 (nI n) v M = some (tr_row M a (fl (M.1 a) 0 n v)) := by
  unfold mJ7_fill_fda19 mJ7_rangeCheck_23922
  have e1 : ¬ nI n < 0 := nI_pos (by omega)
  have e2 : ¬ nI (tr_len sh a) < nI n := by rw [nlt hl (by omega)]; omega
  have e0 : decide (tr_len sh a ≠ 0) = true := decide_eq_true (by omega)
  rw [e0]
  simp only [tr_gd, if_true, Option.bind_some, if_neg e1, if_neg e2, if_neg (show ¬ (0 : Int32) < 0 by decide)]
  refine tr_loop_seq' (fun i => (nI i, tr_row M a (fl (M.1 a) 0 i v))) n ?_ (by omega) (fun i hi => ?_) ?_
  · show (nI 0, tr_row M a (fl (M.1 a) 0 0 v)) = _
    rw [fl_0, tr_row_id rfl]
    rfl
  · unfold mJ7_fill_fda19_l10
    simp only [nlt (show i < 2147483648 by omega) (show n < 2147483648 by omega), if_pos hi]
    rw [tr_wr_nI (by omega) hl, Option.bind_some, tr_row_st, nadd1]
    have := @fl_s (M.1 a) 0 i v
    rw [Nat.zero_add] at this
    rw [this]
  · unfold mJ7_fill_fda19_l10
    simp only [nlt (show n < 2147483648 by omega) (show n < 2147483648 by omega), Nat.lt_irrefl, if_false]
/-- Arrays.fill(a, v) -/
theorem fillAll_eq {sh : Nat → tr_S} {a : Nat} {v : Int32} {M : tr_M} (h0 : 0 < tr_len sh a) (hl : tr_len sh a < 2147483648) : mJ7_fill_53178 sh a v M = some (tr_row M a (fl (M.1 a) 0 (tr_len sh a) v)) := by
  unfold mJ7_fill_53178
  have e0 : decide (tr_len sh a ≠ 0) = true := decide_eq_true (by omega)
  rw [e0]
  simp only [tr_gd, if_true, Option.bind_some]
  refine tr_loop_seq' (fun i => (nI i, tr_row M a (fl (M.1 a) 0 i v))) (tr_len sh a) ?_ (by omega) (fun i hi => ?_) ?_
  · show (nI 0, tr_row M a (fl (M.1 a) 0 0 v)) = _
    rw [fl_0, tr_row_id rfl]
    rfl
  · unfold mJ7_fill_53178_l5
    simp only [nlt (show i < 2147483648 by omega) hl, if_pos hi]
    rw [tr_wr_nI (by omega) hl, Option.bind_some, tr_row_st, nadd1]
    have := @fl_s (M.1 a) 0 i v
    rw [Nat.zero_add] at this
    rw [this]
  · unfold mJ7_fill_53178_l5
    simp only [nlt hl hl, Nat.lt_irrefl, if_false]
theorem make_eq {o n len : Nat} {v : Int32} {M : tr_M} (hl : tr_len shC (o + 1) = len) (h0 : 0 < len) (hn : n ≤ len) (hb : len < 2147483648) : mX1_make o (nI n) v M = some (tr_row (tr_st M o 1 (nI n)) (o + 1) (fl (M.1 (o + 1)) 0 n v)) := by
  unfold mX1_make
  rw [Option.bind_some, fill_eq (by omega) (by omega) (by omega), tr_st_ne (by omega)]
  rfl
theorem rowM_eq {r n : Nat} {M : tr_M} (hr : r < 6) : tr_loop (mX7_row_l34 (nI r) (nI n)) (0, M) = some (nI n, tr_row M 4 (fl (M.1 4) (60 * r) 60 0)) := by
  refine tr_loop_seq' (fun i => (nI i, tr_row M 4 (fl (M.1 4) (60 * r) i 0))) 60 ?_ (by decide) (fun i hi => ?_) ?_
  · show (nI 0, tr_row M 4 (fl (M.1 4) (60 * r) 0 0)) = _
    rw [fl_0, tr_row_id rfl]
    rfl
  · unfold mX7_row_l34
    simp only [show (60 : Int32) = nI 60 from rfl, nlt (show i < 2147483648 by omega) (show 60 < 2147483648 by decide), if_pos hi, nmul, nadd]
    rw [tr_wr_nI (by omega) (by decide), Option.bind_some, tr_row_st, nadd1, fl_s]
  · unfold mX7_row_l34
    simp only [show (60 : Int32) = nI 60 from rfl, nlt (show 60 < 2147483648 by decide) (show 60 < 2147483648 by decide), Nat.lt_irrefl, if_false]
/-- a row that is made anew on both sides -/
theorem made_row {M1 M2 : tr_M} (h : ITF M1 M2) {r n : Nat} (hr : r < 6) (hn : n ≤ 60) {g1 g2 : Nat → Int32} (hg : ∀ i, i < n → g1 i = g2 (60 * r + i)) (hg2 : ∀ j, j < 60 * r ∨ 60 * r + 60 ≤ j → g2 j = M2.1 4 j) {v1 v2 : Int32} (hv1 : v1 = nI n) (hv2 : v2 = nI n) : ITF (tr_row (tr_st M1 (62 + 2 * r) 1 v1) (62 + 2 * r + 1) g1) (tr_row (tr_st M2 3 r v2) 4 g2) ∧ KC M1 (tr_row (tr_st M1 (62 + 2 * r) 1 v1) (62 + 2 * r + 1) g1) ∧ KM M2 (tr_row (tr_st M2 3 r v2) 4 g2) := by
  obtain ⟨hR, hT, h1, h2, h3, h4, h5⟩ := h
  subst hv1 hv2
  refine ⟨⟨fun q hq => ?_, fun t ht => ?_, ?_, fun g hg => ?_, ?_, h4, h5⟩, ⟨fun b hb1 hb2 => ?_, fun k hk => ?_⟩, ?_, ?_, ?_, ?_, ?_⟩
  · by_cases e : q = r
    · subst e
      right
      refine ⟨n, hn, ?_, ?_, fun i hi => ?_⟩
      · rw [tr_row_ne (by omega), tr_st_s]
      · rw [tr_row_ne (by omega), tr_st_s]
      · rw [show 63 + 2 * q = 62 + 2 * q + 1 by omega, tr_row_s, tr_row_s]
        exact hg i hi
    · have := hR q hq
      rcases this with ⟨e1, e2⟩ | ⟨s, hs, e1, e2, e3⟩
      · left
        rw [tr_row_ne (by omega), tr_st_ne (by omega), tr_row_ne (by omega), tr_st_j e]
        exact ⟨e1, e2⟩
      · right
        refine ⟨s, hs, ?_, ?_, fun i hi => ?_⟩
        · rw [tr_row_ne (by omega), tr_st_ne (by omega)]; exact e1
        · rw [tr_row_ne (by omega), tr_st_j e]; exact e2
        · have h9 : 60 * q + i < 60 * r ∨ 60 * r + 60 ≤ 60 * q + i := by omega
          show (tr_row (tr_st M1 (62 + 2 * r) 1 (nI n)) (62 + 2 * r + 1) g1).1 (63 + 2 * q) i = (tr_row (tr_st M2 3 r (nI n)) 4 g2).1 4 (60 * q + i)
          rw [tr_row_ne (by omega), tr_st_ne (by omega), tr_row_s, hg2 _ h9]
          exact e3 i hi
  · have := hT t ht
    simpa (disch := omega) only [tr_st_ne, tr_row_ne] using this
  · simpa (disch := omega) only [tr_st_ne, tr_row_ne] using h1
  · have := h2 g hg
    simpa (disch := omega) only [tr_st_ne, tr_row_ne] using this
  · simpa (disch := omega) only [tr_st_ne, tr_row_ne] using h3
  · rw [tr_row_ne (by omega), tr_st_ne (by omega)]
  · rw [tr_row_ne (by omega), tr_st_ne (by omega)]
  all_goals simp (disch := omega) only [tr_st_ne, tr_row_ne]
theorem pos_cases (p : Int32) (n : Nat) (hn : n < 2147483648) : (nI n < p) ∨ (¬ nI n < p ∧ p < 0) ∨ ∃ k, k ≤ n ∧ p = nI k ∧ ¬ nI n < p ∧ ¬ p < 0 := by
  rcases n_cases p with h | ⟨k, hk, rfl⟩
  · exact Or.inr (Or.inl ⟨(n_lt_neg h hn).2.1, h⟩)
  · by_cases hk2 : k ≤ n
    · exact Or.inr (Or.inr ⟨k, hk2, rfl, by rw [nlt hn hk]; omega, nI_pos hk⟩)
    · exact Or.inl (by rw [nlt hn hk]; omega)
theorem r_row {M1 M2 : tr_M} (h : ITF M1 M2) (p1 p2 : Int32) : Res (mX6_row p1 p2 M1) (mX7_row p1 p2 M2) M1 M2 := by
  unfold mX6_row mX7_row
  rcases isRow_cases p1 with ⟨e1, e2⟩ | ⟨r, hr, rfl, e1, e2⟩
  · simp only [e1, e2, Option.bind_some, if_true]
    exact Res.same h
  · simp only [e1, e2, Option.bind_some, if_neg (show ¬ (1 : Int32) = 0 by decide)]
    rcases pos_cases p2 60 (by decide) with h6 | ⟨h6, h7⟩ | ⟨n, hn, rfl, h6, h7⟩
    · have h6 : (60 : Int32) < p2 := h6
      simp only [if_pos h6]
      exact Res.same h
    · have h6 : ¬ (60 : Int32) < p2 := h6
      simp only [if_neg h6, if_pos h7]
      obtain ⟨a, N1, N2, f1, f2, f3⟩ := found_both h (f := 5) (by decide)
      refine ⟨a, N1, N2, ?_, ?_, f3⟩
      · rw [show (5 : Int32) = nI 5 from rfl, f1]; rfl
      · rw [show (5 : Int32) = nI 5 from rfl, f2]; rfl
    · have h6 : ¬ (60 : Int32) < nI n := h6
      simp only [if_neg h6, if_neg h7]
      rw [tr_ra_nI hr (by decide), Option.bind_some, make_eq (len_row hr) (by decide) hn (by decide), tr_wr_nI hr (by decide)]
      simp only [Option.bind_some]
      rw [rowM_eq hr]
      obtain ⟨g1, g2, g3⟩ := made_row h hr hn (g1 := fl (M1.1 (62 + 2 * r + 1)) 0 n 0) (g2 := fl (M2.1 4) (60 * r) 60 0) (fun i hi => by rw [fl_in (by omega) (by omega), fl_in (by omega) (by omega)]) (fun j hj => fl_out hj) rfl rfl
      exact ⟨_, _, _, rfl, by rw [tr_st_ne (by decide)], g1, g2, g3⟩
