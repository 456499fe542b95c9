theorem Res.keep {ρ : Type} {a b : Option (ρ × tr_M)} {M1 M2 N1 N2 : tr_M} (h : Res a b N1 N2) (k1 : KC M1 N1) (k2 : KM M2 N2) : Res a b M1 M2 := by
  obtain ⟨r, P1, P2, e1, e2, e3, e4, e5⟩ := h
  exact ⟨r, P1, P2, e1, e2, e3, k1.tr e4, k2.tr e5⟩
theorem Res.pair {a b : Option (Int32 × tr_M)} {M1 M2 : tr_M} (h : Res a b M1 M2) : Res (Option.bind a (fun c => some (c.1, c.2))) (Option.bind b (fun c => some (c.1, c.2))) M1 M2 := by
  obtain ⟨r, P1, P2, e1, e2, e3⟩ := h
  exact ⟨r, P1, P2, by rw [e1]; rfl, by rw [e2]; rfl, e3⟩
theorem in_cases (p : Int32) {s : Nat} (hs : s < 1000) : (mX7_in p 0 (nI s - 1) = 0 ∧ (p < 0 ∨ ¬ p < nI s)) ∨ ∃ i, i < s ∧ p = nI i ∧ mX7_in p 0 (nI s - 1) = 1 := by
  unfold mX7_in
  rcases n_cases p with h | ⟨k, hk, rfl⟩
  · left
    rw [if_pos h]
    exact ⟨rfl, Or.inl h⟩
  · rw [if_neg (nI_pos hk)]
    have e : (nI s - 1 < nI k) ↔ s ≤ k := by
      rw [Int32.lt_iff_toInt_lt, show (1 : Int32) = nI 1 from rfl, pk_sub_toInt (by omega) (by decide), nI_toInt hk]
      omega
    by_cases hks : s ≤ k
    · left
      rw [if_pos (e.mpr hks)]
      exact ⟨rfl, Or.inr (by rw [nlt hk (by omega)]; omega)⟩
    · right
      refine ⟨k, by omega, rfl, ?_⟩
      rw [if_neg (fun q => hks (e.mp q))]
theorem faultAt_m {o : Nat} {p : Int32} {M : tr_M} (h : M.1 o 1 = -1) : mX1_faultAt o p M = 1 := by
  unfold mX1_faultAt mX1_isMissing
  rw [h]
  simp
theorem miss_m {o : Nat} {M : tr_M} (h : M.1 o 1 = -1) : mX1_isMissing o M = 1 := by
  unfold mX1_isMissing
  rw [h]
  simp
theorem miss_s {o s : Nat} {M : tr_M} (h : M.1 o 1 = nI s) (hs : s < 1000) : mX1_isMissing o M = 0 := by
  unfold mX1_isMissing
  rw [h, if_neg (nI_pos (by omega))]
theorem faultAt_i {o s i : Nat} {M : tr_M} (h : M.1 o 1 = nI s) (hs : s < 1000) (hi : i < s) : mX1_faultAt o (nI i) M = 0 := by
  unfold mX1_faultAt
  rw [miss_s h hs, if_pos rfl, if_neg (nI_pos (by omega)), h, if_pos (by rw [nlt (by omega) (by omega)]; exact hi)]
theorem faultAt_o {o s : Nat} {p : Int32} {M : tr_M} (h : M.1 o 1 = nI s) (hs : s < 1000) (hp : p < 0 ∨ ¬ p < nI s) : mX1_faultAt o p M = 2 := by
  unfold mX1_faultAt
  rw [miss_s h hs, if_pos rfl]
  by_cases h0 : p < 0
  · rw [if_pos h0]
  · rw [if_neg h0, h, if_neg (hp.resolve_left h0)]
theorem ask_both {M1 M2 : tr_M} (h : ITF M1 M2) (v : Int32) : ITF (tr_st M1 1 12 v) (tr_st M2 1 2 v) ∧ KC M1 (tr_st M1 1 12 v) ∧ KM M2 (tr_st M2 1 2 v) := by
  obtain ⟨hR, hT, h1, h2, h3, h4, h5⟩ := h
  refine ⟨⟨fun r hr => ?_, fun t ht => ?_, ?_, fun g hg => ?_, ?_, h4, h5⟩, ⟨fun b hb1 hb2 => ?_, fun k hk => ?_⟩, ?_, ?_, ?_, ?_, ?_⟩
  · have := hR r hr
    simpa (disch := omega) only [tr_st_ne] using this
  · have := hT t ht
    simpa (disch := omega) only [tr_st_ne] using this
  · rw [tr_st_j (by decide), tr_st_j (by decide)]; exact h1
  · rw [tr_st_ne (by decide), tr_st_ne (by decide)]; exact h2 g hg
  · rw [tr_st_s, tr_st_s]
  · rw [tr_st_ne (by omega)]
  · rw [tr_st_j (by omega)]
  · rw [tr_st_ne (by decide)]
  · rw [tr_st_ne (by decide)]
  · rw [tr_st_j (by decide)]
  · rw [tr_st_j (by decide)]
  · rw [tr_st_j (by decide)]
theorem tells_eq (v a : Int32) (M : tr_M) : mX7_tells v a M = some (a, tr_st M 1 2 v) := rfl
theorem set_row {M1 M2 : tr_M} (h : ITF M1 M2) {r i : Nat} (hr : r < 6) (hi : i < 60) (v : Int32) : ITF (tr_st M1 (62 + 2 * r + 1) i v) (tr_st M2 4 (60 * r + i) v) ∧ KC M1 (tr_st M1 (62 + 2 * r + 1) i v) ∧ KM M2 (tr_st M2 4 (60 * r + i) v) := by
  obtain ⟨hR, hT, h1, h2, h3, h4, h5⟩ := h
  refine ⟨⟨fun q hq => ?_, fun t ht => ?_, ?_, fun g hg => ?_, ?_, h4, h5⟩, ⟨fun b hb1 hb2 => ?_, fun k hk => ?_⟩, ?_, ?_, ?_, ?_, ?_⟩
  · have := hR q hq
    rcases this with ⟨e1, e2⟩ | ⟨s, hs, e1, e2, e3⟩
    · left
      rw [tr_st_ne (by omega), tr_st_ne (by decide)]
      exact ⟨e1, e2⟩
    · right
      refine ⟨s, hs, by rw [tr_st_ne (by omega)]; exact e1, by rw [tr_st_ne (by decide)]; exact e2, fun j hj => ?_⟩
      have e4 := e3 j hj
      show (tr_st M1 (62 + 2 * r + 1) i v).1 (63 + 2 * q) j = (tr_st M2 4 (60 * r + i) v).1 4 (60 * q + j)
      rw [tr_st_1, tr_st_1]
      by_cases c : q = r ∧ j = i
      · rw [if_pos (by omega), if_pos (by omega)]
      · rw [if_neg (by omega), if_neg (by omega)]
        exact e4
  · have := hT t ht
    simpa (disch := omega) only [tr_st_ne] using this
  · simpa (disch := omega) only [tr_st_ne] using h1
  · have := h2 g hg
    simpa (disch := omega) only [tr_st_ne] using this
  · simpa (disch := omega) only [tr_st_ne] using h3
  · rw [tr_st_ne (by omega)]
  · rw [tr_st_ne (by omega)]
  all_goals simp (disch := omega) only [tr_st_ne]
theorem rowAt_eq {r i : Nat} {M : tr_M} (hr : r < 6) (hi : i < 60) : mX7_rowAt (nI r) (nI i) M = some (M.1 4 (60 * r + i)) := by
  unfold mX7_rowAt
  rw [show (60 : Int32) = nI 60 from rfl, nmul, nadd, tr_rd_nI (by omega) (by decide)]
  rfl
theorem r_at {M1 M2 : tr_M} (h : ITF M1 M2) (p1 p2 : Int32) : Res (mX6_at p1 p2 M1) (mX7_at p1 p2 M2) M1 M2 := by
  unfold mX6_at mX7_at
  rcases isRow_cases p1 with ⟨e1, e2⟩ | ⟨r, hr, rfl, e1, e2⟩
  · simp only [e1, e2, Option.bind_some, if_true]
    exact Res.same h
  · simp only [e1, e2, Option.bind_some, if_neg (show ¬ (1 : Int32) = 0 by decide), tr_ra_nI hr (show 6 < 2147483648 by decide), tr_rd_nI hr (show 6 < 2147483648 by decide)]
    rcases h.1 r hr with ⟨m1, m2⟩ | ⟨s, hs, m1, m2, m3⟩
    · rw [faultAt_m m1, m2, if_neg (by decide), if_pos (by decide)]
      exact (found_both h (f := 1) (by decide)).pair
    · rw [m2, if_neg (nI_pos (by omega))]
      rcases in_cases p2 (show s < 1000 by omega) with ⟨i1, i2⟩ | ⟨i, hi, rfl, i1⟩
      · rw [faultAt_o m1 (by omega) i2, i1, if_neg (by decide), if_pos rfl]
        exact (found_both h (f := 2) (by decide)).pair
      · rw [faultAt_i m1 (by omega) hi, i1, if_pos rfl, if_neg (by decide), len_row hr, tr_rd_nI (by omega) (by decide), rowAt_eq hr (by omega)]
        simp only [Option.bind_some, tells_eq]
        have e := m3 i hi
        have e : M1.1 (62 + 2 * r + 1) i = M2.1 4 (60 * r + i) := by rw [show 62 + 2 * r + 1 = 63 + 2 * r by omega]; exact e
        rw [e]
        exact ⟨_, _, _, rfl, rfl, ask_both h _⟩
theorem r_lay {M1 M2 : tr_M} (h : ITF M1 M2) (p1 p2 p3 : Int32) : Res (mX6_lay p1 p2 p3 M1) (mX7_lay p1 p2 p3 M2) M1 M2 := by
  unfold mX6_lay mX7_lay
  rcases isRow_cases p1 with ⟨e1, e2⟩ | ⟨r, hr, rfl, e1, e2⟩
  · simp only [e1, e2, Option.bind_some, if_true]
    exact Res.same h
  · simp only [e1, e2, Option.bind_some, if_neg (show ¬ (1 : Int32) = 0 by decide), tr_ra_nI hr (show 6 < 2147483648 by decide), tr_rd_nI hr (show 6 < 2147483648 by decide)]
    rcases h.1 r hr with ⟨m1, m2⟩ | ⟨s, hs, m1, m2, m3⟩
    · rw [faultAt_m m1, m2, if_neg (by decide), if_pos (by decide)]
      exact (found_both h (f := 1) (by decide)).pair
    · rw [m2, if_neg (nI_pos (by omega))]
      rcases in_cases p2 (show s < 1000 by omega) with ⟨i1, i2⟩ | ⟨i, hi, rfl, i1⟩
      · rw [faultAt_o m1 (by omega) i2, i1, if_neg (by decide), if_pos rfl]
        exact (found_both h (f := 2) (by decide)).pair
      · rw [faultAt_i m1 (by omega) hi, i1, if_pos rfl, if_neg (by decide), len_row hr, tr_rd_nI (by omega) (by decide), rowAt_eq hr (by omega)]
        simp only [Option.bind_some, tells_eq]
        have e := m3 i hi
        have e : M1.1 (62 + 2 * r + 1) i = M2.1 4 (60 * r + i) := by rw [show 62 + 2 * r + 1 = 63 + 2 * r by omega]; exact e
        rw [e, tr_wr_nI (show i < 60 by omega) (by decide), show (60 : Int32) = nI 60 from rfl, nmul, nadd, tr_wr_nI (show 60 * r + i < 360 by omega) (by decide)]
        simp only [Option.bind_some]
        obtain ⟨a1, a2, a3⟩ := ask_both h (M2.1 4 (60 * r + i))
        obtain ⟨b1, b2, b3⟩ := set_row a1 hr (show i < 60 by omega) p3
        refine ⟨_, _, _, rfl, rfl, ?_, a2.tr b2, ?_⟩
        · have e3 : tr_st (tr_st M2 4 (60 * r + i) p3) 1 2 (M2.1 4 (60 * r + i)) = tr_st (tr_st M2 1 2 (M2.1 4 (60 * r + i))) 4 (60 * r + i) p3 := by
            refine Prod.ext (funext fun b => funext fun j => ?_) rfl
            simp only [tr_st_1]
            by_cases hb : b = 4
            · subst hb; simp
            · simp [hb]
          rw [e3]
          exact b1
        · have e3 : tr_st (tr_st M2 4 (60 * r + i) p3) 1 2 (M2.1 4 (60 * r + i)) = tr_st (tr_st M2 1 2 (M2.1 4 (60 * r + i))) 4 (60 * r + i) p3 := by
            refine Prod.ext (funext fun b => funext fun j => ?_) rfl
            simp only [tr_st_1]
            by_cases hb : b = 4
            · subst hb; simp
            · simp [hb]
          rw [e3]
          exact a3.tr b3
theorem r_tear {M1 M2 : tr_M} (h : ITF M1 M2) (p1 : Int32) : Res (mX6_tear p1 M1) (mX7_tear p1 M2) M1 M2 := by
  unfold mX6_tear mX7_tear
  rcases isRow_cases p1 with ⟨e1, e2⟩ | ⟨r, hr, rfl, e1, e2⟩
  · simp only [e1, e2, Option.bind_some, if_true]
    exact Res.same h
  · simp only [e1, e2, Option.bind_some, if_neg (show ¬ (1 : Int32) = 0 by decide), tr_ra_nI hr (show 6 < 2147483648 by decide), tr_rd_nI hr (show 6 < 2147483648 by decide), tr_wr_nI hr (show 6 < 2147483648 by decide)]
    have hh := h
    obtain ⟨hR, hT, h1, h2, h3, h4, h5⟩ := h
    rcases hR r hr with ⟨m1, m2⟩ | ⟨s, hs, m1, m2, m3⟩
    · rw [miss_m m1, m2, if_neg (by decide), if_pos (by decide)]
      exact (found_both hh (f := 1) (by decide)).pair
    · rw [miss_s m1 (by omega), m2, if_neg (nI_pos (by omega)), if_pos rfl]
      refine ⟨_, _, _, rfl, rfl, ⟨fun q hq => ?_, fun t ht => ?_, ?_, fun g hg => ?_, ?_, h4, h5⟩, ⟨fun b hb1 hb2 => ?_, fun k hk => ?_⟩, ?_, ?_, ?_, ?_, ?_⟩
      · by_cases e : q = r
        · subst e
          left
          rw [tr_st_s, tr_st_s]
          exact ⟨rfl, rfl⟩
        · have := hR q hq
          rw [tr_st_ne (by omega), tr_st_j e]
          simp (disch := omega) only [tr_st_ne]
          exact this
      · have := hT t ht
        simpa (disch := omega) only [tr_st_ne] using this
      · simpa (disch := omega) only [tr_st_ne] using h1
      · have := h2 g hg
        simpa (disch := omega) only [tr_st_ne] using this
      · simpa (disch := omega) only [tr_st_ne] using h3
      · rw [tr_st_ne (by omega)]
      · rw [tr_st_ne (by omega)]
      all_goals simp (disch := omega) only [tr_st_ne]
theorem r_asked {M1 M2 : tr_M} (h : ITF M1 M2) : mX6_asked M1 = mX7_asked M2 := h.2.2.2.2.1
theorem r_finding {M1 M2 : tr_M} (h : ITF M1 M2) : mX6_finding M1 = mX7_finding M2 := h.2.2.1
theorem r_upper {M1 M2 : tr_M} (h : ITF M1 M2) : mX6_upper M1 = mX7_upper M2 := h.2.2.2.2.2.1
theorem r_lower {M1 M2 : tr_M} (h : ITF M1 M2) : mX6_lower M1 = mX7_lower M2 := h.2.2.2.2.2.2
