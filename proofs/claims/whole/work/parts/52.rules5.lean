theorem pow_sub1_bit {p i : Nat} : (2 ^ p - 1).testBit i = decide (i < p) := Nat.testBit_two_pow_sub_one p i
theorem in_cases0 (p : Int32) {s : Nat} (hs : s < 1000) : (mX7_in p 0 (nI s) = 0 ∧ (p < 0 ∨ nI s < p)) ∨ ∃ i, i ≤ s ∧ p = nI i ∧ mX7_in p 0 (nI s) = 1 := by
  unfold mX7_in
  rcases n_cases p with h | ⟨k, hk, rfl⟩
  · left
    exact ⟨by rw [if_pos h], Or.inl h⟩
  · rw [if_neg (nI_pos hk)]
    by_cases hks : s < k
    · left
      have : nI s < nI k := (nlt (by omega) hk).mpr hks
      exact ⟨by rw [if_pos this], Or.inr this⟩
    · right
      refine ⟨k, by omega, rfl, ?_⟩
      rw [if_neg (by rw [nlt (by omega) hk]; exact hks)]
def wdBack (w : Wd) (m : Nat) : Wd := (w.1, w.2.1, m, w.2.2.2.1, fun k => decide (k < m) && w.2.2.2.2 k)
theorem wdBack_ok {w : Wd} (h : WOk w) {m : Nat} (hm : m ≤ w.2.2.1) : WOk (wdBack w m) := by
  obtain ⟨h1, h2, h3, h4, h5, h6, h7⟩ := h
  refine ⟨h1, h2, h3, h4, Nat.le_trans hm h5, fun k hk => h6 k (Nat.lt_of_lt_of_le hk hm), fun k hk => ?_⟩
  have hk : m ≤ k := hk
  show (decide (k < m) && _) = false
  simp [show ¬ k < m by omega]
theorem dropRules_wd {w : Wd} {o m : Nat} {M : tr_M} (hw : CWd w o M) (hm : m ≤ 8) : ∃ M', mX5_dropRules o (nI m) M = some M' ∧ (m ≤ w.2.2.1 → CWd (wdBack w m) o M') ∧ (∀ c, c ≠ o → M'.1 c = M.1 c) ∧ M'.2 = M.2 := by
  refine ⟨_, rfl, fun hmw => ?_, fun c hc => ?_, rfl⟩
  · obtain ⟨h1, h2, h3, h4, h5, h6, h7⟩ := hw
    refine ⟨?_, ?_, ?_, fun x y hx hy => ?_, fun x hx => ?_, fun x hx => ?_, fun k hk => ?_⟩
    · rw [tr_st_j (by decide), tr_st_j (by decide)]; exact h1
    · rw [tr_st_j (by decide), tr_st_s]; rfl
    · rw [tr_st_s, tr_st_j (by decide), h3, sh1 (by omega), show (1 : Int32) = nI 1 from rfl, nsub (Nat.one_le_two_pow), and_nI]
      congr 1
      refine mkb_ext (Nat.lt_of_le_of_lt Nat.and_le_left (obits_lt w)) (fun i hi => ?_)
      rw [Nat.testBit_and, obits_bit, pow_sub1_bit]
      show _ = (decide (i < m) && w.2.2.2.2 i)
      simp [hi, Bool.and_comm]
    · rw [tr_st_ne (by omega), tr_st_ne (by omega)]; exact h4 x y hx hy
    · rw [tr_st_ne (by omega), tr_st_ne (by omega)]; exact h5 x hx
    · rw [tr_st_ne (by omega), tr_st_ne (by omega)]; exact h6 x hx
    · simp (disch := omega) only [tr_st_ne]; exact h7 k (Nat.lt_of_lt_of_le hk hmw)
  · rw [tr_st_ne hc, tr_st_ne hc]
theorem r_back {w : Wd} {M1 M2 : tr_M} (h : ITF M1 M2) (hw : IWd w M1 M2) (p1 : Int32) : Res (mX6_back p1 M1) (mX7_back p1 M2) M1 M2 ∨ ResW (mX6_back p1 M1) (mX7_back p1 M2) M1 M2 := by
  have hn := hw.1.2.2.2.2.1
  unfold mX6_back mX7_back
  rw [hw.2.1.2.1, hw.2.2.2.1]
  rcases in_cases0 p1 (show w.2.2.1 < 1000 by omega) with ⟨i1, i2⟩ | ⟨m, hm, rfl, i1⟩
  · left
    rw [i1, if_pos rfl]
    by_cases h0 : p1 < 0
    · rw [if_pos h0]; exact Res.same h
    · rw [if_neg h0, if_pos (i2.resolve_left h0)]; exact Res.same h
  · right
    rw [i1, if_neg (nI_pos (by omega)), if_neg (show ¬ (1 : Int32) = 0 by decide), if_neg (by rw [nlt (by omega) (by omega)]; omega)]
    obtain ⟨N1, e1, e2, e3, e4⟩ := dropRules_wd (m := m) hw.2.1 (by omega)
    rw [e1]
    simp only [Option.bind_some, forget_eq]
    refine ⟨_, _, _, rfl, rfl, ?_, ⟨wdBack w m, wdBack_ok hw.1 hm, ?_, ?_⟩, ?_, ?_, ?_⟩
    · refine h.congr (fun c hc _ _ _ _ => ?_) (fun j hj => ?_) e4 (fun c hc _ _ => ?_) (fun j hj => ?_) (fun j hj => rfl)
      · rw [tr_st_ne (by omega), tr_st_ne (by omega), e3 c (by omega)]
      · rw [tr_st_j (by omega), tr_st_j (by omega), e3 1 (by omega)]
      · rw [tr_st_ne (by omega)]
      · rw [tr_st_j (by omega)]
    · exact (e2 hm).congr (fun c h1 h2 => by rw [tr_st_ne (by omega), tr_st_ne (by omega)])
    · obtain ⟨g1, g2, g3, g4⟩ := hw.2.2
      refine ⟨?_, ?_, fun x y hx hy => ?_, fun j hj => ?_⟩
      · rw [tr_st_j (by decide)]; exact g1
      · rw [tr_st_s]; rfl
      · rw [tr_st_ne (by decide)]; exact g3 x y hx hy
      · have hj : j < m := hj
        obtain ⟨q1, q2, q3, q4, q5⟩ := g4 j (by omega)
        simp only [tr_st_ne (show (9 : Nat) ≠ 1 by decide)]
        refine ⟨q1, q2, q3, q4, ?_⟩
        rw [q5]
        show _ = if (decide (j < m) && w.2.2.2.2 j) = true then 1 else 0
        simp [hj]
    · rw [tr_st_j (by decide), tr_st_s]
    · rw [tr_st_ne (by decide), tr_st_ne (by decide), e3 25 (by decide)]
    · rw [tr_st_j (by decide)]
theorem ruleNum_eq {w : Wd} {o k j : Nat} {M1 M2 : tr_M} (hc : CWd w o M1) (hm : MWd w M2) (hok : WOk w) (hk : k < w.2.2.1) (hj : j < 5) : mX5_ruleNumber o (nI k) (nI j) M1 = some (M2.1 9 (5 * k + j)) := by
  have hn := hok.2.2.2.2.1
  have h8 : k < 8 := by omega
  obtain ⟨q1, q2, q3, q4, q5⟩ := hm.2.2.2 k hk
  obtain ⟨c1, c2, c3, c4⟩ := hc.2.2.2.2.2.2 k hk
  unfold mX5_ruleNumber
  simp only [tr_rd_nI h8 (show 8 < 2147483648 by decide), Option.bind_some, isOff_eq hc h8]
  rcases (show j = 0 ∨ j = 1 ∨ j = 2 ∨ j = 3 ∨ j = 4 by omega) with rfl | rfl | rfl | rfl | rfl
  · rw [if_pos (show nI 0 = 0 from rfl), c1, Nat.add_zero, q1]
  · rw [if_neg (by decide), if_pos (show nI 1 = 1 from rfl), c2, q2]
  · rw [if_neg (by decide), if_neg (by decide), if_pos (show nI 2 = 2 from rfl), c3, q3]
  · rw [if_neg (by decide), if_neg (by decide), if_neg (by decide), if_pos (show nI 3 = 3 from rfl), c4, q4]
  · rw [if_neg (by decide), if_neg (by decide), if_neg (by decide), if_neg (by decide), q5]
    cases w.2.2.2.2 k <;> rfl
theorem r_told {w : Wd} {M1 M2 : tr_M} (h : ITF M1 M2) (hw : IWd w M1 M2) (p1 p2 : Int32) : Res (mX6_told p1 p2 M1) (mX7_told p1 p2 M2) M1 M2 := by
  have hn := hw.1.2.2.2.2.1
  unfold mX6_told mX7_told
  rcases isRule_cases hw p1 with ⟨e1, e2⟩ | ⟨k, hk, rfl, e1, e2⟩
  · simp only [e1, e2, Option.bind_some, if_true]
    exact Res.same h
  · simp only [e1, e2, Option.bind_some, if_neg (show ¬ (1 : Int32) = 0 by decide)]
    rcases in_cases0 p2 (show 4 < 1000 by decide) with ⟨i1, i2⟩ | ⟨j, hj, rfl, i1⟩
    · rw [show (4 : Int32) = nI 4 from rfl, i1, if_pos rfl]
      by_cases h0 : p2 < 0
      · rw [if_pos h0]; exact Res.same h
      · rw [if_neg h0, if_pos (i2.resolve_left h0)]; exact Res.same h
    · rw [show (4 : Int32) = nI 4 from rfl, i1, if_neg (nI_pos (by omega)), if_neg (show ¬ (1 : Int32) = 0 by decide), if_neg (by rw [nlt (by decide) (by omega)]; omega)]
      rw [ruleNum_eq hw.2.1 hw.2.2 hw.1 hk (by omega), ruleAt_eq (by omega) (by omega)]
      simp only [Option.bind_some, tells_eq]
      obtain ⟨a1, a2, a3⟩ := ask_both h (M2.1 9 (5 * k + j))
      exact ⟨_, _, _, rfl, rfl, a1, a2, a3⟩
theorem lesser_min (a b : Int32) : mX7_lesser a b = mJ9_min a b := by
  unfold mX7_lesser mJ9_min
  by_cases h : b < a
  · rw [if_pos h, if_neg (Int32.lt_asymm h)]
  · rw [if_neg h]
    by_cases e : a < b
    · rw [if_pos e]
    · rw [if_neg e]
      exact Int32.le_antisymm (Int32.not_lt.mp e) (Int32.not_lt.mp h)
