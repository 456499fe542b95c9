theorem r_mark {w : Wd} {M1 M2 : tr_M} (h : ITF M1 M2) (hw : IWd w M1 M2) (p1 p2 : Int32) : Res (mX6_mark p1 p2 M1) (mX7_mark p1 p2 M2) M1 M2 := by
  have hn := hw.1.2.2.2.2.1
  unfold mX6_mark mX7_mark
  rcases isRule_cases hw p1 with ⟨e1, e2⟩ | ⟨k, hk, rfl, e1, e2⟩
  · simp only [e1, e2, Option.bind_some, if_true]
    exact Res.same h
  · have h8 : k < 8 := by omega
    simp only [e1, e2, Option.bind_some, if_neg (show ¬ (1 : Int32) = 0 by decide)]
    have hin : (mX7_in p2 1 6 = 0 ∧ (p2 < 1 ∨ 6 < p2)) ∨ (mX7_in p2 1 6 = 1 ∧ ¬ p2 < 1 ∧ ¬ 6 < p2) := by
      unfold mX7_in
      by_cases a : p2 < 1
      · left; rw [if_pos a]; exact ⟨rfl, Or.inl a⟩
      · rw [if_neg a]
        by_cases b : (6 : Int32) < p2
        · left; rw [if_pos b]; exact ⟨rfl, Or.inr b⟩
        · right; rw [if_neg b]; exact ⟨rfl, a, b⟩
    rcases hin with ⟨i1, i2⟩ | ⟨i1, i2, i3⟩
    · rw [i1, if_pos rfl]
      by_cases h0 : p2 < 1
      · rw [if_pos h0]; exact Res.same h
      · rw [if_neg h0, if_pos (i2.resolve_left h0)]; exact Res.same h
    · rw [i1, if_neg i2, if_neg i3, if_neg (show ¬ (1 : Int32) = 0 by decide)]
      obtain ⟨q1, q2, q3, q4, q5⟩ := hw.2.2.2.2.2 k hk
      obtain ⟨c1, c2, c3, c4⟩ := hw.2.1.2.2.2.2.2.2 k hk
      have a0 : mX7_ruleAt (nI k) 0 M2 = some (nI (w.2.2.2.1 k).1) := by rw [show (0 : Int32) = nI 0 from rfl, ruleAt_eq h8 (by decide), Nat.add_zero, q1]
      have a1 : mX7_ruleAt (nI k) 1 M2 = some (nI (w.2.2.2.1 k).2.1) := by rw [show (1 : Int32) = nI 1 from rfl, ruleAt_eq h8 (by decide), q2]
      have a2 : mX7_ruleAt (nI k) 2 M2 = some (nI (w.2.2.2.1 k).2.2.1) := by rw [show (2 : Int32) = nI 2 from rfl, ruleAt_eq h8 (by decide), q3]
      have a3 : mX7_ruleAt (nI k) 3 M2 = some (nI (w.2.2.2.1 k).2.2.2) := by rw [show (3 : Int32) = nI 3 from rfl, ruleAt_eq h8 (by decide), q4]
      unfold mX5_isOfKind mX5_markOf
      simp only [a0, a1, a2, a3, tr_rd_nI h8 (show 8 < 2147483648 by decide), Option.bind_some, c1, c2, c3, c4, lesser_min, hw.2.1.1]
      have hf : Res (mX6_found 3 M1) (mX7_meets 3 M2) M1 M2 := found_both h (f := 3) (by decide)
      by_cases k1 : nI (w.2.2.2.1 k).1 = p2
      · simp only [if_pos k1, Option.bind_some, if_neg (show ¬ (1 : Int32) = 0 by decide), tr_el, hw.2.2.1]
        by_cases z1 : p2 = 1
        · subst z1; exact Res.same h
        · by_cases z2 : p2 = 2
          · subst z2; exact Res.same h
          · by_cases z3 : p2 = 3
            · subst z3; exact Res.same h
            · by_cases z4 : p2 = 4
              · subst z4; exact Res.same h
              · simp only [if_neg z1, if_neg z2, if_neg z3, if_neg z4]
                by_cases z5 : p2 = 5
                · simp only [if_pos z5]
                  by_cases z6 : nI (w.2.2.2.1 k).1 = 6
                  · simp only [if_pos z6]; exact Res.same h
                  · simp only [if_neg z6]; exact Res.same h
                · simp only [if_neg z5]; exact Res.same h
      · simp only [if_neg k1]
        by_cases z1 : p2 = 1
        · subst z1
          simp only [if_true, if_neg (show ¬ (1 : Int32) = 5 by decide), if_neg (show ¬ (1 : Int32) = 2 by decide), if_neg (show ¬ (1 : Int32) = 3 by decide), if_neg (show ¬ (1 : Int32) = 4 by decide)]
          by_cases k2 : nI (w.2.2.2.1 k).1 = 2
          · simp only [if_pos k2, Option.bind_some, tr_el, if_neg (show ¬ (1 : Int32) = 0 by decide)]
            exact Res.same h
          · simp only [if_neg k2, Option.bind_some, tr_el, if_true]
            obtain ⟨r, N1, N2, f1, f2, f3⟩ := hf
            rw [f1, f2]
            exact ⟨_, _, _, rfl, rfl, f3⟩
        · by_cases z5 : p2 = 5
          · subst z5
            simp only [if_true, if_neg (show ¬ (5 : Int32) = 1 by decide), if_neg (show ¬ (5 : Int32) = 2 by decide), if_neg (show ¬ (5 : Int32) = 3 by decide), if_neg (show ¬ (5 : Int32) = 4 by decide)]
            by_cases k2 : nI (w.2.2.2.1 k).1 = 6
            · simp only [if_pos k2, Option.bind_some, tr_el, if_neg (show ¬ (1 : Int32) = 0 by decide)]
              exact Res.same h
            · simp only [if_neg k2, Option.bind_some, tr_el, if_true]
              obtain ⟨r, N1, N2, f1, f2, f3⟩ := hf
              rw [f1, f2]
              exact ⟨_, _, _, rfl, rfl, f3⟩
          · simp only [if_neg z1, if_neg z5, Option.bind_some, tr_el, if_true]
            obtain ⟨r, N1, N2, f1, f2, f3⟩ := hf
            rw [f1, f2]
            exact ⟨_, _, _, rfl, rfl, f3⟩
