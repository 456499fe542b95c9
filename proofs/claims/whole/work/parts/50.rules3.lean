theorem ruleM_wd {w : Wd} {kd x y z : Nat} {M : tr_M} (hw : MWd w M) (h8 : w.2.2.1 < 8) (hoff : w.2.2.2.2 w.2.2.1 = false) : MWd (wdAdd w (kd, x, y, z)) (tr_st (tr_st (tr_st (tr_st (tr_st (tr_st M 9 (5 * w.2.2.1) (nI kd)) 9 (5 * w.2.2.1 + 1) (nI x)) 9 (5 * w.2.2.1 + 2) (nI y)) 9 (5 * w.2.2.1 + 3) (nI z)) 9 (5 * w.2.2.1 + 4) 0) 1 12 (nI (w.2.2.1 + 1))) := by
  obtain ⟨h1, h2, h3, h4⟩ := hw
  refine ⟨?_, ?_, fun a b ha hb => ?_, fun k hk => ?_⟩
  · rw [tr_st_j (by decide)]; simp (disch := omega) only [tr_st_ne]; exact h1
  · rw [tr_st_s]; rfl
  · simp (disch := omega) only [tr_st_ne]; exact h3 a b ha hb
  · have hk : k < w.2.2.1 + 1 := hk
    show _ = nI (if k = w.2.2.1 then (kd, x, y, z) else w.2.2.2.1 k).1 ∧ _ = nI (if k = w.2.2.1 then (kd, x, y, z) else w.2.2.2.1 k).2.1 ∧ _ = nI (if k = w.2.2.1 then (kd, x, y, z) else w.2.2.2.1 k).2.2.1 ∧ _ = nI (if k = w.2.2.1 then (kd, x, y, z) else w.2.2.2.1 k).2.2.2 ∧ _ = if w.2.2.2.2 k = true then 1 else 0
    by_cases e : k = w.2.2.1
    · simp only [if_pos e]
      subst e
      refine ⟨?_, ?_, ?_, ?_, ?_⟩
      · simp (disch := omega) only [tr_st_ne, tr_st_j, tr_st_s]
      · simp (disch := omega) only [tr_st_ne, tr_st_j, tr_st_s]
      · simp (disch := omega) only [tr_st_ne, tr_st_j, tr_st_s]
      · simp (disch := omega) only [tr_st_ne, tr_st_j, tr_st_s]
      · rw [hoff]
        simp (disch := omega) only [tr_st_ne, tr_st_j, tr_st_s]
        rfl
    · simp only [if_neg e]
      obtain ⟨q1, q2, q3, q4, q5⟩ := h4 k (by omega)
      refine ⟨?_, ?_, ?_, ?_, ?_⟩
      · simp (disch := omega) only [tr_st_ne, tr_st_j]; exact q1
      · simp (disch := omega) only [tr_st_ne, tr_st_j]; exact q2
      · simp (disch := omega) only [tr_st_ne, tr_st_j]; exact q3
      · simp (disch := omega) only [tr_st_ne, tr_st_j]; exact q4
      · simp (disch := omega) only [tr_st_ne, tr_st_j]; exact q5
theorem r_rule {w : Wd} {M1 M2 : tr_M} (h : ITF M1 M2) (hw : IWd w M1 M2) (p1 p2 p3 p4 : Int32) : Res (mX6_rule p1 p2 p3 p4 M1) (mX7_rule p1 p2 p3 p4 M2) M1 M2 ∨ ResW (mX6_rule p1 p2 p3 p4 M1) (mX7_rule p1 p2 p3 p4 M2) M1 M2 := by
  rcases rule_both hw p1 p2 p3 p4 with ⟨e1, e2⟩ | ⟨e1, e2, kd, x, y, z, rfl, hkd, hok, hx, hy, hz⟩
  · left
    unfold mX6_rule mX7_rule
    rw [e1, e2]
    exact Res.same h
  · have hr8 := hw.1.2.2.2.2.1
    by_cases h8 : w.2.2.1 = 8
    · left
      unfold mX6_rule mX7_rule
      have q1 : M1.1 26 1 = 8 := by rw [hw.2.1.2.1, h8]; rfl
      have q2 : M2.1 1 12 = 8 := by rw [hw.2.2.2.1, h8]; rfl
      rw [e1, e2]
      simp only [Option.bind_some, if_neg (show ¬ (1 : Int32) = 0 by decide), q1, q2, if_true]
      exact Res.same h
    · right
      have h88 : w.2.2.1 < 8 := by omega
      have q1 : ¬ M1.1 26 1 = 8 := by
        rw [hw.2.1.2.1, show (8 : Int32) = nI 8 from rfl, neq (by omega) (by decide)]
        exact h8
      rw [ruleM_eq h88 hw.2.2.2.1 e2, hx, hy, hz]
      unfold mX6_rule
      rw [e1]
      simp only [Option.bind_some, if_neg (show ¬ (1 : Int32) = 0 by decide), if_neg q1, forget_eq]
      have hcw : CWd w 26 (tr_st (tr_st M1 1 15 (-9)) 1 16 (nI 0)) := hw.2.1.congr (fun c h1 h2 => by rw [tr_st_ne (by omega), tr_st_ne (by omega)])
      obtain ⟨N, e5, e6, e7, e8⟩ := addRule_wd hcw h88 hx hy hz
      rw [e5]
      refine ⟨_, _, _, rfl, rfl, ?_, ⟨_, wdAdd_ok hw.1 hok h88, e6, ruleM_wd hw.2.2 h88 (hw.1.2.2.2.2.2.2 _ (Nat.le_refl _))⟩, ?_, ?_, ?_⟩
      · refine h.congr (fun c hc _ _ _ _ => ?_) (fun k hk => ?_) ?_ (fun c hc _ _ => ?_) (fun k hk => ?_) (fun k hk => rfl)
        · rw [e7 c (by omega) (by omega), tr_st_ne (by omega), tr_st_ne (by omega)]
        · rw [e7 1 (by omega) (by omega), tr_st_j (by omega), tr_st_j (by omega)]
        · exact e8
        · simp (disch := omega) only [tr_st_ne]
        · rw [tr_st_j (by omega)]; simp (disch := omega) only [tr_st_ne]
      · show N.1 1 15 = -9
        rw [e7 1 (by omega) (by omega), tr_st_j (by decide), tr_st_s]
      · show N.1 25 = M1.1 25
        rw [e7 25 (by omega) (by omega), tr_st_ne (by decide), tr_st_ne (by decide)]
      · rw [tr_st_j (by decide)]; simp (disch := omega) only [tr_st_ne]
