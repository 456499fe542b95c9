/-- a world with one rule more -/
def wdAdd (w : Wd) (r : Nat × Nat × Nat × Nat) : Wd := (w.1, w.2.1, w.2.2.1 + 1, fun k => if k = w.2.2.1 then r else w.2.2.2.1 k, w.2.2.2.2)
theorem wdAdd_ok {w : Wd} (h : WOk w) {r : Nat × Nat × Nat × Nat} (hr : ruleOk w.1 r) (h8 : w.2.2.1 < 8) : WOk (wdAdd w r) := by
  obtain ⟨h1, h2, h3, h4, h5, h6, h7⟩ := h
  refine ⟨h1, h2, h3, h4, ?_, fun k hk => ?_, fun k hk => h7 k ?_⟩
  · show w.2.2.1 + 1 ≤ 8
    omega
  · show ruleOk w.1 (if k = w.2.2.1 then r else w.2.2.2.1 k)
    have hk : k < w.2.2.1 + 1 := hk
    by_cases e : k = w.2.2.1
    · rw [if_pos e]; exact hr
    · rw [if_neg e]; exact h6 k (by omega)
  · have hk : w.2.2.1 + 1 ≤ k := hk
    omega
theorem if_some {c : Prop} [Decidable c] {a b : Int32} : (if c then some a else some b) = some (if c then a else b) := by
  by_cases h : c <;> simp [h]
theorem addRule_eq {o n : Nat} {p1 p2 p3 p4 : Int32} {M : tr_M} (hn : n < 8) (h : M.1 o 1 = nI n) : mX5_addRule o p1 p2 p3 p4 M = some (nI n, tr_st (tr_st (tr_st (tr_st (tr_st M (o + 14) n p1) (o + 15) n (if p1 = 0 then 0 else p2)) (o + 16) n (if p1 = 0 then 0 else p3)) (o + 17) n (if p1 = 6 then p4 else 0)) o 1 (nI (n + 1))) := by
  unfold mX5_addRule
  simp only [h, if_some, Option.bind_some]
  rw [tr_wr_nI hn (by decide)]
  simp only [Option.bind_some]
  rw [tr_wr_nI hn (by decide)]
  simp only [Option.bind_some]
  rw [tr_wr_nI hn (by decide)]
  simp only [Option.bind_some]
  rw [tr_wr_nI hn (by decide)]
  simp only [Option.bind_some]
  rw [tr_st_ne (show o ≠ o + 17 by omega), tr_st_ne (show o ≠ o + 16 by omega), tr_st_ne (show o ≠ o + 15 by omega), tr_st_ne (show o ≠ o + 14 by omega), h, nadd1]
theorem addRule_wd {w : Wd} {o kd x y z : Nat} {p2 p3 p4 : Int32} {M : tr_M} (hw : CWd w o M) (h8 : w.2.2.1 < 8) (hx : (if nI kd = 0 then 0 else p2) = nI x) (hy : (if nI kd = 0 then 0 else p3) = nI y) (hz : (if nI kd = 6 then p4 else 0) = nI z) : ∃ M', mX5_addRule o (nI kd) p2 p3 p4 M = some (nI w.2.2.1, M') ∧ CWd (wdAdd w (kd, x, y, z)) o M' ∧ (∀ c, c ≠ o → (c < o + 14 ∨ o + 17 < c) → M'.1 c = M.1 c) ∧ M'.2 = M.2 := by
  refine ⟨_, addRule_eq h8 hw.2.1, ?_, fun c hc hc2 => ?_, rfl⟩
  · rw [hx, hy, hz]
    obtain ⟨h1, h2, h3, h4, h5, h6, h7⟩ := hw
    refine ⟨?_, ?_, ?_, fun a b ha hb => ?_, fun a ha => ?_, fun a ha => ?_, fun k hk => ?_⟩
    · rw [tr_st_j (by decide)]; simp (disch := omega) only [tr_st_ne]; exact h1
    · rw [tr_st_s]; rfl
    · rw [tr_st_j (by decide)]; simp (disch := omega) only [tr_st_ne]; exact h3
    · simp (disch := omega) only [tr_st_ne]; exact h4 a b ha hb
    · simp (disch := omega) only [tr_st_ne]; exact h5 a ha
    · simp (disch := omega) only [tr_st_ne]; exact h6 a ha
    · have hk : k < w.2.2.1 + 1 := hk
      show _ = nI (if k = w.2.2.1 then (kd, x, y, z) else w.2.2.2.1 k).1 ∧ _ = nI (if k = w.2.2.1 then (kd, x, y, z) else w.2.2.2.1 k).2.1 ∧ _ = nI (if k = w.2.2.1 then (kd, x, y, z) else w.2.2.2.1 k).2.2.1 ∧ _ = nI (if k = w.2.2.1 then (kd, x, y, z) else w.2.2.2.1 k).2.2.2
      by_cases e : k = w.2.2.1
      · simp only [if_pos e]
        subst e
        refine ⟨?_, ?_, ?_, ?_⟩
        · simp (disch := omega) only [tr_st_ne, tr_st_s]
        · simp (disch := omega) only [tr_st_ne, tr_st_s]
        · simp (disch := omega) only [tr_st_ne, tr_st_s]
        · simp (disch := omega) only [tr_st_ne, tr_st_s]
      · simp only [if_neg e]
        obtain ⟨q1, q2, q3, q4⟩ := h7 k (by omega)
        refine ⟨?_, ?_, ?_, ?_⟩
        · simp (disch := omega) only [tr_st_ne]; rw [tr_st_j e]; exact q1
        · simp (disch := omega) only [tr_st_ne]; rw [tr_st_j e, tr_st_ne (by omega)]; exact q2
        · simp (disch := omega) only [tr_st_ne]; rw [tr_st_j e]; simp (disch := omega) only [tr_st_ne]; exact q3
        · rw [tr_st_ne (by omega), tr_st_j e]; simp (disch := omega) only [tr_st_ne]; exact q4
  · simp (disch := omega) only [tr_st_ne]
theorem ruleM_eq {n : Nat} {p1 p2 p3 p4 : Int32} {M : tr_M} (hn : n < 8) (h : M.1 1 12 = nI n) (ht : mX7_isRuleTold p1 p2 p3 p4 M = some 1) : mX7_rule p1 p2 p3 p4 M = some (nI n, tr_st (tr_st (tr_st (tr_st (tr_st (tr_st M 9 (5 * n) p1) 9 (5 * n + 1) (if p1 = 0 then 0 else p2)) 9 (5 * n + 2) (if p1 = 0 then 0 else p3)) 9 (5 * n + 3) (if p1 = 6 then p4 else 0)) 9 (5 * n + 4) 0) 1 12 (nI (n + 1))) := by
  unfold mX7_rule
  rw [ht]
  have h8 : ¬ nI n = 8 := by
    rw [show (8 : Int32) = nI 8 from rfl, neq (by omega) (by decide)]
    omega
  simp only [h, if_some, Option.bind_some, if_neg (show ¬ (1 : Int32) = 0 by decide), if_neg h8]
  rw [show (5 : Int32) = nI 5 from rfl, nmul, show (1 : Int32) = nI 1 from rfl, show (2 : Int32) = nI 2 from rfl, show (3 : Int32) = nI 3 from rfl, show (4 : Int32) = nI 4 from rfl, nadd, nadd, nadd, nadd]
  rw [tr_wr_nI (by omega) (by decide)]
  simp only [Option.bind_some]
  rw [tr_wr_nI (by omega) (by decide)]
  simp only [Option.bind_some]
  rw [tr_wr_nI (by omega) (by decide)]
  simp only [Option.bind_some]
  rw [tr_wr_nI (by omega) (by decide)]
  simp only [Option.bind_some]
  rw [tr_wr_nI (by omega) (by decide)]
  simp only [Option.bind_some]
  simp (disch := omega) only [tr_st_ne, tr_st_s, h, nadd]
  rw [nsub (by omega), Nat.add_sub_cancel]
