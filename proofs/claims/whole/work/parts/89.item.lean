/-! ===== items ===== -/
def MR (w : Wd) (M : tr_M) : Prop := M.1 1 16 = nI w.1 ∧ M.1 1 17 = nI w.2.2.1 ∧ (∀ a b, a < 10 → b < 10 → M.1 10 (10 * a + b) = nI (w.2.1 a b)) ∧ ∀ k, k < w.2.2.1 → M.1 11 (5 * k) = nI (w.2.2.2.1 k).1 ∧ M.1 11 (5 * k + 1) = nI (w.2.2.2.1 k).2.1 ∧ M.1 11 (5 * k + 2) = nI (w.2.2.2.1 k).2.2.1 ∧ M.1 11 (5 * k + 3) = nI (w.2.2.2.1 k).2.2.2 ∧ M.1 11 (5 * k + 4) = 0
theorem MR.st {w : Wd} {M : tr_M} {k : Nat} {v : Int32} (h : MR w M) (hk : k = 14 ∨ k = 15) : MR w (tr_st M 1 k v) := by
  obtain ⟨h1, h2, h3, h4⟩ := h
  refine ⟨?_, ?_, fun a b ha hb => ?_, fun j hj => ?_⟩
  · rw [tr_st_j (by omega)]; exact h1
  · rw [tr_st_j (by omega)]; exact h2
  · rw [tr_st_ne (by decide)]; exact h3 a b ha hb
  · rw [tr_st_ne (by decide)]; exact h4 j hj
def RS (t s : Nat) (b : Nat → Int32) (p : Nat) (w : Wd) (N1 N2 : tr_M) : Prop := TX t s b N1 N2 ∧ CR t p N1 ∧ CWd w 5 N1 ∧ N2.1 1 14 = nI p ∧ MR w N2 ∧ WOk w ∧ 1 ≤ w.1 ∧ ∀ k, w.2.2.2.2 k = false
/-- both sides go one place on -/
theorem RS.on {t s p q : Nat} {b : Nat → Int32} {w : Wd} {N1 N2 : tr_M} {x : Int32} (h : RS t s b p w N1 N2) : RS t s b q w (tr_st N1 4 2 (nI q)) (tr_st (tr_st N2 1 15 x) 1 14 (nI q)) := by
  obtain ⟨h1, h2, h3, h4, h5, h6, h7, h8⟩ := h
  refine ⟨h1.kb (KB.st (by omega)) ((KMB.st (by omega)).tr (KMB.st (by omega))), ⟨?_, ?_⟩, h3.congr fun c a1 a2 => tr_st_ne (by omega), ?_, (h5.st (Or.inr rfl)).st (Or.inl rfl), h6, h7, h8⟩
  · rw [tr_st_j (by decide)]; exact h2.1
  · rw [tr_st_s]
  · rw [tr_st_s]
theorem RS.on1 {t s p q : Nat} {b : Nat → Int32} {w : Wd} {N1 N2 : tr_M} (h : RS t s b p w N1 N2) : RS t s b q w (tr_st N1 4 2 (nI q)) (tr_st N2 1 14 (nI q)) := by
  obtain ⟨h1, h2, h3, h4, h5, h6, h7, h8⟩ := h
  refine ⟨h1.kb (KB.st (by omega)) (KMB.st (by omega)), ⟨?_, ?_⟩, h3.congr fun c a1 a2 => tr_st_ne (by omega), ?_, h5.st (Or.inl rfl), h6, h7, h8⟩
  · rw [tr_st_j (by decide)]; exact h2.1
  · rw [tr_st_s]
  · rw [tr_st_s]
theorem ne9 {v : Nat} (h : v < 1000) : ¬ nI v = -9 := oi_ne v h
theorem ne1 {v : Nat} (h : v < 1000) : ¬ nI v = -1 := fun e => by
  have := nI_pos (n := v) (by omega)
  rw [e] at this
  exact this (by decide)
theorem wdAdd_off {w : Wd} (h : ∀ k, w.2.2.2.2 k = false) (r : Nat × Nat × Nat × Nat) : ∀ k, (wdAdd w r).2.2.2.2 k = false := h
theorem MR_add {w : Wd} {kd x y z : Nat} {M : tr_M} (hw : MR w M) (h8 : w.2.2.1 < 8) : MR (wdAdd w (kd, x, y, z)) (tr_st (tr_st (tr_st (tr_st (tr_st (tr_st M 11 (5 * w.2.2.1) (nI kd)) 11 (5 * w.2.2.1 + 1) (nI x)) 11 (5 * w.2.2.1 + 2) (nI y)) 11 (5 * w.2.2.1 + 3) (nI z)) 11 (5 * w.2.2.1 + 4) 0) 1 17 (nI (w.2.2.1 + 1))) := by
  obtain ⟨h1, h2, h3, h4⟩ := hw
  refine ⟨?_, ?_, fun a b ha hb => ?_, fun k hk => ?_⟩
  · rw [tr_st_j (by decide)]; simp (disch := omega) only [tr_st_ne]; exact h1
  · rw [tr_st_s]; rfl
  · simp (disch := omega) only [tr_st_ne]; exact h3 a b ha hb
  · have hk : k < w.2.2.1 + 1 := hk
    show _ = nI (if k = w.2.2.1 then (kd, x, y, z) else w.2.2.2.1 k).1 ∧ _ = nI (if k = w.2.2.1 then (kd, x, y, z) else w.2.2.2.1 k).2.1 ∧ _ = nI (if k = w.2.2.1 then (kd, x, y, z) else w.2.2.2.1 k).2.2.1 ∧ _ = nI (if k = w.2.2.1 then (kd, x, y, z) else w.2.2.2.1 k).2.2.2 ∧ _ = 0
    by_cases e : k = w.2.2.1
    · simp only [if_pos e]
      subst e
      refine ⟨?_, ?_, ?_, ?_, ?_⟩
      · simp (disch := omega) only [tr_st_ne, tr_st_j, tr_st_s]
      · simp (disch := omega) only [tr_st_ne, tr_st_j, tr_st_s]
      · simp (disch := omega) only [tr_st_ne, tr_st_j, tr_st_s]
      · simp (disch := omega) only [tr_st_ne, tr_st_j, tr_st_s]
      · simp (disch := omega) only [tr_st_ne, tr_st_j, tr_st_s]
    · simp only [if_neg e]
      obtain ⟨q1, q2, q3, q4, q5⟩ := h4 k (by omega)
      refine ⟨?_, ?_, ?_, ?_, ?_⟩
      · simp (disch := omega) only [tr_st_ne, tr_st_j]; exact q1
      · simp (disch := omega) only [tr_st_ne, tr_st_j]; exact q2
      · simp (disch := omega) only [tr_st_ne, tr_st_j]; exact q3
      · simp (disch := omega) only [tr_st_ne, tr_st_j]; exact q4
      · simp (disch := omega) only [tr_st_ne, tr_st_j]; exact q5
/-- what the model writes of a rule -/
def mRul (kd : Int32) (x : Int32) (v16 v21 : tr_M) : Option (Int32 × tr_M) :=
  Option.bind (tr_wr 40 v21 11 ((5 : Int32) * (v21.1 1 17)) kd) (fun M24 =>
  Option.bind (tr_wr 40 M24 11 (((5 : Int32) * (v21.1 1 17)) + (1 : Int32)) x) (fun M26 =>
  Option.bind (tr_wr 40 M26 11 (((5 : Int32) * (v21.1 1 17)) + (2 : Int32)) (v16.1 1 15)) (fun M28 =>
  Option.bind (show Option (Int32) from if kd = (6 : Int32) then some (M28.1 1 15) else some (0 : Int32)) (fun (v30 : Int32) =>
  Option.bind (tr_wr 40 M28 11 (((5 : Int32) * (v21.1 1 17)) + (3 : Int32)) v30) (fun M31 =>
  Option.bind (tr_wr 40 M31 11 (((5 : Int32) * (v21.1 1 17)) + (4 : Int32)) (0 : Int32)) (fun M33 =>
  Option.bind (some (tr_st M33 1 17 ((M33.1 1 17) + (1 : Int32)))) (fun M35 => some ((1 : Int32), M35))))))))
theorem rul_both {t s p : Nat} {b : Nat → Int32} {w : Wd} {N1 N2 V16 : tr_M} {kd x y z : Nat} {pz : Int32} (h : RS t s b p w N1 N2) (h8 : w.2.2.1 < 8) (hr : ruleOk w.1 (kd, x, y, z)) (hk0 : 1 ≤ kd) (hk6 : kd ≤ 6) (hy : V16.1 1 15 = nI y) (hz : (if nI kd = 6 then pz else 0) = nI z) (hz2 : (if nI kd = 6 then N2.1 1 15 else 0) = nI z) : ∃ P1 P2, mX5_addRule 5 (nI kd) (nI x) (nI y) pz N1 = some (nI w.2.2.1, P1) ∧ mRul (nI kd) (nI x) V16 N2 = some (1, P2) ∧ RS t s b p (wdAdd w (kd, x, y, z)) P1 P2 ∧ KB N1 P1 ∧ KMB N2 P2 := by
  obtain ⟨h1, h2, h3, h4, h5, h6, h7, h9⟩ := h
  have hkd : ¬ nI kd = 0 := by rw [n00, neq (by omega) (by decide)]; omega
  obtain ⟨P1, e1, e2, e3, e4⟩ := addRule_wd (x := x) (y := y) (z := z) h3 h8 (by rw [if_neg hkd]) (by rw [if_neg hkd]) hz
  have hKB : KB N1 P1 := ⟨fun c hc => e3 c (by omega) (by omega), e4⟩
  have hM : mRul (nI kd) (nI x) V16 N2 = some (1, tr_st (tr_st (tr_st (tr_st (tr_st (tr_st N2 11 (5 * w.2.2.1) (nI kd)) 11 (5 * w.2.2.1 + 1) (nI x)) 11 (5 * w.2.2.1 + 2) (nI y)) 11 (5 * w.2.2.1 + 3) (nI z)) 11 (5 * w.2.2.1 + 4) 0) 1 17 (nI (w.2.2.1 + 1))) := by
    unfold mRul
    rw [h5.2.1, hy, show (5 : Int32) * nI w.2.2.1 = nI (5 * w.2.2.1) from nmul 5 _]
    rw [show nI (5 * w.2.2.1) + (1 : Int32) = nI (5 * w.2.2.1 + 1) from nadd _ 1, show nI (5 * w.2.2.1) + (2 : Int32) = nI (5 * w.2.2.1 + 2) from nadd _ 2, show nI (5 * w.2.2.1) + (3 : Int32) = nI (5 * w.2.2.1 + 3) from nadd _ 3, show nI (5 * w.2.2.1) + (4 : Int32) = nI (5 * w.2.2.1 + 4) from nadd _ 4]
    rw [tr_wr_nI (by omega) (by decide)]
    simp only [Option.bind_some]
    rw [tr_wr_nI (by omega) (by decide)]
    simp only [Option.bind_some]
    rw [tr_wr_nI (by omega) (by decide)]
    simp only [Option.bind_some, if_some]
    rw [tr_st_ne (show (1 : Nat) ≠ 11 by decide), tr_st_ne (show (1 : Nat) ≠ 11 by decide), tr_st_ne (show (1 : Nat) ≠ 11 by decide), hz2, tr_wr_nI (by omega) (by decide)]
    simp only [Option.bind_some]
    rw [tr_wr_nI (by omega) (by decide)]
    simp only [Option.bind_some]
    simp (disch := omega) only [tr_st_ne, h5.2.1, nadd1]
  have hKM : KMB N2 (tr_st (tr_st (tr_st (tr_st (tr_st (tr_st N2 11 (5 * w.2.2.1) (nI kd)) 11 (5 * w.2.2.1 + 1) (nI x)) 11 (5 * w.2.2.1 + 2) (nI y)) 11 (5 * w.2.2.1 + 3) (nI z)) 11 (5 * w.2.2.1 + 4) 0) 1 17 (nI (w.2.2.1 + 1))) := ((((((KMB.st2 (Or.inr rfl)).tr (KMB.st2 (Or.inr rfl))).tr (KMB.st2 (Or.inr rfl))).tr (KMB.st2 (Or.inr rfl))).tr (KMB.st2 (Or.inr rfl)))).tr (KMB.st (by omega))
  refine ⟨P1, _, e1, hM, ⟨h1.kb hKB hKM, ⟨?_, ?_⟩, e2, ?_, MR_add h5 h8, wdAdd_ok h6 hr h8, h7, wdAdd_off h9 _⟩, hKB, hKM⟩
  · rw [e3 4 (by decide) (by decide)]; exact h2.1
  · rw [e3 4 (by decide) (by decide)]; exact h2.2
  · rw [tr_st_j (by decide)]; simp (disch := omega) only [tr_st_ne]; exact h4
/-- a tie's figure -/
theorem tieF_both {t s p x y v : Nat} {b : Nat → Int32} {w : Wd} {N1 N2 : tr_M} (h : RS t s b p w N1 N2) (hx : x < w.1) (hy : y < w.1) (hxy : x ≠ y) (hv : v ≤ 9) (h15 : N2.1 1 15 = nI v) : ∃ P1 P2, mX5_setTie 5 (nI x) (nI y) (nI v) N1 = some P1 ∧ (Option.bind (tr_wr 100 N2 10 ((10 : Int32) * nI x + nI y) (N2.1 1 15)) fun M5 => Option.bind (tr_wr 100 M5 10 ((10 : Int32) * nI y + nI x) (M5.1 1 15)) fun M7 => some ((1 : Int32), M7)) = some (1, P2) ∧ RS t s b p (wdW w (wt2 w.2.1 x y v)) P1 P2 ∧ KB N1 P1 ∧ KMB N2 P2 := by
  obtain ⟨h1, h2, h3, h4, h5, h6, h7, h9⟩ := h
  have hn := h6.1
  obtain ⟨P1, e1, e2, e3, e4⟩ := tie_wd h3 (show x < 10 by omega) (show y < 10 by omega) hv
  have hKB : KB N1 P1 := ⟨fun c hc => e3 c (by omega), e4⟩
  have hKM : KMB N2 (tr_st (tr_st N2 10 (10 * x + y) (nI v)) 10 (10 * y + x) (nI v)) := (KMB.st2 (Or.inl rfl)).tr (KMB.st2 (Or.inl rfl))
  refine ⟨P1, tr_st (tr_st N2 10 (10 * x + y) (nI v)) 10 (10 * y + x) (nI v), e1, ?_, ⟨h1.kb hKB hKM, ⟨?_, ?_⟩, e2, ?_, ⟨?_, ?_, fun a c ha hc => ?_, fun k hk => ?_⟩, wt2_ok h6 hx hy hxy hv, h7, h9⟩, hKB, hKM⟩
  · rw [show (10 : Int32) * nI x + nI y = nI (10 * x + y) by rw [show (10 : Int32) = nI 10 from rfl, nmul, nadd], show (10 : Int32) * nI y + nI x = nI (10 * y + x) by rw [show (10 : Int32) = nI 10 from rfl, nmul, nadd], tr_wr_nI (by omega) (by decide), Option.bind_some, tr_wr_nI (by omega) (by decide), Option.bind_some, tr_st_ne (by decide), h15]
  · rw [e3 4 (by omega)]; exact h2.1
  · rw [e3 4 (by omega)]; exact h2.2
  · rw [tr_st_ne (by decide), tr_st_ne (by decide)]; exact h4
  · rw [tr_st_ne (by decide), tr_st_ne (by decide)]; exact h5.1
  · rw [tr_st_ne (by decide), tr_st_ne (by decide)]; exact h5.2.1
  · show _ = nI (wt2 w.2.1 x y v a c)
    rw [wt2_eq, tr_st_1, tr_st_1]
    by_cases c2 : a = y ∧ c = x
    · rw [if_pos (by omega), if_pos (Or.inr c2)]
    · rw [if_neg (by omega)]
      by_cases c1 : a = x ∧ c = y
      · rw [if_pos (by omega), if_pos (Or.inl c1)]
      · rw [if_neg (by omega), if_neg (by omega)]
        exact h5.2.2.1 a c ha hc
  · rw [tr_st_ne (by decide), tr_st_ne (by decide)]; exact h5.2.2.2 k hk
