theorem obits_lt (w : Wd) : obits w < 256 := mkb_lt _ 8
theorem obits_bit (w : Wd) (k : Nat) : (obits w).testBit k = (decide (k < 8) && w.2.2.2.2 k) := mkb_bit _ 8 k
theorem isOff_eq {w : Wd} {o k : Nat} {M : tr_M} (hw : CWd w o M) (hk : k < 8) : mX5_isOff o (nI k) M = if w.2.2.2.2 k = true then 1 else 0 := by
  unfold mX5_isOff
  rw [hw.2.2.1, bit_nI (Nat.lt_trans (obits_lt w) (by decide)) (by omega), obits_bit]
  cases w.2.2.2.2 k <;> simp [hk]
theorem ruleAt_eq {k j : Nat} {M : tr_M} (hk : k < 8) (hj : j < 5) : mX7_ruleAt (nI k) (nI j) M = some (M.1 9 (5 * k + j)) := by
  unfold mX7_ruleAt
  rw [show (5 : Int32) = nI 5 from rfl, nmul, nadd, tr_rd_nI (by omega) (by decide)]
  rfl
theorem isRule_cases {w : Wd} {M1 M2 : tr_M} (h : IWd w M1 M2) (p : Int32) : (mX5_isRule 26 p M1 = 0 ∧ mX7_isRule p M2 = some 0) ∨ ∃ k, k < w.2.2.1 ∧ p = nI k ∧ mX5_isRule 26 p M1 = 1 ∧ mX7_isRule p M2 = some 1 := by
  have hn := h.1.2.2.2.2.1
  unfold mX5_isRule mX7_isRule
  rw [h.2.1.2.1, h.2.2.2.1]
  rcases in_cases p (show w.2.2.1 < 1000 by omega) with ⟨i1, i2⟩ | ⟨i, hi, rfl, i1⟩
  · left
    rw [i1]
    refine ⟨?_, rfl⟩
    by_cases h0 : p < 0
    · rw [if_pos h0]
    · rw [if_neg h0, if_neg (i2.resolve_left h0)]
  · right
    refine ⟨i, hi, rfl, ?_, by rw [i1]; rfl⟩
    rw [if_neg (nI_pos (by omega)), if_pos (by rw [nlt (by omega) (by omega)]; exact hi)]
def wdOff (w : Wd) (f : Nat → Bool) : Wd := (w.1, w.2.1, w.2.2.1, w.2.2.2.1, f)
theorem wdOff_ok {w : Wd} (h : WOk w) {f : Nat → Bool} (hf : ∀ k, w.2.2.1 ≤ k → f k = false) : WOk (wdOff w f) := by
  obtain ⟨h1, h2, h3, h4, h5, h6, h7⟩ := h
  exact ⟨h1, h2, h3, h4, h5, h6, hf⟩
theorem CWd.off {w : Wd} {o : Nat} {M : tr_M} (hw : CWd w o M) {f : Nat → Bool} {b : Nat} (hb : b = mkb 8 f) : CWd (wdOff w f) o (tr_st M o 2 (nI b)) := by
  obtain ⟨h1, h2, h3, h4, h5, h6, h7⟩ := hw
  subst hb
  refine ⟨?_, ?_, ?_, fun x y hx hy => ?_, fun x hx => ?_, fun x hx => ?_, fun k hk => ?_⟩
  · rw [tr_st_j (by decide)]; exact h1
  · rw [tr_st_j (by decide)]; exact h2
  · rw [tr_st_s]; rfl
  · rw [tr_st_ne (by omega)]; exact h4 x y hx hy
  · rw [tr_st_ne (by omega)]; exact h5 x hx
  · rw [tr_st_ne (by omega)]; exact h6 x hx
  · simp (disch := omega) only [tr_st_ne]; exact h7 k hk
theorem r_off {w : Wd} {M1 M2 : tr_M} (h : ITF M1 M2) (hw : IWd w M1 M2) (p1 p2 : Int32) : Res (mX6_off p1 p2 M1) (mX7_off p1 p2 M2) M1 M2 ∨ ResW (mX6_off p1 p2 M1) (mX7_off p1 p2 M2) M1 M2 := by
  have hn := hw.1.2.2.2.2.1
  unfold mX6_off mX7_off
  rcases isRule_cases hw p1 with ⟨e1, e2⟩ | ⟨k, hk, rfl, e1, e2⟩
  · left
    simp only [e1, e2, Option.bind_some, if_true]
    exact Res.same h
  · simp only [e1, e2, Option.bind_some, if_neg (show ¬ (1 : Int32) = 0 by decide)]
    by_cases hp : p2 = 0 ∨ p2 = 1
    · right
      have hin : mX7_in p2 0 1 = 1 := by rcases hp with rfl | rfl <;> decide
      have hg : (if p2 = 0 then some (Sum.inl () : Unit ⊕ (Int32 × tr_M)) else if p2 = 1 then some (.inl ()) else some (.inr (-1, M1))) = some (.inl ()) := by
        rcases hp with rfl | rfl <;> rfl
      simp only [hin, if_neg (show ¬ (1 : Int32) = 0 by decide)]
      rw [hg, show (4 : Int32) = nI 4 from rfl, ruleAt_eq (by omega) (by decide), show (5 : Int32) = nI 5 from rfl, nmul, nadd, tr_wr_nI (by omega) (by decide), (hw.2.2.2.2.2 k hk).2.2.2.2]
      simp only [Option.bind_some, tr_el, isOff_eq hw.2.1 (show k < 8 by omega)]
      have hv : (if (if w.2.2.2.2 k = true then (1 : Int32) else 0) = 0 then some (0 : Int32) else some 1) = some (if w.2.2.2.2 k = true then 1 else 0) := by
        cases w.2.2.2.2 k <;> rfl
      rw [hv]
      simp only [Option.bind_some]
      -- the new set of rules that are off
      obtain ⟨b, hb1, hb2⟩ : ∃ b, (Option.bind (if p2 = 1 then some (1 : Int32) else some 0) fun v7 => mX5_setOff 26 (nI k) v7 M1) = some (tr_st M1 26 2 (nI b)) ∧ b = mkb 8 (fun j => if j = k then decide (p2 = 1) else w.2.2.2.2 j) := by
        rcases hp with rfl | rfl
        · refine ⟨del (obits w) k, ?_, ?_⟩
          · show mX5_setOff 26 (nI k) 0 M1 = _
            unfold mX5_setOff
            rw [if_pos rfl, hw.2.1.2.2.1, del_nI (by omega)]
            rfl
          · refine mkb_ext (Nat.lt_of_lt_of_le (del_lt (n := 8) (obits_lt w)) (by decide)) (fun i hi => ?_)
            rw [del_bit, obits_bit]
            by_cases e : i = k
            · subst e; simp
            · simp [e, hi, show ¬ k = i from fun q => e q.symm]
        · refine ⟨ins (obits w) k, ?_, ?_⟩
          · show mX5_setOff 26 (nI k) 1 M1 = _
            unfold mX5_setOff
            rw [if_neg (by decide), hw.2.1.2.2.1, ins_nI (by omega)]
            rfl
          · refine mkb_ext (ins_lt (obits_lt w) (by omega)) (fun i hi => ?_)
            rw [ins_bit, obits_bit]
            by_cases e : i = k
            · subst e; simp
            · simp [e, hi, show ¬ k = i from fun q => e q.symm]
      have hb3 : (Option.bind (if p2 = 1 then some (1 : Int32) else some 0) fun v7 => Option.bind (mX5_setOff 26 (nI k) v7 M1) fun c8 => Option.bind (mX6_forget c8) fun c10 => some ((if w.2.2.2.2 k = true then (1 : Int32) else 0), c10)) = some ((if w.2.2.2.2 k = true then (1 : Int32) else 0), tr_st (tr_st (tr_st M1 26 2 (nI b)) 1 15 (-9)) 1 16 (nI 0)) := by
        by_cases e : p2 = 1
        · rw [if_pos e] at hb1 ⊢
          simp only [Option.bind_some] at hb1 ⊢
          rw [hb1]
          rfl
        · rw [if_neg e] at hb1 ⊢
          simp only [Option.bind_some] at hb1 ⊢
          rw [hb1]
          rfl
      have hfalse : ∀ j, w.2.2.1 ≤ j → (fun j => if j = k then decide (p2 = 1) else w.2.2.2.2 j) j = false := fun j hj => by
        show (if j = k then _ else w.2.2.2.2 j) = false
        rw [if_neg (by omega)]
        exact hw.1.2.2.2.2.2.2 j hj
      refine ⟨_, _, _, hb3, rfl, ?_, ⟨wdOff w (fun j => if j = k then decide (p2 = 1) else w.2.2.2.2 j), wdOff_ok hw.1 hfalse, ?_, ?_⟩, ?_, ?_, ?_⟩
      · refine h.congr (fun c hc _ _ _ _ => ?_) (fun j hj => ?_) rfl (fun c hc _ _ => ?_) (fun j hj => ?_) (fun j hj => rfl)
        · simp (disch := omega) only [tr_st_ne]
        · rw [tr_st_j (by omega), tr_st_j (by omega), tr_st_ne (by omega)]
        · simp (disch := omega) only [tr_st_ne]
        · simp (disch := omega) only [tr_st_ne]
      · exact (hw.2.1.off hb2).congr (fun c h1 h2 => by rw [tr_st_ne (by omega), tr_st_ne (by omega)])
      · obtain ⟨g1, g2, g3, g4⟩ := hw.2.2
        refine ⟨?_, ?_, fun x y hx hy => ?_, fun j hj => ?_⟩
        · rw [tr_st_ne (by decide)]; exact g1
        · rw [tr_st_ne (by decide)]; exact g2
        · rw [tr_st_ne (by decide)]; exact g3 x y hx hy
        · obtain ⟨q1, q2, q3, q4, q5⟩ := g4 j hj
          refine ⟨?_, ?_, ?_, ?_, ?_⟩
          · rw [tr_st_j (by omega)]; exact q1
          · rw [tr_st_j (by omega)]; exact q2
          · rw [tr_st_j (by omega)]; exact q3
          · rw [tr_st_j (by omega)]; exact q4
          · show _ = if (if j = k then decide (p2 = 1) else w.2.2.2.2 j) = true then 1 else 0
            by_cases e : j = k
            · subst e
              rw [tr_st_s, if_pos rfl]
              rcases hp with rfl | rfl <;> rfl
            · rw [tr_st_j (by omega), if_neg e]
              exact q5
      · rw [tr_st_j (by decide), tr_st_s]
      · simp (disch := omega) only [tr_st_ne]
      · simp (disch := omega) only [tr_st_ne]
    · left
      have hp0 : ¬ p2 = 0 := fun e => hp (Or.inl e)
      have hp1 : ¬ p2 = 1 := fun e => hp (Or.inr e)
      have hin : mX7_in p2 0 1 = 0 := by
        unfold mX7_in
        rcases n_cases p2 with hneg | ⟨j, hj, rfl⟩
        · rw [if_pos hneg]
        · rw [if_neg (nI_pos hj)]
          have : (1 : Int32) < nI j := by
            rw [show (1 : Int32) = nI 1 from rfl, nlt (by decide) hj]
            have a0 : j ≠ 0 := fun e => hp0 (by rw [e]; rfl)
            have a1 : j ≠ 1 := fun e => hp1 (by rw [e]; rfl)
            omega
          rw [if_pos this]
      simp only [hin, if_neg hp0, if_neg hp1, if_true, Option.bind_some, tr_el]
      exact Res.same h
