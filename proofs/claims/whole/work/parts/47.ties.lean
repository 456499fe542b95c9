/-- both sides hold the same world -/
def IWd (w : Wd) (M1 M2 : tr_M) : Prop := WOk w ∧ CWd w 26 M1 ∧ MWd w M2
/-- both sides answer alike; rows, texts, what is told stay tied; the world has changed, on both sides alike; nothing is kept of least orders -/
def ResW {ρ : Type} (a b : Option (ρ × tr_M)) (M1 M2 : tr_M) : Prop := ∃ (r : ρ) (N1 N2 : tr_M), a = some (r, N1) ∧ b = some (r, N2) ∧ ITF N1 N2 ∧ (∃ w, IWd w N1 N2) ∧ N1.1 1 15 = -9 ∧ N1.1 25 = M1.1 25 ∧ N2.1 1 27 = M2.1 1 27
theorem isThing_m {p : Int32} {n : Nat} {M : tr_M} (hn : n ≤ 10) (h : M.1 1 10 = nI n) : (mX7_isThing p M = some 0 ∧ (p < 0 ∨ ¬ p < nI n)) ∨ ∃ a, a < n ∧ p = nI a ∧ mX7_isThing p M = some 1 := by
  unfold mX7_isThing
  rw [h]
  rcases in_cases p (show n < 1000 by omega) with ⟨i1, i2⟩ | ⟨i, hi, rfl, i1⟩
  · left
    rw [i1]
    exact ⟨rfl, i2⟩
  · right
    refine ⟨i, hi, rfl, ?_⟩
    rw [i1]
    rfl
theorem isThing_c {p : Int32} {n o : Nat} {M : tr_M} (hn : n ≤ 10) (h : M.1 o 0 = nI n) (hp : p < 0 ∨ ¬ p < nI n) : mX5_isThing o p M = 0 := by
  unfold mX5_isThing
  by_cases h0 : p < 0
  · rw [if_pos h0]
  · rw [if_neg h0, h, if_neg (hp.resolve_left h0)]
theorem isThing_c1 {a n o : Nat} {M : tr_M} (hn : n ≤ 10) (h : M.1 o 0 = nI n) (ha : a < n) : mX5_isThing o (nI a) M = 1 := by
  unfold mX5_isThing
  rw [if_neg (nI_pos (by omega)), h, if_pos (by rw [nlt (by omega) (by omega)]; exact ha)]
theorem thing_cases {w : Wd} {M1 M2 : tr_M} (h : IWd w M1 M2) (p : Int32) : (mX5_isThing 26 p M1 = 0 ∧ mX7_isThing p M2 = some 0) ∨ ∃ a, a < w.1 ∧ p = nI a ∧ mX5_isThing 26 p M1 = 1 ∧ mX7_isThing p M2 = some 1 := by
  have hn := h.1.1
  rcases isThing_m (p := p) hn h.2.2.1 with ⟨e1, e2⟩ | ⟨a, ha, rfl, e1⟩
  · exact Or.inl ⟨isThing_c hn h.2.1.1 e2, e1⟩
  · exact Or.inr ⟨a, ha, rfl, isThing_c1 hn h.2.1.1 ha, e1⟩
theorem forget_eq (M : tr_M) : mX6_forget M = some (tr_st (tr_st M 1 15 (-9)) 1 16 (nI 0)) := rfl
theorem ITF.congr {M1 M2 N1 N2 : tr_M} (h : ITF M1 M2) (hr : ∀ c, 57 ≤ c → c ≠ 58 → c ≠ 59 → c ≠ 60 → c ≠ 61 → N1.1 c = M1.1 c) (h1 : ∀ k, k < 15 → N1.1 1 k = M1.1 1 k) (h12 : N1.2 = M1.2) (hm : ∀ c, c < 8 → c ≠ 1 → c ≠ 5 → N2.1 c = M2.1 c) (hm1 : ∀ k, k < 5 → N2.1 1 k = M2.1 1 k) (hm2 : ∀ k, k < 5 → N2.2 1 k = M2.2 1 k) : ITF N1 N2 := by
  obtain ⟨hR, hT, f1, f2, f3, f4, f5⟩ := h
  refine ⟨fun r hr' => ?_, fun t ht => ?_, ?_, fun f hf => ?_, ?_, ?_, ?_⟩
  · rw [hr (62 + 2 * r) (by omega) (by omega) (by omega) (by omega) (by omega), hr (63 + 2 * r) (by omega) (by omega) (by omega) (by omega) (by omega), hm 3 (by omega) (by omega) (by omega), hm 4 (by omega) (by omega) (by omega)]
    exact hR r hr'
  · rw [hr (74 + 2 * t) (by omega) (by omega) (by omega) (by omega) (by omega), hr (75 + 2 * t) (by omega) (by omega) (by omega) (by omega) (by omega), hm 6 (by omega) (by omega) (by omega), hm 7 (by omega) (by omega) (by omega)]
    exact hT t ht
  · rw [h1 11 (by omega), hm1 0 (by omega)]; exact f1
  · rw [hr 57 (by omega) (by omega) (by omega) (by omega) (by omega), hm 2 (by omega) (by omega) (by omega)]; exact f2 f hf
  · rw [h1 12 (by omega), hm1 2 (by omega)]; exact f3
  · rw [h12, hm2 3 (by omega)]; exact f4
  · rw [h12, hm2 4 (by omega)]; exact f5
theorem r_tie {w : Wd} {M1 M2 : tr_M} (h : ITF M1 M2) (hw : IWd w M1 M2) (p1 p2 p3 : Int32) : Res (mX6_tie p1 p2 p3 M1) (mX7_tie p1 p2 p3 M2) M1 M2 ∨ ResW (mX6_tie p1 p2 p3 M1) (mX7_tie p1 p2 p3 M2) M1 M2 := by
  unfold mX6_tie mX7_tie mX5_areUnlike
  have hn := hw.1.1
  rcases thing_cases hw p1 with ⟨e1, e2⟩ | ⟨a, ha, rfl, e1, e2⟩
  · left
    simp only [e1, e2, Option.bind_some, if_true]
    exact Res.same h
  · rcases thing_cases hw p2 with ⟨d1, d2⟩ | ⟨b, hb, rfl, d1, d2⟩
    · left
      simp only [e1, e2, d1, d2, Option.bind_some, if_neg (show ¬ (1 : Int32) = 0 by decide), if_true]
      exact Res.same h
    · simp only [e1, e2, d1, d2, Option.bind_some, if_neg (show ¬ (1 : Int32) = 0 by decide)]
      by_cases hab : nI a = nI b
      · left
        simp only [if_pos hab, if_true]
        exact Res.same h
      · have hab' : a ≠ b := fun e => hab (by rw [e])
        simp only [if_neg hab, if_neg (show ¬ (1 : Int32) = 0 by decide)]
        have hwt : M1.1 (28 + a) b = nI (w.2.1 a b) := by
          have := hw.2.1.2.2.2.1 a b (by omega) (by omega)
          rw [show 28 + a = 26 + 2 + a by omega]
          exact this
        have hwm : mX7_weight (nI a) (nI b) M2 = some (nI (w.2.1 a b)) := by
          rw [weight_eq (by omega) (by omega), hw.2.2.2.2.1 a b (by omega) (by omega)]
        rw [tr_ra_nI (show a < 10 by omega) (by decide), hwm]
        simp only [Option.bind_some]
        rw [tr_rd_nI (show b < 10 by omega) (by decide), hwt]
        by_cases h9 : p3 = -9
        · left
          simp only [if_pos h9, Option.bind_some, tr_el]
          rw [layTie_eq (by omega) (by omega)]
          refine ⟨_, _, _, rfl, rfl, ?_, KC.rf, ?_⟩
          · have e8 : tr_st (tr_st M2 8 (10 * a + b) (nI (w.2.1 a b))) 8 (10 * b + a) (nI (w.2.1 a b)) = M2 := by
              have q1 := hw.2.2.2.2.1 a b (by omega) (by omega)
              have q2 := hw.2.2.2.2.1 b a (by omega) (by omega)
              rw [hw.1.2.2.1 b a] at q2
              refine Prod.ext (funext fun c => funext fun j => ?_) rfl
              rw [tr_st_1, tr_st_1]
              by_cases c1 : c = 8 ∧ j = 10 * b + a
              · rw [if_pos c1, c1.1, c1.2, q2]
              · rw [if_neg c1]
                by_cases c2 : c = 8 ∧ j = 10 * a + b
                · rw [if_pos c2, c2.1, c2.2, q1]
                · rw [if_neg c2]
            rw [e8]
            exact h
          · have e8 : tr_st (tr_st M2 8 (10 * a + b) (nI (w.2.1 a b))) 8 (10 * b + a) (nI (w.2.1 a b)) = M2 := by
              have q1 := hw.2.2.2.2.1 a b (by omega) (by omega)
              have q2 := hw.2.2.2.2.1 b a (by omega) (by omega)
              rw [hw.1.2.2.1 b a] at q2
              refine Prod.ext (funext fun c => funext fun j => ?_) rfl
              rw [tr_st_1, tr_st_1]
              by_cases c1 : c = 8 ∧ j = 10 * b + a
              · rw [if_pos c1, c1.1, c1.2, q2]
              · rw [if_neg c1]
                by_cases c2 : c = 8 ∧ j = 10 * a + b
                · rw [if_pos c2, c2.1, c2.2, q1]
                · rw [if_neg c2]
            rw [e8]
            exact KM.rf
        · simp only [if_neg h9]
          rcases pos_cases p3 9 (by decide) with h6 | ⟨h6, h7⟩ | ⟨v, hv, rfl, h6, h7⟩
          · left
            have h6 : (9 : Int32) < p3 := h6
            have h7 : ¬ p3 < 0 := fun q => (n_lt_neg q (k := 9) (by decide)).2.1 h6
            simp only [mX7_in, if_neg h7, if_pos h6, if_true, Option.bind_some, tr_el]
            exact Res.same h
          · left
            simp only [mX7_in, if_pos h7, if_true, Option.bind_some, tr_el]
            exact Res.same h
          · right
            have h6 : ¬ (9 : Int32) < nI v := h6
            simp only [mX7_in, if_neg h7, if_neg h6, if_neg (show ¬ (1 : Int32) = 0 by decide), Option.bind_some, tr_el]
            obtain ⟨N, e5, e6, e7, e8⟩ := tie_wd hw.2.1 (show a < 10 by omega) (show b < 10 by omega) hv
            rw [e5, layTie_eq (by omega) (by omega)]
            simp only [Option.bind_some, forget_eq]
            refine ⟨_, _, _, rfl, rfl, ?_, ⟨wdW w (wt2 w.2.1 a b v), wt2_ok hw.1 ha hb hab' hv, ?_, layTie_wd hw.2.2 (by omega) (by omega)⟩, ?_, ?_, ?_⟩
            · refine h.congr (fun c hc _ _ _ _ => ?_) (fun k hk => ?_) ?_ (fun c hc _ _ => ?_) (fun k hk => ?_) (fun k hk => rfl)
              · rw [tr_st_ne (by omega), tr_st_ne (by omega), e7 c (by omega)]
              · rw [tr_st_j (by omega), tr_st_j (by omega), e7 1 (by omega)]
              · exact e8
              · simp (disch := omega) only [tr_st_ne]
              · simp (disch := omega) only [tr_st_ne]
            · exact e6.congr (fun c h1 h2 => by rw [tr_st_ne (by omega), tr_st_ne (by omega)])
            · rw [tr_st_j (by decide), tr_st_s]
            · rw [tr_st_ne (by decide), tr_st_ne (by decide), e7 25 (by omega)]
            · simp (disch := omega) only [tr_st_ne]
