theorem coming_eq {n : Nat} {G : Rl} {M C : tr_M} (hn : n ≤ 10) (hC : mX4_fillLeast M = some C) (hw : C.1 26 0 = nI n) (hG : Fresh G n) (hL : LG n G C) : ∃ P, mX4_fillComing M = some P ∧ (∀ s l, St n s l → P.1 51 (s * 10 + l) = nI (cN G n s l)) ∧ (∀ b, b ≠ 51 → P.1 b = C.1 b) ∧ P.2 = C.2 := by
  have hpw := pow_lt hn
  have hp0 := Nat.two_pow_pos n
  unfold mX4_fillComing
  rw [hC, Option.bind_some, everything_eq hw hn, nadd1, show 2 ^ n - 1 + 1 = 2 ^ n by omega, n00, stateOf_eq, Nat.add_zero, ← n00]
  have hlen : tr_len shC 51 = 10240 := rfl
  rw [fill_eq (by rw [hlen]; decide) (by rw [hlen]; omega) (by rw [hlen]; decide), Option.bind_some, n00, tr_wr_nI (by decide) (by decide), Option.bind_some]
  generalize hD : tr_st (tr_row C 51 (fl (C.1 51) 0 (2 ^ n * 10) (nI 0))) 51 0 1 = D
  have hDo : ∀ b, b ≠ 51 → D.1 b = C.1 b := fun b hb => by rw [← hD, tr_st_ne hb, tr_row_ne hb]
  have hD0 : D.1 51 0 = 1 := by rw [← hD, tr_st_s]
  have hDz : ∀ j, 0 < j → j < 2 ^ n * 10 → D.1 51 j = nI 0 := fun j h1 h2 => by
    rw [← hD, tr_st_j (by omega), tr_row_s, fl_in (by omega) (by omega)]
  have hkeep : ∀ N : tr_M, (∀ b, b ≠ 51 → N.1 b = C.1 b) → N.1 26 0 = nI n ∧ LG n G N := fun N hN => ⟨by rw [hN 26 (by decide)]; exact hw, fun s l h => by rw [hN 49 (by decide), hN 50 (by decide)]; exact hL s l h⟩
  obtain ⟨P, e1, e2, e3, e4, e5⟩ := up_loop (n := n) (M := D) hn (out := mX4_fillComing_l35) (inn := fun s N => mX4_fillComing_l48 (nI s, N)) (fun S L N => N.1 51 0 = 1 ∧ (∀ s x, St n s x → s ≠ 0 → N.1 51 (s * 10 + x) = nI (Vc G n S L s x)) ∧ (∀ b, b ≠ 51 → N.1 b = C.1 b) ∧ N.2 = C.2) (by
    rintro s N hs ⟨t1, t2, t3, t4⟩
    unfold mX4_fillComing_l35
    dsimp only
    have c1 : nI s < nI (2 ^ n - 1) := (nlt (by omega) (by omega)).mpr hs
    rw [everything_eq (hkeep N t3).1 hn, if_pos c1]) (by
    rintro N ⟨t1, t2, t3, t4⟩
    unfold mX4_fillComing_l35
    dsimp only
    have c1 : ¬ nI (2 ^ n - 1) < nI (2 ^ n - 1) := by rw [nlt (by omega) (by omega)]; omega
    rw [everything_eq (hkeep N t3).1 hn, if_neg c1]) (by
    rintro s l N K hs hst ⟨t1, t2, t3, t4⟩
    obtain ⟨hN0, hLN⟩ := hkeep N t3
    have hl10 := hst.l10 hn
    have c1 : nI l < nI (Ln n s) := (nlt (by omega) (by unfold Ln; split <;> omega)).mpr hst.lt
    have hcn : cN G n s l ≤ 3628800 := by
      have h1 := cN_le hG hn (cnt n s) s l hst rfl
      have h2 := fct_mono (Nat.le_trans (cnt_le s n) hn)
      have h3 : fct 10 = 3628800 := by decide
      omega
    have hhere : N.1 51 (s * 10 + l) = nI (cN G n s l) := by
      by_cases z : s = 0
      · rcases hst.2 with y | y
        · rw [z, y.2, cN_0]
          exact t1
        · rw [z, Nat.zero_testBit] at y; cases y.2
      · rw [t2 s l hst z]
        unfold Vc
        rw [if_pos]
        refine del_lt_self ?_
        rcases hst.is with y | y
        · exact absurd y z
        · exact y
    have hstb : stb s l = true := (stb_St hst.1).mpr hst
    have hVs : ∀ s' x, Vc G n s (l + 1) s' x = if del s' x = s ∧ G s (ls s l) x = true then Vc G n s l s' x + cN G n s l else Vc G n s l s' x := fun s' x => by
      unfold Vc
      by_cases d1 : del s' x < s
      · rw [if_pos d1, if_pos d1, if_neg (by omega)]
      · rw [if_neg d1, if_neg d1]
        by_cases d2 : del s' x = s
        · rw [if_pos d2, if_pos d2]
          show sm l _ + (if stb s l = true then (if G s (ls s l) x = true then cN G n s l else 0) else 0) = _
          rw [if_pos hstb]
          by_cases g : G s (ls s l) x = true
          · rw [if_pos g, if_pos ⟨d2, g⟩]
          · rw [if_neg g, if_neg (fun q => g q.2)]
            rfl
        · rw [if_neg d2, if_neg d2, if_neg (fun q => d2 q.1)]
    have hbt : ∀ s' x, St n s' x → s' ≠ 0 → s'.testBit x = true := fun s' x h z => by
      rcases h.is with y | y
      · exact absurd y z
      · exact y
    unfold mX4_fillComing_l48
    dsimp only
    rw [lastsOf_eq (by omega) hN0, if_pos c1, isState_eq (by omega) (by omega), if_pos hst.is, if_neg (by decide), stateOf_eq, tr_rd_nI (by omega) (by decide), Option.bind_some, hhere]
    simp (disch := omega) only [n0lt]
    by_cases p : 0 < cN G n s l
    · rw [if_pos p]
      obtain ⟨P, p1, p2, p3, p4⟩ := comeOn_eq hn hN0 hG hLN hst hhere
      rw [p1, Option.bind_some, nadd1]
      refine ⟨P, rfl, ?_, fun s' x hst' z => ?_, fun b hb => (p3 b hb).trans (t3 b hb), p4.trans t4⟩
      · have := p2 0 0 ⟨hp0, Or.inl ⟨rfl, rfl⟩⟩
        rw [if_neg (by rw [Nat.zero_testBit]; rintro ⟨q, -⟩; cases q)] at this
        exact this.trans t1
      · rw [p2 s' x hst', t2 s' x hst' z, hVs]
        by_cases q : del s' x = s ∧ G s (ls s l) x = true
        · rw [if_pos q, if_pos ⟨hbt s' x hst' z, q⟩, nadd]
        · rw [if_neg q, if_neg (fun y => q y.2)]
    · rw [if_neg p, nadd1]
      refine ⟨N, rfl, t1, fun s' x hst' z => ?_, t3, t4⟩
      rw [t2 s' x hst' z, hVs]
      by_cases q : del s' x = s ∧ G s (ls s l) x = true
      · rw [if_pos q, show cN G n s l = 0 by omega, Nat.add_zero]
      · rw [if_neg q]) (by
    rintro s l N K hs h0 hl hb ⟨t1, t2, t3, t4⟩
    obtain ⟨hN0, hLN⟩ := hkeep N t3
    have c1 : nI l < nI (Ln n s) := by
      unfold Ln
      rw [if_neg h0]
      exact (nlt (by omega) (by omega)).mpr hl
    have hstb : ¬ stb s l = true := by
      unfold stb
      simp [h0, hb]
    refine ⟨?_, t1, fun s' x hst' z => ?_, t3, t4⟩
    · unfold mX4_fillComing_l48
      dsimp only
      have hns : mX4_isState (nI s) (nI l) = 0 := by
        rw [isState_eq (by omega) (by omega), if_neg]
        simp [h0, hb]
      rw [lastsOf_eq (by omega) hN0, if_pos c1, hns, if_pos rfl, nadd1]
    · rw [t2 s' x hst' z]
      unfold Vc
      show nI (if _ then _ else if _ then sm l _ else 0) = nI (if _ then _ else if _ then sm l _ + (if stb s l = true then _ else 0) else 0)
      rw [if_neg hstb]
      rfl) (by
    rintro s N K hs ⟨t1, t2, t3, t4⟩
    obtain ⟨hN0, hLN⟩ := hkeep N t3
    have hLn : Ln n s ≤ 10 := by unfold Ln; split <;> omega
    have c1 : ¬ nI (Ln n s) < nI (Ln n s) := by rw [nlt (by omega) (by omega)]; omega
    unfold mX4_fillComing_l48
    dsimp only
    rw [lastsOf_eq (by omega) hN0, if_neg c1, nadd1]) (by
    rintro s N hs ⟨t1, t2, t3, t4⟩
    refine ⟨t1, fun s' x hst' z => ?_, t3, t4⟩
    rw [t2 s' x hst' z]
    congr 1
    unfold Vc
    by_cases d1 : del s' x < s
    · rw [if_pos d1, if_pos (by omega)]
    · rw [if_neg d1]
      have hb : s'.testBit x = true := by
        rcases hst'.is with y | y
        · exact absurd y z
        · exact y
      by_cases d2 : del s' x = s
      · rw [if_pos d2, if_pos (by omega)]
        have hxn : x < n := by
          rcases hst'.2 with y | y
          · exact absurd y.1 z
          · exact y.1
        have hnew : s.testBit x = false := by rw [← d2, del_bit]; simp
        have e := cN_step hG hn (show s < 2 ^ n by omega) hxn hnew
        rw [← d2, ins_del hb, d2] at e
        rw [e]
        symm
        refine sm_zero (fun l hl => ?_) (by unfold Ln; split <;> omega)
        rw [if_neg]
        intro q
        have := ((stb_St (n := n) (by omega)).mp q).lt
        omega
      · rw [if_neg d2]
        by_cases d3 : del s' x < s + 1
        · omega
        · rw [if_neg d3]
          split <;> rfl) ⟨hD0, fun s x hst z => by
      have hx10 := hst.l10 hn
      have hs := hst.1
      rw [hDz _ (by omega) (by omega)]
      congr 1
      unfold Vc
      rw [if_neg (by omega)]
      split <;> rfl, hDo, by rw [← hD]; rfl⟩
  refine ⟨P, e1, fun s l hst => ?_, e4, e5⟩
  by_cases z : s = 0
  · rcases hst.2 with y | y
    · rw [z, y.2, cN_0]
      exact e2
    · rw [z, Nat.zero_testBit] at y; cases y.2
  · rw [e3 s l hst z]
    unfold Vc
    rw [if_pos]
    have hb : s.testBit l = true := by
      rcases hst.is with y | y
      · exact absurd y z
      · exact y
    have := del_lt_self hb
    have := hst.1
    omega
theorem taking_eq {n : Nat} {G : Rl} {a s : Nat} {N : tr_M} (hn : n ≤ 10) (hw : N.1 26 0 = nI n) (hG : Fresh G n) (hL : LG n G N) (hc : ∀ s l, St n s l → N.1 51 (s * 10 + l) = nI (cN G n s l)) (ha : a < n) (hs : s < 2 ^ n) : mX4_numberTaking (nI a) (nI s) N = some (nI (tk G n a s)) := by
  have hpw := pow_lt hn
  have hLn : Ln n s ≤ 10 := by unfold Ln; split <;> omega
  unfold mX4_numberTaking tk
  simp (disch := omega) only [bit_eq0]
  cases hbit : s.testBit a with
  | true =>
    rw [if_neg (by decide), if_pos rfl]
    rfl
  | false =>
    rw [if_pos rfl, if_neg (by decide)]
    have e := loop_sum (step := mX4_numberTaking_l15 (nI a) (nI s) N) (n := Ln n s) (f := fun l => if stb s l = true then (if G s (ls s l) a = true then cN G n s l * nm G n (ins s a) a else 0) else 0) (g := fun v => v) 0 (by omega) (fun l c hl => by
      unfold mX4_numberTaking_l15
      dsimp only
      have c1 : nI l < nI (Ln n s) := (nlt (by omega) (by omega)).mpr hl
      rw [lastsOf_eq (by omega) hw, if_pos c1, isState_eq (by omega) (by omega)]
      by_cases b : stb s l = true
      · have hst := (stb_St hs).mp b
        have hb := nxb_lt G s (ls s l)
        rw [if_pos hst.is, if_neg (by decide), nextIn_eq hn hL hst, Option.bind_some, if_pos b]
        simp (disch := omega) only [bit_eq0]
        rw [nxb_bit]
        cases g : G s (ls s l) a with
        | false =>
          rw [if_pos (by simp), if_neg (by decide), Nat.add_zero, nadd1]
        | true =>
          rw [if_neg (by simp [show a < 10 by omega]), if_pos rfl, stateOf_eq, tr_rd_nI (by omega) (by decide), Option.bind_some, hc s l hst, num_eq hn hL hs ha, Option.bind_some, nmul, nadd, nadd1]
      · have hns : ¬ (s = 0 ∨ s.testBit l = true) := by
          unfold stb at b
          simp only [Bool.or_eq_true, Bool.and_eq_true, decide_eq_true_eq] at b
          rintro (z | z)
          · unfold Ln at hl
            rw [if_pos z] at hl
            exact b (Or.inl ⟨z, by omega⟩)
          · exact b (Or.inr z)
        rw [if_neg hns, if_pos rfl, if_neg b, Nat.add_zero, nadd1]) (fun c => by
      unfold mX4_numberTaking_l15
      dsimp only
      have c1 : ¬ nI (Ln n s) < nI (Ln n s) := by rw [nlt (by omega) (by omega)]; omega
      rw [lastsOf_eq (by omega) hw, if_neg c1])
    rw [Nat.zero_add] at e
    rw [show tr_loop (mX4_numberTaking_l15 (nI a) (nI s) N) (0, 0) = _ from e]
    congr 2
    rw [cN_step hG hn hs ha hbit, Nat.mul_comm, ← sm_mul]
    have e2 : sm 10 (fun l => nm G n (ins s a) a * (if stb s l = true then (if G s (ls s l) a = true then cN G n s l else 0) else 0)) = sm (Ln n s) (fun l => nm G n (ins s a) a * (if stb s l = true then (if G s (ls s l) a = true then cN G n s l else 0) else 0)) := sm_zero (fun l hl => by
      rw [if_neg, Nat.mul_zero]
      intro q
      have := ((stb_St hs).mp q).lt
      omega) hLn
    rw [e2]
    refine sm_congr fun l hl => ?_
    by_cases b : stb s l = true
    · rw [if_pos b, if_pos b]
      by_cases g : G s (ls s l) a = true
      · rw [if_pos g, if_pos g, Nat.mul_comm]
      · rw [if_neg g, if_neg g, Nat.mul_zero]
    · rw [if_neg b, if_neg b, Nat.mul_zero]
