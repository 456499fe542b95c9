/-! ===== E: what is least from each state on, in the class ===== -/
theorem gap_tab : ∀ s : Fin 1024, s.1 ≠ 0 → ins (s.1 &&& (s.1 - 1)) (cnt 10 ((s.1 ^^^ (s.1 &&& (s.1 - 1))) - 1)) = s.1 ∧ (s.1 &&& (s.1 - 1)).testBit (cnt 10 ((s.1 ^^^ (s.1 &&& (s.1 - 1))) - 1)) = false ∧ cnt 10 ((s.1 ^^^ (s.1 &&& (s.1 - 1))) - 1) < 10 ∧ (s.1 &&& (s.1 - 1)) < s.1 ∧ nI s.1 &&& (nI s.1 - 1) = nI (s.1 &&& (s.1 - 1)) ∧ mJ6_bitCount_0f7a4 ((nI s.1 ^^^ (nI s.1 &&& (nI s.1 - 1))) - 1) = some (nI (cnt 10 ((s.1 ^^^ (s.1 &&& (s.1 - 1))) - 1))) := by decide +kernel
theorem gap_low {s n : Nat} (h0 : s ≠ 0) (hs : s < 2 ^ n) (hn : n ≤ 10) : ∃ o x, ins o x = s ∧ o.testBit x = false ∧ x < n ∧ o < s ∧ nI s &&& (nI s - 1) = nI o ∧ mJ6_bitCount_0f7a4 ((nI s ^^^ nI o) - 1) = some (nI x) := by
  have hp := pow_lt hn
  obtain ⟨h1, h2, h3, h4, h5, h6⟩ := gap_tab ⟨s, by omega⟩ h0
  refine ⟨_, _, h1, h2, ?_, h4, h5, ?_⟩
  · refine Nat.lt_of_not_le fun q => ?_
    have hb : s.testBit (cnt 10 ((s ^^^ (s &&& (s - 1))) - 1)) = true := by
      have h1 : ins (s &&& (s - 1)) (cnt 10 ((s ^^^ (s &&& (s - 1))) - 1)) = s := h1
      have := ins_bit (s &&& (s - 1)) (cnt 10 ((s ^^^ (s &&& (s - 1))) - 1)) (cnt 10 ((s ^^^ (s &&& (s - 1))) - 1))
      rw [h1] at this
      rw [this]; simp
    rw [Nat.testBit_lt_two_pow (Nat.lt_of_lt_of_le hs (Nat.pow_le_pow_right (by decide) q))] at hb
    cases hb
  · rw [← h5]; exact h6
theorem gaps_eq {w : Wd} {m : Nat} {M : tr_M} (hok : WOk w) (hw : CWd w 26 M) (hm : m < 4 ∨ m = 5) : ∃ N, mX4_fillGapCosts (nI m) M = some N ∧ (∀ s, s < 2 ^ w.1 → N.1 45 s = nI (gN w m s)) ∧ (∀ c, c ≠ 45 → N.1 c = M.1 c) ∧ N.2 = M.2 := by
  have hn := hok.1
  have hpw := pow_lt hn
  have hp0 := Nat.two_pow_pos w.1
  unfold mX4_fillGapCosts
  rw [n00, tr_wr_nI (by decide) (by decide), Option.bind_some]
  obtain ⟨A, a1, a2, a3, a4⟩ := tr_loop_inv (step := mX4_fillGapCosts_l9 (nI m)) (s0 := (1, tr_st M 45 0 (nI 0))) (fun i t => ∃ N, t = (nI (1 + i), N) ∧ (∀ q, q < 1 + i → N.1 45 q = nI (gN w m q)) ∧ (∀ c, c ≠ 45 → N.1 c = M.1 c) ∧ N.2 = M.2) (fun N => (∀ q, q < 2 ^ w.1 → N.1 45 q = nI (gN w m q)) ∧ (∀ c, c ≠ 45 → N.1 c = M.1 c) ∧ N.2 = M.2) (2 ^ w.1 - 1) (by omega) ⟨_, rfl, fun q hq => by
      rw [show q = 0 by omega, tr_st_s, gN_0], fun c hc => tr_st_ne hc, rfl⟩ (by
    rintro i t hi ⟨N, rfl, g1, g2, g3⟩
    left
    have hwN : CWd w 26 N := hw.congr fun b h1 h2 => g2 b (by omega)
    have c1 : ¬ nI (2 ^ w.1 - 1) < nI (1 + i) := by rw [nlt (by omega) (by omega)]; omega
    refine ⟨_, ?_, tr_st N 45 (1 + i) (nI (gN w m (1 + i))), rfl, fun q hq => ?_, fun c hc => by rw [tr_st_ne hc]; exact g2 c hc, g3⟩
    · unfold mX4_fillGapCosts_l9
      dsimp only
      rw [everything_eq hwN.1 hn, if_neg c1]
      by_cases m5 : m = 5
      · subst m5
        rw [if_pos (show nI 5 = 5 from rfl), n00, tr_wr_nI (by omega) (by decide), Option.bind_some, nadd1]
        rfl
      · rw [if_neg (show ¬ nI m = 5 by rw [show (5 : Int32) = nI 5 from rfl, neq (by omega) (by decide)]; exact m5)]
        by_cases m23 : m = 2 ∨ m = 3
        · have e : (if nI m = 2 then some (Sum.inl (nI (1 + i), N)) else if nI m = 3 then some (Sum.inl (nI (1 + i), N)) else Option.bind (mJ6_bitCount_0f7a4 ((nI (1 + i) ^^^ (nI (1 + i) &&& (nI (1 + i) - 1))) - 1)) fun c9 => Option.bind (tr_rd 1024 N 45 (nI (1 + i) &&& (nI (1 + i) - 1))) fun a11 => Option.bind (mX5_weightAdded 26 c9 (nI (1 + i) &&& (nI (1 + i) - 1)) N) fun c13 => Option.bind (tr_wr 1024 N 45 (nI (1 + i)) (a11 + c13)) fun M15 => some (Sum.inr (Sum.inl (nI (1 + i) + 1, M15)) : (Int32 × tr_M) ⊕ ((Int32 × tr_M) ⊕ tr_M))) = some (Sum.inl (nI (1 + i), N)) := by
            rcases m23 with rfl | rfl <;> rfl
          rw [e]
          dsimp only [Option.bind_some, tr_el]
          rw [heldBy_eq hok hwN (by omega), Option.bind_some, tr_wr_nI (by omega) (by decide), Option.bind_some, nadd1]
          have : gN w m (1 + i) = heldN w (1 + i) := by
            unfold gN
            rw [if_neg (by omega), if_pos m23]
          rw [this]
          rfl
        · obtain ⟨o, x, o1, o2, o3, o4, o5, o6⟩ := gap_low (show 1 + i ≠ 0 by omega) (show 1 + i < 2 ^ w.1 by omega) hn
          rw [if_neg (show ¬ nI m = 2 by rw [show (2 : Int32) = nI 2 from rfl, neq (by omega) (by decide)]; omega), if_neg (show ¬ nI m = 3 by rw [show (3 : Int32) = nI 3 from rfl, neq (by omega) (by decide)]; omega), o5, o6, Option.bind_some, tr_rd_nI (show o < 1024 by omega) (by decide), Option.bind_some, weightAdded_eq hok hwN (by omega) (by omega), Option.bind_some, tr_wr_nI (by omega) (by decide)]
          dsimp only [Option.bind_some, tr_el]
          have hg : ∀ q, gN w m q = cutN w q := fun q => by
            unfold gN
            rw [if_pos (by omega)]
          rw [g1 o (by omega), hg, hg, across_eq hok o3 o2, o1, nadd1]
          rfl
    · by_cases e : q = 1 + i
      · rw [e, tr_st_s]
      · rw [tr_st_j e]; exact g1 q (by omega)) (by
    rintro t ⟨N, rfl, g1, g2, g3⟩
    have hwN : CWd w 26 N := hw.congr fun b h1 h2 => g2 b (by omega)
    have c1 : nI (2 ^ w.1 - 1) < nI (1 + (2 ^ w.1 - 1)) := (nlt (by omega) (by omega)).mpr (by omega)
    refine ⟨N, ?_, fun q hq => g1 q (by omega), g2, g3⟩
    unfold mX4_fillGapCosts_l9
    dsimp only
    rw [everything_eq hwN.1 hn, if_pos c1])
  exact ⟨A, a1, a2, a3, a4⟩
abbrev TP : Nat := 268435456
def bC (nx : Rl) (n : Nat) (ad : Bool) (g : Nat → Nat) (s l : Nat) : Nat := if ms nx n ad g s l < NV then comb ad (g s) (ms nx n ad g s l) else TP
theorem mnf_T {f : Nat → Nat} : ∀ n, mnf TP n (fun x => if f x < NV then f x else TP) = if mnf NV n f < NV then mnf NV n f else TP
  | 0 => by
    rw [if_neg (show ¬ mnf NV 0 f < NV from Nat.lt_irrefl _)]
    rfl
  | n + 1 => by
    show min (mnf TP n (fun x => if f x < NV then f x else TP)) (if f n < NV then f n else TP) = if min (mnf NV n f) (f n) < NV then min (mnf NV n f) (f n) else TP
    rw [mnf_T n]
    have h1 : (NV : Nat) = 1000000 := rfl
    have h2 : (TP : Nat) = 268435456 := rfl
    by_cases a : mnf NV n f < NV
    · rw [if_pos a]
      by_cases b : f n < NV
      · rw [if_pos b, if_pos (by omega)]
      · rw [if_neg b, if_pos (by omega)]
        omega
    · rw [if_neg a]
      by_cases b : f n < NV
      · rw [if_pos b, if_pos (by omega)]
        omega
      · rw [if_neg b, if_neg (by omega)]
        omega
theorem ms_bd {nx : Rl} {n : Nat} {ad : Bool} {g : Nat → Nat} (hn : n ≤ 10) (hg : ∀ s, g s ≤ 1000) {s l : Nat} (h : ms nx n ad g s l < NV) : ms nx n ad g s l ≤ 10000 := by
  have hk : lft n s ≤ n := Nat.sub_le _ _
  have h2 : mv nx n ad g (lft n s) s l < NV := h
  have := mv_lt (ad := ad) hg (show lft n s ≤ 10 by omega) ((mv_iff hg (by omega)).mp h2)
  show mv nx n ad g (lft n s) s l ≤ 10000
  omega
theorem comb_bd {nx : Rl} {n : Nat} {ad : Bool} {g : Nat → Nat} (hn : n ≤ 10) (hg : ∀ s, g s ≤ 1000) {s l t : Nat} (h : ms nx n ad g s l < NV) : comb ad (g t) (ms nx n ad g s l) ≤ 11000 := by
  have h1 := ms_bd hn hg h
  have h2 := hg t
  have h3 : comb ad (g t) (ms nx n ad g s l) ≤ _ := comb_le
  omega
theorem bC_le {nx : Rl} {n : Nat} {ad : Bool} {g : Nat → Nat} (hn : n ≤ 10) (hg : ∀ s, g s ≤ 1000) (s l : Nat) : bC nx n ad g s l ≤ TP := by
  unfold bC
  have h2 : (TP : Nat) = 268435456 := rfl
  by_cases c : ms nx n ad g s l < NV
  · rw [if_pos c]
    have := comb_bd (t := s) hn hg c
    omega
  · rw [if_neg c]
    exact Nat.le_refl _
theorem bC_lt {nx : Rl} {n : Nat} {ad : Bool} {g : Nat → Nat} (hn : n ≤ 10) (hg : ∀ s, g s ≤ 1000) (s l : Nat) : bC nx n ad g s l < TP ↔ ms nx n ad g s l < NV := by
  unfold bC
  have h2 : (TP : Nat) = 268435456 := rfl
  by_cases c : ms nx n ad g s l < NV
  · rw [if_pos c]
    have := comb_bd (t := s) hn hg c
    exact ⟨fun _ => c, fun _ => by omega⟩
  · rw [if_neg c]
    exact ⟨fun z => absurd z (Nat.lt_irrefl _), fun z => absurd z c⟩
theorem lft_full {n s : Nat} (h : s = 2 ^ n - 1) : lft n s = 0 := by
  unfold lft
  rw [cnt_all (fun i hi => by rw [h, full_bit]; simp [hi])]
  omega
theorem lft_pos {n s : Nat} (hs : s < 2 ^ n) (h : s ≠ 2 ^ n - 1) : lft n s ≠ 0 := by
  unfold lft
  have h1 := cnt_le s n
  have h2 : cnt n s ≠ n := fun e => h ((full_cnt hs).mp e)
  omega
theorem bC_full {nx : Rl} {n : Nat} {ad : Bool} {g : Nat → Nat} {s l : Nat} (h : s = 2 ^ n - 1) (hg : g s = 0) : bC nx n ad g s l = 0 := by
  unfold bC
  rw [ms_eq (lft_full h), mv_0, if_pos (by decide), hg, comb_0]
theorem stateOf_eq (s l : Nat) : mX4_stateOf (nI s) (nI l) = nI (s * 10 + l) := by
  unfold mX4_stateOf
  rw [show (10 : Int32) = nI 10 from rfl, nmul, nadd]
theorem bestOf_eq {n : Nat} {nx : Rl} {ad : Bool} {g : Nat → Nat} {s l : Nat} {M : tr_M} (hn : n ≤ 10) (hw : M.1 26 0 = nI n) (hf : Fresh nx n) (hg : ∀ s, g s ≤ 1000) (hgf : g (2 ^ n - 1) = 0) (hst : St n s l) (hNX : mX4_nextOf (nI s) (nI l) M = some (nI (nxb nx s (ls s l)))) (hGC : ∀ s, s < 2 ^ n → M.1 45 s = nI (g s)) (had : M.1 25 11 = if ad = true then 1 else 0) (hT : ∀ x, x < n → s.testBit x = false → M.1 48 (ins s x * 10 + x) = nI (bC nx n ad g (ins s x) x)) : mX4_bestOf (nI s) (nI l) M = some (nI (bC nx n ad g s (ls s l))) := by
  have hpw := pow_lt hn
  have hp0 := Nat.two_pow_pos n
  have hs := hst.1
  have hTP : (TP : Nat) = 268435456 := rfl
  have hNV : (NV : Nat) = 1000000 := rfl
  unfold mX4_bestOf
  rw [everything_eq hw hn]
  simp (disch := omega) only [neq]
  by_cases full : s = 2 ^ n - 1
  · rw [if_pos full, bC_full full (by rw [full]; exact hgf)]
    rfl
  · rw [if_neg full, hNX]
    dsimp only [Option.bind_some]
    have hb := nxb_lt nx s (ls s l)
    have el : tr_loop (mX4_bestOf_l27 (nI s) M (nI (nxb nx s (ls s l)))) (268435456, 0) = some (nI (mnf TP n (fun x => if nx s (ls s l) x = true then bC nx n ad g (ins s x) x else TP))) := by
      refine tr_loop_seq' (fun x => (nI (mnf TP x (fun x => if nx s (ls s l) x = true then bC nx n ad g (ins s x) x else TP)), nI x)) n rfl (by omega) (fun x hx => ?_) ?_
      · unfold mX4_bestOf_l27
        dsimp only
        have c1 : nI x < nI n := (nlt (by omega) (by omega)).mpr hx
        have hle : mnf TP x (fun x => if nx s (ls s l) x = true then bC nx n ad g (ins s x) x else TP) ≤ TP := mnf_top
        rw [hw, if_pos c1, mnf_s]
        simp (disch := omega) only [bit_eq0]
        rw [nxb_bit]
        cases q : nx s (ls s l) x with
        | false =>
          rw [if_pos (by simp), if_neg (by decide), nadd1, show min (mnf TP x (fun x => if nx s (ls s l) x = true then bC nx n ad g (ins s x) x else TP)) TP = mnf TP x (fun x => if nx s (ls s l) x = true then bC nx n ad g (ins s x) x else TP) by omega]
        | true =>
          obtain ⟨-, hnew⟩ := hf s _ x q
          have hi := ins_lt hs hx
          have hbc := bC_le (nx := nx) (ad := ad) hn hg (ins s x) x
          rw [if_neg (by simp [show x < 10 by omega]), if_pos rfl, ins_nI (by omega), stateOf_eq, tr_rd_nI (by omega) (by decide), Option.bind_some, hT x hx hnew, nmin _ _ (by omega) (by omega), nadd1]
      · unfold mX4_bestOf_l27
        dsimp only
        have c1 : ¬ nI n < nI n := by rw [nlt (by omega) (by omega)]; omega
        rw [hw, if_neg c1]
    rw [el]
    dsimp only [Option.bind_some]
    have key : mnf TP n (fun x => if nx s (ls s l) x = true then bC nx n ad g (ins s x) x else TP) = if ms nx n ad g s (ls s l) < NV then ms nx n ad g s (ls s l) else TP := by
      rw [ms_succ hf hn hg (lft_pos hs full), ← mnf_T]
      refine mnf_congr fun x hx => ?_
      by_cases c : nx s (ls s l) x = true
      · rw [if_pos c, if_pos c]
        unfold bC
        by_cases d : ms nx n ad g (ins s x) x < NV
        · have := comb_bd (t := ins s x) hn hg d
          rw [if_pos d, if_pos d, if_pos (by omega)]
        · rw [if_neg d, if_neg d, if_neg (Nat.lt_irrefl _)]
      · rw [if_neg c, if_neg c, if_neg (Nat.lt_irrefl _)]
    rw [key]
    unfold bC
    by_cases d : ms nx n ad g s (ls s l) < NV
    · have hms := ms_bd hn hg d
      have hgs := hg s
      have c1 : nI (ms nx n ad g s (ls s l)) < (268435456 : Int32) := by rw [show (268435456 : Int32) = nI TP from rfl]; exact (nlt (by omega) (by omega)).mpr (by omega)
      rw [if_pos d, if_pos d, if_pos c1, had, tr_rd_nI (show s < 1024 by omega) (by decide), hGC s hs]
      unfold comb
      cases ad
      · rw [if_pos (by decide), Option.bind_some, nmax _ _ (by omega) (by omega), if_neg (by decide), Nat.max_comm]
      · rw [if_neg (by decide), Option.bind_some, nadd, if_pos rfl, Nat.add_comm]
    · have c1 : ¬ nI TP < (268435456 : Int32) := by decide
      rw [if_neg d, if_neg d, if_neg c1]
      rfl
