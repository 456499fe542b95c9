/-! ===== must: the class's table of what is broken at least ===== -/
theorem down3 {n : Nat} {ρ : Type} {M : tr_M} (hn : n ≤ 10) {out : Int32 × tr_M → Option ((Int32 × tr_M) ⊕ ρ)} {inn : Nat → tr_M → Int32 × tr_M → Option ((Int32 × tr_M) ⊕ ((Int32 × tr_M) ⊕ ρ))} (J : Nat → Nat → tr_M → Prop) (Q : Nat → tr_M → Prop) (R : ρ → Prop) (ho : ∀ s N, s < 2 ^ n → Q s N → ∃ N', J s 0 N' ∧ out (nI s, N) = tr_loop (inn s N') (0, N')) (ho2 : ∀ N, J 0 1 N → ∃ r, out (-1, N) = some (.inr r) ∧ R r) (hst : ∀ s l N K, St n s l → J s l N → ∃ P, inn s K (nI l, N) = some (.inl (nI (l + 1), P)) ∧ J s (l + 1) P) (hsk : ∀ s l N K, s < 2 ^ n → s ≠ 0 → l < n → s.testBit l = false → J s l N → inn s K (nI l, N) = some (.inl (nI (l + 1), N)) ∧ J s (l + 1) N) (he : ∀ s N K, s < 2 ^ n → J s (Ln n s) N → inn s K (nI (Ln n s), N) = some (.inr (.inl (nI s + (-1), N)))) (hnx : ∀ s N, s + 1 < 2 ^ n → J (s + 1) (Ln n (s + 1)) N → Q s N) (h0 : Q (2 ^ n - 1) M) : ∃ r, tr_loop out (nI (2 ^ n - 1), M) = some r ∧ R r := by
  have hpw := pow_lt hn
  have hp0 := Nat.two_pow_pos n
  have inner : ∀ s N, s < 2 ^ n → J s 0 N → ∃ P, tr_loop (inn s N) (0, N) = some (.inl (nI s + (-1), P)) ∧ J s (Ln n s) P := fun s N hs hJ => by
    obtain ⟨r, e1, P, e2, e3⟩ := tr_loop_inv (step := inn s N) (s0 := (0, N)) (fun l t => ∃ P, t = (nI l, P) ∧ J s l P) (fun r => ∃ P, r = .inl (nI s + (-1), P) ∧ J s (Ln n s) P) (Ln n s) (by unfold Ln; split <;> omega) ⟨N, rfl, hJ⟩ (by
      rintro l t hl ⟨P, rfl, hP⟩
      left
      by_cases c : s = 0
      · unfold Ln at hl
        rw [if_pos c] at hl
        obtain ⟨Q, q1, q2⟩ := hst s l P N ⟨hs, Or.inl ⟨c, by omega⟩⟩ hP
        exact ⟨_, q1, Q, rfl, q2⟩
      · unfold Ln at hl
        rw [if_neg c] at hl
        cases b : s.testBit l with
        | true =>
          obtain ⟨Q, q1, q2⟩ := hst s l P N ⟨hs, Or.inr ⟨hl, b⟩⟩ hP
          exact ⟨_, q1, Q, rfl, q2⟩
        | false =>
          obtain ⟨q1, q2⟩ := hsk s l P N hs c hl b hP
          exact ⟨_, q1, P, rfl, q2⟩) (by
      rintro t ⟨P, rfl, hP⟩
      exact ⟨_, he s P N hs hP, P, rfl, hP⟩)
    exact ⟨P, by rw [e1, e2], e3⟩
  refine tr_loop_inv (step := out) (s0 := (nI (2 ^ n - 1), M)) (fun i t => ∃ N, (i < 2 ^ n ∧ t = (nI (2 ^ n - 1 - i), N) ∧ Q (2 ^ n - 1 - i) N) ∨ (i = 2 ^ n ∧ t = (-1, N) ∧ J 0 1 N)) R (2 ^ n) (by omega) ⟨M, Or.inl ⟨hp0, rfl, h0⟩⟩ ?_ ?_
  · rintro i t hi ⟨N, ⟨_, rfl, hJ⟩ | ⟨e, _, _⟩⟩
    · left
      obtain ⟨N', hJ', h1⟩ := ho (2 ^ n - 1 - i) N (by omega) hJ
      obtain ⟨P, p1, p2⟩ := inner (2 ^ n - 1 - i) N' (by omega) hJ'
      rw [h1, p1]
      refine ⟨_, rfl, P, ?_⟩
      by_cases c : i + 1 < 2 ^ n
      · left
        refine ⟨c, ?_, ?_⟩
        · rw [nsub1 (by omega), show 2 ^ n - 1 - i - 1 = 2 ^ n - 1 - (i + 1) by omega]
        · refine hnx (2 ^ n - 1 - (i + 1)) P (by omega) ?_
          rw [show 2 ^ n - 1 - (i + 1) + 1 = 2 ^ n - 1 - i by omega]
          exact p2
      · right
        rw [show 2 ^ n - 1 - i = 0 by omega] at p2 ⊢
        exact ⟨by omega, rfl, p2⟩
    · omega
  · rintro t ⟨N, ⟨hi, _, _⟩ | ⟨_, rfl, hJ⟩⟩
    · omega
    · exact ho2 N hJ
theorem pw_lt {n x : Nat} (hn : n ≤ 10) (hx : x < n) : 2 ^ x < 1024 := Nat.lt_of_lt_of_le (Nat.pow_lt_pow_right (by decide) hx) (pow_lt hn)
theorem bB_lt {n : Nat} {r : Nat × Nat × Nat × Nat} (hr : ruleOk n r) (hn : n ≤ 10) (s : Nat) : bB r s < 1024 := by
  obtain ⟨kd, x, y, z⟩ := r
  unfold ruleOk at hr
  unfold bB
  dsimp only at hr ⊢
  have hx : kd ≠ 0 → x < n := by omega
  have hy : kd = 1 → y < n := by omega
  by_cases c1 : kd = 1
  · rw [if_pos c1]
    split
    · decide
    · exact pw_lt hn (hy c1)
  rw [if_neg c1]
  by_cases c3 : kd = 3
  · rw [if_pos c3]
    split
    · decide
    · exact pw_lt hn (hx (by omega))
  rw [if_neg c3]
  by_cases c4 : kd = 4
  · rw [if_pos c4]
    split
    · exact pw_lt hn (hx (by omega))
    · decide
  rw [if_neg c4]
  by_cases c6 : kd = 6
  · rw [if_pos c6]
    split
    · exact pw_lt hn (hx (by omega))
    · decide
  rw [if_neg c6]
  decide
theorem bN_lt {n : Nat} {r : Nat × Nat × Nat × Nat} (hr : ruleOk n r) (hn : n ≤ 10) (l : Nat) : bN r l < 1024 := by
  obtain ⟨kd, x, y, z⟩ := r
  unfold ruleOk at hr
  unfold bN
  dsimp only at hr ⊢
  have hx : kd ≠ 0 → x < n := by omega
  have hy : kd = 2 ∨ kd = 5 → y < n := by omega
  by_cases c1 : kd = 2
  · rw [if_pos c1]
    split
    · decide
    · exact pw_lt hn (hy (Or.inl c1))
  rw [if_neg c1]
  by_cases c3 : kd = 5
  · rw [if_pos c3]
    split
    · exact pw_lt hn (hy (Or.inr c3))
    · split
      · exact pw_lt hn (hx (by omega))
      · decide
  rw [if_neg c3]
  decide
theorem bB_or (r : Nat × Nat × Nat × Nat) (s l : Nat) : bB r s = 0 ∨ bN r l = 0 := by
  unfold bB bN
  by_cases c2 : r.1 = 2
  · left
    simp [c2]
  · by_cases c5 : r.1 = 5
    · left
      simp [c5]
    · right
      simp [c2, c5]
def vio (w : Wd) (k s l x : Nat) : Bool := !w.2.2.2.2 k && !stC (w.2.2.2.1 k) s l x
def cK (k : Nat) : Nat := 256 + 2 ^ k
def sB (w : Wd) (s x : Nat) : Nat := sm w.2.2.1 (fun k => if (bBk w k s).testBit x = true then cK k else 0)
def sN (w : Wd) (l x : Nat) : Nat := sm w.2.2.1 (fun k => if (bNk w k l).testBit x = true then cK k else 0)
def sV (w : Wd) (s l x : Nat) : Nat := sm w.2.2.1 (fun k => if vio w k s l x = true then cK k else 0)
theorem sV_eq {w : Wd} (hok : WOk w) (s l x : Nat) : sB w s x + sN w l x = sV w s l x := by
  unfold sB sN sV
  rw [← sm_add]
  refine sm_congr fun k hk => ?_
  unfold bBk bNk vio
  rw [stC_bits (hok.2.2.2.2.2.1 k hk) s l x]
  cases ho : w.2.2.2.2 k with
  | true => simp
  | false =>
    rw [if_neg (show ¬ false = true by decide), if_neg (show ¬ false = true by decide)]
    rcases bB_or (w.2.2.2.1 k) s l with z | z
    · rw [z, Nat.zero_testBit]
      cases (bN (w.2.2.2.1 k) l).testBit x <;> simp
    · rw [z, Nat.zero_testBit]
      cases (bB (w.2.2.2.1 k) s).testBit x <;> simp
theorem cK_le {k : Nat} (hk : k < 8) : cK k ≤ 384 := by
  unfold cK
  have : 2 ^ k ≤ 2 ^ 7 := Nat.pow_le_pow_right (by decide) (by omega)
  have e : (2 : Nat) ^ 7 = 128 := by decide
  omega
theorem sV_le {w : Wd} (hok : WOk w) (s l x : Nat) : sV w s l x ≤ 3072 := by
  have h8 := hok.2.2.2.2.1
  have h : sV w s l x ≤ w.2.2.1 * 384 := sm_le fun k hk => by
    split
    · exact cK_le (by omega)
    · omega
  have := Nat.mul_le_mul_right 384 h8
  omega
theorem costRule_eq {k : Nat} (hk : k < 8) : mX4_costOfRule (nI k) = nI (cK k) := by
  rcases (show k = 0 ∨ k = 1 ∨ k = 2 ∨ k = 3 ∨ k = 4 ∨ k = 5 ∨ k = 6 ∨ k = 7 by omega) with rfl | rfl | rfl | rfl | rfl | rfl | rfl | rfl <;> decide
theorem addCosts_eq {n b c p o : Nat} {M : tr_M} (hn : n ≤ 10) (hw : M.1 26 0 = nI n) (hb : b < 1024) (hp : p ≠ 26) (ho : o + n ≤ tr_len shC p) (hl : tr_len shC p < 2147483648) : ∃ N, mX4_addCosts (nI b) (nI c) p (nI o) M = some N ∧ (∀ x, x < n → N.1 p (o + x) = M.1 p (o + x) + (if b.testBit x = true then nI c else 0)) ∧ (∀ j, j < o ∨ o + n ≤ j → N.1 p j = M.1 p j) ∧ (∀ q, q ≠ p → N.1 q = M.1 q) ∧ N.2 = M.2 := by
  unfold mX4_addCosts
  refine tr_loop_inv (step := mX4_addCosts_l3 (nI b) (nI c) p (nI o)) (s0 := (0, M)) (fun k t => ∃ N, t = (nI k, N) ∧ (∀ x, x < k → N.1 p (o + x) = M.1 p (o + x) + (if b.testBit x = true then nI c else 0)) ∧ (∀ j, j < o ∨ o + k ≤ j → N.1 p j = M.1 p j) ∧ (∀ q, q ≠ p → N.1 q = M.1 q) ∧ N.2 = M.2) (fun N => (∀ x, x < n → N.1 p (o + x) = M.1 p (o + x) + (if b.testBit x = true then nI c else 0)) ∧ (∀ j, j < o ∨ o + n ≤ j → N.1 p j = M.1 p j) ∧ (∀ q, q ≠ p → N.1 q = M.1 q) ∧ N.2 = M.2) n (by omega) ⟨M, rfl, fun x hx => by omega, fun _ _ => rfl, fun _ _ => rfl, rfl⟩ ?_ ?_
  · rintro k t hk ⟨N, rfl, t1, t2, t3, t4⟩
    left
    have hwN : N.1 26 0 = nI n := by rw [t3 26 (fun e => hp e.symm)]; exact hw
    unfold mX4_addCosts_l3
    dsimp only
    rw [hwN, if_pos ((nlt (by omega) (by omega)).mpr hk), nadd1]
    by_cases d : b.testBit k = true
    · rw [if_neg (by rw [bit_eq0 (by omega) (by omega), d]; decide), nadd, tr_rd_nI (by omega) hl, Option.bind_some, tr_wr_nI (by omega) hl, Option.bind_some]
      refine ⟨_, rfl, _, rfl, fun x hx => ?_, fun j hj => ?_, fun q hq => by rw [tr_st_ne hq, t3 q hq], t4⟩
      · by_cases e : x = k
        · rw [e, tr_st_s, if_pos d, t2 (o + k) (by omega)]
        · rw [tr_st_j (by omega)]
          exact t1 x (by omega)
      · rw [tr_st_j (by omega)]
        exact t2 j (by omega)
    · rw [if_pos (by rw [bit_eq0 (by omega) (by omega)]; simpa using d)]
      refine ⟨_, rfl, N, rfl, fun x hx => ?_, fun j hj => t2 j (by omega), t3, t4⟩
      by_cases e : x = k
      · rw [e, if_neg d, Int32.add_zero]
        exact t2 (o + k) (by omega)
      · exact t1 x (by omega)
  · rintro t ⟨N, rfl, t1, t2, t3, t4⟩
    have hwN : N.1 26 0 = nI n := by rw [t3 26 (fun e => hp e.symm)]; exact hw
    unfold mX4_addCosts_l3
    dsimp only
    rw [hwN, if_neg (by rw [nlt (by omega) (by omega)]; omega)]
    exact ⟨N, rfl, t1, t2, t3, t4⟩
theorem nI_if {b : Bool} {c : Nat} : (if b = true then nI c else 0) = nI (if b = true then c else 0) := by
  cases b <;> rfl
theorem bBk_lt {w : Wd} (hok : WOk w) {k : Nat} (hk : k < w.2.2.1) (s : Nat) : bBk w k s < 1024 := by
  unfold bBk
  split
  · decide
  · exact bB_lt (hok.2.2.2.2.2.1 k hk) hok.1 s
theorem bNk_lt {w : Wd} (hok : WOk w) {k : Nat} (hk : k < w.2.2.1) (l : Nat) : bNk w k l < 1024 := by
  unfold bNk
  split
  · decide
  · exact bN_lt (hok.2.2.2.2.2.1 k hk) hok.1 l
theorem fillBehind_eq {w : Wd} {s : Nat} {M : tr_M} (hok : WOk w) (hw : CWd w 26 M) (hs : s < 1024) : ∃ N, mX4_fillBehindCosts (nI s) M = some N ∧ (∀ x, x < w.1 → N.1 52 x = nI (sB w s x)) ∧ (∀ c, c ≠ 52 → N.1 c = M.1 c) ∧ N.2 = M.2 := by
  have hn := hok.1
  have h8 := hok.2.2.2.2.1
  unfold mX4_fillBehindCosts
  have e0 := fillAll_eq (sh := shC) (a := 52) (v := 0) (M := M) (by decide) (by decide)
  rw [e0, Option.bind_some]
  refine tr_loop_inv (step := mX4_fillBehindCosts_l10 (nI s)) (s0 := (0, _)) (fun k t => ∃ N, t = (nI k, N) ∧ (∀ x, x < w.1 → N.1 52 x = nI (sm k (fun k => if (bBk w k s).testBit x = true then cK k else 0))) ∧ (∀ c, c ≠ 52 → N.1 c = M.1 c) ∧ N.2 = M.2) (fun N => (∀ x, x < w.1 → N.1 52 x = nI (sB w s x)) ∧ (∀ c, c ≠ 52 → N.1 c = M.1 c) ∧ N.2 = M.2) w.2.2.1 (by omega) ⟨_, rfl, fun x hx => ?_, fun c hc => tr_row_ne hc, rfl⟩ ?_ ?_
  · rw [tr_row_s]
    exact fl_in (Nat.zero_le _) (show x < 0 + 10 by omega)
  · rintro k t hk ⟨N, rfl, t1, t2, t3⟩
    left
    have hwN : CWd w 26 N := hw.congr fun b h1 h2 => t2 b (by omega)
    unfold mX4_fillBehindCosts_l10
    dsimp only
    rw [hwN.2.1, if_pos ((nlt (by omega) (by omega)).mpr hk), barredBehind_eq hok hwN hk hs, Option.bind_some, costRule_eq (by omega)]
    obtain ⟨P, p1, p2, p3, p4, p5⟩ := addCosts_eq (b := bBk w k s) (c := cK k) (p := 52) (o := 0) hn hwN.1 (bBk_lt hok hk s) (by decide) (show 0 + w.1 ≤ 10 by omega) (by decide)
    have p1' : mX4_addCosts (nI (bBk w k s)) (nI (cK k)) 52 0 N = some P := p1
    rw [p1', Option.bind_some, nadd1]
    refine ⟨_, rfl, P, rfl, fun x hx => ?_, fun c hc => by rw [p4 c hc, t2 c hc], p5.trans t3⟩
    have := p2 x hx
    rw [Nat.zero_add] at this
    rw [this, t1 x hx, nI_if, nadd]
    rfl
  · rintro t ⟨N, rfl, t1, t2, t3⟩
    have hwN : CWd w 26 N := hw.congr fun b h1 h2 => t2 b (by omega)
    unfold mX4_fillBehindCosts_l10
    dsimp only
    rw [hwN.2.1, if_neg (by rw [nlt (by omega) (by omega)]; omega)]
    exact ⟨N, rfl, t1, t2, t3⟩
theorem fillNext_eq {w : Wd} {M : tr_M} (hok : WOk w) (hw : CWd w 26 M) : ∃ N, mX4_fillNextCosts M = some N ∧ (∀ l x, l ≤ 10 → x < w.1 → N.1 53 (l * 10 + x) = nI (sN w l x)) ∧ (∀ c, c ≠ 53 → N.1 c = M.1 c) ∧ N.2 = M.2 := by
  have hn := hok.1
  have h8 := hok.2.2.2.2.1
  unfold mX4_fillNextCosts
  have e0 := fillAll_eq (sh := shC) (a := 53) (v := 0) (M := M) (by decide) (by decide)
  rw [e0, Option.bind_some]
  refine tr_loop_inv (step := mX4_fillNextCosts_l10) (s0 := (0, _)) (fun l t => ∃ N, t = (nI l, N) ∧ (∀ l' x, l' < l → x < w.1 → N.1 53 (l' * 10 + x) = nI (sN w l' x)) ∧ (∀ l' x, l ≤ l' → l' ≤ 10 → x < w.1 → N.1 53 (l' * 10 + x) = nI 0) ∧ (∀ c, c ≠ 53 → N.1 c = M.1 c) ∧ N.2 = M.2) (fun N => (∀ l x, l ≤ 10 → x < w.1 → N.1 53 (l * 10 + x) = nI (sN w l x)) ∧ (∀ c, c ≠ 53 → N.1 c = M.1 c) ∧ N.2 = M.2) 11 (by omega) ⟨_, rfl, fun l' x hl' => by omega, fun l' x _ hl' hx => ?_, fun c hc => tr_row_ne hc, rfl⟩ ?_ ?_
  · rw [tr_row_s]
    exact fl_in (Nat.zero_le _) (show l' * 10 + x < 0 + 110 by omega)
  · rintro l t hl ⟨N, rfl, t1, t2, t3, t4⟩
    left
    have hstep : mX4_fillNextCosts_l10 (nI l, N) = tr_loop (mX4_fillNextCosts_l18 (nI l, N)) (0, N) := by
      conv => lhs; unfold mX4_fillNextCosts_l10
      dsimp only
      rw [if_neg (by rw [show (10 : Int32) = nI 10 from rfl, nlt (by decide) (by omega)]; omega)]
    rw [hstep]
    obtain ⟨r, r1, P, rfl, r3, r4, r5, r6⟩ := tr_loop_inv (step := mX4_fillNextCosts_l18 (nI l, N)) (s0 := (0, N)) (fun k t => ∃ P, t = (nI k, P) ∧ (∀ x, x < w.1 → P.1 53 (l * 10 + x) = nI (sm k (fun k => if (bNk w k l).testBit x = true then cK k else 0))) ∧ (∀ l' x, l' ≠ l → x < w.1 → P.1 53 (l' * 10 + x) = N.1 53 (l' * 10 + x)) ∧ (∀ c, c ≠ 53 → P.1 c = M.1 c) ∧ P.2 = M.2) (fun r => ∃ P, r = .inl (nI (l + 1), P) ∧ (∀ x, x < w.1 → P.1 53 (l * 10 + x) = nI (sN w l x)) ∧ (∀ l' x, l' ≠ l → x < w.1 → P.1 53 (l' * 10 + x) = N.1 53 (l' * 10 + x)) ∧ (∀ c, c ≠ 53 → P.1 c = M.1 c) ∧ P.2 = M.2) w.2.2.1 (by omega) ⟨N, rfl, fun x hx => t2 l x (Nat.le_refl _) (by omega) hx, fun _ _ _ _ => rfl, t3, t4⟩ (by
      rintro k t hk ⟨P, rfl, u1, u2, u3, u4⟩
      left
      have hwP : CWd w 26 P := hw.congr fun b h1 h2 => u3 b (by omega)
      unfold mX4_fillNextCosts_l18
      dsimp only
      have hso : mX4_stateOf (nI l) 0 = nI (l * 10) := stateOf_eq l 0
      rw [hwP.2.1, if_pos ((nlt (by omega) (by omega)).mpr hk), barredNextTo_eq hok hwP hk (by omega), Option.bind_some, costRule_eq (by omega), hso]
      obtain ⟨Q, p1, p2, p3, p4, p5⟩ := addCosts_eq (b := bNk w k l) (c := cK k) (p := 53) (o := l * 10) hn hwP.1 (bNk_lt hok hk l) (by decide) (show l * 10 + w.1 ≤ 110 by omega) (by decide)
      rw [p1, Option.bind_some, nadd1]
      refine ⟨_, rfl, Q, rfl, fun x hx => ?_, fun l' x hl' hx => ?_, fun c hc => by rw [p4 c hc, u3 c hc], p5.trans u4⟩
      · rw [p2 x hx, u1 x hx, nI_if, nadd]
        rfl
      · rw [p3 (l' * 10 + x) (by omega)]
        exact u2 l' x hl' hx) (by
      rintro t ⟨P, rfl, u1, u2, u3, u4⟩
      have hwP : CWd w 26 P := hw.congr fun b h1 h2 => u3 b (by omega)
      unfold mX4_fillNextCosts_l18
      dsimp only
      rw [hwP.2.1, if_neg (by rw [nlt (by omega) (by omega)]; omega), nadd1]
      exact ⟨_, rfl, P, rfl, u1, u2, u3, u4⟩)
    rw [r1]
    refine ⟨_, rfl, P, rfl, fun l' x hl' hx => ?_, fun l' x h1 h2 hx => ?_, r5, r6⟩
    · by_cases e : l' = l
      · rw [e]
        exact r3 x hx
      · rw [r4 l' x e hx]
        exact t1 l' x (by omega) hx
    · rw [r4 l' x (by omega) hx]
      exact t2 l' x (by omega) h2 hx
  · rintro t ⟨N, rfl, t1, t2, t3, t4⟩
    unfold mX4_fillNextCosts_l10
    dsimp only
    rw [if_pos (by decide)]
    exact ⟨N, rfl, fun l x hl hx => t1 l x (by omega) hx, t3, t4⟩
/-- what an order breaks, step by step -/
def tc (w : Wd) : Nat → Nat → List Nat → Nat
  | _, _, [] => 0
  | s, l, x :: p => sV w s l x + tc w (ins s x) x p
def tb (w : Wd) (s l : Nat) : Nat := lm TP ((ext (nxA w.1) w.1 (lft w.1 s) s l).map (tc w s l))
theorem lm_add {α : Type} (T c : Nat) (d : α → Nat) : ∀ L : List α, lm T (L.map (fun p => c + d p)) = min T (c + lm T (L.map d))
  | [] => by
    show T = min T (c + T)
    omega
  | p :: L => by
    show min (c + d p) (lm T (L.map (fun p => c + d p))) = min T (c + min (d p) (lm T (L.map d)))
    rw [lm_add T c d L]
    have := lm_le T (L.map d)
    omega
theorem tb_succ {w : Wd} {s l k : Nat} (hs : lft w.1 s = k + 1) : tb w s l = mnf TP w.1 (fun x => if s.testBit x = true then TP else min TP (sV w s l x + tb w (ins s x) x)) := by
  unfold tb
  rw [hs]
  show lm TP ((fm w.1 _).map _) = _
  rw [fm_map, lm_fm]
  refine mnf_congr fun x hx => ?_
  cases b : s.testBit x with
  | true =>
    rw [if_pos rfl, if_neg (by unfold nxA; rw [b]; simp)]
    rfl
  | false =>
    have hk : lft w.1 (ins s x) = k := by have := lft_ins hx b; omega
    rw [if_neg (show ¬ false = true by decide), if_pos (show nxA w.1 s l x = true by unfold nxA; rw [b]; simp [hx]), List.map_map, hk]
    exact lm_add TP (sV w s l x) (tc w (ins s x) x) _
theorem tb_le (w : Wd) (s l : Nat) : tb w s l ≤ TP := lm_le _ _
theorem brokenFrom_eq {w : Wd} {s l : Nat} {M : tr_M} (hok : WOk w) (hw : CWd w 26 M) (hst : St w.1 s l) (h52 : ∀ x, x < w.1 → M.1 52 x = nI (sB w s x)) (h53 : ∀ l x, l ≤ 10 → x < w.1 → M.1 53 (l * 10 + x) = nI (sN w l x)) (hT : ∀ s' l', St w.1 s' l' → s < s' → M.1 48 (s' * 10 + l') = nI (tb w s' (ls s' l'))) : mX4_leastBrokenFrom (nI s) (nI l) M = some (nI (tb w s (ls s l))) := by
  have hn := hok.1
  have hpw := pow_lt hn
  have hp0 := Nat.two_pow_pos w.1
  have hs := hst.1
  have hl := hst.l10 hn
  have hTP : TP = 268435456 := rfl
  unfold mX4_leastBrokenFrom
  rw [everything_eq hw.1 hn]
  by_cases c : s = 2 ^ w.1 - 1
  · rw [if_pos (by rw [c])]
    unfold tb
    rw [lft_full c]
    rfl
  · rw [if_neg (by rw [neq (by omega) (by omega)]; exact c)]
    obtain ⟨k, hk⟩ : ∃ k, lft w.1 s = k + 1 := ⟨lft w.1 s - 1, by have := lft_pos hs c; omega⟩
    have e6 : (if nI s = 0 then some (10 : Int32) else some (nI l)) = some (nI (ls s l)) := by
      unfold ls
      by_cases z : s = 0
      · rw [if_pos z, if_pos (by rw [z]; rfl)]
        rfl
      · rw [if_neg z, if_neg (by rw [neq0 (by omega)]; exact z)]
    have hls : ls s l ≤ 10 := by unfold ls; split <;> omega
    rw [e6, Option.bind_some, tb_succ hk]
    refine tr_loop_seq' (fun x => (nI (mnf TP x (fun x => if s.testBit x = true then TP else min TP (sV w s (ls s l) x + tb w (ins s x) x))), nI x)) w.1 rfl (by omega) (fun x hx => ?_) ?_
    · unfold mX4_leastBrokenFrom_l35
      dsimp only
      have hm : mnf TP x (fun x => if s.testBit x = true then TP else min TP (sV w s (ls s l) x + tb w (ins s x) x)) ≤ TP := mnf_top
      rw [hw.1, if_pos ((nlt (by omega) (by omega)).mpr hx), nadd1]
      show _ = some (Sum.inl (nI (min (mnf TP x (fun x => if s.testBit x = true then TP else min TP (sV w s (ls s l) x + tb w (ins s x) x))) (if s.testBit x = true then TP else min TP (sV w s (ls s l) x + tb w (ins s x) x))), nI (x + 1)))
      cases b : s.testBit x with
      | true =>
        rw [if_neg (by rw [bit_eq0 (by omega) (by omega), b]; decide), if_pos rfl, Nat.min_eq_left hm]
      | false =>
        obtain ⟨z1, z2⟩ := St_ins hs hx
        have gt := ins_gt b
        have hi := z1.1
        have h48 := hT (ins s x) x z1 gt
        rw [z2] at h48
        have hso : mX4_stateOf (nI (ls s l)) 0 = nI (ls s l * 10) := stateOf_eq (ls s l) 0
        have hv := sV_le hok s (ls s l) x
        have ht := tb_le w (ins s x) x
        rw [if_pos (by rw [bit_eq0 (by omega) (by omega)]; exact b), tr_rd_nI (by omega) (by decide), Option.bind_some, h52 x hx, hso, nadd, tr_rd_nI (by omega) (by decide), Option.bind_some, h53 _ _ hls hx, ins_nI (by omega), stateOf_eq, tr_rd_nI (by omega) (by decide), Option.bind_some, h48, nadd, sV_eq hok, nadd, nmin _ _ (by omega) (by omega), if_neg (by decide)]
        congr 4
        omega
    · unfold mX4_leastBrokenFrom_l35
      dsimp only
      rw [hw.1, if_neg (by rw [nlt (by omega) (by omega)]; omega)]
theorem leastBroken_eq {w : Wd} {M : tr_M} (hok : WOk w) (hw : CWd w 26 M) : ∃ N, mX4_leastBroken M = some (nI (tb w 0 10), N) ∧ (∀ c, c ≠ 48 → c ≠ 52 → c ≠ 53 → N.1 c = M.1 c) ∧ N.2 = M.2 := by
  have hn := hok.1
  have hpw := pow_lt hn
  have hp0 := Nat.two_pow_pos w.1
  unfold mX4_leastBroken
  obtain ⟨F, f1, f2, f3, f4⟩ := fillNext_eq hok hw
  have hF : F.1 26 0 = nI w.1 := by rw [f3 26 (by decide)]; exact hw.1
  rw [f1, Option.bind_some, everything_eq hF hn]
  obtain ⟨r, e1, N, rfl, e3⟩ := down3 (n := w.1) (M := F) hn (out := mX4_leastBroken_l12) (inn := fun s K => mX4_leastBroken_l23 (nI s, K)) (fun s l N => (∀ s' l', St w.1 s' l' → (s < s' ∨ (s' = s ∧ l' < l)) → N.1 48 (s' * 10 + l') = nI (tb w s' (ls s' l'))) ∧ (∀ x, x < w.1 → N.1 52 x = nI (sB w s x)) ∧ (∀ c, c ≠ 48 → c ≠ 52 → N.1 c = F.1 c) ∧ N.2 = F.2) (fun s N => (∀ s' l', St w.1 s' l' → s < s' → N.1 48 (s' * 10 + l') = nI (tb w s' (ls s' l'))) ∧ (∀ c, c ≠ 48 → c ≠ 52 → N.1 c = F.1 c) ∧ N.2 = F.2) (fun r => ∃ N, r = (nI (tb w 0 10), N) ∧ (∀ c, c ≠ 48 → c ≠ 52 → N.1 c = F.1 c) ∧ N.2 = F.2) (by
    rintro s N hs ⟨t1, t2, t3⟩
    have hwN : CWd w 26 N := hw.congr fun b h1 h2 => by rw [t2 b (by omega) (by omega), f3 b (by omega)]
    obtain ⟨P, p1, p2, p3, p4⟩ := fillBehind_eq (s := s) hok hwN (by omega)
    refine ⟨P, ⟨fun s' l' hst hlt => ?_, p2, fun c c1 c2 => by rw [p3 c c2, t2 c c1 c2], p4.trans t3⟩, ?_⟩
    · rw [p3 48 (by decide)]
      exact t1 s' l' hst (by omega)
    · conv => lhs; unfold mX4_leastBroken_l12
      dsimp only
      rw [if_neg (nI_pos (by omega)), p1, Option.bind_some]
      rfl) (by
    rintro N ⟨t1, t2, t3, t4⟩
    have h0 := t1 0 0 ⟨hp0, Or.inl ⟨rfl, rfl⟩⟩ (Or.inr ⟨rfl, by decide⟩)
    rw [show ls 0 0 = 10 from rfl] at h0
    have r0 : tr_rd 10240 N 48 0 = some (nI (tb w 0 10)) := by
      have := tr_rd_nI (n := 10240) (M := N) (a := 48) (k := 0) (by decide) (by decide)
      rw [show N.1 48 0 = nI (tb w 0 10) from h0] at this
      exact this
    unfold mX4_leastBroken_l12
    dsimp only
    rw [if_pos (by decide), r0]
    exact ⟨_, rfl, N, rfl, t3, t4⟩) (by
    rintro s l N K hst ⟨t1, t2, t3, t4⟩
    have hs := hst.1
    have hl := hst.l10 hn
    have hwN : CWd w 26 N := hw.congr fun b h1 h2 => by rw [t3 b (by omega) (by omega), f3 b (by omega)]
    have hlt := hst.lt
    have hL : Ln w.1 s ≤ 10 := by unfold Ln; split <;> omega
    have hb := brokenFrom_eq hok hwN hst t2 (fun l x hl hx => by rw [t3 53 (by decide) (by decide)]; exact f2 l x hl hx) (fun s' l' a b => t1 s' l' a (Or.inl b))
    unfold mX4_leastBroken_l23
    dsimp only
    rw [lastsOf_eq (by omega) hwN.1, if_pos ((nlt (by omega) (by omega)).mpr hlt), isState_eq (by omega) (by omega), if_pos hst.is, if_neg (show ¬ (1 : Int32) = 0 by decide), hb, Option.bind_some, stateOf_eq, tr_wr_nI (by omega) (by decide), Option.bind_some, nadd1]
    refine ⟨_, rfl, fun s' l' hst' hlt' => ?_, fun x hx => by rw [tr_st_ne (by decide)]; exact t2 x hx, fun c c1 c2 => by rw [tr_st_ne c1, t3 c c1 c2], t4⟩
    by_cases q : s' = s ∧ l' = l
    · rw [q.1, q.2, tr_st_s]
    · have h1 := hst'.l10 hn
      rw [tr_st_j (by omega)]
      exact t1 s' l' hst' (by omega)) (by
    rintro s l N K hs h0 hl hb ⟨t1, t2, t3, t4⟩
    have hwN : CWd w 26 N := hw.congr fun b h1 h2 => by rw [t3 b (by omega) (by omega), f3 b (by omega)]
    have hL : Ln w.1 s = w.1 := by unfold Ln; rw [if_neg h0]
    refine ⟨?_, fun s' l' hst' hlt' => ?_, t2, t3, t4⟩
    · unfold mX4_leastBroken_l23
      dsimp only
      rw [lastsOf_eq (by omega) hwN.1, hL, if_pos ((nlt (by omega) (by omega)).mpr hl), isState_eq (by omega) (by omega), if_neg (show ¬ (s = 0 ∨ s.testBit l = true) by rw [hb]; simp [h0]), if_pos rfl, nadd1]
    · refine t1 s' l' hst' ?_
      by_cases q : s' = s ∧ l' = l
      · exfalso
        rw [q.1, q.2] at hst'
        rcases hst'.2 with y | y
        · exact h0 y.1
        · rw [hb] at y
          cases y.2
      · omega) (by
    rintro s N K hs ⟨t1, t2, t3, t4⟩
    have hwN : CWd w 26 N := hw.congr fun b h1 h2 => by rw [t3 b (by omega) (by omega), f3 b (by omega)]
    have hL : Ln w.1 s ≤ 10 := by unfold Ln; split <;> omega
    unfold mX4_leastBroken_l23
    dsimp only
    rw [lastsOf_eq (by omega) hwN.1, if_neg (by rw [nlt (by omega) (by omega)]; omega)]
    rfl) (by
    rintro s N hs ⟨t1, t2, t3, t4⟩
    refine ⟨fun s' l' hst hlt => t1 s' l' hst ?_, t3, t4⟩
    have := hst.lt
    by_cases q : s' = s + 1
    · right
      rw [q] at this
      exact ⟨q, this⟩
    · left
      omega) ⟨fun s' l' hst hlt => by have := hst.1; omega, fun _ _ _ => rfl, rfl⟩
  rw [e1]
  exact ⟨N, rfl, fun c c1 c2 c3 => by rw [e3.1 c c1 c2, f3 c c3], e3.2.trans f4⟩
