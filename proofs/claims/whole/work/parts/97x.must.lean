/-! ===== must ===== -/
theorem layOff_eq {w : Wd} {g : Nat → Bool} {S : Nat} {N : tr_M} (hok : WOk w) (hm : MWd (wdOff w g) N) (hS : S < 2147483648) : ∃ P, mX7_layOff (nI S) N = some P ∧ MWd (wdOff w (fun k => decide (k < w.2.2.1) && S.testBit k)) P ∧ (∀ c, c ≠ 9 → P.1 c = N.1 c) ∧ P.2 = N.2 := by
  have h8 := hok.2.2.2.2.1
  have h12 : N.1 1 12 = nI w.2.2.1 := hm.2.1
  unfold mX7_layOff
  refine tr_loop_inv (step := mX7_layOff_l2 (nI S)) (s0 := (0, N)) (fun k t => ∃ P, t = (nI k, P) ∧ (∀ j, j < k → P.1 9 (5 * j + 4) = if S.testBit j = true then 1 else 0) ∧ (∀ j r, r < 4 → P.1 9 (5 * j + r) = N.1 9 (5 * j + r)) ∧ (∀ c, c ≠ 9 → P.1 c = N.1 c) ∧ P.2 = N.2) (fun P => MWd (wdOff w (fun k => decide (k < w.2.2.1) && S.testBit k)) P ∧ (∀ c, c ≠ 9 → P.1 c = N.1 c) ∧ P.2 = N.2) w.2.2.1 (by omega) ⟨N, rfl, fun j hj => by omega, fun _ _ _ => rfl, fun _ _ => rfl, rfl⟩ ?_ ?_
  · rintro k t hk ⟨P, rfl, t1, t2, t3, t4⟩
    left
    unfold mX7_layOff_l2
    dsimp only
    rw [t3 1 (by decide), h12, if_pos ((nlt (by omega) (by omega)).mpr hk), bit_nI hS (by omega), show (5 : Int32) = nI 5 from rfl, show (4 : Int32) = nI 4 from rfl, nmul, nadd, tr_wr_nI (by omega) (by decide), Option.bind_some, nadd1]
    refine ⟨_, rfl, _, rfl, fun j hj => ?_, fun j r hr => ?_, fun c hc => by rw [tr_st_ne hc, t3 c hc], t4⟩
    · by_cases e : j = k
      · rw [e, tr_st_s]
      · rw [tr_st_j (by omega)]
        exact t1 j (by omega)
    · rw [tr_st_j (by omega)]
      exact t2 j r hr
  · rintro t ⟨P, rfl, t1, t2, t3, t4⟩
    unfold mX7_layOff_l2
    dsimp only
    rw [t3 1 (by decide), h12, if_neg (by rw [nlt (by omega) (by omega)]; omega)]
    obtain ⟨g1, g2, g3, g4⟩ := hm
    refine ⟨P, rfl, ⟨?_, ?_, fun x y hx hy => ?_, fun j hj => ?_⟩, t3, t4⟩
    · rw [t3 1 (by decide)]; exact g1
    · rw [t3 1 (by decide)]; exact g2
    · rw [t3 8 (by decide)]; exact g3 x y hx hy
    · have hj' : j < w.2.2.1 := hj
      obtain ⟨q1, q2, q3, q4, -⟩ := g4 j hj
      refine ⟨?_, ?_, ?_, ?_, ?_⟩
      · have := t2 j 0 (by decide)
        rw [Nat.add_zero] at this
        rw [this]; exact q1
      · rw [t2 j 1 (by decide)]; exact q2
      · rw [t2 j 2 (by decide)]; exact q3
      · rw [t2 j 3 (by decide)]; exact q4
      · rw [t1 j hj']
        show _ = if (decide (j < w.2.2.1) && S.testBit j) = true then 1 else 0
        rw [decide_eq_true hj', Bool.true_and]
def was (w : Wd) : Nat := mkb w.2.2.1 w.2.2.2.2
theorem was_lt {w : Wd} (hok : WOk w) : was w < 256 := Nat.lt_of_lt_of_le (mkb_lt _ _) (show 2 ^ w.2.2.1 ≤ 2 ^ 8 from Nat.pow_le_pow_right (by decide) hok.2.2.2.2.1)
theorem was_bit (w : Wd) (k : Nat) : (was w).testBit k = (decide (k < w.2.2.1) && w.2.2.2.2 k) := mkb_bit _ _ _
theorem was_eq {w : Wd} {M : tr_M} (hok : WOk w) (hm : MWd w M) : tr_loop (mX7_must_l4 M) (0, 0) = some (nI (was w)) := by
  have h8 := hok.2.2.2.2.1
  refine tr_loop_seq' (fun k => (nI (mkb k w.2.2.2.2), nI k)) w.2.2.1 rfl (by omega) (fun k hk => ?_) ?_
  · unfold mX7_must_l4
    dsimp only
    rw [hm.2.1, if_pos ((nlt (by omega) (by omega)).mpr hk), show (4 : Int32) = nI 4 from rfl, ruleAt_eq (by omega) (by decide), (hm.2.2.2 k hk).2.2.2.2, Option.bind_some, nadd1]
    show _ = some (Sum.inl (nI (mkb k w.2.2.2.2 ||| if w.2.2.2.2 k = true then 2 ^ k else 0), nI (k + 1)))
    cases w.2.2.2.2 k with
    | true => rw [if_pos rfl, if_pos rfl, sh1 (by omega), or_nI]
    | false =>
      have e : (0 : Int32) <<< (nI k &&& 31) = nI 0 := by
        rcases (show k = 0 ∨ k = 1 ∨ k = 2 ∨ k = 3 ∨ k = 4 ∨ k = 5 ∨ k = 6 ∨ k = 7 by omega) with rfl | rfl | rfl | rfl | rfl | rfl | rfl | rfl <;> decide
      rw [if_neg (by decide), if_neg (by decide), e, or_nI]
  · unfold mX7_must_l4
    dsimp only
    rw [hm.2.1, if_neg (by rw [nlt (by omega) (by omega)]; omega)]
    rfl
theorem cnt_108 {s : Nat} (h : s < 256) : cnt 10 s = cnt 8 s := by
  rw [cnt_sm, cnt_sm]
  exact sm_zero (fun i hi => by
    have := Nat.testBit_lt_two_pow (Nat.lt_of_lt_of_le (show s < 2 ^ 8 from h) (Nat.pow_le_pow_right (by decide) hi))
    rw [this]; rfl) (by decide)
/-- what the model's search changes -/
def MQm (w : Wd) (M N : tr_M) : Prop := (∃ g, MWd (wdOff w g) N) ∧ (∀ c, c ≠ 9 → c ≠ 24 → N.1 c = M.1 c) ∧ N.2 = M.2
theorem must_step {w : Wd} {S many : Nat} {M N K : tr_M} {v : Int32} (hok : WOk w) (hm : MWd w M) (hp : PinX none M) (hN : MQm w M N) (hS : S < 2 ^ w.2.2.1) (hmany : many < 1000) : ∃ P, mX7_must_l43 (nI (was w)) (v, nI many, K) (-9, nI S, N) = some (.inl ((if S &&& was w = 0 ∧ cnt 8 S = many ∧ Al (wS w S) none ≠ [] then nI S else -9), nI (S + 1), P)) ∧ MQm w M P := by
  obtain ⟨⟨g, hg⟩, hfr, h2⟩ := hN
  have h8 := hok.2.2.2.2.1
  have hpw : 2 ^ w.2.2.1 ≤ 256 := show 2 ^ w.2.2.1 ≤ 2 ^ 8 from Nat.pow_le_pow_right (by decide) h8
  have hwas := was_lt hok
  have hand : S &&& was w ≤ S := Nat.and_le_left
  have h12 : N.1 1 12 = nI w.2.2.1 := hg.2.1
  have hc8 := cnt_le S 8
  unfold mX7_must_l43
  dsimp only
  rw [h12, sh1 (by omega), if_pos ((nlt (by omega) (by omega)).mpr hS), if_pos rfl, and_nI, nadd1]
  by_cases a : S &&& was w = 0
  · rw [if_pos (by rw [a]; rfl), bits_eq (by omega), Option.bind_some, cnt_108 (by omega)]
    by_cases b : cnt 8 S = many
    · rw [if_pos (by rw [b]), or_nI]
      have hor : was w ||| S < 2 ^ 8 := Nat.or_lt_two_pow hwas (by omega)
      obtain ⟨P, p1, p2, p3, p4⟩ := layOff_eq (S := was w ||| S) hok hg (by omega)
      rw [p1, Option.bind_some]
      have ew : wdOff w (fun k => decide (k < w.2.2.1) && (was w ||| S).testBit k) = wS w S := by
        unfold wS
        congr 1
        funext k
        rw [Nat.testBit_or, was_bit]
        cases decide (k < w.2.2.1) <;> simp
      rw [ew] at p2
      have hpP : PinX none P := by
        show P.1 1 27 = -9
        rw [p3 1 (by decide), hfr 1 (by decide) (by decide)]
        exact hp
      obtain ⟨Q, q1, q2, q3⟩ := anyAllowed_eq (wS_ok hok S) p2 hpP
      rw [q1, Option.bind_some]
      dsimp only
      have hQ : MQm w M Q := ⟨⟨_, MWd.congr p2 (by rw [q2 1 (by decide)]) (by rw [q2 1 (by decide)]) (q2 8 (by decide)) (q2 9 (by decide))⟩, fun c c1 c2 => by rw [q2 c c2, p3 c c1, hfr c c1 c2], (q3.trans p4).trans h2⟩
      by_cases d : Al (wS w S) none = []
      · rw [if_pos d, if_pos rfl, if_neg (fun e => e.2.2 d)]
        exact ⟨Q, rfl, hQ⟩
      · rw [if_neg d, if_neg (show ¬ (1 : Int32) = 0 by decide), if_pos ⟨a, b, d⟩]
        exact ⟨Q, rfl, hQ⟩
    · rw [if_neg (by rw [neq (by omega) (by omega)]; exact b), if_neg (fun e => b e.2.1)]
      exact ⟨N, rfl, ⟨g, hg⟩, hfr, h2⟩
  · rw [if_neg (by rw [neq0 (by omega)]; exact a), if_neg (fun e => a e.1)]
    exact ⟨N, rfl, ⟨g, hg⟩, hfr, h2⟩
theorem must_no {w : Wd} {many : Nat} {M N K : tr_M} {v : Int32} (hok : WOk w) (hm : MWd w M) (hp : PinX none M) (hN : MQm w M N) (hmany : many < 1000) (hno : ∀ S, S < 2 ^ w.2.2.1 → cnt 8 S = many → Al (wS w S) none = []) : ∃ r, tr_loop (mX7_must_l43 (nI (was w)) (v, nI many, K)) (-9, 0, N) = some r ∧ ∃ P, r = .inl (-9, nI (many + 1), P) ∧ MQm w M P := by
  have h8 := hok.2.2.2.2.1
  have hpw : 2 ^ w.2.2.1 ≤ 256 := show 2 ^ w.2.2.1 ≤ 2 ^ 8 from Nat.pow_le_pow_right (by decide) h8
  refine tr_loop_inv (step := mX7_must_l43 (nI (was w)) (v, nI many, K)) (s0 := (-9, 0, N)) (fun S t => ∃ N, t = (-9, nI S, N) ∧ MQm w M N) (fun r => ∃ P, r = .inl (-9, nI (many + 1), P) ∧ MQm w M P) (2 ^ w.2.2.1) (by omega) ⟨N, rfl, hN⟩ ?_ ?_
  · rintro S t hS ⟨N, rfl, t1⟩
    left
    obtain ⟨P, p1, p2⟩ := must_step (K := K) (v := v) hok hm hp t1 hS hmany
    rw [if_neg (fun e => e.2.2 (hno S hS e.2.1))] at p1
    exact ⟨_, p1, P, rfl, p2⟩
  · rintro t ⟨N, rfl, t1⟩
    have h12 : N.1 1 12 = nI w.2.2.1 := t1.1.choose_spec.2.1
    unfold mX7_must_l43
    dsimp only
    rw [h12, sh1 (by omega), if_neg (by rw [nlt (by omega) (by omega)]; omega), nadd1]
    exact ⟨_, rfl, N, rfl, t1⟩
theorem must_yes {w : Wd} {many b : Nat} {M N K : tr_M} {v : Int32} (hok : WOk w) (hm : MWd w M) (hp : PinX none M) (hN : MQm w M N) (hmany : many < 1000) (hb : b < 2 ^ w.2.2.1) (hb1 : b &&& was w = 0) (hb2 : cnt 8 b = many) (hb3 : Al (wS w b) none ≠ []) (hno : ∀ S, S < b → cnt 8 S = many → Al (wS w S) none = []) : ∃ r, tr_loop (mX7_must_l43 (nI (was w)) (v, nI many, K)) (-9, 0, N) = some r ∧ ∃ P, r = .inl (nI b, nI (many + 1), P) ∧ MQm w M P := by
  have h8 := hok.2.2.2.2.1
  have hpw : 2 ^ w.2.2.1 ≤ 256 := show 2 ^ w.2.2.1 ≤ 2 ^ 8 from Nat.pow_le_pow_right (by decide) h8
  refine tr_loop_inv (step := mX7_must_l43 (nI (was w)) (v, nI many, K)) (s0 := (-9, 0, N)) (fun S t => ∃ N, MQm w M N ∧ ((S ≤ b ∧ t = (-9, nI S, N)) ∨ (S = b + 1 ∧ t = (nI b, nI (b + 1), N)))) (fun r => ∃ P, r = .inl (nI b, nI (many + 1), P) ∧ MQm w M P) (b + 1) (by omega) ⟨N, hN, Or.inl ⟨Nat.zero_le _, rfl⟩⟩ ?_ ?_
  · rintro S t hS ⟨N, t1, ⟨t2, rfl⟩ | ⟨t2, -⟩⟩
    · left
      obtain ⟨P, p1, p2⟩ := must_step (K := K) (v := v) hok hm hp t1 (show S < 2 ^ w.2.2.1 by omega) hmany
      by_cases e : S = b
      · subst e
        rw [if_pos ⟨hb1, hb2, hb3⟩] at p1
        exact ⟨_, p1, P, p2, Or.inr ⟨rfl, rfl⟩⟩
      · rw [if_neg (fun q => q.2.2 (hno S (by omega) q.2.1))] at p1
        exact ⟨_, p1, P, p2, Or.inl ⟨by omega, rfl⟩⟩
    · omega
  · rintro t ⟨N, t1, ⟨t2, -⟩ | ⟨-, rfl⟩⟩
    · omega
    · unfold mX7_must_l43
      dsimp only
      rw [if_neg (n9_no (show b < 2147483648 by omega)), nadd1]
      split
      · exact ⟨_, rfl, N, rfl, t1⟩
      · exact ⟨_, rfl, N, rfl, t1⟩
theorem m_must {w : Wd} {M : tr_M} {b : Nat} (hok : WOk w) (hm : MWd w M) (hp : PinX none M) (hb : b < 2 ^ w.2.2.1) (hb1 : ∀ k, b.testBit k = true → w.2.2.2.2 k = false) (hb3 : Al (wS w b) none ≠ []) (hmin : ∀ S, S < 256 → Al (wS w S) none ≠ [] → cnt 8 b ≤ cnt 8 S ∧ (cnt 8 b = cnt 8 S → b ≤ S)) : ∃ P, mX7_must M = some (nI (cnt 8 b), tr_st P 1 2 (nI b)) ∧ MWd w P ∧ (∀ c, c ≠ 9 → c ≠ 24 → P.1 c = M.1 c) ∧ P.2 = M.2 := by
  have h8 := hok.2.2.2.2.1
  have hpw : 2 ^ w.2.2.1 ≤ 256 := show 2 ^ w.2.2.1 ≤ 2 ^ 8 from Nat.pow_le_pow_right (by decide) h8
  have hwas := was_lt hok
  have hc8 := cnt_le b 8
  have hand : b &&& was w = 0 := Nat.eq_of_testBit_eq fun i => by
    rw [Nat.testBit_and, was_bit, Nat.zero_testBit]
    cases h : b.testBit i with
    | false => rfl
    | true => rw [hb1 i h]; simp
  unfold mX7_must
  have e1 : (show Option Int32 from tr_loop (mX7_must_l4 M) ((0 : Int32), (0 : Int32))) = some (nI (was w)) := was_eq hok hm
  rw [e1, Option.bind_some]
  have hM0 : MQm w M M := ⟨⟨w.2.2.2.2, hm⟩, fun _ _ _ => rfl, rfl⟩
  obtain ⟨r, r1, P, rfl, r3⟩ := tr_loop_inv (step := mX7_must_l34 (nI (was w))) (s0 := (-9, 0, M)) (fun i t => ∃ N, MQm w M N ∧ ((i ≤ cnt 8 b ∧ t = (-9, nI i, N)) ∨ (i = cnt 8 b + 1 ∧ t = (nI b, nI (cnt 8 b + 1), N)))) (fun r => ∃ P, r = (nI b, P) ∧ MQm w M P) (cnt 8 b + 1) (by omega) ⟨M, hM0, Or.inl ⟨Nat.zero_le _, rfl⟩⟩ (by
    rintro i t hi ⟨N, t1, ⟨t2, rfl⟩ | ⟨t2, -⟩⟩
    · left
      have hstep : mX7_must_l34 (nI (was w)) (-9, nI i, N) = tr_loop (mX7_must_l43 (nI (was w)) (-9, nI i, N)) (-9, 0, N) := by
        conv => lhs; unfold mX7_must_l34
        dsimp only
        rw [if_pos rfl]
      rw [hstep]
      by_cases e : i = cnt 8 b
      · obtain ⟨r, r1, P, rfl, r3⟩ := must_yes (K := N) (v := -9) hok hm hp t1 (show i < 1000 by omega) hb hand e.symm hb3 (fun S hS hc => Classical.byContradiction fun q => by
          have := (hmin S (by omega) q).2 (by omega)
          omega)
        rw [r1]
        exact ⟨_, rfl, P, r3, Or.inr ⟨by omega, by rw [e]⟩⟩
      · obtain ⟨r, r1, P, rfl, r3⟩ := must_no (K := N) (v := -9) hok hm hp t1 (show i < 1000 by omega) (fun S hS hc => Classical.byContradiction fun q => by
          have := (hmin S (by omega) q).1
          omega)
        rw [r1]
        exact ⟨_, rfl, P, r3, Or.inl ⟨by omega, rfl⟩⟩
    · omega) (by
    rintro t ⟨N, t1, ⟨t2, -⟩ | ⟨-, rfl⟩⟩
    · omega
    · unfold mX7_must_l34
      dsimp only
      rw [if_neg (n9_no (show b < 2147483648 by omega))]
      exact ⟨_, rfl, N, rfl, t1⟩)
  have r1' : (show Option (Int32 × tr_M) from tr_loop (mX7_must_l34 (nI (was w))) ((-9 : Int32), (0 : Int32), M)) = some (nI b, P) := r1
  rw [r1', Option.bind_some]
  dsimp only
  obtain ⟨⟨g, hg⟩, hfr, h2⟩ := r3
  obtain ⟨Q, q1, q2, q3, q4⟩ := layOff_eq (S := was w) hok hg (by omega)
  have ew : wdOff w (fun k => decide (k < w.2.2.1) && (was w).testBit k) = w := by
    have : (fun k => decide (k < w.2.2.1) && (was w).testBit k) = w.2.2.2.2 := funext fun k => by
      rw [was_bit]
      by_cases c : k < w.2.2.1
      · simp [c]
      · simp [c, hok.2.2.2.2.2.2 k (by omega)]
    rw [this]
    rfl
  rw [ew] at q2
  rw [q1, Option.bind_some, bits_eq (by omega), Option.bind_some, tells_eq, Option.bind_some, cnt_108 (by omega)]
  exact ⟨Q, rfl, q2, fun c c1 c2 => by rw [q3 c c1, hfr c c1 c2], q4.trans h2⟩
theorem r_must {w : Wd} {M1 M2 : tr_M} (h : InvE w M1 M2) : ResE w (mX6_must M1) (mX7_must M2) := by
  obtain ⟨h1, ⟨hok, hw, hmw⟩, h3, h4, h5⟩ := h
  have h8 := hok.2.2.2.2.1
  have hpw : 2 ^ w.2.2.1 ≤ 256 := show 2 ^ w.2.2.1 ≤ 2 ^ 8 from Nat.pow_le_pow_right (by decide) h8
  obtain ⟨b, hb, htb, hb1, hb3, hmin⟩ := must_set hok
  have hc8 := cnt_le b 8
  obtain ⟨P, p1, p2, p3, p4⟩ := m_must hok hmw h5 hb hb1 hb3 hmin
  obtain ⟨N, n1, n2, n3⟩ := leastBroken_eq hok hw
  unfold mX6_must
  rw [n1, Option.bind_some, forget_eq, Option.bind_some, Option.bind_some, p1, htb]
  dsimp only
  have e1 : nI (256 * cnt 8 b + b) &&& 255 = nI b := by
    rw [show (255 : Int32) = nI 255 from rfl, and_nI]
    have := Nat.and_two_pow_sub_one_eq_mod (256 * cnt 8 b + b) 8
    rw [show 2 ^ 8 - 1 = 255 from rfl] at this
    rw [this, show (256 * cnt 8 b + b) % 2 ^ 8 = b by omega]
  have e2 : nI (256 * cnt 8 b + b) >>> ((8 : Int32) &&& 31) = nI (cnt 8 b) := by
    rw [show (8 : Int32) = nI 8 from rfl, shr_nI (by omega) (by decide), show (256 * cnt 8 b + b) / 2 ^ 8 = cnt 8 b by omega]
  rw [e1, e2]
  have kN : KL M1 N := ⟨fun c _ hc => n2 c (by omega) (by omega) (by omega), fun k _ _ => by rw [n2 1 (by decide) (by decide) (by decide)], fun k _ => by rw [n2 25 (by decide) (by decide) (by decide)], n3⟩
  have kF : KL M1 (tr_st (tr_st N 1 15 (-9)) 1 16 (nI 0)) := (kN.tr (KL.st (Or.inl rfl))).tr (KL.st (Or.inr rfl))
  have kY : KY M2 P := ⟨fun c _ _ _ => p3 c (by omega) (by omega), fun k _ => by rw [p3 1 (by decide) (by decide)], p4⟩
  have hI : InvE w (tr_st (tr_st N 1 15 (-9)) 1 16 (nI 0)) P := ⟨h1.kt kF.kt kY, ⟨hok, hw.kl kF, p2⟩, Or.inl (by rw [tr_st_j (by decide), tr_st_s]), h4.kl kF, by
    show P.1 1 27 = -9
    rw [p3 1 (by decide) (by decide)]
    exact h5⟩
  exact ⟨_, _, _, rfl, rfl, hI.ask (m := 0) _⟩
