theorem sm_split (f : Nat → Nat) (a : Nat) : ∀ b, sm (a + b) f = sm a f + sm b (fun i => f (a + i))
  | 0 => rfl
  | b + 1 => by
    show sm (a + b) f + f (a + b) = sm a f + (sm b _ + f (a + b))
    rw [sm_split f a b, Nat.add_assoc]
theorem two_or {n s : Nat} (h : s < 2 ^ n) : 2 ^ n + s = 2 ^ n ||| s := by
  have := Nat.two_pow_add_eq_or_of_lt h 1
  rw [Nat.mul_one] at this
  exact this
/-- sets with b are sets without it, and b put in -/
theorem sm_with {b : Nat} : ∀ {n : Nat} (_ : b < n) (F : Nat → Nat), sm (2 ^ n) (fun s => if s.testBit b = true then F s else 0) = sm (2 ^ n) (fun s => if s.testBit b = true then 0 else F (ins s b))
  | 0, h, _ => by omega
  | n + 1, h, F => by
    rw [show 2 ^ (n + 1) = 2 ^ n + 2 ^ n by rw [Nat.pow_succ]; omega, sm_split, sm_split]
    by_cases e : b = n
    · subst e
      have h1 : ∀ s, s < 2 ^ b → s.testBit b = false := fun s hs => Nat.testBit_lt_two_pow hs
      have h2 : ∀ s, s < 2 ^ b → (2 ^ b + s).testBit b = true := fun s hs => by rw [Nat.testBit_two_pow_add_eq, h1 s hs]; rfl
      rw [sm_congr (g := fun _ => 0) (fun s hs => by rw [if_neg (by rw [h1 s hs]; decide)]), sm_0, Nat.zero_add]
      rw [sm_congr (f := fun i => if (2 ^ b + i).testBit b = true then 0 else F (ins (2 ^ b + i) b)) (g := fun _ => 0) (fun s hs => by rw [if_pos (h2 s hs)]), sm_0, Nat.add_zero]
      refine sm_congr fun s hs => ?_
      rw [if_pos (h2 s hs), if_neg (by rw [h1 s hs]; decide), two_or hs, Nat.or_comm]
      rfl
    · have hb : b < n := by omega
      have h2 : ∀ s, (2 ^ n + s).testBit b = s.testBit b := fun s => Nat.testBit_two_pow_add_gt hb s
      rw [sm_with hb F]
      congr 1
      have := sm_with hb (fun s => F (2 ^ n + s))
      rw [sm_congr (g := fun s => if s.testBit b = true then F (2 ^ n + s) else 0) (fun s hs => by rw [h2]), this]
      refine sm_congr fun s hs => ?_
      rw [h2]
      by_cases c : s.testBit b = true
      · rw [if_pos c, if_pos c]
      · rw [if_neg c, if_neg c, two_or hs, two_or (ins_lt hs hb)]
        unfold ins
        rw [Nat.or_assoc]
theorem spr_M {G : Rl} {n a i : Nat} (ha : a < n) : spr G n a i = sm (2 ^ n) (fun s => if s.testBit a = true then (if cnt n s = i + 1 then cN G n s a * nm G n s a else 0) else 0) := by
  rw [sm_with ha]
  refine sm_congr fun s hs => ?_
  unfold tk
  by_cases c : s.testBit a = true
  · rw [if_pos c, if_pos c]
    split <;> rfl
  · rw [if_neg c, if_neg c, cnt_ins ha (by simpa using c)]
    by_cases d : cnt n s = i
    · rw [if_pos d, if_pos (by omega)]
    · rw [if_neg d, if_neg (by omega)]
theorem ahd_M {G : Rl} {n a b : Nat} (hb : b < n) (hab : a ≠ b) : ahd G n a b = sm (2 ^ n) (fun s => if s.testBit b = true then (if s.testBit a = true then cN G n s b * nm G n s b else 0) else 0) := by
  rw [sm_with hb]
  refine sm_congr fun s hs => ?_
  unfold tk
  by_cases c : s.testBit b = true
  · rw [if_pos c, if_pos c]
    split <;> rfl
  · rw [if_neg c, if_neg c, ins_bit]
    simp [show ¬ b = a from fun e => hab e.symm]
theorem mup_loop {n T : Nat} {M : tr_M} (hn : n ≤ 10) (hT : T ≤ 1024) {out : Int32 × tr_M → Option ((Int32 × tr_M) ⊕ tr_M)} {inn : Nat → tr_M → Int32 × tr_M → Option ((Int32 × tr_M) ⊕ ((Int32 × tr_M) ⊕ tr_M))} (J : Nat → Nat → tr_M → Prop) (ho : ∀ s N, s < T → J s 0 N → out (nI s, N) = tr_loop (inn s N) (0, N)) (ho2 : ∀ N, J T 0 N → out (nI T, N) = some (.inr N)) (hst : ∀ s l N K, s < T → l < n → J s l N → ∃ P, inn s K (nI l, N) = some (.inl (nI (l + 1), P)) ∧ J s (l + 1) P) (he : ∀ s N K, s < T → J s n N → inn s K (nI n, N) = some (.inr (.inl (nI (s + 1), N)))) (hnx : ∀ s N, s < T → J s n N → J (s + 1) 0 N) (h0 : J 0 0 M) : ∃ N, tr_loop out (0, M) = some N ∧ J T 0 N := by
  have inner : ∀ s N, s < T → J s 0 N → ∃ P, tr_loop (inn s N) (0, N) = some (.inl (nI (s + 1), P)) ∧ J s n P := fun s N hs hJ => by
    obtain ⟨r, e1, P, e2, e3⟩ := tr_loop_inv (step := inn s N) (s0 := (0, N)) (fun l t => ∃ P, t = (nI l, P) ∧ J s l P) (fun r => ∃ P, r = .inl (nI (s + 1), P) ∧ J s n P) n (by omega) ⟨N, rfl, hJ⟩ (by
      rintro l t hl ⟨P, rfl, hP⟩
      left
      obtain ⟨Q, q1, q2⟩ := hst s l P N hs hl hP
      exact ⟨_, q1, Q, rfl, q2⟩) (by
      rintro t ⟨P, rfl, hP⟩
      exact ⟨_, he s P N hs hP, P, rfl, hP⟩)
    exact ⟨P, by rw [e1, e2], e3⟩
  refine tr_loop_inv (step := out) (s0 := (0, M)) (fun i t => ∃ N, t = (nI i, N) ∧ J i 0 N) (fun N => J T 0 N) T (by omega) ⟨M, rfl, h0⟩ ?_ ?_
  · rintro i t hi ⟨N, rfl, hJ⟩
    left
    obtain ⟨P, p1, p2⟩ := inner i N hi hJ
    rw [ho i N hi hJ, p1]
    exact ⟨_, rfl, P, rfl, hnx i P hi p2⟩
  · rintro t ⟨N, rfl, hJ⟩
    exact ⟨N, ho2 N hJ, hJ⟩
theorem mcome_eq {n m : Nat} {G : Rl} {s l c : Nat} {N K : tr_M} (hn : n ≤ 10) (hw : N.1 1 10 = nI n) (hG : Fresh G n) (hg : ∀ P : tr_M, (∀ b, b ≠ 18 → P.1 b = N.1 b) → IG n m G P) (hst : St n s l) (hln : l < n) (hc : N.1 18 (s * 10 + l) = nI c) : ∃ P, tr_loop (mX7_layComes_l91 (nI m) (nI s, K) (nI l, N)) (0, N) = some (.inl (nI (l + 1), P)) ∧ (∀ s' x, s' < 2 ^ n → x < n → P.1 18 (s' * 10 + x) = if s'.testBit x = true ∧ del s' x = s ∧ G s (ls s l) x = true then N.1 18 (s' * 10 + x) + nI c else N.1 18 (s' * 10 + x)) ∧ (∀ b, b ≠ 18 → P.1 b = N.1 b) ∧ P.2 = N.2 := by
  have hpw := pow_lt hn
  have hs := hst.1
  have hl10 := hst.l10 hn
  obtain ⟨r, e1, P, e5, e2, e3, e4⟩ := tr_loop_inv (step := mX7_layComes_l91 (nI m) (nI s, K) (nI l, N)) (s0 := (0, N)) (fun y t => ∃ P, t = (nI y, P) ∧ (∀ s' x, s' < 2 ^ n → x < n → P.1 18 (s' * 10 + x) = if s'.testBit x = true ∧ del s' x = s ∧ G s (ls s l) x = true ∧ x < y then N.1 18 (s' * 10 + x) + nI c else N.1 18 (s' * 10 + x)) ∧ (∀ b, b ≠ 18 → P.1 b = N.1 b) ∧ P.2 = N.2) (fun r => ∃ P, r = .inl (nI (l + 1), P) ∧ (∀ s' x, s' < 2 ^ n → x < n → P.1 18 (s' * 10 + x) = if s'.testBit x = true ∧ del s' x = s ∧ G s (ls s l) x = true then N.1 18 (s' * 10 + x) + nI c else N.1 18 (s' * 10 + x)) ∧ (∀ b, b ≠ 18 → P.1 b = N.1 b) ∧ P.2 = N.2) n (by omega) ⟨N, rfl, fun s' x _ _ => by rw [if_neg (by omega)], fun _ _ => rfl, rfl⟩ (by
    rintro y t hy ⟨P, rfl, h1, h2, h3⟩
    left
    have hP0 : P.1 1 10 = nI n := by rw [h2 1 (by decide)]; exact hw
    have c1 : nI y < nI n := (nlt (by omega) (by omega)).mpr hy
    have e7 : (if nI s = 0 then some (-9 : Int32) else some (nI l)) = some (lsI s l) := by
      simp (disch := omega) only [show (0 : Int32) = nI 0 from rfl, neq]
      unfold lsI; split <;> rfl
    unfold mX7_layComes_l91
    dsimp only
    rw [hP0, if_pos c1, e7, Option.bind_some, hg P h2 s l y hst hy, Option.bind_some]
    cases g : G s (ls s l) y with
    | false =>
      rw [if_pos (by decide), nadd1]
      refine ⟨_, rfl, P, rfl, fun s' x hs' hx' => ?_, h2, h3⟩
      rw [h1 s' x hs' hx']
      by_cases q : s'.testBit x = true ∧ del s' x = s ∧ G s (ls s l) x = true ∧ x < y
      · rw [if_pos q, if_pos ⟨q.1, q.2.1, q.2.2.1, by omega⟩]
      · rw [if_neg q, if_neg]
        rintro ⟨q1, q2, q3, q4⟩
        by_cases e : x = y
        · rw [e, g] at q3; cases q3
        · exact q ⟨q1, q2, q3, by omega⟩
    | true =>
      have hnew := (hG _ _ _ g).2
      have hi := ins_lt hs hy
      have hgt := ins_gt hnew
      have hbit : (ins s y).testBit y = true := by rw [ins_bit]; simp
      have hh1 := h1 (ins s y) y hi hy
      rw [if_neg (by omega)] at hh1
      have hh2 : P.1 18 (s * 10 + l) = nI c := by
        rw [h1 s l hs hln, if_neg, hc]
        rintro ⟨q1, q2, -, -⟩
        have := del_lt_self q1
        omega
      rw [if_neg (by decide), ins_nI (by omega), spot_eq, spot_eq, tr_rd_nI (by omega) (by decide), Option.bind_some, tr_rd_nI (by omega) (by decide), Option.bind_some, hh1, hh2, tr_wr_nI (by omega) (by decide), Option.bind_some, nadd1]
      refine ⟨_, rfl, _, rfl, fun s' x hs' hx' => ?_, fun b hb => by rw [tr_st_ne hb]; exact h2 b hb, h3⟩
      by_cases e : s' = ins s y ∧ x = y
      · rw [e.1, e.2, tr_st_s, if_pos ⟨hbit, del_ins hnew, g, by omega⟩]
      · rw [tr_st_j (by omega), h1 s' x hs' hx']
        by_cases q : s'.testBit x = true ∧ del s' x = s ∧ G s (ls s l) x = true ∧ x < y
        · rw [if_pos q, if_pos ⟨q.1, q.2.1, q.2.2.1, by omega⟩]
        · rw [if_neg q, if_neg]
          rintro ⟨q1, q2, q3, q4⟩
          by_cases e2 : x = y
          · refine e ⟨?_, e2⟩
            rw [← q2, ← e2, ins_del q1]
          · exact q ⟨q1, q2, q3, by omega⟩) (by
    rintro t ⟨P, rfl, h1, h2, h3⟩
    have hP0 : P.1 1 10 = nI n := by rw [h2 1 (by decide)]; exact hw
    have c1 : ¬ nI n < nI n := by rw [nlt (by omega) (by omega)]; omega
    refine ⟨_, ?_, P, rfl, fun s' x hs' hx' => ?_, h2, h3⟩
    · unfold mX7_layComes_l91
      dsimp only
      rw [hP0, if_neg c1, nadd1]
    · rw [h1 s' x hs' hx']
      by_cases q : s'.testBit x = true ∧ del s' x = s ∧ G s (ls s l) x = true
      · rw [if_pos q, if_pos ⟨q.1, q.2.1, q.2.2, hx'⟩]
      · rw [if_neg q, if_neg (fun z => q ⟨z.1, z.2.1, z.2.2.1⟩)])
  exact ⟨P, by rw [e1, e5], e2, e3, e4⟩
