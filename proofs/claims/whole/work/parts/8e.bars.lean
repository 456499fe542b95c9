/-! ===== E: who is kept from coming, in the class ===== -/
def bB (r : Nat × Nat × Nat × Nat) (s : Nat) : Nat :=
  if r.1 = 1 then (if s.testBit r.2.1 = true then 0 else 2 ^ r.2.2.1)
  else if r.1 = 3 then (if cnt 10 s = r.2.2.1 then 0 else 2 ^ r.2.1)
  else if r.1 = 4 then (if r.2.2.1 < cnt 10 s then 2 ^ r.2.1 else 0)
  else if r.1 = 6 then (if s.testBit r.2.2.1 = s.testBit r.2.2.2 then 2 ^ r.2.1 else 0)
  else 0
def bN (r : Nat × Nat × Nat × Nat) (l : Nat) : Nat :=
  if r.1 = 2 then (if l = r.2.1 then 0 else 2 ^ r.2.2.1)
  else if r.1 = 5 then (if l = r.2.1 then 2 ^ r.2.2.1 else if l = r.2.2.1 then 2 ^ r.2.1 else 0)
  else 0
def bBk (w : Wd) (k s : Nat) : Nat := if w.2.2.2.2 k = true then 0 else bB (w.2.2.2.1 k) s
def bNk (w : Wd) (k l : Nat) : Nat := if w.2.2.2.2 k = true then 0 else bN (w.2.2.2.1 k) l
theorem barredBehind_eq {w : Wd} {o k s : Nat} {M : tr_M} (hok : WOk w) (hw : CWd w o M) (hk : k < w.2.2.1) (hs : s < 1024) : mX5_barredBehind o (nI k) (nI s) M = some (nI (bBk w k s)) := by
  have hn := hok.1
  have h8 := hok.2.2.2.2.1
  have hr := hok.2.2.2.2.2.1 k hk
  obtain ⟨c1, c2, c3, c4⟩ := hw.2.2.2.2.2.2 k hk
  have hcl := cnt_le s 10
  unfold mX5_barredBehind bBk
  rw [isOff_eq hw (show k < 8 by omega)]
  cases w.2.2.2.2 k with
  | true => rfl
  | false =>
    rw [if_pos (by decide), if_neg (show ¬ false = true by decide), tr_rd_nI (show k < 8 by omega) (by decide), Option.bind_some]
    generalize w.2.2.2.1 k = r at *
    obtain ⟨kd, x, y, z⟩ := r
    unfold ruleOk at hr
    unfold bB
    dsimp only at hr c1 c2 c3 c4 ⊢
    rw [c1]
    rcases hr with ⟨rfl, rfl, rfl, rfl⟩ | ⟨hkd, hx, hy, hxy, rfl⟩ | ⟨hkd, hx, hy, rfl⟩ | ⟨rfl, hx, hy, hz, hxy, hxz, hyz⟩
    · rfl
    · rcases hkd with rfl | rfl | rfl
      · rw [if_pos (show nI 1 = 1 from rfl), if_pos rfl, tr_rd_nI (show k < 8 by omega) (by decide), Option.bind_some, c2]
        simp (disch := omega) only [bit_eq0]
        cases s.testBit x
        · rw [if_pos rfl, tr_rd_nI (show k < 8 by omega) (by decide), Option.bind_some, c3, sh1 (by omega)]
          rfl
        · rfl
      · rfl
      · rfl
    · rcases hkd with rfl | rfl
      · rw [if_neg (by decide), if_neg (by decide), if_pos (show nI 3 = 3 from rfl), if_neg (by decide), if_pos rfl, bitCount_eq hs, Option.bind_some, tr_rd_nI (show k < 8 by omega) (by decide), Option.bind_some, c3]
        by_cases q : cnt 10 s = y
        · rw [if_pos (by rw [q]), if_pos q]
          rfl
        · rw [if_neg (by rw [neq (by omega) (by omega)]; exact q), if_neg q, tr_rd_nI (show k < 8 by omega) (by decide), Option.bind_some, c2, sh1 (by omega)]
      · rw [if_neg (by decide), if_neg (by decide), if_neg (by decide), if_pos (show nI 4 = 4 from rfl), if_neg (by decide), if_neg (by decide), if_pos rfl, bitCount_eq hs, Option.bind_some, tr_rd_nI (show k < 8 by omega) (by decide), Option.bind_some, c3]
        by_cases q : y < cnt 10 s
        · rw [if_pos ((nlt (by omega) (by omega)).mpr q), if_pos q, tr_rd_nI (show k < 8 by omega) (by decide), Option.bind_some, c2, sh1 (by omega)]
        · rw [if_neg (by rw [nlt (by omega) (by omega)]; exact q), if_neg q]
          rfl
    · rw [if_neg (by decide), if_neg (by decide), if_neg (by decide), if_neg (by decide), if_neg (by decide), if_pos (show nI 6 = 6 from rfl), if_neg (by decide), if_neg (by decide), if_neg (by decide), if_pos rfl, tr_rd_nI (show k < 8 by omega) (by decide), Option.bind_some, tr_rd_nI (show k < 8 by omega) (by decide), Option.bind_some, c3, c4, bit_nI (by omega) (by omega), bit_nI (by omega) (by omega)]
      cases s.testBit y <;> cases s.testBit z
      · rw [if_pos rfl, tr_rd_nI (show k < 8 by omega) (by decide), Option.bind_some, c2, sh1 (by omega)]
        rfl
      · rfl
      · rfl
      · rw [if_pos rfl, tr_rd_nI (show k < 8 by omega) (by decide), Option.bind_some, c2, sh1 (by omega)]
        rfl
theorem barredNextTo_eq {w : Wd} {o k l : Nat} {M : tr_M} (hok : WOk w) (hw : CWd w o M) (hk : k < w.2.2.1) (hl : l ≤ 10) : mX5_barredNextTo o (nI k) (nI l) M = some (nI (bNk w k l)) := by
  have hn := hok.1
  have h8 := hok.2.2.2.2.1
  have hr := hok.2.2.2.2.2.1 k hk
  obtain ⟨c1, c2, c3, c4⟩ := hw.2.2.2.2.2.2 k hk
  unfold mX5_barredNextTo bNk
  rw [isOff_eq hw (show k < 8 by omega)]
  cases w.2.2.2.2 k with
  | true => rfl
  | false =>
    rw [if_pos (by decide), if_neg (show ¬ false = true by decide), tr_rd_nI (show k < 8 by omega) (by decide), Option.bind_some]
    generalize w.2.2.2.1 k = r at *
    obtain ⟨kd, x, y, z⟩ := r
    unfold ruleOk at hr
    unfold bN
    dsimp only at hr c1 c2 c3 c4 ⊢
    rw [c1]
    rcases hr with ⟨rfl, rfl, rfl, rfl⟩ | ⟨hkd, hx, hy, hxy, rfl⟩ | ⟨hkd, hx, hy, rfl⟩ | ⟨rfl, hx, hy, hz, hxy, hxz, hyz⟩
    · rfl
    · rcases hkd with rfl | rfl | rfl
      · rfl
      · rw [if_pos (show nI 2 = 2 from rfl), if_pos rfl, tr_rd_nI (show k < 8 by omega) (by decide), Option.bind_some, c2]
        simp (disch := omega) only [neq]
        by_cases q : l = x
        · rw [if_pos q, if_pos q]; rfl
        · rw [if_neg q, if_neg q, tr_rd_nI (show k < 8 by omega) (by decide), Option.bind_some, c3, sh1 (by omega)]
      · rw [if_neg (by decide), if_pos (show nI 5 = 5 from rfl), if_neg (by decide), if_pos rfl, tr_rd_nI (show k < 8 by omega) (by decide), Option.bind_some, c2]
        simp (disch := omega) only [neq]
        by_cases q : l = x
        · rw [if_pos q, if_pos q, tr_rd_nI (show k < 8 by omega) (by decide), Option.bind_some, c3, sh1 (by omega)]
        · rw [if_neg q, if_neg q, tr_rd_nI (show k < 8 by omega) (by decide), Option.bind_some, c3]
          simp (disch := omega) only [neq]
          by_cases q2 : l = y
          · rw [if_pos q2, if_pos q2, Option.bind_some, sh1 (by omega)]
          · rw [if_neg q2, if_neg q2]; rfl
    · rcases hkd with rfl | rfl <;> rfl
    · rfl
theorem pow_bit (a i : Nat) : (2 ^ a).testBit i = decide (a = i) := Nat.testBit_two_pow
theorem stC_bits {n : Nat} {r : Nat × Nat × Nat × Nat} (hr : ruleOk n r) (s l a : Nat) : stC r s l a = (!(bB r s).testBit a && !(bN r l).testBit a) := by
  obtain ⟨kd, x, y, z⟩ := r
  unfold ruleOk at hr
  unfold stC bB bN
  dsimp only at hr ⊢
  have sy : ∀ u v : Nat, decide (u = v) = decide (v = u) := fun u v => by rw [decide_eq_decide]; exact eq_comm
  rcases hr with ⟨rfl, rfl, rfl, rfl⟩ | ⟨hkd, hx, hy, hxy, rfl⟩ | ⟨hkd, hx, hy, rfl⟩ | ⟨rfl, hx, hy, hz, hxy, hxz, hyz⟩
  · simp
  · rcases hkd with rfl | rfl | rfl
    · simp only [if_true, if_neg (show ¬ (1 : Nat) = 2 by decide), if_neg (show ¬ (1 : Nat) = 5 by decide), Nat.zero_testBit]
      cases s.testBit x
      · rw [if_neg (by decide), pow_bit, sy]; simp
      · simp
    · simp only [if_true, if_neg (show ¬ (2 : Nat) = 1 by decide), if_neg (show ¬ (2 : Nat) = 3 by decide), if_neg (show ¬ (2 : Nat) = 4 by decide), if_neg (show ¬ (2 : Nat) = 6 by decide), Nat.zero_testBit]
      by_cases q : l = x
      · simp [q]
      · rw [if_neg q, pow_bit, sy]; simp [q]
    · simp only [if_true, if_neg (show ¬ (5 : Nat) = 1 by decide), if_neg (show ¬ (5 : Nat) = 2 by decide), if_neg (show ¬ (5 : Nat) = 3 by decide), if_neg (show ¬ (5 : Nat) = 4 by decide), if_neg (show ¬ (5 : Nat) = 6 by decide), Nat.zero_testBit]
      by_cases q : l = x
      · rw [if_pos q, pow_bit, sy y a]
        have : ¬ l = y := by omega
        simp [q, hxy]
      · rw [if_neg q]
        by_cases q2 : l = y
        · rw [if_pos q2, pow_bit, sy x a]
          have : ¬ y = x := fun e => hxy e.symm
          simp [q2, this]
        · rw [if_neg q2, Nat.zero_testBit]
          simp [q, q2]
  · rcases hkd with rfl | rfl
    · simp only [if_true, if_neg (show ¬ (3 : Nat) = 1 by decide), if_neg (show ¬ (3 : Nat) = 2 by decide), if_neg (show ¬ (3 : Nat) = 5 by decide), Nat.zero_testBit]
      by_cases q : cnt 10 s = y
      · simp [q]
      · rw [if_neg q, pow_bit, sy]; simp [q]
    · simp only [if_true, if_neg (show ¬ (4 : Nat) = 1 by decide), if_neg (show ¬ (4 : Nat) = 2 by decide), if_neg (show ¬ (4 : Nat) = 3 by decide), if_neg (show ¬ (4 : Nat) = 5 by decide), Nat.zero_testBit]
      by_cases q : y < cnt 10 s
      · rw [if_pos q, pow_bit, sy]; simp [q]
      · rw [if_neg q]; simp [q]
  · simp only [if_true, if_neg (show ¬ (6 : Nat) = 1 by decide), if_neg (show ¬ (6 : Nat) = 2 by decide), if_neg (show ¬ (6 : Nat) = 3 by decide), if_neg (show ¬ (6 : Nat) = 4 by decide), if_neg (show ¬ (6 : Nat) = 5 by decide), Nat.zero_testBit]
    by_cases q : s.testBit y = s.testBit z
    · rw [if_pos q, pow_bit, sy]; simp [q]
    · rw [if_neg q]; simp [q]
/-- or, one behind the other -/
def orl (f : Nat → Int32) : Nat → Int32 → Int32
  | 0, a => a
  | k + 1, a => orl f k a ||| f k
theorem bt_orl (f : Nat → Int32) (a : Int32) (i : Nat) : ∀ k, bt (orl f k a) i = (bt a i || !al k (fun j => !bt (f j) i))
  | 0 => by simp [orl, al]
  | k + 1 => by
    show bt (orl f k a ||| f k) i = (bt a i || !(al k (fun j => !bt (f j) i) && !bt (f k) i))
    rw [bt_or, bt_orl f a i k]
    cases bt a i <;> cases al k (fun j => !bt (f j) i) <;> cases bt (f k) i <;> rfl
