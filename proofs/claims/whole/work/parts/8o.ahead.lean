theorem cnt_in {n s : Nat} (hn : n ≤ 10) (hs : s < 2 ^ n) : cnt 10 s = cnt n s := cnt_10 hn fun y hy => Nat.testBit_lt_two_pow (Nat.lt_of_lt_of_le hs (Nat.pow_le_pow_right (by decide) hy))
theorem tk_full {G : Rl} {n a : Nat} (ha : a < n) : tk G n a (2 ^ n - 1) = 0 := by
  unfold tk
  rw [if_pos]
  rw [Nat.testBit_two_pow_sub_one]
  simpa using ha
theorem sm_top {f : Nat → Nat} {n : Nat} (h : f (2 ^ n - 1) = 0) : sm (2 ^ n - 1) f = sm (2 ^ n) f := by
  have hp0 := Nat.two_pow_pos n
  have e : 2 ^ n = 2 ^ n - 1 + 1 := by omega
  have e2 : sm (2 ^ n - 1 + 1) f = sm (2 ^ n - 1) f + f (2 ^ n - 1) := rfl
  rw [← e] at e2
  rw [e2, h, Nat.add_zero]
/-- how many of the ways have a at place i -/
def spr (G : Rl) (n a i : Nat) : Nat := sm (2 ^ n) (fun s => if cnt n s = i then tk G n a s else 0)
theorem spr_nst {G : Rl} {n a i : Nat} (hf : Fresh G n) (hn : n ≤ 10) (ha : a < n) (hi : i < n) : nst G n (fun _ l => decide (l = a)) n 0 10 i = spr G n a i := by
  rw [nst_B hf hn _ ha (fun s l h => by simpa using h) hi]
  refine sm_congr fun s hs => ?_
  simp
theorem spr_0 {G : Rl} {n a i : Nat} (ha : a < n) (hi : n ≤ i) : spr G n a i = 0 := by
  unfold spr
  refine Eq.trans (sm_congr fun s hs => ?_) (sm_0 (2 ^ n))
  by_cases c : cnt n s = i
  · rw [if_pos c]
    have := cnt_le s n
    unfold tk
    rw [if_pos (cnt_full (by omega) a ha)]
  · rw [if_neg c]
theorem spread_loop {n a : Nat} {G : Rl} {N : tr_M} (hn : n ≤ 10) (hw : N.1 26 0 = nI n) (hG : Fresh G n) (hL : LG n G N) (hc : ∀ s l, St n s l → N.1 51 (s * 10 + l) = nI (cN G n s l)) (ha : a < n) (hz : ∀ i, i < 10 → N.1 61 i = 0) : ∃ P, tr_loop (mX4_spreadOf_l11 (nI a) 61) (0, N) = some P ∧ (∀ i, i < 10 → P.1 61 i = nI (spr G n a i)) ∧ (∀ b, b ≠ 61 → P.1 b = N.1 b) ∧ P.2 = N.2 := by
  have hpw := pow_lt hn
  have hp0 := Nat.two_pow_pos n
  have hlen : tr_len shC 61 = 10 := rfl
  obtain ⟨P, e, h1, h2, h3⟩ := tr_loop_inv (step := mX4_spreadOf_l11 (nI a) 61) (s0 := (0, N)) (fun k t => t.1 = nI k ∧ (∀ i, i < 10 → t.2.1 61 i = nI (sm k (fun s => if cnt n s = i then tk G n a s else 0))) ∧ (∀ b, b ≠ 61 → t.2.1 b = N.1 b) ∧ t.2.2 = N.2) (fun P => (∀ i, i < 10 → P.1 61 i = nI (spr G n a i)) ∧ (∀ b, b ≠ 61 → P.1 b = N.1 b) ∧ P.2 = N.2) (2 ^ n - 1) (by omega) ⟨rfl, hz, fun _ _ => rfl, rfl⟩ (by
      rintro k ⟨-, P⟩ hk ⟨rfl, t1, t2, t3⟩
      left
      dsimp only at t1 t2 t3
      have w0 : P.1 26 0 = nI n := by rw [t2 26 (by decide)]; exact hw
      unfold mX4_spreadOf_l11
      dsimp only
      have c1 : nI k < nI (2 ^ n - 1) := (nlt (by omega) (by omega)).mpr hk
      have hck : cnt n k < 10 := by
        have h1 := cnt_le k n
        by_cases q : cnt n k = n
        · exfalso
          have := cnt_full q
          have h3 : k = 2 ^ n - 1 := by
            refine Nat.eq_of_testBit_eq fun i => ?_
            rw [Nat.testBit_two_pow_sub_one]
            by_cases y : i < n
            · rw [this i y]; simp [y]
            · rw [Nat.testBit_lt_two_pow (Nat.lt_of_lt_of_le (by omega) (Nat.pow_le_pow_right (by decide) (show n ≤ i by omega)))]; simp [y]
          omega
        · omega
      rw [everything_eq w0 hn, if_pos c1, bitCount_eq (by omega), cnt_in hn (by omega)]
      show ∃ s', Option.bind (some (nI (cnt n k))) _ = _ ∧ _
      rw [Option.bind_some, hlen, tr_rd_nI hck (by decide), Option.bind_some, taking_eq hn w0 hG (fun s l h => by rw [t2 49 (by decide), t2 50 (by decide)]; exact hL s l h) (fun s l h => by rw [t2 51 (by decide)]; exact hc s l h) ha (by omega), Option.bind_some, tr_wr_nI hck (by decide), Option.bind_some, nadd1, t1 _ hck, nadd]
      refine ⟨_, rfl, rfl, fun i hi => ?_, fun b hb => (tr_st_ne hb).trans (t2 b hb), t3⟩
      show (tr_st _ _ _ _).1 61 i = nI (sm k _ + if cnt n k = i then _ else 0)
      by_cases q : cnt n k = i
      · rw [if_pos q, ← q, tr_st_s]
      · rw [if_neg q, tr_st_j (fun y => q y.symm), t1 i hi, Nat.add_zero]) (by
      rintro ⟨-, P⟩ ⟨rfl, t1, t2, t3⟩
      dsimp only at t1 t2 t3
      have w0 : P.1 26 0 = nI n := by rw [t2 26 (by decide)]; exact hw
      unfold mX4_spreadOf_l11
      dsimp only
      have c1 : ¬ nI (2 ^ n - 1) < nI (2 ^ n - 1) := by rw [nlt (by omega) (by omega)]; omega
      rw [everything_eq w0 hn, if_neg c1]
      refine ⟨P, rfl, fun i hi => ?_, t2, t3⟩
      rw [t1 i hi, sm_top]
      · rfl
      · rw [tk_full ha]; split <;> rfl)
  exact ⟨P, e, h1, h2, h3⟩
/-- in how many of the ways a stands before b -/
def ahd (G : Rl) (n a b : Nat) : Nat := sm (2 ^ n) (fun s => if s.testBit a = true then tk G n b s else 0)
theorem ahead_loop {n a b : Nat} {G : Rl} {N : tr_M} (hn : n ≤ 10) (hw : N.1 26 0 = nI n) (hG : Fresh G n) (hL : LG n G N) (hc : ∀ s l, St n s l → N.1 51 (s * 10 + l) = nI (cN G n s l)) (ha : a < n) (hb : b < n) : tr_loop (mX4_numberAhead_l9 (nI a) (nI b) N) (0, 0) = some (nI (ahd G n a b), N) := by
  have hpw := pow_lt hn
  have hp0 := Nat.two_pow_pos n
  have e := loop_sum (step := mX4_numberAhead_l9 (nI a) (nI b) N) (n := 2 ^ n - 1) (f := fun s => if s.testBit a = true then tk G n b s else 0) (g := fun v => (v, N)) 0 (by omega) (fun s c hs => by
    unfold mX4_numberAhead_l9
    dsimp only
    have c1 : nI s < nI (2 ^ n - 1) := (nlt (by omega) (by omega)).mpr hs
    rw [everything_eq hw hn, if_pos c1]
    simp (disch := omega) only [bit_eq0]
    cases hbit : s.testBit a with
    | false => rw [if_pos rfl, if_neg (by decide), Nat.add_zero, nadd1]
    | true => rw [if_neg (by decide), if_pos rfl, taking_eq hn hw hG hL hc hb (by omega), Option.bind_some, nadd, nadd1]) (fun c => by
    unfold mX4_numberAhead_l9
    dsimp only
    have c1 : ¬ nI (2 ^ n - 1) < nI (2 ^ n - 1) := by rw [nlt (by omega) (by omega)]; omega
    rw [everything_eq hw hn, if_neg c1])
  rw [show tr_loop (mX4_numberAhead_l9 (nI a) (nI b) N) (0, 0) = _ from e, Nat.zero_add]
  unfold ahd
  rw [sm_top]
  rw [tk_full hb]
  split <;> rfl
