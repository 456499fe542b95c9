/-! ===== rules, as both sides look at places ===== -/
theorem abs_1 {a b : Nat} (ha : a < 1000) (hb : b < 1000) : mJ9_abs (nI a - nI b) = 1 ↔ (a + 1 = b ∨ b + 1 = a) := by
  unfold mJ9_abs
  by_cases c : b ≤ a
  · rw [nsub c, if_pos (nI_pos' (by omega)), show (1 : Int32) = nI 1 from rfl, neq (by omega) (by decide)]
    omega
  · have hneg : nI a - nI b < 0 := pk_sneg (by omega) (by omega)
    rw [if_neg (Int32.not_le.mpr hneg), Int32.zero_sub, Int32.neg_sub, nsub (by omega), show (1 : Int32) = nI 1 from rfl, neq (by omega) (by decide)]
    omega
theorem sub_gt1 {a b : Nat} (ha : a < 1000) (hb : b < 1000) : ((1 : Int32) < nI a - nI b) ↔ b + 1 < a := by
  rw [Int32.lt_iff_toInt_lt, pk_sub_toInt (by omega) (by omega)]
  show (1 : Int) < _ ↔ _
  omega
theorem sub_lt {a b c : Nat} (ha : a < 1000) (hb : b < 1000) (hc : c < 1000) : (nI a - nI b < nI c) ↔ a < b + c := by
  rw [Int32.lt_iff_toInt_lt, pk_sub_toInt (by omega) (by omega), nI_toInt (by omega)]
  omega
theorem lt_sub {a b c : Nat} (ha : a < 1000) (hb : b < 1000) (hc : c < 1000) : (nI c < nI a - nI b) ↔ b + c < a := by
  rw [Int32.lt_iff_toInt_lt, pk_sub_toInt (by omega) (by omega), nI_toInt (by omega)]
  omega
theorem if_ob {P : Prop} [Decidable P] {b : Bool} (h : b = true ↔ P) : (if P then some (1 : Int32) else some 0) = some (if b = true then 1 else 0) := by
  by_cases c : P
  · rw [if_pos c, if_pos (h.mpr c)]
  · rw [if_neg c, if_neg (fun q => c (h.mp q))]
theorem if_on {P : Prop} [Decidable P] {b : Bool} (h : b = true ↔ ¬ P) : (if P then some (0 : Int32) else some 1) = some (if b = true then 1 else 0) := by
  by_cases c : P
  · rw [if_pos c, if_neg (fun q => h.mp q c)]
  · rw [if_neg c, if_pos (h.mpr c)]
theorem sf_lt10 {n : Nat} {f : Nat → Nat} (y : Nat) (hn : n ≤ 10) : sf f y n < 1000 := by
  have := sf_le f y n
  omega
theorem two_b {P Q : Prop} [Decidable P] [Decidable Q] : (Option.bind (if P then some (1 : Int32) else some 0) fun v => Option.bind (if Q then some (1 : Int32) else some 0) fun u => if v = u then some (0 : Int32) else some 1) = some (if (!(decide P == decide Q)) = true then 1 else 0) := by
  by_cases p : P <;> by_cases q : Q <;> simp [p, q]
theorem isKept_c {w : Wd} {o k : Nat} {f : Nat → Nat} {M : tr_M} (hok : WOk w) (hw : CWd w o M) (hs : ∀ y, y < w.1 → M.1 (o + 18) y = nI (sf f y w.1)) (hk : k < w.2.2.1) : mX5_isKept o (nI k) M = some (if kept w.1 (w.2.2.2.1 k) f = true then 1 else 0) := by
  have hn := hok.1
  have h8 := hok.2.2.2.2.1
  have hr := hok.2.2.2.2.2.1 k hk
  obtain ⟨c1, c2, c3, c4⟩ := hw.2.2.2.2.2.2 k hk
  generalize w.2.2.2.1 k = r at *
  obtain ⟨kd, x, y, z⟩ := r
  unfold ruleOk at hr
  dsimp only at hr c1 c2 c3 c4
  have bx := sf_lt10 (f := f) x hn
  have by' := sf_lt10 (f := f) y hn
  have bz := sf_lt10 (f := f) z hn
  unfold mX5_isKept kept
  dsimp only
  rcases hr with ⟨rfl, rfl, rfl, rfl⟩ | ⟨hkd, hx, hy, hxy, rfl⟩ | ⟨hkd, hx, hy, rfl⟩ | ⟨rfl, hx, hy, hz, hxy, hxz, hyz⟩
  · simp (disch := omega) only [tr_rd_nI, Option.bind_some, c1, c2]
    rfl
  · have e1 := hs x hx
    have e2 := hs y hy
    simp (disch := omega) only [tr_rd_nI, Option.bind_some, c1, c2, c3, e1, e2, nadd1]
    rcases hkd with rfl | rfl | rfl
    · simp (config := { decide := true }) only [if_true, if_false]
      exact if_ob (by rw [decide_eq_true_eq, nlt (by omega) (by omega)])
    · simp (config := { decide := true }) only [if_true, if_false]
      exact if_ob (by rw [decide_eq_true_eq, neq (by omega) (by omega)])
    · simp (config := { decide := true }) only [if_true, if_false]
      exact if_on (by rw [abs_1 bx by', Bool.and_eq_true, Bool.not_eq_true', Bool.not_eq_true', decide_eq_false_iff_not, decide_eq_false_iff_not, not_or])
  · have e1 := hs x hx
    simp (disch := omega) only [tr_rd_nI, Option.bind_some, c1, c2, c3, e1]
    rcases hkd with rfl | rfl
    · simp (config := { decide := true }) only [if_true, if_false]
      exact if_ob (by rw [decide_eq_true_eq, neq (by omega) (by omega)])
    · simp (config := { decide := true }) only [if_true, if_false]
      exact if_on (by rw [decide_eq_true_eq, nlt (by omega) (by omega), Nat.not_lt])
  · have e1 := hs x hx
    have e2 := hs y hy
    have e3 := hs z hz
    simp (disch := omega) only [tr_rd_nI, Option.bind_some, c1, c2, c3, c4, e1, e2, e3]
    simp (config := { decide := true }) only [if_true, if_false]
    rw [two_b]
    simp (disch := omega) only [nlt]
theorem firstBroken_eq {w : Wd} {o c : Nat} {f : Nat → Nat} {M : tr_M} (hok : WOk w) (hw : CWd w o M) (hf : Ord w.1 f) (hc : HasF M c w.1 f) (hl : w.1 ≤ tr_len shC c) (hl2 : tr_len shC c < 2147483648) (hd : tr_len shC (o + 18) = 10) (hcd : c ≠ o + 18) : mX5_firstBroken o c M = some (brk w f, tr_row M (o + 18) (sa f (M.1 (o + 18)) w.1)) := by
  have h8 := hok.2.2.2.2.1
  unfold mX5_firstBroken
  rw [seatsOf_eq hok hw.1 hf hc hl hl2 hd hcd (by omega)]
  dsimp only [Option.bind_some]
  have hw2 : CWd w o (tr_row M (o + 18) (sa f (M.1 (o + 18)) w.1)) := hw.congr fun b h1 h2 => tr_row_ne (by omega)
  generalize hM : tr_row M (o + 18) (sa f (M.1 (o + 18)) w.1) = N at *
  have hs : ∀ y, y < w.1 → N.1 (o + 18) y = nI (sf f y w.1) := fun y hy => by
    rw [← hM, tr_row_s]
    exact sa_ord hf hy
  refine loop_fst (n := w.2.2.1) (P := fun k => !w.2.2.2.2 k && !kept w.1 (w.2.2.2.1 k) f) (g := fun v => (v, N)) (by omega) (fun k hk => ?_) ?_
  · unfold mX5_firstBroken_l11
    simp (disch := omega) only [hw2.2.1, nlt, hk, if_true, isOff_eq hw2 (show k < 8 by omega), isKept_c hok hw2 hs hk, Option.bind_some, nadd1]
    cases w.2.2.2.2 k <;> cases kept w.1 (w.2.2.2.1 k) f <;> rfl
  · unfold mX5_firstBroken_l11
    simp (disch := omega) only [hw2.2.1, nlt, Nat.lt_irrefl, if_false]
theorem isKept_m {w : Wd} {k : Nat} {f : Nat → Nat} {M : tr_M} (hok : WOk w) (hm : MWd w M) (hf : Ord w.1 f) (hs : ∀ y, y < w.1 → M.1 13 y = nI (sf f y w.1)) (hk : k < w.2.2.1) : mX7_isKept (nI k) M = some (if (w.2.2.2.2 k || kept w.1 (w.2.2.2.1 k) f) = true then 1 else 0) := by
  have hn := hok.1
  have h8 := hok.2.2.2.2.1
  have hr := hok.2.2.2.2.2.1 k hk
  unfold mX7_isKept
  rw [ruleAt0 hok hm hk, ruleAt1 hok hm hk, ruleAt2 hok hm hk, ruleAt3 hok hm hk, ruleAt4 hok hm hk]
  unfold offF
  generalize w.2.2.2.1 k = r at *
  obtain ⟨kd, x, y, z⟩ := r
  unfold ruleOk at hr
  dsimp only at hr
  have bx := sf_lt10 (f := f) x hn
  have by' := sf_lt10 (f := f) y hn
  have bz := sf_lt10 (f := f) z hn
  have hx10 : x < 10 := by omega
  rw [Option.bind_some, tr_rd_nI hx10 (by decide), Option.bind_some, Option.bind_some, Option.bind_some, Option.bind_some]
  cases w.2.2.2.2 k with
  | true =>
    rw [if_pos (by decide)]
    rfl
  | false =>
    rw [if_neg (by decide), Bool.false_or]
    unfold kept
    dsimp only
    rcases hr with ⟨rfl, rfl, rfl, rfl⟩ | ⟨hkd, hx, hy, hxy, rfl⟩ | ⟨hkd, hx, hy, rfl⟩ | ⟨rfl, hx, hy, hz, hxy, hxz, hyz⟩
    · rfl
    · have e1 := hs x hx
      have e2 := hs y hy
      rw [e1]
      rcases hkd with rfl | rfl | rfl
      · simp (config := { decide := true }) only [if_true, if_false]
        simp (disch := omega) only [tr_rd_nI, Option.bind_some, e2, nadd1]
        exact if_ob (by rw [decide_eq_true_eq, nlt (by omega) (by omega)])
      · simp (config := { decide := true }) only [if_true, if_false]
        simp (disch := omega) only [tr_rd_nI, Option.bind_some, e2, nadd1]
        exact if_ob (by rw [decide_eq_true_eq, neq (by omega) (by omega)])
      · simp (config := { decide := true }) only [if_true, if_false]
        simp (disch := omega) only [tr_rd_nI, Option.bind_some, e2]
        simp only [sub_gt1 bx by', sub_gt1 by' bx]
        have hne : sf f x w.1 ≠ sf f y w.1 := fun e => hxy (by rw [← (sf_ord hf hx).1, ← (sf_ord hf hy).1, e])
        by_cases q1 : sf f y w.1 + 1 < sf f x w.1
        · rw [if_pos q1]
          have a1 : ¬ sf f x w.1 + 1 = sf f y w.1 := by omega
          have a2 : ¬ sf f y w.1 + 1 = sf f x w.1 := by omega
          simp [a1, a2]
        · rw [if_neg q1]
          by_cases q2 : sf f x w.1 + 1 < sf f y w.1
          · rw [if_pos q2]
            have a1 : ¬ sf f x w.1 + 1 = sf f y w.1 := by omega
            have a2 : ¬ sf f y w.1 + 1 = sf f x w.1 := by omega
            simp [a1, a2]
          · rw [if_neg q2]
            by_cases a1 : sf f x w.1 + 1 = sf f y w.1
            · simp [a1]
            · have a2 : sf f y w.1 + 1 = sf f x w.1 := by omega
              simp [a2]
    · have e1 := hs x hx
      rw [e1]
      rcases hkd with rfl | rfl
      · simp (config := { decide := true }) only [if_true, if_false]
        exact if_ob (by rw [decide_eq_true_eq, neq (by omega) (by omega)])
      · simp (config := { decide := true }) only [if_true, if_false]
        exact if_on (by rw [decide_eq_true_eq, nlt (by omega) (by omega), Nat.not_lt])
    · have e1 := hs x hx
      have e2 := hs y hy
      have e3 := hs z hz
      rw [e1]
      simp (config := { decide := true }) only [if_true, if_false]
      simp (disch := omega) only [tr_rd_nI, Option.bind_some, e2, e3]
      rw [two_b]
      simp (disch := omega) only [nlt]
