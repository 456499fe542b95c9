/-! ===== what changes a world ===== -/
theorem sm_up {f : Nat → Nat} {b v : Nat} : ∀ {n : Nat}, b < n → sm n (fun y => if y = b then v else f y) + f b = sm n f + v
  | 0, h => by omega
  | n + 1, h => by
    unfold sm
    dsimp only
    by_cases e : b = n
    · subst e
      rw [if_pos rfl, sm_congr (f := fun y => if y = b then v else f y) (g := f) (fun i hi => if_neg (by omega))]
      omega
    · have ih := sm_up (f := f) (b := b) (v := v) (n := n) (by omega)
      rw [if_neg (by omega)]
      omega
theorem sm_ge {f : Nat → Nat} {b : Nat} : ∀ {n : Nat}, b < n → f b ≤ sm n f
  | 0, h => by omega
  | n + 1, h => by
    unfold sm
    by_cases e : b = n
    · subst e; omega
    · have := sm_ge (f := f) (b := b) (n := n) (by omega)
      omega
theorem sm_le {f : Nat → Nat} {c : Nat} : ∀ {n : Nat}, (∀ i, i < n → f i ≤ c) → sm n f ≤ n * c
  | 0, _ => by simp [sm]
  | n + 1, h => by
    have := sm_le (f := f) (c := c) (n := n) (fun i hi => h i (by omega))
    have := h n (by omega)
    unfold sm
    rw [Nat.succ_mul]
    omega
def wt1 (f : Nat → Nat → Nat) (a b v : Nat) : Nat → Nat → Nat := fun x y => if x = a ∧ y = b then v else f x y
def wdW (w : Wd) (f : Nat → Nat → Nat) : Wd := (w.1, f, w.2.2)
theorem load_up (w : Wd) {a b : Nat} (v : Nat) (hb : b < 10) : load (wdW w (wt1 w.2.1 a b v)) a + w.2.1 a b = load w a + v := by
  unfold load
  have : (wdW w (wt1 w.2.1 a b v)).2.1 a = fun y => if y = b then v else w.2.1 a y := funext fun y => by
    show (if a = a ∧ y = b then v else w.2.1 a y) = _
    by_cases e : y = b <;> simp [e]
  rw [this]
  exact sm_up hb
theorem side_eq {o a b v : Nat} {M : tr_M} (ha : a < 10) (hb : b < 10) : mX5_setSide o (nI a) (nI b) (nI v) M = some (tr_st (tr_st (tr_st M (o + 13) a (M.1 (o + 13) a + (nI v - M.1 (o + 2 + a) b))) (o + 2 + a) b (nI v)) (o + 12) a (if (0 : Int32) < nI v then M.1 (o + 12) a ||| ((1 : Int32) <<< (nI b &&& 31)) else M.1 (o + 12) a &&& (((1 : Int32) <<< (nI b &&& 31)) ^^^ (-1)))) := by
  unfold mX5_setSide
  rw [tr_rd_nI ha (by decide), tr_ra_nI ha (by decide)]
  simp only [Option.bind_some]
  rw [tr_rd_nI hb (by decide)]
  simp only [Option.bind_some]
  rw [tr_wr_nI ha (by decide)]
  simp only [Option.bind_some]
  rw [tr_wr_nI hb (by decide)]
  simp only [Option.bind_some]
  rw [tr_rd_nI ha (by decide)]
  simp only [Option.bind_some]
  rw [tr_wr_nI ha (by decide), tr_wr_nI ha (by decide), tr_st_ne (show o + 12 ≠ o + 2 + a by omega), tr_st_ne (show o + 12 ≠ o + 13 by omega)]
  by_cases h : (0 : Int32) < nI v
  · simp only [if_pos h, Option.bind_some]
  · simp only [if_neg h, Option.bind_some]
theorem n_move {L v x : Nat} (h : x ≤ L) : nI L + (nI v - nI x) = nI (L + v - x) := by
  obtain ⟨R, rfl⟩ : ∃ R, L = R + x := ⟨L - x, by omega⟩
  rw [← nadd, Int32.add_assoc, Int32.add_comm (nI x), Int32.sub_add_cancel, nadd]
  congr 1
  omega
/-- one side of a tie, in the class -/
theorem side_wd {w : Wd} {o a b v : Nat} {M : tr_M} (hw : CWd w o M) (ha : a < 10) (hb : b < 10) (hv : v ≤ 9) : ∃ M', mX5_setSide o (nI a) (nI b) (nI v) M = some M' ∧ CWd (wdW w (wt1 w.2.1 a b v)) o M' ∧ (∀ c, (c < o + 2 ∨ o + 13 < c) → M'.1 c = M.1 c) ∧ M'.2 = M.2 := by
  refine ⟨_, side_eq ha hb, ?_, fun c hc => ?_, rfl⟩
  · obtain ⟨h1, h2, h3, h4, h5, h6, h7⟩ := hw
    refine ⟨?_, ?_, ?_, fun x y hx hy => ?_, fun x hx => ?_, fun x hx => ?_, fun k hk => ?_⟩
    · simp (disch := omega) only [tr_st_ne]; exact h1
    · simp (disch := omega) only [tr_st_ne]; exact h2
    · simp (disch := omega) only [tr_st_ne]; exact h3
    · rw [tr_st_ne (by omega), tr_st_1]
      show _ = nI (if x = a ∧ y = b then v else w.2.1 x y)
      by_cases e : x = a ∧ y = b
      · rw [if_pos (by omega), if_pos e]
      · rw [if_neg (by omega), if_neg e, tr_st_ne (by omega)]
        exact h4 x y hx hy
    · rw [tr_st_1]
      by_cases e : x = a
      · subst e
        rw [if_pos ⟨rfl, rfl⟩, h5 x hx, ins_nI (by omega), del_nI (by omega)]
        have hz : (0 : Int32) < nI v ↔ 0 < v := n0lt (by omega)
        have htb : ∀ i, (tied w x).testBit i = (decide (i < 10) && decide (0 < w.2.1 x i)) := fun i => mkb_bit _ 10 i
        have key : (if 0 < v then ins (tied w x) b else del (tied w x) b) = tied (wdW w (wt1 w.2.1 x b v)) x := by
          apply Nat.eq_of_testBit_eq
          intro i
          have e2 : (tied (wdW w (wt1 w.2.1 x b v)) x).testBit i = (decide (i < 10) && decide (0 < (if x = x ∧ i = b then v else w.2.1 x i))) := mkb_bit _ 10 i
          rw [e2]
          by_cases c : 0 < v
          · rw [if_pos c, ins_bit, htb]
            by_cases e3 : i = b
            · subst e3; simp [hb, c]
            · simp [e3, show ¬ b = i from fun q => e3 q.symm]
          · rw [if_neg c, del_bit, htb]
            by_cases e3 : i = b
            · subst e3; simp [show v = 0 by omega]
            · simp [e3, show ¬ b = i from fun q => e3 q.symm]
        rw [← key]
        by_cases c : 0 < v
        · rw [if_pos (hz.mpr c), if_pos c]
        · rw [if_neg (fun q => c (hz.mp q)), if_neg c]
      · rw [if_neg (fun q => e q.2), tr_st_ne (by omega), tr_st_ne (by omega), h5 x hx]
        congr 1
        exact mkb_congr fun i hi => by
          show decide (0 < w.2.1 x i) = decide (0 < (if x = a ∧ i = b then v else w.2.1 x i))
          rw [if_neg (fun q => e q.1)]
    · rw [tr_st_ne (by omega), tr_st_ne (by omega), tr_st_1]
      by_cases e : x = a
      · subst e
        rw [if_pos ⟨rfl, rfl⟩, h6 x hx, h4 x b hx hb, n_move (show w.2.1 x b ≤ load w x from sm_ge hb)]
        have := load_up w (a := x) v hb
        congr 1
        omega
      · rw [if_neg (fun q => e q.2), h6 x hx]
        congr 1
        unfold load
        exact sm_congr fun i hi => by
          show w.2.1 x i = if x = a ∧ i = b then v else w.2.1 x i
          rw [if_neg (fun q => e q.1)]
    · simp (disch := omega) only [tr_st_ne]
      exact h7 k hk
  · simp (disch := omega) only [tr_st_ne]
theorem tie_wd {w : Wd} {o a b v : Nat} {M : tr_M} (hw : CWd w o M) (ha : a < 10) (hb : b < 10) (hv : v ≤ 9) : ∃ M', mX5_setTie o (nI a) (nI b) (nI v) M = some M' ∧ CWd (wdW w (wt1 (wt1 w.2.1 a b v) b a v)) o M' ∧ (∀ c, (c < o + 2 ∨ o + 13 < c) → M'.1 c = M.1 c) ∧ M'.2 = M.2 := by
  obtain ⟨M1, e1, w1, k1, z1⟩ := side_wd hw ha hb hv
  obtain ⟨M2, e2, w2, k2, z2⟩ := side_wd w1 hb ha hv
  refine ⟨M2, ?_, w2, fun c hc => (k2 c hc).trans (k1 c hc), z2.trans z1⟩
  unfold mX5_setTie
  rw [e1, Option.bind_some, e2]
  rfl
/-- a tie of two things, both ways -/
def wt2 (f : Nat → Nat → Nat) (a b v : Nat) : Nat → Nat → Nat := wt1 (wt1 f a b v) b a v
theorem wt2_eq {f : Nat → Nat → Nat} {a b v x y : Nat} : wt2 f a b v x y = if (x = a ∧ y = b) ∨ (x = b ∧ y = a) then v else f x y := by
  unfold wt2 wt1
  by_cases h1 : x = b ∧ y = a
  · rw [if_pos h1, if_pos (Or.inr h1)]
  · rw [if_neg h1]
    by_cases h2 : x = a ∧ y = b
    · rw [if_pos h2, if_pos (Or.inl h2)]
    · rw [if_neg h2, if_neg (fun q => q.elim h2 h1)]
theorem wt2_ok {w : Wd} (h : WOk w) {a b v : Nat} (ha : a < w.1) (hb : b < w.1) (hab : a ≠ b) (hv : v ≤ 9) : WOk (wdW w (wt2 w.2.1 a b v)) := by
  obtain ⟨h1, h2, h3, h4, h5⟩ := h
  refine ⟨h1, fun x y => ?_, fun x y => ?_, fun x y hxy => ?_, h5⟩
  · show wt2 w.2.1 a b v x y ≤ 9
    rw [wt2_eq]
    split
    · exact hv
    · exact h2 x y
  · show wt2 w.2.1 a b v x y = wt2 w.2.1 a b v y x
    rw [wt2_eq, wt2_eq]
    by_cases c : (x = a ∧ y = b) ∨ (x = b ∧ y = a)
    · rw [if_pos c, if_pos (by omega)]
    · rw [if_neg c, if_neg (by omega)]
      exact h3 x y
  · show wt2 w.2.1 a b v x y = 0
    have hxy : w.1 ≤ x ∨ x = y := hxy
    rw [wt2_eq, if_neg (by omega)]
    exact h4 x y hxy
theorem layTie_eq {a b : Nat} {v : Int32} {M : tr_M} (ha : a < 10) (hb : b < 10) : mX7_layTie (nI a) (nI b) v M = some (tr_st (tr_st M 8 (10 * a + b) v) 8 (10 * b + a) v) := by
  unfold mX7_layTie
  rw [show (10 : Int32) = nI 10 from rfl, nmul, nmul, nadd, nadd, tr_wr_nI (by omega) (by decide)]
  simp only [Option.bind_some]
  rw [tr_wr_nI (by omega) (by decide)]
  rfl
theorem weight_eq {a b : Nat} {M : tr_M} (ha : a < 10) (hb : b < 10) : mX7_weight (nI a) (nI b) M = some (M.1 8 (10 * a + b)) := by
  unfold mX7_weight
  rw [show (10 : Int32) = nI 10 from rfl, nmul, nadd, tr_rd_nI (by omega) (by decide)]
  rfl
theorem layTie_wd {w : Wd} {a b v : Nat} {M : tr_M} (hw : MWd w M) (ha : a < 10) (hb : b < 10) : MWd (wdW w (wt2 w.2.1 a b v)) (tr_st (tr_st M 8 (10 * a + b) (nI v)) 8 (10 * b + a) (nI v)) := by
  obtain ⟨h1, h2, h3, h4⟩ := hw
  refine ⟨?_, ?_, fun x y hx hy => ?_, fun k hk => ?_⟩
  · simp (disch := omega) only [tr_st_ne]; exact h1
  · simp (disch := omega) only [tr_st_ne]; exact h2
  · show _ = nI (wt2 w.2.1 a b v x y)
    rw [wt2_eq, tr_st_1, tr_st_1]
    by_cases c2 : x = b ∧ y = a
    · rw [if_pos (by omega), if_pos (Or.inr c2)]
    · rw [if_neg (by omega)]
      by_cases c1 : x = a ∧ y = b
      · rw [if_pos (by omega), if_pos (Or.inl c1)]
      · rw [if_neg (by omega), if_neg (by omega)]
        exact h3 x y hx hy
  · simp (disch := omega) only [tr_st_ne]; exact h4 k hk
