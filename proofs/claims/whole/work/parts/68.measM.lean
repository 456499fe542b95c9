/-! ===== the model measures an order ===== -/
theorem has_eq {s x : Nat} (hs : s < 2147483648) (hx : x < 31) : mX7_has (nI s) (nI x) = if s.testBit x = true then 1 else 0 := by
  unfold mX7_has
  simp only [bit_eq1 hs hx]
theorem b0 {b : Bool} : ((if b = true then (1 : Int32) else 0) = 0) ↔ b = false := by
  cases b <;> decide
theorem cutOf_eq {w : Wd} {s : Nat} {M : tr_M} (hok : WOk w) (hm : MWd w M) (hs : s < 1024) : mX7_cutOf (nI s) M = some (nI (cutN w s)) := by
  have hn := hok.1
  unfold mX7_cutOf
  have inner : ∀ a c, a < w.1 → tr_loop (mX7_cutOf_l15 (nI s) M (nI c, nI a)) (nI c, nI 0) = some (.inl (nI (c + (if s.testBit a = true then rowN w s a else 0)), nI (a + 1))) := fun a c ha => by
    have e := loop_sum (step := mX7_cutOf_l15 (nI s) M (nI c, nI a)) (n := w.1) (f := fun b => if s.testBit a = true then (if s.testBit b = true then 0 else w.2.1 a b) else 0) (g := fun v => .inl (v, nI (a + 1))) c (by omega) (fun b d hb => by
      unfold mX7_cutOf_l15
      simp (disch := omega) only [hm.1, nlt, hb, if_true, has_eq, b0, weight_eq, hm.2.2.1, Option.bind_some, nadd1, nadd]
      cases s.testBit a <;> cases s.testBit b <;> simp [n00, nadd]) (fun d => by
      unfold mX7_cutOf_l15
      simp (disch := omega) only [hm.1, nlt, Nat.lt_irrefl, if_false, nadd1])
    rw [e]
    congr 4
    by_cases q : s.testBit a = true
    · simp only [if_pos q]; rfl
    · simp only [if_neg q, sm_0]
  have e := loop_sum (step := mX7_cutOf_l4 (nI s) M) (n := w.1) (f := fun a => if s.testBit a = true then rowN w s a else 0) (g := fun v => v) 0 (by omega) (fun a c ha => by
    unfold mX7_cutOf_l4
    simp (disch := omega) only [hm.1, nlt, ha, if_true]
    exact inner a c ha) (fun c => by
    unfold mX7_cutOf_l4
    simp (disch := omega) only [hm.1, nlt, Nat.lt_irrefl, if_false])
  rw [Nat.zero_add] at e
  exact e
theorem heldOf_eq {w : Wd} {s : Nat} {M : tr_M} (hok : WOk w) (hm : MWd w M) (hs : s < 1024) : mX7_heldOf (nI s) M = some (nI (heldN w s)) := by
  have hn := hok.1
  unfold mX7_heldOf
  have inner : ∀ a c, a < w.1 → tr_loop (mX7_heldOf_l18 (nI s) M (nI c, nI a)) (0, 0) = some (if opn w s a = true then 1 else 0) := fun a c ha => by
    refine tr_loop_seq' (fun b => ((if (s.testBit a && !al b (fun b => s.testBit b || decide (w.2.1 a b = 0))) = true then 1 else 0), nI b)) w.1 ?_ (by omega) (fun b hb => ?_) ?_
    · show ((if (s.testBit a && !true) = true then (1 : Int32) else 0), nI 0) = _
      simp [n00]
    · unfold mX7_heldOf_l18
      have h9 := hok.2.1 a b
      simp (disch := omega) only [hm.1, nlt, hb, if_true, has_eq, b0, weight_eq, hm.2.2.1, Option.bind_some, nadd1, n0lt]
      show _ = some (Sum.inl ((if (s.testBit a && !(al b (fun b => s.testBit b || decide (w.2.1 a b = 0)) && (s.testBit b || decide (w.2.1 a b = 0)))) = true then 1 else 0), nI (b + 1)))
      by_cases q : w.2.1 a b = 0
      · cases s.testBit a <;> cases s.testBit b <;> cases al b (fun b => s.testBit b || decide (w.2.1 a b = 0)) <;> simp [q]
      · have q2 : 0 < w.2.1 a b := by omega
        cases s.testBit a <;> cases s.testBit b <;> cases al b (fun b => s.testBit b || decide (w.2.1 a b = 0)) <;> simp [q, q2]
    · unfold mX7_heldOf_l18
      simp (disch := omega) only [hm.1, nlt, Nat.lt_irrefl, if_false]
      rfl
  have e := loop_sum (step := mX7_heldOf_l4 (nI s) M) (n := w.1) (f := fun a => if opn w s a = true then 1 else 0) (g := fun v => v) 0 (by omega) (fun a c ha => by
    unfold mX7_heldOf_l4
    simp (disch := omega) only [hm.1, nlt, ha, if_true]
    rw [inner a c ha]
    cases opn w s a
    · simp [n00, nadd, nadd1]
    · simp [nadd1]) (fun c => by
    unfold mX7_heldOf_l4
    simp (disch := omega) only [hm.1, nlt, Nat.lt_irrefl, if_false])
  rw [Nat.zero_add] at e
  exact e
theorem ngreater (a b : Nat) (ha : a < 2147483648) (hb : b < 2147483648) : mX7_greater (nI a) (nI b) = nI (max a b) := by
  unfold mX7_greater
  simp only [nlt hb ha]
  by_cases c : b < a
  · rw [if_pos c, show max a b = a by omega]
  · rw [if_neg c, show max a b = b by omega]
theorem nlesser (a b : Nat) (ha : a < 2147483648) (hb : b < 2147483648) : mX7_lesser (nI a) (nI b) = nI (min a b) := by
  unfold mX7_lesser
  simp only [nlt ha hb]
  by_cases c : a < b
  · rw [if_pos c, show min a b = a by omega]
  · rw [if_neg c, show min a b = b by omega]
theorem greater_sub {c a b : Nat} (hc : c < 1000) (ha : a < 1000) (hb : b < 1000) : mX7_greater (nI c) (nI a - nI b) = nI (max c (a - b)) := by
  by_cases q : b ≤ a
  · rw [nsub q, ngreater _ _ (by omega) (by omega)]
  · unfold mX7_greater
    simp only [sub_lt ha hb hc]
    rw [if_pos (by omega), show max c (a - b) = c by omega]
/-- an order is laid in the model -/
def MOr (w : Wd) (f : Nat → Nat) (M : tr_M) : Prop := (∀ i, i < w.1 → M.1 12 i = nI (f i)) ∧ ∀ y, y < w.1 → M.1 13 y = nI (sf f y w.1)
theorem reachNow_eq {w : Wd} {f : Nat → Nat} {M : tr_M} (hok : WOk w) (hm : MWd w M) (hf : Ord w.1 f) (ho : MOr w f M) : mX7_reachNow M = some (nI (longN w f)) := by
  have hn := hok.1
  rw [long_iff hok hf]
  unfold mX7_reachNow
  have hmx : ∀ a k, mxf k (fun b => if 0 < w.2.1 a b then sf f a w.1 - sf f b w.1 else 0) ≤ 10 := fun a k => mxf_le.mpr fun q hq => by
    have := sf_le f a w.1
    split <;> omega
  have inner : ∀ a c, a < w.1 → c ≤ 10 → tr_loop (mX7_reachNow_l14 M (nI c, nI a)) (nI c, 0) = some (.inl (nI (max c (mxf w.1 (fun b => if 0 < w.2.1 a b then sf f a w.1 - sf f b w.1 else 0))), nI (a + 1))) := fun a c ha hc => by
    refine tr_loop_seq' (fun b => (nI (max c (mxf b (fun b => if 0 < w.2.1 a b then sf f a w.1 - sf f b w.1 else 0))), nI b)) w.1 ?_ (by omega) (fun b hb => ?_) ?_
    · show (nI (max c 0), nI 0) = _
      rw [Nat.max_zero]
      rfl
    · unfold mX7_reachNow_l14
      have h9 := hok.2.1 a b
      have h1 := sf_le f a w.1
      have h2 := sf_le f b w.1
      have h3 := hmx a b
      simp (disch := omega) only [hm.1, nlt, hb, if_true, weight_eq, hm.2.2.1, Option.bind_some, nadd1, n0lt, tr_rd_nI, ho.2 a ha, ho.2 b hb, greater_sub]
      have hs : mxf (b + 1) (fun b => if 0 < w.2.1 a b then sf f a w.1 - sf f b w.1 else 0) = max (mxf b (fun b => if 0 < w.2.1 a b then sf f a w.1 - sf f b w.1 else 0)) (if 0 < w.2.1 a b then sf f a w.1 - sf f b w.1 else 0) := rfl
      rw [hs]
      by_cases d : 0 < w.2.1 a b
      · rw [if_pos d, if_pos d, Nat.max_assoc]
      · rw [if_neg d, if_neg d, Nat.max_zero]
    · unfold mX7_reachNow_l14
      simp (disch := omega) only [hm.1, nlt, Nat.lt_irrefl, if_false, nadd1]
  have hmx2 : ∀ k, mxf k (fun a => mxf w.1 (fun b => if 0 < w.2.1 a b then sf f a w.1 - sf f b w.1 else 0)) ≤ 10 := fun k => mxf_le.mpr fun q hq => hmx q w.1
  refine tr_loop_seq' (fun a => (nI (mxf a (fun a => mxf w.1 (fun b => if 0 < w.2.1 a b then sf f a w.1 - sf f b w.1 else 0))), nI a)) w.1 rfl (by omega) (fun a ha => ?_) ?_
  · unfold mX7_reachNow_l4
    simp (disch := omega) only [hm.1, nlt, ha, if_true]
    rw [inner a _ ha (hmx2 a)]
    rfl
  · unfold mX7_reachNow_l4
    simp (disch := omega) only [hm.1, nlt, Nat.lt_irrefl, if_false]
theorem edgeOf_eq {w : Wd} {m s : Nat} {M : tr_M} (hok : WOk w) (hm : MWd w M) (hs : s < 1024) (h4 : m < 4) : mX7_edgeOf (nI m) (nI s) M = some (nI (gN w m s)) := by
  unfold mX7_edgeOf
  rw [cutOf_eq hok hm hs, heldOf_eq hok hm hs]
  rcases (show m = 0 ∨ m = 1 ∨ m = 2 ∨ m = 3 by omega) with rfl | rfl | rfl | rfl
  · rfl
  · rfl
  · rfl
  · rfl
theorem isSum_eq {m : Nat} (h : m < 5) : mX7_isSum (nI m) = if adN m = true then 1 else 0 := by
  rcases (show m = 0 ∨ m = 1 ∨ m = 2 ∨ m = 3 ∨ m = 4 by omega) with rfl | rfl | rfl | rfl | rfl <;> decide
theorem ncomb_m {m a b : Nat} (h : m < 5) (ha : a < 2147483648) (hb : b < 2147483648) : (if mX7_isSum (nI m) = 0 then mX7_greater (nI a) (nI b) else nI a + nI b) = nI (comb (adN m) a b) := by
  rw [isSum_eq h, ngreater _ _ ha hb, nadd]
  unfold comb
  cases adN m <;> rfl
theorem measureNow_eq {w : Wd} {m : Nat} {f : Nat → Nat} {M : tr_M} (hok : WOk w) (hm : MWd w M) (hf : Ord w.1 f) (ho : MOr w f M) (h4 : m ≤ 4) : mX7_measureNow (nI m) M = some (nI (msr w m f)) := by
  have hn := hok.1
  unfold mX7_measureNow msr
  by_cases e : m = 4
  · subst e
    rw [if_pos (show nI 4 = 4 from rfl), if_pos rfl, reachNow_eq hok hm hf ho]
    rfl
  · rw [if_neg (by rw [show (4 : Int32) = nI 4 from rfl, neq (by omega) (by decide)]; exact e), if_neg e]
    refine tr_loop_seq' (fun i => (nI (mres w m f i), nI (pre f i), nI i)) (w.1 - 1) rfl (by omega) (fun i hi => ?_) ?_
    · unfold mX7_measureNow_l17
      have hfi := hf.1 i (by omega)
      have hp2 := pre_lt10 hf hn (show i + 1 ≤ w.1 by omega)
      have hg := gN_le hok m (pre f (i + 1))
      have hr := mres_le hok m f i
      have hins : ins (pre f i) (f i) = pre f (i + 1) := rfl
      have hc := ncomb_m (m := m) (a := mres w m f i) (b := gN w m (pre f (i + 1))) (by omega) (by omega) (by omega)
      simp (disch := omega) only [hm.1, show (1 : Int32) = nI 1 from rfl, lt_sub, show 1 + i < w.1 by omega, if_true, tr_rd_nI, ho.1 i (by omega), Option.bind_some, nadd]
      rw [show (nI 1 : Int32) = 1 from rfl, ins_nI (by omega), hins, edgeOf_eq hok hm hp2 (by omega)]
      dsimp only [Option.bind_some]
      show _ = some (Sum.inl (nI (comb (adN m) (mres w m f i) (gN w m (pre f (i + 1)))), nI (pre f (i + 1)), nI (i + 1)))
      rw [← hc]
      by_cases q : mX7_isSum (nI m) = 0
      · rw [if_pos q, if_pos q]
      · rw [if_neg q, if_neg q]
    · unfold mX7_measureNow_l17
      simp (disch := omega) only [hm.1, show (1 : Int32) = nI 1 from rfl, lt_sub, show ¬ (1 + (w.1 - 1) < w.1) by omega, if_false]
theorem brokenNow_eq {w : Wd} {f : Nat → Nat} {M : tr_M} (hok : WOk w) (hm : MWd w M) (hf : Ord w.1 f) (ho : MOr w f M) : mX7_brokenNow M = some (brk w f) := by
  have h8 := hok.2.2.2.2.1
  unfold mX7_brokenNow
  refine loop_fst (n := w.2.2.1) (P := fun k => !w.2.2.2.2 k && !kept w.1 (w.2.2.2.1 k) f) (g := fun v => v) (by omega) (fun k hk => ?_) ?_
  · unfold mX7_brokenNow_l2
    simp (disch := omega) only [hm.2.1, nlt, hk, if_true, isKept_m hok hm hf ho.2 hk, Option.bind_some, nadd1]
    cases w.2.2.2.2 k <;> cases kept w.1 (w.2.2.2.1 k) f <;> rfl
  · unfold mX7_brokenNow_l2
    simp (disch := omega) only [hm.2.1, nlt, Nat.lt_irrefl, if_false]
