/-! ===== the class measures an order ===== -/
/-- an order stands in a row's cell -/
def HasF (M : tr_M) (c : Nat) (n : Nat) (f : Nat → Nat) : Prop := ∀ i, i < n → M.1 c i = nI (f i)
theorem n_cut {c L c' t : Nat} (h : c' + 2 * t = c + L) : nI c + (nI L - nI 2 * nI t) = nI c' := by
  rw [nmul, Int32.sub_eq_add_neg, ← Int32.add_assoc, nadd, ← h, ← nadd, Int32.add_assoc, Int32.add_right_neg, Int32.add_zero]
theorem weightAdded_eq {w : Wd} {o x s : Nat} {M : tr_M} (hok : WOk w) (hw : CWd w o M) (hx : x < 10) (hs : s < 1024) : mX5_weightAdded o (nI x) (nI s) M = some (nI (load w x) - nI 2 * nI (setN w s x)) := by
  have hn := hok.1
  unfold mX5_weightAdded
  have e := loop_sum (step := mX5_weightAdded_l5 o (nI x) (nI s) M) (n := w.1) (f := fun b => if s.testBit b = true then w.2.1 x b else 0) (g := fun a => a) 0 (by omega) (fun i c hi => by
    unfold mX5_weightAdded_l5
    simp (disch := omega) only [hw.1, nlt, hi, if_true, bit_eq0, tr_ra_nI, tr_rd_nI, Option.bind_some, hw.2.2.2.1, nadd, nadd1]
    by_cases d : s.testBit i = true
    · simp only [d, Bool.true_eq_false, if_false, if_true]
    · have d' : s.testBit i = false := by simpa using d
      simp only [d', if_true, Bool.false_eq_true, if_false, Nat.add_zero]) (fun c => by
    unfold mX5_weightAdded_l5
    simp (disch := omega) only [hw.1, nlt, Nat.lt_irrefl, if_false])
  rw [Nat.zero_add] at e
  rw [n00, e]
  simp (disch := omega) only [Option.bind_some, tr_rd_nI, hw.2.2.2.2.2.1]
  rfl
theorem across_eq {w : Wd} (hok : WOk w) {s x : Nat} (hx : x < w.1) (hs : s.testBit x = false) : nI (cutN w s) + (nI (load w x) - nI 2 * nI (setN w s x)) = nI (cutN w (ins s x)) := n_cut (cut_ins hok hx hs)
theorem heldBy_eq {w : Wd} {o s : Nat} {M : tr_M} (hok : WOk w) (hw : CWd w o M) (hs : s < 1024) : mX5_heldBy o (nI s) M = some (nI (heldN w s)) := by
  have hn := hok.1
  unfold mX5_heldBy
  have e := loop_sum (step := mX5_heldBy_l4 o (nI s) M) (n := w.1) (f := fun a => if opn w s a = true then 1 else 0) (g := fun a => a) 0 (by omega) (fun i c hi => by
    unfold mX5_heldBy_l4
    have ht := tied_lt w i
    have hle := ndf_le (tied w i) s
    simp (disch := omega) only [hw.1, nlt, hi, if_true, bit_eq0, tr_rd_nI, Option.bind_some, hw.2.2.2.2.1, ndf_nI, neq0, nadd1]
    unfold opn
    by_cases d : s.testBit i = true
    · simp only [d, Bool.true_eq_false, if_false, Bool.true_and]
      by_cases q : ndf (tied w i) s = 0
      · rw [if_pos q, (opn_tied hok i).mpr q]
        rfl
      · have q2 : al w.1 (fun b => s.testBit b || decide (w.2.1 i b = 0)) = false := by
          cases hq : al w.1 (fun b => s.testBit b || decide (w.2.1 i b = 0)) with
          | false => rfl
          | true => exact absurd ((opn_tied hok i).mp hq) q
        rw [if_neg q, q2]
        rfl
    · have d' : s.testBit i = false := by simpa using d
      simp only [d', if_true, Bool.false_and, Bool.false_eq_true, if_false, Nat.add_zero]) (fun c => by
    unfold mX5_heldBy_l4
    simp (disch := omega) only [hw.1, nlt, Nat.lt_irrefl, if_false])
  rw [Nat.zero_add] at e
  exact e
theorem nmax (a b : Nat) (ha : a < 2147483648) (hb : b < 2147483648) : mJ9_max (nI a) (nI b) = nI (max a b) := by
  unfold mJ9_max
  simp only [nlt ha hb]
  by_cases c : a < b
  · rw [if_pos c, show max a b = b by omega]
  · rw [if_neg c, show max a b = a by omega]
theorem nmin (a b : Nat) (ha : a < 2147483648) (hb : b < 2147483648) : mJ9_min (nI a) (nI b) = nI (min a b) := by
  unfold mJ9_min
  simp only [nlt hb ha]
  by_cases c : b < a
  · rw [if_pos c, show min a b = b by omega]
  · rw [if_neg c, show min a b = a by omega]
theorem pre_lt10 {n : Nat} {f : Nat → Nat} (h : Ord n f) (hn : n ≤ 10) {i : Nat} (hi : i ≤ n) : pre f i < 1024 := Nat.lt_of_lt_of_le (pre_lt h hi) (Nat.pow_le_pow_right (n := 2) (by decide) hn)
theorem measured_loop {w : Wd} {o c m : Nat} {f : Nat → Nat} {M : tr_M} (hok : WOk w) (hw : CWd w o M) (hf : Ord w.1 f) (hc : HasF M c w.1 f) (hl : w.1 ≤ tr_len shC c) (hl2 : tr_len shC c < 2147483648) (hm : m < 4) : tr_loop (mX5_measured_l22 o (nI m) c M) (0, 0, 0, 0) = some (nI (mres w m f (w.1 - 1))) := by
  have hn := hok.1
  refine tr_loop_seq' (fun i => (nI (pre f i), nI (cutN w (pre f i)), nI (mres w m f i), nI i)) (w.1 - 1) ?_ (by omega) (fun i hi => ?_) ?_
  · show (nI 0, nI (cutN w 0), nI 0, nI 0) = _
    have := gN_0 (w := w) 0
    unfold gN at this
    rw [if_pos (Or.inl rfl)] at this
    rw [this]
    rfl
  · unfold mX5_measured_l22
    have hfi := hf.1 i (by omega)
    have hp := pre_lt10 hf hn (show i ≤ w.1 by omega)
    have hp2 := pre_lt10 hf hn (show i + 1 ≤ w.1 by omega)
    have hnew := pre_new hf (show i < w.1 by omega)
    have hc1 := cutN_le hok (pre f (i + 1))
    have hh1 := heldN_le hok (pre f (i + 1))
    have hr1 := mres_le hok m f i
    have hi2 : i + 1 < w.1 := by omega
    have hins : ins (pre f i) (f i) = pre f (i + 1) := rfl
    simp (disch := omega) only [hw.1, nadd1, nlt, hi2, if_true, tr_rd_nI, hc i (by omega), Option.bind_some, weightAdded_eq hok hw, across_eq hok hfi hnew, ins_nI, hins, heldBy_eq hok hw hp2]
    rcases (show m = 0 ∨ m = 1 ∨ m = 2 ∨ m = 3 by omega) with rfl | rfl | rfl | rfl
    · simp only [if_pos (show nI 0 = 0 from rfl), Option.bind_some, tr_el, nadd, nadd1]
      rfl
    · simp only [if_neg (show ¬ nI 1 = 0 by decide), if_pos (show nI 1 = 1 from rfl), if_neg (show ¬ nI 1 = 3 by decide), Option.bind_some, tr_el]
      rw [nmax _ _ (by omega) (by omega)]
      rfl
    · simp only [if_neg (show ¬ nI 2 = 0 by decide), if_neg (show ¬ nI 2 = 1 by decide), if_neg (show ¬ nI 2 = 3 by decide), Option.bind_some, tr_el]
      rw [nmax _ _ (by omega) (by omega)]
      rfl
    · simp only [if_neg (show ¬ nI 3 = 0 by decide), if_neg (show ¬ nI 3 = 1 by decide), if_pos (show nI 3 = 3 from rfl), Option.bind_some, tr_el, nadd, nadd1]
      rfl
  · unfold mX5_measured_l22
    simp (disch := omega) only [hw.1, nadd1, nlt, show ¬ (w.1 - 1 + 1 < w.1) by omega, if_false]
theorem longest_eq {w : Wd} {o c : Nat} {f : Nat → Nat} {M : tr_M} (hok : WOk w) (hw : CWd w o M) (hf : Ord w.1 f) (hc : HasF M c w.1 f) (hl : w.1 ≤ tr_len shC c) (hl2 : tr_len shC c < 2147483648) : mX5_longest o c M = some (nI (longN w f)) := by
  have hn := hok.1
  unfold mX5_longest
  -- the inner loop
  have inner : ∀ i a, i < w.1 → a ≤ w.1 → tr_loop (mX5_longest_l17 o c M (nI a, nI i)) (nI a, nI i + 1) = some (.inl (nI (max a (mxf w.1 (fun j => if 0 < w.2.1 (f i) (f j) then j - i else 0))), nI (i + 1))) := fun i a hi ha => by
    have key : ∀ j, (∀ q, q < w.1 → (if 0 < w.2.1 (f i) (f q) then q - i else 0) ≤ w.1) := fun j q hq => by split <;> omega
    have hmx : ∀ k, mxf k (fun j => if 0 < w.2.1 (f i) (f j) then j - i else 0) ≤ k := fun k => mxf_le.mpr fun q hq => by split <;> omega
    have e := tr_loop_seq' (step := mX5_longest_l17 o c M (nI a, nI i)) (r := .inl (nI (max a (mxf w.1 (fun j => if 0 < w.2.1 (f i) (f j) then j - i else 0))), nI (i + 1))) (s0 := (nI a, nI (i + 1))) (fun t => (nI (max a (mxf (i + 1 + t) (fun j => if 0 < w.2.1 (f i) (f j) then j - i else 0))), nI (i + 1 + t))) (w.1 - (i + 1)) (by
      have h0 : mxf (i + 1) (fun j => if 0 < w.2.1 (f i) (f j) then j - i else 0) ≤ 0 := mxf_le.mpr fun q hq => by split <;> omega
      show (nI (max a (mxf (i + 1 + 0) _)), nI (i + 1 + 0)) = _
      rw [Nat.add_zero, show max a (mxf (i + 1) (fun j => if 0 < w.2.1 (f i) (f j) then j - i else 0)) = a by omega]) (by omega) (fun t ht => by
      unfold mX5_longest_l17
      have hfi := hf.1 i hi
      have hfj := hf.1 (i + 1 + t) (by omega)
      have h9 := hok.2.1 (f i) (f (i + 1 + t))
      have hm1 := hmx (i + 1 + t)
      simp (disch := omega) only [hw.1, nlt, show i + 1 + t < w.1 by omega, if_true, tr_rd_nI, hc i (by omega), hc (i + 1 + t) (by omega), Option.bind_some, tr_ra_nI, hw.2.2.2.1, n0lt, nadd1, nsub, nmax]
      have hsucc : mxf (i + 1 + t + 1) (fun j => if 0 < w.2.1 (f i) (f j) then j - i else 0) = max (mxf (i + 1 + t) (fun j => if 0 < w.2.1 (f i) (f j) then j - i else 0)) (if 0 < w.2.1 (f i) (f (i + 1 + t)) then i + 1 + t - i else 0) := rfl
      rw [show i + 1 + (t + 1) = i + 1 + t + 1 by omega, hsucc]
      by_cases d : 0 < w.2.1 (f i) (f (i + 1 + t))
      · rw [if_pos d, if_pos d, Nat.max_assoc]
      · rw [if_neg d, if_neg d, Nat.max_zero]) (by
      unfold mX5_longest_l17
      rw [show i + 1 + (w.1 - (i + 1)) = w.1 by omega]
      simp (disch := omega) only [hw.1, nlt, Nat.lt_irrefl, if_false, nadd1])
    rw [nadd1]
    exact e
  have hmx2 : ∀ k, mxf k (fun i => mxf w.1 (fun j => if 0 < w.2.1 (f i) (f j) then j - i else 0)) ≤ w.1 := fun k => mxf_le.mpr fun q hq => mxf_le.mpr fun z hz => by split <;> omega
  refine tr_loop_seq' (fun i => (nI (mxf i (fun i => mxf w.1 (fun j => if 0 < w.2.1 (f i) (f j) then j - i else 0))), nI i)) w.1 rfl (by omega) (fun i hi => ?_) ?_
  · unfold mX5_longest_l4
    simp (disch := omega) only [hw.1, nlt, hi, if_true]
    rw [inner i _ hi (hmx2 i)]
    rfl
  · unfold mX5_longest_l4
    simp (disch := omega) only [hw.1, nlt, Nat.lt_irrefl, if_false]
    rfl
theorem measured_eq {w : Wd} {o c m : Nat} {f : Nat → Nat} {M : tr_M} (hok : WOk w) (hw : CWd w o M) (hf : Ord w.1 f) (hc : HasF M c w.1 f) (hl : w.1 ≤ tr_len shC c) (hl2 : tr_len shC c < 2147483648) (hm : m ≤ 4) : mX5_measured o (nI m) c M = some (nI (msr w m f)) := by
  unfold mX5_measured msr
  by_cases e : m = 4
  · subst e
    rw [if_pos (show nI 4 = 4 from rfl), if_pos rfl, longest_eq hok hw hf hc hl hl2]
    rfl
  · rw [if_neg (by rw [show (4 : Int32) = nI 4 from rfl, neq (by omega) (by decide)]; exact e), if_neg e]
    exact measured_loop hok hw hf hc hl hl2 (by omega)
/-- seats -/
def sa (f : Nat → Nat) (b : Nat → Int32) : Nat → Nat → Int32
  | 0 => b
  | i + 1 => fun y => if y = f i then nI i else sa f b i y
theorem sa_in {f : Nat → Nat} {b : Nat → Int32} {y : Nat} : ∀ {i : Nat}, (∃ j, j < i ∧ f j = y) → sa f b i y = nI (sf f y i)
  | 0, h => by obtain ⟨j, h, _⟩ := h; omega
  | i + 1, h => by
    show (if y = f i then nI i else sa f b i y) = nI (if f i = y then i else sf f y i)
    by_cases c : f i = y
    · rw [if_pos c.symm, if_pos c]
    · rw [if_neg (fun q => c q.symm), if_neg c]
      obtain ⟨j, h1, h2⟩ := h
      have : j ≠ i := fun e => c (by rw [← e]; exact h2)
      exact sa_in ⟨j, by omega, h2⟩
theorem sa_ord {n : Nat} {f : Nat → Nat} (h : Ord n f) {b : Nat → Int32} {y : Nat} (hy : y < n) : sa f b n y = nI (sf f y n) := sa_in ⟨_, (sf_ord h hy).2, (sf_ord h hy).1⟩
theorem seatsOf_eq {w : Wd} {o c d : Nat} {f : Nat → Nat} {M : tr_M} (hok : WOk w) (hw : M.1 o 0 = nI w.1) (hf : Ord w.1 f) (hc : HasF M c w.1 f) (hl : w.1 ≤ tr_len shC c) (hl2 : tr_len shC c < 2147483648) (hd : tr_len shC d = 10) (hcd : c ≠ d) (hod : o ≠ d) : mX5_seatsOf o c d M = some (tr_row M d (sa f (M.1 d) w.1)) := by
  have hn := hok.1
  unfold mX5_seatsOf
  refine tr_loop_seq' (fun i => (nI i, tr_row M d (sa f (M.1 d) i))) w.1 ?_ (by omega) (fun i hi => ?_) ?_
  · show (nI 0, tr_row M d (M.1 d)) = _
    rw [tr_row_id rfl]
    rfl
  · unfold mX5_seatsOf_l2
    have hfi := hf.1 i hi
    rw [hd]
    simp (disch := omega) only [tr_row_ne, hw, nlt, hi, if_true, tr_rd_nI, hc i hi, Option.bind_some, tr_wr_nI, tr_row_st, nadd1]
    rfl
  · unfold mX5_seatsOf_l2
    simp (disch := omega) only [tr_row_ne, hw, nlt, Nat.lt_irrefl, if_false]
/-- the first of some -/
def fstk (P : Nat → Bool) : Nat → Nat → Int32
  | _, 0 => -9
  | i, k + 1 => if P i = true then nI i else fstk P (i + 1) k
theorem fstk_none {P : Nat → Bool} : ∀ {k i : Nat}, (∀ j, i ≤ j → j < i + k → P j = false) → fstk P i k = -9
  | 0, _, _ => rfl
  | k + 1, i, h => by
    show (if P i = true then nI i else fstk P (i + 1) k) = -9
    rw [h i (by omega) (by omega)]
    exact fstk_none fun j h1 h2 => h j (by omega) (by omega)
theorem fstk_some {P : Nat → Bool} : ∀ {k i : Nat}, (∃ j, i ≤ j ∧ j < i + k ∧ P j = true) → ∃ j, i ≤ j ∧ j < i + k ∧ fstk P i k = nI j
  | 0, i, h => by obtain ⟨j, h1, h2, _⟩ := h; omega
  | k + 1, i, h => by
    show ∃ j, i ≤ j ∧ j < i + (k + 1) ∧ (if P i = true then nI i else fstk P (i + 1) k) = nI j
    by_cases c : P i = true
    · rw [if_pos c]; exact ⟨i, by omega, by omega, rfl⟩
    · rw [if_neg c]
      obtain ⟨j, h1, h2, h3⟩ := h
      have : j ≠ i := fun e => c (by rw [← e]; exact h3)
      obtain ⟨q, h4, h5, h6⟩ := fstk_some (P := P) (k := k) (i := i + 1) ⟨j, by omega, by omega, h3⟩
      exact ⟨q, by omega, by omega, h6⟩
theorem loop_fst {ρ : Type} {step : Int32 → Option (Int32 ⊕ ρ)} {n : Nat} {P : Nat → Bool} {g : Int32 → ρ} (hn : n < 4294967296) (h : ∀ i, i < n → step (nI i) = if P i = true then some (.inr (g (nI i))) else some (.inl (nI (i + 1)))) (he : step (nI n) = some (.inr (g (-9)))) : tr_loop step (nI 0) = some (g (fstk P 0 n)) := by
  have key : ∀ k i, i + k = n → tr_it step (k + 1) (nI i) = some (g (fstk P i k)) := by
    intro k
    induction k with
    | zero =>
      intro i hi
      have : i = n := by omega
      subst this
      exact tr_it_r he
    | succ k ih =>
      intro i hi
      have h1 := h i (by omega)
      by_cases c : P i = true
      · rw [if_pos c] at h1
        rw [tr_it_r h1]
        show _ = some (g (if P i = true then nI i else fstk P (i + 1) k))
        rw [if_pos c]
      · rw [if_neg c] at h1
        rw [tr_it_l h1, ih (i + 1) (by omega)]
        show _ = some (g (if P i = true then nI i else fstk P (i + 1) k))
        rw [if_neg c]
  exact tr_loop_of (key n 0 (by omega)) (by omega)
/-- the first rule that is broken -/
def brk (w : Wd) (f : Nat → Nat) : Int32 := fstk (fun k => !w.2.2.2.2 k && !kept w.1 (w.2.2.2.1 k) f) 0 w.2.2.1
theorem brk_none {w : Wd} {f : Nat → Nat} (hok : WOk w) : brk w f = -9 ↔ okf w none f = true := by
  have h8 := hok.2.2.2.2.1
  unfold brk okf
  rw [Bool.and_eq_true, al_iff]
  constructor
  · intro h
    refine ⟨fun k hk => ?_, rfl⟩
    cases c : (w.2.2.2.2 k || kept w.1 (w.2.2.2.1 k) f) with
    | true => rfl
    | false =>
      exfalso
      rw [Bool.or_eq_false_iff] at c
      obtain ⟨j, h1, h2, h3⟩ := fstk_some (P := fun k => !w.2.2.2.2 k && !kept w.1 (w.2.2.2.1 k) f) (k := w.2.2.1) (i := 0) ⟨k, by omega, by omega, by simp [c.1, c.2]⟩
      rw [h3] at h
      have := nI_pos (n := j) (by omega)
      rw [h] at this
      exact this (by decide)
  · rintro ⟨h, -⟩
    refine fstk_none fun j _ hj => ?_
    have := h j (by omega)
    cases c : w.2.2.2.2 j with
    | true => rfl
    | false =>
      rw [c] at this
      have this : kept w.1 (w.2.2.2.1 j) f = true := this
      simp [this]
