/-! ===== what is across, held, far ===== -/
def mxf : Nat → (Nat → Nat) → Nat
  | 0, _ => 0
  | n + 1, f => max (mxf n f) (f n)
theorem mxf_le {f : Nat → Nat} {c : Nat} : ∀ {n : Nat}, mxf n f ≤ c ↔ ∀ i, i < n → f i ≤ c
  | 0 => ⟨fun _ i hi => by omega, fun _ => Nat.zero_le _⟩
  | n + 1 => by
    show max (mxf n f) (f n) ≤ c ↔ _
    have ih := mxf_le (f := f) (c := c) (n := n)
    constructor
    · intro h i hi
      by_cases e : i = n
      · subst e; omega
      · exact ih.mp (by omega) i (by omega)
    · intro h
      have h1 := ih.mpr fun i hi => h i (by omega)
      have h2 := h n (by omega)
      omega
theorem mxf_congr {f g : Nat → Nat} : ∀ {n : Nat}, (∀ i, i < n → f i = g i) → mxf n f = mxf n g
  | 0, _ => rfl
  | n + 1, h => by
    show max (mxf n f) (f n) = max (mxf n g) (g n)
    rw [mxf_congr (fun i hi => h i (by omega)), h n (by omega)]
def rowN (w : Wd) (s a : Nat) : Nat := sm w.1 (fun b => if s.testBit b = true then 0 else w.2.1 a b)
def setN (w : Wd) (s a : Nat) : Nat := sm w.1 (fun b => if s.testBit b = true then w.2.1 a b else 0)
def cutN (w : Wd) (s : Nat) : Nat := sm w.1 (fun a => if s.testBit a = true then rowN w s a else 0)
theorem cut_ins {w : Wd} (h : WOk w) {s x : Nat} (hx : x < w.1) (hs : s.testBit x = false) : cutN w (ins s x) + 2 * setN w s x = cutN w s + load w x := by
  have hR : ∀ a, rowN w (ins s x) a + w.2.1 a x = rowN w s a := fun a => by
    unfold rowN
    have e := sm_up (f := fun b => if s.testBit b = true then 0 else w.2.1 a b) (b := x) (v := 0) hx
    simp only [hs, Bool.false_eq_true, if_false, Nat.add_zero] at e
    rw [← e]
    congr 1
    refine sm_congr fun b hb => ?_
    rw [ins_bit]
    by_cases c : b = x
    · subst c; simp
    · simp [c, show ¬ x = b from fun q => c q.symm]
  have hxx : w.2.1 x x = 0 := h.2.2.2.1 x x (Or.inr rfl)
  have e1 : sm w.1 (fun a => (if s.testBit a = true then rowN w (ins s x) a else 0) + (if s.testBit a = true then w.2.1 a x else 0)) = cutN w s := by
    unfold cutN
    refine sm_congr fun a ha => ?_
    by_cases c : s.testBit a = true
    · simp only [if_pos c]; exact hR a
    · simp only [if_neg c]
  rw [sm_add] at e1
  have e2 : sm w.1 (fun a => if s.testBit a = true then w.2.1 a x else 0) = setN w s x := by
    unfold setN
    exact sm_congr fun a ha => by rw [h.2.2.1 a x]
  have e3 := sm_up (f := fun a => if s.testBit a = true then rowN w (ins s x) a else 0) (b := x) (v := rowN w s x) hx
  simp only [hs, Bool.false_eq_true, if_false, Nat.add_zero] at e3
  have e4 : sm w.1 (fun y => if y = x then rowN w s x else if s.testBit y = true then rowN w (ins s x) y else 0) = cutN w (ins s x) := by
    unfold cutN
    refine sm_congr fun a ha => ?_
    rw [ins_bit]
    by_cases c : a = x
    · subst c
      have := hR a
      rw [hxx] at this
      simp only [if_true, decide_true, Bool.or_true]
      omega
    · rw [if_neg c]
      simp only [show ¬ x = a from fun q => c q.symm, decide_false, Bool.or_false]
  have e5 : load w x = rowN w s x + setN w s x := by
    rw [load_sm h]
    unfold rowN setN
    rw [← sm_add]
    refine sm_congr fun b hb => ?_
    by_cases c : s.testBit b = true
    · simp only [if_pos c]; omega
    · simp only [if_neg c]; omega
  rw [e4] at e3
  rw [e2] at e1
  omega
def opn (w : Wd) (s a : Nat) : Bool := s.testBit a && !al w.1 (fun b => s.testBit b || decide (w.2.1 a b = 0))
def heldN (w : Wd) (s : Nat) : Nat := sm w.1 (fun a => if opn w s a = true then 1 else 0)
theorem opn_tied {w : Wd} (h : WOk w) {s : Nat} (a : Nat) : al w.1 (fun b => s.testBit b || decide (w.2.1 a b = 0)) = true ↔ ndf (tied w a) s = 0 := by
  rw [al_iff]
  constructor
  · intro H
    refine Nat.eq_of_testBit_eq fun i => ?_
    rw [ndf_bit, tied_bit, Nat.zero_testBit]
    by_cases c : i < w.1
    · have := H i c
      by_cases d : s.testBit i = true
      · simp [d]
      · have d' : s.testBit i = false := by simpa using d
        rw [d'] at this
        simp only [Bool.false_or, decide_eq_true_eq] at this
        simp [this]
    · simp [W_hi h (show w.1 ≤ i by omega)]
  · intro H i hi
    have := congrArg (fun q => q.testBit i) H
    simp only [ndf_bit, tied_bit, Nat.zero_testBit] at this
    have h10 : i < 10 := by have := h.1; omega
    by_cases d : s.testBit i = true
    · simp [d]
    · have d' : s.testBit i = false := by simpa using d
      rw [d'] at this
      simp only [h10, decide_true, Bool.true_and, Bool.not_false, Bool.and_true, decide_eq_false_iff_not] at this
      simp only [d', Bool.false_or, decide_eq_true_eq]
      omega
/-- what a gap behind a set costs -/
def gN (w : Wd) (m s : Nat) : Nat := if m = 0 ∨ m = 1 then cutN w s else if m = 2 ∨ m = 3 then heldN w s else 0
def adN (m : Nat) : Bool := decide (m = 0 ∨ m = 3)
def mres (w : Wd) (m : Nat) (f : Nat → Nat) : Nat → Nat
  | 0 => 0
  | i + 1 => comb (adN m) (mres w m f i) (gN w m (pre f (i + 1)))
def longN (w : Wd) (f : Nat → Nat) : Nat := mxf w.1 (fun i => mxf w.1 (fun j => if 0 < w.2.1 (f i) (f j) then j - i else 0))
def msr (w : Wd) (m : Nat) (f : Nat → Nat) : Nat := if m = 4 then longN w f else mres w m f (w.1 - 1)
theorem rowN_le {w : Wd} (h : WOk w) (s a : Nat) : rowN w s a ≤ 90 := by
  have h1 := h.1
  have : rowN w s a ≤ w.1 * 9 := sm_le fun b hb => by
    have := h.2.1 a b
    by_cases c : s.testBit b = true
    · simp only [if_pos c]; omega
    · simp only [if_neg c]; omega
  omega
theorem cutN_le {w : Wd} (h : WOk w) (s : Nat) : cutN w s ≤ 900 := by
  have h1 := h.1
  have : cutN w s ≤ w.1 * 90 := sm_le fun a ha => by
    have := rowN_le h s a
    by_cases c : s.testBit a = true
    · simp only [if_pos c]; omega
    · simp only [if_neg c]; omega
  omega
theorem heldN_le {w : Wd} (h : WOk w) (s : Nat) : heldN w s ≤ 10 := by
  have h1 := h.1
  have : heldN w s ≤ w.1 * 1 := sm_le fun a ha => by
    by_cases c : opn w s a = true
    · simp only [if_pos c]; omega
    · simp only [if_neg c]; omega
  omega
theorem gN_le {w : Wd} (h : WOk w) (m s : Nat) : gN w m s ≤ 1000 := by
  unfold gN
  have h1 := cutN_le h s
  have h2 := heldN_le h s
  split
  · omega
  · split
    · omega
    · omega
theorem gN_full {w : Wd} (m : Nat) {s : Nat} (hs : ∀ i, i < w.1 → s.testBit i = true) : gN w m s = 0 := by
  unfold gN
  have h1 : cutN w s = 0 := by
    unfold cutN
    rw [sm_congr (g := fun _ => 0), sm_0]
    intro a ha
    rw [if_pos (hs a ha)]
    unfold rowN
    rw [sm_congr (g := fun _ => 0), sm_0]
    intro b hb
    rw [if_pos (hs b hb)]
  have h2 : heldN w s = 0 := by
    unfold heldN
    rw [sm_congr (g := fun _ => 0), sm_0]
    intro a ha
    rw [if_neg]
    unfold opn
    rw [al_iff.mpr (fun b hb => by rw [hs b hb]; rfl)]
    simp
  rw [h1, h2]
  split
  · rfl
  · split <;> rfl
theorem gN_0 {w : Wd} (m : Nat) : gN w m 0 = 0 := by
  unfold gN
  have h1 : cutN w 0 = 0 := by
    unfold cutN
    rw [sm_congr (g := fun _ => 0), sm_0]
    intro a ha
    rw [Nat.zero_testBit]
    rfl
  have h2 : heldN w 0 = 0 := by
    unfold heldN
    rw [sm_congr (g := fun _ => 0), sm_0]
    intro a ha
    unfold opn
    rw [Nat.zero_testBit]
    rfl
  rw [h1, h2]
  split
  · rfl
  · split <;> rfl
theorem comb_assoc {ad : Bool} {a b c : Nat} : comb ad a (comb ad b c) = comb ad (comb ad a b) c := by
  unfold comb
  cases ad
  · simp only [Bool.false_eq_true, if_false]; omega
  · simp only [if_true]; omega
theorem comb_0 {ad : Bool} {a : Nat} : comb ad a 0 = a := by
  unfold comb
  cases ad
  · simp only [Bool.false_eq_true, if_false]; omega
  · simp only [if_true]; omega
theorem comb_0l {ad : Bool} {a : Nat} : comb ad 0 a = a := by
  unfold comb
  cases ad
  · simp only [Bool.false_eq_true, if_false]; omega
  · simp only [if_true]; omega
theorem mres_cost (w : Wd) (m : Nat) (f : Nat → Nat) : ∀ k i, comb (adN m) (mres w m f i) (cost (adN m) (gN w m) (pre f i) (seg f i k)) = mres w m f (i + k)
  | 0, i => comb_0
  | k + 1, i => by
    show comb (adN m) (mres w m f i) (comb (adN m) (gN w m (ins (pre f i) (f i))) (cost (adN m) (gN w m) (ins (pre f i) (f i)) (seg f (i + 1) k))) = _
    rw [comb_assoc]
    have ih := mres_cost w m f k (i + 1)
    rw [show i + (k + 1) = i + 1 + k by omega, ← ih]
    rfl
theorem cost_msr {w : Wd} {m : Nat} {f : Nat → Nat} (hf : Ord w.1 f) : cost (adN m) (gN w m) 0 (seg f 0 w.1) = mres w m f (w.1 - 1) := by
  have h := mres_cost w m f w.1 0
  rw [show mres w m f 0 = 0 from rfl, comb_0l, Nat.zero_add] at h
  rw [show pre f 0 = 0 from rfl] at h
  rw [h]
  cases hn : w.1 with
  | zero => rfl
  | succ n =>
    show comb (adN m) (mres w m f n) (gN w m (pre f (n + 1))) = mres w m f (n + 1 - 1)
    rw [gN_full m, comb_0]
    · rfl
    · intro i hi
      rw [hn] at hi hf
      exact cnt_full (pre_cnt hf (Nat.le_refl _) (Nat.le_refl _)) i hi
theorem mres_le {w : Wd} (h : WOk w) (m : Nat) (f : Nat → Nat) : ∀ i, mres w m f i ≤ 1000 * i
  | 0 => Nat.le_refl _
  | i + 1 => by
    have h1 := mres_le h m f i
    have h2 := gN_le h m (pre f (i + 1))
    have h3 : comb (adN m) (mres w m f i) (gN w m (pre f (i + 1))) ≤ _ := comb_le
    show comb (adN m) (mres w m f i) (gN w m (pre f (i + 1))) ≤ _
    omega
theorem longN_le (w : Wd) (f : Nat → Nat) : longN w f ≤ w.1 := by
  unfold longN
  rw [mxf_le]
  intro i hi
  rw [mxf_le]
  intro j hj
  split
  · omega
  · omega
theorem msr_le {w : Wd} (h : WOk w) (m : Nat) (f : Nat → Nat) : msr w m f ≤ 10000 := by
  have h1 := h.1
  unfold msr
  split
  · have := longN_le w f; omega
  · have := mres_le h m f (w.1 - 1)
    omega
/-- by things, as the model has it -/
theorem long_iff {w : Wd} (h : WOk w) {f : Nat → Nat} (hf : Ord w.1 f) : longN w f = mxf w.1 (fun a => mxf w.1 (fun b => if 0 < w.2.1 a b then sf f a w.1 - sf f b w.1 else 0)) := by
  refine Nat.le_antisymm ?_ ?_
  · unfold longN
    rw [mxf_le]
    intro i hi
    rw [mxf_le]
    intro j hj
    split
    · rename_i hW
      have hm := mxf_le.mp (Nat.le_refl (mxf w.1 (fun a => mxf w.1 (fun b => if 0 < w.2.1 a b then sf f a w.1 - sf f b w.1 else 0)))) (f j) (hf.1 j hj)
      have hm2 := mxf_le.mp hm (f i) (hf.1 i hi)
      rw [h.2.2.1] at hW
      rw [if_pos hW, ← (sf_iff hf (hf.1 j hj) hj).mp rfl, ← (sf_iff hf (hf.1 i hi) hi).mp rfl] at hm2
      exact hm2
    · exact Nat.zero_le _
  · rw [mxf_le]
    intro a ha
    rw [mxf_le]
    intro b hb
    split
    · rename_i hW
      obtain ⟨a1, a2⟩ := sf_ord hf ha
      obtain ⟨b1, b2⟩ := sf_ord hf hb
      have hm := mxf_le.mp (Nat.le_refl (longN w f)) (sf f b w.1) b2
      have hm2 := mxf_le.mp hm (sf f a w.1) a2
      rw [a1, b1, h.2.2.1, if_pos hW] at hm2
      exact hm2
    · exact Nat.zero_le _
