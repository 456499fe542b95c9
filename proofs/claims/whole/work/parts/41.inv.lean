/-! ===== what ties the two sides ===== -/
/-- sums and sets of places below n -/
def sm : Nat → (Nat → Nat) → Nat
  | 0, _ => 0
  | n + 1, f => sm n f + f n
def mkb : Nat → (Nat → Bool) → Nat
  | 0, _ => 0
  | n + 1, f => mkb n f ||| (if f n = true then 2 ^ n else 0)
theorem mkb_bit (f : Nat → Bool) : ∀ n i, (mkb n f).testBit i = (decide (i < n) && f i)
  | 0, i => by simp [mkb]
  | n + 1, i => by
    unfold mkb
    rw [Nat.testBit_or, mkb_bit f n i]
    by_cases hi : i = n
    · subst hi
      by_cases hf : f i = true
      · simp [hf, Nat.testBit_two_pow_self]
      · simp [hf]
    · by_cases hf : f n = true
      · rw [if_pos hf, Nat.testBit_two_pow_of_ne (fun e => hi e.symm)]
        by_cases h2 : i < n
        · simp [h2, show i < n + 1 by omega]
        · simp [h2, show ¬ i < n + 1 by omega]
      · rw [if_neg hf, Nat.zero_testBit]
        by_cases h2 : i < n
        · simp [h2, show i < n + 1 by omega]
        · simp [h2, show ¬ i < n + 1 by omega]
theorem mkb_lt (f : Nat → Bool) (n : Nat) : mkb n f < 2 ^ n := by
  refine Nat.lt_pow_two_of_testBit _ (fun i hi => ?_)
  rw [mkb_bit]
  simp [show ¬ i < n by omega]
theorem mkb_eq {s n : Nat} (h : s < 2 ^ n) : mkb n s.testBit = s := by
  refine Nat.eq_of_testBit_eq (fun i => ?_)
  rw [mkb_bit]
  by_cases hi : i < n
  · simp [hi]
  · have := Nat.testBit_lt_two_pow (Nat.lt_of_lt_of_le h (Nat.pow_le_pow_right (by decide) (show n ≤ i by omega)))
    simp [hi, this]
theorem mkb_ext {n : Nat} {f : Nat → Bool} {s : Nat} (h : s < 2 ^ n) (hs : ∀ i, i < n → s.testBit i = f i) : s = mkb n f := by
  refine Nat.eq_of_testBit_eq (fun i => ?_)
  rw [mkb_bit]
  by_cases hi : i < n
  · simp [hi, hs i hi]
  · have := Nat.testBit_lt_two_pow (Nat.lt_of_lt_of_le h (Nat.pow_le_pow_right (by decide) (show n ≤ i by omega)))
    simp [hi, this]
theorem sm_congr {f g : Nat → Nat} : ∀ {n : Nat}, (∀ i, i < n → f i = g i) → sm n f = sm n g
  | 0, _ => rfl
  | n + 1, h => by
    unfold sm
    rw [sm_congr (fun i hi => h i (by omega)), h n (by omega)]
theorem mkb_congr {f g : Nat → Bool} : ∀ {n : Nat}, (∀ i, i < n → f i = g i) → mkb n f = mkb n g
  | 0, _ => rfl
  | n + 1, h => by
    unfold mkb
    rw [mkb_congr (fun i hi => h i (by omega)), h n (by omega)]
/-- a world: how many things, weights, how many rules, the rules (kind, x, y, z), which are off -/
abbrev Wd : Type := Nat × (Nat → Nat → Nat) × Nat × (Nat → Nat × Nat × Nat × Nat) × (Nat → Bool)
def ruleOk (n : Nat) (r : Nat × Nat × Nat × Nat) : Prop :=
  (r.1 = 0 ∧ r.2.1 = 0 ∧ r.2.2.1 = 0 ∧ r.2.2.2 = 0) ∨ ((r.1 = 1 ∨ r.1 = 2 ∨ r.1 = 5) ∧ r.2.1 < n ∧ r.2.2.1 < n ∧ r.2.1 ≠ r.2.2.1 ∧ r.2.2.2 = 0) ∨ ((r.1 = 3 ∨ r.1 = 4) ∧ r.2.1 < n ∧ r.2.2.1 ≤ 9 ∧ r.2.2.2 = 0) ∨ (r.1 = 6 ∧ r.2.1 < n ∧ r.2.2.1 < n ∧ r.2.2.2 < n ∧ r.2.1 ≠ r.2.2.1 ∧ r.2.1 ≠ r.2.2.2 ∧ r.2.2.1 ≠ r.2.2.2)
def WOk (w : Wd) : Prop := w.1 ≤ 10 ∧ (∀ a b, w.2.1 a b ≤ 9) ∧ (∀ a b, w.2.1 a b = w.2.1 b a) ∧ (∀ a b, w.1 ≤ a ∨ a = b → w.2.1 a b = 0) ∧ w.2.2.1 ≤ 8 ∧ (∀ k, k < w.2.2.1 → ruleOk w.1 (w.2.2.2.1 k)) ∧ (∀ k, w.2.2.1 ≤ k → w.2.2.2.2 k = false)
/-- those a thing is tied to -/
def tied (w : Wd) (a : Nat) : Nat := mkb 10 (fun b => decide (0 < w.2.1 a b))
def load (w : Wd) (a : Nat) : Nat := sm 10 (w.2.1 a)
def obits (w : Wd) : Nat := mkb 8 w.2.2.2.2
/-- the class's world at the cells from o on -/
def CWd (w : Wd) (o : Nat) (M : tr_M) : Prop := M.1 o 0 = nI w.1 ∧ M.1 o 1 = nI w.2.2.1 ∧ M.1 o 2 = nI (obits w) ∧ (∀ a b, a < 10 → b < 10 → M.1 (o + 2 + a) b = nI (w.2.1 a b)) ∧ (∀ a, a < 10 → M.1 (o + 12) a = nI (tied w a)) ∧ (∀ a, a < 10 → M.1 (o + 13) a = nI (load w a)) ∧ (∀ k, k < w.2.2.1 → M.1 (o + 14) k = nI (w.2.2.2.1 k).1 ∧ M.1 (o + 15) k = nI (w.2.2.2.1 k).2.1 ∧ M.1 (o + 16) k = nI (w.2.2.2.1 k).2.2.1 ∧ M.1 (o + 17) k = nI (w.2.2.2.1 k).2.2.2)
theorem CWd.congr {w : Wd} {o : Nat} {M M' : tr_M} (h : CWd w o M) (hM : ∀ b, o ≤ b → b ≤ o + 17 → M'.1 b = M.1 b) : CWd w o M' := by
  obtain ⟨h1, h2, h3, h4, h5, h6, h7⟩ := h
  refine ⟨?_, ?_, ?_, fun a b ha hb => ?_, fun a ha => ?_, fun a ha => ?_, fun k hk => ?_⟩
  · rw [hM o (by omega) (by omega)]; exact h1
  · rw [hM o (by omega) (by omega)]; exact h2
  · rw [hM o (by omega) (by omega)]; exact h3
  · rw [hM (o + 2 + a) (by omega) (by omega)]; exact h4 a b ha hb
  · rw [hM (o + 12) (by omega) (by omega)]; exact h5 a ha
  · rw [hM (o + 13) (by omega) (by omega)]; exact h6 a ha
  · rw [hM (o + 14) (by omega) (by omega), hM (o + 15) (by omega) (by omega), hM (o + 16) (by omega) (by omega), hM (o + 17) (by omega) (by omega)]; exact h7 k hk
/-- the model's world -/
def MWd (w : Wd) (M : tr_M) : Prop := M.1 1 10 = nI w.1 ∧ M.1 1 12 = nI w.2.2.1 ∧ (∀ a b, a < 10 → b < 10 → M.1 8 (10 * a + b) = nI (w.2.1 a b)) ∧ (∀ k, k < w.2.2.1 → M.1 9 (5 * k) = nI (w.2.2.2.1 k).1 ∧ M.1 9 (5 * k + 1) = nI (w.2.2.2.1 k).2.1 ∧ M.1 9 (5 * k + 2) = nI (w.2.2.2.1 k).2.2.1 ∧ M.1 9 (5 * k + 3) = nI (w.2.2.2.1 k).2.2.2 ∧ M.1 9 (5 * k + 4) = if w.2.2.2.2 k = true then 1 else 0)
theorem MWd.congr {w : Wd} {M M' : tr_M} (h : MWd w M) (h1 : M'.1 1 10 = M.1 1 10) (h2 : M'.1 1 12 = M.1 1 12) (h8 : M'.1 8 = M.1 8) (h9 : M'.1 9 = M.1 9) : MWd w M' := by
  unfold MWd
  rw [h1, h2, h8, h9]
  exact h
/-- a row of both sides: missing, or of a size, with what stands within it -/
def IRow (a b : Int32) (n : Nat) (P : Nat → Prop) : Prop := (a = -1 ∧ b = -1) ∨ ∃ s, s ≤ n ∧ a = nI s ∧ b = nI s ∧ ∀ i, i < s → P i
def IRows (M1 M2 : tr_M) : Prop := ∀ r, r < 6 → IRow (M1.1 (62 + 2 * r) 1) (M2.1 3 r) 60 (fun i => M1.1 (63 + 2 * r) i = M2.1 4 (60 * r + i))
def ITexts (M1 M2 : tr_M) : Prop := ∀ t, t < 4 → IRow (M1.1 (74 + 2 * t) 1) (M2.1 6 t) 120 (fun i => M1.1 (75 + 2 * t) i = M2.1 7 (120 * t + i))
/-- findings, asked, the fraction -/
def IFd (M1 M2 : tr_M) : Prop := M1.1 1 11 = M2.1 1 0 ∧ (∀ f, f < 6 → M1.1 57 f = M2.1 2 f) ∧ M1.1 1 12 = M2.1 1 2 ∧ M1.2 1 13 = M2.2 1 3 ∧ M1.2 1 14 = M2.2 1 4
def ITF (M1 M2 : tr_M) : Prop := IRows M1 M2 ∧ ITexts M1 M2 ∧ IFd M1 M2
/-- worlds and searches are as they were -/
def KC (M M' : tr_M) : Prop := (∀ b, 1 < b → b < 57 → M'.1 b = M.1 b) ∧ ∀ k, 15 ≤ k → M'.1 1 k = M.1 1 k
def KM (M M' : tr_M) : Prop := M'.1 8 = M.1 8 ∧ M'.1 9 = M.1 9 ∧ M'.1 1 10 = M.1 1 10 ∧ M'.1 1 12 = M.1 1 12 ∧ M'.1 1 27 = M.1 1 27
theorem KC.rf {M : tr_M} : KC M M := ⟨fun _ _ _ => rfl, fun _ _ => rfl⟩
theorem KM.rf {M : tr_M} : KM M M := ⟨rfl, rfl, rfl, rfl, rfl⟩
theorem KC.tr {M M' M'' : tr_M} (h : KC M M') (h2 : KC M' M'') : KC M M'' := ⟨fun b h1 h3 => (h2.1 b h1 h3).trans (h.1 b h1 h3), fun k hk => (h2.2 k hk).trans (h.2 k hk)⟩
theorem KM.tr {M M' M'' : tr_M} (h : KM M M') (h2 : KM M' M'') : KM M M'' := ⟨h2.1.trans h.1, h2.2.1.trans h.2.1, h2.2.2.1.trans h.2.2.1, h2.2.2.2.1.trans h.2.2.2.1, h2.2.2.2.2.trans h.2.2.2.2⟩
/-- both sides answer alike; rows, texts, what is told stay tied; worlds are as they were -/
def Res {ρ : Type} (a b : Option (ρ × tr_M)) (M1 M2 : tr_M) : Prop := ∃ (r : ρ) (N1 N2 : tr_M), a = some (r, N1) ∧ b = some (r, N2) ∧ ITF N1 N2 ∧ KC M1 N1 ∧ KM M2 N2
theorem Res.same {ρ : Type} {r : ρ} {M1 M2 : tr_M} (h : ITF M1 M2) : Res (some (r, M1)) (some (r, M2)) M1 M2 := ⟨r, M1, M2, rfl, rfl, h, KC.rf, KM.rf⟩
theorem tr_st_ne {M : tr_M} {a b k : Nat} {v : Int32} (h : b ≠ a) : (tr_st M a k v).1 b = M.1 b := funext fun j => tr_st_o h
theorem tr_row_ne {M : tr_M} {a b : Nat} {f : Nat → Int32} (h : b ≠ a) : (tr_row M a f).1 b = M.1 b := if_neg h
theorem tr_row_s {M : tr_M} {a : Nat} {f : Nat → Int32} : (tr_row M a f).1 a = f := if_pos rfl
/-- a finding, on both sides -/
theorem found_both {M1 M2 : tr_M} (h : ITF M1 M2) {f : Nat} (hf : f < 6) : Res (mX6_found (nI f) M1) (mX7_meets (nI f) M2) M1 M2 := by
  obtain ⟨hR, hT, h1, h2, h3, h4, h5⟩ := h
  unfold mX6_found mX7_meets
  simp only [Option.bind_some, tr_rd_nI hf (by decide), tr_wr_nI hf (by decide)]
  refine ⟨_, _, _, rfl, rfl, ⟨fun r hr => ?_, fun t ht => ?_, ?_, fun g hg => ?_, ?_, h4, h5⟩, ⟨fun b hb1 hb2 => ?_, fun k hk => ?_⟩, ?_, ?_, ?_, ?_, ?_⟩
  · have := hR r hr
    simpa (disch := omega) only [tr_st_ne] using this
  · have := hT t ht
    simpa (disch := omega) only [tr_st_ne] using this
  · simp [tr_st_1]
  · simp only [tr_st_1]
    by_cases e : g = f
    · subst e; simp [h2 g hg]
    · simp [e, h2 g hg]
  · simp [tr_st_1, h3]
  · rw [tr_st_ne (by omega), tr_st_ne (by omega)]
  · simp only [tr_st_1]
    rw [if_neg (by omega), if_neg (by omega)]
  · rfl
  · rfl
  · simp [tr_st_1]
  · simp [tr_st_1]
  · simp [tr_st_1]
theorem len_row {r : Nat} (h : r < 6) : tr_len shC (62 + 2 * r + 1) = 60 := by
  rcases (show r = 0 ∨ r = 1 ∨ r = 2 ∨ r = 3 ∨ r = 4 ∨ r = 5 by omega) with rfl | rfl | rfl | rfl | rfl | rfl <;> rfl
theorem len_text {t : Nat} (h : t < 4) : tr_len shC (74 + 2 * t + 1) = 120 := by
  rcases (show t = 0 ∨ t = 1 ∨ t = 2 ∨ t = 3 by omega) with rfl | rfl | rfl | rfl <;> rfl
/-- an index from outside: it is one of n, or neither side takes it -/
theorem isRow_cases (p : Int32) : (mX6_isRow p = 0 ∧ mX7_isRow p = some 0) ∨ ∃ r, r < 6 ∧ p = nI r ∧ mX6_isRow p = 1 ∧ mX7_isRow p = some 1 := by
  unfold mX6_isRow mX7_isRow mX7_in
  rcases n_cases p with h | ⟨k, hk, rfl⟩
  · left
    simp [h, tr_gd]
  · by_cases h6 : k < 6
    · right
      refine ⟨k, h6, rfl, ?_⟩
      rcases (show k = 0 ∨ k = 1 ∨ k = 2 ∨ k = 3 ∨ k = 4 ∨ k = 5 by omega) with rfl | rfl | rfl | rfl | rfl | rfl <;> decide
    · left
      have e1 : ¬ nI k < 6 := by rw [show (6 : Int32) = nI 6 from rfl, nlt hk (by decide)]; omega
      have e2 : (5 : Int32) < nI k := by rw [show (5 : Int32) = nI 5 from rfl, nlt (by decide) hk]; omega
      simp [nlt0 hk, e1, e2, tr_gd]
theorem isText_cases (p : Int32) : (mX6_isText p = 0 ∧ mX7_isText p = some 0) ∨ ∃ r, r < 4 ∧ p = nI r ∧ mX6_isText p = 1 ∧ mX7_isText p = some 1 := by
  unfold mX6_isText mX7_isText mX7_in
  rcases n_cases p with h | ⟨k, hk, rfl⟩
  · left
    simp [h, tr_gd]
  · by_cases h6 : k < 4
    · right
      refine ⟨k, h6, rfl, ?_⟩
      rcases (show k = 0 ∨ k = 1 ∨ k = 2 ∨ k = 3 by omega) with rfl | rfl | rfl | rfl <;> decide
    · left
      have e1 : ¬ nI k < 4 := by rw [show (4 : Int32) = nI 4 from rfl, nlt hk (by decide)]; omega
      have e2 : (3 : Int32) < nI k := by rw [show (3 : Int32) = nI 3 from rfl, nlt (by decide) hk]; omega
      simp [nlt0 hk, e1, e2, tr_gd]
