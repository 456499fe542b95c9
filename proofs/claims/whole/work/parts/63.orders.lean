/-! ===== orders, by places; rules, by steps and by places ===== -/
def Ord (n : Nat) (f : Nat → Nat) : Prop := (∀ i, i < n → f i < n) ∧ ∀ i j, i < n → j < n → f i = f j → i = j
def pre (f : Nat → Nat) : Nat → Nat
  | 0 => 0
  | i + 1 => ins (pre f i) (f i)
def la (f : Nat → Nat) (i : Nat) : Nat := if i = 0 then 10 else f (i - 1)
theorem pre_bit (f : Nat → Nat) (y : Nat) : ∀ i, (pre f i).testBit y = true ↔ ∃ j, j < i ∧ f j = y
  | 0 => by
    show (0 : Nat).testBit y = true ↔ _
    rw [Nat.zero_testBit]
    constructor
    · intro h; cases h
    · rintro ⟨j, h, _⟩; omega
  | i + 1 => by
    show (ins (pre f i) (f i)).testBit y = true ↔ _
    rw [ins_bit, Bool.or_eq_true, pre_bit f y i, decide_eq_true_eq]
    constructor
    · rintro (⟨j, h1, h2⟩ | h)
      · exact ⟨j, by omega, h2⟩
      · exact ⟨i, by omega, h⟩
    · rintro ⟨j, h1, h2⟩
      by_cases e : j = i
      · subst e; exact Or.inr h2
      · exact Or.inl ⟨j, by omega, h2⟩
theorem pre_lt {n : Nat} {f : Nat → Nat} (h : Ord n f) : ∀ {i : Nat}, i ≤ n → pre f i < 2 ^ n
  | 0, _ => Nat.two_pow_pos n
  | i + 1, hi => ins_lt (pre_lt h (by omega)) (h.1 i (by omega))
theorem pre_new {n : Nat} {f : Nat → Nat} (h : Ord n f) {i : Nat} (hi : i < n) : (pre f i).testBit (f i) = false := by
  cases c : (pre f i).testBit (f i) with
  | false => rfl
  | true =>
    obtain ⟨j, h1, h2⟩ := (pre_bit f (f i) i).mp c
    have := h.2 j i (by omega) hi h2
    omega
theorem pre_cnt {n m : Nat} {f : Nat → Nat} (h : Ord n f) (hm : n ≤ m) : ∀ {i : Nat}, i ≤ n → cnt m (pre f i) = i
  | 0, _ => cnt_0 m
  | i + 1, hi => by
    show cnt m (ins (pre f i) (f i)) = i + 1
    have := h.1 i (by omega)
    rw [cnt_ins (by omega) (pre_new h (by omega)), pre_cnt h hm (by omega)]
theorem pre_full {n : Nat} {f : Nat → Nat} (h : Ord n f) : pre f n = 2 ^ n - 1 := (full_cnt (pre_lt h (Nat.le_refl _))).mp (pre_cnt h (Nat.le_refl _) (Nat.le_refl _))
/-- where a thing stands -/
def sf (f : Nat → Nat) (y : Nat) : Nat → Nat
  | 0 => 0
  | n + 1 => if f n = y then n else sf f y n
theorem sf_le (f : Nat → Nat) (y : Nat) : ∀ n, sf f y n ≤ n
  | 0 => Nat.le_refl _
  | n + 1 => by
    show (if f n = y then n else sf f y n) ≤ n + 1
    have := sf_le f y n
    by_cases c : f n = y
    · rw [if_pos c]; omega
    · rw [if_neg c]; omega
theorem sf_get {f : Nat → Nat} {y : Nat} : ∀ {n : Nat}, (∃ j, j < n ∧ f j = y) → f (sf f y n) = y ∧ sf f y n < n
  | 0, h => by obtain ⟨j, h, _⟩ := h; omega
  | n + 1, h => by
    show f (if f n = y then n else sf f y n) = y ∧ (if f n = y then n else sf f y n) < n + 1
    by_cases c : f n = y
    · rw [if_pos c]; exact ⟨c, by omega⟩
    · rw [if_neg c]
      obtain ⟨j, h1, h2⟩ := h
      have : j ≠ n := fun e => c (by rw [← e]; exact h2)
      obtain ⟨h3, h4⟩ := sf_get (f := f) (y := y) (n := n) ⟨j, by omega, h2⟩
      exact ⟨h3, by omega⟩
theorem sf_ord {n : Nat} {f : Nat → Nat} (h : Ord n f) {y : Nat} (hy : y < n) : f (sf f y n) = y ∧ sf f y n < n := by
  refine sf_get ?_
  have := cnt_full (pre_cnt h (Nat.le_refl _) (Nat.le_refl _)) y hy
  exact (pre_bit f y n).mp this
theorem sf_iff {n : Nat} {f : Nat → Nat} (h : Ord n f) {y i : Nat} (hy : y < n) (hi : i < n) : f i = y ↔ i = sf f y n := by
  obtain ⟨h1, h2⟩ := sf_ord h hy
  constructor
  · intro e
    exact h.2 i _ hi h2 (by rw [h1, e])
  · intro e
    rw [e, h1]
theorem pre_sf {n : Nat} {f : Nat → Nat} (h : Ord n f) {y i : Nat} (hy : y < n) (hi : i ≤ n) : (pre f i).testBit y = decide (sf f y n < i) := by
  rw [Bool.eq_iff_iff, pre_bit, decide_eq_true_eq]
  obtain ⟨h1, h2⟩ := sf_ord h hy
  constructor
  · rintro ⟨j, h3, h4⟩
    rw [← (sf_iff h hy (by omega)).mp h4]
    exact h3
  · intro h3
    exact ⟨_, h3, h1⟩
theorem la_iff {n : Nat} {f : Nat → Nat} (h : Ord n f) (hn : n ≤ 10) {y i : Nat} (hy : y < n) (hi : i ≤ n) : la f i = y ↔ sf f y n + 1 = i := by
  unfold la
  by_cases c : i = 0
  · rw [if_pos c]; omega
  · rw [if_neg c, sf_iff h hy (by omega)]; omega
/-- a rule is kept, by steps: the class's way, the model's -/
def stC (r : Nat × Nat × Nat × Nat) (s l a : Nat) : Bool :=
  if r.1 = 1 then !(decide (a = r.2.2.1) && !s.testBit r.2.1)
  else if r.1 = 2 then !(decide (a = r.2.2.1) && !decide (l = r.2.1))
  else if r.1 = 3 then !(decide (a = r.2.1) && !decide (cnt 10 s = r.2.2.1))
  else if r.1 = 4 then !(decide (a = r.2.1) && decide (r.2.2.1 < cnt 10 s))
  else if r.1 = 5 then !(decide (l = r.2.1) && decide (a = r.2.2.1)) && !(decide (l = r.2.2.1) && decide (a = r.2.1))
  else if r.1 = 6 then !(decide (a = r.2.1) && (s.testBit r.2.2.1 == s.testBit r.2.2.2))
  else true
def stM (r : Nat × Nat × Nat × Nat) (s l a : Nat) : Bool := if r.1 = 2 then (if a = r.2.2.1 then decide (l = r.2.1) else !decide (l = r.2.1)) else stC r s l a
/-- by places -/
def kept (n : Nat) (r : Nat × Nat × Nat × Nat) (f : Nat → Nat) : Bool :=
  if r.1 = 1 then decide (sf f r.2.1 n < sf f r.2.2.1 n)
  else if r.1 = 2 then decide (sf f r.2.1 n + 1 = sf f r.2.2.1 n)
  else if r.1 = 3 then decide (sf f r.2.1 n = r.2.2.1)
  else if r.1 = 4 then decide (sf f r.2.1 n ≤ r.2.2.1)
  else if r.1 = 5 then !decide (sf f r.2.1 n + 1 = sf f r.2.2.1 n) && !decide (sf f r.2.2.1 n + 1 = sf f r.2.1 n)
  else if r.1 = 6 then !(decide (sf f r.2.2.1 n < sf f r.2.1 n) == decide (sf f r.2.2.2 n < sf f r.2.1 n))
  else true
theorem kept_C {n : Nat} {f : Nat → Nat} (h : Ord n f) (hn : n ≤ 10) {r : Nat × Nat × Nat × Nat} (hr : ruleOk n r) : (∀ i, i < n → stC r (pre f i) (la f i) (f i) = true) ↔ kept n r f = true := by
  obtain ⟨kd, x, y, z⟩ := r
  unfold ruleOk at hr
  unfold stC kept
  dsimp only at hr ⊢
  rcases hr with ⟨rfl, -, -, -⟩ | ⟨hk, hx, hy, hxy, -⟩ | ⟨hk, hx, hy, -⟩ | ⟨rfl, hx, hy, hz, hxy, hxz, hyz⟩
  · simp
  · have bx := fun i (hi : i < n) => pre_sf h hx (Nat.le_of_lt hi)
    have lx := fun i (hi : i < n) => la_iff h hn hx (Nat.le_of_lt hi)
    have ly := fun i (hi : i < n) => la_iff h hn hy (Nat.le_of_lt hi)
    have ex := fun i (hi : i < n) => sf_iff h hx hi
    have ey := fun i (hi : i < n) => sf_iff h hy hi
    have s1 := (sf_ord h hx).2
    have s2 := (sf_ord h hy).2
    have s3 : sf f x n ≠ sf f y n := fun e => hxy (by rw [← (sf_ord h hx).1, ← (sf_ord h hy).1, e])
    rcases hk with rfl | rfl | rfl
    · simp only [if_true, decide_eq_true_eq]
      constructor
      · intro H
        have := H (sf f y n) s2
        rw [bx _ s2] at this
        simpa [(ey _ s2).mpr rfl] using this
      · intro H i hi
        rw [bx i hi]
        by_cases c : f i = y
        · have := (ey i hi).mp c
          simp [c, show sf f x n < i by omega]
        · simp [c]
    · simp only [if_neg (show ¬ (2 : Nat) = 1 by decide), if_true, decide_eq_true_eq]
      constructor
      · intro H
        have := H (sf f y n) s2
        have e := lx _ s2
        simp only [(ey _ s2).mpr rfl, decide_true, Bool.true_and, Bool.not_not, decide_eq_true_eq] at this
        exact e.mp this
      · intro H i hi
        by_cases c : f i = y
        · have := (ey i hi).mp c
          simp [c, (lx i hi).mpr (by omega)]
        · simp [c]
    · simp only [if_neg (show ¬ (5 : Nat) = 1 by decide), if_neg (show ¬ (5 : Nat) = 2 by decide), if_neg (show ¬ (5 : Nat) = 3 by decide), if_neg (show ¬ (5 : Nat) = 4 by decide), if_true, Bool.and_eq_true, Bool.not_eq_true', decide_eq_false_iff_not, Bool.and_eq_false_iff]
      constructor
      · intro H
        constructor
        · intro e
          rcases (H _ s2).1 with q | q
          · exact q ((lx _ s2).mpr e)
          · exact q ((ey _ s2).mpr rfl)
        · intro e
          rcases (H _ s1).2 with q | q
          · exact q ((ly _ s1).mpr e)
          · exact q ((ex _ s1).mpr rfl)
      · intro H i hi
        have a1 := lx i hi
        have a2 := ly i hi
        have a3 := ex i hi
        have a4 := ey i hi
        rw [a1, a2, a3, a4]
        omega
  · have ex := fun i (hi : i < n) => sf_iff h hx hi
    have s1 := (sf_ord h hx).2
    have hc := fun i (hi : i < n) => pre_cnt h hn (Nat.le_of_lt hi)
    rcases hk with rfl | rfl
    · simp only [if_neg (show ¬ (3 : Nat) = 1 by decide), if_neg (show ¬ (3 : Nat) = 2 by decide), if_true, decide_eq_true_eq]
      constructor
      · intro H
        have := H _ s1
        rw [hc _ s1] at this
        simpa [(ex _ s1).mpr rfl] using this
      · intro H i hi
        rw [hc i hi]
        by_cases c : f i = x
        · have := (ex i hi).mp c
          simp [c, show i = y by omega]
        · simp [c]
    · simp only [if_neg (show ¬ (4 : Nat) = 1 by decide), if_neg (show ¬ (4 : Nat) = 2 by decide), if_neg (show ¬ (4 : Nat) = 3 by decide), if_true, decide_eq_true_eq]
      constructor
      · intro H
        have := H _ s1
        rw [hc _ s1] at this
        simpa [(ex _ s1).mpr rfl] using this
      · intro H i hi
        rw [hc i hi]
        by_cases c : f i = x
        · have := (ex i hi).mp c
          simp [c, show i ≤ y by omega]
        · simp [c]
  · have ex := fun i (hi : i < n) => sf_iff h hx hi
    have s1 := (sf_ord h hx).2
    have by' := fun i (hi : i < n) => pre_sf h hy (Nat.le_of_lt hi)
    have bz := fun i (hi : i < n) => pre_sf h hz (Nat.le_of_lt hi)
    simp only [if_neg (show ¬ (6 : Nat) = 1 by decide), if_neg (show ¬ (6 : Nat) = 2 by decide), if_neg (show ¬ (6 : Nat) = 3 by decide), if_neg (show ¬ (6 : Nat) = 4 by decide), if_neg (show ¬ (6 : Nat) = 5 by decide), if_true]
    constructor
    · intro H
      have := H _ s1
      rw [by' _ s1, bz _ s1] at this
      simpa only [(ex _ s1).mpr rfl, decide_true, Bool.true_and] using this
    · intro H i hi
      rw [by' i hi, bz i hi]
      by_cases c : f i = x
      · have e := (ex i hi).mp c
        rw [e]
        simpa only [(ex _ s1).mpr rfl, decide_true, Bool.true_and] using H
      · simp [c]
theorem kept_M {n : Nat} {f : Nat → Nat} (h : Ord n f) (hn : n ≤ 10) {r : Nat × Nat × Nat × Nat} (hr : ruleOk n r) : (∀ i, i < n → stM r (pre f i) (la f i) (f i) = true) ↔ kept n r f = true := by
  by_cases c : r.1 = 2
  · have hr' := hr
    unfold ruleOk at hr'
    have hx : r.2.1 < n := by omega
    have hy : r.2.2.1 < n := by omega
    have lx := fun i (hi : i < n) => la_iff h hn hx (Nat.le_of_lt hi)
    have ey := fun i (hi : i < n) => sf_iff h hy hi
    have s2 := (sf_ord h hy).2
    unfold stM kept
    simp only [c, if_true, if_neg (show ¬ (2 : Nat) = 1 by decide), decide_eq_true_eq]
    constructor
    · intro H
      have := H _ s2
      rw [if_pos ((ey _ s2).mpr rfl), decide_eq_true_eq] at this
      exact (lx _ s2).mp this
    · intro H i hi
      by_cases d : f i = r.2.2.1
      · rw [if_pos d, decide_eq_true_eq, lx i hi]
        have := (ey i hi).mp d
        omega
      · rw [if_neg d, Bool.not_eq_true', decide_eq_false_iff_not, lx i hi]
        intro e
        exact d ((ey i hi).mpr (by omega))
  · rw [← kept_C h hn hr]
    unfold stM
    simp only [if_neg c]
