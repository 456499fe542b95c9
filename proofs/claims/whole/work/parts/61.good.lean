/-! ===== sets: how many, what is left ===== -/
theorem cnt_ins {n s x : Nat} (hx : x < n) (h : s.testBit x = false) : cnt n (ins s x) = cnt n s + 1 := by
  rw [cnt_sm, cnt_sm]
  have e := sm_up (f := fun i => if s.testBit i = true then 1 else 0) (b := x) (v := 1) hx
  have e2 : sm n (fun y => if y = x then 1 else if s.testBit y = true then 1 else 0) = sm n (fun i => if (ins s x).testBit i = true then 1 else 0) := sm_congr fun i hi => by
    rw [ins_bit]
    by_cases c : i = x
    · subst c; simp
    · rw [if_neg c]
      simp [show ¬ x = i from fun q => c q.symm]
  rw [e2, h] at e
  simpa using e
theorem cnt_lt {n s x : Nat} (hx : x < n) (h : s.testBit x = false) : cnt n s < n := by
  have h1 := cnt_ins hx h
  have h2 := cnt_le (ins s x) n
  omega
theorem cnt_full {s : Nat} : ∀ {n : Nat}, cnt n s = n → ∀ i, i < n → s.testBit i = true
  | 0, _, i, hi => by omega
  | n + 1, h, i, hi => by
    have h : cnt n s + (if s.testBit n = true then 1 else 0) = n + 1 := h
    have h2 := cnt_le s n
    by_cases c : s.testBit n = true
    · rw [if_pos c] at h
      by_cases e : i = n
      · rw [e]; exact c
      · exact cnt_full (n := n) (by omega) i (by omega)
    · rw [if_neg c] at h; omega
theorem cnt_all {s : Nat} : ∀ {n : Nat}, (∀ i, i < n → s.testBit i = true) → cnt n s = n
  | 0, _ => rfl
  | n + 1, h => by
    show cnt n s + (if s.testBit n = true then 1 else 0) = n + 1
    rw [cnt_all (fun i hi => h i (by omega)), if_pos (h n (by omega))]
theorem full_bit {n i : Nat} : (2 ^ n - 1).testBit i = decide (i < n) := Nat.testBit_two_pow_sub_one n i
theorem full_cnt {n s : Nat} (h : s < 2 ^ n) : cnt n s = n ↔ s = 2 ^ n - 1 := by
  constructor
  · intro e
    refine Nat.eq_of_testBit_eq fun i => ?_
    rw [full_bit]
    by_cases c : i < n
    · simp [c, cnt_full e i c]
    · have := Nat.testBit_lt_two_pow (Nat.lt_of_lt_of_le h (Nat.pow_le_pow_right (by decide) (show n ≤ i by omega)))
      simp [c, this]
  · rintro rfl
    exact cnt_all fun i hi => by rw [full_bit]; simp [hi]
theorem ins_gt {s x : Nat} (h : s.testBit x = false) : s < ins s x := by
  have hle : s ≤ ins s x := Nat.left_le_or
  refine Nat.lt_of_le_of_ne hle fun e => ?_
  have := ins_bit s x x
  rw [← e, h] at this
  simp at this
theorem cnt_0 : ∀ n, cnt n 0 = 0
  | 0 => rfl
  | n + 1 => by
    show cnt n 0 + (if (0 : Nat).testBit n = true then 1 else 0) = 0
    rw [cnt_0 n, Nat.zero_testBit]; rfl
/-- how many are left -/
def lft (n s : Nat) : Nat := n - cnt n s
theorem lft_ins {n s x : Nat} (hx : x < n) (h : s.testBit x = false) : lft n s = lft n (ins s x) + 1 := by
  unfold lft
  have h1 := cnt_ins hx h
  have h2 := cnt_le (ins s x) n
  omega
/-- what is least from a set and the last of it on -/
def ms (nx : Rl) (n : Nat) (ad : Bool) (g : Nat → Nat) (s l : Nat) : Nat := mv nx n ad g (lft n s) s l
/-- who comes next on a least way; B: the least of all -/
def gd (nx : Rl) (n : Nat) (ad : Bool) (g : Nat → Nat) (B : Nat) : Rl := fun s l x => nx s l x && decide (ms nx n ad g (ins s x) x < NV) && (if ad = true then decide (g (ins s x) + ms nx n ad g (ins s x) x = ms nx n ad g s l) else decide (g (ins s x) ≤ B) && decide (ms nx n ad g (ins s x) x ≤ B))
/-- nobody comes twice -/
def Fresh (nx : Rl) (n : Nat) : Prop := ∀ s l x, nx s l x = true → x < n ∧ s.testBit x = false
theorem gd_fresh {nx : Rl} {n : Nat} {ad : Bool} {g : Nat → Nat} {B : Nat} (h : Fresh nx n) : Fresh (gd nx n ad g B) n := fun s l x hx => by
  unfold gd at hx
  rw [Bool.and_eq_true, Bool.and_eq_true] at hx
  exact h s l x hx.1.1
theorem ms_eq {nx : Rl} {n : Nat} {ad : Bool} {g : Nat → Nat} {k s l : Nat} (h : lft n s = k) : ms nx n ad g s l = mv nx n ad g k s l := by
  unfold ms; rw [h]
theorem ms_succ {nx : Rl} {n : Nat} {ad : Bool} {g : Nat → Nat} (hf : Fresh nx n) (hn : n ≤ 10) (hg : ∀ s, g s ≤ 1000) {s l : Nat} (h : lft n s ≠ 0) : ms nx n ad g s l = mnf NV n (fun x => if nx s l x = true then (if ms nx n ad g (ins s x) x < NV then comb ad (g (ins s x)) (ms nx n ad g (ins s x) x) else NV) else NV) := by
  obtain ⟨k, hk⟩ : ∃ k, lft n s = k + 1 := ⟨lft n s - 1, by omega⟩
  have hk10 : k + 1 ≤ 10 := by
    have : lft n s ≤ n := Nat.sub_le _ _
    omega
  rw [ms_eq hk, mv_succ hg hk10]
  refine mnf_congr fun x hx => ?_
  by_cases c : nx s l x = true
  · simp only [if_pos c]
    have h1 := lft_ins hx (hf s l x c).2
    rw [ms_eq (show lft n (ins s x) = k by omega)]
  · simp only [if_neg c]
theorem ms_le {nx : Rl} {n : Nat} {ad : Bool} {g : Nat → Nat} (hf : Fresh nx n) (hn : n ≤ 10) (hg : ∀ s, g s ≤ 1000) {s l x : Nat} (hx : nx s l x = true) (hv : ms nx n ad g (ins s x) x < NV) : ms nx n ad g s l ≤ comb ad (g (ins s x)) (ms nx n ad g (ins s x) x) := by
  obtain ⟨hxn, hb⟩ := hf s l x hx
  have h1 := lft_ins hxn hb
  rw [ms_succ hf hn hg (by omega)]
  refine Nat.le_trans (mnf_le hxn) ?_
  simp only [if_pos hx, if_pos hv]
  exact Nat.le_refl _
theorem ext_good {nx : Rl} {n : Nat} {ad : Bool} {g : Nat → Nat} {B : Nat} (hf : Fresh nx n) (hn : n ≤ 10) (hg : ∀ s, g s ≤ 1000) : ∀ k s l, lft n s = k → ext (gd nx n ad g B) n k s l = (ext nx n k s l).filter (fun p => if ad = true then decide (cost ad g s p = ms nx n ad g s l) else decide (cost ad g s p ≤ B))
  | 0, s, l, hk => by
    have hz : ms nx n ad g s l = 0 := by rw [ms_eq hk]; rfl
    show [[]] = [[]].filter _
    symm
    rw [List.filter_eq_self]
    intro p hp
    rw [List.mem_singleton.mp hp, hz]
    show (if ad = true then decide (0 = 0) else decide (0 ≤ B)) = true
    cases ad <;> simp
  | k + 1, s, l, hk => by
    have hk10 : k + 1 ≤ 10 := by
      have : lft n s ≤ n := Nat.sub_le _ _
      omega
    show fm n _ = (fm n _).filter _
    rw [fm_filter]
    refine fm_congr fun x hx => ?_
    by_cases c : nx s l x = true
    · have h1 := lft_ins hx (hf s l x c).2
      have hk2 : lft n (ins s x) = k := by omega
      have ih := ext_good (ad := ad) (g := g) (B := B) hf hn hg k (ins s x) x hk2
      rw [if_pos c, List.filter_map]
      by_cases d : ms nx n ad g (ins s x) x < NV
      · have dm : mv nx n ad g k (ins s x) x < NV := by rw [← ms_eq hk2]; exact d
        have hmin : ∀ p, p ∈ ext nx n k (ins s x) x → ms nx n ad g (ins s x) x ≤ cost ad g (ins s x) p := fun p hp => by
          rw [ms_eq hk2]; exact mv_min hp
        have hle := ms_le hf hn hg c d
        cases ad with
        | true =>
          by_cases e : g (ins s x) + ms nx n true g (ins s x) x = ms nx n true g s l
          · have hgd : gd nx n true g B s l x = true := by
              unfold gd
              simp [c, d, e]
            rw [if_pos hgd, ih]
            congr 1
            refine List.filter_congr fun p hp => ?_
            simp only [if_true, Function.comp]
            show decide (cost true g (ins s x) p = ms nx n true g (ins s x) x) = decide (g (ins s x) + cost true g (ins s x) p = ms nx n true g s l)
            rw [← e]
            simp
          · have hgd : ¬ gd nx n true g B s l x = true := by
              unfold gd
              simp [e]
            rw [if_neg hgd]
            symm
            rw [List.map_eq_nil_iff, List.filter_eq_nil_iff]
            intro p hp
            simp only [if_true, Function.comp, decide_eq_true_eq]
            show ¬ g (ins s x) + cost true g (ins s x) p = ms nx n true g s l
            have := hmin p hp
            have hle : ms nx n true g s l ≤ g (ins s x) + ms nx n true g (ins s x) x := hle
            omega
        | false =>
          by_cases e : g (ins s x) ≤ B ∧ ms nx n false g (ins s x) x ≤ B
          · have hgd : gd nx n false g B s l x = true := by
              unfold gd
              simp [c, d, e.1, e.2]
            rw [if_pos hgd, ih]
            congr 1
            refine List.filter_congr fun p hp => ?_
            simp only [Bool.false_eq_true, if_false, Function.comp]
            show decide (cost false g (ins s x) p ≤ B) = decide (max (g (ins s x)) (cost false g (ins s x) p) ≤ B)
            have := e.1
            rw [decide_eq_decide]
            omega
          · have hgd : ¬ gd nx n false g B s l x = true := by
              unfold gd
              simp only [Bool.false_eq_true, if_false, Bool.and_eq_true, decide_eq_true_eq]
              exact fun q => e q.2
            rw [if_neg hgd]
            symm
            rw [List.map_eq_nil_iff, List.filter_eq_nil_iff]
            intro p hp
            simp only [Bool.false_eq_true, if_false, Function.comp, decide_eq_true_eq]
            show ¬ max (g (ins s x)) (cost false g (ins s x) p) ≤ B
            have := hmin p hp
            omega
      · have hgd : ¬ gd nx n ad g B s l x = true := by
          unfold gd
          simp [d]
        have hnil : ext nx n k (ins s x) x = [] := by
          refine Classical.byContradiction fun e => d ?_
          rw [ms_eq hk2]
          exact (mv_iff hg (by omega)).mpr e
        rw [if_neg hgd, hnil]
        rfl
    · have hgd : ¬ gd nx n ad g B s l x = true := by
        unfold gd
        simp [c]
      rw [if_neg hgd, if_neg c]
      rfl
/-- least ways from the start on: those of the least cost -/
theorem lft_0 (n : Nat) : lft n 0 = n := by
  unfold lft
  rw [cnt_0]
  rfl
theorem ext_least {nx : Rl} {n : Nat} {ad : Bool} {g : Nat → Nat} (hf : Fresh nx n) (hn : n ≤ 10) (hg : ∀ s, g s ≤ 1000) {l : Nat} : ext (gd nx n ad g (ms nx n ad g 0 l)) n n 0 l = (ext nx n n 0 l).filter (fun p => decide (cost ad g 0 p = ms nx n ad g 0 l)) := by
  rw [ext_good hf hn hg n 0 l (lft_0 n)]
  refine List.filter_congr fun p hp => ?_
  cases ad with
  | true => rfl
  | false =>
    simp only [Bool.false_eq_true, if_false]
    rw [decide_eq_decide]
    have : ms nx n false g 0 l ≤ cost false g 0 p := by
      rw [ms_eq (lft_0 n)]
      exact mv_min hp
    omega
