/-! ===== E: all orders, one behind the other ===== -/
theorem ix_get {p : List Nat} : ∀ {L : List (List Nat)} {k : Nat}, ix p L = some k → L[k]? = some p
  | [], k, h => by cases h
  | q :: L, k, h => by
    unfold ix at h
    by_cases c : q = p
    · rw [if_pos c] at h
      cases h
      rw [c]
      rfl
    · rw [if_neg c] at h
      cases e : ix p L with
      | none => rw [e] at h; cases h
      | some j =>
        rw [e] at h
        cases h
        show (q :: L)[j + 1]? = some p
        rw [List.getElem?_cons_succ]
        exact ix_get e
theorem extA_len {n : Nat} : ∀ k s l, lft n s = k → (ext (nxA n) n k s l).length = fct k
  | 0, s, l, _ => rfl
  | k + 1, s, l, h => by
    rw [ext_num]
    have h1 : sm n (fun x => if nxA n s l x = true then (ext (nxA n) n k (ins s x) x).length else 0) = sm n (fun x => if s.testBit x = true then 0 else fct k) := sm_congr fun x hx => by
      cases b : s.testBit x with
      | true =>
        rw [if_neg, if_pos rfl]
        unfold nxA
        rw [b]
        simp
      | false =>
        have := lft_ins hx b
        rw [if_pos, if_neg (by decide), extA_len k (ins s x) x (by omega)]
        unfold nxA
        rw [b]
        simp [hx]
    have h2 := sm_not s (fct k) n
    have h3 := cnt_le s n
    have h4 : n = (k + 1) + cnt n s := by
      unfold lft at h
      omega
    have h5 : fct k * n = fct k * (k + 1) + fct k * cnt n s := by
      rw [← Nat.mul_add, ← h4]
    show _ = (k + 1) * fct k
    rw [h1, Nat.mul_comm (k + 1)]
    omega
theorem Pm_len (n : Nat) : (Pm n).length = fct n := extA_len n 0 10 (lft_0 n)
def fr (s x : Nat) : Nat := sm x (fun y => if s.testBit y = true then 0 else 1)
theorem fr_step {s a b : Nat} (hab : a < b) (ha : s.testBit a = false) (h : ∀ y, a < y → y < b → s.testBit y = true) : fr s b = fr s a + 1 := by
  unfold fr
  rw [show b = a + (b - a) by omega, sm_split]
  congr 1
  rw [sm_congr (g := fun j => if j = 0 then 1 else 0) (fun j hj => ?_), sm_one 1 (by omega)]
  by_cases c : j = 0
  · rw [c, Nat.add_zero, ha]
    rfl
  · rw [if_neg c, h (a + j) (by omega) (by omega), if_pos rfl]
theorem fr_0 {s a : Nat} (h : ∀ y, y < a → s.testBit y = true) : fr s a = 0 := by
  unfold fr
  rw [sm_congr (g := fun _ => 0) (fun y hy => by rw [if_pos (h y hy)]), sm_0]
theorem fr_top {n s a : Nat} (han : a < n) (ha : s.testBit a = false) (h : ∀ y, a < y → y < n → s.testBit y = true) : fr s a + 1 + cnt n s = n := by
  rw [← fr_step han ha h]
  have := sm_not s 1 n
  rw [Nat.one_mul, Nat.one_mul] at this
  exact this
def rk (f : Nat → Nat) : Nat → Nat → Nat
  | 0, _ => 0
  | k + 1, i => fct k * fr (pre f i) (f i) + rk f k (i + 1)
theorem ix_rk {n : Nat} {f : Nat → Nat} (hf : Ord n f) : ∀ k i, i + k = n → ix (seg f i k) (ext (nxA n) n k (pre f i) (la f i)) = some (rk f k i)
  | 0, i, h => by
    show ix [] [[]] = some 0
    unfold ix
    rw [if_pos rfl]
  | k + 1, i, h => by
    have hfi := hf.1 i (by omega)
    have hnew := pre_new hf (show i < n by omega)
    have hA : nxA n (pre f i) (la f i) (f i) = true := by
      unfold nxA
      rw [hnew]
      simp [hfi]
    have hl := lft_pre hf (show i ≤ n by omega)
    have ih := ix_rk hf k (i + 1) (by omega)
    rw [show la f (i + 1) = f i by unfold la; rw [if_neg (by omega)]; rfl, show pre f (i + 1) = ins (pre f i) (f i) from rfl] at ih
    show ix (f i :: seg f (i + 1) k) _ = some (fct k * fr (pre f i) (f i) + rk f k (i + 1))
    rw [ix_ext hfi, if_pos hA, ih]
    show some (rk f k (i + 1) + _) = _
    rw [Nat.add_comm]
    congr 2
    unfold fr
    rw [← sm_mul]
    refine sm_congr fun y hy => ?_
    unfold wy
    cases b : (pre f i).testBit y with
    | true =>
      rw [if_neg, if_pos rfl, Nat.mul_zero]
      unfold nxA
      rw [b]
      simp
    | false =>
      have := lft_ins (show y < n by omega) b
      rw [if_pos, if_neg (by decide), Nat.mul_one, extA_len k _ _ (by omega)]
      unfold nxA
      rw [b]
      simp [show y < n by omega]
theorem Pm_rk {n : Nat} {f : Nat → Nat} (hf : Ord n f) : (Pm n)[rk f n 0]? = some (seg f 0 n) := ix_get (ix_rk hf n 0 (Nat.zero_add n))
def Dn (f : Nat → Nat) (i n : Nat) : Prop := ∀ j, i ≤ j → j + 1 < n → f (j + 1) < f j
def Up (f : Nat → Nat) (i n : Nat) : Prop := ∀ j, i ≤ j → j + 1 < n → f j < f (j + 1)
theorem Dn.lt {f : Nat → Nat} {i n : Nat} (h : Dn f i n) : ∀ {j k : Nat}, i ≤ j → j < k → k < n → f k < f j := by
  intro j k hj hjk hk
  induction k with
  | zero => omega
  | succ k ih =>
    have h1 := h k (by omega) hk
    by_cases e : j = k
    · rw [e]; exact h1
    · have := ih (by omega) (by omega)
      omega
theorem Up.lt {f : Nat → Nat} {i n : Nat} (h : Up f i n) : ∀ {j k : Nat}, i ≤ j → j < k → k < n → f j < f k := by
  intro j k hj hjk hk
  induction k with
  | zero => omega
  | succ k ih =>
    have h1 := h k (by omega) hk
    by_cases e : j = k
    · rw [e]; exact h1
    · have := ih (by omega) (by omega)
      omega
theorem pre_in {n : Nat} {f : Nat → Nat} (hf : Ord n f) {i y : Nat} (hi : i ≤ n) (hy : y < n) : (pre f i).testBit y = true ∨ ∃ j, i ≤ j ∧ j < n ∧ f j = y := by
  obtain ⟨h1, h2⟩ := sf_ord hf hy
  by_cases c : sf f y n < i
  · left
    rw [pre_sf hf hy hi]
    exact decide_eq_true c
  · exact Or.inr ⟨sf f y n, by omega, h2, h1⟩
theorem rk_dn {n : Nat} {f : Nat → Nat} (hf : Ord n f) : ∀ k i, i + k = n → Dn f i n → rk f k i + 1 = fct k
  | 0, _, _, _ => rfl
  | k + 1, i, h, hd => by
    have ih := rk_dn hf k (i + 1) (by omega) (fun j a b => hd j (by omega) b)
    have ht := fr_top (n := n) (s := pre f i) (a := f i) (hf.1 i (by omega)) (pre_new hf (by omega)) (fun y h1 h2 => by
      rcases pre_in hf (show i ≤ n by omega) h2 with c | ⟨j, j1, j2, j3⟩
      · exact c
      · exfalso
        by_cases e : j = i
        · rw [e] at j3; omega
        · have := hd.lt (Nat.le_refl i) (show i < j by omega) j2
          omega)
    rw [pre_cnt hf (Nat.le_refl n) (show i ≤ n by omega)] at ht
    show fct k * fr (pre f i) (f i) + rk f k (i + 1) + 1 = (k + 1) * fct k
    rw [Nat.add_assoc, ih, show fr (pre f i) (f i) = k by omega, Nat.add_mul, Nat.one_mul, Nat.mul_comm]
theorem rk_up {n : Nat} {f : Nat → Nat} (hf : Ord n f) : ∀ k i, i + k = n → Up f i n → rk f k i = 0
  | 0, _, _, _ => rfl
  | k + 1, i, h, hd => by
    have ih := rk_up hf k (i + 1) (by omega) (fun j a b => hd j (by omega) b)
    show fct k * fr (pre f i) (f i) + rk f k (i + 1) = 0
    rw [ih, fr_0, Nat.mul_zero]
    intro y hy
    have hfi := hf.1 i (by omega)
    rcases pre_in hf (show i ≤ n by omega) (show y < n by omega) with c | ⟨j, j1, j2, j3⟩
    · exact c
    · exfalso
      by_cases e : j = i
      · rw [e] at j3; omega
      · have := hd.lt (Nat.le_refl i) (show i < j by omega) j2
        omega
theorem preg_congr {f g : Nat → Nat} : ∀ {i : Nat}, (∀ j, j < i → g j = f j) → pre g i = pre f i
  | 0, _ => rfl
  | i + 1, h => by
    show ins (pre g i) (g i) = ins (pre f i) (f i)
    rw [preg_congr (fun j hj => h j (by omega)), h i (by omega)]
/-- the next order -/
theorem rk_next {n i : Nat} {f g : Nat → Nat} (hf : Ord n f) (hg : Ord n g) (hi : i < n) (hag : ∀ j, j < i → g j = f j) (hlt : f i < g i) (hno : ∀ j, i < j → j < n → f i < f j → g i ≤ f j) (hd : Dn f (i + 1) n) (hu : Up g (i + 1) n) : rk g n 0 = rk f n 0 + 1 := by
  have hpi := preg_congr hag
  have key : ∀ k j, j + k = n → j ≤ i → rk g k j = rk f k j + 1 := by
    intro k
    induction k with
    | zero => intro j h1 h2; omega
    | succ k ih =>
      intro j h1 h2
      show fct k * fr (pre g j) (g j) + rk g k (j + 1) = fct k * fr (pre f j) (f j) + rk f k (j + 1) + 1
      by_cases e : j = i
      · subst e
        rw [hpi, rk_up hg k (j + 1) (by omega) hu, Nat.add_assoc, rk_dn hf k (j + 1) (by omega) hd, fr_step hlt (pre_new hf (by omega)) (fun y h3 h4 => ?_), Nat.mul_add, Nat.mul_one]
        · rfl
        · have := hg.1 j (by omega)
          rcases pre_in hf (show j ≤ n by omega) (show y < n by omega) with c | ⟨t, t1, t2, t3⟩
          · exact c
          · exfalso
            by_cases e : t = j
            · rw [e] at t3; omega
            · have := hno t (by omega) t2 (by omega)
              omega
      · rw [ih (j + 1) (by omega) (by omega), preg_congr (fun t ht => hag t (by omega)), hag j (by omega)]
        rfl
  exact key n 0 (Nat.zero_add n) (Nat.zero_le i)
