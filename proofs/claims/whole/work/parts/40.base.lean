/-! ===== the pure part: loops, numbers, memory ===== -/
theorem tr_it_mono {σ ρ : Type} {step : σ → Option (σ ⊕ ρ)} {r : ρ} : ∀ {n m : Nat} {s : σ}, tr_it step n s = some r → n ≤ m → tr_it step m s = some r
  | 0, _, _, h, _ => by cases h
  | n + 1, 0, _, _, hm => by omega
  | n + 1, m + 1, s, h, hm => by
    unfold tr_it at h ⊢
    cases hst : step s with
    | none => rw [hst] at h; cases h
    | some q =>
      rw [hst] at h
      cases q with
      | inr r1 => exact h
      | inl s1 => exact tr_it_mono (n := n) (m := m) h (by omega)
theorem tr_loop_of {σ ρ : Type} {step : σ → Option (σ ⊕ ρ)} {r : ρ} {n : Nat} {s : σ} (h : tr_it step n s = some r) (hn : n ≤ 4294967296) : tr_loop step s = some r := tr_it_mono h hn
theorem tr_it_r {σ ρ : Type} {step : σ → Option (σ ⊕ ρ)} {r : ρ} {s : σ} {n : Nat} (h : step s = some (.inr r)) : tr_it step (n + 1) s = some r := by
  unfold tr_it
  rw [h]
theorem tr_it_l {σ ρ : Type} {step : σ → Option (σ ⊕ ρ)} {s s' : σ} {n : Nat} (h : step s = some (.inl s')) : tr_it step (n + 1) s = tr_it step n s' := by
  conv => lhs; unfold tr_it
  rw [h]
/-- the states of a loop one by one -/
theorem tr_loop_seq {σ ρ : Type} {step : σ → Option (σ ⊕ ρ)} {r : ρ} (S : Nat → σ) (n : Nat) (hn : n < 4294967296) (hs : ∀ i, i < n → step (S i) = some (.inl (S (i + 1)))) (he : step (S n) = some (.inr r)) : tr_loop step (S 0) = some r := by
  have key : ∀ k i, i + k = n → tr_it step (k + 1) (S i) = some r := by
    intro k
    induction k with
    | zero =>
      intro i hi
      have : i = n := by omega
      subst this
      exact tr_it_r he
    | succ k ih =>
      intro i hi
      rw [tr_it_l (hs i (by omega))]
      exact ih (i + 1) (by omega)
  exact tr_loop_of (key n 0 (by omega)) (by omega)
theorem tr_loop_seq' {σ ρ : Type} {step : σ → Option (σ ⊕ ρ)} {r : ρ} {s0 : σ} (S : Nat → σ) (n : Nat) (h0 : S 0 = s0) (hn : n < 4294967296) (hs : ∀ i, i < n → step (S i) = some (.inl (S (i + 1)))) (he : step (S n) = some (.inr r)) : tr_loop step s0 = some r := by
  rw [← h0]
  exact tr_loop_seq S n hn hs he
/-- what holds at each turn; the loop ends at the n-th turn at the latest -/
theorem tr_loop_inv {σ ρ : Type} {step : σ → Option (σ ⊕ ρ)} {s0 : σ} (I : Nat → σ → Prop) (R : ρ → Prop) (n : Nat) (hn : n < 4294967296) (h0 : I 0 s0) (hs : ∀ i s, i < n → I i s → (∃ s', step s = some (.inl s') ∧ I (i + 1) s') ∨ (∃ r, step s = some (.inr r) ∧ R r)) (he : ∀ s, I n s → ∃ r, step s = some (.inr r) ∧ R r) : ∃ r, tr_loop step s0 = some r ∧ R r := by
  have key : ∀ k i s, i + k = n → I i s → ∃ r, tr_it step (k + 1) s = some r ∧ R r := by
    intro k
    induction k with
    | zero =>
      intro i s hi hI
      have : i = n := by omega
      subst this
      obtain ⟨r, h1, h2⟩ := he s hI
      exact ⟨r, tr_it_r h1, h2⟩
    | succ k ih =>
      intro i s hi hI
      rcases hs i s (by omega) hI with ⟨s', h1, h2⟩ | ⟨r, h1, h2⟩
      · obtain ⟨r, h3, h4⟩ := ih (i + 1) s' (by omega) h2
        exact ⟨r, by rw [tr_it_l h1]; exact h3, h4⟩
      · exact ⟨r, tr_it_r h1, h2⟩
  obtain ⟨r, h1, h2⟩ := key n 0 s0 (by omega) h0
  exact ⟨r, tr_loop_of h1 (by omega), h2⟩
-- memory
theorem tr_st_1 (M : tr_M) (a k : Nat) (v : Int32) (b j : Nat) : (tr_st M a k v).1 b j = if b = a ∧ j = k then v else M.1 b j := rfl
theorem tr_st_2 (M : tr_M) (a k : Nat) (v : Int32) : (tr_st M a k v).2 = M.2 := rfl
theorem tr_sl_1 (M : tr_M) (a k : Nat) (v : Int64) : (tr_sl M a k v).1 = M.1 := rfl
theorem tr_sl_2 (M : tr_M) (a k : Nat) (v : Int64) (b j : Nat) : (tr_sl M a k v).2 b j = if b = a ∧ j = k then v else M.2 b j := rfl
theorem tr_row_1 (M : tr_M) (a : Nat) (f : Nat → Int32) (b : Nat) : (tr_row M a f).1 b = if b = a then f else M.1 b := rfl
theorem tr_row_2 (M : tr_M) (a : Nat) (f : Nat → Int32) : (tr_row M a f).2 = M.2 := rfl
theorem tr_ix_nI {k n : Nat} (h : k < n) (hn : n < 2147483648) : tr_ix (nI k) n = true := by
  unfold tr_ix
  rw [Bool.and_eq_true, Bool.not_eq_true', decide_eq_false_iff_not, decide_eq_true_eq]
  exact ⟨nI_pos (by omega), by rw [nI_clamp (by omega)]; exact h⟩
theorem tr_rd_nI {n : Nat} {M : tr_M} {a k : Nat} (h : k < n) (hn : n < 2147483648) : tr_rd n M a (nI k) = some (M.1 a k) := by
  unfold tr_rd
  rw [if_pos (tr_ix_nI h hn), nI_clamp (by omega)]
theorem tr_wr_nI {n : Nat} {M : tr_M} {a k : Nat} {v : Int32} (h : k < n) (hn : n < 2147483648) : tr_wr n M a (nI k) v = some (tr_st M a k v) := by
  unfold tr_wr
  rw [if_pos (tr_ix_nI h hn), nI_clamp (by omega)]
theorem tr_ra_nI {n : Nat} {f : Nat → Nat} {k : Nat} (h : k < n) (hn : n < 2147483648) : tr_ra n f (nI k) = some (f k) := by
  unfold tr_ra
  rw [if_pos (tr_ix_nI h hn), nI_clamp (by omega)]
theorem tr_cpy_nI {n0 n1 : Nat} {M : tr_M} {a0 a1 sp dp n : Nat} (h0 : sp + n ≤ n0) (h1 : dp + n ≤ n1) (p0 : 0 < n0) (p1 : 0 < n1) (q0 : n0 < 2147483648) (q1 : n1 < 2147483648) : tr_cpy n0 n1 M a0 (nI sp) a1 (nI dp) (nI n) = some (tr_row M a1 (va_cpy (M.1 a0) (M.1 a1) sp dp n)) := by
  unfold tr_cpy
  rw [nI_clamp (show sp < 2 ^ 31 by omega), nI_clamp (show dp < 2 ^ 31 by omega), nI_clamp (show n < 2 ^ 31 by omega), if_neg]
  have a1 := nI_pos (show sp < 2 ^ 31 by omega)
  have a2 := nI_pos (show dp < 2 ^ 31 by omega)
  have a3 := nI_pos (show n < 2 ^ 31 by omega)
  rintro (h | h | h | h | h | h | h)
  · exact a1 h
  · exact a2 h
  · exact a3 h
  · omega
  · omega
  · omega
  · omega
-- numbers: nI k below 2^31
theorem nlt {a b : Nat} (ha : a < 2147483648) (hb : b < 2147483648) : (nI a < nI b) ↔ a < b := nI_ltI ha hb
theorem nle {a b : Nat} (ha : a < 2147483648) (hb : b < 2147483648) : (nI a ≤ nI b) ↔ a ≤ b := nI_leI ha hb
theorem neq {a b : Nat} (ha : a < 2147483648) (hb : b < 2147483648) : (nI a = nI b) ↔ a = b := nI_eq ha hb
theorem nlt0 {a : Nat} (ha : a < 2147483648) : (nI a < 0) ↔ False := ⟨fun h => nI_pos ha h, False.elim⟩
theorem n0lt {a : Nat} (ha : a < 2147483648) : ((0 : Int32) < nI a) ↔ 0 < a := nI_ltI (a := 0) (by decide) ha
theorem neq0 {a : Nat} (ha : a < 2147483648) : (nI a = 0) ↔ a = 0 := nI_eq (b := 0) ha (by decide)
theorem nadd (a b : Nat) : nI a + nI b = nI (a + b) := nI_add a b
theorem nadd1 (a : Nat) : nI a + 1 = nI (a + 1) := nI_1 a
theorem nsub {a b : Nat} (h : b ≤ a) : nI a - nI b = nI (a - b) := pk_sub h
theorem nsub1 {a : Nat} (h : 1 ≤ a) : nI a + (-1) = nI (a - 1) := by
  obtain ⟨k, rfl⟩ : ∃ k, a = k + 1 := ⟨a - 1, by omega⟩
  rw [pk_m1, Nat.add_sub_cancel]
theorem nmul (a b : Nat) : nI a * nI b = nI (a * b) := pk_mul a b
/-- every int is a whole number that is none, or small -/
theorem n_cases (x : Int32) : x < 0 ∨ ∃ k : Nat, k < 2147483648 ∧ x = nI k := by
  by_cases h : x < 0
  · exact Or.inl h
  · obtain ⟨j, h1, h2⟩ := nI_of h
    exact Or.inr ⟨j, h1, h2⟩
theorem n_lt_neg {x : Int32} {k : Nat} (h : x < 0) (hk : k < 2147483648) : x < nI k ∧ ¬ nI k < x ∧ ¬ nI k = x ∧ ¬ x = nI k ∧ ¬ nI k ≤ x := by
  have h0 : x.toInt < 0 := by simpa using Int32.lt_iff_toInt_lt.mp h
  have hk2 : (nI k).toInt = k := nI_toInt hk
  refine ⟨?_, ?_, ?_, ?_, ?_⟩
  · rw [Int32.lt_iff_toInt_lt]; omega
  · rw [Int32.lt_iff_toInt_lt]; omega
  · intro e; rw [e] at hk2; omega
  · intro e; rw [← e] at hk2; omega
  · rw [Int32.le_iff_toInt_le]; omega
