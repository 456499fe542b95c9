/-! ===== loops side by side, loops that add up ===== -/
theorem loops_both {σ₁ σ₂ ρ₁ ρ₂ : Type} {st1 : σ₁ → Option (σ₁ ⊕ ρ₁)} {st2 : σ₂ → Option (σ₂ ⊕ ρ₂)} {a : σ₁} {b : σ₂} (R : Nat → σ₁ → σ₂ → Prop) (Q : ρ₁ → ρ₂ → Prop) (n : Nat) (hn : n < 4294967296) (h0 : R 0 a b) (hs : ∀ i s t, i < n → R i s t → (∃ s' t', st1 s = some (.inl s') ∧ st2 t = some (.inl t') ∧ R (i + 1) s' t') ∨ (∃ r q, st1 s = some (.inr r) ∧ st2 t = some (.inr q) ∧ Q r q)) (he : ∀ s t, R n s t → ∃ r q, st1 s = some (.inr r) ∧ st2 t = some (.inr q) ∧ Q r q) : ∃ r q, tr_loop st1 a = some r ∧ tr_loop st2 b = some q ∧ Q r q := by
  have key : ∀ k i s t, i + k = n → R i s t → ∃ r q, tr_it st1 (k + 1) s = some r ∧ tr_it st2 (k + 1) t = some q ∧ Q r q := by
    intro k
    induction k with
    | zero =>
      intro i s t hi hI
      have : i = n := by omega
      subst this
      obtain ⟨r, q, h1, h2, h3⟩ := he s t hI
      exact ⟨r, q, tr_it_r h1, tr_it_r h2, h3⟩
    | succ k ih =>
      intro i s t hi hI
      rcases hs i s t (by omega) hI with ⟨s', t', h1, h2, h3⟩ | ⟨r, q, h1, h2, h3⟩
      · obtain ⟨r, q, h4, h5, h6⟩ := ih (i + 1) s' t' (by omega) h3
        exact ⟨r, q, by rw [tr_it_l h1]; exact h4, by rw [tr_it_l h2]; exact h5, h6⟩
      · exact ⟨r, q, tr_it_r h1, tr_it_r h2, h3⟩
  obtain ⟨r, q, h1, h2, h3⟩ := key n 0 a b (by omega) h0
  exact ⟨r, q, tr_loop_of h1 (by omega), tr_loop_of h2 (by omega), h3⟩
theorem loop_sum {ρ : Type} {step : Int32 × Int32 → Option ((Int32 × Int32) ⊕ ρ)} {n : Nat} {f : Nat → Nat} {g : Int32 → ρ} (a0 : Nat) (hn : n < 4294967296) (h : ∀ i a, i < n → step (nI a, nI i) = some (.inl (nI (a + f i), nI (i + 1)))) (he : ∀ a, step (nI a, nI n) = some (.inr (g (nI a)))) : tr_loop step (nI a0, nI 0) = some (g (nI (a0 + sm n f))) := by
  refine tr_loop_seq' (fun i => (nI (a0 + sm i f), nI i)) n ?_ hn (fun i hi => ?_) ?_
  · show (nI (a0 + 0), nI 0) = _
    rw [Nat.add_zero]
  · show step (nI (a0 + sm i f), nI i) = some (.inl (nI (a0 + (sm i f + f i)), nI (i + 1)))
    rw [h i _ hi, Nat.add_assoc]
  · exact he _
def fo {β : Type} (F : Nat → β → β) : Nat → β → β
  | 0, b => b
  | n + 1, b => F n (fo F n b)
theorem loop_fo {σ ρ β : Type} {step : σ → Option (σ ⊕ ρ)} (enc : β → Nat → σ) (F : Nat → β → β) (P : Nat → β → Prop) {g : β → ρ} (b0 : β) (n : Nat) (hn : n < 4294967296) (h0 : P 0 b0) (h : ∀ i b, i < n → P i b → step (enc b i) = some (.inl (enc (F i b) (i + 1))) ∧ P (i + 1) (F i b)) (he : ∀ b, P n b → step (enc b n) = some (.inr (g b))) : tr_loop step (enc b0 0) = some (g (fo F n b0)) ∧ P n (fo F n b0) := by
  have hp : ∀ i, i ≤ n → P i (fo F i b0) := by
    intro i
    induction i with
    | zero => intro _; exact h0
    | succ i ih => intro hi; exact (h i _ (by omega) (ih (by omega))).2
  refine ⟨tr_loop_seq' (fun i => enc (fo F i b0) i) n rfl hn (fun i hi => ?_) ?_, hp n (Nat.le_refl _)⟩
  · exact (h i _ hi (hp i (by omega))).1
  · exact he _ (hp n (Nat.le_refl _))
theorem sm_zero {f : Nat → Nat} {n : Nat} (hz : ∀ i, n ≤ i → f i = 0) : ∀ {m : Nat}, n ≤ m → sm m f = sm n f
  | 0, h => by rw [show n = 0 by omega]
  | m + 1, h => by
    by_cases e : n = m + 1
    · rw [e]
    · show sm m f + f m = _
      rw [sm_zero hz (show n ≤ m by omega), hz m (by omega)]
      rfl
theorem cnt_sm (s : Nat) : ∀ n, cnt n s = sm n (fun i => if s.testBit i = true then 1 else 0)
  | 0 => rfl
  | n + 1 => by
    show cnt n s + _ = sm n _ + _
    rw [cnt_sm s n]
theorem tied_bit (w : Wd) (a i : Nat) : (tied w a).testBit i = (decide (i < 10) && decide (0 < w.2.1 a i)) := mkb_bit _ 10 i
theorem tied_lt (w : Wd) (a : Nat) : tied w a < 1024 := mkb_lt _ 10
theorem W_hi {w : Wd} (h : WOk w) {a b : Nat} (hb : w.1 ≤ b) : w.2.1 a b = 0 := by
  rw [h.2.2.1]
  exact h.2.2.2.1 b a (Or.inl hb)
theorem cnt_tied {w : Wd} (h : WOk w) (a : Nat) : cnt 10 (tied w a) = sm w.1 (fun b => if 0 < w.2.1 a b then 1 else 0) := by
  rw [cnt_sm, ← sm_zero (f := fun b => if 0 < w.2.1 a b then 1 else 0) (m := 10) (fun i hi => ?_) h.1]
  · refine sm_congr fun i hi => ?_
    show (if (tied w a).testBit i = true then 1 else 0) = if 0 < w.2.1 a i then 1 else 0
    rw [tied_bit]
    simp [hi]
  · show (if 0 < w.2.1 a i then 1 else 0) = 0
    rw [W_hi h hi]
    rfl
theorem load_sm {w : Wd} (h : WOk w) (a : Nat) : load w a = sm w.1 (w.2.1 a) := sm_zero (fun i hi => W_hi h hi) h.1
theorem bitCount_tied (w : Wd) (a : Nat) : mJ6_bitCount_0f7a4 (nI (tied w a)) = some (nI (cnt 10 (tied w a))) := bitCount_eq (tied_lt w a)
theorem n00 : (0 : Int32) = nI 0 := rfl
theorem cnt_le (s : Nat) : ∀ n, cnt n s ≤ n
  | 0 => Nat.le_refl _
  | n + 1 => by
    show cnt n s + (if s.testBit n = true then 1 else 0) ≤ n + 1
    have := cnt_le s n
    by_cases e : s.testBit n = true
    · rw [if_pos e]; omega
    · rw [if_neg e]; omega
theorem tieCount_eq {w : Wd} {o : Nat} {M : tr_M} (hok : WOk w) (hw : CWd w o M) : mX5_tieCount o M = some (nI (sm w.1 (fun a => cnt 10 (tied w a)) / 2)) := by
  have hn := hok.1
  have e := loop_sum (step := mX5_tieCount_l4 o M) (n := w.1) (f := fun a => cnt 10 (tied w a)) (g := fun a => a / 2) 0 (by omega) (fun i a hi => by
    unfold mX5_tieCount_l4
    simp (disch := omega) only [hw.1, nlt, hi, if_true, tr_rd_nI, Option.bind_some, hw.2.2.2.2.1, bitCount_tied, nadd, nadd1]) (fun a => by
    unfold mX5_tieCount_l4
    simp (disch := omega) only [hw.1, nlt, Nat.lt_irrefl, if_false])
  have hb : sm w.1 (fun a => cnt 10 (tied w a)) ≤ w.1 * 10 := sm_le fun i hi => cnt_le _ 10
  rw [show (0 + sm w.1 (fun a => cnt 10 (tied w a))) = sm w.1 (fun a => cnt 10 (tied w a)) from Nat.zero_add _, show (2 : Int32) = nI 2 from rfl, pk_div (by omega) (by decide) (by decide)] at e
  exact e
theorem tiesOf_eq {w : Wd} {a : Nat} {M : tr_M} (hok : WOk w) (hm : MWd w M) (ha : a < 10) : mX7_tiesOf (nI a) M = some (nI (cnt 10 (tied w a))) := by
  have hn := hok.1
  have e := loop_sum (step := mX7_tiesOf_l4 (nI a) M) (n := w.1) (f := fun b => if 0 < w.2.1 a b then 1 else 0) (g := fun a => a) 0 (by omega) (fun i c hi => by
    unfold mX7_tiesOf_l4
    have h9 := hok.2.1 a i
    simp (disch := omega) only [hm.1, nlt, hi, if_true, weight_eq, hm.2.2.1, Option.bind_some, n0lt]
    by_cases d : 0 < w.2.1 a i
    · simp only [d, if_true, nadd1]
    · simp only [d, if_false, n00, nadd, nadd1]) (fun c => by
    unfold mX7_tiesOf_l4
    simp (disch := omega) only [hm.1, nlt, Nat.lt_irrefl, if_false])
  rw [Nat.zero_add, ← cnt_tied hok] at e
  exact e
theorem weightOf_eq {w : Wd} {a : Nat} {M : tr_M} (hok : WOk w) (hm : MWd w M) (ha : a < 10) : mX7_weightOf (nI a) M = some (nI (load w a)) := by
  have hn := hok.1
  have e := loop_sum (step := mX7_weightOf_l4 (nI a) M) (n := w.1) (f := w.2.1 a) (g := fun a => a) 0 (by omega) (fun i c hi => by
    unfold mX7_weightOf_l4
    simp (disch := omega) only [hm.1, nlt, hi, if_true, weight_eq, hm.2.2.1, Option.bind_some, nadd, nadd1]) (fun c => by
    unfold mX7_weightOf_l4
    simp (disch := omega) only [hm.1, nlt, Nat.lt_irrefl, if_false])
  rw [Nat.zero_add, ← load_sm hok] at e
  exact e
theorem tieMany_eq {w : Wd} {M : tr_M} (hok : WOk w) (hm : MWd w M) : mX7_tieMany M = some (nI (sm w.1 (fun a => cnt 10 (tied w a)) / 2)) := by
  have hn := hok.1
  have e := loop_sum (step := mX7_tieMany_l4 M) (n := w.1) (f := fun a => cnt 10 (tied w a)) (g := fun a => a / 2) 0 (by omega) (fun i a hi => by
    unfold mX7_tieMany_l4
    simp (disch := omega) only [hm.1, nlt, hi, if_true, tiesOf_eq hok hm, Option.bind_some, nadd, nadd1]) (fun a => by
    unfold mX7_tieMany_l4
    simp (disch := omega) only [hm.1, nlt, Nat.lt_irrefl, if_false])
  have hb : sm w.1 (fun a => cnt 10 (tied w a)) ≤ w.1 * 10 := sm_le fun i hi => cnt_le _ 10
  rw [show (0 + sm w.1 (fun a => cnt 10 (tied w a))) = sm w.1 (fun a => cnt 10 (tied w a)) from Nat.zero_add _, show (2 : Int32) = nI 2 from rfl, pk_div (by omega) (by decide) (by decide)] at e
  exact e
