/-! ===== is it an order; what is scratch ===== -/
def KC2 (M M' : tr_M) : Prop := (∀ b, 24 ≤ b → b < 55 → b ≠ 44 → M'.1 b = M.1 b) ∧ ∀ k, 15 ≤ k → M'.1 1 k = M.1 1 k
theorem KC2.rf {M : tr_M} : KC2 M M := ⟨fun _ _ _ _ => rfl, fun _ _ => rfl⟩
theorem KC2.tr {M M' M'' : tr_M} (h : KC2 M M') (h2 : KC2 M' M'') : KC2 M M'' := ⟨fun b h1 h3 h4 => (h2.1 b h1 h3 h4).trans (h.1 b h1 h3 h4), fun k hk => (h2.2 k hk).trans (h.2 k hk)⟩
theorem KC.to2 {M M' : tr_M} (h : KC M M') : KC2 M M' := ⟨fun b h1 h2 _ => h.1 b (by omega) (by omega), h.2⟩
def Res2 {ρ : Type} (a b : Option (ρ × tr_M)) (M1 M2 : tr_M) : Prop := ∃ (r : ρ) (N1 N2 : tr_M), a = some (r, N1) ∧ b = some (r, N2) ∧ ITF N1 N2 ∧ KC2 M1 N1 ∧ KM M2 N2
theorem Res.to2 {ρ : Type} {a b : Option (ρ × tr_M)} {M1 M2 : tr_M} (h : Res a b M1 M2) : Res2 a b M1 M2 := by
  obtain ⟨r, N1, N2, e1, e2, e3, e4, e5⟩ := h
  exact ⟨r, N1, N2, e1, e2, e3, e4.to2, e5⟩
theorem Res2.keep {ρ : Type} {a b : Option (ρ × tr_M)} {M1 M2 N1 N2 : tr_M} (h : Res2 a b N1 N2) (k1 : KC2 M1 N1) (k2 : KM M2 N2) : Res2 a b M1 M2 := by
  obtain ⟨r, P1, P2, e1, e2, e3, e4, e5⟩ := h
  exact ⟨r, P1, P2, e1, e2, e3, k1.tr e4, k2.tr e5⟩
/-- only scratch has changed -/
def SC (M N : tr_M) : Prop := (∀ c, c ≠ 44 → c ≠ 55 → c ≠ 56 → (c < 58 ∨ 61 < c) → N.1 c = M.1 c) ∧ N.2 = M.2
def SM (M N : tr_M) : Prop := (∀ c, c ≠ 5 → c ≠ 12 → c ≠ 13 → c ≠ 19 → c ≠ 20 → N.1 c = M.1 c) ∧ N.2 = M.2
theorem SC.rf {M : tr_M} : SC M M := ⟨fun _ _ _ _ _ => rfl, rfl⟩
theorem SM.rf {M : tr_M} : SM M M := ⟨fun _ _ _ _ _ _ => rfl, rfl⟩
theorem SC.tr {M M' M'' : tr_M} (h : SC M M') (h2 : SC M' M'') : SC M M'' := ⟨fun c a b d e => (h2.1 c a b d e).trans (h.1 c a b d e), h2.2.trans h.2⟩
theorem SM.tr {M M' M'' : tr_M} (h : SM M M') (h2 : SM M' M'') : SM M M'' := ⟨fun c a b d e f => (h2.1 c a b d e f).trans (h.1 c a b d e f), h2.2.trans h.2⟩
theorem SC.row {M : tr_M} {a : Nat} {f : Nat → Int32} (h : a = 44 ∨ a = 55 ∨ a = 56 ∨ (58 ≤ a ∧ a ≤ 61)) : SC M (tr_row M a f) := ⟨fun c _ _ _ _ => tr_row_ne (by omega), rfl⟩
theorem SM.row {M : tr_M} {a : Nat} {f : Nat → Int32} (h : a = 5 ∨ a = 12 ∨ a = 13 ∨ a = 19 ∨ a = 20) : SM M (tr_row M a f) := ⟨fun c _ _ _ _ _ => tr_row_ne (by omega), rfl⟩
theorem SC.kc {M N : tr_M} (h : SC M N) : KC2 M N := ⟨fun b h1 h2 h3 => h.1 b (by omega) (by omega) (by omega) (by omega), fun k _ => by rw [h.1 1 (by omega) (by omega) (by omega) (by omega)]⟩
theorem SM.km {M N : tr_M} (h : SM M N) : KM M N := ⟨h.1 8 (by omega) (by omega) (by omega) (by omega) (by omega), h.1 9 (by omega) (by omega) (by omega) (by omega) (by omega), by rw [h.1 1 (by omega) (by omega) (by omega) (by omega) (by omega)], by rw [h.1 1 (by omega) (by omega) (by omega) (by omega) (by omega)], by rw [h.1 1 (by omega) (by omega) (by omega) (by omega) (by omega)]⟩
theorem ITF.sc {M1 M2 N1 N2 : tr_M} (h : ITF M1 M2) (h1 : SC M1 N1) (h2 : SM M2 N2) : ITF N1 N2 := h.congr (fun c _ _ _ _ _ => h1.1 c (by omega) (by omega) (by omega) (by omega)) (fun k _ => by rw [h1.1 1 (by omega) (by omega) (by omega) (by omega)]) h1.2 (fun c _ _ _ => h2.1 c (by omega) (by omega) (by omega) (by omega) (by omega)) (fun k _ => by rw [h2.1 1 (by omega) (by omega) (by omega) (by omega) (by omega)]) (fun k _ => by rw [h2.2])
theorem CWd.sc {w : Wd} {M N : tr_M} (h : CWd w 26 M) (hs : SC M N) : CWd w 26 N := h.congr fun b h1 h2 => hs.1 b (by omega) (by omega) (by omega) (by omega)
theorem MWd.sm {w : Wd} {M N : tr_M} (h : MWd w M) (hs : SM M N) : MWd w N := h.congr hs.km.2.2.1 hs.km.2.2.2.1 hs.km.1 hs.km.2.1
theorem IWd.sc {w : Wd} {M1 M2 N1 N2 : tr_M} (h : IWd w M1 M2) (h1 : SC M1 N1) (h2 : SM M2 N2) : IWd w N1 N2 := ⟨h.1, h.2.1.sc h1, h.2.2.sm h2⟩
theorem Res2.sc {ρ : Type} {r : ρ} {M1 M2 N1 N2 : tr_M} (h : ITF M1 M2) (h1 : SC M1 N1) (h2 : SM M2 N2) : Res2 (some (r, N1)) (some (r, N2)) M1 M2 := ⟨r, N1, N2, rfl, rfl, h.sc h1 h2, h1.kc, h2.km⟩
theorem everything_eq {o n : Nat} {M : tr_M} (h : M.1 o 0 = nI n) (hn : n ≤ 10) : mX5_everything o M = nI (2 ^ n - 1) := by
  unfold mX5_everything
  rw [h, sh1 (by omega), show (1 : Int32) = nI 1 from rfl, nsub (Nat.one_le_two_pow)]
theorem full_eq {n : Nat} {M : tr_M} (h : M.1 1 10 = nI n) (hn : n ≤ 10) : mX7_full M = nI (2 ^ n - 1) := by
  unfold mX7_full
  rw [h, sh1 (by omega), show (1 : Int32) = nI 1 from rfl, nsub (Nat.one_le_two_pow)]
theorem pow_lt {n : Nat} (hn : n ≤ 10) : 2 ^ n ≤ 1024 := Nat.pow_le_pow_right (n := 2) (by decide) hn
theorem ins_in {s x : Nat} (h : s.testBit x = true) : ins s x = s := by
  refine Nat.eq_of_testBit_eq fun i => ?_
  rw [ins_bit]
  by_cases c : x = i
  · subst c; simp [h]
  · simp [c]
/-- steps that are all new make an order -/
theorem ord_new {n : Nat} {f : Nat → Nat} (h1 : ∀ i, i < n → f i < n) (h2 : ∀ i, i < n → (pre f i).testBit (f i) = false) : Ord n f := by
  have key : ∀ a b, a < b → b < n → f a ≠ f b := fun a b hab hb q => by
    have h3 := h2 b hb
    have h4 := (pre_bit f (f b) b).mpr ⟨a, hab, q⟩
    rw [h3] at h4
    cases h4
  refine ⟨h1, fun i j hi hj e => ?_⟩
  rcases Nat.lt_trichotomy i j with q | q | q
  · exact absurd e (key i j q hj)
  · exact q
  · exact absurd e.symm (key j i q hi)
theorem cnt_pre_le {n : Nat} {f : Nat → Nat} (h1 : ∀ i, i < n → f i < n) : ∀ {i : Nat}, i ≤ n → cnt n (pre f i) ≤ i ∧ (∀ j, j < i → (pre f j).testBit (f j) = true → cnt n (pre f i) + 1 ≤ i)
  | 0, _ => ⟨by rw [show pre f 0 = 0 from rfl, cnt_0]; exact Nat.le_refl _, fun j hj _ => by omega⟩
  | i + 1, hi => by
    obtain ⟨ih1, ih2⟩ := cnt_pre_le h1 (i := i) (by omega)
    show cnt n (ins (pre f i) (f i)) ≤ i + 1 ∧ ∀ j, j < i + 1 → (pre f j).testBit (f j) = true → cnt n (ins (pre f i) (f i)) + 1 ≤ i + 1
    cases c : (pre f i).testBit (f i) with
    | true =>
      rw [ins_in c]
      exact ⟨by omega, fun j hj _ => by omega⟩
    | false =>
      rw [cnt_ins (h1 i (by omega)) c]
      refine ⟨by omega, fun j hj q => ?_⟩
      by_cases e : j = i
      · rw [e, c] at q; cases q
      · have := ih2 j (by omega) q
        omega
theorem ord_full {n : Nat} {f : Nat → Nat} (h1 : ∀ i, i < n → f i < n) (h2 : pre f n = 2 ^ n - 1) : Ord n f := by
  refine ord_new h1 fun i hi => ?_
  cases c : (pre f i).testBit (f i) with
  | false => rfl
  | true =>
    have h3 := (cnt_pre_le h1 (Nat.le_refl n)).2 i hi c
    rw [h2, cnt_all (fun j hj => by rw [full_bit]; simp [hj])] at h3
    omega
theorem thing_dec (x : Int32) (n : Nat) : (∃ a, a < n ∧ x = nI a) ∨ ¬ ∃ a, a < n ∧ x = nI a := Classical.em _
theorem pre_lt' {n : Nat} {f : Nat → Nat} : ∀ {i : Nat}, (∀ j, j < i → f j < n) → pre f i < 2 ^ n
  | 0, _ => Nat.two_pow_pos n
  | i + 1, h => ins_lt (pre_lt' fun j hj => h j (by omega)) (h i (by omega))
theorem isOrder_loop {n c : Nat} {f : Nat → Nat} {M : tr_M} (hn : n ≤ 10) (hw : M.1 26 0 = nI n) (hl : n ≤ tr_len shC c) (hl2 : tr_len shC c < 2147483648) {i : Nat} (hi : i < n) (hfi : f i < n) (hc : M.1 c i = nI (f i)) : mX5_isOrder_l4 26 c M (nI (pre f i), nI i) = some (.inl (nI (pre f (i + 1)), nI (i + 1))) := by
  unfold mX5_isOrder_l4
  simp (disch := omega) only [hw, nlt, hi, if_true, tr_rd_nI, hc, Option.bind_some, isThing_c1 hn hw hfi, if_neg (show ¬ (1 : Int32) = 0 by decide), ins_nI, nadd1]
  rfl
theorem isOrder_all {n c : Nat} {f : Nat → Nat} {M : tr_M} (hn : n ≤ 10) (hw : M.1 26 0 = nI n) (hl : n ≤ tr_len shC c) (hl2 : tr_len shC c < 2147483648) (hf : ∀ i, i < n → f i < n) (hc : HasF M c n f) : mX5_isOrder 26 c M = some (if pre f n = 2 ^ n - 1 then 1 else 0) := by
  unfold mX5_isOrder
  have hp := pow_lt hn
  have hpl := pre_lt' (n := n) (f := f) (i := n) hf
  have e : tr_loop (mX5_isOrder_l4 26 c M) (0, 0) = some (.inl (nI (pre f n))) := by
    refine tr_loop_seq' (fun i => (nI (pre f i), nI i)) n rfl (by omega) (fun i hi => isOrder_loop hn hw hl hl2 hi (hf i hi) (hc i hi)) ?_
    unfold mX5_isOrder_l4
    simp (disch := omega) only [hw, nlt, Nat.lt_irrefl, if_false]
  rw [e]
  dsimp only [Option.bind_some, tr_el]
  rw [everything_eq hw hn]
  simp (disch := omega) only [neq]
  by_cases q : pre f n = 2 ^ n - 1
  · rw [if_pos q, if_pos q]
  · rw [if_neg q, if_neg q]
theorem isOrder_pos {n c : Nat} {f : Nat → Nat} {M : tr_M} (hn : n ≤ 10) (hw : M.1 26 0 = nI n) (hl : n ≤ tr_len shC c) (hl2 : tr_len shC c < 2147483648) (hf : Ord n f) (hc : HasF M c n f) : mX5_isOrder 26 c M = some 1 := by
  rw [isOrder_all hn hw hl hl2 hf.1 hc, if_pos (pre_full hf)]
theorem isOrder_neg {n c : Nat} {M : tr_M} (hn : n ≤ 10) (hw : M.1 26 0 = nI n) (hl : n ≤ tr_len shC c) (hl2 : tr_len shC c < 2147483648) (h : ¬ ∃ f, Ord n f ∧ HasF M c n f) : mX5_isOrder 26 c M = some 0 := by
  by_cases q : ∀ i, i < n → ∃ a, a < n ∧ M.1 c i = nI a
  · have hc : HasF M c n (fun i => (M.1 c i).toNatClampNeg) := fun i hi => by
      obtain ⟨a, ha, e⟩ := q i hi
      show M.1 c i = nI (M.1 c i).toNatClampNeg
      rw [e, nI_clamp (by omega)]
    have hf : ∀ i, i < n → (fun i => (M.1 c i).toNatClampNeg) i < n := fun i hi => by
      obtain ⟨a, ha, e⟩ := q i hi
      show (M.1 c i).toNatClampNeg < n
      rw [e, nI_clamp (by omega)]
      exact ha
    rw [isOrder_all hn hw hl hl2 hf hc, if_neg]
    intro e
    exact h ⟨_, ord_full hf e, hc⟩
  · have q2 : ∃ i, i < n ∧ ¬ ∃ a, a < n ∧ M.1 c i = nI a := by
      refine Classical.byContradiction fun e => q fun i hi => ?_
      exact Classical.byContradiction fun e2 => e ⟨i, hi, e2⟩
    obtain ⟨i0, ⟨h1, h2⟩, h3⟩ := pk_least _ q2
    have h4 : ∀ i, i < i0 → ∃ a, a < n ∧ M.1 c i = nI a := fun i hi => Classical.byContradiction fun e => h3 i hi ⟨by omega, e⟩
    unfold mX5_isOrder
    have e : tr_loop (mX5_isOrder_l4 26 c M) (0, 0) = some (.inr 0) := by
      refine tr_loop_seq' (fun i => (nI (pre (fun i => (M.1 c i).toNatClampNeg) i), nI i)) i0 rfl (by omega) (fun i hi => ?_) ?_
      · obtain ⟨a, ha, ea⟩ := h4 i hi
        refine isOrder_loop hn hw hl hl2 (by omega) ?_ ?_
        · show (M.1 c i).toNatClampNeg < n
          rw [ea, nI_clamp (by omega)]
          exact ha
        · show M.1 c i = nI (M.1 c i).toNatClampNeg
          rw [ea, nI_clamp (by omega)]
      · unfold mX5_isOrder_l4
        have hno : mX5_isThing 26 (M.1 c i0) M = 0 := by
          refine isThing_c hn hw ?_
          rcases n_cases (M.1 c i0) with hneg | ⟨k, hk, ek⟩
          · exact Or.inl hneg
          · right
            rw [ek, nlt hk (by omega)]
            intro hlt
            exact h2 ⟨k, hlt, ek⟩
        simp (disch := omega) only [hw, nlt, h1, if_true, tr_rd_nI, Option.bind_some, hno]
    rw [e]
    rfl
