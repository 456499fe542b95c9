/-! ===== orders drawn by lots ===== -/
theorem bits_tab : ∀ s : Fin 1024, tr_it mX7_bits_l4 12 (0, nI s.1) = some (nI (cnt 10 s.1)) := by decide +kernel
theorem bits_eq {s : Nat} (h : s < 1024) : mX7_bits (nI s) = some (nI (cnt 10 s)) := tr_loop_of (bits_tab ⟨s, h⟩) (by decide)
theorem cnt_mono (s : Nat) {a b : Nat} (h : a ≤ b) : cnt a s ≤ cnt b s := by
  induction b with
  | zero => rw [show a = 0 by omega]; exact Nat.le_refl _
  | succ b ih =>
    by_cases e : a = b + 1
    · rw [e]; exact Nat.le_refl _
    · have := ih (by omega)
      show _ ≤ cnt b s + (if s.testBit b = true then 1 else 0)
      omega
theorem cnt_get {s j : Nat} : ∀ {n : Nat}, j < cnt n s → ∃ x, x < n ∧ s.testBit x = true ∧ cnt x s = j
  | 0, h => by cases h
  | n + 1, h => by
    have h : j < cnt n s + (if s.testBit n = true then 1 else 0) := h
    by_cases c : j < cnt n s
    · obtain ⟨x, h1, h2⟩ := cnt_get c
      exact ⟨x, by omega, h2⟩
    · by_cases d : s.testBit n = true
      · rw [if_pos d] at h
        exact ⟨n, by omega, d, by omega⟩
      · rw [if_neg d] at h
        omega
theorem cnt_step {s i : Nat} (h : s.testBit i = true) : cnt (i + 1) s = cnt i s + 1 := by
  show cnt i s + (if s.testBit i = true then 1 else 0) = _
  rw [if_pos h]
theorem cnt_skip {s i : Nat} (h : s.testBit i = false) : cnt (i + 1) s = cnt i s := by
  show cnt i s + (if s.testBit i = true then 1 else 0) = _
  rw [h]; rfl
theorem memberOf_eq {n s j x : Nat} {M : tr_M} (hn : n ≤ 10) (hw : M.1 26 0 = nI n) (hs : s < 1024) (hx : x < n) (hb : s.testBit x = true) (hj : cnt x s = j) : mX5_memberOf 26 (nI s) (nI j) M = some (nI x) := by
  unfold mX5_memberOf
  refine tr_loop_seq' (fun i => (nI (cnt i s), nI i)) x rfl (by omega) (fun i hi => ?_) ?_
  · unfold mX5_memberOf_l5
    have h1 := cnt_le s i
    have h2 := cnt_le s x
    simp (disch := omega) only [hw, nlt, show i < n by omega, if_true, bit_eq0, neq, nadd1]
    cases c : s.testBit i with
    | true =>
      have h3 := cnt_step c
      have h4 := cnt_mono s (show i + 1 ≤ x by omega)
      simp only [Bool.true_eq_false, if_false, if_neg (show ¬ cnt i s = j by omega), h3]
    | false =>
      simp only [if_true, cnt_skip c]
  · unfold mX5_memberOf_l5
    have h2 := cnt_le s x
    simp (disch := omega) only [hw, nlt, hx, if_true, bit_eq0, neq, hb, Bool.true_eq_false, if_false, hj]
theorem pick_eq {s j x : Nat} {a : Int32} {i : Int32} {M : tr_M} (hs : s < 1024) (hx : x < 10) (hb : s.testBit x = true) (hj : cnt x s = j) : tr_loop (mX7_drawLine_l42 (a, nI s, i, M)) (nI j, 0) = some (nI x) := by
  have h2 := cnt_le s x
  refine tr_loop_seq' (fun i => (nI (j - cnt i s), nI i)) x rfl (by omega) (fun i hi => ?_) ?_
  · unfold mX7_drawLine_l42
    have h1 := cnt_le s i
    have h4 := cnt_mono s (show i + 1 ≤ x by omega)
    have h5 := cnt_mono s (show i ≤ x by omega)
    simp (disch := omega) only [has_eq]
    cases c : s.testBit i with
    | true =>
      have h3 := cnt_step c
      simp (disch := omega) only [if_true, if_neg (show ¬ (1 : Int32) = 0 by decide), n0lt, show 0 < j - cnt i s by omega, Option.bind_some, tr_el, nadd1]
      rw [show (1 : Int32) = nI 1 from rfl, nsub (by omega), h3, show j - cnt i s - 1 = j - (cnt i s + 1) by omega]
    | false =>
      simp only [Bool.false_eq_true, if_false, if_true, Option.bind_some, tr_el, nadd1]
      rw [n00, nsub (by omega), cnt_skip c]
      rfl
  · unfold mX7_drawLine_l42
    simp (disch := omega) only [has_eq, hb, if_true, if_neg (show ¬ (1 : Int32) = 0 by decide)]
    rw [hj, Nat.sub_self, if_neg (by decide)]
    rfl
theorem pre_congr {f g : Nat → Nat} : ∀ {i : Nat}, (∀ j, j < i → f j = g j) → pre f i = pre g i
  | 0, _ => rfl
  | i + 1, h => by
    show ins (pre f i) (f i) = ins (pre g i) (g i)
    rw [pre_congr (fun j hj => h j (by omega)), h i (by omega)]
def nxt (x : Nat) : Nat := x * 48271 % 2147483647
theorem nxt_lt (x : Nat) : nxt x < 2147483647 := Nat.mod_lt _ (by decide)
theorem lot_c {x : Nat} (hx : x < 2147483647) : (lN x * (48271 : Int64)) - (lN x * (48271 : Int64)) / (2147483647 : Int64) * (2147483647 : Int64) = lN (nxt x) := by
  rw [show (48271 : Int64) = lN 48271 from rfl, show (2147483647 : Int64) = lN 2147483647 from rfl, lN_mul, pk_lRem (by omega) (by decide) (by decide)]
  rfl
theorem lot_m {x : Nat} (hx : x < 2147483647) : (((48271 : Int64) * (nI x).toInt64) - ((48271 : Int64) * (nI x).toInt64) / (2147483647 : Int64) * (2147483647 : Int64)).toInt32 = nI (nxt x) := by
  rw [nI_l (by omega), show (48271 : Int64) = lN 48271 from rfl, show (2147483647 : Int64) = lN 2147483647 from rfl, lN_mul, pk_lRem (by omega) (by decide) (by decide), lN_i, Nat.mul_comm]
  rfl
/-- what both sides hold as they draw -/
def DrR (w : Wd) (M1 M2 : tr_M) (i : Nat) (s : Int64 × Int32 × Int32 × tr_M) (t : Int32 × Int32 × Int32 × tr_M) : Prop := ∃ x L f N1 N2, s = (lN x, nI L, nI i, N1) ∧ t = (nI x, nI L, nI i, N2) ∧ x < 2147483647 ∧ (∀ y, L.testBit y = (decide (y < w.1) && !(pre f i).testBit y)) ∧ L < 1024 ∧ cnt w.1 L = w.1 - i ∧ (∀ j, j < i → f j < w.1 ∧ (pre f j).testBit (f j) = false ∧ N1.1 59 j = nI (f j) ∧ N2.1 12 j = nI (f j)) ∧ SC M1 N1 ∧ SM M2 N2
theorem cnt_del {n s x : Nat} (hx : x < n) (h : s.testBit x = true) : cnt n (del s x) + 1 = cnt n s := by
  have h1 : (del s x).testBit x = false := by rw [del_bit]; simp
  have h2 := cnt_ins hx h1
  have h3 : ins (del s x) x = s := by
    refine Nat.eq_of_testBit_eq fun i => ?_
    rw [ins_bit, del_bit]
    by_cases c : x = i
    · subst c; simp [h]
    · simp [c]
  rw [h3] at h2
  omega
theorem cnt_10 {n s : Nat} (hn : n ≤ 10) (h : ∀ y, n ≤ y → s.testBit y = false) : cnt 10 s = cnt n s := by
  rw [cnt_sm, cnt_sm]
  exact sm_zero (fun i hi => by rw [h i hi]; rfl) hn
theorem draw_both {w : Wd} {M1 M2 : tr_M} (hw : IWd w M1 M2) {x : Nat} (hx : x < 2147483647) : ∃ y f N1 N2, y < 2147483647 ∧ Ord w.1 f ∧ mX6_drawOrder (nI x) 59 M1 = some (nI y, N1) ∧ mX7_drawLine (nI x) M2 = some (nI y, N2) ∧ HasF N1 59 w.1 f ∧ MOr w f N2 ∧ SC M1 N1 ∧ SM M2 N2 := by
  have hn := hw.1.1
  obtain ⟨r, q, e1, e2, y, f, N1, N2, e3, e4, hy, hord, hc1, hc2, hs1, hs2⟩ := loops_both (st1 := mX6_drawOrder_l15 59) (st2 := mX7_drawLine_l10) (a := ((nI x).toInt64, mX5_everything 26 M1, 0, M1)) (b := (nI x, mX7_full M2, 0, M2)) (DrR w M1 M2) (fun r q => ∃ y f N1 N2, r = (nI y, N1) ∧ q = (nI y, N2) ∧ y < 2147483647 ∧ Ord w.1 f ∧ HasF N1 59 w.1 f ∧ (∀ i, i < w.1 → N2.1 12 i = nI (f i)) ∧ SC M1 N1 ∧ SM M2 N2) w.1 (by omega) (by
    refine ⟨x, 2 ^ w.1 - 1, fun _ => 0, M1, M2, ?_, ?_, hx, fun y => ?_, ?_, ?_, fun j hj => by omega, SC.rf, SM.rf⟩
    · rw [nI_l (by omega), everything_eq hw.2.1.1 hn]; rfl
    · rw [full_eq hw.2.2.1 hn]; rfl
    · rw [full_bit, show pre (fun _ => 0) 0 = 0 from rfl, Nat.zero_testBit]; simp
    · have := pow_lt hn
      have := Nat.two_pow_pos w.1
      omega
    · rw [cnt_all (fun j hj => by rw [full_bit]; simp [hj])]; rfl) (by
    intro i s t hi hR
    left
    obtain ⟨x, L, f, N1, N2, rfl, rfl, hx, hL, hLt, hcnt, hf, hs1, hs2⟩ := hR
    have hw1 : N1.1 26 0 = nI w.1 := by rw [hs1.1 26 (by decide) (by decide) (by decide) (by decide)]; exact hw.2.1.1
    have hw2 : N2.1 1 10 = nI w.1 := by rw [hs2.1 1 (by decide) (by decide) (by decide) (by decide) (by decide)]; exact hw.2.2.1
    have hlt := nxt_lt x
    obtain ⟨z, hz1, hz2, hz3⟩ := cnt_get (s := L) (j := nxt x % (w.1 - i)) (n := w.1) (by rw [hcnt]; exact Nat.mod_lt _ (by omega))
    have hmod : nxt x % (w.1 - i) < 10 := by have := Nat.mod_lt (nxt x) (show 0 < w.1 - i by omega); omega
    have hc10 : cnt 10 L = w.1 - i := by
      rw [cnt_10 hn (fun y hy => by rw [hL]; simp [show ¬ y < w.1 by omega]), hcnt]
    refine ⟨(lN (nxt x), nI (del L z), nI (i + 1), tr_st N1 59 i (nI z)), (nI (nxt x), nI (del L z), nI (i + 1), tr_st N2 12 i (nI z)), ?_, ?_, ?_⟩
    · unfold mX6_drawOrder_l15
      simp (disch := omega) only [hw1, nlt, hi, if_true, lot_c, Option.bind_some, nsub, nI_l]
      unfold tr_rml
      have hne : ¬ lN (w.1 - i) = 0 := by
        rw [show (0 : Int64) = lN 0 from rfl, lN_eq (by omega) (by decide)]
        omega
      rw [if_neg hne, pk_lRem (by omega) (by omega) (by omega)]
      simp only [Option.bind_some, lN_i]
      rw [memberOf_eq hn hw1 hLt hz1 hz2 hz3]
      simp only [Option.bind_some]
      rw [show tr_len shC 59 = 10 from rfl, tr_wr_nI (by omega) (by decide)]
      simp only [Option.bind_some]
      rw [del_nI (by omega), nadd1]
    · unfold mX7_drawLine_l10
      simp (disch := omega) only [hw2, nlt, hi, if_true, lot_m, Option.bind_some, bits_eq, hc10]
      unfold tr_rmi
      have hne : ¬ nI (w.1 - i) = 0 := by
        rw [n00, neq (by omega) (by decide)]
        omega
      rw [if_neg hne, pk_rem (by omega) (by omega) (by omega)]
      simp only [Option.bind_some]
      rw [pick_eq hLt (by omega) hz2 hz3]
      simp only [Option.bind_some]
      rw [tr_wr_nI (by omega) (by decide)]
      simp only [Option.bind_some]
      rw [del_nI (by omega), nadd1]
    · obtain ⟨g, hg1, hg2⟩ : ∃ g : Nat → Nat, g i = z ∧ ∀ j, j ≠ i → g j = f j := ⟨fun j => if j = i then z else f j, if_pos rfl, fun j hj => if_neg hj⟩
      have hpc : ∀ k, k ≤ i → pre g k = pre f k := fun k hk => pre_congr fun j hj => hg2 j (by omega)
      have hnew : (pre f i).testBit z = false := by
        have := hL z
        rw [hz2] at this
        simp [hz1] at this
        exact this
      refine ⟨nxt x, del L z, g, _, _, rfl, rfl, hlt, fun y => ?_, ?_, ?_, fun j hj => ?_, hs1.tr ⟨fun c _ _ _ _ => tr_st_ne (by omega), rfl⟩, hs2.tr ⟨fun c _ _ _ _ _ => tr_st_ne (by omega), rfl⟩⟩
      · show (del L z).testBit y = (decide (y < w.1) && !(ins (pre g i) (g i)).testBit y)
        rw [hg1, hpc i (by omega), ins_bit, del_bit, hL]
        cases decide (y < w.1) <;> cases (pre f i).testBit y <;> cases decide (z = y) <;> rfl
      · have : del L z ≤ L := ndf_le _ _
        omega
      · have := cnt_del hz1 hz2
        omega
      · by_cases e : j = i
        · subst e
          rw [hg1, hpc j (by omega), tr_st_s, tr_st_s]
          exact ⟨hz1, hnew, rfl, rfl⟩
        · obtain ⟨a1, a2, a3, a4⟩ := hf j (by omega)
          rw [hg2 j e, hpc j (by omega), tr_st_j e, tr_st_j e]
          exact ⟨a1, a2, a3, a4⟩) (by
    intro s t hR
    obtain ⟨x, L, f, N1, N2, rfl, rfl, hx, hL, hLt, hcnt, hf, hs1, hs2⟩ := hR
    have hw1 : N1.1 26 0 = nI w.1 := by rw [hs1.1 26 (by decide) (by decide) (by decide) (by decide)]; exact hw.2.1.1
    have hw2 : N2.1 1 10 = nI w.1 := by rw [hs2.1 1 (by decide) (by decide) (by decide) (by decide) (by decide)]; exact hw.2.2.1
    refine ⟨(nI x, N1), (nI x, N2), ?_, ?_, x, f, N1, N2, rfl, rfl, hx, ord_new (fun i hi => (hf i hi).1) (fun i hi => (hf i hi).2.1), fun i hi => (hf i hi).2.2.1, fun i hi => (hf i hi).2.2.2, hs1, hs2⟩
    · unfold mX6_drawOrder_l15
      simp (disch := omega) only [hw1, nlt, Nat.lt_irrefl, if_false, lN_i]
    · unfold mX7_drawLine_l10
      simp (disch := omega) only [hw2, nlt, Nat.lt_irrefl, if_false])
  subst e3 e4
  refine ⟨y, f, N1, _, hy, hord, e1, ?_, hc1, lay_MOr hord hc2, hs1, hs2.tr (SM.row (by omega))⟩
  unfold mX7_drawLine
  rw [e2]
  dsimp only [Option.bind_some]
  have hw2 : N2.1 1 10 = nI w.1 := by rw [hs2.1 1 (by decide) (by decide) (by decide) (by decide) (by decide)]; exact hw.2.2.1
  rw [layPlaces_eq hw.1 hw2 hord hc2]
  rfl
