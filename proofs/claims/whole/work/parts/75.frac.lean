/-! ===== fractions ===== -/
def eud : Nat → Nat → Nat → Nat × Nat
  | 0, a, b => (a, b)
  | i + 1, a, b => eud i b (a % b)
theorem eud_s : ∀ i a b, eud (i + 1) a b = ((eud i a b).2, (eud i a b).1 % (eud i a b).2)
  | 0, a, b => rfl
  | i + 1, a, b => by
    show eud (i + 1) b (a % b) = ((eud i b (a % b)).2, (eud i b (a % b)).1 % (eud i b (a % b)).2)
    exact eud_s i b (a % b)
theorem eud_end : ∀ k a b, b < 2 ^ k → ∃ i, i ≤ 2 * k ∧ (eud i a b).2 = 0
  | 0, a, b, h => ⟨0, Nat.le_refl _, by
    have : b = 0 := by rw [Nat.pow_zero] at h; omega
    exact this⟩
  | k + 1, a, b, h => by
    by_cases c : b = 0
    · exact ⟨0, by omega, c⟩
    · by_cases d : a % b = 0
      · exact ⟨1, by omega, d⟩
      · have h1 : a % b < b := Nat.mod_lt _ (by omega)
        have h2 : b % (a % b) < a % b := Nat.mod_lt _ (by omega)
        have h3 : b % (a % b) ≤ b - a % b := by
          rw [Nat.mod_eq_sub_mod (by omega)]
          exact Nat.mod_le _ _
        have h4 : b % (a % b) < 2 ^ k := by
          rw [Nat.pow_succ] at h
          omega
        obtain ⟨i, h5, h6⟩ := eud_end k (a % b) (b % (a % b)) h4
        exact ⟨i + 2, by omega, h6⟩
theorem eud_le : ∀ i a b c, a ≤ c → b ≤ c → (eud i a b).1 ≤ c ∧ (eud i a b).2 ≤ c
  | 0, a, b, c, h1, h2 => ⟨h1, h2⟩
  | i + 1, a, b, c, h1, h2 => eud_le i b (a % b) c h2 (Nat.le_trans (Nat.mod_le _ _) h1)
theorem frac_loops {a b : Nat} (ha : a < 2 ^ 62) (hb : b < 2 ^ 40) (hb0 : 0 < b) : ∃ g, 0 < g ∧ g < 2 ^ 62 ∧ tr_loop mX6_tellFraction_l9 (lN a, lN b, 0) = some (lN g) ∧ tr_loop mX7_fraction_l6 (lN a, lN b) = some (lN g) := by
  obtain ⟨i1, hi1, he1⟩ := eud_end 40 a b hb
  obtain ⟨i0, h0, hl⟩ := pk_least (fun i => (eud i a b).2 = 0) ⟨i1, he1⟩
  have hi0 : i0 ≤ 80 := by
    refine Nat.le_of_not_lt fun q => hl i1 (by omega) he1
  have hbd : ∀ i, (eud i a b).1 < 2 ^ 62 ∧ (eud i a b).2 < 2 ^ 62 := fun i => by
    have := eud_le i a b (2 ^ 62 - 1) (by omega) (by omega)
    omega
  have hpos : 0 < (eud i0 a b).1 := by
    cases i0 with
    | zero => exact absurd h0 (show ¬ b = 0 by omega)
    | succ i =>
      rw [eud_s]
      have : (eud i a b).2 ≠ 0 := hl i (by omega)
      show 0 < (eud i a b).2
      omega
  have hz : ∀ i, i < i0 → ¬ lN (eud i a b).2 = 0 := fun i hi => by
    rw [show (0 : Int64) = lN 0 from rfl, pk_lEQ (by have := (hbd i).2; omega) (by decide)]
    exact hl i hi
  have hrm : ∀ i, i < i0 → tr_rml (lN (eud i a b).1) (lN (eud i a b).2) = some (lN (eud (i + 1) a b).2) := fun i hi => by
    unfold tr_rml
    have h1 := (hbd i).1
    have h2 := (hbd i).2
    have h3 : (eud i a b).2 ≠ 0 := hl i hi
    rw [if_neg (hz i hi), pk_lRem (by omega) (by omega) (by omega), eud_s]
  refine ⟨(eud i0 a b).1, hpos, (hbd i0).1, ?_, ?_⟩
  · refine tr_loop_seq' (fun i => (lN (eud i a b).1, lN (eud i a b).2, nI i)) i0 rfl (by omega) (fun i hi => ?_) ?_
    · unfold mX6_tellFraction_l9
      have : ¬ lg_cmp (lN (eud i a b).2) 0 = 0 := by rw [lg_cmp_eq]; exact hz i hi
      simp (disch := omega) only [show (100 : Int32) = nI 100 from rfl, nlt, show i < 100 by omega, if_true, if_neg this, hrm i hi, Option.bind_some, nadd1]
      rw [eud_s]
    · unfold mX6_tellFraction_l9
      simp (disch := omega) only [show (100 : Int32) = nI 100 from rfl, nlt, show i0 < 100 by omega, if_true]
      rw [if_pos]
      rw [lg_cmp_eq, h0]
      rfl
  · refine tr_loop_seq' (fun i => (lN (eud i a b).1, lN (eud i a b).2)) i0 rfl (by omega) (fun i hi => ?_) ?_
    · unfold mX7_fraction_l6
      have : ¬ lg_cmp (lN (eud i a b).2) 0 = 0 := by rw [lg_cmp_eq]; exact hz i hi
      simp only [if_neg this, hrm i hi, Option.bind_some]
      rw [eud_s]
    · unfold mX7_fraction_l6
      rw [if_pos]
      rw [lg_cmp_eq, h0]
      rfl
theorem tell_both {M1 M2 : tr_M} (h : ITF M1 M2) (u v : Int64) : ITF (tr_sl (tr_sl M1 1 13 u) 1 14 v) (tr_sl (tr_sl M2 1 3 u) 1 4 v) ∧ KC M1 (tr_sl (tr_sl M1 1 13 u) 1 14 v) ∧ KM M2 (tr_sl (tr_sl M2 1 3 u) 1 4 v) := by
  obtain ⟨hR, hT, h1, h2, h3, h4, h5⟩ := h
  refine ⟨⟨hR, hT, h1, h2, h3, ?_, ?_⟩, ⟨fun _ _ _ => rfl, fun _ _ => rfl⟩, rfl, rfl, rfl, rfl, rfl⟩
  · simp [tr_sl_2]
  · simp [tr_sl_2]
/-- a fraction is told on both sides -/
theorem frac_both {M1 M2 : tr_M} (h : ITF M1 M2) {a b : Nat} (ha : a < 2 ^ 62) (hb : b < 2 ^ 40) (hb0 : 0 < b) (v : Int32) : ∃ N1 N2, mX6_tellFraction (lN a) (lN b) M1 = some N1 ∧ mX7_fraction (lN a) (lN b) v M2 = some (v, N2) ∧ ITF N1 N2 ∧ KC M1 N1 ∧ KM M2 N2 ∧ N1.1 = M1.1 := by
  obtain ⟨g, g0, g1, e1, e2⟩ := frac_loops ha hb hb0
  unfold mX6_tellFraction mX7_fraction
  rw [e1, e2]
  dsimp only [Option.bind_some]
  have hz : ¬ lN g = 0 := by
    rw [show (0 : Int64) = lN 0 from rfl, pk_lEQ (by omega) (by decide)]
    omega
  have hz2 : ¬ lg_cmp (lN g) 0 = 0 := by rw [lg_cmp_eq]; exact hz
  unfold tr_dvl
  simp only [if_neg hz2, if_neg hz, Option.bind_some]
  obtain ⟨a1, a2, a3⟩ := tell_both h (lN a / lN g) (lN b / lN g)
  exact ⟨_, _, rfl, rfl, a1, a2, a3, rfl⟩
theorem allWeight_eq {w : Wd} {M : tr_M} (hok : WOk w) (hw : CWd w 26 M) : mX5_allWeight 26 M = some (nI (sm w.1 (load w) / 2)) := by
  have hn := hok.1
  have e := loop_sum (step := mX5_allWeight_l4 26 M) (n := w.1) (f := load w) (g := fun a => a / 2) 0 (by omega) (fun i a hi => by
    unfold mX5_allWeight_l4
    simp (disch := omega) only [hw.1, nlt, hi, if_true, tr_rd_nI, Option.bind_some, hw.2.2.2.2.2.1, nadd, nadd1]) (fun a => by
    unfold mX5_allWeight_l4
    simp (disch := omega) only [hw.1, nlt, Nat.lt_irrefl, if_false])
  have hb : sm w.1 (load w) ≤ w.1 * 90 := sm_le fun i hi => by
    have : load w i ≤ 10 * 9 := sm_le fun j hj => hok.2.1 i j
    omega
  rw [show (0 + sm w.1 (load w)) = sm w.1 (load w) from Nat.zero_add _, show (2 : Int32) = nI 2 from rfl, pk_div (by omega) (by decide) (by decide)] at e
  exact e
theorem r_average {w : Wd} {M1 M2 : tr_M} (h : ITF M1 M2) (hw : IWd w M1 M2) : Res2 (mX6_average M1) (mX7_average M2) M1 M2 := by
  have hn := hw.1.1
  unfold mX6_average mX7_average
  rw [hw.2.1.1, hw.2.2.1]
  simp (disch := omega) only [neq0]
  by_cases c : w.1 = 0
  · rw [if_pos c, if_pos c]
    exact meets_res h (q := 4) (by decide)
  · rw [if_neg c, if_neg c, allWeight_eq hw.1 hw.2.1]
    have e := loop_sum (step := mX7_average_l17 M2) (n := w.1) (f := load w) (g := fun a => a) 0 (by omega) (fun i a hi => by
      unfold mX7_average_l17
      simp (disch := omega) only [hw.2.2.1, nlt, hi, if_true, weightOf_eq hw.1 hw.2.2, Option.bind_some, nadd, nadd1]) (fun a => by
      unfold mX7_average_l17
      simp (disch := omega) only [hw.2.2.1, nlt, Nat.lt_irrefl, if_false])
    rw [Nat.zero_add] at e
    have hb : sm w.1 (load w) ≤ w.1 * 90 := sm_le fun i hi => by
      have : load w i ≤ 10 * 9 := sm_le fun j hj => hw.1.2.1 i j
      omega
    rw [show tr_loop (mX7_average_l17 M2) (0, 0) = _ from e]
    dsimp only [Option.bind_some]
    rw [nadd1, nI_l (by omega), nI_l (by omega), nI_l (by omega), show (2 : Int64) = lN 2 from rfl, pk_lDiv (by omega) (by decide) (by decide), lN_mul, show (3 : Int64) = lN 3 from rfl]
    have hbd : sm w.1 (load w) / 2 * (w.1 + 1) < 2 ^ 62 := by
      have h1 : sm w.1 (load w) / 2 ≤ 450 := by omega
      have h2 : sm w.1 (load w) / 2 * (w.1 + 1) ≤ 450 * 11 := Nat.mul_le_mul h1 (by omega)
      omega
    obtain ⟨N1, N2, f1, f2, f3, f4, f5, -⟩ := frac_both h hbd (show 3 < 2 ^ 40 by decide) (by decide) 1
    rw [f1, f2]
    exact ⟨_, N1, N2, rfl, rfl, f3, f4.to2, f5⟩
