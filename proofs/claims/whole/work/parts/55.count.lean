theorem kd_le {w : Wd} (h : WOk w) {k : Nat} (hk : k < w.2.2.1) : (w.2.2.2.1 k).1 ≤ 6 := by
  have := h.2.2.2.2.2.1 k hk
  unfold ruleOk at this
  omega
theorem in_12 {kd : Nat} (h : kd ≤ 6) : mX7_in (nI kd) 1 2 = if kd = 1 ∨ kd = 2 then 1 else 0 := by
  rcases (show kd = 0 ∨ kd = 1 ∨ kd = 2 ∨ kd = 3 ∨ kd = 4 ∨ kd = 5 ∨ kd = 6 by omega) with rfl | rfl | rfl | rfl | rfl | rfl | rfl <;> decide
def aheadF (w : Wd) (k : Nat) : Nat := if (w.2.2.2.1 k).1 = 1 ∨ (w.2.2.2.1 k).1 = 2 then 1 else 0
def offF (w : Wd) (k : Nat) : Nat := if w.2.2.2.2 k = true then 1 else 0
theorem ruleAt0 {w : Wd} {M : tr_M} (hok : WOk w) (hm : MWd w M) {k : Nat} (hk : k < w.2.2.1) : mX7_ruleAt (nI k) 0 M = some (nI (w.2.2.2.1 k).1) := by
  have h8 := hok.2.2.2.2.1
  rw [show (0 : Int32) = nI 0 from rfl, ruleAt_eq (by omega) (by decide), Nat.add_zero, (hm.2.2.2 k hk).1]
theorem ruleAt1 {w : Wd} {M : tr_M} (hok : WOk w) (hm : MWd w M) {k : Nat} (hk : k < w.2.2.1) : mX7_ruleAt (nI k) 1 M = some (nI (w.2.2.2.1 k).2.1) := by
  have h8 := hok.2.2.2.2.1
  rw [show (1 : Int32) = nI 1 from rfl, ruleAt_eq (by omega) (by decide), (hm.2.2.2 k hk).2.1]
theorem ruleAt2 {w : Wd} {M : tr_M} (hok : WOk w) (hm : MWd w M) {k : Nat} (hk : k < w.2.2.1) : mX7_ruleAt (nI k) 2 M = some (nI (w.2.2.2.1 k).2.2.1) := by
  have h8 := hok.2.2.2.2.1
  rw [show (2 : Int32) = nI 2 from rfl, ruleAt_eq (by omega) (by decide), (hm.2.2.2 k hk).2.2.1]
theorem ruleAt3 {w : Wd} {M : tr_M} (hok : WOk w) (hm : MWd w M) {k : Nat} (hk : k < w.2.2.1) : mX7_ruleAt (nI k) 3 M = some (nI (w.2.2.2.1 k).2.2.2) := by
  have h8 := hok.2.2.2.2.1
  rw [show (3 : Int32) = nI 3 from rfl, ruleAt_eq (by omega) (by decide), (hm.2.2.2 k hk).2.2.2.1]
theorem ruleAt4 {w : Wd} {M : tr_M} (hok : WOk w) (hm : MWd w M) {k : Nat} (hk : k < w.2.2.1) : mX7_ruleAt (nI k) 4 M = some (nI (offF w k)) := by
  have h8 := hok.2.2.2.2.1
  rw [show (4 : Int32) = nI 4 from rfl, ruleAt_eq (by omega) (by decide), (hm.2.2.2 k hk).2.2.2.2]
  unfold offF
  cases w.2.2.2.2 k <;> rfl
theorem aheadCount_eq {w : Wd} {o : Nat} {M : tr_M} (hok : WOk w) (hw : CWd w o M) : mX5_aheadCount o M = some (nI (sm w.2.2.1 (aheadF w))) := by
  have h8 := hok.2.2.2.2.1
  have e := loop_sum (step := mX5_aheadCount_l4 o M) (n := w.2.2.1) (f := aheadF w) (g := fun a => a) 0 (by omega) (fun k c hk => by
    have hkd := kd_le hok hk
    unfold mX5_aheadCount_l4 mX5_isOfKind
    simp (disch := omega) only [hw.2.1, nlt, hk, if_true, tr_rd_nI, Option.bind_some, (hw.2.2.2.2.2.2 k hk).1, if_neg (show ¬ (1 : Int32) = 5 by decide)]
    rw [show (2 : Int32) = nI 2 from rfl]
    by_cases d1 : (w.2.2.2.1 k).1 = 1
    · have d2 : nI (w.2.2.2.1 k).1 = 1 := by rw [d1]; rfl
      simp only [if_pos d2, Option.bind_some, if_neg (show ¬ (1 : Int32) = 0 by decide), nadd1]
      unfold aheadF
      rw [if_pos (Or.inl d1)]
    · have d2 : ¬ nI (w.2.2.2.1 k).1 = 1 := by rw [show (1 : Int32) = nI 1 from rfl, neq (by omega) (by decide)]; exact d1
      simp only [if_neg d2]
      by_cases d3 : (w.2.2.2.1 k).1 = 2
      · have d4 : nI (w.2.2.2.1 k).1 = nI 2 := by rw [d3]
        simp only [if_pos d4, Option.bind_some, tr_el, if_neg (show ¬ (1 : Int32) = 0 by decide), nadd1]
        unfold aheadF
        rw [if_pos (Or.inr d3)]
      · have d4 : ¬ nI (w.2.2.2.1 k).1 = nI 2 := by rw [neq (by omega) (by decide)]; exact d3
        simp only [if_neg d4, Option.bind_some, tr_el, if_true, nadd1]
        unfold aheadF
        rw [if_neg (by omega)]
        rfl) (fun c => by
    unfold mX5_aheadCount_l4
    simp (disch := omega) only [hw.2.1, nlt, Nat.lt_irrefl, if_false])
  rw [Nat.zero_add] at e
  exact e
def cF (w : Wd) (p k : Nat) : Nat := if p = 3 then aheadF w k else if p = 4 then offF w k else 0
theorem counted_l4 {w : Wd} {M : tr_M} (hok : WOk w) (hm : MWd w M) {p a0 : Nat} (hp : p < 7) : tr_loop (mX7_counted_l4 (nI p) M) (nI a0, nI 0) = some (nI (a0 + sm w.2.2.1 (cF w p))) := by
  have h8 := hok.2.2.2.2.1
  refine loop_sum (step := mX7_counted_l4 (nI p) M) (n := w.2.2.1) (f := cF w p) (g := fun a => a) a0 (by omega) (fun k c hk => ?_) (fun c => ?_)
  · have hkd := kd_le hok hk
    unfold mX7_counted_l4 cF
    simp (disch := omega) only [hm.2.1, nlt, hk, if_true]
    by_cases d3 : p = 3
    · subst d3
      simp only [show nI 3 = 3 from rfl, if_true, ruleAt0 hok hm hk, Option.bind_some, in_12 hkd, show ¬ (3 : Int32) = 4 by decide, if_false]
      unfold aheadF
      by_cases d : (w.2.2.2.1 k).1 = 1 ∨ (w.2.2.2.1 k).1 = 2
      · simp only [if_pos d, if_neg (show ¬ (1 : Int32) = 0 by decide), Option.bind_some, tr_el, nadd1]
      · simp only [if_neg d, if_true, Option.bind_some, tr_el, n00, nadd, nadd1]
    · have d3' : ¬ nI p = 3 := by rw [show (3 : Int32) = nI 3 from rfl, neq (by omega) (by decide)]; exact d3
      simp only [if_neg d3', if_neg d3, Option.bind_some, tr_el]
      by_cases d4 : p = 4
      · subst d4
        simp only [show nI 4 = 4 from rfl, if_true, ruleAt4 hok hm hk, Option.bind_some]
        unfold offF
        cases w.2.2.2.2 k
        · simp only [Bool.false_eq_true, if_false, if_neg (show ¬ nI 0 = 1 by decide), n00, nadd, nadd1]
        · simp only [if_true, if_pos (show nI 1 = 1 from rfl), nadd1]
      · have d4' : ¬ nI p = 4 := by rw [show (4 : Int32) = nI 4 from rfl, neq (by omega) (by decide)]; exact d4
        simp only [if_neg d4', if_neg d4, n00, nadd, nadd1]
  · unfold mX7_counted_l4
    simp (disch := omega) only [hm.2.1, nlt, Nat.lt_irrefl, if_false]
/-- how many rows are there -/
def thF (a : Nat → Int32) (r : Nat) : Nat := if a r < 0 then 0 else 1
theorem there_l62 {M : tr_M} {p a0 : Nat} (hp : p < 7) : tr_loop (mX7_counted_l62 (nI p) M) (nI a0, nI 0) = some (nI (a0 + sm 6 (fun r => if p = 5 then thF (M.1 3) r else 0))) := by
  refine loop_sum (step := mX7_counted_l62 (nI p) M) (n := 6) (f := fun r => if p = 5 then thF (M.1 3) r else 0) (g := fun a => a) a0 (by omega) (fun k c hk => ?_) (fun c => ?_)
  · unfold mX7_counted_l62
    simp (disch := omega) only [show (6 : Int32) = nI 6 from rfl, nlt, hk, if_true]
    by_cases d3 : p = 5
    · subst d3
      simp (disch := omega) only [show nI 5 = 5 from rfl, if_true, tr_rd_nI, Option.bind_some]
      unfold thF
      by_cases d : M.1 3 k < 0
      · simp only [if_pos d]
        simp only [n00, nadd, nadd1]
      · simp only [if_neg d, nadd1]
    · have d3' : ¬ nI p = 5 := by rw [show (5 : Int32) = nI 5 from rfl, neq (by omega) (by decide)]; exact d3
      simp only [if_neg d3', if_neg d3, n00, nadd, nadd1]
  · unfold mX7_counted_l62
    simp (disch := omega) only [show (6 : Int32) = nI 6 from rfl, nlt, Nat.lt_irrefl, if_false]
theorem there_l98 {M : tr_M} {p a0 : Nat} (hp : p < 7) : tr_loop (mX7_counted_l98 (nI p) M) (nI a0, nI 0) = some (nI (a0 + sm 4 (fun r => if p = 6 then thF (M.1 6) r else 0))) := by
  refine loop_sum (step := mX7_counted_l98 (nI p) M) (n := 4) (f := fun r => if p = 6 then thF (M.1 6) r else 0) (g := fun a => a) a0 (by omega) (fun k c hk => ?_) (fun c => ?_)
  · unfold mX7_counted_l98
    simp (disch := omega) only [show (4 : Int32) = nI 4 from rfl, nlt, hk, if_true]
    by_cases d3 : p = 6
    · subst d3
      simp (disch := omega) only [show nI 6 = 6 from rfl, if_true, tr_rd_nI, Option.bind_some]
      unfold thF
      by_cases d : M.1 6 k < 0
      · simp only [if_pos d]
        simp only [n00, nadd, nadd1]
      · simp only [if_neg d, nadd1]
    · have d3' : ¬ nI p = 6 := by rw [show (6 : Int32) = nI 6 from rfl, neq (by omega) (by decide)]; exact d3
      simp only [if_neg d3', if_neg d3, n00, nadd, nadd1]
  · unfold mX7_counted_l98
    simp (disch := omega) only [show (4 : Int32) = nI 4 from rfl, nlt, Nat.lt_irrefl, if_false]
theorem there2_eq {M1 M2 : tr_M} (h : IRows M1 M2) : mX6_thereOf_2 M1 = some (nI (sm 6 (thF (M2.1 3)))) := by
  have e := loop_sum (step := mX6_thereOf_2_l4 M1) (n := 6) (f := thF (M2.1 3)) (g := fun a => a) 0 (by omega) (fun k c hk => by
    unfold mX6_thereOf_2_l4
    simp (disch := omega) only [show (6 : Int32) = nI 6 from rfl, nlt, hk, if_true, tr_ra_nI, Option.bind_some]
    unfold thF
    rcases h k hk with ⟨e1, e2⟩ | ⟨s, hs, e1, e2, e3⟩
    · rw [miss_m e1, e2, if_neg (by decide), if_pos (by decide), nadd1]
      rfl
    · rw [miss_s e1 (by omega), e2, if_pos rfl, if_neg (nI_pos (by omega)), nadd1, nadd1]) (fun c => by
    unfold mX6_thereOf_2_l4
    simp (disch := omega) only [show (6 : Int32) = nI 6 from rfl, nlt, Nat.lt_irrefl, if_false])
  rw [Nat.zero_add] at e
  exact e
theorem there3_eq {M1 M2 : tr_M} (h : ITexts M1 M2) : mX6_thereOf_3 M1 = some (nI (sm 4 (thF (M2.1 6)))) := by
  have e := loop_sum (step := mX6_thereOf_3_l4 M1) (n := 4) (f := thF (M2.1 6)) (g := fun a => a) 0 (by omega) (fun k c hk => by
    unfold mX6_thereOf_3_l4
    simp (disch := omega) only [show (4 : Int32) = nI 4 from rfl, nlt, hk, if_true, tr_ra_nI, Option.bind_some]
    unfold thF
    rcases h k hk with ⟨e1, e2⟩ | ⟨s, hs, e1, e2, e3⟩
    · rw [miss_m e1, e2, if_neg (by decide), if_pos (by decide), nadd1]
      rfl
    · rw [miss_s e1 (by omega), e2, if_pos rfl, if_neg (nI_pos (by omega)), nadd1, nadd1]) (fun c => by
    unfold mX6_thereOf_3_l4
    simp (disch := omega) only [show (4 : Int32) = nI 4 from rfl, nlt, Nat.lt_irrefl, if_false])
  rw [Nat.zero_add] at e
  exact e
theorem sm_0 : ∀ n, sm n (fun _ => 0) = 0
  | 0 => rfl
  | n + 1 => by
    show sm n (fun _ => 0) + 0 = 0
    rw [sm_0 n]
theorem cnt_off {w : Wd} (hok : WOk w) : cnt 10 (obits w) = sm w.2.2.1 (offF w) := by
  have h8 := hok.2.2.2.2.1
  rw [cnt_sm, ← sm_zero (f := offF w) (m := 10) (fun i hi => ?_) (by omega)]
  · refine sm_congr fun i hi => ?_
    show (if (obits w).testBit i = true then 1 else 0) = offF w i
    rw [obits_bit]
    unfold offF
    by_cases h : i < 8
    · simp [h]
    · rw [hok.2.2.2.2.2.2 i (by omega)]; simp
  · show offF w i = 0
    unfold offF
    rw [hok.2.2.2.2.2.2 i hi]
    rfl
theorem counted_eq {w : Wd} {M : tr_M} (hok : WOk w) (hm : MWd w M) {p : Nat} (hp : p < 7) : mX7_counted (nI p) M = some (if p = 0 then nI w.1 else if p = 1 then nI (sm w.1 (fun a => cnt 10 (tied w a)) / 2) else if p = 2 then nI w.2.2.1 else if p = 3 then nI (sm w.2.2.1 (aheadF w)) else if p = 4 then nI (sm w.2.2.1 (offF w)) else if p = 5 then nI (sm 6 (thF (M.1 3))) else nI (sm 4 (thF (M.1 6)))) := by
  unfold mX7_counted
  rw [n00, counted_l4 hok hm hp]
  dsimp only [Option.bind_some]
  rw [there_l62 hp]
  dsimp only [Option.bind_some]
  rw [there_l98 hp]
  dsimp only [Option.bind_some]
  rcases (show p = 0 ∨ p = 1 ∨ p = 2 ∨ p = 3 ∨ p = 4 ∨ p = 5 ∨ p = 6 by omega) with rfl | rfl | rfl | rfl | rfl | rfl | rfl
  · rw [if_pos rfl, hm.1]; rfl
  · rw [if_neg (by decide), if_pos (by decide), tieMany_eq hok hm]; rfl
  · rw [if_neg (by decide), if_neg (by decide), if_pos (by decide), hm.2.1]; rfl
  · rw [if_neg (by decide), if_neg (by decide), if_neg (by decide)]
    simp only [if_neg (show ¬ (3 : Nat) = 5 by decide), if_neg (show ¬ (3 : Nat) = 6 by decide), sm_0, Nat.add_zero, Nat.zero_add]
    rfl
  · rw [if_neg (by decide), if_neg (by decide), if_neg (by decide)]
    simp only [if_neg (show ¬ (4 : Nat) = 5 by decide), if_neg (show ¬ (4 : Nat) = 6 by decide), sm_0, Nat.add_zero, Nat.zero_add]
    rfl
  · rw [if_neg (by decide), if_neg (by decide), if_neg (by decide)]
    have : cF w 5 = fun _ => 0 := rfl
    simp only [this, if_neg (show ¬ (5 : Nat) = 6 by decide), sm_0, Nat.add_zero, Nat.zero_add]
    rfl
  · rw [if_neg (by decide), if_neg (by decide), if_neg (by decide)]
    have : cF w 6 = fun _ => 0 := rfl
    simp only [this, if_neg (show ¬ (6 : Nat) = 5 by decide), sm_0, Nat.add_zero, Nat.zero_add]
    rfl
theorem count_eq {w : Wd} {M1 M2 : tr_M} (hR : IRows M1 M2) (hT : ITexts M1 M2) (hok : WOk w) (hw : CWd w 26 M1) {p : Nat} (hp : p < 7) : mX6_count (nI p) M1 = some (if p = 0 then nI w.1 else if p = 1 then nI (sm w.1 (fun a => cnt 10 (tied w a)) / 2) else if p = 2 then nI w.2.2.1 else if p = 3 then nI (sm w.2.2.1 (aheadF w)) else if p = 4 then nI (sm w.2.2.1 (offF w)) else if p = 5 then nI (sm 6 (thF (M2.1 3))) else nI (sm 4 (thF (M2.1 6)))) := by
  unfold mX6_count
  rcases (show p = 0 ∨ p = 1 ∨ p = 2 ∨ p = 3 ∨ p = 4 ∨ p = 5 ∨ p = 6 by omega) with rfl | rfl | rfl | rfl | rfl | rfl | rfl
  · rw [if_pos rfl, hw.1]; rfl
  · rw [if_neg (by decide), if_pos (by decide), tieCount_eq hok hw]; rfl
  · rw [if_neg (by decide), if_neg (by decide), if_pos (by decide), hw.2.1]; rfl
  · rw [if_neg (by decide), if_neg (by decide), if_neg (by decide), if_pos (by decide), aheadCount_eq hok hw]; rfl
  · rw [if_neg (by decide), if_neg (by decide), if_neg (by decide), if_neg (by decide), if_pos (by decide), hw.2.2.1, bitCount_eq (Nat.lt_trans (obits_lt w) (by decide)), cnt_off hok]; rfl
  · rw [if_neg (by decide), if_neg (by decide), if_neg (by decide), if_neg (by decide), if_neg (by decide), if_pos (by decide), there2_eq hR]; rfl
  · rw [if_neg (by decide), if_neg (by decide), if_neg (by decide), if_neg (by decide), if_neg (by decide), if_neg (by decide), if_pos (by decide), there3_eq hT]; rfl
theorem r_count {w : Wd} {M1 M2 : tr_M} (h : ITF M1 M2) (hw : IWd w M1 M2) (p : Int32) : ∃ v, mX6_count p M1 = some v ∧ mX7_count p M2 = some v := by
  unfold mX7_count
  rcases in_cases0 p (show 6 < 1000 by decide) with ⟨i1, i2⟩ | ⟨j, hj, rfl, i1⟩
  · refine ⟨-1, ?_, by rw [show (6 : Int32) = nI 6 from rfl, i1]; rfl⟩
    unfold mX6_count
    have ne : ∀ q : Nat, q < 7 → ¬ p = nI q := fun q hq e => by
      subst e
      rcases i2 with i2 | i2
      · exact nI_pos (by omega) i2
      · rw [nlt (by decide) (by omega)] at i2; omega
    rw [if_neg (show ¬ p = 0 from ne 0 (by decide)), if_neg (show ¬ p = 1 from ne 1 (by decide)), if_neg (show ¬ p = 2 from ne 2 (by decide)), if_neg (show ¬ p = 3 from ne 3 (by decide)), if_neg (show ¬ p = 4 from ne 4 (by decide)), if_neg (show ¬ p = 5 from ne 5 (by decide)), if_neg (show ¬ p = 6 from ne 6 (by decide))]
  · rw [show (6 : Int32) = nI 6 from rfl, i1, if_neg (by decide), counted_eq hw.1 hw.2.2 (by omega), count_eq h.1 h.2.1 hw.1 hw.2.1 (show j < 7 by omega)]
    exact ⟨_, rfl, rfl⟩
