theorem or0 (s : Nat) : nI s ||| 0 = nI s := by
  rw [n00, or_nI, Nat.or_zero]
/-- the model looks whether a row is an order -/
theorem needLoop_pos {n r : Nat} {f : Nat → Nat} {M : tr_M} (hn : n ≤ 10) (hr : r < 6) (hw : M.1 1 10 = nI n) (hf : Ord n f) (hc : ∀ i, i < n → M.1 4 (60 * r + i) = nI (f i)) : tr_loop (mX7_needOrder_l41 (nI r) M) (0, 1, 0) = some 1 := by
  refine tr_loop_seq' (fun i => (nI (pre f i), 1, nI i)) n rfl (by omega) (fun i hi => ?_) ?_
  · unfold mX7_needOrder_l41
    have hfi := hf.1 i hi
    have hp := pre_lt10 hf hn (show i ≤ n by omega)
    have hnew := pre_new hf hi
    have ht : mX7_isThing (nI (f i)) M = some 1 := by
      rcases isThing_m (p := nI (f i)) hn hw with ⟨e1, e2⟩ | ⟨a, ha, e, e1⟩
      · exfalso
        rcases e2 with e2 | e2
        · exact nI_pos (by omega) e2
        · rw [nlt (by omega) (by omega)] at e2; exact e2 hfi
      · exact e1
    simp (disch := omega) only [hw, nlt, hi, if_true, rowAt_eq, hc i hi, Option.bind_some, if_neg (show ¬ (1 : Int32) = 0 by decide), ht, has_eq, hnew, Bool.false_eq_true, if_false, ins_nI, nadd1]
    rfl
  · unfold mX7_needOrder_l41
    simp (disch := omega) only [hw, nlt, Nat.lt_irrefl, if_false]
theorem needLoop_neg {n r : Nat} {M : tr_M} (hn : n ≤ 10) (hr : r < 6) (hw : M.1 1 10 = nI n) (h : ¬ ∃ f, Ord n f ∧ ∀ i, i < n → M.1 4 (60 * r + i) = nI (f i)) : tr_loop (mX7_needOrder_l41 (nI r) M) (0, 1, 0) = some 0 := by
  generalize hF : (fun i => (M.1 4 (60 * r + i)).toNatClampNeg) = f at *
  have hFi : ∀ i, f i = (M.1 4 (60 * r + i)).toNatClampNeg := fun i => by rw [← hF]
  have hF2 : ∀ i a, a < n → M.1 4 (60 * r + i) = nI a → f i = a := fun i a ha e => by rw [hFi, e, nI_clamp (by omega)]
  have q2 : ∃ i, i < n ∧ ¬ ∃ a, a < n ∧ M.1 4 (60 * r + i) = nI a ∧ (pre f i).testBit a = false := by
    refine Classical.byContradiction fun e => h ?_
    have H : ∀ i, i < n → ∃ a, a < n ∧ M.1 4 (60 * r + i) = nI a ∧ (pre f i).testBit a = false := fun i hi => Classical.byContradiction fun e2 => e ⟨i, hi, e2⟩
    refine ⟨f, ord_new (fun i hi => ?_) (fun i hi => ?_), fun i hi => ?_⟩
    · obtain ⟨a, h1, h2, h3⟩ := H i hi
      rw [hF2 i a h1 h2]; exact h1
    · obtain ⟨a, h1, h2, h3⟩ := H i hi
      rw [hF2 i a h1 h2]; exact h3
    · obtain ⟨a, h1, h2, h3⟩ := H i hi
      rw [hF2 i a h1 h2]; exact h2
  obtain ⟨i0, ⟨h1, h2⟩, h3⟩ := pk_least _ q2
  have h4 : ∀ i, i < i0 → ∃ a, a < n ∧ M.1 4 (60 * r + i) = nI a ∧ (pre f i).testBit a = false := fun i hi => Classical.byContradiction fun e => h3 i hi ⟨by omega, e⟩
  have hlt : ∀ i, i ≤ i0 → pre f i < 1024 := fun i hi => by
    refine Nat.lt_of_lt_of_le (pre_lt' (n := n) fun j hj => ?_) (pow_lt hn)
    obtain ⟨a, g1, g2, g3⟩ := h4 j (by omega)
    rw [hF2 j a g1 g2]; exact g1
  refine tr_loop_seq' (fun i => if i ≤ i0 then (nI (pre f i), 1, nI i) else (nI (pre f i0), 0, nI i)) n ?_ (by omega) (fun i hi => ?_) ?_
  · show (if 0 ≤ i0 then (nI (pre f 0), (1 : Int32), nI 0) else (nI (pre f i0), 0, nI 0)) = _
    rw [if_pos (Nat.zero_le _)]
    rfl
  · show mX7_needOrder_l41 (nI r) M (if i ≤ i0 then (nI (pre f i), (1 : Int32), nI i) else (nI (pre f i0), 0, nI i)) = some (Sum.inl (if i + 1 ≤ i0 then (nI (pre f (i + 1)), (1 : Int32), nI (i + 1)) else (nI (pre f i0), 0, nI (i + 1))))
    by_cases c1 : i < i0
    · rw [if_pos (show i ≤ i0 by omega), if_pos (show i + 1 ≤ i0 by omega)]
      obtain ⟨a, g1, g2, g3⟩ := h4 i c1
      have ea := hF2 i a g1 g2
      have hp := hlt i (by omega)
      have ht : mX7_isThing (nI a) M = some 1 := by
        rcases isThing_m (p := nI a) hn hw with ⟨e1, e2⟩ | ⟨b, hb, e, e1⟩
        · exfalso
          rcases e2 with e2 | e2
          · exact nI_pos (by omega) e2
          · rw [nlt (by omega) (by omega)] at e2; exact e2 g1
        · exact e1
      unfold mX7_needOrder_l41
      simp (disch := omega) only [hw, nlt, hi, if_true, rowAt_eq, g2, Option.bind_some, if_neg (show ¬ (1 : Int32) = 0 by decide), ht, has_eq, g3, Bool.false_eq_true, if_false, ins_nI, nadd1]
      rw [← ea]
      rfl
    · rw [if_neg (show ¬ i + 1 ≤ i0 by omega)]
      by_cases c2 : i = i0
      · subst c2
        rw [if_pos (Nat.le_refl _)]
        have hp := hlt i (by omega)
        unfold mX7_needOrder_l41
        simp (disch := omega) only [hw, nlt, hi, if_true, rowAt_eq, Option.bind_some, if_neg (show ¬ (1 : Int32) = 0 by decide), nadd1]
        rcases isThing_m (p := M.1 4 (60 * r + i)) hn hw with ⟨e1, e2⟩ | ⟨b, hb, e, e1⟩
        · simp only [e1, Option.bind_some, if_true, or0]
        · rw [e] at e1 ⊢
          have hb2 : (pre f i).testBit b = true := by
            cases q : (pre f i).testBit b with
            | true => rfl
            | false => exact absurd ⟨b, hb, e, q⟩ h2
          simp (disch := omega) only [e1, Option.bind_some, if_neg (show ¬ (1 : Int32) = 0 by decide), has_eq, hb2, if_true, or0]
      · rw [if_neg (show ¬ i ≤ i0 by omega)]
        unfold mX7_needOrder_l41
        simp (disch := omega) only [hw, nlt, hi, if_true, rowAt_eq, Option.bind_some, or0, nadd1]
  · show mX7_needOrder_l41 (nI r) M (if n ≤ i0 then (nI (pre f n), (1 : Int32), nI n) else (nI (pre f i0), 0, nI n)) = _
    rw [if_neg (by omega)]
    unfold mX7_needOrder_l41
    simp (disch := omega) only [hw, nlt, Nat.lt_irrefl, if_false]
/-- a row is copied into a cell -/
def cp (b a : Nat → Int32) (n : Nat) : Nat → Int32 := fun j => if j < n then a j else b j
theorem cp_0 {b a : Nat → Int32} : cp b a 0 = b := funext fun j => if_neg (by omega)
theorem cp_s {b a : Nat → Int32} {n : Nat} : (fun j => if j = n then a n else cp b a n j) = cp b a (n + 1) := funext fun j => by
  unfold cp
  by_cases h : j = n
  · subst h; rw [if_pos rfl, if_pos (by omega)]
  · rw [if_neg h]
    by_cases h2 : j < n
    · rw [if_pos h2, if_pos (by omega)]
    · rw [if_neg h2, if_neg (by omega)]
theorem cp_in {b a : Nat → Int32} {n j : Nat} (h : j < n) : cp b a n j = a j := if_pos h
theorem layPlaces_eq {w : Wd} {f : Nat → Nat} {M : tr_M} (hok : WOk w) (hw : M.1 1 10 = nI w.1) (hf : Ord w.1 f) (hc : ∀ i, i < w.1 → M.1 12 i = nI (f i)) : mX7_layPlaces M = some (tr_row M 13 (sa f (M.1 13) w.1)) := by
  have hn := hok.1
  unfold mX7_layPlaces
  refine tr_loop_seq' (fun i => (nI i, tr_row M 13 (sa f (M.1 13) i))) w.1 ?_ (by omega) (fun i hi => ?_) ?_
  · show (nI 0, tr_row M 13 (M.1 13)) = _
    rw [tr_row_id rfl]
    rfl
  · unfold mX7_layPlaces_l2
    have hfi := hf.1 i hi
    simp (disch := omega) only [tr_row_ne, hw, nlt, hi, if_true, tr_rd_nI, hc i hi, Option.bind_some, tr_wr_nI, tr_row_st, nadd1]
    rfl
  · unfold mX7_layPlaces_l2
    simp (disch := omega) only [tr_row_ne, hw, nlt, Nat.lt_irrefl, if_false]
theorem lay_MOr {w : Wd} {f : Nat → Nat} {M : tr_M} (hf : Ord w.1 f) (hc : ∀ i, i < w.1 → M.1 12 i = nI (f i)) : MOr w f (tr_row M 13 (sa f (M.1 13) w.1)) := by
  refine ⟨fun i hi => ?_, fun y hy => ?_⟩
  · rw [tr_row_ne (by decide)]; exact hc i hi
  · rw [tr_row_s]; exact sa_ord hf hy
theorem needLay_eq {w : Wd} {r : Nat} {M : tr_M} (hok : WOk w) (hr : r < 6) (hw : M.1 1 10 = nI w.1) : tr_loop (mX7_needOrder_l121 (nI r)) (0, M) = some (tr_row M 12 (cp (M.1 12) (fun i => M.1 4 (60 * r + i)) w.1)) := by
  have hn := hok.1
  refine tr_loop_seq' (fun i => (nI i, tr_row M 12 (cp (M.1 12) (fun i => M.1 4 (60 * r + i)) i))) w.1 ?_ (by omega) (fun i hi => ?_) ?_
  · show (nI 0, tr_row M 12 (cp (M.1 12) _ 0)) = _
    rw [cp_0, tr_row_id rfl]
    rfl
  · unfold mX7_needOrder_l121
    simp (disch := omega) only [tr_row_ne, hw, nlt, hi, if_true, rowAt_eq, Option.bind_some, tr_wr_nI, tr_row_st, nadd1]
    rw [← cp_s]
  · unfold mX7_needOrder_l121
    simp (disch := omega) only [tr_row_ne, hw, nlt, Nat.lt_irrefl, if_false]
/-- what keeps a row from being an order, on both sides; or it is one, and the model has laid it -/
theorem order_both {w : Wd} {M1 M2 : tr_M} (h : ITF M1 M2) (hw : IWd w M1 M2) {r : Nat} (hr : r < 6) : (∃ q, (q = 1 ∨ q = 3 ∨ q = 5) ∧ mX6_orderFault (nI r) M1 = some (nI q) ∧ mX7_needOrder (nI r) M2 = Option.bind (mX7_meets (nI q) M2) (fun c => some (c.1, c.2)) ∧ (q = 1 → M2.1 3 r = -1) ∧ (q ≠ 1 → ∃ s, s ≤ 60 ∧ M2.1 3 r = nI s ∧ (q = 5 → s ≠ w.1) ∧ (q = 3 → s = w.1))) ∨ (∃ f N2, Ord w.1 f ∧ HasF M1 (62 + 2 * r + 1) w.1 f ∧ mX6_orderFault (nI r) M1 = some 0 ∧ mX7_needOrder (nI r) M2 = some (0, N2) ∧ MOr w f N2 ∧ SM M2 N2 ∧ M2.1 3 r = nI w.1 ∧ (∀ c, c ≠ 12 → c ≠ 13 → N2.1 c = M2.1 c) ∧ M1.1 (62 + 2 * r) 1 = nI w.1) := by
  have hn := hw.1.1
  have hl := len_row hr
  unfold mX6_orderFault mX7_needOrder
  rw [tr_ra_nI hr (by decide), tr_rd_nI hr (by decide)]
  simp only [Option.bind_some]
  rcases h.1 r hr with ⟨m1, m2⟩ | ⟨s, hs, m1, m2, m3⟩
  · left
    rw [miss_m m1, m2, if_neg (by decide), if_pos (by decide)]
    exact ⟨1, Or.inl rfl, rfl, rfl, fun _ => rfl, fun e => absurd rfl e⟩
  · rw [miss_s m1 (by omega), m2, if_pos rfl, if_neg (nI_pos (by omega)), hw.2.1.1, hw.2.2.1, m1]
    simp (disch := omega) only [neq]
    by_cases e : s = w.1
    · subst e
      simp only [if_true]
      have hrow : ∀ i, i < w.1 → M1.1 (62 + 2 * r + 1) i = M2.1 4 (60 * r + i) := fun i hi => by
        have := m3 i hi
        rw [show 62 + 2 * r + 1 = 63 + 2 * r by omega]
        exact this
      by_cases q : ∃ f, Ord w.1 f ∧ HasF M1 (62 + 2 * r + 1) w.1 f
      · right
        obtain ⟨f, hf, hc⟩ := q
        have hc2 : ∀ i, i < w.1 → M2.1 4 (60 * r + i) = nI (f i) := fun i hi => by rw [← hrow i hi]; exact hc i hi
        rw [isOrder_pos hn hw.2.1.1 (by omega) (by omega) hf hc, needLoop_pos hn hr hw.2.2.1 hf hc2]
        dsimp only [Option.bind_some]
        rw [if_neg (show ¬ (1 : Int32) = 0 by decide), if_neg (show ¬ (1 : Int32) = 0 by decide), needLay_eq hw.1 hr hw.2.2.1]
        dsimp only [Option.bind_some]
        have hc3 : ∀ i, i < w.1 → (tr_row M2 12 (cp (M2.1 12) (fun i => M2.1 4 (60 * r + i)) w.1)).1 12 i = nI (f i) := fun i hi => by
          rw [tr_row_s, cp_in hi]
          exact hc2 i hi
        rw [layPlaces_eq hw.1 (by rw [tr_row_ne (by decide)]; exact hw.2.2.1) hf hc3]
        refine ⟨f, _, hf, hc, rfl, rfl, lay_MOr hf hc3, (SM.row (by omega)).tr (SM.row (by omega)), trivial, fun c h1 h2 => ?_, trivial⟩
        rw [tr_row_ne h2, tr_row_ne h1]
      · left
        have q2 : ¬ ∃ f, Ord w.1 f ∧ ∀ i, i < w.1 → M2.1 4 (60 * r + i) = nI (f i) := fun ⟨f, g1, g2⟩ => q ⟨f, g1, fun i hi => by rw [hrow i hi]; exact g2 i hi⟩
        rw [isOrder_neg hn hw.2.1.1 (by omega) (by omega) q, needLoop_neg hn hr hw.2.2.1 q2]
        refine ⟨3, Or.inr (Or.inl rfl), rfl, rfl, fun e => by omega, fun _ => ⟨_, hs, rfl, fun e => by omega, fun _ => rfl⟩⟩
    · left
      simp only [if_neg e]
      exact ⟨5, Or.inr (Or.inr rfl), rfl, rfl, fun e => by omega, fun _ => ⟨s, hs, rfl, fun _ => e, fun e => by omega⟩⟩
