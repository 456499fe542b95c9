/-! ===== apart ===== -/
theorem loop_sum_from {ρ : Type} {step : Int32 × Int32 → Option ((Int32 × Int32) ⊕ ρ)} {n : Nat} {f : Nat → Nat} {g : Int32 → ρ} (a0 i0 : Nat) (hi : i0 ≤ n) (hn : n < 4294967296) (h : ∀ i a, i0 ≤ i → i < n → step (nI a, nI i) = some (.inl (nI (a + f i), nI (i + 1)))) (he : ∀ a, step (nI a, nI n) = some (.inr (g (nI a)))) : tr_loop step (nI a0, nI i0) = some (g (nI (a0 + sm n (fun j => if i0 ≤ j then f j else 0)))) := by
  refine tr_loop_seq' (fun t => (nI (a0 + sm (i0 + t) (fun j => if i0 ≤ j then f j else 0)), nI (i0 + t))) (n - i0) ?_ (by omega) (fun t ht => ?_) ?_
  · show (nI (a0 + sm (i0 + 0) _), nI (i0 + 0)) = _
    rw [Nat.add_zero, sm_congr (g := fun _ => 0) (fun j hj => if_neg (by omega)), sm_0, Nat.add_zero]
  · show step (nI (a0 + sm (i0 + t) _), nI (i0 + t)) = some (.inl (nI (a0 + (sm (i0 + t) _ + (if i0 ≤ i0 + t then f (i0 + t) else 0))), nI (i0 + t + 1)))
    rw [h (i0 + t) _ (by omega) (by omega), if_pos (by omega), Nat.add_assoc]
  · show step (nI (a0 + sm (i0 + (n - i0)) _), nI (i0 + (n - i0))) = _
    rw [show i0 + (n - i0) = n by omega]
    exact he _
def ivc (n : Nat) (f g : Nat → Nat) : Nat := sm n (fun i => sm n (fun j => if i + 1 ≤ j then (if sf g (f j) n < sf g (f i) n then 1 else 0) else 0))
theorem apartC {w : Wd} {r : Nat} {f g : Nat → Nat} {N : tr_M} (hok : WOk w) (hr : r < 6) (hw : N.1 26 0 = nI w.1) (hf : Ord w.1 f) (hc : HasF N (62 + 2 * r + 1) w.1 f) (hs : ∀ y, y < w.1 → N.1 59 y = nI (sf g y w.1)) : tr_loop (mX6_apart_l74 (62 + 2 * r) N) (0, 0) = some (nI (ivc w.1 f g), N) := by
  have hn := hok.1
  have hl := len_row hr
  have inner : ∀ i c, i < w.1 → tr_loop (mX6_apart_l92 (62 + 2 * r) N (nI c, nI i)) (nI c, nI (i + 1)) = some (.inl (nI (c + sm w.1 (fun j => if i + 1 ≤ j then (if sf g (f j) w.1 < sf g (f i) w.1 then 1 else 0) else 0)), nI (i + 1))) := fun i c hi => by
    refine loop_sum_from (step := mX6_apart_l92 (62 + 2 * r) N (nI c, nI i)) (n := w.1) (f := fun j => if sf g (f j) w.1 < sf g (f i) w.1 then 1 else 0) (g := fun v => .inl (v, nI (i + 1))) c (i + 1) (by omega) (by omega) (fun j d h1 h2 => ?_) (fun d => ?_)
    · unfold mX6_apart_l92
      have a1 := hf.1 i hi
      have a2 := hf.1 j h2
      have b1 := sf_le g (f i) w.1
      have b2 := sf_le g (f j) w.1
      rw [hl]
      simp (disch := omega) only [hw, nlt, h2, if_true, tr_rd_nI, hc i hi, hc j h2, Option.bind_some, hs (f i) a1, hs (f j) a2, nadd1]
      by_cases q : sf g (f j) w.1 < sf g (f i) w.1
      · simp only [if_pos q]
      · simp only [if_neg q, Nat.add_zero]
    · unfold mX6_apart_l92
      simp (disch := omega) only [hw, nlt, Nat.lt_irrefl, if_false, nadd1]
  have e := loop_sum (step := mX6_apart_l74 (62 + 2 * r) N) (n := w.1) (f := fun i => sm w.1 (fun j => if i + 1 ≤ j then (if sf g (f j) w.1 < sf g (f i) w.1 then 1 else 0) else 0)) (g := fun v => (v, N)) 0 (by omega) (fun i c hi => by
    unfold mX6_apart_l74
    simp (disch := omega) only [hw, nlt, hi, if_true, nadd1]
    exact inner i c hi) (fun c => by
    unfold mX6_apart_l74
    simp (disch := omega) only [hw, nlt, Nat.lt_irrefl, if_false])
  rw [Nat.zero_add] at e
  exact e
theorem apartM {w : Wd} {f g : Nat → Nat} {N : tr_M} {z : Int32} (hok : WOk w) (hw : N.1 1 10 = nI w.1) (hf : Ord w.1 f) (hc : ∀ i, i < w.1 → N.1 19 i = nI (f i)) (hs : ∀ y, y < w.1 → N.1 13 y = nI (sf g y w.1)) : tr_loop (mX7_apart_l134 (z, N)) (0, 0) = some (.inr (.inr (nI (ivc w.1 f g), N))) := by
  have hn := hok.1
  have inner : ∀ i c, i < w.1 → tr_loop (mX7_apart_l149 (z, N) (nI c, nI i)) (nI c, nI (i + 1)) = some (.inl (nI (c + sm w.1 (fun j => if i + 1 ≤ j then (if sf g (f j) w.1 < sf g (f i) w.1 then 1 else 0) else 0)), nI (i + 1))) := fun i c hi => by
    refine loop_sum_from (step := mX7_apart_l149 (z, N) (nI c, nI i)) (n := w.1) (f := fun j => if sf g (f j) w.1 < sf g (f i) w.1 then 1 else 0) (g := fun v => .inl (v, nI (i + 1))) c (i + 1) (by omega) (by omega) (fun j d h1 h2 => ?_) (fun d => ?_)
    · unfold mX7_apart_l149
      have a1 := hf.1 i hi
      have a2 := hf.1 j h2
      have b1 := sf_le g (f i) w.1
      have b2 := sf_le g (f j) w.1
      simp (disch := omega) only [hw, nlt, h2, if_true, tr_rd_nI, hc i hi, hc j h2, Option.bind_some, hs (f i) a1, hs (f j) a2, nadd1]
      by_cases q : sf g (f j) w.1 < sf g (f i) w.1
      · simp only [if_pos q]
      · simp only [if_neg q, n00, nadd]
    · unfold mX7_apart_l149
      simp (disch := omega) only [hw, nlt, Nat.lt_irrefl, if_false, nadd1]
  have e := loop_sum (step := mX7_apart_l134 (z, N)) (n := w.1) (f := fun i => sm w.1 (fun j => if i + 1 ≤ j then (if sf g (f j) w.1 < sf g (f i) w.1 then 1 else 0) else 0)) (g := fun v => .inr (.inr (v, N))) 0 (by omega) (fun i c hi => by
    unfold mX7_apart_l134
    simp (disch := omega) only [hw, nlt, hi, if_true, nadd1]
    exact inner i c hi) (fun c => by
    unfold mX7_apart_l134
    simp (disch := omega) only [hw, nlt, Nat.lt_irrefl, if_false])
  rw [Nat.zero_add] at e
  exact e
theorem wanted_eq {w : Wd} {M : tr_M} (hok : WOk w) (hw : M.1 1 10 = nI w.1) : tr_loop mX7_apart_l87 (0, M) = some (tr_row M 19 (cp (M.1 19) (M.1 12) w.1)) := by
  have hn := hok.1
  refine tr_loop_seq' (fun i => (nI i, tr_row M 19 (cp (M.1 19) (M.1 12) i))) w.1 ?_ (by omega) (fun i hi => ?_) ?_
  · show (nI 0, tr_row M 19 (cp (M.1 19) _ 0)) = _
    rw [cp_0, tr_row_id rfl]
    rfl
  · unfold mX7_apart_l87
    simp (disch := omega) only [tr_row_ne, hw, nlt, hi, if_true, tr_rd_nI, Option.bind_some, tr_wr_nI, tr_row_st, nadd1]
    rw [← cp_s]
  · unfold mX7_apart_l87
    simp (disch := omega) only [tr_row_ne, hw, nlt, Nat.lt_irrefl, if_false]
theorem meets_res {M1 M2 : tr_M} (h : ITF M1 M2) {q : Nat} (hq : q < 6) : Res2 (Option.bind (mX6_found (nI q) M1) (fun c => some (c.1, c.2))) (Option.bind (mX7_meets (nI q) M2) (fun c => some (c.1, c.2))) M1 M2 := (found_both h (f := q) hq).pair.to2
theorem r_apart {w : Wd} {M1 M2 : tr_M} (h : ITF M1 M2) (hw : IWd w M1 M2) (p1 p2 : Int32) : Res2 (mX6_apart p1 p2 M1) (mX7_apart p1 p2 M2) M1 M2 := by
  have hn := hw.1.1
  unfold mX6_apart mX7_apart
  rcases isRow_cases p1 with ⟨d1, d2⟩ | ⟨r, hr, rfl, d1, d2⟩
  · rw [d1, d2]
    exact (Res.same h).to2
  rcases isRow_cases p2 with ⟨c1, c2⟩ | ⟨t, ht, rfl, c1, c2⟩
  · rw [d1, d2, c1, c2]
    exact (Res.same h).to2
  have hl := len_row hr
  have hl2 := len_row ht
  simp only [d1, d2, c1, c2, Option.bind_some, if_neg (show ¬ (1 : Int32) = 0 by decide), tr_rd_nI hr (show 6 < 2147483648 by decide), tr_rd_nI ht (show 6 < 2147483648 by decide), tr_ra_nI hr (show 6 < 2147483648 by decide), tr_ra_nI ht (show 6 < 2147483648 by decide)]
  unfold mX6_bothOrdersFault
  rcases order_both h hw hr with ⟨q, hq, g1, g2, g3, g4⟩ | ⟨f, N2, hf, hc, g1, g2, g3, g4, g5, g6, g7⟩
  · by_cases q1 : q = 1
    · subst q1
      rcases order_both h hw ht with ⟨q', hq', k1, k2, k3, k4⟩ | ⟨f', N2', hf', hc', k1, k2, k3, k4, k5, k6, k7⟩
      · rw [g1, k1, g3 rfl]
        simp only [Option.bind_some, if_pos (show nI 1 = 1 from rfl), if_neg (show ¬ (1 : Int32) = 0 by decide), if_pos (show (-1 : Int32) < 0 by decide), tr_el]
        exact meets_res h (q := 1) (by decide)
      · rw [g1, k1, g3 rfl]
        simp only [Option.bind_some, if_pos (show nI 1 = 1 from rfl), if_neg (show ¬ (1 : Int32) = 0 by decide), if_pos (show (-1 : Int32) < 0 by decide), tr_el]
        exact meets_res h (q := 1) (by decide)
    · obtain ⟨s, hs, e1, e2, e3⟩ := g4 q1
      clear g4 g3
      have hq1 : ¬ nI q = 1 := by rw [show (1 : Int32) = nI 1 from rfl, neq (by omega) (by decide)]; exact q1
      have hq0 : ¬ nI q = 0 := by rw [n00, neq (by omega) (by decide)]; omega
      have hs0 : ¬ nI s < 0 := nI_pos (by omega)
      rcases order_both h hw ht with ⟨q', hq', k1, k2, k3, k4⟩ | ⟨f', N2', hf', hc', k1, k2, k3, k4, k5, k6, k7⟩
      · by_cases q1' : q' = 1
        · subst q1'
          rw [g1, k1, e1, k3 rfl]
          simp only [Option.bind_some, if_neg hq1, if_pos (show nI 1 = 1 from rfl), if_neg (show ¬ (1 : Int32) = 0 by decide), if_neg hs0, if_pos (show (-1 : Int32) < 0 by decide), tr_el]
          exact meets_res h (q := 1) (by decide)
        · obtain ⟨s', hs', e1', e2', e3'⟩ := k4 q1'
          clear k4 k3
          have hq1' : ¬ nI q' = 1 := by rw [show (1 : Int32) = nI 1 from rfl, neq (by omega) (by decide)]; exact q1'
          have hs0' : ¬ nI s' < 0 := nI_pos (by omega)
          rw [g1, k1, e1, e1', hw.2.2.1]
          simp (disch := omega) only [Option.bind_some, if_neg hq1, if_neg hq1', if_neg hs0, if_neg hs0', neq]
          by_cases q5 : q = 5
          · subst q5
            have := e2 rfl
            simp only [if_pos (show nI 5 = 5 from rfl), if_neg (show ¬ (5 : Int32) = 0 by decide), if_neg this, tr_el, Option.bind_some]
            obtain ⟨r', P1, P2, u1, u2, u3⟩ := meets_res h (q := 5) (by decide)
            refine ⟨r', P1, P2, u1, ?_, u3⟩
            rw [Option.bind_eq_some_iff] at u2
            obtain ⟨c, v1, v2⟩ := u2
            rw [show (5 : Int32) = nI 5 from rfl, v1]
            exact v2
          · have q3 : q = 3 := by omega
            subst q3
            have hsw : s = w.1 := e3 rfl
            simp only [if_neg (show ¬ nI 3 = 5 by decide), if_pos hsw]
            by_cases q5' : q' = 5
            · subst q5'
              have := e2' rfl
              simp only [if_pos (show nI 5 = 5 from rfl), if_neg (show ¬ (5 : Int32) = 0 by decide), if_neg this, tr_el, Option.bind_some]
              obtain ⟨r', P1, P2, u1, u2, u3⟩ := meets_res h (q := 5) (by decide)
              refine ⟨r', P1, P2, u1, ?_, u3⟩
              rw [Option.bind_eq_some_iff] at u2
              obtain ⟨c, v1, v2⟩ := u2
              rw [show (5 : Int32) = nI 5 from rfl, v1]
              exact v2
            · have q3' : q' = 3 := by omega
              subst q3'
              have hsw' : s' = w.1 := e3' rfl
              simp only [if_neg (show ¬ nI 3 = 5 by decide), if_neg hq0, if_pos hsw', Option.bind_some, g2]
              obtain ⟨r', P1, P2, u1, u2, u3⟩ := meets_res h (q := 3) (by decide)
              refine ⟨r', P1, P2, u1, ?_, u3⟩
              rw [Option.bind_eq_some_iff] at u2
              obtain ⟨c, v1, v2⟩ := u2
              have hneg := meets_neg _ _ v1
              rw [v1]
              simp only [Option.bind_some, hneg, if_pos (show (-3 : Int32) < 0 by decide), tr_el]
              rw [← hneg]
              exact v2
      · rw [g1, k1, e1, k5, hw.2.2.1]
        have hw0 : ¬ nI w.1 < 0 := nI_pos (by omega)
        simp (disch := omega) only [Option.bind_some, if_neg hq1, if_neg hs0, if_neg hw0, neq, if_neg (show ¬ (0 : Int32) = 1 by decide), if_neg (show ¬ (0 : Int32) = 5 by decide)]
        by_cases q5 : q = 5
        · subst q5
          have := e2 rfl
          simp only [if_pos (show nI 5 = 5 from rfl), if_neg (show ¬ (5 : Int32) = 0 by decide), if_neg this, tr_el, Option.bind_some]
          obtain ⟨r', P1, P2, u1, u2, u3⟩ := meets_res h (q := 5) (by decide)
          refine ⟨r', P1, P2, u1, ?_, u3⟩
          rw [Option.bind_eq_some_iff] at u2
          obtain ⟨c, v1, v2⟩ := u2
          rw [show (5 : Int32) = nI 5 from rfl, v1]
          exact v2
        · have q3 : q = 3 := by omega
          subst q3
          have hsw : s = w.1 := e3 rfl
          simp only [if_neg (show ¬ nI 3 = 5 by decide), if_pos hsw, if_neg hq0, if_true, Option.bind_some, g2]
          obtain ⟨r', P1, P2, u1, u2, u3⟩ := meets_res h (q := 3) (by decide)
          refine ⟨r', P1, P2, u1, ?_, u3⟩
          rw [Option.bind_eq_some_iff] at u2
          obtain ⟨c, v1, v2⟩ := u2
          have hneg := meets_neg _ _ v1
          rw [v1]
          simp only [Option.bind_some, hneg, if_pos (show (-3 : Int32) < 0 by decide), tr_el]
          rw [← hneg]
          exact v2
  · have hw0 : ¬ nI w.1 < 0 := nI_pos (by omega)
    have hN : N2.1 1 10 = nI w.1 := by rw [g6 1 (by decide) (by decide)]; exact hw.2.2.1
    have hsm : SM M2 (tr_row N2 19 (cp (N2.1 19) (N2.1 12) w.1)) := g4.tr (SM.row (by omega))
    rcases order_both (h.sc SC.rf hsm) (hw.sc SC.rf hsm) ht with ⟨q', hq', k1, k2, k3, k4⟩ | ⟨f', N3, hf', hc', k1, k2, k3, k4, k5, k6, k7⟩
    · have hrow3 : (tr_row N2 19 (cp (N2.1 19) (N2.1 12) w.1)).1 3 t = M2.1 3 t := by rw [tr_row_ne (by decide), g6 3 (by decide) (by decide)]
      rw [hrow3] at k3 k4
      rw [g1, k1, g5]
      simp only [Option.bind_some, if_neg (show ¬ (0 : Int32) = 1 by decide), if_neg (show ¬ (0 : Int32) = 5 by decide), if_neg hw0, hw.2.2.1, if_true]
      by_cases q1' : q' = 1
      · subst q1'
        rw [k3 rfl]
        simp only [if_pos (show nI 1 = 1 from rfl), if_neg (show ¬ (1 : Int32) = 0 by decide), if_pos (show (-1 : Int32) < 0 by decide), tr_el, Option.bind_some]
        exact meets_res h (q := 1) (by decide)
      · obtain ⟨s', hs', e1', e2', e3'⟩ := k4 q1'
        clear k4 k3
        have hq1' : ¬ nI q' = 1 := by rw [show (1 : Int32) = nI 1 from rfl, neq (by omega) (by decide)]; exact q1'
        have hs0' : ¬ nI s' < 0 := nI_pos (by omega)
        rw [e1']
        simp (disch := omega) only [if_neg hq1', if_neg hs0', neq]
        by_cases q5' : q' = 5
        · subst q5'
          have := e2' rfl
          simp only [if_pos (show nI 5 = 5 from rfl), if_neg (show ¬ (5 : Int32) = 0 by decide), if_neg this, tr_el, Option.bind_some]
          obtain ⟨r', P1, P2, u1, u2, u3⟩ := meets_res h (q := 5) (by decide)
          refine ⟨r', P1, P2, u1, ?_, u3⟩
          rw [Option.bind_eq_some_iff] at u2
          obtain ⟨c, v1, v2⟩ := u2
          rw [show (5 : Int32) = nI 5 from rfl, v1]
          exact v2
        · have q3' : q' = 3 := by omega
          subst q3'
          have hsw' : s' = w.1 := e3' rfl
          simp only [if_neg (show ¬ nI 3 = 5 by decide), if_neg (show ¬ nI 3 = 0 by decide), if_pos hsw', Option.bind_some, g2, if_neg (show ¬ (0 : Int32) < 0 by decide)]
          rw [wanted_eq hw.1 hN]
          dsimp only [Option.bind_some]
          rw [k2]
          obtain ⟨r', P1, P2, u1, u2, u3, u4, u5⟩ := meets_res (h.sc SC.rf hsm) (q := 3) (by decide)
          refine ⟨r', P1, P2, u1, ?_, u3, u4, hsm.km.tr u5⟩
          rw [Option.bind_eq_some_iff] at u2
          obtain ⟨c, v1, v2⟩ := u2
          have hneg := meets_neg _ _ v1
          rw [v1]
          simp only [Option.bind_some, hneg, if_pos (show (-3 : Int32) < 0 by decide), tr_el]
          rw [← hneg]
          exact v2
    · have hrow3 : (tr_row N2 19 (cp (N2.1 19) (N2.1 12) w.1)).1 3 t = M2.1 3 t := by rw [tr_row_ne (by decide), g6 3 (by decide) (by decide)]
      rw [hrow3] at k5
      rw [g1, k1, g5, k5]
      simp only [Option.bind_some, if_neg (show ¬ (0 : Int32) = 1 by decide), if_neg (show ¬ (0 : Int32) = 5 by decide), if_neg hw0, hw.2.2.1, if_true, g2, if_neg (show ¬ (0 : Int32) < 0 by decide)]
      rw [wanted_eq hw.1 hN]
      dsimp only [Option.bind_some]
      rw [k2]
      simp only [Option.bind_some, if_neg (show ¬ (0 : Int32) < 0 by decide)]
      rw [seatsOf_eq hw.1 hw.2.1.1 hf' hc' (by omega) (by omega) rfl (by omega) (by omega)]
      dsimp only [Option.bind_some]
      rw [apartC hw.1 hr (by rw [tr_row_ne (by decide)]; exact hw.2.1.1) hf (fun i hi => by rw [tr_row_ne (by omega)]; exact hc i hi) (fun y hy => by rw [tr_row_s]; exact sa_ord hf' hy)]
      rw [apartM hw.1 (by rw [k6 1 (by decide) (by decide), tr_row_ne (by decide)]; exact hN) hf (fun i hi => by rw [k6 19 (by decide) (by decide), tr_row_s, cp_in hi]; exact g3.1 i hi) k3.2]
      exact Res2.sc h (SC.row (by omega)) (hsm.tr k4)
