theorem mem_LL {w : Wd} {pin : Option (Nat × Nat)} {m : Nat} {p : List Nat} (h : p ∈ LL w pin m) : ∃ f, Ord w.1 f ∧ p = seg f 0 w.1 := by
  unfold LL at h
  by_cases c : m = 4
  · rw [if_pos c] at h
    exact mem_Al (List.mem_filter.mp h).1
  · rw [if_neg c] at h
    exact mem_Al (List.mem_filter.mp h).1
theorem LL_len {w : Wd} (hok : WOk w) (pin : Option (Nat × Nat)) (m : Nat) : (LL w pin m).length ≤ 3628800 := by
  have h1 : (LL w pin m).length ≤ (Pm w.1).length := by
    unfold LL
    split
    · exact Nat.le_trans (List.length_filter_le _ _) (List.length_filter_le _ _)
    · exact Nat.le_trans (List.length_filter_le _ _) (List.length_filter_le _ _)
  rw [Pm_len] at h1
  have := fct_le10 hok.1
  omega
theorem lm_in {L : List Nat} (h : lm NV L < NV) : lm NV L ∈ L := lm_mem h
theorem LL_pos {w : Wd} (hok : WOk w) {pin : Option (Nat × Nat)} (hpo : pinOk w.1 pin) {m : Nat} (h : Al w pin ≠ []) : 0 < (LL w pin m).length := by
  have key : ∀ v : List Nat → Nat, lm NV ((Al w pin).map v) < NV → 0 < ((Al w pin).filter (fun p => decide (v p = lm NV ((Al w pin).map v)))).length := fun v hv => by
    obtain ⟨p, p1, p2⟩ := List.mem_map.mp (lm_in hv)
    exact List.length_pos_of_mem (List.mem_filter.mpr ⟨p1, decide_eq_true p2⟩)
  unfold LL
  by_cases c : m = 4
  · rw [if_pos c]
    exact key (lgv w) ((LM_lt hok).mpr h)
  · rw [if_neg c]
    exact key (cst w m) ((VS_lt hok hpo m).mpr h)
theorem LL_get {w : Wd} {pin : Option (Nat × Nat)} {m k : Nat} (h : k < (LL w pin m).length) : ∃ f, Ord w.1 f ∧ (LL w pin m)[k]? = some (seg f 0 w.1) := by
  obtain ⟨f, f1, f2⟩ := mem_LL (List.getElem_mem h)
  exact ⟨f, f1, by rw [List.getElem?_eq_getElem h, f2]⟩
/-- the k-th least order comes to a row on both sides -/
theorem pick_both {w : Wd} {m k r : Nat} {N1 N2 : tr_M} (h : InvE w N1 N2) (hm : m ≤ 4) (hr : r < 6) (hc : Cc w none m N1) (hN : NT w none m N2) (hne : Al w none ≠ []) (hk : k < (LL w none m).length) : ∃ P1 P2 Q1 Q2, mLO_pick (rf m) (nI k) 59 N1 = some P1 ∧ mX6_layOrder (nI r) 59 P1 = some Q1 ∧ mX7_layLeast (nI m) (nI k) N2 = some P2 ∧ mX7_lineToRow (nI r) P2 = some Q2 ∧ InvE w Q1 Q2 ∧ Lst w none m Q1 ∧ Q2.1 1 29 = N2.1 1 29 := by
  have hI := h
  obtain ⟨h1, ⟨hok, hw, hmw⟩, h3, h4, h5⟩ := h
  obtain ⟨f, f1, f2⟩ := LL_get hk
  obtain ⟨P1, p1, p2, p3, p4⟩ := lo_pick (pin := none) hok trivial hw hc.2.2 f1 f2
  obtain ⟨P2, q1, q2, q3, q4⟩ := m_pick hok hmw h5 hm hN f1 f2
  have kx := KX.of q3 q4
  have hI2 : InvE w P1 P2 := hI.kl p4.kl kx ((hc.ks p4 p2).cch (by omega) hne)
  obtain ⟨Q1, Q2, l1, l2, l3, l4, l5, l6, l7⟩ := laid_both hI2.1 hI2.2.1 hr p3 rfl (by decide) q2
  have hres : Res2 (some ((0 : Int32), Q1)) (some ((0 : Int32), Q2)) P1 P2 := ⟨0, Q1, Q2, rfl, rfl, l3, l4.to2, l5⟩
  obtain ⟨r', R1, R2, r1, r2, r3⟩ := hI2.res2 hres
  cases r1
  cases r2
  refine ⟨P1, P2, Q1, Q2, p1, l1, q1, l2, r3, p2.cg fun c c1 c2 _ => l6 c (by omega) (by omega), ?_⟩
  have e := lineToRow_eq hok hr hI2.2.1.2.2.1
  rw [l2] at e
  rw [Option.some.inj e, tr_row_ne (by decide), tr_st_ne (by decide), q3 1 (by decide) (by decide)]
theorem r_first {w : Wd} {M1 M2 : tr_M} (h : InvE w M1 M2) (p1 p2 : Int32) : ResE w (mX6_first p1 p2 M1) (mX7_first p1 p2 M2) := by
  unfold mX6_first mX7_first
  rcases isMeasure_cases p1 with ⟨i1, i2⟩ | ⟨m, hm, rfl, i1, i2⟩
  · rw [i1, i2, if_pos rfl, Option.bind_some, if_pos rfl]
    exact ResE.same h
  · rw [i1, i2, if_neg (show ¬ (1 : Int32) = 0 by decide), Option.bind_some, if_neg (show ¬ (1 : Int32) = 0 by decide)]
    rcases isRow_cases p2 with ⟨j1, j2⟩ | ⟨r, hr, rfl, j1, j2⟩
    · rw [j1, j2, if_pos rfl, Option.bind_some, if_pos rfl]
      exact ResE.same h
    · rw [j1, j2, if_neg (show ¬ (1 : Int32) = 0 by decide), Option.bind_some, if_neg (show ¬ (1 : Int32) = 0 by decide)]
      refine need_call h hm (F1 := fun q N => Option.bind (mLO_pick q 0 59 N) (fun c9 => Option.bind (mX6_layOrder (nI r) 59 c9) (fun c11 => Option.bind (mLO_value q c11) (fun c13 => some (c13, c11))))) (F2 := fun N => Option.bind (mX7_layLeast (nI m) 0 N) (fun c7 => Option.bind (mX7_lineToRow (nI r) c7) (fun c9 => some (c9.1 1 29, c9)))) (fun N1 N2 _ _ hI hc hN hne _ => ?_)
      obtain ⟨P1, P2, Q1, Q2, x1, x2, x3, x4, x5, x6, x7⟩ := pick_both (k := 0) hI hm hr hc hN hne (LL_pos (pin := none) hI.2.1.1 trivial hne)
      have x1' : mLO_pick (rf m) 0 59 N1 = some P1 := x1
      have x3' : mX7_layLeast (nI m) 0 N2 = some P2 := x3
      rw [x1', Option.bind_some, x2, Option.bind_some, x3', Option.bind_some, x4, Option.bind_some, lo_value (pin := none) hI.2.1.1 trivial x6, Option.bind_some, x7, hN.1]
      exact ResE.same x5
theorem r_order {w : Wd} {M1 M2 : tr_M} (h : InvE w M1 M2) (p1 p2 p3 : Int32) : ResE w (mX6_order p1 p2 p3 M1) (mX7_order p1 p2 p3 M2) := by
  unfold mX6_order mX7_order
  rcases isMeasure_cases p1 with ⟨i1, i2⟩ | ⟨m, hm, rfl, i1, i2⟩
  · rw [i1, i2, if_pos rfl, Option.bind_some, if_pos rfl]
    exact ResE.same h
  · rw [i1, i2, if_neg (show ¬ (1 : Int32) = 0 by decide), Option.bind_some, if_neg (show ¬ (1 : Int32) = 0 by decide)]
    by_cases c : p2 < 0
    · rw [if_pos c, if_pos c]
      exact ResE.same h
    rw [if_neg c, if_neg c]
    rcases isRow_cases p3 with ⟨j1, j2⟩ | ⟨r, hr, rfl, j1, j2⟩
    · rw [j1, j2, if_pos rfl, Option.bind_some, if_pos rfl]
      exact ResE.same h
    · rw [j1, j2, if_neg (show ¬ (1 : Int32) = 0 by decide), Option.bind_some, if_neg (show ¬ (1 : Int32) = 0 by decide)]
      obtain ⟨k, hk, rfl⟩ : ∃ k, k < 2147483648 ∧ p2 = nI k := by
        rcases n_cases p2 with x | x
        · exact absurd x c
        · exact x
      refine need_call h hm (F1 := fun q N => Option.bind (mLO_number q N) (fun c9 => if nI k < c9.1 then Option.bind (mLO_pick q (nI k) 59 c9.2) (fun c11 => Option.bind (mX6_layOrder (nI r) 59 c11) (fun c13 => some ((1 : Int32), c13))) else Option.bind (mX6_found 2 c9.2) (fun c15 => some (c15.1, c15.2)))) (F2 := fun N => if nI k < N.1 1 30 then Option.bind (mX7_layLeast (nI m) (nI k) N) (fun c7 => Option.bind (mX7_lineToRow (nI r) c7) (fun c9 => some ((1 : Int32), c9))) else Option.bind (mX7_meets 2 N) (fun c11 => some (c11.1, c11.2))) (fun N1 N2 _ _ hI hc hN hne _ => ?_)
      have hok := hI.2.1.1
      have hll := LL_len hok none m
      obtain ⟨P, p1, p2, p3⟩ := lo_number (pin := none) hok trivial hI.2.1.2.1 hc.2.2
      have hcP := hc.ks p3 p2
      have hIP : InvE w P N2 := hI.kl p3.kl KX.rf (hcP.cch (by omega) hne)
      rw [p1, Option.bind_some, hN.2.1]
      simp (disch := omega) only [nlt]
      by_cases d : k < (LL w none m).length
      · rw [if_pos d, if_pos d]
        obtain ⟨P1, P2, Q1, Q2, x1, x2, x3, x4, x5, x6, x7⟩ := pick_both (k := k) hIP hm hr hcP hN hne d
        rw [x1, Option.bind_some, x2, Option.bind_some, x3, Option.bind_some, x4, Option.bind_some]
        exact ResE.same x5
      · rw [if_neg d, if_neg d]
        exact hIP.res2 (meets_res hIP.1 (q := 2) (by decide))
