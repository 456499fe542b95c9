theorem places_C {n : Nat} {S : Nat → Nat} {P : tr_M} (hn : n ≤ 10) (hw : P.1 26 0 = nI n) (hS : ∀ i, S i ≤ 3628800) (h : ∀ i, i < 10 → P.1 61 i = nI (S i)) : tr_loop (mX6_places_l51 P) (0, 0) = some (nI (mkb n (fun i => decide (0 < S i))), P) := by
  refine tr_loop_seq' (fun k => (nI (mkb k (fun i => decide (0 < S i))), nI k)) n rfl (by omega) (fun k hk => ?_) ?_
  · unfold mX6_places_l51
    dsimp only
    have := hS k
    rw [hw, if_pos ((nlt (by omega) (by omega)).mpr hk), tr_rd_nI (by omega) (by decide), Option.bind_some, h k (by omega), nadd1]
    simp (disch := omega) only [n0lt]
    show _ = some (Sum.inl (nI (mkb k (fun i => decide (0 < S i)) ||| (if decide (0 < S k) = true then 2 ^ k else 0)), nI (k + 1)))
    by_cases c : 0 < S k
    · rw [if_pos c, Option.bind_some, ins_nI (by omega), if_pos (decide_eq_true c)]
      rfl
    · rw [if_neg c, if_neg (by simpa using c), Nat.or_zero]
  · unfold mX6_places_l51
    dsimp only
    rw [hw, if_neg (by rw [nlt (by omega) (by omega)]; omega)]
theorem places_M {n : Nat} {S : Nat → Nat} {P : tr_M} (hn : n ≤ 10) (hw : P.1 1 10 = nI n) (hS : ∀ i, S i ≤ 3628800) (h : ∀ i, i < 10 → P.1 21 i = nI (S i)) : tr_loop (mX7_places_l41 P) (0, 0) = some (nI (mkb n (fun i => decide (0 < S i))), P) := by
  refine tr_loop_seq' (fun k => (nI (mkb k (fun i => decide (0 < S i))), nI k)) n rfl (by omega) (fun k hk => ?_) ?_
  · unfold mX7_places_l41
    dsimp only
    have := hS k
    rw [hw, if_pos ((nlt (by omega) (by omega)).mpr hk), tr_rd_nI (by omega) (by decide), Option.bind_some, h k (by omega), nadd1]
    simp (disch := omega) only [n0lt]
    show _ = some (Sum.inl (nI (mkb k (fun i => decide (0 < S i)) ||| (if decide (0 < S k) = true then 2 ^ k else 0)), nI (k + 1)))
    by_cases c : 0 < S k
    · rw [if_pos c, Option.bind_some, ins_nI (by omega), if_pos (decide_eq_true c)]
      rfl
    · rw [if_neg c, if_neg (by simpa using c), or0, Nat.or_zero]
  · unfold mX7_places_l41
    dsimp only
    rw [hw, if_neg (by rw [nlt (by omega) (by omega)]; omega)]
theorem r_places {w : Wd} {M1 M2 : tr_M} (h : InvE w M1 M2) (p1 p2 : Int32) : ResE w (mX6_places p1 p2 M1) (mX7_places p1 p2 M2) := by
  have hn := h.2.1.1.1
  unfold mX6_places mX7_places
  rcases isMeasure_cases p1 with ⟨i1, i2⟩ | ⟨m, hm, rfl, i1, i2⟩
  · rw [i1, i2, if_pos rfl, Option.bind_some, if_pos rfl]
    exact ResE.same h
  rw [i1, i2, if_neg (show ¬ (1 : Int32) = 0 by decide), Option.bind_some, if_neg (show ¬ (1 : Int32) = 0 by decide)]
  rcases thing_cases h.2.1 p2 with ⟨j1, j2⟩ | ⟨a, ha, rfl, j1, j2⟩
  · rw [j1, j2, if_pos rfl, Option.bind_some, if_pos rfl]
    exact ResE.same h
  rw [j1, j2, if_neg (show ¬ (1 : Int32) = 0 by decide), Option.bind_some, if_neg (show ¬ (1 : Int32) = 0 by decide)]
  refine need_call h hm (F1 := fun q N => Option.bind (mLO_spreadOf q (nI a) 61 N) (fun c9 => tr_loop (mX6_places_l51 c9) ((0 : Int32), (0 : Int32)))) (F2 := fun N => Option.bind (mX7_layPlaceMany (nI m) (nI a) N) (fun c7 => tr_loop (mX7_places_l41 c7) ((0 : Int32), (0 : Int32)))) (fun N1 N2 _ _ hI hc hN hne _ => ?_)
  have hok := hI.2.1.1
  obtain ⟨P, p1, p2, p3, p4⟩ := lo_spread (pin := none) hok hI.2.1.2.1 hc.2.2 ha
  obtain ⟨Q, q1, q2, q3, q4⟩ := m_spread hok hI.2.1.2.2 hI.2.2.2.2 hm hN ha
  have hS := SP_le hok (pin := none) m ha
  rw [p1, Option.bind_some, q1, Option.bind_some, places_C hn (hI.2.1.2.1.ks p3).1 hS p4, places_M hn (hI.2.1.2.2.kx q4).1 hS q2]
  exact ⟨_, P, Q, rfl, rfl, hI.kl p3.kl q4 ((hc.ks p3 p2).cch (by omega) hne)⟩
