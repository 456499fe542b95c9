theorem middle_C {n : Nat} {S : Nat → Nat} {P : tr_M} (hn : n ≤ 10) (hw : P.1 26 0 = nI n) (hS : ∀ i, S i ≤ 3628800) (h : ∀ i, i < 10 → P.1 61 i = nI (S i)) : tr_loop (mX6_middle_l51 P) (0, 0) = some (lN (sm n (fun i => i * S i))) := by
  refine tr_loop_seq' (fun k => (lN (sm k (fun i => i * S i)), nI k)) n rfl (by omega) (fun k hk => ?_) ?_
  · unfold mX6_middle_l51
    dsimp only
    have := hS k
    rw [hw, if_pos ((nlt (by omega) (by omega)).mpr hk), tr_rd_nI (by omega) (by decide), Option.bind_some, h k (by omega), nadd1, nI_l (by omega), nI_l (by omega), lN_mul, lN_add]
    rfl
  · unfold mX6_middle_l51
    dsimp only
    rw [hw, if_neg (by rw [nlt (by omega) (by omega)]; omega)]
theorem middle_M {n : Nat} {S : Nat → Nat} {P : tr_M} (hn : n ≤ 10) (hw : P.1 1 10 = nI n) (hS : ∀ i, S i ≤ 3628800) (h : ∀ i, i < 10 → P.1 21 i = nI (S i)) : tr_loop (mX7_middle_l41 P) (0, 0) = some (lN (sm n (fun i => i * S i))) := by
  refine tr_loop_seq' (fun k => (lN (sm k (fun i => i * S i)), nI k)) n rfl (by omega) (fun k hk => ?_) ?_
  · unfold mX7_middle_l41
    dsimp only
    have := hS k
    rw [hw, if_pos ((nlt (by omega) (by omega)).mpr hk), tr_rd_nI (by omega) (by decide), Option.bind_some, h k (by omega), nadd1, nI_l (by omega), nI_l (by omega), lN_mul, lN_add]
    rfl
  · unfold mX7_middle_l41
    dsimp only
    rw [hw, if_neg (by rw [nlt (by omega) (by omega)]; omega)]
theorem r_middle {w : Wd} {M1 M2 : tr_M} (h : InvE w M1 M2) (p1 p2 : Int32) : ResE w (mX6_middle p1 p2 M1) (mX7_middle p1 p2 M2) := by
  have hn := h.2.1.1.1
  unfold mX6_middle mX7_middle
  rcases isMeasure_cases p1 with ⟨i1, i2⟩ | ⟨m, hm, rfl, i1, i2⟩
  · rw [i1, i2, if_pos rfl, Option.bind_some, if_pos rfl]
    exact ResE.same h
  rw [i1, i2, if_neg (show ¬ (1 : Int32) = 0 by decide), Option.bind_some, if_neg (show ¬ (1 : Int32) = 0 by decide)]
  rcases thing_cases h.2.1 p2 with ⟨j1, j2⟩ | ⟨a, ha, rfl, j1, j2⟩
  · rw [j1, j2, if_pos rfl, Option.bind_some, if_pos rfl]
    exact ResE.same h
  rw [j1, j2, if_neg (show ¬ (1 : Int32) = 0 by decide), Option.bind_some, if_neg (show ¬ (1 : Int32) = 0 by decide)]
  refine need_call h hm (F1 := fun q N => Option.bind (mLO_spreadOf q (nI a) 61 N) (fun c9 => Option.bind (tr_loop (mX6_middle_l51 c9) ((0 : Int64), (0 : Int32))) (fun v11 => Option.bind (mLO_number q c9) (fun c15 => Option.bind (mX6_tellFraction v11 c15.1.toInt64 c15.2) (fun c17 => Option.bind (mLO_number q c17) (fun c19 => some (c19.1, c19.2))))))) (F2 := fun N => Option.bind (mX7_layPlaceMany (nI m) (nI a) N) (fun c7 => Option.bind (tr_loop (mX7_middle_l41 c7) ((0 : Int64), (0 : Int32))) (fun v9 => Option.bind (mX7_fraction v9 ((c7.1 1 30).toInt64) (c7.1 1 30) c7) (fun c13 => some (c13.1, c13.2))))) (fun N1 N2 _ _ hI hc hN hne _ => ?_)
  have hok := hI.2.1.1
  obtain ⟨P, p1, p2, p3, p4⟩ := lo_spread (pin := none) hok hI.2.1.2.1 hc.2.2 ha
  obtain ⟨Q, q1, q2, q3, q4⟩ := m_spread hok hI.2.1.2.2 hI.2.2.2.2 hm hN ha
  have hS := SP_le hok (pin := none) m ha
  have hcP := hc.ks p3 p2
  have hIP : InvE w P Q := hI.kl p3.kl q4 (hcP.cch (by omega) hne)
  have hll := LL_len hok none m
  have hlp := LL_pos (pin := none) (m := m) hok trivial hne
  obtain ⟨R, r1, r2, r3⟩ := lo_number (pin := none) hok trivial hIP.2.1.2.1 p2
  have hcR := hcP.ks r3 r2
  have hIR : InvE w R Q := hIP.kl r3.kl KX.rf (hcR.cch (by omega) hne)
  have hsum : sm w.1 (fun i => i * SP w none m a i) < 2 ^ 62 := by
    have h1 : sm w.1 (fun i => i * SP w none m a i) ≤ w.1 * (10 * 3628800) := sm_le fun i hi => Nat.mul_le_mul (by omega) (hS i)
    have h2 : w.1 * (10 * 3628800) ≤ 10 * (10 * 3628800) := Nat.mul_le_mul_right _ hn
    omega
  obtain ⟨T1, T2, t1, t2, t3, t4, t5, t6⟩ := frac_both hIR.1 hsum (show (LL w none m).length < 2 ^ 40 by omega) hlp (nI (LL w none m).length)
  rw [p1, Option.bind_some, q1, Option.bind_some, middle_C hn (hI.2.1.2.1.ks p3).1 hS p4, middle_M hn (hI.2.1.2.2.kx q4).1 hS q2]
  dsimp only [Option.bind_some]
  rw [r1, Option.bind_some, q3, hN.2.1, nI_l (by omega), t1, Option.bind_some, t2, Option.bind_some]
  obtain ⟨r', U1, U2, u1, u2, hIT⟩ := hIR.res2 (a := some ((0 : Int32), T1)) (b := some ((0 : Int32), T2)) ⟨0, T1, T2, rfl, rfl, t3, t4.to2, t5⟩
  cases u1
  cases u2
  have hLT : Lst w none m T1 := r2.cg fun c _ _ _ => by rw [t6]
  have hcT : Cc w none m T1 := ⟨by rw [t6]; exact hcR.1, by rw [t6]; exact hcR.2.1, hLT⟩
  obtain ⟨V, v1, v2, v3⟩ := lo_number (pin := none) hok trivial hIT.2.1.2.1 hLT
  rw [v1, Option.bind_some]
  exact ⟨_, V, T2, rfl, rfl, hIT.kl v3.kl KX.rf ((hcT.ks v3 v2).cch (by omega) hne)⟩
