theorem wantR_eq {n : Nat} {f : Nat → Nat} {M : tr_M} (hn : n ≤ 10) (hw : M.1 1 10 = nI n) (hl : ∀ i, i < n → M.1 12 i = nI (f i)) : ∃ N, tr_loop mX7_rank_l31 (0, M) = some N ∧ (∀ i, i < n → N.1 19 i = nI (f i)) ∧ (∀ c, c ≠ 19 → N.1 c = M.1 c) ∧ N.2 = M.2 := by
  obtain ⟨N, e, h1, h2, h3⟩ := tr_loop_inv (step := mX7_rank_l31) (s0 := (0, M)) (fun k t => t.1 = nI k ∧ (∀ i, i < k → t.2.1 19 i = nI (f i)) ∧ (∀ b, b ≠ 19 → t.2.1 b = M.1 b) ∧ t.2.2 = M.2) (fun N => (∀ i, i < n → N.1 19 i = nI (f i)) ∧ (∀ b, b ≠ 19 → N.1 b = M.1 b) ∧ N.2 = M.2) n (by omega) ⟨rfl, fun _ h => absurd h (by omega), fun _ _ => rfl, rfl⟩ (by
    rintro k ⟨-, N⟩ hk ⟨rfl, t1, t2, t3⟩
    left
    dsimp only at t1 t2 t3
    unfold mX7_rank_l31
    dsimp only
    rw [t2 1 (by decide), hw, if_pos ((nlt (by omega) (by omega)).mpr hk), tr_rd_nI (by omega) (by decide), Option.bind_some, tr_wr_nI (by omega) (by decide), Option.bind_some, nadd1, t2 12 (by decide), hl k hk]
    refine ⟨_, rfl, rfl, fun i hi => ?_, fun b hb => (tr_st_ne hb).trans (t2 b hb), t3⟩
    by_cases q : i = k
    · rw [q]; exact tr_st_s
    · exact (tr_st_j q).trans (t1 i (by omega))) (by
    rintro ⟨-, N⟩ ⟨rfl, t1, t2, t3⟩
    dsimp only at t1 t2 t3
    unfold mX7_rank_l31
    dsimp only
    rw [t2 1 (by decide), hw, if_neg (by rw [nlt (by omega) (by omega)]; omega)]
    exact ⟨N, rfl, t1, t2, t3⟩)
  exact ⟨N, e, h1, h2, h3⟩
theorem r_rank {w : Wd} {M1 M2 : tr_M} (h : InvE w M1 M2) (p1 p2 : Int32) : ResE w (mX6_rank p1 p2 M1) (mX7_rank p1 p2 M2) := by
  have hn := h.2.1.1.1
  unfold mX6_rank mX7_rank
  rcases isMeasure_cases p1 with ⟨i1, i2⟩ | ⟨m, hm, rfl, i1, i2⟩
  · rw [i1, i2, if_pos rfl, Option.bind_some, if_pos rfl]
    exact ResE.same h
  rw [i1, i2, if_neg (show ¬ (1 : Int32) = 0 by decide), Option.bind_some, if_neg (show ¬ (1 : Int32) = 0 by decide)]
  rcases isRow_cases p2 with ⟨j1, j2⟩ | ⟨r, hr, rfl, j1, j2⟩
  · rw [j1, j2, if_pos rfl, Option.bind_some, if_pos rfl]
    exact ResE.same h
  rw [j1, j2, if_neg (show ¬ (1 : Int32) = 0 by decide), Option.bind_some, if_neg (show ¬ (1 : Int32) = 0 by decide)]
  have hl := len_row hr
  rcases order_both h.1 h.2.1 hr with ⟨q, hq, g1, g2, -⟩ | ⟨f, N2, hf, hc, g1, g2, g3, g4, -, g5, -⟩
  · have hne : ¬ nI q = 0 := by rcases hq with rfl | rfl | rfl <;> decide
    rw [g1, g2, Option.bind_some, if_neg hne]
    have := fault_res h.1 hq (fun c => Option.bind (tr_loop mX7_rank_l31 ((0 : Int32), c.2)) (fun v7 => Option.bind (mX7_needLeast (nI m) v7) (fun c13 => if c13.1 < 0 then some (c13.1, c13.2) else if nI m = (4 : Int32) then Option.bind (mX7_rankReach c13.2) (fun c15 => some (c15.1, c15.2)) else Option.bind (mX7_rankBySets (nI m) c13.2) (fun c17 => some (c17, c13.2)))))
    rw [if_neg hne] at this
    exact h.res2 this
  · obtain ⟨V, v1, v2, v3, v4⟩ := wantR_eq (M := N2) hn (by rw [g5 1 (by decide) (by decide)]; exact h.2.1.2.2.1) g3.1
    have hV : InvE w M1 V := by
      have hv : ∀ c, c ≠ 12 → c ≠ 13 → c ≠ 19 → V.1 c = M2.1 c := fun c c1 c2 c3 => (v3 c c3).trans (g5 c c1 c2)
      have hv2 : V.2 = M2.2 := v4.trans g4.2
      refine ⟨h.1.congr (fun c _ _ _ _ _ => rfl) (fun k _ => rfl) rfl (fun c c1 c2 _ => hv c (by omega) (by omega) (by omega)) (fun k _ => by rw [hv 1 (by decide) (by decide) (by decide)]) (fun k _ => by rw [hv2]), ⟨h.2.1.1, h.2.1.2.1, h.2.1.2.2.congr (by rw [hv 1 (by decide) (by decide) (by decide)]) (by rw [hv 1 (by decide) (by decide) (by decide)]) (hv 8 (by decide) (by decide) (by decide)) (hv 9 (by decide) (by decide) (by decide))⟩, h.2.2.1, h.2.2.2.1, ?_⟩
      show V.1 1 27 = -9
      rw [hv 1 (by decide) (by decide) (by decide)]
      exact h.2.2.2.2
    rw [g1, g2, Option.bind_some, if_pos rfl, Option.bind_some, if_neg (show ¬ (0 : Int32) < 0 by decide)]
    have v1' : tr_loop mX7_rank_l31 (0, N2) = some V := v1
    dsimp only
    rw [v1', Option.bind_some]
    refine need_call hV hm (F1 := fun q N => Option.bind (tr_ra 6 (fun i => 62 + 2 * i) (nI r)) (fun r11 => Option.bind (mLO_indexOf q (r11 + 1) N) (fun c13 => some (c13.1, c13.2)))) (F2 := fun N => if nI m = (4 : Int32) then Option.bind (mX7_rankReach N) (fun c15 => some (c15.1, c15.2)) else Option.bind (mX7_rankBySets (nI m) N) (fun c17 => some (c17, N))) (fun P1 P2 k1 k2 hI hcc hN hne _ => ?_)
    have hok := hI.2.1.1
    have h19 : ∀ i, i < w.1 → P2.1 19 i = nI (f i) := fun i hi => by rw [k2.1 19 (by decide) (by decide) (by decide)]; exact v2 i hi
    obtain ⟨Q, q1, q2, q3⟩ := lo_index (pin := none) (p := 62 + 2 * r + 1) hok trivial hI.2.1.2.1 hcc.2.2 hf (by omega) (fun i hi => by rw [k1.1 _ (by omega) (by omega)]; exact hc i hi) (by rw [hl]; omega) (by rw [hl]; decide)
    rw [tr_ra_nI hr (by decide), Option.bind_some, q1, Option.bind_some]
    have hcQ := (hcc.ks q3 q2).cch (show m ≤ 5 by omega) hne
    by_cases d : m = 4
    · subst d
      obtain ⟨R, r1, r2, r3⟩ := rankReach_eq (pin := none) hok hI.2.1.2.2 hI.2.2.2.2 trivial hN.1 hf h19
      rw [if_pos (show nI 4 = 4 from rfl), r1, Option.bind_some]
      exact ⟨_, Q, R, rfl, rfl, hI.kl q3.kl (KX.of r2 r3) hcQ⟩
    · obtain ⟨hB, hW⟩ := hN.2.2 d
      have e := mindex_loop (m := m) hok.1 hI.2.1.2.2.1 (Gd_fresh (nxW_fresh stM w none)) hf hW (fun s l x hst hx => isGood_eq hok hI.2.1.2.2 hI.2.2.2.2 (by omega) hB hst hx) h19
      rw [if_neg (by rw [show (4 : Int32) = nI 4 from rfl, neq (by omega) (by decide)]; exact d), e, Option.bind_some]
      refine ⟨_, Q, P2, ?_, rfl, hI.kl q3.kl KX.rf hcQ⟩
      unfold LL
      rw [if_neg d, ← EL_M (pin := none) hok trivial]
      rfl
