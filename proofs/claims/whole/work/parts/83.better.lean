/-! ===== swaps, moves: the calls ===== -/
theorem swapsM_round {w : Wd} {M2 : tr_M} {m : Nat} (hok : WOk w) (hw : MWd w M2) (hm : m ≤ 4) : ∀ f v c x N, Ord w.1 f → okf w none f = true → v = msr w m f → v ≤ 10000 → x ≠ -9 → SM M2 N → (∀ t, t < w.1 → N.1 12 t = nI (f t)) → ((scn w m (swV f) (swT f) v (w.1 - 1)).2 = none → ∃ P, mX7_swaps_l41 (nI m) (nI v, nI c, x, N) = some (.inl (nI v, nI c, -9, P)) ∧ SM M2 P ∧ ∀ t, t < w.1 → P.1 12 t = nI (f t)) ∧ ∀ j, (scn w m (swV f) (swT f) v (w.1 - 1)).2 = some j → ∃ x' P, x' ≠ -9 ∧ mX7_swaps_l41 (nI m) (nI v, nI c, x, N) = some (.inl (nI (msr w m (swT f j)), nI (c + 1), x', P)) ∧ SM M2 P ∧ ∀ t, t < w.1 → P.1 12 t = nI (swT f j t) := by
  intro f v c x N hf ho hv hv2 hx hs hl
  have hn := hok.1
  obtain ⟨P, e1, e2, e3⟩ := swapsRound hok hw hf hm hv2 hs hl
  obtain ⟨k1, k2, k3⟩ := scn_ok w m (swV f) (swT f) v (w.1 - 1)
  unfold mX7_swaps_l41
  dsimp only
  rw [if_neg hx, e1]
  dsimp only [Option.bind_some]
  constructor
  · intro h
    rw [h]
    exact ⟨P, rfl, e2, e3⟩
  · intro j h
    obtain ⟨a1, a2, a3, a4, a5⟩ := k3 j h
    obtain ⟨Q, q1, q2, q3, q4⟩ := swap_eq hn (show j < w.1 by omega) (show j + 1 < w.1 by omega) e3
    rw [h, a1, show oi (some j) = nI j from rfl, if_neg (oi_ne j (by omega))]
    refine ⟨nI j, Q, oi_ne j (by omega), ?_, e2.tr ⟨fun c _ h _ _ _ => q3 c h, q4⟩, q2⟩
    show Option.bind (mX7_swap (nI j) (nI j + 1) P) _ = _
    rw [nadd1, q1, Option.bind_some, nadd1]
theorem movesM_round {w : Wd} {M2 : tr_M} {m : Nat} (hok : WOk w) (hw : MWd w M2) (hm : m ≤ 4) : ∀ f v c x N, Ord w.1 f → okf w none f = true → v = msr w m f → v ≤ 10000 → x ≠ -9 → SM M2 N → MOr w f N → ((scn w m (mvV w.1 f) (mvT w.1 f) v (w.1 * w.1)).2 = none → ∃ P, mX7_moves_l41 (nI m) (nI v, nI c, x, N) = some (.inl (nI v, nI c, -9, P)) ∧ SM M2 P ∧ MOr w f P) ∧ ∀ j, (scn w m (mvV w.1 f) (mvT w.1 f) v (w.1 * w.1)).2 = some j → ∃ x' P, x' ≠ -9 ∧ mX7_moves_l41 (nI m) (nI v, nI c, x, N) = some (.inl (nI (msr w m (mvT w.1 f j)), nI (c + 1), x', P)) ∧ SM M2 P ∧ MOr w (mvT w.1 f j) P := by
  intro f v c x N hf ho hv hv2 hx hs hl
  have hn := hok.1
  have hnn : w.1 * w.1 ≤ 100 := Nat.mul_le_mul hn hn
  obtain ⟨P, e1, e2, e3⟩ := movesRound hok hw hf hm hv2 hs hl
  obtain ⟨k1, k2, k3⟩ := scn_ok w m (mvV w.1 f) (mvT w.1 f) v (w.1 * w.1)
  unfold mX7_moves_l41
  dsimp only
  rw [if_neg hx, e1]
  dsimp only [Option.bind_some]
  constructor
  · intro h
    rw [h]
    exact ⟨P, rfl, e2, e3⟩
  · intro j h
    obtain ⟨a1, a2, a3, a4, a5⟩ := k3 j h
    have hmP := hw.sm e2
    have hpos : 0 < w.1 := by
      refine Nat.pos_of_ne_zero fun e => ?_
      rw [e] at a4
      omega
    have ha : j / w.1 < w.1 := Nat.div_lt_of_lt_mul a4
    have hp : j % w.1 < w.1 := Nat.mod_lt _ hpos
    obtain ⟨hq1, hq⟩ := sf_ord hf ha
    obtain ⟨Q, q1, q2, q3⟩ := shift_eq hok hmP.1 hf hq hp e3.1
    have hj9 := oi_ne j (by omega)
    rw [h, a1, show oi (some j) = nI j from rfl, if_neg hj9]
    refine ⟨nI j, Q, hj9, ?_, e2.tr q3, q2⟩
    have cn : ¬ nI w.1 = 0 := by rw [n00, neq (by omega) (by decide)]; omega
    show Option.bind (tr_dvi (nI j) (P.1 1 10)) _ = _
    rw [hmP.1]
    unfold tr_dvi tr_rmi
    have hrem := pk_rem (a := j) (d := w.1) (by omega) hpos (by omega)
    rw [if_neg cn, if_neg cn, hrem, pk_div (by omega) hpos (by omega)]
    dsimp only [Option.bind_some]
    rw [tr_rd_nI (by omega) (by decide)]
    dsimp only [Option.bind_some]
    rw [e3.2 (j / w.1) ha, q1]
    dsimp only [Option.bind_some]
    rw [nadd1]
/-- both sides better a row, by swaps or by moves -/
theorem improve_both {w : Wd} {M1 M2 : tr_M} (h : ITF M1 M2) (hw : IWd w M1 M2) (p1 p2 : Int32) (b : Int32) {st2 : Int32 → Int32 × Int32 × Int32 × tr_M → Option ((Int32 × Int32 × Int32 × tr_M) ⊕ (Int32 × Int32 × tr_M))} (hR : ∀ m f N1 N2 P1 P2 v v7, m ≤ 4 → Ord w.1 f → okf w none f = true → v = msr w m f → SC M1 P1 → HasF P1 58 w.1 f → SM M2 P2 → MOr w f P2 → v7.2.1 26 0 = nI w.1 → N1 = M1 → N2 = M2 → ∃ f' v' c' Q1 Q2, tr_loop (mX6_improved_l113 (nI m) b v7) (nI v, 0, 0, P1) = some (nI v', nI c', Q1) ∧ tr_loop (st2 (nI m)) (nI v, 0, 0, P2) = some (nI v', nI c', Q2) ∧ Ord w.1 f' ∧ SC M1 Q1 ∧ HasF Q1 58 w.1 f' ∧ SM M2 Q2 ∧ ∀ t, t < w.1 → Q2.1 12 t = nI (f' t)) : Res2 (mX6_improved p1 p2 b M1) (Option.bind (mX7_isMeasure p1) fun c1 => if c1 = 0 then some (-1, M2) else Option.bind (mX7_isRow p2) fun c3 => if c3 = 0 then some (-1, M2) else Option.bind (mX7_needAllowed p2 M2) fun c5 => if c5.1 < 0 then some (c5.1, c5.2) else Option.bind (mX7_measureNow p1 c5.2) fun c7 => Option.bind (tr_loop (st2 p1) (c7, 0, 0, c5.2)) fun v9 => Option.bind (mX7_lineToRow p2 v9.2.2) fun c26 => Option.bind (mX7_tells v9.1 v9.2.1 c26) fun c28 => some (c28.1, c28.2)) M1 M2 := by
  have hn := hw.1.1
  unfold mX6_improved
  rcases isMeasure_cases p1 with ⟨e1, e2⟩ | ⟨m, hm, rfl, e1, e2⟩
  · rw [e1, e2]; exact (Res.same h).to2
  rcases isRow_cases p2 with ⟨d1, d2⟩ | ⟨r, hr, rfl, d1, d2⟩
  · rw [e1, e2, d1, d2]; exact (Res.same h).to2
  have hl := len_row hr
  unfold mX7_needAllowed
  simp only [e1, e2, d1, d2, Option.bind_some, if_neg (show ¬ (1 : Int32) = 0 by decide), tr_ra_nI hr (show 6 < 2147483648 by decide)]
  rcases order_both h hw hr with ⟨q, hq, g1, g2, -⟩ | ⟨f, N2, hf, hc, g1, g2, g3, g4, g5, g6, g7⟩
  · rw [g1, g2]
    have hne : ¬ nI q = 0 := by rcases hq with rfl | rfl | rfl <;> decide
    obtain ⟨a, P1, P2, f1, f2, f3⟩ := (found_both h (f := q) (by omega)).to2
    have ha : a = -3 := meets_neg _ _ f2
    subst ha
    simp only [Option.bind_some, if_neg hne]
    rw [f1, f2]
    exact ⟨_, P1, P2, rfl, rfl, f3⟩
  · rw [g1, g2]
    have hmN := hw.2.2.sm g4
    have eb : mX5_firstBroken 26 (62 + 2 * r + 1) M1 = some (brk w f, tr_row M1 44 (sa f (M1.1 44) w.1)) := firstBroken_eq hw.1 hw.2.1 hf hc (by omega) (by omega) rfl (by omega)
    simp only [Option.bind_some, if_true, if_neg (show ¬ (0 : Int32) < 0 by decide)]
    rw [eb, brokenNow_eq hw.1 hmN hf g3]
    simp only [Option.bind_some]
    have hs1 : SC M1 (tr_row M1 44 (sa f (M1.1 44) w.1)) := SC.row (by omega)
    by_cases o : okf w none f = true
    · simp only [if_pos ((brk_none hw.1).mpr o), Option.bind_some, if_true, if_neg (show ¬ (0 : Int32) < 0 by decide)]
      have h7 : (tr_row M1 44 (sa f (M1.1 44) w.1)).1 26 0 = nI w.1 := by rw [tr_row_ne (by decide)]; exact hw.2.1.1
      generalize hK : tr_row M1 44 (sa f (M1.1 44) w.1) = K1 at *
      have hcK : HasF K1 (62 + 2 * r + 1) w.1 f := fun i hi => by
        rw [hs1.1 (62 + 2 * r + 1) (by omega) (by omega) (by omega) (by omega)]; exact hc i hi
      rw [h7, hl, show tr_len shC 58 = 10 from rfl]
      have ec := tr_cpy_nI (n0 := 60) (n1 := 10) (M := K1) (a0 := 62 + 2 * r + 1) (a1 := 58) (sp := 0) (dp := 0) (n := w.1) (by omega) (by omega) (by decide) (by decide) (by decide) (by decide)
      rw [show tr_cpy 60 10 K1 (62 + 2 * r + 1) 0 58 0 (nI w.1) = _ from ec]
      simp only [Option.bind_some]
      generalize hL : tr_row K1 58 (va_cpy (K1.1 (62 + 2 * r + 1)) (K1.1 58) 0 0 w.1) = L1
      have hsL : SC M1 L1 := by rw [← hL]; exact hs1.tr (SC.row (by omega))
      have hcL : HasF L1 58 w.1 f := fun i hi => by
        rw [← hL, tr_row_s, pk_cpy_in (by omega) (by omega), Nat.zero_add, Nat.sub_zero]
        exact hcK i hi
      rw [measured_eq hw.1 (hw.2.1.sc hsL) hf hcL (show w.1 ≤ 10 from hn) (by decide) hm, measureNow_eq hw.1 hmN hf g3 hm]
      simp only [Option.bind_some]
      obtain ⟨f', v', c', Q1, Q2, r1, r2, r3, r4, r5, r6, r7⟩ := hR m f M1 M2 L1 N2 _ (0, K1) hm hf o rfl hsL hcL g4 g3 h7 rfl rfl
      rw [r1, r2]
      simp only [Option.bind_some, tells_eq]
      have hwQ := hw.sc r4 r6
      rw [lineToRow_eq hw.1 hr hwQ.2.2.1]
      have ec2 := tr_cpy_nI (n0 := 10) (n1 := 60) (M := Q1) (a0 := 58) (a1 := 62 + 2 * r + 1) (sp := 0) (dp := 0) (n := w.1) (by omega) (by omega) (by decide) (by decide) (by decide) (by decide)
      rw [show tr_cpy 10 60 Q1 58 0 (62 + 2 * r + 1) 0 (nI w.1) = _ from ec2]
      simp only [Option.bind_some]
      have hQ1r : tr_st Q1 (62 + 2 * r) 1 (nI w.1) = Q1 := by
        have hz : Q1.1 (62 + 2 * r) 1 = nI w.1 := by rw [r4.1 (62 + 2 * r) (by omega) (by omega) (by omega) (by omega)]; exact g7
        refine Prod.ext (funext fun b => funext fun j => ?_) rfl
        rw [tr_st_1]
        by_cases z : b = 62 + 2 * r ∧ j = 1
        · rw [if_pos z, z.1, z.2, hz]
        · rw [if_neg z]
      obtain ⟨k1, k2, k3⟩ := made_row (h.sc r4 r6) hr (show w.1 ≤ 60 by omega) (g1 := va_cpy (Q1.1 58) (Q1.1 (62 + 2 * r + 1)) 0 0 w.1) (g2 := cpo (fl (Q2.1 4) (60 * r) 60 0) (Q2.1 12) (60 * r) w.1) (fun i hi => by
        rw [pk_cpy_in (by omega) (by omega), Nat.zero_add, Nat.sub_zero, r5 i hi]
        unfold cpo
        rw [if_pos (by omega), Nat.add_sub_cancel_left, r7 i hi]) (fun j hj => by
        unfold cpo
        rw [if_neg (by omega), fl_out hj]) (v1 := nI w.1) (v2 := nI w.1) rfl rfl
      rw [hQ1r] at k1 k2
      obtain ⟨a1, a2, a3⟩ := ask_both k1 (nI v')
      exact ⟨_, _, _, rfl, rfl, a1, r4.kc.tr (k2.to2.tr a2.to2), r6.km.tr (k3.tr a3)⟩
    · have ob : ¬ brk w f = -9 := fun z => o ((brk_none hw.1).mp z)
      simp only [if_neg ob, Option.bind_some, if_neg (show ¬ (3 : Int32) = 0 by decide)]
      obtain ⟨a, P1, P2, f1, f2, f3, f4, f5⟩ := (found_both (h.sc hs1 g4) (f := 3) (by omega)).to2
      have ha : a = -3 := meets_neg _ _ f2
      subst ha
      rw [show (3 : Int32) = nI 3 from rfl, f1, f2]
      exact ⟨_, P1, P2, rfl, rfl, f3, hs1.kc.tr f4, g4.km.tr f5⟩
theorem r_swaps {w : Wd} {M1 M2 : tr_M} (h : ITF M1 M2) (hw : IWd w M1 M2) (p1 p2 : Int32) : Res2 (mX6_swaps p1 p2 M1) (mX7_swaps p1 p2 M2) M1 M2 := by
  have hn := hw.1.1
  obtain ⟨a, N1, N2, e1, e2, e3⟩ := improve_both (st2 := mX7_swaps_l41) h hw p1 p2 0 (by
    intro m f N1 N2 P1 P2 v v7 hm hf ho hv s1 g1 s2 g2 h7 _ _
    have hv2 : v ≤ 10000 := by rw [hv]; exact msr_le hw.1 m f
    obtain ⟨f', v', c', Q1, Q2, a1, a2, a3, a4, a5, a6, a7⟩ := rounds_both (w := w) (M1 := M1) (M2 := M2) (m := m) (K := w.1 - 1) (V := swV) (T := swT) (Pl := fun f N => ∀ t, t < w.1 → N.1 12 t = nI (f t)) (st1 := mX6_improved_l113 (nI m) 0 v7) (st2 := mX7_swaps_l41 (nI m)) hw.1 (fun f j hf hj _ => sw_ord hf (by omega) (by omega)) (fun f v c N hf ho hv hv2 hc s1 g1 => improved_c hw.1 h7 hc hv2 (fun j hj _ => sw_ord hf (by omega) (by omega)) (by
      obtain ⟨P, k1, k2⟩ := bestSwap_eq hw.1 hw.2.1 hf hm hv2 s1 g1
      refine ⟨P, ?_, k2⟩
      rw [if_pos rfl, k1]
      rfl)) (swapsM_round hw.1 hw.2.2 hm) (fun _ _ _ => rfl) v f 0 P1 P2 0 hf ho hv hv2 (by omega) (by decide) s1 g1 s2 g2.1
    exact ⟨f', v', c', Q1, Q2, tr_loop_of a1 (by omega), tr_loop_of a2 (by omega), a3, a4, a5, a6, a7⟩)
  refine ⟨a, N1, N2, ?_, e2, e3⟩
  unfold mX6_swaps
  rw [e1]
  rfl
theorem r_moves {w : Wd} {M1 M2 : tr_M} (h : ITF M1 M2) (hw : IWd w M1 M2) (p1 p2 : Int32) : Res2 (mX6_moves p1 p2 M1) (mX7_moves p1 p2 M2) M1 M2 := by
  have hn := hw.1.1
  obtain ⟨a, N1, N2, e1, e2, e3⟩ := improve_both (st2 := mX7_moves_l41) h hw p1 p2 1 (by
    intro m f N1 N2 P1 P2 v v7 hm hf ho hv s1 g1 s2 g2 h7 _ _
    have hv2 : v ≤ 10000 := by rw [hv]; exact msr_le hw.1 m f
    have hTo : ∀ f j, Ord w.1 f → j < w.1 * w.1 → mvV w.1 f j = true → Ord w.1 (mvT w.1 f j) := fun f j hf hj _ => by
      have hpos : 0 < w.1 := by
        refine Nat.pos_of_ne_zero fun e => ?_
        rw [e] at hj
        omega
      exact mv_ord hf (sf_ord hf (Nat.div_lt_of_lt_mul hj)).2 (Nat.mod_lt _ hpos)
    obtain ⟨f', v', c', Q1, Q2, a1, a2, a3, a4, a5, a6, a7⟩ := rounds_both (w := w) (M1 := M1) (M2 := M2) (m := m) (K := w.1 * w.1) (V := mvV w.1) (T := mvT w.1) (Pl := fun f N => MOr w f N) (st1 := mX6_improved_l113 (nI m) 1 v7) (st2 := mX7_moves_l41 (nI m)) hw.1 hTo (fun f v c N hf ho hv hv2 hc s1 g1 => improved_c hw.1 h7 hc hv2 (fun j hj hV => hTo f j hf hj hV) (by
      obtain ⟨P, k1, k2⟩ := bestMove_eq hw.1 hw.2.1 hf hm hv2 s1 g1
      refine ⟨P, ?_, k2⟩
      rw [if_neg (by decide), k1]
      rfl)) (movesM_round hw.1 hw.2.2 hm) (fun _ _ _ => rfl) v f 0 P1 P2 0 hf ho hv hv2 (by omega) (by decide) s1 g1 s2 g2
    exact ⟨f', v', c', Q1, Q2, tr_loop_of a1 (by omega), tr_loop_of a2 (by omega), a3, a4, a5, a6, a7.1⟩)
  refine ⟨a, N1, N2, ?_, e2, e3⟩
  unfold mX6_moves
  rw [e1]
  rfl
