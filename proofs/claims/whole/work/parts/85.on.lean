/-! ===== on ===== -/
theorem layOff_wd {w : Wd} {x : Nat} {M : tr_M} (hok : WOk w) (hm : MWd w M) (hx : x < 2147483648) : ∃ N, mX7_layOff (nI x) M = some N ∧ MWd (wdOff w (fun k => x.testBit k)) N ∧ (∀ b, b ≠ 9 → N.1 b = M.1 b) ∧ N.2 = M.2 := by
  have h8 := hok.2.2.2.2.1
  unfold mX7_layOff
  obtain ⟨r, e1, e2, e3, e4, e5⟩ := tr_loop_inv (step := mX7_layOff_l2 (nI x)) (s0 := (0, M)) (fun k s => ∃ N, s = (nI k, N) ∧ (∀ b, b ≠ 9 → N.1 b = M.1 b) ∧ N.2 = M.2 ∧ (∀ i t, i < 8 → t < 4 → N.1 9 (5 * i + t) = M.1 9 (5 * i + t)) ∧ ∀ i, i < k → N.1 9 (5 * i + 4) = if x.testBit i = true then 1 else 0) (fun N => (∀ b, b ≠ 9 → N.1 b = M.1 b) ∧ N.2 = M.2 ∧ (∀ i t, i < 8 → t < 4 → N.1 9 (5 * i + t) = M.1 9 (5 * i + t)) ∧ ∀ i, i < w.2.2.1 → N.1 9 (5 * i + 4) = if x.testBit i = true then 1 else 0) w.2.2.1 (by omega) ⟨M, rfl, fun _ _ => rfl, rfl, fun _ _ _ _ => rfl, fun i hi => by omega⟩ (by
    rintro k s hk ⟨N, rfl, h1, h2, h3, h4⟩
    left
    have hN : N.1 1 12 = nI w.2.2.1 := by rw [h1 1 (by decide)]; exact hm.2.1
    have c1 : nI k < nI w.2.2.1 := (nlt (by omega) (by omega)).mpr hk
    unfold mX7_layOff_l2
    dsimp only
    rw [hN, if_pos c1, show (5 : Int32) * nI k + 4 = nI (5 * k + 4) by rw [show (5 : Int32) = nI 5 from rfl, show (4 : Int32) = nI 4 from rfl, nmul, nadd], tr_wr_nI (by omega) (by decide), Option.bind_some, nadd1, bit_nI hx (by omega)]
    refine ⟨_, rfl, _, rfl, fun b hb => by rw [tr_st_ne hb]; exact h1 b hb, h2, fun i t hi ht => ?_, fun i hi => ?_⟩
    · rw [tr_st_j (by omega)]; exact h3 i t hi ht
    · by_cases e : i = k
      · subst e; rw [tr_st_s]
      · rw [tr_st_j (by omega)]; exact h4 i (by omega)) (by
    rintro s ⟨N, rfl, h1, h2, h3, h4⟩
    have hN : N.1 1 12 = nI w.2.2.1 := by rw [h1 1 (by decide)]; exact hm.2.1
    have c1 : ¬ nI w.2.2.1 < nI w.2.2.1 := by rw [nlt (by omega) (by omega)]; omega
    refine ⟨N, ?_, h1, h2, h3, h4⟩
    unfold mX7_layOff_l2
    dsimp only
    rw [hN, if_neg c1])
  refine ⟨r, e1, ⟨?_, ?_, fun a b ha hb => ?_, fun k hk => ?_⟩, e2, e3⟩
  · rw [e2 1 (by decide)]; exact hm.1
  · rw [e2 1 (by decide)]; exact hm.2.1
  · rw [e2 8 (by decide)]; exact hm.2.2.1 a b ha hb
  · have hk : k < w.2.2.1 := hk
    obtain ⟨q1, q2, q3, q4, q5⟩ := hm.2.2.2 k hk
    have z0 := e4 k 0 (by omega) (by omega)
    rw [Nat.add_zero] at z0
    exact ⟨z0.trans q1, (e4 k 1 (by omega) (by omega)).trans q2, (e4 k 2 (by omega) (by omega)).trans q3, (e4 k 3 (by omega) (by omega)).trans q4, e5 k hk⟩
theorem imageFault_eq {w : Wd} {r : Nat} {M : tr_M} (hok : WOk w) (hw : CWd w 26 M) (hr : r < 6) (hs : M.1 (62 + 2 * r) 1 = nI (tp w.1 w.1 + 1)) : ((∀ i, i < tp w.1 w.1 → ∃ v, v ≤ 9 ∧ M.1 (62 + 2 * r + 1) i = nI v) ∧ (∃ x, x < 2 ^ w.2.2.1 ∧ M.1 (62 + 2 * r + 1) (tp w.1 w.1) = nI x) → mX6_imageFault (nI r) M = some 0) ∧ (¬ ((∀ i, i < tp w.1 w.1 → ∃ v, v ≤ 9 ∧ M.1 (62 + 2 * r + 1) i = nI v) ∧ (∃ x, x < 2 ^ w.2.2.1 ∧ M.1 (62 + 2 * r + 1) (tp w.1 w.1) = nI x)) → mX6_imageFault (nI r) M = some 3) := by
  have hn := hok.1
  have h8 := hok.2.2.2.2.1
  have ht : tp w.1 w.1 ≤ 45 := (tp_tab ⟨w.1, by omega⟩).2
  have hl := len_row hr
  have hsz : mX6_imageSize M = nI (tp w.1 w.1 + 1) := by
    unfold mX6_imageSize
    rw [hw.1, nsub1' hn, nadd1]
  have hsz1 : nI (tp w.1 w.1 + 1) - 1 = nI (tp w.1 w.1) := nI_pred _
  have h2p : 2 ^ w.2.2.1 ≤ 256 := Nat.pow_le_pow_right (n := 2) (by decide) h8
  unfold mX6_imageFault
  rw [tr_ra_nI hr (by decide)]
  simp only [Option.bind_some]
  rw [miss_s hs (by omega), if_pos rfl, hs, hsz, if_pos rfl]
  have step : ∀ i v, i < tp w.1 w.1 → v ≤ 9 → M.1 (62 + 2 * r + 1) i = nI v → mX6_imageFault_l36 (nI r) M (nI i) = some (.inl (nI (i + 1))) := fun i v hi hv e => by
    unfold mX6_imageFault_l36
    have c1 : nI i < nI (tp w.1 w.1) := (nlt (by omega) (by omega)).mpr hi
    have c2 : ¬ (9 : Int32) < nI v := by rw [show (9 : Int32) = nI 9 from rfl, nlt (by decide) (by omega)]; omega
    rw [hsz, hsz1, if_pos c1, tr_ra_nI hr (by decide)]
    simp only [Option.bind_some]
    rw [hl, tr_rd_nI (by omega) (by decide)]
    simp only [Option.bind_some]
    rw [e, if_neg (nI_pos (by omega)), if_neg c2, nadd1]
  constructor
  · rintro ⟨h1, x, hx, h2⟩
    have e : tr_loop (mX6_imageFault_l36 (nI r) M) 0 = some (.inl ()) := by
      refine tr_loop_seq' (fun i => nI i) (tp w.1 w.1) rfl (by omega) (fun i hi => ?_) ?_
      · obtain ⟨v, hv, e⟩ := h1 i hi
        exact step i v hi hv e
      · unfold mX6_imageFault_l36
        have c1 : ¬ nI (tp w.1 w.1) < nI (tp w.1 w.1) := by rw [nlt (by omega) (by omega)]; omega
        rw [hsz, hsz1, if_neg c1]
    rw [e]
    dsimp only [Option.bind_some, tr_el]
    rw [hl, hsz1, tr_rd_nI (by omega) (by decide)]
    simp only [Option.bind_some]
    rw [h2, if_neg (nI_pos (by omega)), hw.2.1, sh1 (by omega), if_pos ((nlt (by omega) (by omega)).mpr hx)]
  · intro h
    by_cases q : ∀ i, i < tp w.1 w.1 → ∃ v, v ≤ 9 ∧ M.1 (62 + 2 * r + 1) i = nI v
    · have q2 : ¬ ∃ x, x < 2 ^ w.2.2.1 ∧ M.1 (62 + 2 * r + 1) (tp w.1 w.1) = nI x := fun z => h ⟨q, z⟩
      have e : tr_loop (mX6_imageFault_l36 (nI r) M) 0 = some (.inl ()) := by
        refine tr_loop_seq' (fun i => nI i) (tp w.1 w.1) rfl (by omega) (fun i hi => ?_) ?_
        · obtain ⟨v, hv, e⟩ := q i hi
          exact step i v hi hv e
        · unfold mX6_imageFault_l36
          have c1 : ¬ nI (tp w.1 w.1) < nI (tp w.1 w.1) := by rw [nlt (by omega) (by omega)]; omega
          rw [hsz, hsz1, if_neg c1]
      rw [e]
      dsimp only [Option.bind_some, tr_el]
      rw [hl, hsz1, tr_rd_nI (by omega) (by decide)]
      simp only [Option.bind_some]
      rw [hw.2.1, sh1 (by omega)]
      rcases n_cases (M.1 (62 + 2 * r + 1) (tp w.1 w.1)) with hneg | ⟨k, hk, ek⟩
      · rw [if_pos hneg]
      · rw [ek, if_neg (nI_pos hk), if_neg]
        rw [nlt hk (by omega)]
        exact fun z => q2 ⟨k, z, ek⟩
    · have q2 : ∃ i, i < tp w.1 w.1 ∧ ¬ ∃ v, v ≤ 9 ∧ M.1 (62 + 2 * r + 1) i = nI v := by
        refine Classical.byContradiction fun e => q fun i hi => ?_
        exact Classical.byContradiction fun e2 => e ⟨i, hi, e2⟩
      obtain ⟨i0, ⟨h1, h2⟩, h3⟩ := pk_least _ q2
      have h4 : ∀ i, i < i0 → ∃ v, v ≤ 9 ∧ M.1 (62 + 2 * r + 1) i = nI v := fun i hi => Classical.byContradiction fun e => h3 i hi ⟨by omega, e⟩
      have e : tr_loop (mX6_imageFault_l36 (nI r) M) 0 = some (.inr 3) := by
        refine tr_loop_seq' (fun i => nI i) i0 rfl (by omega) (fun i hi => ?_) ?_
        · obtain ⟨v, hv, e⟩ := h4 i hi
          exact step i v (by omega) hv e
        · unfold mX6_imageFault_l36
          have c1 : nI i0 < nI (tp w.1 w.1) := (nlt (by omega) (by omega)).mpr h1
          rw [hsz, hsz1, if_pos c1, tr_ra_nI hr (by decide)]
          simp only [Option.bind_some]
          rw [hl, tr_rd_nI (by omega) (by decide)]
          simp only [Option.bind_some]
          rcases n_cases (M.1 (62 + 2 * r + 1) i0) with hneg | ⟨k, hk, ek⟩
          · rw [if_pos hneg]
          · rw [ek, if_neg (nI_pos hk), if_pos]
            rw [show (9 : Int32) = nI 9 from rfl, nlt (by decide) hk]
            exact Nat.lt_of_not_le fun z => h2 ⟨k, z, ek⟩
      rw [e]
      rfl
theorem onGood_eq {w : Wd} {r : Nat} {M : tr_M} {x15 : Int32} (hok : WOk w) (hr : r < 6) (hx : x15 = 0 ∨ x15 = 1) : (((∀ i, i < tp w.1 w.1 → ∃ v, v ≤ 9 ∧ M.1 4 (60 * r + i) = nI v) ∧ x15 = 1) → tr_loop (mX7_on_l78 (nI r) M (nI (tp w.1 w.1))) (x15, 0) = some 1) ∧ (¬ ((∀ i, i < tp w.1 w.1 → ∃ v, v ≤ 9 ∧ M.1 4 (60 * r + i) = nI v) ∧ x15 = 1) → tr_loop (mX7_on_l78 (nI r) M (nI (tp w.1 w.1))) (x15, 0) = some 0) := by
  have hn := hok.1
  have ht : tp w.1 w.1 ≤ 45 := (tp_tab ⟨w.1, by omega⟩).2
  have st1 : ∀ i v, i < tp w.1 w.1 → v ≤ 9 → M.1 4 (60 * r + i) = nI v → mX7_on_l78 (nI r) M (nI (tp w.1 w.1)) (1, nI i) = some (.inl (1, nI (i + 1))) := fun i v hi hv e => by
    unfold mX7_on_l78
    have c1 : nI i < nI (tp w.1 w.1) := (nlt (by omega) (by omega)).mpr hi
    have c2 : mX7_in (nI v) 0 9 = 1 := by
      unfold mX7_in
      rw [if_neg (nI_pos (by omega)), if_neg]
      rw [show (9 : Int32) = nI 9 from rfl, nlt (by decide) (by omega)]
      omega
    dsimp only
    rw [if_pos c1, if_neg (by decide), rowAt_eq hr (by omega), Option.bind_some, e, c2, if_neg (by decide), nadd1]
  have st0 : ∀ i, i < tp w.1 w.1 → mX7_on_l78 (nI r) M (nI (tp w.1 w.1)) (0, nI i) = some (.inl (0, nI (i + 1))) := fun i hi => by
    unfold mX7_on_l78
    have c1 : nI i < nI (tp w.1 w.1) := (nlt (by omega) (by omega)).mpr hi
    dsimp only
    rw [if_pos c1, if_pos rfl, nadd1]
  have ste : ∀ z, mX7_on_l78 (nI r) M (nI (tp w.1 w.1)) (z, nI (tp w.1 w.1)) = some (.inr z) := fun z => by
    unfold mX7_on_l78
    have c1 : ¬ nI (tp w.1 w.1) < nI (tp w.1 w.1) := by rw [nlt (by omega) (by omega)]; omega
    dsimp only
    rw [if_neg c1]
  constructor
  · rintro ⟨h1, rfl⟩
    exact tr_loop_seq' (fun i => (1, nI i)) (tp w.1 w.1) rfl (by omega) (fun i hi => by
      obtain ⟨v, hv, e⟩ := h1 i hi
      exact st1 i v hi hv e) (ste 1)
  · intro h
    rcases hx with rfl | rfl
    · exact tr_loop_seq' (fun i => (0, nI i)) (tp w.1 w.1) rfl (by omega) (fun i hi => st0 i hi) (ste 0)
    · have q2 : ∃ i, i < tp w.1 w.1 ∧ ¬ ∃ v, v ≤ 9 ∧ M.1 4 (60 * r + i) = nI v := by
        refine Classical.byContradiction fun e => h ⟨fun i hi => ?_, rfl⟩
        exact Classical.byContradiction fun e2 => e ⟨i, hi, e2⟩
      obtain ⟨i0, ⟨h1, h2⟩, h3⟩ := pk_least _ q2
      have h4 : ∀ i, i < i0 → ∃ v, v ≤ 9 ∧ M.1 4 (60 * r + i) = nI v := fun i hi => Classical.byContradiction fun e => h3 i hi ⟨by omega, e⟩
      refine tr_loop_seq' (fun i => if i ≤ i0 then (1, nI i) else (0, nI i)) (tp w.1 w.1) ?_ (by omega) (fun i hi => ?_) ?_
      · show (if 0 ≤ i0 then ((1 : Int32), nI 0) else (0, nI 0)) = _
        rw [if_pos (Nat.zero_le _)]
        rfl
      · show mX7_on_l78 (nI r) M (nI (tp w.1 w.1)) (if i ≤ i0 then ((1 : Int32), nI i) else (0, nI i)) = some (.inl (if i + 1 ≤ i0 then ((1 : Int32), nI (i + 1)) else (0, nI (i + 1))))
        by_cases c1 : i < i0
        · rw [if_pos (show i ≤ i0 by omega), if_pos (show i + 1 ≤ i0 by omega)]
          obtain ⟨v, hv, e⟩ := h4 i c1
          exact st1 i v hi hv e
        · rw [if_neg (show ¬ i + 1 ≤ i0 by omega)]
          by_cases c2 : i = i0
          · subst c2
            rw [if_pos (Nat.le_refl _)]
            unfold mX7_on_l78
            have c1 : nI i < nI (tp w.1 w.1) := (nlt (by omega) (by omega)).mpr hi
            have c3 : mX7_in (M.1 4 (60 * r + i)) 0 9 = 0 := by
              unfold mX7_in
              rcases n_cases (M.1 4 (60 * r + i)) with hneg | ⟨k, hk, ek⟩
              · rw [if_pos hneg]
              · rw [ek, if_neg (nI_pos hk), if_pos]
                rw [show (9 : Int32) = nI 9 from rfl, nlt (by decide) hk]
                exact Nat.lt_of_not_le fun z => h2 ⟨k, z, ek⟩
            dsimp only
            rw [if_pos c1, if_neg (by decide), rowAt_eq hr (by omega), Option.bind_some, c3, if_pos rfl, nadd1]
          · rw [if_neg (show ¬ i ≤ i0 by omega)]
            exact st0 i hi
      · show mX7_on_l78 (nI r) M (nI (tp w.1 w.1)) (if tp w.1 w.1 ≤ i0 then ((1 : Int32), nI (tp w.1 w.1)) else (0, nI (tp w.1 w.1))) = _
        rw [if_neg (by omega)]
        exact ste 0
