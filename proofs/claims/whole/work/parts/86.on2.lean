theorem r_on {w : Wd} {M1 M2 : tr_M} (h : ITF M1 M2) (hw : IWd w M1 M2) (p1 : Int32) : Res (mX6_on p1 M1) (mX7_on p1 M2) M1 M2 ∨ ResW (mX6_on p1 M1) (mX7_on p1 M2) M1 M2 := by
  have hn := hw.1.1
  have h8 := hw.1.2.2.2.2.1
  have ht : tp w.1 w.1 ≤ 45 := (tp_tab ⟨w.1, by omega⟩).2
  have h2p : 2 ^ w.2.2.1 ≤ 256 := Nat.pow_le_pow_right (n := 2) (by decide) h8
  unfold mX6_on mX7_on
  rcases isRow_cases p1 with ⟨d1, d2⟩ | ⟨r, hr, rfl, d1, d2⟩
  · left; rw [d1, d2]; exact Res.same h
  have hl := len_row hr
  simp only [d1, d2, Option.bind_some, if_neg (show ¬ (1 : Int32) = 0 by decide), tr_rd_nI hr (show 6 < 2147483648 by decide), hw.2.2.1, nsub1' hn, nadd1, tr_ra_nI hr (show 6 < 2147483648 by decide)]
  rcases h.1 r hr with ⟨m1, m2⟩ | ⟨s, hs, m1, m2, m3⟩
  · left
    have e : mX6_imageFault (nI r) M1 = some 1 := by
      unfold mX6_imageFault
      rw [tr_ra_nI hr (by decide)]
      simp only [Option.bind_some]
      rw [miss_m m1]
      rfl
    rw [e, m2]
    simp only [Option.bind_some, if_neg (show ¬ (1 : Int32) = 0 by decide), if_pos (show (-1 : Int32) < 0 by decide)]
    exact (found_both h (f := 1) (by decide)).pair
  · rw [m2, if_neg (nI_pos (by omega))]
    simp (disch := omega) only [neq]
    by_cases e : s = tp w.1 w.1 + 1
    · rw [if_pos e, rowAt_eq hr (by omega)]
      rw [e] at m1 m3
      have hrow : ∀ i, i ≤ tp w.1 w.1 → M1.1 (62 + 2 * r + 1) i = M2.1 4 (60 * r + i) := fun i hi => by
        have := m3 i (by omega)
        rw [show 62 + 2 * r + 1 = 63 + 2 * r by omega]
        exact this
      simp only [Option.bind_some]
      rw [hw.2.2.2.1, sh1 (by omega)]
      obtain ⟨F1, F2⟩ := imageFault_eq hw.1 hw.2.1 hr m1
      have hx15 : ∃ x15, mX7_in (M2.1 4 (60 * r + tp w.1 w.1)) 0 (nI (2 ^ w.2.2.1) - 1) = x15 ∧ (x15 = 0 ∨ x15 = 1) ∧ (x15 = 1 ↔ ∃ x, x < 2 ^ w.2.2.1 ∧ M1.1 (62 + 2 * r + 1) (tp w.1 w.1) = nI x) := by
        rw [hrow _ (Nat.le_refl _)]
        rcases in_cases (M2.1 4 (60 * r + tp w.1 w.1)) (show 2 ^ w.2.2.1 < 1000 by omega) with ⟨i1, i2⟩ | ⟨i, hi, i3, i1⟩
        · refine ⟨0, i1, Or.inl rfl, fun z => by exact absurd z (by decide), fun ⟨x, hx, ex⟩ => ?_⟩
          rw [ex] at i2
          rcases i2 with i2 | i2
          · exact absurd i2 (nI_pos (by omega))
          · rw [nlt (by omega) (by omega)] at i2; exact absurd hx i2
        · exact ⟨1, i1, Or.inr rfl, fun _ => ⟨i, hi, i3⟩, fun _ => rfl⟩
      obtain ⟨x15, hx1, hx2, hx3⟩ := hx15
      rw [hx1]
      obtain ⟨G1, G2⟩ := onGood_eq (M := M2) hw.1 hr hx2
      by_cases good : (∀ i, i < tp w.1 w.1 → ∃ v, v ≤ 9 ∧ M1.1 (62 + 2 * r + 1) i = nI v) ∧ (∃ x, x < 2 ^ w.2.2.1 ∧ M1.1 (62 + 2 * r + 1) (tp w.1 w.1) = nI x)
      · right
        rw [F1 good, show tr_loop (mX7_on_l78 (nI r) M2 (nI (tp w.1 w.1))) (x15, 0) = some 1 from G1 ⟨fun i hi => by
          obtain ⟨v, hv, ev⟩ := good.1 i hi
          exact ⟨v, hv, by rw [← hrow i (by omega)]; exact ev⟩, hx3.mpr good.2⟩]
        simp only [Option.bind_some, if_true, if_neg (show ¬ (1 : Int32) = 0 by decide)]
        obtain ⟨q1, q2, e1, e2, B1, e3, w', e4, e5, e6, e7, e8, e9, e10, e11⟩ := pairs_both (n := w.1) hn (st1 := mX6_on_l30 (nI r)) (st2 := mX7_on_l132 (nI r)) (in1 := mX6_on_l48 (nI r)) (in2 := mX7_on_l147 (nI r)) (o1 := 0) (o2 := 0) (M1 := M1) (M2 := M2) (fun c N1 N2 => ∃ w', IWd w' N1 N2 ∧ w'.1 = w.1 ∧ w'.2.2 = w.2.2 ∧ ITF N1 N2 ∧ (∀ b, b < 28 ∨ 39 < b → N1.1 b = M1.1 b) ∧ N1.2 = M1.2 ∧ (∀ b, b ≠ 8 → N2.1 b = M2.1 b) ∧ N2.2 = M2.2) (fun q1 q2 => ∃ N1, q1 = (nI (tp w.1 w.1), N1) ∧ ∃ w', IWd w' N1 q2 ∧ w'.1 = w.1 ∧ w'.2.2 = w.2.2 ∧ ITF N1 q2 ∧ (∀ b, b < 28 ∨ 39 < b → N1.1 b = M1.1 b) ∧ N1.2 = M1.2 ∧ (∀ b, b ≠ 8 → q2.1 b = M2.1 b) ∧ q2.2 = M2.2) ⟨w, hw, rfl, rfl, h, fun _ _ => rfl, rfl, fun _ _ => rfl, rfl⟩ (by
          rintro a b c N1 N2 K1 K2 hab hb hc ⟨w', g1, g2, g3, g4, g5, g6, g7, g8⟩
          obtain ⟨v, hv, ev⟩ := good.1 c hc
          have ev1 : N1.1 (62 + 2 * r + 1) c = nI v := by rw [g5 _ (by omega)]; exact ev
          have ev2 : N2.1 4 (60 * r + c) = nI v := by rw [g7 4 (by decide), ← hrow c (by omega)]; exact ev
          obtain ⟨P1, t1, t2, t3, t4⟩ := tie_wd g1.2.1 (show a < 10 by omega) (show b < 10 by omega) hv
          have hN0 : N1.1 26 0 = nI w.1 := by rw [g1.2.1.1, g2]
          have hN1 : N2.1 1 10 = nI w.1 := by rw [g1.2.2.1, g2]
          have c1 : nI b < nI w.1 := (nlt (by omega) (by omega)).mpr hb
          refine ⟨P1, tr_st (tr_st N2 8 (10 * a + b) (nI v)) 8 (10 * b + a) (nI v), ?_, ?_, wdW w' (wt2 w'.2.1 a b v), ⟨wt2_ok g1.1 (by omega) (by omega) (by omega) hv, t2, layTie_wd g1.2.2 (by omega) (by omega)⟩, g2, g3, ?_, fun x hx => ?_, t4.trans g6, fun x hx => ?_, g8⟩
          · unfold mX6_on_l48
            dsimp only
            rw [hN0, if_pos c1, tr_ra_nI hr (by decide)]
            simp only [Option.bind_some]
            rw [hl, Nat.zero_add, tr_rd_nI (by omega) (by decide)]
            simp only [Option.bind_some]
            rw [ev1, t1]
            simp only [Option.bind_some, nadd1]
          · unfold mX7_on_l147
            dsimp only
            rw [hN1, if_pos c1, Nat.zero_add, rowAt_eq hr (by omega)]
            simp only [Option.bind_some]
            rw [ev2, layTie_eq (by omega) (by omega)]
            simp only [Option.bind_some, nadd1]
          · refine g4.congr (fun x hx _ _ _ _ => t3 x (by omega)) (fun k hk => by rw [t3 1 (by omega)]) t4 (fun x hx _ _ => ?_) (fun k hk => ?_) (fun k hk => rfl)
            · rw [tr_st_ne (by omega), tr_st_ne (by omega)]
            · rw [tr_st_ne (by omega), tr_st_ne (by omega)]
          · rw [t3 x (by omega)]; exact g5 x hx
          · rw [tr_st_ne hx, tr_st_ne hx]; exact g7 x hx) (by
          rintro a c N1 N2 K1 K2 ha ⟨w', g1, g2, g3, g4, g5, g6, g7, g8⟩
          have hN0 : N1.1 26 0 = nI w.1 := by rw [g1.2.1.1, g2]
          have hN1 : N2.1 1 10 = nI w.1 := by rw [g1.2.2.1, g2]
          have c1 : ¬ nI w.1 < nI w.1 := by rw [nlt (by omega) (by omega)]; omega
          unfold mX6_on_l48 mX7_on_l147
          dsimp only
          rw [hN0, hN1, if_neg c1, if_neg c1, nadd1]
          exact ⟨rfl, rfl⟩) (by
          rintro a c N1 N2 ha ⟨w', g1, g2, g3, g4, g5, g6, g7, g8⟩
          have hN0 : N1.1 26 0 = nI w.1 := by rw [g1.2.1.1, g2]
          have hN1 : N2.1 1 10 = nI w.1 := by rw [g1.2.2.1, g2]
          have c1 : nI a < nI w.1 := (nlt (by omega) (by omega)).mpr ha
          unfold mX6_on_l30 mX7_on_l132
          dsimp only
          rw [hN0, hN1, if_pos c1, if_pos c1]
          exact ⟨rfl, rfl⟩) (by
          rintro N1 N2 ⟨w', g1, g2, g3, g4, g5, g6, g7, g8⟩
          have hN0 : N1.1 26 0 = nI w.1 := by rw [g1.2.1.1, g2]
          have hN1 : N2.1 1 10 = nI w.1 := by rw [g1.2.2.1, g2]
          have c1 : ¬ nI w.1 < nI w.1 := by rw [nlt (by omega) (by omega)]; omega
          refine ⟨(nI (tp w.1 w.1), N1), N2, ?_, ?_, N1, rfl, w', g1, g2, g3, g4, g5, g6, g7, g8⟩
          · unfold mX6_on_l30
            dsimp only
            rw [hN0, if_neg c1, Nat.zero_add]
          · unfold mX7_on_l132
            dsimp only
            rw [hN1, if_neg c1])
        subst e3
        obtain ⟨x, hx, ex⟩ := good.2
        rw [show tr_loop (mX6_on_l30 (nI r)) (0, 0, M1) = _ from e1, show tr_loop (mX7_on_l132 (nI r)) (0, 0, M2) = _ from e2]
        dsimp only [Option.bind_some]
        rw [hl, tr_rd_nI (by omega) (by decide), rowAt_eq hr (by omega)]
        simp only [Option.bind_some, forget_eq]
        have ex1 : B1.1 (62 + 2 * r + 1) (tp w.1 w.1) = nI x := by rw [e8 _ (by omega)]; exact ex
        have ex2 : q2.1 4 (60 * r + tp w.1 w.1) = nI x := by rw [e10 4 (by decide), ← hrow _ (Nat.le_refl _)]; exact ex
        rw [ex1, ex2]
        obtain ⟨L2, y1, y2, y3, y4⟩ := layOff_wd e4.1 e4.2.2 (show x < 2147483648 by omega)
        rw [y1]
        simp only [Option.bind_some]
        have hrul : w'.2.2.1 = w.2.2.1 := by rw [e6]
        have hbig : ∀ k, w'.2.2.1 ≤ k → x.testBit k = false := fun k hk => Nat.testBit_lt_two_pow (Nat.lt_of_lt_of_le hx (Nat.pow_le_pow_right (by decide) (by omega)))
        have hcoff := e4.2.1.off (f := fun k => x.testBit k) (b := x) (mkb_eq (n := 8) (by omega)).symm
        refine ⟨_, _, _, rfl, rfl, ?_, ⟨wdOff w' (fun k => x.testBit k), wdOff_ok e4.1 hbig, ?_, y2⟩, ?_, ?_, ?_⟩
        · refine e7.congr (fun c hc _ _ _ _ => ?_) (fun k hk => ?_) rfl (fun c hc _ _ => ?_) (fun k hk => ?_) (fun k hk => ?_)
          · rw [tr_st_ne (by omega), tr_st_ne (by omega), tr_st_ne (by omega)]
          · rw [tr_st_j (by omega), tr_st_j (by omega), tr_st_ne (by omega)]
          · exact y3 c (by omega)
          · rw [y3 1 (by decide)]
          · rw [y4]
        · exact hcoff.congr (fun c h1 h2 => by rw [tr_st_ne (by omega), tr_st_ne (by omega)])
        · rw [tr_st_j (by decide), tr_st_s]
        · rw [tr_st_ne (by decide), tr_st_ne (by decide), tr_st_ne (by decide), e8 25 (by omega)]
        · rw [y3 1 (by decide), e10 1 (by decide)]
      · left
        have good2 : ¬ ((∀ i, i < tp w.1 w.1 → ∃ v, v ≤ 9 ∧ M2.1 4 (60 * r + i) = nI v) ∧ x15 = 1) := fun ⟨z1, z2⟩ => good ⟨fun i hi => by
          obtain ⟨v, hv, ev⟩ := z1 i hi
          exact ⟨v, hv, by rw [hrow i (by omega)]; exact ev⟩, hx3.mp z2⟩
        rw [F2 good, show tr_loop (mX7_on_l78 (nI r) M2 (nI (tp w.1 w.1))) (x15, 0) = some 0 from G2 good2]
        simp only [Option.bind_some, if_true, if_neg (show ¬ (3 : Int32) = 0 by decide)]
        exact (found_both h (f := 3) (by decide)).pair
    · left
      have ef : mX6_imageFault (nI r) M1 = some 5 := by
        unfold mX6_imageFault
        have hsz : mX6_imageSize M1 = nI (tp w.1 w.1 + 1) := by
          unfold mX6_imageSize
          rw [hw.2.1.1, nsub1' hn, nadd1]
        rw [tr_ra_nI hr (by decide)]
        simp only [Option.bind_some]
        rw [miss_s m1 (by omega), if_pos rfl, m1, hsz, if_neg]
        rw [neq (by omega) (by omega)]
        exact e
      rw [ef, if_neg e]
      simp only [Option.bind_some, if_neg (show ¬ (5 : Int32) = 0 by decide)]
      exact (found_both h (f := 5) (by decide)).pair
