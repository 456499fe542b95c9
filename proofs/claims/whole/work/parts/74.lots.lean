/-! ===== draw, lots, average ===== -/
theorem isSeed_cases (p : Int32) : (mX6_isSeed p = 0 ∧ mX7_isSeed p = some 0) ∨ ∃ x, 1 ≤ x ∧ x < 2147483647 ∧ p = nI x ∧ mX6_isSeed p = 1 ∧ mX7_isSeed p = some 1 := by
  unfold mX6_isSeed mX7_isSeed mX7_in
  rcases n_cases p with h | ⟨k, hk, rfl⟩
  · left
    have h1 : p < 1 := by
      have := (n_lt_neg h (k := 1) (by decide)).1
      exact this
    simp [h1, tr_gd]
  · have e1 : (nI k < 1) ↔ k < 1 := by rw [show (1 : Int32) = nI 1 from rfl, nlt hk (by decide)]
    have e2 : ((2147483646 : Int32) < nI k) ↔ 2147483646 < k := by rw [show (2147483646 : Int32) = nI 2147483646 from rfl, nlt (by decide) hk]
    have e3 : (lg_cmp (nI k).toInt64 2147483647 < 0) ↔ k < 2147483647 := by rw [lg_cmp_lt, nI_l hk, show (2147483647 : Int64) = lN 2147483647 from rfl, lN_lt hk (by decide)]
    simp only [e1, e2, e3]
    by_cases c : k < 1
    · left
      simp [c, tr_gd]
    · by_cases d : 2147483646 < k
      · left
        simp [c, d, show ¬ k < 2147483647 by omega, tr_gd]
      · right
        refine ⟨k, by omega, by omega, rfl, ?_, ?_⟩
        · simp [c, show k < 2147483647 by omega]
        · simp [c, d, tr_gd]
theorem clear_eq {r : Nat} {v : Int32} {M : tr_M} (hr : r < 6) : mX7_clear (nI r) v M = some (tr_row (tr_st M 3 r v) 4 (fl (M.1 4) (60 * r) 60 0)) := by
  unfold mX7_clear
  rw [tr_wr_nI hr (by decide)]
  simp only [Option.bind_some]
  refine tr_loop_seq' (fun i => (nI i, tr_row (tr_st M 3 r v) 4 (fl (M.1 4) (60 * r) i 0))) 60 ?_ (by decide) (fun i hi => ?_) ?_
  · show (nI 0, tr_row (tr_st M 3 r v) 4 (fl (M.1 4) (60 * r) 0 0)) = _
    rw [fl_0, tr_row_id (by rw [tr_st_ne (by decide)])]
    rfl
  · unfold mX7_clear_l9
    simp only [show (60 : Int32) = nI 60 from rfl, nlt (show i < 2147483648 by omega) (show 60 < 2147483648 by decide), if_pos hi, nmul, nadd]
    rw [tr_wr_nI (by omega) (by decide), Option.bind_some, tr_row_st, nadd1, fl_s]
  · unfold mX7_clear_l9
    simp only [show (60 : Int32) = nI 60 from rfl, nlt (show 60 < 2147483648 by decide) (show 60 < 2147483648 by decide), Nat.lt_irrefl, if_false]
def cpo (b a : Nat → Int32) (o n : Nat) : Nat → Int32 := fun j => if o ≤ j ∧ j < o + n then a (j - o) else b j
theorem cpo_0 {b a : Nat → Int32} {o : Nat} : cpo b a o 0 = b := funext fun j => if_neg (by omega)
theorem cpo_s {b a : Nat → Int32} {o n : Nat} : (fun j => if j = o + n then a n else cpo b a o n j) = cpo b a o (n + 1) := funext fun j => by
  unfold cpo
  by_cases h : j = o + n
  · subst h; rw [if_pos rfl, if_pos (by omega), Nat.add_sub_cancel_left]
  · rw [if_neg h]
    by_cases h2 : o ≤ j ∧ j < o + n
    · rw [if_pos h2, if_pos (by omega)]
    · rw [if_neg h2, if_neg (by omega)]
theorem lineToRow_eq {w : Wd} {r : Nat} {M : tr_M} (hok : WOk w) (hr : r < 6) (hw : M.1 1 10 = nI w.1) : mX7_lineToRow (nI r) M = some (tr_row (tr_st M 3 r (nI w.1)) 4 (cpo (fl (M.1 4) (60 * r) 60 0) (M.1 12) (60 * r) w.1)) := by
  have hn := hok.1
  unfold mX7_lineToRow
  rw [clear_eq hr, hw]
  simp only [Option.bind_some]
  refine tr_loop_seq' (fun i => (nI i, tr_row (tr_st M 3 r (nI w.1)) 4 (cpo (fl (M.1 4) (60 * r) 60 0) (M.1 12) (60 * r) i))) w.1 ?_ (by omega) (fun i hi => ?_) ?_
  · show (nI 0, tr_row (tr_st M 3 r (nI w.1)) 4 (cpo _ _ _ 0)) = _
    rw [cpo_0]
    rfl
  · unfold mX7_lineToRow_l11
    simp (disch := omega) only [tr_row_ne, tr_st_ne, hw, nlt, hi, if_true, tr_rd_nI, Option.bind_some, show (60 : Int32) = nI 60 from rfl, nmul, nadd]
    rw [tr_wr_nI (by omega) (by decide), Option.bind_some, tr_row_st, nadd1, cpo_s]
  · unfold mX7_lineToRow_l11
    simp (disch := omega) only [tr_row_ne, tr_st_ne, hw, nlt, Nat.lt_irrefl, if_false]
/-- an order comes to a row on both sides -/
theorem laid_both {w : Wd} {M1 M2 : tr_M} (h : ITF M1 M2) (hw : IWd w M1 M2) {r c : Nat} {f : Nat → Nat} (hr : r < 6) (hc : HasF M1 c w.1 f) (hlc : tr_len shC c = 10) (hcr : c < 62) (hm : ∀ i, i < w.1 → M2.1 12 i = nI (f i)) : ∃ N1 N2, mX6_layOrder (nI r) c M1 = some N1 ∧ mX7_lineToRow (nI r) M2 = some N2 ∧ ITF N1 N2 ∧ KC M1 N1 ∧ KM M2 N2 ∧ (∀ b, b ≠ 62 + 2 * r → b ≠ 62 + 2 * r + 1 → N1.1 b = M1.1 b) ∧ N1.2 = M1.2 := by
  have hn := hw.1.1
  have hl := len_row hr
  rw [lineToRow_eq hw.1 hr hw.2.2.1]
  unfold mX6_layOrder
  rw [tr_ra_nI hr (by decide)]
  simp only [Option.bind_some]
  rw [hw.2.1.1, make_eq hl (by decide) (by omega) (by decide)]
  simp only [Option.bind_some]
  have e0 : (tr_row (tr_st M1 (62 + 2 * r) 1 (nI w.1)) (62 + 2 * r + 1) (fl (M1.1 (62 + 2 * r + 1)) 0 w.1 0)).1 26 0 = nI w.1 := by
    rw [tr_row_ne (by omega), tr_st_ne (by omega)]; exact hw.2.1.1
  rw [e0, hl, hlc, n00, tr_cpy_nI (by omega) (by omega) (by decide) (by decide) (by decide) (by decide), ← n00]
  simp only [Option.bind_some]
  have e1 : ∀ g, tr_row (tr_row (tr_st M1 (62 + 2 * r) 1 (nI w.1)) (62 + 2 * r + 1) (fl (M1.1 (62 + 2 * r + 1)) 0 w.1 0)) (62 + 2 * r + 1) g = tr_row (tr_st M1 (62 + 2 * r) 1 (nI w.1)) (62 + 2 * r + 1) g := fun g => by
    refine Prod.ext (funext fun b => ?_) rfl
    show (if b = 62 + 2 * r + 1 then g else (if b = 62 + 2 * r + 1 then _ else _)) = if b = 62 + 2 * r + 1 then g else _
    by_cases e : b = 62 + 2 * r + 1
    · rw [if_pos e, if_pos e]
    · rw [if_neg e, if_neg e, if_neg e]
  rw [e1]
  have e2 : (tr_row (tr_st M1 (62 + 2 * r) 1 (nI w.1)) (62 + 2 * r + 1) (fl (M1.1 (62 + 2 * r + 1)) 0 w.1 0)).1 c = M1.1 c := by
    rw [tr_row_ne (by omega), tr_st_ne (by omega)]
  rw [e2]
  obtain ⟨g1, g2, g3⟩ := made_row h hr (show w.1 ≤ 60 by omega) (g1 := va_cpy (M1.1 c) ((tr_row (tr_st M1 (62 + 2 * r) 1 (nI w.1)) (62 + 2 * r + 1) (fl (M1.1 (62 + 2 * r + 1)) 0 w.1 0)).1 (62 + 2 * r + 1)) 0 0 w.1) (g2 := cpo (fl (M2.1 4) (60 * r) 60 0) (M2.1 12) (60 * r) w.1) (fun i hi => by
    rw [pk_cpy_in (by omega) (by omega), Nat.zero_add, Nat.sub_zero, hc i hi]
    unfold cpo
    rw [if_pos (by omega), Nat.add_sub_cancel_left, hm i hi]) (fun j hj => by
    unfold cpo
    rw [if_neg (by omega), fl_out hj]) (v1 := nI w.1) (v2 := nI w.1) rfl rfl
  refine ⟨_, _, rfl, rfl, g1, g2, g3, fun b h1 h2 => ?_, rfl⟩
  rw [tr_row_ne h2, tr_st_ne h1]
theorem r_draw {w : Wd} {M1 M2 : tr_M} (h : ITF M1 M2) (hw : IWd w M1 M2) (p1 p2 : Int32) : Res2 (mX6_draw p1 p2 M1) (mX7_draw p1 p2 M2) M1 M2 := by
  unfold mX6_draw mX7_draw
  rcases isSeed_cases p1 with ⟨e1, e2⟩ | ⟨x, hx1, hx, rfl, e1, e2⟩
  · rw [e1, e2]; exact (Res.same h).to2
  rcases isRow_cases p2 with ⟨d1, d2⟩ | ⟨r, hr, rfl, d1, d2⟩
  · rw [e1, e2, d1, d2]; exact (Res.same h).to2
  simp only [e1, e2, d1, d2, Option.bind_some, if_neg (show ¬ (1 : Int32) = 0 by decide)]
  obtain ⟨y, f, N1, N2, hy, hf, g1, g2, hc, ho, hs1, hs2⟩ := draw_both hw hx
  rw [g1, g2]
  simp only [Option.bind_some]
  obtain ⟨P1, P2, k1, k2, k3, k4, k5, -⟩ := laid_both (h.sc hs1 hs2) (hw.sc hs1 hs2) hr hc rfl (by decide) ho.1
  rw [k1, k2]
  exact ⟨_, P1, P2, rfl, rfl, k3, hs1.kc.tr k4.to2, hs2.km.tr k5⟩
theorem r_lots {w : Wd} {M1 M2 : tr_M} (h : ITF M1 M2) (hw : IWd w M1 M2) (p1 p2 p3 : Int32) : Res2 (mX6_lots p1 p2 p3 M1) (mX7_lots p1 p2 p3 M2) M1 M2 := by
  have hn := hw.1.1
  unfold mX6_lots mX7_lots
  rcases isMeasure_cases p1 with ⟨e1, e2⟩ | ⟨m, hm, rfl, e1, e2⟩
  · rw [e1, e2]; exact (Res.same h).to2
  simp only [e1, e2, Option.bind_some, if_neg (show ¬ (1 : Int32) = 0 by decide)]
  have hin : (mX7_in p2 1 200 = 0 ∧ (p2 < 1 ∨ (¬ p2 < 1 ∧ 200 < p2))) ∨ (mX7_in p2 1 200 = 1 ∧ ¬ p2 < 1 ∧ ¬ 200 < p2 ∧ ∃ k, k ≤ 200 ∧ p2 = nI k) := by
    unfold mX7_in
    by_cases a : p2 < 1
    · left; rw [if_pos a]; exact ⟨rfl, Or.inl a⟩
    · rw [if_neg a]
      by_cases b : (200 : Int32) < p2
      · left; rw [if_pos b]; exact ⟨rfl, Or.inr ⟨a, b⟩⟩
      · right; rw [if_neg b]
        refine ⟨rfl, a, b, ?_⟩
        rcases pos_cases p2 200 (by decide) with h6 | ⟨h6, h7⟩ | ⟨k, hk, hk2, -⟩
        · exact absurd h6 b
        · exact absurd (n_lt_neg h7 (k := 1) (by decide)).1 a
        · exact ⟨k, hk, hk2⟩
  rcases hin with ⟨i1, i2⟩ | ⟨i1, i2, i3, k, hk, rfl⟩
  · rw [i1, if_pos rfl]
    rcases i2 with i2 | ⟨i2, i3⟩
    · rw [if_pos i2]; exact (Res.same h).to2
    · rw [if_neg i2, if_pos i3]; exact (Res.same h).to2
  rw [i1, if_neg i2, if_neg i3, if_neg (show ¬ (1 : Int32) = 0 by decide)]
  rcases isSeed_cases p3 with ⟨c1, c2⟩ | ⟨x, hx1, hx, rfl, c1, c2⟩
  · rw [c1, c2]; exact (Res.same h).to2
  simp only [c1, c2, Option.bind_some, if_neg (show ¬ (1 : Int32) = 0 by decide)]
  obtain ⟨a, b, l1, l2, al, bs, b2, N1, N2, r1, r2, r3, r4, r5, r6⟩ := loops_both (st1 := mX6_lots_l41 (nI m) (nI k)) (st2 := mX7_lots_l40 (nI m) (nI k)) (a := (nI x, 0, -9, 0, M1)) (b := (nI x, 0, 1000000, 0, M2)) (fun i s t => ∃ x al bs b2 N1 N2, s = (nI x, nI al, bs, nI i, N1) ∧ t = (nI x, nI al, nI b2, nI i, N2) ∧ x < 2147483647 ∧ al ≤ i ∧ (al = 0 → bs = -9 ∧ b2 = 1000000) ∧ (al ≠ 0 → bs = nI b2 ∧ b2 ≤ 10000) ∧ SC M1 N1 ∧ SM M2 N2) (fun r q => ∃ al bs b2 N1 N2, r = (nI al, tr_st N1 1 12 bs) ∧ q = (nI al, nI b2, N2) ∧ al ≤ 200 ∧ (bs = if al = 0 then -9 else nI b2) ∧ SC M1 N1 ∧ SM M2 N2) k (by omega) ⟨x, 0, -9, 1000000, M1, M2, rfl, rfl, hx, Nat.le_refl _, fun _ => ⟨rfl, rfl⟩, fun e => absurd rfl e, SC.rf, SM.rf⟩ (by
    rintro i s t hi ⟨x, al, bs, b2, N1, N2, rfl, rfl, hx, hal, h0, h1, hs1, hs2⟩
    left
    obtain ⟨y, f, P1, P2, hy, hf, g1, g2, hc, ho, k1, k2⟩ := draw_both (hw.sc hs1 hs2) hx
    have hwp := (hw.sc hs1 hs2).sc k1 k2
    have hwq : CWd w 26 (tr_row P1 44 (sa f (P1.1 44) w.1)) := hwp.2.1.sc (SC.row (by omega))
    have hcq : HasF (tr_row P1 44 (sa f (P1.1 44) w.1)) 59 w.1 f := fun i hi => by rw [tr_row_ne (by decide)]; exact hc i hi
    have hml := msr_le hw.1 m f
    have st1 : mX5_firstBroken 26 59 P1 = some (brk w f, tr_row P1 44 (sa f (P1.1 44) w.1)) := firstBroken_eq hw.1 hwp.2.1 hf hc (by show w.1 ≤ 10; exact hn) (by decide) rfl (by decide)
    unfold mX6_lots_l41 mX7_lots_l40
    simp (disch := omega) only [nlt, hi, if_true, g1, g2, Option.bind_some, st1, brokenNow_eq hw.1 hwp.2.2 hf ho, measured_eq hw.1 hwq hf hcq (show w.1 ≤ 10 from hn) (show (10 : Nat) < 2147483648 by decide) hm, measureNow_eq hw.1 hwp.2.2 hf ho hm, nadd1]
    have hsc : SC M1 (tr_row P1 44 (sa f (P1.1 44) w.1)) := (hs1.tr k1).tr (SC.row (by omega))
    have hsm : SM M2 P2 := hs2.tr k2
    by_cases q : brk w f = -9
    · simp only [if_pos q]
      by_cases z : al = 0
      · subst z
        obtain ⟨z1, z2⟩ := h0 rfl
        subst z2
        simp only [if_pos (show nI 0 = 0 from rfl)]
        rw [nlesser _ _ (by decide) (by omega), show min 1000000 (msr w m f) = msr w m f by omega]
        exact ⟨_, _, rfl, rfl, y, 0 + 1, nI (msr w m f), msr w m f, _, _, rfl, rfl, hy, by omega, fun e => by omega, fun _ => ⟨rfl, hml⟩, hsc, hsm⟩
      · obtain ⟨z1, z2⟩ := h1 z
        subst z1
        have hz : ¬ nI al = 0 := by rw [n00, neq (by omega) (by decide)]; exact z
        simp (disch := omega) only [if_neg hz, nlt, nlesser]
        by_cases lt : msr w m f < b2
        · simp only [if_pos lt]
          rw [show min b2 (msr w m f) = msr w m f by omega]
          exact ⟨_, _, rfl, rfl, y, al + 1, nI (msr w m f), msr w m f, _, _, rfl, rfl, hy, by omega, fun e => by omega, fun _ => ⟨rfl, hml⟩, hsc, hsm⟩
        · simp only [if_neg lt]
          rw [show min b2 (msr w m f) = b2 by omega]
          exact ⟨_, _, rfl, rfl, y, al + 1, nI b2, b2, _, _, rfl, rfl, hy, by omega, fun e => by omega, fun _ => ⟨rfl, z2⟩, hsc, hsm⟩
    · simp only [if_neg q]
      exact ⟨_, _, rfl, rfl, y, al, bs, b2, _, _, rfl, rfl, hy, by omega, h0, h1, hsc, hsm⟩) (by
    rintro s t ⟨x, al, bs, b2, N1, N2, rfl, rfl, hx, hal, h0, h1, hs1, hs2⟩
    refine ⟨(nI al, tr_st N1 1 12 bs), (nI al, nI b2, N2), ?_, ?_, al, bs, b2, N1, N2, rfl, rfl, by omega, ?_, hs1, hs2⟩
    · unfold mX6_lots_l41
      simp (disch := omega) only [nlt, Nat.lt_irrefl, if_false, Option.bind_some]
    · unfold mX7_lots_l40
      simp (disch := omega) only [nlt, Nat.lt_irrefl, if_false]
    · by_cases z : al = 0
      · rw [if_pos z]; exact (h0 z).1
      · rw [if_neg z]; exact (h1 z).1)
  subst r1 r2
  rw [l1, l2]
  dsimp only [Option.bind_some]
  have hv : (if nI al = 0 then some (-9 : Int32) else some (nI b2)) = some bs := by
    rw [r4]
    by_cases z : al = 0
    · subst z; rfl
    · rw [if_neg z, if_neg (by rw [n00, neq (by omega) (by decide)]; exact z)]
  rw [hv]
  simp only [Option.bind_some, tells_eq]
  obtain ⟨a1, a2, a3⟩ := ask_both (h.sc r5 r6) bs
  exact ⟨_, _, _, rfl, rfl, a1, r5.kc.tr a2.to2, r6.km.tr a3⟩
