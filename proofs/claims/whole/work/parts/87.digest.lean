/-! ===== digest ===== -/
theorem tr_sl_sl (M : tr_M) (a k : Nat) (u v : Int64) : tr_sl (tr_sl M a k u) a k v = tr_sl M a k v := by
  refine Prod.ext rfl (funext fun b => funext fun j => ?_)
  show (if b = a ∧ j = k then v else (if b = a ∧ j = k then u else M.2 b j)) = if b = a ∧ j = k then v else M.2 b j
  by_cases c : b = a ∧ j = k
  · rw [if_pos c, if_pos c]
  · rw [if_neg c, if_neg c, if_neg c]
def DM (M : tr_M) (h : Int64) : tr_M := tr_sl M 1 37 h
theorem mix_eq (v h : Int64) (M : tr_M) : mX7_mix v (DM M h) = some (DM M (31 * h + v)) := by
  unfold mX7_mix DM
  rw [Option.bind_some, tr_sl_sl, tr_sl_2, if_pos ⟨rfl, rfl⟩]
theorem DM_1 (M : tr_M) (h : Int64) : (DM M h).1 = M.1 := rfl
theorem MWd.dm {w : Wd} {M : tr_M} (hm : MWd w M) (h : Int64) : MWd w (DM M h) := hm
theorem byteAt_eq {t i s : Nat} {M : tr_M} (ht : t < 4) (hi : i < s) (hs : s ≤ 120) (hm : M.1 6 t = nI s) : mX7_byteAt (nI t) (nI i) M = some (M.1 7 (120 * t + i)) := by
  unfold mX7_byteAt
  have c1 : nI i < nI s := (nlt (by omega) (by omega)).mpr hi
  rw [tr_rd_nI ht (by decide)]
  simp only [Option.bind_some]
  rw [hm, if_pos c1, show (120 : Int32) * nI t + nI i = nI (120 * t + i) by rw [show (120 : Int32) = nI 120 from rfl, nmul, nadd], tr_rd_nI (by omega) (by decide)]
  rfl
theorem r_digest {w : Wd} {M1 M2 : tr_M} (h : ITF M1 M2) (hw : IWd w M1 M2) : ∃ v, mX6_digest M1 = some v ∧ mX7_digest M2 = some (v, DM M2 v) := by
  have hn := hw.1.1
  have h8 := hw.1.2.2.2.2.1
  unfold mX6_digest mX7_digest
  rw [Option.bind_some]
  -- counts
  obtain ⟨h1, q1, a1, a2, rfl⟩ := loops_both (st1 := mX6_digest_l6 M1) (st2 := mX7_digest_l9) (a := (17, 0)) (b := (0, DM M2 17)) (fun i s t => ∃ h, s = (h, nI i) ∧ t = (nI i, DM M2 h)) (fun r q => q = DM M2 r) 7 (by decide) ⟨17, rfl, rfl⟩ (by
    rintro i s t hi ⟨g, rfl, rfl⟩
    left
    have c1 : ¬ (6 : Int32) < nI i := by rw [show (6 : Int32) = nI 6 from rfl, nlt (by decide) (by omega)]; omega
    have c2 : nI i < (7 : Int32) := by rw [show (7 : Int32) = nI 7 from rfl]; exact (nlt (by omega) (by decide)).mpr hi
    unfold mX6_digest_l6 mX7_digest_l9
    dsimp only
    rw [if_neg c1, if_pos c2, count_eq h.1 h.2.1 hw.1 hw.2.1 hi, counted_eq hw.1 (hw.2.2.dm g) hi]
    simp only [Option.bind_some, mix_eq, nadd1, DM_1]
    exact ⟨_, _, rfl, rfl, _, rfl, rfl⟩) (by
    rintro s t ⟨g, rfl, rfl⟩
    refine ⟨g, DM M2 g, ?_, ?_, rfl⟩
    · unfold mX6_digest_l6
      dsimp only
      rw [if_pos (show (6 : Int32) < nI 7 by decide)]
    · unfold mX7_digest_l9
      dsimp only
      rw [if_neg (show ¬ nI 7 < (7 : Int32) by decide)])
  rw [show tr_loop (mX6_digest_l6 M1) (17, 0) = _ from a1, show tr_loop mX7_digest_l9 (0, tr_sl M2 1 37 17) = _ from a2]
  dsimp only [Option.bind_some]
  -- weights
  obtain ⟨h2, q2, b1, b2, rfl⟩ := loops_both (st1 := mX6_digest_l33 M1) (st2 := mX7_digest_l33) (a := (h1, 0)) (b := (0, DM M2 h1)) (fun i s t => ∃ h, s = (h, nI i) ∧ t = (nI i, DM M2 h)) (fun r q => q = DM M2 r) w.1 (by omega) ⟨h1, rfl, rfl⟩ (by
    rintro i s t hi ⟨g, rfl, rfl⟩
    left
    have c1 : nI i < nI w.1 := (nlt (by omega) (by omega)).mpr hi
    unfold mX6_digest_l33 mX7_digest_l33
    dsimp only
    rw [hw.2.1.1, (hw.2.2.dm g).1, if_pos c1, if_pos c1]
    obtain ⟨r, q, e1, e2, g', e3, e4⟩ := loops_both (st1 := mX6_digest_l49 M1 (g, nI i)) (st2 := mX7_digest_l45 (nI i, DM M2 g)) (a := (g, nI i + 1)) (b := (nI i + 1, DM M2 g)) (fun j s t => ∃ h, s = (h, nI (i + 1 + j)) ∧ t = (nI (i + 1 + j), DM M2 h)) (fun r q => ∃ h, r = .inl (h, nI (i + 1)) ∧ q = .inl (nI (i + 1), DM M2 h)) (w.1 - (i + 1)) (by omega) ⟨g, by rw [nadd1], by rw [nadd1]⟩ (by
      rintro j s t hj ⟨k, rfl, rfl⟩
      left
      have c2 : nI (i + 1 + j) < nI w.1 := (nlt (by omega) (by omega)).mpr (by omega)
      have hwt := hw.2.1.2.2.2.1 i (i + 1 + j) (by omega) (by omega)
      rw [show 26 + 2 + i = 28 + i by omega] at hwt
      unfold mX6_digest_l49 mX7_digest_l45
      dsimp only
      rw [hw.2.1.1, (hw.2.2.dm k).1, if_pos c2, if_pos c2, tr_ra_nI (show i < 10 by omega) (by decide), weight_eq (by omega) (by omega)]
      simp only [Option.bind_some]
      rw [tr_rd_nI (show i + 1 + j < 10 by omega) (by decide), hwt, (hw.2.2.dm k).2.2.1 i (i + 1 + j) (by omega) (by omega)]
      simp only [Option.bind_some, mix_eq, nadd1]
      exact ⟨_, _, rfl, rfl, _, rfl, rfl⟩) (by
      rintro s t ⟨k, rfl, rfl⟩
      rw [show i + 1 + (w.1 - (i + 1)) = w.1 by omega]
      have c2 : ¬ nI w.1 < nI w.1 := by rw [nlt (by omega) (by omega)]; omega
      refine ⟨_, _, ?_, ?_, k, rfl, rfl⟩
      · unfold mX6_digest_l49
        dsimp only
        rw [hw.2.1.1, if_neg c2, nadd1]
      · unfold mX7_digest_l45
        dsimp only
        rw [(hw.2.2.dm k).1, if_neg c2, nadd1])
    subst e3 e4
    exact ⟨_, _, e1, e2, g', rfl, rfl⟩) (by
    rintro s t ⟨g, rfl, rfl⟩
    have c2 : ¬ nI w.1 < nI w.1 := by rw [nlt (by omega) (by omega)]; omega
    refine ⟨g, DM M2 g, ?_, ?_, rfl⟩
    · unfold mX6_digest_l33
      dsimp only
      rw [hw.2.1.1, if_neg c2]
    · unfold mX7_digest_l33
      dsimp only
      rw [(hw.2.2.dm g).1, if_neg c2])
  rw [show tr_loop (mX6_digest_l33 M1) (h1, 0) = _ from b1, show tr_loop mX7_digest_l33 (0, DM M2 h1) = _ from b2]
  dsimp only [Option.bind_some]
  -- rules: the class by rule and number, the model one behind the other
  have hrule : ∀ h2 : Int64, ∃ h3, tr_loop (mX6_digest_l95 M1) (h2, 0) = some h3 ∧ tr_loop mX7_digest_l78 (0, DM M2 h2) = some (DM M2 h3) := fun h2 => by
    have key : ∃ H : Nat → Int64, H 0 = h2 ∧ ∀ j, H (j + 1) = 31 * H j + (M2.1 9 j).toInt64 := by
      refine ⟨fun j => Nat.rec h2 (fun i x => 31 * x + (M2.1 9 i).toInt64) j, rfl, fun j => rfl⟩
    obtain ⟨H, H0, Hs⟩ := key
    refine ⟨H (5 * w.2.2.1), ?_, ?_⟩
    · rw [← H0]
      refine tr_loop_seq' (fun k => (H (5 * k), nI k)) w.2.2.1 rfl (by omega) (fun k hk => ?_) ?_
      · unfold mX6_digest_l95
        have c1 : nI k < nI w.2.2.1 := (nlt (by omega) (by omega)).mpr hk
        dsimp only
        rw [hw.2.1.2.1, if_pos c1]
        refine tr_loop_seq' (fun j => (H (5 * k + j), nI j)) 5 rfl (by decide) (fun j hj => ?_) ?_
        · unfold mX6_digest_l109
          have c2 : ¬ (4 : Int32) < nI j := by rw [show (4 : Int32) = nI 4 from rfl, nlt (by decide) (by omega)]; omega
          dsimp only
          rw [if_neg c2, ruleNum_eq hw.2.1 hw.2.2 hw.1 hk hj, Option.bind_some, nadd1, show 5 * k + (j + 1) = 5 * k + j + 1 by omega, Hs]
        · unfold mX6_digest_l109
          dsimp only
          rw [if_pos (show (4 : Int32) < nI 5 by decide), nadd1]
          rfl
      · unfold mX6_digest_l95
        have c1 : ¬ nI w.2.2.1 < nI w.2.2.1 := by rw [nlt (by omega) (by omega)]; omega
        dsimp only
        rw [hw.2.1.2.1, if_neg c1]
    · rw [← H0]
      refine tr_loop_seq' (fun j => (nI j, DM M2 (H j))) (5 * w.2.2.1) rfl (by omega) (fun j hj => ?_) ?_
      · unfold mX7_digest_l78
        have c1 : nI j < nI (5 * w.2.2.1) := (nlt (by omega) (by omega)).mpr hj
        dsimp only
        rw [(hw.2.2.dm _).2.1, show (5 : Int32) * nI w.2.2.1 = nI (5 * w.2.2.1) from nmul 5 _, if_pos c1, tr_rd_nI (by omega) (by decide)]
        simp only [Option.bind_some, mix_eq, nadd1, Hs, DM_1]
      · unfold mX7_digest_l78
        have c1 : ¬ nI (5 * w.2.2.1) < nI (5 * w.2.2.1) := by rw [nlt (by omega) (by omega)]; omega
        dsimp only
        rw [(hw.2.2.dm _).2.1, show (5 : Int32) * nI w.2.2.1 = nI (5 * w.2.2.1) from nmul 5 _, if_neg c1]
  obtain ⟨h3, d1, d2⟩ := hrule h2
  rw [d1, d2]
  dsimp only [Option.bind_some]
  -- rows
  unfold mX6_digestOf_2 mX6_digestOf_3
  obtain ⟨h4, q4, f1, f2, rfl⟩ := loops_both (st1 := mX6_digestOf_2_l5 M1) (st2 := mX7_digest_l107) (a := (h3, 0)) (b := (0, DM M2 h3)) (fun i s t => ∃ h, s = (h, nI i) ∧ t = (nI i, DM M2 h)) (fun r q => q = DM M2 r) 6 (by decide) ⟨h3, rfl, rfl⟩ (by
    rintro i s t hi ⟨g, rfl, rfl⟩
    left
    have hl := len_row hi
    have c1 : nI i < (6 : Int32) := by rw [show (6 : Int32) = nI 6 from rfl]; exact (nlt (by omega) (by decide)).mpr hi
    unfold mX6_digestOf_2_l5 mX7_digest_l107
    dsimp only
    rw [if_pos c1, if_pos c1, tr_ra_nI hi (by decide), tr_rd_nI hi (by decide)]
    simp only [Option.bind_some, mix_eq, DM_1]
    have hsz : M1.1 (62 + 2 * i) 1 = M2.1 3 i := by
      rcases h.1 i hi with ⟨m1, m2⟩ | ⟨s, hs, m1, m2, m3⟩
      · rw [m1, m2]
      · rw [m1, m2]
    rw [hsz]
    obtain ⟨s, hs, hlt, hrow⟩ : ∃ s, s ≤ 60 ∧ (∀ j, j ≤ s → (nI j < M2.1 3 i ↔ j < s)) ∧ ∀ j, j < s → M1.1 (62 + 2 * i + 1) j = M2.1 4 (60 * i + j) := by
      rcases h.1 i hi with ⟨m1, m2⟩ | ⟨s, hs, m1, m2, m3⟩
      · refine ⟨0, by omega, fun j hj => ?_, fun j hj => by omega⟩
        rw [m2, show j = 0 by omega]
        exact ⟨fun z => absurd z (by decide), fun z => by omega⟩
      · refine ⟨s, hs, fun j hj => by rw [m2, nlt (by omega) (by omega)], fun j hj => ?_⟩
        rw [show 62 + 2 * i + 1 = 63 + 2 * i by omega]
        exact m3 j hj
    obtain ⟨r, q, e1, e2, g', e3, e4⟩ := loops_both (st1 := mX6_digestOf_2_l30 M1 (g, nI i)) (st2 := mX7_digest_l126 (nI i, DM M2 g)) (a := (31 * g + (M2.1 3 i).toInt64, 0)) (b := (0, DM M2 (31 * g + (M2.1 3 i).toInt64))) (fun j s t => ∃ h, s = (h, nI j) ∧ t = (nI j, DM M2 h)) (fun r q => ∃ h, r = .inl (h, nI (i + 1)) ∧ q = .inl (nI (i + 1), DM M2 h)) s (by omega) ⟨_, rfl, rfl⟩ (by
      rintro j s' t hj ⟨k, rfl, rfl⟩
      left
      have c2 := (hlt j (by omega)).mpr hj
      unfold mX6_digestOf_2_l30 mX7_digest_l126
      dsimp only
      rw [tr_ra_nI hi (by decide), tr_rd_nI hi (by decide)]
      simp only [Option.bind_some, DM_1]
      rw [hsz, if_pos c2, if_pos c2, hl, tr_rd_nI (by omega) (by decide), rowAt_eq hi (by omega), hrow j hj]
      simp only [Option.bind_some, mix_eq, nadd1, DM_1]
      exact ⟨_, _, rfl, rfl, _, rfl, rfl⟩) (by
      rintro s' t ⟨k, rfl, rfl⟩
      have c2 : ¬ nI s < M2.1 3 i := fun z => absurd ((hlt s (Nat.le_refl _)).mp z) (Nat.lt_irrefl _)
      unfold mX6_digestOf_2_l30 mX7_digest_l126
      dsimp only
      rw [tr_ra_nI hi (by decide), tr_rd_nI hi (by decide)]
      simp only [Option.bind_some, DM_1]
      rw [hsz, if_neg c2, if_neg c2, nadd1]
      exact ⟨_, _, rfl, rfl, k, rfl, rfl⟩)
    subst e3 e4
    exact ⟨_, _, e1, e2, g', rfl, rfl⟩) (by
    rintro s t ⟨g, rfl, rfl⟩
    refine ⟨g, DM M2 g, ?_, ?_, rfl⟩
    · unfold mX6_digestOf_2_l5
      dsimp only
      rw [if_neg (show ¬ nI 6 < (6 : Int32) by decide)]
    · unfold mX7_digest_l107
      dsimp only
      rw [if_neg (show ¬ nI 6 < (6 : Int32) by decide)])
  rw [show tr_loop (mX6_digestOf_2_l5 M1) (h3, 0) = _ from f1, show tr_loop mX7_digest_l107 (0, DM M2 h3) = _ from f2]
  dsimp only [Option.bind_some]
  -- texts
  obtain ⟨h5, q5, g1, g2, rfl⟩ := loops_both (st1 := mX6_digestOf_3_l5 M1) (st2 := mX7_digest_l161) (a := (h4, 0)) (b := (0, DM M2 h4)) (fun i s t => ∃ h, s = (h, nI i) ∧ t = (nI i, DM M2 h)) (fun r q => q = (r, DM M2 r)) 4 (by decide) ⟨h4, rfl, rfl⟩ (by
    rintro i s t hi ⟨g, rfl, rfl⟩
    left
    have hl := len_text hi
    have c1 : nI i < (4 : Int32) := by rw [show (4 : Int32) = nI 4 from rfl]; exact (nlt (by omega) (by decide)).mpr hi
    unfold mX6_digestOf_3_l5 mX7_digest_l161
    dsimp only
    rw [if_pos c1, if_pos c1, tr_ra_nI hi (by decide), tr_rd_nI hi (by decide)]
    simp only [Option.bind_some, mix_eq, DM_1]
    have hsz : M1.1 (74 + 2 * i) 1 = M2.1 6 i := by
      rcases h.2.1 i hi with ⟨m1, m2⟩ | ⟨s, hs, m1, m2, m3⟩
      · rw [m1, m2]
      · rw [m1, m2]
    rw [hsz]
    obtain ⟨s, hs, hlt, hrow, hb⟩ : ∃ s, s ≤ 120 ∧ (∀ j, j ≤ s → (nI j < M2.1 6 i ↔ j < s)) ∧ (∀ j, j < s → M1.1 (74 + 2 * i + 1) j = M2.1 7 (120 * i + j)) ∧ (0 < s → M2.1 6 i = nI s) := by
      rcases h.2.1 i hi with ⟨m1, m2⟩ | ⟨s, hs, m1, m2, m3⟩
      · refine ⟨0, by omega, fun j hj => ?_, fun j hj => by omega, fun z => by omega⟩
        rw [m2, show j = 0 by omega]
        exact ⟨fun z => absurd z (by decide), fun z => by omega⟩
      · refine ⟨s, hs, fun j hj => by rw [m2, nlt (by omega) (by omega)], fun j hj => ?_, fun _ => m2⟩
        rw [show 74 + 2 * i + 1 = 75 + 2 * i by omega]
        exact m3 j hj
    obtain ⟨r, q, e1, e2, g', e3, e4⟩ := loops_both (st1 := mX6_digestOf_3_l30 M1 (g, nI i)) (st2 := mX7_digest_l179 (nI i, DM M2 g)) (a := (31 * g + (M2.1 6 i).toInt64, 0)) (b := (0, DM M2 (31 * g + (M2.1 6 i).toInt64))) (fun j s t => ∃ h, s = (h, nI j) ∧ t = (nI j, DM M2 h)) (fun r q => ∃ h, r = .inl (h, nI (i + 1)) ∧ q = .inl (nI (i + 1), DM M2 h)) s (by omega) ⟨_, rfl, rfl⟩ (by
      rintro j s' t hj ⟨k, rfl, rfl⟩
      left
      have c2 := (hlt j (by omega)).mpr hj
      unfold mX6_digestOf_3_l30 mX7_digest_l179
      dsimp only
      rw [tr_ra_nI hi (by decide), tr_rd_nI hi (by decide)]
      simp only [Option.bind_some, DM_1]
      rw [hsz, if_pos c2, if_pos c2, hl, tr_rd_nI (by omega) (by decide), byteAt_eq (M := DM M2 k) hi hj hs (hb (by omega)), hrow j hj]
      simp only [Option.bind_some, mix_eq, nadd1, DM_1]
      exact ⟨_, _, rfl, rfl, _, rfl, rfl⟩) (by
      rintro s' t ⟨k, rfl, rfl⟩
      have c2 : ¬ nI s < M2.1 6 i := fun z => absurd ((hlt s (Nat.le_refl _)).mp z) (Nat.lt_irrefl _)
      unfold mX6_digestOf_3_l30 mX7_digest_l179
      dsimp only
      rw [tr_ra_nI hi (by decide), tr_rd_nI hi (by decide)]
      simp only [Option.bind_some, DM_1]
      rw [hsz, if_neg c2, if_neg c2, nadd1]
      exact ⟨_, _, rfl, rfl, k, rfl, rfl⟩)
    subst e3 e4
    exact ⟨_, _, e1, e2, g', rfl, rfl⟩) (by
    rintro s t ⟨g, rfl, rfl⟩
    refine ⟨g, (g, DM M2 g), ?_, ?_, rfl⟩
    · unfold mX6_digestOf_3_l5
      dsimp only
      rw [if_neg (show ¬ nI 4 < (4 : Int32) by decide)]
    · unfold mX7_digest_l161
      dsimp only
      rw [if_neg (show ¬ nI 4 < (4 : Int32) by decide)]
      unfold DM
      rw [tr_sl_2, if_pos ⟨rfl, rfl⟩])
  rw [show tr_loop (mX6_digestOf_3_l5 M1) (h4, 0) = _ from g1, show tr_loop mX7_digest_l161 (0, DM M2 h4) = _ from g2]
  exact ⟨h5, rfl, rfl⟩
