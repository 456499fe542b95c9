/-! ===== fault, world ===== -/
theorem KB.kc {M N : tr_M} (h : KB M N) : KC2 M N := ⟨fun b h1 h2 _ => h.1 b (by omega), fun k _ => by rw [h.1 1 (by omega)]⟩
theorem KMB.km {M N : tr_M} (h : KMB M N) : KM M N := ⟨h.1 8 (by decide) (by decide) (by decide), h.1 9 (by decide) (by decide) (by decide), h.2.1 10 (by omega), h.2.1 12 (by omega), h.2.1 27 (by omega)⟩
theorem ITF.kb {M1 M2 N1 N2 : tr_M} (h : ITF M1 M2) (h1 : KB M1 N1) (h2 : KMB M2 N2) : ITF N1 N2 := h.congr (fun c _ _ _ _ _ => h1.1 c (by omega)) (fun k _ => by rw [h1.1 1 (by omega)]) h1.2 (fun c _ h3 _ => h2.1 c h3 (by omega) (by omega)) (fun k _ => h2.2.1 k (by omega)) (fun k _ => by rw [h2.2.2])
theorem tx_of {M1 M2 : tr_M} (h : ITF M1 M2) {t : Nat} (ht : t < 4) : (M1.1 (74 + 2 * t) 1 = -1 ∧ M2.1 6 t = -1) ∨ ∃ s b, TX t s b M1 M2 := by
  rcases h.2.1 t ht with h1 | ⟨s, hs, m1, m2, m3⟩
  · exact Or.inl h1
  · refine Or.inr ⟨s, fun i => M2.1 7 (120 * t + i), ht, hs, m1, fun i hi => ?_, m2, fun i hi => rfl⟩
    rw [show 74 + 2 * t + 1 = 75 + 2 * t by omega]
    exact m3 i hi
theorem r_fault {w : Wd} {M1 M2 : tr_M} (h : ITF M1 M2) (hw : IWd w M1 M2) (p1 : Int32) : Res2 (mX6_fault p1 M1) (mX7_fault p1 M2) M1 M2 := by
  unfold mX6_fault mX7_fault
  rcases isText_cases p1 with ⟨d1, d2⟩ | ⟨t, ht, rfl, d1, d2⟩
  · rw [d1, d2]; exact (Res.same h).to2
  simp only [d1, d2, Option.bind_some, if_neg (show ¬ (1 : Int32) = 0 by decide), tr_ra_nI ht (show 4 < 2147483648 by decide), tr_rd_nI ht (show 4 < 2147483648 by decide)]
  rcases tx_of h ht with ⟨m1, m2⟩ | ⟨s, b, hT⟩
  · rw [miss_m m1, m2, if_neg (by decide), if_pos (by decide)]
    exact meets_res h (q := 1) (by decide)
  · have hs := hT.2.1
    rw [miss_s hT.2.2.1 (by omega), hT.2.2.2.2.1, if_pos rfl, if_neg (nI_pos (by omega))]
    obtain ⟨res, P1, P2, e1, e2, e3, e4, -⟩ := read_both hT
    rw [e1, e2]
    exact ⟨res, P1, P2, rfl, rfl, h.kb e3 e4, e3.kc, e4.km⟩
def WA (W : Nat → Nat → Nat) (a : Nat) : Nat → Nat → Nat := fun x y => if x < a ∨ y < a then W x y else 0
def WB (W : Nat → Nat → Nat) (a b : Nat) : Nat → Nat → Nat := fun x y => if x < a ∨ y < a ∨ (x = a ∧ y < b) ∨ (y = a ∧ x < b) then W x y else 0
theorem WB_0 {w : Wd} (h : WOk w) (a : Nat) : WB w.2.1 a (a + 1) = WA w.2.1 a := funext fun x => funext fun y => by
  unfold WA WB
  by_cases c : x < a ∨ y < a
  · rw [if_pos c, if_pos (by omega)]
  · rw [if_neg c]
    by_cases d : x = a ∧ y = a
    · rw [if_pos (by omega), d.1, d.2, h.2.2.2.1 a a (Or.inr rfl)]
    · rw [if_neg (by omega)]
theorem WB_n {w : Wd} (h : WOk w) (a : Nat) : WB w.2.1 a w.1 = WA w.2.1 (a + 1) := funext fun x => funext fun y => by
  unfold WA WB
  by_cases c : x < a ∨ y < a ∨ (x = a ∧ y < w.1) ∨ (y = a ∧ x < w.1)
  · rw [if_pos c, if_pos (by omega)]
  · rw [if_neg c]
    by_cases d : x < a + 1 ∨ y < a + 1
    · rw [if_pos d]
      by_cases e : x = a
      · rw [W_hi h (show w.1 ≤ y by omega)]
      · rw [h.2.2.2.1 x y (Or.inl (by omega))]
    · rw [if_neg d]
theorem WB_s {w : Wd} (h : WOk w) {a b : Nat} (hab : a < b) : wt2 (WB w.2.1 a b) a b (w.2.1 a b) = WB w.2.1 a (b + 1) := funext fun x => funext fun y => by
  rw [wt2_eq]
  unfold WB
  by_cases c : (x = a ∧ y = b) ∨ (x = b ∧ y = a)
  · rw [if_pos c, if_pos (by omega)]
    rcases c with ⟨rfl, rfl⟩ | ⟨rfl, rfl⟩
    · rfl
    · exact h.2.2.1 _ _
  · rw [if_neg c]
    by_cases d : x < a ∨ y < a ∨ (x = a ∧ y < b) ∨ (y = a ∧ x < b)
    · rw [if_pos d, if_pos (by omega)]
    · rw [if_neg d, if_neg (by omega)]
theorem take_wd {w : Wd} {M : tr_M} (hok : WOk w) (h5 : CWd w 5 M) (hoff : ∀ k, w.2.2.2.2 k = false) : ∃ N, mX5_take 26 5 M = some N ∧ CWd w 26 N ∧ (∀ c, c < 26 ∨ 43 < c → N.1 c = M.1 c) ∧ N.2 = M.2 := by
  have hn := hok.1
  have h8 := hok.2.2.2.2.1
  unfold mX5_take
  obtain ⟨C, e1, e2, e3, e4⟩ := clear_wd (o := 26) (n := w.1) (M := M) len26
  rw [h5.1, e1]
  simp only [Option.bind_some]
  have keep5 : ∀ N : tr_M, (∀ c, c < 26 ∨ 43 < c → N.1 c = M.1 c) → CWd w 5 N := fun N hN => h5.congr fun b h1 h2 => hN b (by omega)
  -- the ties
  have inner : ∀ a N, a < w.1 → CWd (w.1, WA w.2.1 a, 0, fun _ => (0, 0, 0, 0), fun _ => false) 26 N → (∀ c, c < 26 ∨ 43 < c → N.1 c = M.1 c) → N.2 = M.2 → ∃ P, tr_loop (mX5_take_l22 26 5 (nI a, N)) (nI a + 1, N) = some (.inl (nI (a + 1), P)) ∧ CWd (w.1, WA w.2.1 (a + 1), 0, fun _ => (0, 0, 0, 0), fun _ => false) 26 P ∧ (∀ c, c < 26 ∨ 43 < c → P.1 c = M.1 c) ∧ P.2 = M.2 := fun a N ha hN k1 k2 => by
    obtain ⟨r, q1, P, q2, q3, q4, q5⟩ := tr_loop_inv (step := mX5_take_l22 26 5 (nI a, N)) (s0 := (nI a + 1, N)) (fun i s => ∃ P, s = (nI (a + 1 + i), P) ∧ CWd (w.1, WB w.2.1 a (a + 1 + i), 0, fun _ => (0, 0, 0, 0), fun _ => false) 26 P ∧ (∀ c, c < 26 ∨ 43 < c → P.1 c = M.1 c) ∧ P.2 = M.2) (fun r => ∃ P, r = .inl (nI (a + 1), P) ∧ CWd (w.1, WA w.2.1 (a + 1), 0, fun _ => (0, 0, 0, 0), fun _ => false) 26 P ∧ (∀ c, c < 26 ∨ 43 < c → P.1 c = M.1 c) ∧ P.2 = M.2) (w.1 - (a + 1)) (by omega) ⟨N, by rw [nadd1], by rw [Nat.add_zero, WB_0 hok]; exact hN, k1, k2⟩ (by
      rintro i s hi ⟨P, rfl, g1, g2, g3⟩
      left
      have hv := hok.2.1 a (a + 1 + i)
      have hwt := (keep5 P g2).2.2.2.1 a (a + 1 + i) (by omega) (by omega)
      obtain ⟨Q, t1, t2, t3, t4⟩ := tie_wd g1 (show a < 10 by omega) (show a + 1 + i < 10 by omega) hv
      have c1 : nI (a + 1 + i) < nI w.1 := (nlt (by omega) (by omega)).mpr (by omega)
      refine ⟨_, ?_, Q, rfl, ?_, fun c hc => (t3 c (by omega)).trans (g2 c hc), t4.trans g3⟩
      · unfold mX5_take_l22
        dsimp only
        rw [g1.1, if_pos c1, tr_ra_nI (show a < 10 by omega) (by decide)]
        simp only [Option.bind_some]
        rw [tr_rd_nI (show a + 1 + i < 10 by omega) (by decide)]
        simp only [Option.bind_some]
        rw [hwt, t1]
        simp only [Option.bind_some, nadd1]
        rfl
      · have := WB_s hok (a := a) (b := a + 1 + i) (by omega)
        rw [show a + 1 + (i + 1) = a + 1 + i + 1 by omega, ← this]
        exact t2) (by
      rintro s ⟨P, rfl, g1, g2, g3⟩
      rw [show a + 1 + (w.1 - (a + 1)) = w.1 by omega] at g1 ⊢
      have c1 : ¬ nI w.1 < nI w.1 := by rw [nlt (by omega) (by omega)]; omega
      rw [WB_n hok] at g1
      refine ⟨_, ?_, P, rfl, g1, g2, g3⟩
      unfold mX5_take_l22
      dsimp only
      rw [g1.1, if_neg c1, nadd1])
    exact ⟨P, by rw [q1, q2], q3, q4, q5⟩
  obtain ⟨V, q1, q2, q3, q4⟩ := tr_loop_inv (step := mX5_take_l10 26 5) (s0 := (0, C)) (fun a s => ∃ N, s = (nI a, N) ∧ CWd (w.1, WA w.2.1 a, 0, fun _ => (0, 0, 0, 0), fun _ => false) 26 N ∧ (∀ c, c < 26 ∨ 43 < c → N.1 c = M.1 c) ∧ N.2 = M.2) (fun N => CWd (w.1, WA w.2.1 w.1, 0, fun _ => (0, 0, 0, 0), fun _ => false) 26 N ∧ (∀ c, c < 26 ∨ 43 < c → N.1 c = M.1 c) ∧ N.2 = M.2) w.1 (by omega) ⟨C, rfl, by
      have : WA w.2.1 0 = fun _ _ => 0 := funext fun x => funext fun y => if_neg (by omega)
      rw [this]; exact e2, fun c hc => e3 c (by omega) (by omega), e4⟩ (by
    rintro a s ha ⟨N, rfl, g1, g2, g3⟩
    left
    obtain ⟨P, k1, k2, k3, k4⟩ := inner a N ha g1 g2 g3
    refine ⟨_, ?_, P, rfl, k2, k3, k4⟩
    unfold mX5_take_l10
    dsimp only
    have c1 : nI a < nI w.1 := (nlt (by omega) (by omega)).mpr ha
    rw [g1.1, if_pos c1]
    exact k1) (by
    rintro s ⟨N, rfl, g1, g2, g3⟩
    refine ⟨N, ?_, g1, g2, g3⟩
    unfold mX5_take_l10
    dsimp only
    have c1 : ¬ nI w.1 < nI w.1 := by rw [nlt (by omega) (by omega)]; omega
    rw [g1.1, if_neg c1])
  rw [q1]
  dsimp only [Option.bind_some]
  have hWA : WA w.2.1 w.1 = w.2.1 := funext fun x => funext fun y => by
    unfold WA
    by_cases c : x < w.1 ∨ y < w.1
    · rw [if_pos c]
    · rw [if_neg c, W_hi hok (show w.1 ≤ y by omega)]
  rw [hWA] at q2
  -- the rules
  obtain ⟨N, r1, r2, r3, r4⟩ := tr_loop_inv (step := mX5_take_l58 26 5) (s0 := (0, V)) (fun k s => ∃ N, s = (nI k, N) ∧ CWd (w.1, w.2.1, k, w.2.2.2.1, fun _ => false) 26 N ∧ (∀ c, c < 26 ∨ 43 < c → N.1 c = M.1 c) ∧ N.2 = M.2) (fun N => CWd (w.1, w.2.1, w.2.2.1, w.2.2.2.1, fun _ => false) 26 N ∧ (∀ c, c < 26 ∨ 43 < c → N.1 c = M.1 c) ∧ N.2 = M.2) w.2.2.1 (by omega) ⟨V, rfl, ⟨q2.1, q2.2.1, q2.2.2.1, q2.2.2.2.1, q2.2.2.2.2.1, q2.2.2.2.2.2.1, fun k hk => absurd hk (Nat.not_lt_zero k)⟩, q3, q4⟩ (by
    rintro k s hk ⟨N, rfl, g1, g2, g3⟩
    left
    have h5N := keep5 N g2
    obtain ⟨z1, z2, z3, z4⟩ := h5N.2.2.2.2.2.2 k hk
    have hr := hok.2.2.2.2.2.1 k hk
    have hkd := kd_le hok hk
    obtain ⟨P, t1, t2, t3, t4⟩ := addRule_wd (o := 26) (kd := (w.2.2.2.1 k).1) (x := (w.2.2.2.1 k).2.1) (y := (w.2.2.2.1 k).2.2.1) (z := (w.2.2.2.1 k).2.2.2) (p2 := nI (w.2.2.2.1 k).2.1) (p3 := nI (w.2.2.2.1 k).2.2.1) (p4 := nI (w.2.2.2.1 k).2.2.2) g1 (show k < 8 by omega) (by
      unfold ruleOk at hr
      by_cases e : nI (w.2.2.2.1 k).1 = 0
      · rw [if_pos e]
        rw [n00, neq (by omega) (by decide)] at e
        rw [show (w.2.2.2.1 k).2.1 = 0 by omega]
        rfl
      · rw [if_neg e]) (by
      unfold ruleOk at hr
      by_cases e : nI (w.2.2.2.1 k).1 = 0
      · rw [if_pos e]
        rw [n00, neq (by omega) (by decide)] at e
        rw [show (w.2.2.2.1 k).2.2.1 = 0 by omega]
        rfl
      · rw [if_neg e]) (by
      unfold ruleOk at hr
      by_cases e : nI (w.2.2.2.1 k).1 = 6
      · rw [if_pos e]
      · rw [if_neg e]
        rw [show (6 : Int32) = nI 6 from rfl, neq (by omega) (by decide)] at e
        rw [show (w.2.2.2.1 k).2.2.2 = 0 by omega]
        rfl)
    have c1 : nI k < nI w.2.2.1 := (nlt (by omega) (by omega)).mpr hk
    have hadd : wdAdd (w.1, w.2.1, k, w.2.2.2.1, fun _ => false) ((w.2.2.2.1 k).1, (w.2.2.2.1 k).2.1, (w.2.2.2.1 k).2.2.1, (w.2.2.2.1 k).2.2.2) = (w.1, w.2.1, k + 1, w.2.2.2.1, fun _ => false) := by
      unfold wdAdd
      have : (fun j => if j = k then ((w.2.2.2.1 k).1, (w.2.2.2.1 k).2.1, (w.2.2.2.1 k).2.2.1, (w.2.2.2.1 k).2.2.2) else w.2.2.2.1 j) = w.2.2.2.1 := funext fun j => by
        by_cases e : j = k
        · rw [if_pos e, e]
        · rw [if_neg e]
      show (w.1, w.2.1, k + 1, (fun j => if j = k then ((w.2.2.2.1 k).1, (w.2.2.2.1 k).2.1, (w.2.2.2.1 k).2.2.1, (w.2.2.2.1 k).2.2.2) else w.2.2.2.1 j), fun _ => false) = _
      rw [this]
    rw [hadd] at t2
    refine ⟨_, ?_, P, rfl, t2, fun c hc => (t3 c (by omega) (by omega)).trans (g2 c hc), t4.trans g3⟩
    unfold mX5_take_l58
    dsimp only
    rw [h5N.2.1, if_pos c1, tr_rd_nI (show k < 8 by omega) (by decide)]
    simp only [Option.bind_some]
    rw [tr_rd_nI (show k < 8 by omega) (by decide)]
    simp only [Option.bind_some]
    rw [tr_rd_nI (show k < 8 by omega) (by decide)]
    simp only [Option.bind_some]
    rw [tr_rd_nI (show k < 8 by omega) (by decide)]
    simp only [Option.bind_some]
    rw [z1, z2, z3, z4, t1]
    simp only [Option.bind_some, nadd1]) (by
    rintro s ⟨N, rfl, g1, g2, g3⟩
    refine ⟨N, ?_, g1, g2, g3⟩
    unfold mX5_take_l58
    dsimp only
    have c1 : ¬ nI w.2.2.1 < nI w.2.2.1 := by rw [nlt (by omega) (by omega)]; omega
    rw [(keep5 N g2).2.1, if_neg c1])
  have hwe : (w.1, w.2.1, w.2.2.1, w.2.2.2.1, fun _ => false) = w := by
    have : w.2.2.2.2 = fun _ => false := funext hoff
    rw [← this]
  rw [hwe] at r2
  exact ⟨N, r1, r2, r3, r4⟩
theorem r_world {w : Wd} {M1 M2 : tr_M} (h : ITF M1 M2) (hw : IWd w M1 M2) (p1 : Int32) : Res2 (mX6_world p1 M1) (mX7_world p1 M2) M1 M2 ∨ ResW (mX6_world p1 M1) (mX7_world p1 M2) M1 M2 := by
  unfold mX6_world mX7_world
  rcases isText_cases p1 with ⟨d1, d2⟩ | ⟨t, ht, rfl, d1, d2⟩
  · left; rw [d1, d2]; exact (Res.same h).to2
  simp only [d1, d2, Option.bind_some, if_neg (show ¬ (1 : Int32) = 0 by decide), tr_ra_nI ht (show 4 < 2147483648 by decide), tr_rd_nI ht (show 4 < 2147483648 by decide)]
  rcases tx_of h ht with ⟨m1, m2⟩ | ⟨s, b, hT⟩
  · left
    rw [miss_m m1, m2, if_neg (by decide), if_pos (by decide)]
    exact meets_res h (q := 1) (by decide)
  · have hs := hT.2.1
    rw [miss_s hT.2.2.1 (by omega), hT.2.2.2.2.1, if_pos rfl, if_neg (nI_pos (by omega))]
    obtain ⟨res, P1, P2, e1, e2, e3, e4, e5⟩ := read_both hT
    rw [e1, e2]
    simp only [Option.bind_some]
    by_cases q : res = -9
    · right
      obtain ⟨p', w', hR⟩ := e5 q
      obtain ⟨-, -, h5, -, hr, hok, hw1, hoff⟩ := hR
      have hn := hok.1
      obtain ⟨N1, t1, t2, t3, t4⟩ := take_wd hok h5 hoff
      rw [if_pos q, if_pos q, t1]
      simp only [Option.bind_some, forget_eq]
      have l1 : ∀ X : tr_M, tr_loop mX7_world_l55 (0, X) = some (tr_row X 8 (cp (X.1 8) (X.1 10) 100)) := fun X => by
        refine tr_loop_seq' (fun i => (nI i, tr_row X 8 (cp (X.1 8) (X.1 10) i))) 100 ?_ (by decide) (fun i hi => ?_) ?_
        · show (nI 0, tr_row X 8 (cp (X.1 8) (X.1 10) 0)) = _
          rw [cp_0, tr_row_id rfl]
          rfl
        · unfold mX7_world_l55
          dsimp only
          have c1 : nI i < (100 : Int32) := by rw [show (100 : Int32) = nI 100 from rfl]; exact (nlt (by omega) (by decide)).mpr hi
          rw [if_pos c1, tr_rd_nI hi (by decide), Option.bind_some, tr_wr_nI hi (by decide), Option.bind_some, tr_row_st, nadd1, tr_row_ne (by decide), ← cp_s]
        · unfold mX7_world_l55
          dsimp only
          rw [if_neg (show ¬ nI 100 < (100 : Int32) by decide)]
      have l2 : ∀ X : tr_M, tr_loop mX7_world_l81 (0, X) = some (X.1 1 10, tr_row X 9 (cp (X.1 9) (X.1 11) 40)) := fun X => by
        refine tr_loop_seq' (fun i => (nI i, tr_row X 9 (cp (X.1 9) (X.1 11) i))) 40 ?_ (by decide) (fun i hi => ?_) ?_
        · show (nI 0, tr_row X 9 (cp (X.1 9) (X.1 11) 0)) = _
          rw [cp_0, tr_row_id rfl]
          rfl
        · unfold mX7_world_l81
          dsimp only
          have c1 : nI i < (40 : Int32) := by rw [show (40 : Int32) = nI 40 from rfl]; exact (nlt (by omega) (by decide)).mpr hi
          rw [if_pos c1, tr_rd_nI hi (by decide), Option.bind_some, tr_wr_nI hi (by decide), Option.bind_some, tr_row_st, nadd1, tr_row_ne (by decide), ← cp_s]
        · unfold mX7_world_l81
          dsimp only
          rw [if_neg (show ¬ nI 40 < (40 : Int32) by decide), tr_row_ne (by decide)]
      rw [l1]
      dsimp only [Option.bind_some]
      rw [l2]
      obtain ⟨g1, g2, g3, g4⟩ := hr
      have hres1 : (tr_st (tr_st N1 1 15 (-9)) 1 16 (nI 0)).1 26 0 = nI w'.1 := by rw [tr_st_ne (by decide), tr_st_ne (by decide)]; exact t2.1
      have hX10 : (tr_row (tr_st (tr_st P2 1 10 (P2.1 1 16)) 1 12 ((tr_st P2 1 10 (P2.1 1 16)).1 1 17)) 8 (cp ((tr_st (tr_st P2 1 10 (P2.1 1 16)) 1 12 ((tr_st P2 1 10 (P2.1 1 16)).1 1 17)).1 8) ((tr_st (tr_st P2 1 10 (P2.1 1 16)) 1 12 ((tr_st P2 1 10 (P2.1 1 16)).1 1 17)).1 10) 100)).1 1 10 = nI w'.1 := by
        rw [tr_row_ne (by decide), tr_st_j (by decide), tr_st_s]; exact g1
      rw [hres1, hX10]
      refine ⟨_, _, _, rfl, rfl, ?_, ⟨w', hok, ?_, ⟨?_, ?_, fun a c ha hc => ?_, fun k hk => ?_⟩⟩, ?_, ?_, ?_⟩
      · refine (h.kb e3 e4).congr (fun c _ _ _ _ _ => ?_) (fun k hk => ?_) t4 (fun c h1 h2 _ => ?_) (fun k hk => ?_) (fun k hk => rfl)
        · rw [tr_st_ne (by omega), tr_st_ne (by omega), t3 c (by omega)]
        · rw [tr_st_j (by omega), tr_st_j (by omega), t3 1 (by omega)]
        · rw [tr_row_ne (by omega), tr_row_ne (by omega), tr_st_ne (by omega), tr_st_ne (by omega)]
        · rw [tr_row_ne (by omega), tr_row_ne (by omega), tr_st_j (by omega), tr_st_j (by omega)]
      · exact t2.congr fun c h1 h2 => by rw [tr_st_ne (by omega), tr_st_ne (by omega)]
      · rw [tr_row_ne (by decide)]; exact hX10
      · rw [tr_row_ne (by decide), tr_row_ne (by decide), tr_st_s, tr_st_j (by decide)]; exact g2
      · rw [tr_row_ne (by decide), tr_row_s, cp_in (by omega), tr_st_ne (by decide), tr_st_ne (by decide)]; exact g3 a c ha hc
      · have h8 := hok.2.2.2.2.1
        have hz : ∀ j, j < 40 → (tr_row (tr_row (tr_st (tr_st P2 1 10 (P2.1 1 16)) 1 12 ((tr_st P2 1 10 (P2.1 1 16)).1 1 17)) 8 (cp ((tr_st (tr_st P2 1 10 (P2.1 1 16)) 1 12 ((tr_st P2 1 10 (P2.1 1 16)).1 1 17)).1 8) ((tr_st (tr_st P2 1 10 (P2.1 1 16)) 1 12 ((tr_st P2 1 10 (P2.1 1 16)).1 1 17)).1 10) 100)) 9 (cp ((tr_row (tr_st (tr_st P2 1 10 (P2.1 1 16)) 1 12 ((tr_st P2 1 10 (P2.1 1 16)).1 1 17)) 8 (cp ((tr_st (tr_st P2 1 10 (P2.1 1 16)) 1 12 ((tr_st P2 1 10 (P2.1 1 16)).1 1 17)).1 8) ((tr_st (tr_st P2 1 10 (P2.1 1 16)) 1 12 ((tr_st P2 1 10 (P2.1 1 16)).1 1 17)).1 10) 100)).1 9) ((tr_row (tr_st (tr_st P2 1 10 (P2.1 1 16)) 1 12 ((tr_st P2 1 10 (P2.1 1 16)).1 1 17)) 8 (cp ((tr_st (tr_st P2 1 10 (P2.1 1 16)) 1 12 ((tr_st P2 1 10 (P2.1 1 16)).1 1 17)).1 8) ((tr_st (tr_st P2 1 10 (P2.1 1 16)) 1 12 ((tr_st P2 1 10 (P2.1 1 16)).1 1 17)).1 10) 100)).1 11) 40)).1 9 j = P2.1 11 j := fun j hj => by
          rw [tr_row_s, cp_in hj, tr_row_ne (by decide), tr_st_ne (by decide), tr_st_ne (by decide)]
        obtain ⟨y1, y2, y3, y4, y5⟩ := g4 k hk
        rw [hz _ (by omega), hz _ (by omega), hz _ (by omega), hz _ (by omega), hz _ (by omega), hoff k]
        exact ⟨y1, y2, y3, y4, y5⟩
      · rw [tr_st_j (by decide), tr_st_s]
      · rw [tr_st_ne (by decide), tr_st_ne (by decide), t3 25 (by omega), e3.1 25 (by omega)]
      · rw [tr_row_ne (by decide), tr_row_ne (by decide), tr_st_j (by decide), tr_st_j (by decide)]
        exact e4.2.1 27 (by omega)
    · left
      rw [if_neg q, if_neg q]
      exact ⟨_, P1, P2, rfl, rfl, h.kb e3 e4, e3.kc, e4.km⟩
