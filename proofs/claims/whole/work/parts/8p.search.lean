def KS (M N : tr_M) : Prop := (∀ c, c < 24 ∨ 61 < c ∨ (25 < c ∧ c < 44) ∨ c = 57 → N.1 c = M.1 c) ∧ (∀ k, 12 < k → N.1 25 k = M.1 25 k) ∧ N.2 = M.2
theorem KS.rf {M : tr_M} : KS M M := ⟨fun _ _ => rfl, fun _ _ => rfl, rfl⟩
theorem KS.tr {M N P : tr_M} (h : KS M N) (g : KS N P) : KS M P := ⟨fun c hc => (g.1 c hc).trans (h.1 c hc), fun k hk => (g.2.1 k hk).trans (h.2.1 k hk), g.2.2.trans h.2.2⟩
theorem SC.ks {M N : tr_M} (h : SC M N) : KS M N := ⟨fun c hc => h.1 c (by omega) (by omega) (by omega) (by omega), fun k hk => by rw [h.1 25 (by omega) (by omega) (by omega) (by omega)], h.2⟩
theorem CWd.ks {w : Wd} {M N : tr_M} (h : CWd w 26 M) (hs : KS M N) : CWd w 26 N := h.congr fun b h1 h2 => hs.1 b (by omega)
theorem PinM.ks {pin : Option (Nat × Nat)} {M N : tr_M} (h : PinM pin M) (hs : KS M N) : PinM pin N := by
  cases pin with
  | none => show N.1 25 13 = -9; rw [hs.2.1 13 (by decide)]; exact h
  | some p =>
    obtain ⟨h1, h2, h3⟩ := h
    exact ⟨by rw [hs.2.1 13 (by decide)]; exact h1, by rw [hs.2.1 14 (by decide)]; exact h2, h3⟩
theorem ITF.ks {M1 M2 N1 : tr_M} (h : ITF M1 M2) (h1 : KS M1 N1) : ITF N1 M2 := h.congr (fun c _ _ _ _ _ => h1.1 c (by omega)) (fun k _ => by rw [h1.1 1 (by omega)]) h1.2.2 (fun _ _ _ _ => rfl) (fun _ _ => rfl) (fun _ _ => rfl)
/-- who comes next on a least way -/
def Gd (w : Wd) (nx : Rl) (m : Nat) : Rl := gd nx w.1 (adN m) (gN w m) (ms nx w.1 (adN m) (gN w m) 0 10)
theorem Gd_fresh {w : Wd} {nx : Rl} {m : Nat} (h : Fresh nx w.1) : Fresh (Gd w nx m) w.1 := gd_fresh h
/-- the search stands solved -/
def SR (w : Wd) (nx : Rl) (m : Nat) (N : tr_M) : Prop := SV w nx m N ∧ ms nx w.1 (adN m) (gN w m) 0 10 < NV ∧ Fresh nx w.1 ∧ ((N.1 25 12 = 0 ∧ NX w.1 nx N) ∨ (N.1 25 12 = 1 ∧ LG w.1 (Gd w nx m) N))
theorem LG.cg {n : Nat} {G : Rl} {M N : tr_M} (h : LG n G M) (h49 : N.1 49 = M.1 49) (h50 : N.1 50 = M.1 50) : LG n G N := fun s l hst => by rw [h49, h50]; exact h s l hst
theorem SV.cg {w : Wd} {nx : Rl} {m : Nat} {M N : tr_M} (h : SV w nx m M) (h48 : N.1 48 = M.1 48) (h45 : N.1 45 = M.1 45) (h11 : N.1 25 11 = M.1 25 11) : SV w nx m N := ⟨fun s l hst => by rw [h48]; exact h.1 s l hst, fun s hs => by rw [h45]; exact h.2.1 s hs, by rw [h11]; exact h.2.2⟩
theorem SR.cg {w : Wd} {nx : Rl} {m : Nat} {M N : tr_M} (h : SR w nx m M) (hN : ∀ c, c = 25 ∨ (45 ≤ c ∧ c ≤ 50) → N.1 c = M.1 c) : SR w nx m N := by
  obtain ⟨h1, h2, h3, h4⟩ := h
  refine ⟨h1.cg (hN 48 (by decide)) (hN 45 (by decide)) (by rw [hN 25 (by decide)]), h2, h3, ?_⟩
  rcases h4 with ⟨a, b⟩ | ⟨a, b⟩
  · exact Or.inl ⟨by rw [hN 25 (by decide)]; exact a, b.cg (by rw [hN 25 (by decide)]) (hN 46 (by decide)) (hN 47 (by decide)) (hN 49 (by decide))⟩
  · exact Or.inr ⟨by rw [hN 25 (by decide)]; exact a, b.cg (hN 49 (by decide)) (hN 50 (by decide))⟩
theorem SR.fill {w : Wd} {nx : Rl} {m : Nat} {M : tr_M} (hok : WOk w) (hw : CWd w 26 M) (h : SR w nx m M) : ∃ N, mX4_fillLeast M = some N ∧ SR w nx m N ∧ N.1 25 12 = 1 ∧ LG w.1 (Gd w nx m) N ∧ (∀ c, c ≠ 25 → c ≠ 49 → c ≠ 50 → N.1 c = M.1 c) ∧ (∀ k, k ≠ 12 → N.1 25 k = M.1 25 k) ∧ KS M N := by
  obtain ⟨h1, h2, h3, h4⟩ := h
  rcases h4 with ⟨a, b⟩ | ⟨a, b⟩
  · obtain ⟨N, n1, n2, n3, n4, n5, n6, n7⟩ := fillLeast_eq hok hw h3 b h1 a h2
    exact ⟨N, n1, ⟨n3, h2, h3, Or.inr ⟨n4, n2⟩⟩, n4, n2, n6, n5, fun c hc => n6 c (by omega) (by omega) (by omega), fun k hk => n5 k (by omega), n7⟩
  · refine ⟨M, ?_, ⟨h1, h2, h3, Or.inr ⟨a, b⟩⟩, a, b, fun _ _ _ _ => rfl, fun _ _ => rfl, KS.rf⟩
    unfold mX4_fillLeast
    rw [a, if_neg (by decide)]
/-- the orders of a solved search -/
def EL (w : Wd) (nx : Rl) (m : Nat) : List (List Nat) := ext (Gd w nx m) w.1 w.1 0 10
theorem EL_len {w : Wd} {nx : Rl} {m : Nat} (hok : WOk w) (h : Fresh nx w.1) : (EL w nx m).length ≤ 3628800 := by
  have := nm_le (G := Gd w nx m) (n := w.1) (s := 0) (l := 10) (Gd_fresh h) hok.1
  unfold nm at this
  rw [lft_0] at this
  exact this
theorem number_eq {w : Wd} {nx : Rl} {m : Nat} {M : tr_M} (hok : WOk w) (hw : CWd w 26 M) (h : SR w nx m M) : ∃ N, mX4_number M = some (nI (EL w nx m).length, N) ∧ SR w nx m N ∧ KS M N := by
  obtain ⟨N, n1, n2, n3, n4, n5, -, n6⟩ := h.fill hok hw
  refine ⟨N, ?_, n2, n6⟩
  unfold mX4_number
  have h0 := (n4 0 0 ⟨Nat.two_pow_pos _, Or.inl ⟨rfl, rfl⟩⟩).2
  rw [n1, Option.bind_some, n00, tr_rd_nI (by decide) (by decide), Option.bind_some, h0]
  unfold nm EL
  rw [lft_0]
  rfl
theorem pickS_eq {w : Wd} {nx : Rl} {m k : Nat} {f : Nat → Nat} {M : tr_M} (hok : WOk w) (hw : CWd w 26 M) (h : SR w nx m M) (hf : Ord w.1 f) (hk : (EL w nx m)[k]? = some (seg f 0 w.1)) : ∃ N, mX4_pick (nI k) 59 M = some N ∧ SR w nx m N ∧ HasF N 59 w.1 f ∧ KS M N := by
  obtain ⟨N, n1, n2, n3, n4, n5, -, n6⟩ := h.fill hok hw
  unfold mX4_pick
  rw [n1, Option.bind_some, pick_loop hok.1 (hw.ks n6).1 (Gd_fresh h.2.2.1) hf n4 rfl (by decide) hk]
  refine ⟨_, rfl, n2.cg fun c hc => tr_row_ne (by omega), fun i hi => ?_, n6.tr ⟨fun c hc => tr_row_ne (by omega), fun k _ => by rw [tr_row_ne (by decide)], rfl⟩⟩
  rw [tr_row_s]
  exact cp_in hi
theorem index_eq {w : Wd} {nx : Rl} {m p : Nat} {f : Nat → Nat} {M : tr_M} (hok : WOk w) (hw : CWd w 26 M) (h : SR w nx m M) (hf : Ord w.1 f) (hp : 61 < p) (hc : HasF M p w.1 f) (hl1 : w.1 ≤ tr_len shC p) (hl2 : tr_len shC p < 2147483648) : ∃ N, mX4_indexOf p M = some (oix (ix (seg f 0 w.1) (EL w nx m)), N) ∧ SR w nx m N ∧ KS M N := by
  obtain ⟨N, n1, n2, n3, n4, n5, -, n6⟩ := h.fill hok hw
  unfold mX4_indexOf
  rw [n1, Option.bind_some, index_loop hok.1 (hw.ks n6).1 (Gd_fresh h.2.2.1) hf n4 (fun i hi => by rw [n6.1 p (by omega)]; exact hc i hi) hl1 hl2]
  exact ⟨N, rfl, n2, n6⟩
theorem SR.come {w : Wd} {nx : Rl} {m : Nat} {M : tr_M} (hok : WOk w) (hw : CWd w 26 M) (h : SR w nx m M) : ∃ N, mX4_fillComing M = some N ∧ SR w nx m N ∧ LG w.1 (Gd w nx m) N ∧ (∀ s l, St w.1 s l → N.1 51 (s * 10 + l) = nI (cN (Gd w nx m) w.1 s l)) ∧ N.1 61 = M.1 61 ∧ KS M N := by
  obtain ⟨N, n1, n2, n3, n4, n5, -, n6⟩ := h.fill hok hw
  obtain ⟨P, p1, p2, p3, p4⟩ := coming_eq hok.1 n1 (hw.ks n6).1 (Gd_fresh h.2.2.1) n4
  refine ⟨P, p1, n2.cg fun c hc => p3 c (by omega), n4.cg (p3 49 (by decide)) (p3 50 (by decide)), p2, by rw [p3 61 (by decide), n5 61 (by decide) (by decide) (by decide)], n6.tr ⟨fun c hc => p3 c (by omega), fun k _ => by rw [p3 25 (by decide)], p4⟩⟩
theorem spread_eq {w : Wd} {nx : Rl} {m a : Nat} {M : tr_M} (hok : WOk w) (hw : CWd w 26 M) (h : SR w nx m M) (ha : a < w.1) : ∃ N, mX4_spreadOf (nI a) 61 M = some N ∧ SR w nx m N ∧ (∀ i, i < 10 → N.1 61 i = nI (spr (Gd w nx m) w.1 a i)) ∧ KS M N := by
  unfold mX4_spreadOf
  rw [fillAll_eq (by decide) (by decide), Option.bind_some]
  generalize hD : tr_row M 61 (fl (M.1 61) 0 (tr_len shC 61) 0) = D
  have hDo : ∀ c, c ≠ 61 → D.1 c = M.1 c := fun c hc => by rw [← hD]; exact tr_row_ne hc
  have hD2 : D.2 = M.2 := by rw [← hD]; rfl
  have hkD : KS M D := ⟨fun c hc => hDo c (by omega), fun k _ => by rw [hDo 25 (by decide)], hD2⟩
  have hD6 : ∀ i, i < 10 → D.1 61 i = 0 := fun i hi => by
    rw [← hD, tr_row_s]
    exact fl_in (Nat.zero_le _) (by rw [show tr_len shC 61 = 10 from rfl]; omega)
  obtain ⟨N, n1, n2, n3, n4, n5, n6⟩ := (h.cg (N := D) fun c hc => hDo c (by omega)).come hok (hw.ks hkD)
  obtain ⟨P, p1, p2, p3, p4⟩ := spread_loop (n := w.1) (a := a) (G := Gd w nx m) (N := N) hok.1 (hw.ks (hkD.tr n6)).1 (Gd_fresh h.2.2.1) n3 n4 ha (fun i hi => by rw [n5]; exact hD6 i hi)
  rw [n1, Option.bind_some, p1]
  exact ⟨P, rfl, n2.cg fun c hc => p3 c (by omega), p2, (hkD.tr n6).tr ⟨fun c hc => p3 c (by omega), fun k _ => by rw [p3 25 (by decide)], p4⟩⟩
theorem ahead_eq {w : Wd} {nx : Rl} {m a b : Nat} {M : tr_M} (hok : WOk w) (hw : CWd w 26 M) (h : SR w nx m M) (ha : a < w.1) (hb : b < w.1) : ∃ N, mX4_numberAhead (nI a) (nI b) M = some (nI (ahd (Gd w nx m) w.1 a b), N) ∧ SR w nx m N ∧ KS M N := by
  obtain ⟨N, n1, n2, n3, n4, n5, n6⟩ := h.come hok hw
  unfold mX4_numberAhead
  rw [n1, Option.bind_some, ahead_loop hok.1 (hw.ks n6).1 (Gd_fresh h.2.2.1) n3 n4 ha hb]
  exact ⟨N, rfl, n2, n6⟩
theorem value_eq {w : Wd} {nx : Rl} {m : Nat} {M : tr_M} (h : SR w nx m M) : mX4_value M = some (nI (ms nx w.1 (adN m) (gN w m) 0 10)) := by
  unfold mX4_value
  have h0 := h.1.1 0 0 ⟨Nat.two_pow_pos _, Or.inl ⟨rfl, rfl⟩⟩
  rw [n00, tr_rd_nI (by decide) (by decide), Option.bind_some, h0]
  unfold bC
  rw [show ls 0 0 = 10 from rfl, if_pos h.2.1, gN_0, comb_0l]
theorem solve_eq {w : Wd} {pin : Option (Nat × Nat)} {m : Nat} {M : tr_M} (hok : WOk w) (hw : CWd w 26 M) (hp : PinM pin M) (hm : m < 4 ∨ m = 5) : ∃ N, KS M N ∧ ((mX4_solve (nI m) M = some (1, N) ∧ SR w (nxW stC w pin) m N) ∨ (mX4_solve (nI m) M = some (0, N) ∧ ¬ ms (nxW stC w pin) w.1 (adN m) (gN w m) 0 10 < NV)) := by
  have hf := nxW_fresh stC w pin
  unfold mX4_solve
  rw [Option.bind_some]
  have k0 : KS M (tr_st M 25 10 0) := ⟨fun c hc => tr_st_ne (by omega), fun k hk => tr_st_j (by omega), rfl⟩
  obtain ⟨N, n1, n2, n3, n4, n5⟩ := fillFitting_eq hok (hw.ks k0) (hp.ks k0)
  have k1 : KS M N := k0.tr ⟨fun c hc => n4 c (by omega) (by omega), fun k hk => by rw [n4 25 (by decide) (by decide)], n5⟩
  have hNX : NX w.1 (nxW stC w pin) N := nx_free hok (by rw [n4 25 (by decide) (by decide), tr_st_s]) n2 n3
  obtain ⟨P, p1, p2, p3, p4, p5, p6, p7, p8⟩ := fillBest_eq (m := m) hok (hw.ks k1) hm hf hNX
  have k2 : KS M P := k1.tr ⟨fun c hc => p7 c (by omega) (by omega) (by omega), fun k hk => p6 k (by omega) (by omega), p8⟩
  have h0 := p2 0 0 ⟨Nat.two_pow_pos _, Or.inl ⟨rfl, rfl⟩⟩
  rw [show ls 0 0 = 10 from rfl] at h0
  have hb := bC_lt (nx := nxW stC w pin) (n := w.1) (ad := adN m) (g := gN w m) hok.1 (gN_le hok m) 0 10
  have hle := bC_le (nx := nxW stC w pin) (n := w.1) (ad := adN m) (g := gN w m) hok.1 (gN_le hok m) 0 10
  refine ⟨P, k2, ?_⟩
  rw [n1, Option.bind_some, p1, Option.bind_some, n00, tr_rd_nI (by decide) (by decide), Option.bind_some, h0, ← n00]
  have c1 : (nI (bC (nxW stC w pin) w.1 (adN m) (gN w m) 0 10) < (268435456 : Int32)) ↔ bC (nxW stC w pin) w.1 (adN m) (gN w m) 0 10 < TP := by
    rw [show (268435456 : Int32) = nI TP from rfl]
    exact nlt (by unfold TP at hle; omega) (by decide)
  by_cases c : ms (nxW stC w pin) w.1 (adN m) (gN w m) 0 10 < NV
  · rw [if_pos (c1.mpr (hb.mpr c))]
    refine Or.inl ⟨rfl, ⟨p2, p3, p4⟩, c, hf, Or.inl ⟨p5, hNX.cg (p6 10 (by decide) (by decide)) (p7 46 (by decide) (by decide) (by decide)) (p7 47 (by decide) (by decide) (by decide)) (p7 49 (by decide) (by decide) (by decide))⟩⟩
  · rw [if_neg (fun q => c (hb.mp (c1.mp q)))]
    exact Or.inr ⟨rfl, c⟩
theorem within_eq {w : Wd} {nx : Rl} {m m2 : Nat} {M : tr_M} (hok : WOk w) (hw : CWd w 26 M) (h : SR w nx m M) (hm : m2 < 4) : ∃ N, mX4_solveWithin (nI m2) M = some N ∧ KS M N ∧ SR w (Gd w nx m) m2 N := by
  obtain ⟨N, n1, n2, n3, n4, n5, n7, n6⟩ := h.fill hok hw
  unfold mX4_solveWithin
  rw [n1, Option.bind_some, Option.bind_some]
  have hG := Gd_fresh (m := m) h.2.2.1
  have k0 : KS M (tr_st N 25 10 1) := n6.tr ⟨fun c hc => tr_st_ne (by omega), fun k hk => tr_st_j (by omega), rfl⟩
  have hNX : NX w.1 (Gd w nx m) (tr_st N 25 10 1) := fun s l hst => by
    unfold mX4_nextOf
    rw [tr_st_s, if_neg (by decide)]
    exact nextIn_eq hok.1 (n4.cg (tr_st_ne (by decide)) (tr_st_ne (by decide))) hst
  obtain ⟨P, p1, p2, p3, p4, p5, p6, p7, p8⟩ := fillBest_eq (m := m2) hok (hw.ks k0) (Or.inl hm) hG hNX
  rw [p1, Option.bind_some]
  refine ⟨P, rfl, k0.tr ⟨fun c hc => p7 c (by omega) (by omega) (by omega), fun k hk => p6 k (by omega) (by omega), p8⟩, ⟨p2, p3, p4⟩, ?_, hG, Or.inl ⟨p5, hNX.cg (p6 10 (by decide) (by decide)) (p7 46 (by decide) (by decide) (by decide)) (p7 47 (by decide) (by decide) (by decide)) (p7 49 (by decide) (by decide) (by decide))⟩⟩
  have hne : ext (Gd w nx m) w.1 w.1 0 10 ≠ [] := by
    have h2 := h.2.1
    have hne := h2
    rw [ms_eq (lft_0 w.1)] at hne
    obtain ⟨p, hp1, hp2⟩ := mv_get hne
    unfold Gd
    rw [ext_least h.2.2.1 hok.1 (gN_le hok m)]
    intro q
    have : p ∈ (ext nx w.1 w.1 0 10).filter (fun p => decide (cost (adN m) (gN w m) 0 p = ms nx w.1 (adN m) (gN w m) 0 10)) := by
      rw [List.mem_filter]
      refine ⟨hp1, ?_⟩
      rw [decide_eq_true_iff, hp2, ms_eq (lft_0 w.1)]
    rw [q] at this
    cases this
  rw [ms_eq (lft_0 w.1)]
  exact (mv_iff (gN_le hok m2) hok.1).mpr hne
