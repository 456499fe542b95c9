theorem LL_mem {w : Wd} {pin : Option (Nat × Nat)} {m : Nat} {p : List Nat} (h : p ∈ LL w pin m) : p ∈ Al w pin ∧ vl w m p = VL w pin m := by
  rw [LL_vl] at h
  obtain ⟨h1, h2⟩ := List.mem_filter.mp h
  exact ⟨h1, of_decide_eq_true h2⟩
/-- a measure among its own least orders -/
theorem BV_same {w : Wd} (hok : WOk w) {m : Nat} (hne : Al w none ≠ []) : BV w m m = VL w none m ∧ BN w m m = (LL w none m).length := ⟨cv_all (LL_ne hok hne) (VL_le _ _ _) fun _ hp => (LL_mem hp).2, cn_all (LL_ne hok hne) (VL_le _ _ _) fun _ hp => (LL_mem hp).2⟩
theorem m_both {w : Wd} {m l : Nat} {N : tr_M} (hok : WOk w) (hm : MWd w N) (hp : PinX none N) (h4 : m ≤ 4) (hl : l ≤ 4) (hN : NT w none m N) (hne : Al w none ≠ []) : ∃ P, (Option.bind (show Option ((tr_M) ⊕ (Int32 × tr_M)) from if nI m = (4 : Int32) then some (.inl N) else if nI l = (4 : Int32) then some (.inl N) else Option.bind (mX7_bothBySets (nI m) (nI l) N) (fun c12 => some (.inr (c12.1, c12.2)))) (tr_el (fun (v11 : tr_M) => Option.bind (mX7_bothByLines (nI m) (nI l) v11) (fun c14 => some (c14.1, c14.2))))) = some (nI (BV w m l), tr_st P 1 2 (nI (BN w m l))) ∧ KX N P := by
  have e4 : ∀ x, x ≤ 4 → (nI x = (4 : Int32) ↔ x = 4) := fun x hx => by rw [show (4 : Int32) = nI 4 from rfl, neq (by omega) (by decide)]
  obtain ⟨P, p1, p2⟩ := bothLines_eq hok hm hp h4 hl hN.1
  by_cases c : m = 4
  · rw [if_pos ((e4 m h4).mpr c)]
    refine ⟨P, ?_, p2⟩
    show Option.bind (mX7_bothByLines (nI m) (nI l) N) _ = _
    rw [p1, Option.bind_some]
  · rw [if_neg (fun e => c ((e4 m h4).mp e))]
    by_cases d : l = 4
    · rw [if_pos ((e4 l hl).mpr d)]
      refine ⟨P, ?_, p2⟩
      show Option.bind (mX7_bothByLines (nI m) (nI l) N) _ = _
      rw [p1, Option.bind_some]
    · rw [if_neg (fun e => d ((e4 l hl).mp e))]
      obtain ⟨Q, q1, q2⟩ := bothSets_eq hok hm hp (show m < 4 by omega) (show l < 4 by omega) (hN.2.2 c).1 hne
      refine ⟨Q, ?_, q2⟩
      rw [q1, Option.bind_some]
      rfl
/-- the walk among the least orders of another measure -/
theorem walked2_eq {w : Wd} {m : Nat} {M : tr_M} (hok : WOk w) (h8 : w.1 ≤ 8) (h4 : m ≠ 4) (hw : CWd w 26 M) (hS : SR w (nxW stC w none) m M) (hne : Al w none ≠ []) : ∃ N, mX6_walked M = some (24, N) ∧ KS M N ∧ SR w (nxW stC w none) m N ∧ N.1 24 4 = nI (BV w m 4) ∧ N.1 24 3 = nI (BN w m 4) := by
  obtain ⟨F, f1, f2, f3, f4, f5, -, f6⟩ := hS.fill hok hw
  obtain ⟨N, n1, n2, n3⟩ := go_eq hok h8 (Gd_fresh (m := m) hS.2.2.1) (hw.ks f6) f4
  have e : ext (Gd w (nxW stC w none) m) w.1 w.1 0 10 = LL w none m := by
    unfold LL
    rw [if_neg h4, ← EL_C (pin := none) hok trivial]
    rfl
  rw [e] at n2
  have hv : vl w 4 = lgv w := funext fun p => rfl
  have e2 : lm TP ((LL w none m).map (lgv w)) = BV w m 4 := by
    unfold BV cv
    rw [hv]
    exact lm_TN (fun z => LL_ne (m := m) hok hne (List.map_eq_nil_iff.mp z)) fun x hx => by
      obtain ⟨p, -, rfl⟩ := List.mem_map.mp hx
      exact lgv_lt hok
  have e3 : (fll w (LL w none m)).length = BN w m 4 := by
    unfold fll BN cn
    rw [e2, hv]
    rfl
  unfold WS at n2
  rw [e2, e3] at n2
  unfold mX6_walked
  rw [f1, Option.bind_some, n1, Option.bind_some]
  exact ⟨N, rfl, f6.tr n3.ks, f2.cg fun c hc => n3.1 c (by omega) (by omega) (by omega), n2.1, n2.2.1⟩
theorem within2_eq {w : Wd} {m l : Nat} (hok : WOk w) (h4 : m ≠ 4) (hl : l ≠ 4) : ms (Gd w (nxW stC w none) m) w.1 (adN l) (gN w l) 0 10 = BV w m l ∧ (EL w (Gd w (nxW stC w none) m) l).length = BN w m l := by
  have e : ext (Gd w (nxW stC w none) m) w.1 w.1 0 10 = LL w none m := by
    unfold LL
    rw [if_neg h4, ← EL_C (pin := none) hok trivial]
    rfl
  have hv : vl w l = cost (adN l) (gN w l) 0 := funext fun p => by
    unfold vl
    rw [if_neg hl]
    rfl
  have e1 : ms (Gd w (nxW stC w none) m) w.1 (adN l) (gN w l) 0 10 = BV w m l := by
    rw [ms_eq (lft_0 w.1)]
    unfold mv BV cv
    rw [e, hv]
  refine ⟨e1, ?_⟩
  have hf : Fresh (Gd w (nxW stC w none) m) w.1 := Gd_fresh (nxW_fresh stC w none)
  unfold EL
  have := ext_least (ad := adN l) (g := gN w l) (l := 10) hf hok.1 (gN_le hok l)
  unfold Gd at this ⊢
  rw [this]
  unfold Gd at e1 e
  rw [e1, e]
  unfold BN cn
  rw [hv]
  congr 2
  unfold BV
  rw [hv]
theorem c_both {w : Wd} {m l : Nat} {N : tr_M} (hok : WOk w) (hw : CWd w 26 N) (h4 : m ≤ 4) (hl : l ≤ 4) (hc : Cc w none m N) (hne : Al w none ≠ []) (hsl : ¬ spent w l) : ∃ P, (if nI m = nI l then Option.bind (mLO_number (rf m) N) (fun c11 => Option.bind (some (tr_st c11.2 1 12 c11.1)) (fun M13 => Option.bind (mLO_value (rf m) M13) (fun c15 => some (c15, M13)))) else if nI m = (4 : Int32) then Option.bind (mX2_compare (nI l) N) (fun c17 => Option.bind (some (tr_st c17 1 12 (c17.1 24 6))) (fun M19 => some ((M19.1 24 5), M19))) else Option.bind (show Option (Nat × tr_M) from if nI l = (4 : Int32) then Option.bind (mX6_walked N) (fun c22 => some (c22.1, c22.2)) else Option.bind (mX6_solvedWithin (nI l) N) (fun c24 => some (c24.1, c24.2))) (fun (v21 : Nat × tr_M) => Option.bind (mLO_number v21.1 v21.2) (fun c26 => Option.bind (some (tr_st c26.2 1 12 c26.1)) (fun M28 => Option.bind (mLO_value v21.1 M28) (fun c30 => some (c30, M28)))))) = some (nI (BV w m l), tr_st P 1 12 (nI (BN w m l))) ∧ KL N P ∧ Cch w none P := by
  have hn := hok.1
  have e4 : ∀ x, x ≤ 4 → (nI x = (4 : Int32) ↔ x = 4) := fun x hx => by rw [show (4 : Int32) = nI 4 from rfl, neq (by omega) (by decide)]
  by_cases a : m = l
  · subst a
    obtain ⟨b1, b2⟩ := BV_same (m := m) hok hne
    obtain ⟨P, p1, p2, p3⟩ := lo_number (pin := none) hok trivial hw hc.2.2
    have hLA : Lst w none m (tr_st P 1 12 (nI (LL w none m).length)) := p2.cg fun c c1 c2 _ => tr_st_ne (by omega)
    rw [if_pos rfl, p1, Option.bind_some, Option.bind_some, lo_value (pin := none) hok trivial hLA, Option.bind_some, b1, b2]
    exact ⟨P, rfl, p3.kl, (hc.ks p3 p2).cch (by omega) hne⟩
  · rw [if_neg (by rw [neq (by omega) (by omega)]; exact a)]
    by_cases b : m = 4
    · subst b
      have hL := hc.2.2
      unfold Lst at hL
      rw [if_pos rfl] at hL
      have hLL : LL w none 4 = LQ w none := rfl
      obtain ⟨P, p1, p2, p3, p4, p5, p6⟩ := compare_eq (l := l) hok hL.1 hw hL.2 hl (by rw [← hLL]; exact LL_ne hok hne)
      rw [if_pos ((e4 4 (by decide)).mpr rfl), p1, Option.bind_some, Option.bind_some, p3, tr_st_ne (by decide), p2]
      refine ⟨P, rfl, ⟨fun c c1 hc => p4 c (by omega) (by omega), fun k _ _ => by rw [p4 1 (by decide) (by decide)], fun k _ => by rw [p4 25 (by decide) (by decide)], p6⟩, ?_⟩
      have hLP : Lst w none 4 P := by
        unfold Lst
        rw [if_pos rfl]
        exact ⟨hL.1, hL.2.cg (p5 3 (by decide) (by decide)) (p5 4 (by decide) (by decide)) (p4 54 (by decide) (by decide))⟩
      exact Cc.cch ⟨by rw [p4 1 (by decide) (by decide)]; exact hc.1, by rw [p4 1 (by decide) (by decide)]; exact hc.2.1, hLP⟩ (by decide) hne
    · rw [if_neg (fun e => b ((e4 m h4).mp e))]
      have hS := hc.2.2.sr b
      by_cases d : l = 4
      · subst d
        have h8 : w.1 ≤ 8 := Nat.le_of_not_lt fun h => hsl ⟨rfl, h⟩
        obtain ⟨P, p1, p2, p3, p4, p5⟩ := walked2_eq hok h8 b hw hS hne
        have hnum : mLO_number 24 P = some (nI (BN w m 4), P) := by
          unfold mLO_number mX2_number
          rw [if_neg (by decide), if_pos rfl, p5]
        have hval : mLO_value 24 (tr_st P 1 12 (nI (BN w m 4))) = some (nI (BV w m 4)) := by
          unfold mLO_value mX2_value
          rw [if_neg (by decide), if_pos rfl, tr_st_ne (by decide), p4]
        rw [if_pos ((e4 4 (by decide)).mpr rfl), p1, Option.bind_some, Option.bind_some]
        dsimp only
        rw [hnum, Option.bind_some, Option.bind_some, hval, Option.bind_some]
        exact ⟨P, rfl, p2.kl, (hc.ks p2 (Lst.of p3 b)).cch (by omega) hne⟩
      · rw [if_neg (fun e => d ((e4 l hl).mp e))]
        obtain ⟨W, w1, w2, w3⟩ := within_eq (m2 := l) hok hw hS (by omega)
        obtain ⟨v1, v2⟩ := within2_eq (w := w) hok b d
        have e1 : mX6_solvedWithin (nI l) N = some (25, tr_st (tr_st W 1 15 (-9)) 1 16 (nI 0)) := by
          unfold mX6_solvedWithin
          rw [w1, Option.bind_some, forget_eq, Option.bind_some]
        have kW : KL N (tr_st (tr_st W 1 15 (-9)) 1 16 (nI 0)) := (w2.kl.tr (KL.st (Or.inl rfl))).tr (KL.st (Or.inr rfl))
        have hSW : SR w (Gd w (nxW stC w none) m) l (tr_st (tr_st W 1 15 (-9)) 1 16 (nI 0)) := w3.cg fun c hc => by rw [tr_st_ne (by omega), tr_st_ne (by omega)]
        have h15 : (tr_st (tr_st W 1 15 (-9)) 1 16 (nI 0)).1 1 15 = -9 := by rw [tr_st_j (by decide), tr_st_s]
        obtain ⟨P, p1, p2, p3⟩ := number_eq hok (hw.kl kW) hSW
        rw [v2] at p1
        have hnum : mLO_number 25 (tr_st (tr_st W 1 15 (-9)) 1 16 (nI 0)) = some (nI (BN w m l), P) := by
          unfold mLO_number
          rw [if_pos rfl, p1]
        have hval : mLO_value 25 (tr_st P 1 12 (nI (BN w m l))) = some (nI (BV w m l)) := by
          unfold mLO_value
          rw [if_pos rfl, value_eq (p2.cg fun c hc => tr_st_ne (by omega)), v1]
        rw [e1, Option.bind_some, Option.bind_some]
        dsimp only
        rw [hnum, Option.bind_some, Option.bind_some, hval, Option.bind_some]
        exact ⟨P, rfl, kW.tr p3.kl, Or.inl (by rw [p3.1 1 (by decide)]; exact h15)⟩
theorem r_both {w : Wd} {M1 M2 : tr_M} (h : InvE w M1 M2) (p1 p2 : Int32) : ResE w (mX6_both p1 p2 M1) (mX7_both p1 p2 M2) := by
  unfold mX6_both mX7_both
  rcases isMeasure_cases p1 with ⟨i1, i2⟩ | ⟨m, hm, rfl, i1, i2⟩
  · rw [i1, i2, if_pos rfl, Option.bind_some, if_pos rfl]
    exact ResE.same h
  rw [i1, i2, if_neg (show ¬ (1 : Int32) = 0 by decide), Option.bind_some, if_neg (show ¬ (1 : Int32) = 0 by decide)]
  rcases isMeasure_cases p2 with ⟨j1, j2⟩ | ⟨l, hl, rfl, j1, j2⟩
  · rw [j1, j2, if_pos rfl, Option.bind_some, if_pos rfl]
    exact ResE.same h
  rw [j1, j2, if_neg (show ¬ (1 : Int32) = 0 by decide), Option.bind_some, if_neg (show ¬ (1 : Int32) = 0 by decide)]
  have hI := h
  obtain ⟨h1, ⟨hok, hw, hmw⟩, h3, h4, h5⟩ := h
  rcases isSpent_eq hok hw.1 (show l ≤ 5 by omega) with ⟨s1, s2⟩ | ⟨s1, s2⟩
  · rcases tooLong_eq hok hmw.1 hl with ⟨-, t⟩ | ⟨t, -⟩
    · rw [s2, t, if_neg (show ¬ (1 : Int32) = 0 by decide), if_neg (show ¬ (1 : Int32) = 0 by decide)]
      split
      · exact ResE.same hI
      · exact ResE.same hI
    · exact absurd s1 t
  rcases tooLong_eq hok hmw.1 hl with ⟨t, -⟩ | ⟨-, t⟩
  · exact absurd t s1
  rw [s2, t, if_pos rfl, if_pos rfl]
  have main := need_call hI hm (F1 := fun q N => if nI m = nI l then Option.bind (mLO_number q N) (fun c11 => Option.bind (some (tr_st c11.2 1 12 c11.1)) (fun M13 => Option.bind (mLO_value q M13) (fun c15 => some (c15, M13)))) else if nI m = (4 : Int32) then Option.bind (mX2_compare (nI l) N) (fun c17 => Option.bind (some (tr_st c17 1 12 (c17.1 24 6))) (fun M19 => some ((M19.1 24 5), M19))) else Option.bind (show Option (Nat × tr_M) from if nI l = (4 : Int32) then Option.bind (mX6_walked N) (fun c22 => some (c22.1, c22.2)) else Option.bind (mX6_solvedWithin (nI l) N) (fun c24 => some (c24.1, c24.2))) (fun (v21 : Nat × tr_M) => Option.bind (mLO_number v21.1 v21.2) (fun c26 => Option.bind (some (tr_st c26.2 1 12 c26.1)) (fun M28 => Option.bind (mLO_value v21.1 M28) (fun c30 => some (c30, M28)))))) (F2 := fun N => Option.bind (show Option ((tr_M) ⊕ (Int32 × tr_M)) from if nI m = (4 : Int32) then some (.inl N) else if nI l = (4 : Int32) then some (.inl N) else Option.bind (mX7_bothBySets (nI m) (nI l) N) (fun c12 => some (.inr (c12.1, c12.2)))) (tr_el (fun (v11 : tr_M) => Option.bind (mX7_bothByLines (nI m) (nI l) v11) (fun c14 => some (c14.1, c14.2))))) (fun N1 N2 _ _ hI hc hN hne _ => by
    obtain ⟨P, a1, a2, a3⟩ := c_both hI.2.1.1 hI.2.1.2.1 hm hl hc hne s1
    obtain ⟨Q, b1, b2⟩ := m_both hI.2.1.1 hI.2.1.2.2 hI.2.2.2.2 hm hl hN hne
    exact ⟨_, _, _, a1, b1, (hI.kl a2 b2 a3).ask (m := m) _⟩)
  rcases tooLong_eq hok hmw.1 hm with ⟨u, v⟩ | ⟨-, v⟩
  · rw [v, if_neg (show ¬ (1 : Int32) = 0 by decide)]
    rcases needLeast_eq (pin := none) hok hmw h5 trivial hm with ⟨-, n⟩ | ⟨n, -⟩
    · rw [n, Option.bind_some, if_pos (show (-6 : Int32) < 0 by decide)] at main
      exact main
    · exact absurd u n
  · rw [v, if_pos rfl]
    exact main
