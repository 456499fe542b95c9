def SP (w : Wd) (pin : Option (Nat × Nat)) (m a i : Nat) : Nat := if m = 4 then lsp w.1 a i (LQ w pin) else spr (Gd w (nxW stC w pin) m) w.1 a i
def AH (w : Wd) (pin : Option (Nat × Nat)) (m a b : Nat) : Nat := if m = 4 then lah w.1 a b (LQ w pin) else ahd (Gd w (nxW stC w pin) m) w.1 a b
theorem ext_CM {w : Wd} (hok : WOk w) {pin : Option (Nat × Nat)} (hpo : pinOk w.1 pin) (m : Nat) : ext (Gd w (nxW stC w pin) m) w.1 w.1 0 10 = ext (Gd w (nxW stM w pin) m) w.1 w.1 0 10 := (EL_C hok hpo m).trans (EL_M hok hpo m).symm
theorem SP_le {w : Wd} (hok : WOk w) {pin : Option (Nat × Nat)} (m : Nat) {a : Nat} (ha : a < w.1) (i : Nat) : SP w pin m a i ≤ 3628800 := by
  unfold SP
  by_cases c : m = 4
  · rw [if_pos c]
    exact Nat.le_trans (List.length_filter_le _ _) (LQ_len hok pin)
  · rw [if_neg c]
    refine Nat.le_trans (spr_le (Gd_fresh (nxW_fresh _ _ _)) hok.1 ha i) (EL_len (m := m) hok (nxW_fresh stC w pin))
theorem lo_spread {w : Wd} {pin : Option (Nat × Nat)} {m a : Nat} {N : tr_M} (hok : WOk w) (hw : CWd w 26 N) (h : Lst w pin m N) (ha : a < w.1) : ∃ P, mLO_spreadOf (rf m) (nI a) 61 N = some P ∧ Lst w pin m P ∧ KS N P ∧ ∀ i, i < 10 → P.1 61 i = nI (SP w pin m a i) := by
  unfold mLO_spreadOf rf SP
  by_cases c : m = 4
  · have h' := h
    unfold Lst at h'
    rw [if_pos c] at h'
    obtain ⟨P, p1, p2, p3, p4⟩ := spreadW_eq hok h'.1 hw h'.2 ha
    rw [if_pos c, if_neg (by decide), if_pos rfl]
    refine ⟨P, p1, h.cg fun c c1 c2 _ => p3 c (by omega) (by omega) (by omega), ⟨fun c hc => p3 c (by omega) (by omega) (by omega), fun k _ => by rw [p3 25 (by decide) (by decide) (by decide)], p4⟩, fun i hi => ?_⟩
    rw [if_pos c]
    exact p2 i hi
  · obtain ⟨P, p1, p2, p3, p4⟩ := spread_eq hok hw (h.sr c) ha
    rw [if_neg c, if_pos rfl]
    refine ⟨P, p1, Lst.of p2 c, p4, fun i hi => ?_⟩
    rw [if_neg c]
    exact p3 i hi
theorem m_spread {w : Wd} {m a : Nat} {N : tr_M} (hok : WOk w) (hm : MWd w N) (hp : PinX none N) (h4 : m ≤ 4) (hN : NT w none m N) (ha : a < w.1) : ∃ P, mX7_layPlaceMany (nI m) (nI a) N = some P ∧ (∀ i, i < 10 → P.1 21 i = nI (SP w none m a i)) ∧ P.1 1 = N.1 1 ∧ KX N P := by
  unfold SP
  by_cases c : m = 4
  · subst c
    obtain ⟨P, p1, p2, p3, p4⟩ := lspread_eq (pin := none) hok hm hp trivial hN.1 ha
    refine ⟨P, p1, fun i hi => ?_, p3 1 (by decide) (by decide) (by decide), fun c _ _ _ => p3 c (by omega) (by omega) (by omega), fun k _ => by rw [p3 1 (by decide) (by decide) (by decide)], p4⟩
    rw [if_pos rfl]
    exact p2 i hi
  · obtain ⟨hB, hW⟩ := hN.2.2 c
    obtain ⟨P, p1, p2, p3, p4⟩ := mspread_eq (m := m) hok.1 hm.1 (Gd_fresh (nxW_fresh stM w none)) (by omega) hW (fun P hP s l x hst hx => isGood_eq hok (hm.congr (by rw [hP 1 (by decide) (by decide)]) (by rw [hP 1 (by decide) (by decide)]) (hP 8 (by decide) (by decide)) (hP 9 (by decide) (by decide))) (show PinX none P by unfold PinX; rw [hP 1 (by decide) (by decide)]; exact hp) (by omega) (hB.cg (hP 14 (by decide) (by decide)) (hP 16 (by decide) (by decide)) (by rw [hP 1 (by decide) (by decide)])) hst hx) ha
    refine ⟨P, p1, fun i hi => ?_, p3 1 (by decide) (by decide), fun c _ _ _ => p3 c (by omega) (by omega), fun k _ => by rw [p3 1 (by decide) (by decide)], p4⟩
    rw [if_neg c, p2 i hi, spr_ext (Gd_fresh (nxW_fresh stM w none)) (Gd_fresh (nxW_fresh stC w none)) hok.1 ha (ext_CM (pin := none) hok trivial m).symm]
theorem lo_ahead {w : Wd} {pin : Option (Nat × Nat)} {m a b : Nat} {N : tr_M} (hok : WOk w) (hw : CWd w 26 N) (h : Lst w pin m N) (ha : a < w.1) (hb : b < w.1) : ∃ P, mLO_numberAhead (rf m) (nI a) (nI b) N = some (nI (AH w pin m a b), P) ∧ Lst w pin m P ∧ KS N P := by
  unfold mLO_numberAhead rf AH
  by_cases c : m = 4
  · have h' := h
    unfold Lst at h'
    rw [if_pos c] at h'
    obtain ⟨P, p1, p3, p4⟩ := aheadW_eq hok h'.1 hw h'.2 ha hb
    rw [if_pos c, if_neg (by decide), if_pos rfl, if_pos c]
    exact ⟨P, p1, h.cg fun c c1 c2 _ => p3 c (by omega) (by omega), fun c hc => p3 c (by omega) (by omega), fun k _ => by rw [p3 25 (by decide) (by decide)], p4⟩
  · obtain ⟨P, p1, p2, p3⟩ := ahead_eq hok hw (h.sr c) ha hb
    rw [if_neg c, if_pos rfl, if_neg c]
    exact ⟨P, p1, Lst.of p2 c, p3⟩
theorem m_ahead {w : Wd} {m a b : Nat} {N : tr_M} (hok : WOk w) (hm : MWd w N) (hp : PinX none N) (h4 : m ≤ 4) (hN : NT w none m N) (ha : a < w.1) (hb : b < w.1) (hab : a ≠ b) : ∃ P, mX7_leadMany (nI m) (nI a) (nI b) N = some (nI (AH w none m a b), P) ∧ P.1 1 = N.1 1 ∧ KX N P := by
  unfold AH
  by_cases c : m = 4
  · subst c
    obtain ⟨P, p1, p3, p4⟩ := llead_eq (pin := none) hok hm hp trivial hN.1 ha hb
    rw [if_pos rfl]
    exact ⟨P, p1, p3 1 (by decide) (by decide), KX.of p3 p4⟩
  · obtain ⟨hB, hW⟩ := hN.2.2 c
    obtain ⟨P, p1, p3, p4⟩ := mahead_eq (m := m) hok.1 hm.1 (Gd_fresh (nxW_fresh stM w none)) (by omega) hW (fun P hP s l x hst hx => isGood_eq hok (hm.congr (by rw [hP 1 (by decide)]) (by rw [hP 1 (by decide)]) (hP 8 (by decide)) (hP 9 (by decide))) (show PinX none P by unfold PinX; rw [hP 1 (by decide)]; exact hp) (by omega) (hB.cg (hP 14 (by decide)) (hP 16 (by decide)) (by rw [hP 1 (by decide)])) hst hx) ha hb hab
    rw [if_neg c, ahd_ext (Gd_fresh (nxW_fresh stC w none)) (Gd_fresh (nxW_fresh stM w none)) hok.1 hb hab (ext_CM (pin := none) hok trivial m)]
    exact ⟨P, p1, p3 1 (by decide), KX.cell (a := 18) (by decide) (by decide) p3 p4⟩
