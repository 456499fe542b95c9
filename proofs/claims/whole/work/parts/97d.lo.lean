theorem Lst.sr {w : Wd} {pin : Option (Nat × Nat)} {m : Nat} {N : tr_M} (h : Lst w pin m N) (hm : m ≠ 4) : SR w (nxW stC w pin) m N := by
  unfold Lst at h
  rw [if_neg hm] at h
  exact h
theorem Lst.of {w : Wd} {pin : Option (Nat × Nat)} {m : Nat} {N : tr_M} (h : SR w (nxW stC w pin) m N) (hm : m ≠ 4) : Lst w pin m N := by
  unfold Lst
  rw [if_neg hm]
  exact h
theorem Cc.ks {w : Wd} {pin : Option (Nat × Nat)} {m : Nat} {M N : tr_M} (h : Cc w pin m M) (hk : KS M N) (hL : Lst w pin m N) : Cc w pin m N := ⟨by rw [hk.1 1 (by decide)]; exact h.1, by rw [hk.1 1 (by decide)]; exact h.2.1, hL⟩
theorem lo_value {w : Wd} {pin : Option (Nat × Nat)} {m : Nat} {N : tr_M} (hok : WOk w) (hpo : pinOk w.1 pin) (h : Lst w pin m N) : mLO_value (rf m) N = some (nI (VL w pin m)) := by
  unfold mLO_value rf VL
  by_cases c : m = 4
  · unfold Lst at h
    rw [if_pos c] at h
    rw [if_pos c, if_pos c, if_neg (by decide), if_pos rfl]
    unfold mX2_value
    rw [h.2.1]
  · rw [if_neg c, if_neg c, if_pos rfl, value_eq (h.sr c), ms_C hok hpo]
theorem lo_number {w : Wd} {pin : Option (Nat × Nat)} {m : Nat} {N : tr_M} (hok : WOk w) (hpo : pinOk w.1 pin) (hw : CWd w 26 N) (h : Lst w pin m N) : ∃ P, mLO_number (rf m) N = some (nI (LL w pin m).length, P) ∧ Lst w pin m P ∧ KS N P := by
  unfold mLO_number rf LL
  by_cases c : m = 4
  · have h' := h
    unfold Lst at h'
    rw [if_pos c] at h'
    rw [if_pos c, if_pos c, if_neg (by decide), if_pos rfl]
    unfold mX2_number
    rw [h'.2.2.1]
    exact ⟨N, rfl, h, KS.rf⟩
  · obtain ⟨P, p1, p2, p3⟩ := number_eq hok hw (h.sr c)
    rw [if_neg c, if_neg c, if_pos rfl, p1, EL_C hok hpo]
    exact ⟨P, rfl, Lst.of p2 c, p3⟩
theorem lo_pick {w : Wd} {pin : Option (Nat × Nat)} {m k : Nat} {f : Nat → Nat} {N : tr_M} (hok : WOk w) (hpo : pinOk w.1 pin) (hw : CWd w 26 N) (h : Lst w pin m N) (hf : Ord w.1 f) (hk : (LL w pin m)[k]? = some (seg f 0 w.1)) : ∃ P, mLO_pick (rf m) (nI k) 59 N = some P ∧ Lst w pin m P ∧ HasF P 59 w.1 f ∧ KS N P := by
  unfold LL at hk
  unfold mLO_pick rf
  by_cases c : m = 4
  · have h' := h
    unfold Lst at h'
    rw [if_pos c] at h' hk
    rw [if_pos c, if_neg (by decide), if_pos rfl]
    obtain ⟨P, p1, p2, p3, p4⟩ := pickW_eq hok h'.1 hw h'.2 hf hk
    exact ⟨P, p1, h.cg fun c c1 c2 _ => p3 c (by omega) (by omega), p2, fun c hc => p3 c (by omega) (by omega), fun k _ => by rw [p3 25 (by decide) (by decide)], p4⟩
  · rw [if_neg c] at hk
    rw [← EL_C hok hpo] at hk
    obtain ⟨P, p1, p2, p3, p4⟩ := pickS_eq hok hw (h.sr c) hf hk
    rw [if_neg c, if_pos rfl]
    exact ⟨P, p1, Lst.of p2 c, p3, p4⟩
theorem lo_index {w : Wd} {pin : Option (Nat × Nat)} {m p : Nat} {f : Nat → Nat} {N : tr_M} (hok : WOk w) (hpo : pinOk w.1 pin) (hw : CWd w 26 N) (h : Lst w pin m N) (hf : Ord w.1 f) (hp : 61 < p) (hc : HasF N p w.1 f) (hl1 : w.1 ≤ tr_len shC p) (hl2 : tr_len shC p < 2147483648) : ∃ P, mLO_indexOf (rf m) p N = some (oix (ix (seg f 0 w.1) (LL w pin m)), P) ∧ Lst w pin m P ∧ KS N P := by
  unfold mLO_indexOf rf LL
  by_cases c : m = 4
  · have h' := h
    unfold Lst at h'
    rw [if_pos c] at h'
    rw [if_pos c, if_pos c, if_neg (by decide), if_pos rfl, indexW_eq hok h'.1 hw h'.2 hf hc hl1 hl2]
    exact ⟨N, rfl, h, KS.rf⟩
  · obtain ⟨P, p1, p2, p3⟩ := index_eq hok hw (h.sr c) hf hp hc hl1 hl2
    rw [if_neg c, if_neg c, if_pos rfl, p1, EL_C hok hpo]
    exact ⟨P, rfl, Lst.of p2 c, p3⟩
