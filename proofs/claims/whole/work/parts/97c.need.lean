def VL (w : Wd) (pin : Option (Nat × Nat)) (m : Nat) : Nat := if m = 4 then LM w pin else VS w pin m
def LL (w : Wd) (pin : Option (Nat × Nat)) (m : Nat) : List (List Nat) := if m = 4 then LQ w pin else LSt w pin m
/-- what the model holds of least orders -/
def NT (w : Wd) (pin : Option (Nat × Nat)) (m : Nat) (N : tr_M) : Prop := N.1 1 29 = nI (VL w pin m) ∧ N.1 1 30 = nI (LL w pin m).length ∧ (m ≠ 4 → BT w (nxW stM w pin) m N ∧ WT w.1 (Gd w (nxW stM w pin) m) N)
theorem VL_lt {w : Wd} (hok : WOk w) {pin : Option (Nat × Nat)} (hpo : pinOk w.1 pin) (m : Nat) : VL w pin m < NV ↔ Al w pin ≠ [] := by
  unfold VL
  by_cases c : m = 4
  · rw [if_pos c]; exact LM_lt hok
  · rw [if_neg c]; exact VS_lt hok hpo m
theorem VL_le (w : Wd) (pin : Option (Nat × Nat)) (m : Nat) : VL w pin m ≤ NV := by
  unfold VL
  split
  · exact lm_le _ _
  · exact lm_le _ _
theorem leastOf_eq {w : Wd} {pin : Option (Nat × Nat)} {m : Nat} {M : tr_M} (hok : WOk w) (hw : MWd w M) (hp : PinX pin M) (hpo : pinOk w.1 pin) (hm : m ≤ 4) : ∃ N, mX7_leastOf (nI m) M = some (nI (VL w pin m), N) ∧ N.1 1 29 = nI (VL w pin m) ∧ (m ≠ 4 → BT w (nxW stM w pin) m N) ∧ KX M N := by
  unfold mX7_leastOf VL
  by_cases c : m = 4
  · subst c
    obtain ⟨N, n1, n2, n3⟩ := leastReach_eq hok hw hp hpo
    rw [if_pos (show nI 4 = 4 from rfl), n1, if_pos rfl]
    exact ⟨N, rfl, n2, fun h => absurd rfl h, n3⟩
  · obtain ⟨N, n1, n2, n3, n4⟩ := layBests_eq (m := m) hok hw hp (by omega)
    rw [if_neg (by rw [show (4 : Int32) = nI 4 from rfl, neq (by omega) (by decide)]; exact c), n1, if_neg c, ms_M hok hpo]
    exact ⟨N, rfl, by rw [n2.2.2, ms_M hok hpo], fun _ => n2, n4⟩
theorem tooLong_eq {w : Wd} {m : Nat} {M : tr_M} (hok : WOk w) (hw : M.1 1 10 = nI w.1) (hm : m ≤ 4) : (spent w m ∧ mX7_isTooLong (nI m) M = 1) ∨ (¬ spent w m ∧ mX7_isTooLong (nI m) M = 0) := by
  have hn := hok.1
  unfold mX7_isTooLong spent
  rw [hw, show (4 : Int32) = nI 4 from rfl, show (8 : Int32) = nI 8 from rfl]
  simp (disch := omega) only [neq, nlt]
  by_cases c : m = 4 <;> by_cases d : 8 < w.1 <;> simp [c, d]
theorem needLeast_eq {w : Wd} {pin : Option (Nat × Nat)} {m : Nat} {M : tr_M} (hok : WOk w) (hw : MWd w M) (hp : PinX pin M) (hpo : pinOk w.1 pin) (hm : m ≤ 4) : (spent w m ∧ mX7_needLeast (nI m) M = some (-6, M)) ∨ (¬ spent w m ∧ ∃ N, KX M N ∧ ((Al w pin = [] ∧ mX7_needLeast (nI m) M = Option.bind (mX7_meets 4 N) (fun c => some (c.1, c.2))) ∨ (Al w pin ≠ [] ∧ mX7_needLeast (nI m) M = some (0, N) ∧ NT w pin m N))) := by
  unfold mX7_needLeast
  rcases tooLong_eq hok hw.1 hm with ⟨s1, s2⟩ | ⟨s1, s2⟩
  · left
    rw [s2, if_neg (by decide)]
    exact ⟨s1, rfl⟩
  · right
    refine ⟨s1, ?_⟩
    obtain ⟨N, n1, n2, n3, n4⟩ := leastOf_eq hok hw hp hpo hm
    have hle := VL_le w pin m
    have hNV : NV = 1000000 := rfl
    rw [s2, if_pos rfl, n1, Option.bind_some, show (1000000 : Int32) = nI NV from rfl]
    simp (disch := omega) only [nlt]
    by_cases c : VL w pin m < NV
    · rw [if_pos c]
      have hne := (VL_lt hok hpo m).mp c
      by_cases d : m = 4
      · subst d
        have e29 : N.1 1 29 = nI (LM w pin) := n2
        obtain ⟨P, p1, p2, p3, p4⟩ := waysReach_eq hok (hw.kx n4) (hp.kx n4) hpo e29
        rw [if_pos (show nI 4 = 4 from rfl), p1, Option.bind_some]
        exact ⟨P, n4.tr p4, Or.inr ⟨hne, rfl, p3.trans n2, p2, fun h => absurd rfl h⟩⟩
      · obtain ⟨P, p1, p2, p3, p4, p5, p6⟩ := layWays_eq (m := m) hok (hw.kx n4) (hp.kx n4) (by omega) (n3 d)
        rw [if_neg (by rw [show (4 : Int32) = nI 4 from rfl, neq (by omega) (by decide)]; exact d), p1, Option.bind_some]
        refine ⟨P, n4.tr p6, Or.inr ⟨hne, rfl, ?_, ?_, fun _ => ⟨p4, p2⟩⟩⟩
        · rw [p4.2.2, ms_M hok hpo]
          unfold VL
          rw [if_neg d]
        · rw [p3, EL_M hok hpo]
          unfold LL
          rw [if_neg d]
    · rw [if_neg c]
      exact ⟨N, n4, Or.inl ⟨Classical.not_not.mp fun h => c ((VL_lt hok hpo m).mpr h), rfl⟩⟩
