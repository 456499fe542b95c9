theorem unlike_both {w : Wd} {M1 M2 : tr_M} (hw : IWd w M1 M2) (p q : Int32) : (mX5_areUnlike 26 p q M1 = 0 ∧ ∀ (φ : Option Int32), (Option.bind (mX7_isThing p M2) fun c => if c = 0 then some 0 else Option.bind (mX7_isThing q M2) fun d => if d = 0 then some 0 else if p = q then some 0 else φ) = some 0) ∨ ∃ a b, a < w.1 ∧ b < w.1 ∧ a ≠ b ∧ p = nI a ∧ q = nI b ∧ mX5_areUnlike 26 p q M1 = 1 ∧ mX7_isThing p M2 = some 1 ∧ mX7_isThing q M2 = some 1 := by
  have hn := hw.1.1
  unfold mX5_areUnlike
  rcases thing_cases hw p with ⟨e1, e2⟩ | ⟨a, ha, rfl, e1, e2⟩
  · left
    rw [e1, e2]
    exact ⟨rfl, fun _ => rfl⟩
  · rcases thing_cases hw q with ⟨d1, d2⟩ | ⟨b, hb, rfl, d1, d2⟩
    · left
      rw [e1, e2, d1, d2]
      exact ⟨rfl, fun _ => rfl⟩
    · by_cases hab : nI a = nI b
      · left
        rw [e1, e2, d1, d2]
        simp [hab]
      · right
        refine ⟨a, b, ha, hb, fun e => hab (by rw [e]), rfl, rfl, ?_, e2, d2⟩
        rw [e1, d1, if_neg (by decide), if_neg (by decide), if_neg hab]
/-- a rule as it is told, of a kind with two things -/
theorem two_both {w : Wd} {M1 M2 : tr_M} (hw : IWd w M1 M2) (p q : Int32) : ((Option.bind (tr_gd ((mX5_areUnlike 26 p q M1) &&& 1 == (mX5_areUnlike 26 p q M1))) (fun _ => some (mX5_areUnlike 26 p q M1))) = some 0 ∧ (Option.bind (mX7_isThing p M2) fun c => if c = 0 then some 0 else Option.bind (mX7_isThing q M2) fun d => if d = 0 then some 0 else if p = q then some 0 else some (1 : Int32)) = some 0) ∨ ∃ a b, a < w.1 ∧ b < w.1 ∧ a ≠ b ∧ p = nI a ∧ q = nI b ∧ (Option.bind (tr_gd ((mX5_areUnlike 26 p q M1) &&& 1 == (mX5_areUnlike 26 p q M1))) (fun _ => some (mX5_areUnlike 26 p q M1))) = some 1 ∧ (Option.bind (mX7_isThing p M2) fun c => if c = 0 then some 0 else Option.bind (mX7_isThing q M2) fun d => if d = 0 then some 0 else if p = q then some 0 else some (1 : Int32)) = some 1 := by
  have hn := hw.1.1
  rcases unlike_both hw p q with ⟨e1, e2⟩ | ⟨a, b, ha, hb, hab, rfl, rfl, e1, e2, e3⟩
  · left
    rw [e1]
    exact ⟨rfl, e2 _⟩
  · right
    refine ⟨a, b, ha, hb, hab, rfl, rfl, by rw [e1]; rfl, ?_⟩
    have : ¬ nI a = nI b := fun e => hab ((neq (by omega) (by omega)).mp e)
    rw [e2, e3]
    simp [this]
theorem place_both {w : Wd} {M1 M2 : tr_M} (hw : IWd w M1 M2) (p q : Int32) : ((if mX5_isThing 26 p M1 = 0 then some (0 : Int32) else if q < 0 then some 0 else if (9 : Int32) < q then some 0 else some 1) = some 0 ∧ (Option.bind (mX7_isThing p M2) fun c => if c = 0 then some (0 : Int32) else if mX7_in q 0 9 = 0 then some 0 else some 1) = some 0) ∨ ∃ a b, a < w.1 ∧ b ≤ 9 ∧ p = nI a ∧ q = nI b ∧ (if mX5_isThing 26 p M1 = 0 then some (0 : Int32) else if q < 0 then some 0 else if (9 : Int32) < q then some 0 else some 1) = some 1 ∧ (Option.bind (mX7_isThing p M2) fun c => if c = 0 then some (0 : Int32) else if mX7_in q 0 9 = 0 then some 0 else some 1) = some 1 := by
  rcases thing_cases hw p with ⟨e1, e2⟩ | ⟨a, ha, rfl, e1, e2⟩
  · left
    rw [e1, e2]
    exact ⟨rfl, rfl⟩
  · rw [e1, e2]
    unfold mX7_in
    rcases pos_cases q 9 (by decide) with h6 | ⟨h6, h7⟩ | ⟨b, hb, rfl, h6, h7⟩
    · left
      have h6 : (9 : Int32) < q := h6
      have h7 : ¬ q < 0 := fun z => (n_lt_neg z (k := 9) (by decide)).2.1 h6
      simp [h6, h7]
    · left
      simp [h7]
    · right
      have h6 : ¬ (9 : Int32) < nI b := h6
      refine ⟨a, b, ha, hb, rfl, rfl, ?_, ?_⟩
      · simp [h6, h7]
      · simp [h6, h7]
theorem rule_both {w : Wd} {M1 M2 : tr_M} (hw : IWd w M1 M2) (p1 p2 p3 p4 : Int32) : (mX5_canRule 26 p1 p2 p3 p4 M1 = some 0 ∧ mX7_isRuleTold p1 p2 p3 p4 M2 = some 0) ∨ (mX5_canRule 26 p1 p2 p3 p4 M1 = some 1 ∧ mX7_isRuleTold p1 p2 p3 p4 M2 = some 1 ∧ ∃ kd x y z : Nat, p1 = nI kd ∧ kd ≤ 6 ∧ ruleOk w.1 (kd, x, y, z) ∧ (if p1 = 0 then 0 else p2) = nI x ∧ (if p1 = 0 then 0 else p3) = nI y ∧ (if p1 = 6 then p4 else 0) = nI z) := by
  have hn := hw.1.1
  unfold mX5_canRule mX7_isRuleTold
  by_cases k0 : p1 = 0
  · right
    subst k0
    exact ⟨rfl, rfl, 0, 0, 0, 0, rfl, by omega, Or.inl ⟨rfl, rfl, rfl, rfl⟩, rfl, rfl, rfl⟩
  · simp only [if_neg k0]
    by_cases k1 : p1 = 1
    · subst k1
      simp only [if_true]
      rcases two_both hw p2 p3 with ⟨e1, e2⟩ | ⟨a, b, ha, hb, hab, rfl, rfl, e1, e2⟩
      · exact Or.inl ⟨e1, e2⟩
      · exact Or.inr ⟨e1, e2, 1, a, b, 0, rfl, by omega, Or.inr (Or.inl ⟨by simp, ha, hb, hab, rfl⟩), rfl, rfl, rfl⟩
    · simp only [if_neg k1]
      by_cases k2 : p1 = 2
      · subst k2
        simp only [if_true]
        rcases two_both hw p2 p3 with ⟨e1, e2⟩ | ⟨a, b, ha, hb, hab, rfl, rfl, e1, e2⟩
        · exact Or.inl ⟨e1, e2⟩
        · exact Or.inr ⟨e1, e2, 2, a, b, 0, rfl, by omega, Or.inr (Or.inl ⟨by simp, ha, hb, hab, rfl⟩), rfl, rfl, rfl⟩
      · simp only [if_neg k2]
        by_cases k3 : p1 = 3
        · subst k3
          simp only [if_true]
          rcases place_both hw p2 p3 with ⟨e1, e2⟩ | ⟨a, b, ha, hb, rfl, rfl, e1, e2⟩
          · exact Or.inl ⟨e1, e2⟩
          · exact Or.inr ⟨e1, e2, 3, a, b, 0, rfl, by omega, Or.inr (Or.inr (Or.inl ⟨by simp, ha, hb, rfl⟩)), rfl, rfl, rfl⟩
        · simp only [if_neg k3]
          by_cases k4 : p1 = 4
          · subst k4
            simp only [if_true]
            rcases place_both hw p2 p3 with ⟨e1, e2⟩ | ⟨a, b, ha, hb, rfl, rfl, e1, e2⟩
            · exact Or.inl ⟨e1, e2⟩
            · exact Or.inr ⟨e1, e2, 4, a, b, 0, rfl, by omega, Or.inr (Or.inr (Or.inl ⟨by simp, ha, hb, rfl⟩)), rfl, rfl, rfl⟩
          · simp only [if_neg k4]
            by_cases k5 : p1 = 5
            · subst k5
              simp only [if_true]
              rcases two_both hw p2 p3 with ⟨e1, e2⟩ | ⟨a, b, ha, hb, hab, rfl, rfl, e1, e2⟩
              · exact Or.inl ⟨e1, e2⟩
              · exact Or.inr ⟨e1, e2, 5, a, b, 0, rfl, by omega, Or.inr (Or.inl ⟨by simp, ha, hb, hab, rfl⟩), rfl, rfl, rfl⟩
            · simp only [if_neg k5]
              by_cases k6 : p1 = 6
              · subst k6
                simp only [if_true]
                unfold mX5_areUnlike
                rcases thing_cases hw p2 with ⟨e1, e2⟩ | ⟨a, ha, rfl, e1, e2⟩
                · left
                  rw [e1, e2]
                  exact ⟨rfl, rfl⟩
                · rcases thing_cases hw p3 with ⟨d1, d2⟩ | ⟨b, hb, rfl, d1, d2⟩
                  · left
                    rw [e1, e2, d1, d2]
                    exact ⟨rfl, rfl⟩
                  · rcases thing_cases hw p4 with ⟨c1, c2⟩ | ⟨c, hc, rfl, c1, c2⟩
                    · left
                      rw [e1, e2, d1, d2, c1, c2]
                      refine ⟨?_, rfl⟩
                      by_cases hab : nI a = nI b <;> simp [hab]
                    · simp only [e1, e2, d1, d2, c1, c2, Option.bind_some, if_neg (show ¬ (1 : Int32) = 0 by decide)]
                      by_cases hab : nI a = nI b
                      · left; simp [hab]
                      · by_cases hac : nI a = nI c
                        · left; simp [hab, hac]
                        · by_cases hbc : nI b = nI c
                          · left; simp [hab, hac, hbc]
                          · right
                            refine ⟨by simp [hab, hac, hbc], by simp [hab, hac, hbc], 6, a, b, c, rfl, by omega, Or.inr (Or.inr (Or.inr ⟨rfl, ha, hb, hc, fun e => hab (by rw [show a = b from e]), fun e => hac (by rw [show a = c from e]), fun e => hbc (by rw [show b = c from e])⟩)), rfl, rfl, rfl⟩
              · left
                simp only [if_neg k6]
                exact ⟨trivial, trivial⟩
