/-- what holds between two calls -/
def InvE (w : Wd) (M1 M2 : tr_M) : Prop := ITF M1 M2 ∧ IWd w M1 M2 ∧ Cch w none M1 ∧ PinM none M1 ∧ PinX none M2
def ResE {ρ : Type} (w : Wd) (a b : Option (ρ × tr_M)) : Prop := ∃ (r : ρ) (N1 N2 : tr_M), a = some (r, N1) ∧ b = some (r, N2) ∧ InvE w N1 N2
theorem ResE.same {ρ : Type} {w : Wd} {r : ρ} {M1 M2 : tr_M} (h : InvE w M1 M2) : ResE w (some (r, M1)) (some (r, M2)) := ⟨r, M1, M2, rfl, rfl, h⟩
theorem Cch.kc {w : Wd} {pin : Option (Nat × Nat)} {M N : tr_M} (h : Cch w pin M) (hk : KC2 M N) : Cch w pin N := by
  unfold Cch
  rw [hk.2 15 (by decide), hk.2 16 (by decide)]
  rcases h with h | ⟨m, h1, h2, h3⟩
  · exact Or.inl h
  · refine Or.inr ⟨m, h1, h2, ?_⟩
    rcases h3 with h3 | ⟨h3, h4, h5⟩
    · exact Or.inl h3
    · exact Or.inr ⟨h3, h4, h5.cg fun c c1 c2 c3 => hk.1 c c1 (by omega) c3⟩
theorem InvE.res2 {ρ : Type} {w : Wd} {a b : Option (ρ × tr_M)} {M1 M2 : tr_M} (h : InvE w M1 M2) (hr : Res2 a b M1 M2) : ResE w a b := by
  obtain ⟨r, N1, N2, e1, e2, e3, e4, e5⟩ := hr
  obtain ⟨h1, ⟨hok, hw, hm⟩, h3, h4, h5⟩ := h
  refine ⟨r, N1, N2, e1, e2, e3, ⟨hok, hw.congr fun b b1 b2 => e4.1 b (by omega) (by omega) (by omega), hm.congr e5.2.2.1 e5.2.2.2.1 e5.1 e5.2.1⟩, h3.kc e4, ?_, ?_⟩
  · show N1.1 25 13 = -9
    rw [e4.1 25 (by decide) (by decide) (by decide)]
    exact h4
  · show N2.1 1 27 = -9
    rw [e5.2.2.2.2]
    exact h5
theorem InvE.kl {w : Wd} {M1 M2 N1 N2 : tr_M} (h : InvE w M1 M2) (k1 : KL M1 N1) (k2 : KX M2 N2) (hc : Cch w none N1) : InvE w N1 N2 := ⟨(h.1.kl k1).kx k2, ⟨h.2.1.1, h.2.1.2.1.kl k1, h.2.1.2.2.kx k2⟩, hc, h.2.2.2.1.kl k1, h.2.2.2.2.kx k2⟩
/-- both sides look for the least orders of a measure -/
theorem need_both {w : Wd} {m : Nat} {M1 M2 : tr_M} (h : InvE w M1 M2) (hm : m ≤ 4) : ∃ q N1, mX6_leastsOf (nI m) M1 = some (q, N1) ∧ KL M1 N1 ∧ ((q = 0 ∧ (∃ r P2, mX7_needLeast (nI m) M2 = some (r, P2) ∧ r < 0) ∧ ResE w (mX6_noLeast (nI m) N1) (mX7_needLeast (nI m) M2)) ∨ (q ≠ 0 ∧ q = rf m ∧ ¬ spent w m ∧ Al w none ≠ [] ∧ Cc w none m N1 ∧ ∃ N2, mX7_needLeast (nI m) M2 = some (0, N2) ∧ KX M2 N2 ∧ NT w none m N2)) := by
  obtain ⟨h1, ⟨hok, hw, hmw⟩, h3, h4, h5⟩ := h
  obtain ⟨q, N1, e1, e2, e3, e4⟩ := leastsOf_eq hok hw h4 trivial h3 (show m ≤ 5 by omega)
  have hrf : rf m ≠ 0 := by unfold rf; split <;> omega
  refine ⟨q, N1, e1, e2, ?_⟩
  have hI : ∀ N2, KX M2 N2 → InvE w N1 N2 := fun N2 k => InvE.kl ⟨h1, ⟨hok, hw, hmw⟩, h3, h4, h5⟩ e2 k e3
  rcases needLeast_eq hok hmw h5 trivial hm with ⟨s1, s2⟩ | ⟨s1, N2, k2, s3⟩
  · rcases e4 with ⟨rfl, -⟩ | ⟨x, -⟩
    · left
      refine ⟨rfl, ⟨_, _, s2, by decide⟩, ?_⟩
      unfold mX6_noLeast
      rcases isSpent_eq hok (hw.kl e2).1 (show m ≤ 5 by omega) with ⟨-, t⟩ | ⟨t, -⟩
      · rw [t, if_neg (by decide), s2]
        exact ResE.same (hI M2 KX.rf)
      · exact absurd s1 t
    · exact absurd s1 x
  · rcases s3 with ⟨s3, s4⟩ | ⟨s3, s4, s5⟩
    · rcases e4 with ⟨rfl, -⟩ | ⟨-, x, -⟩
      · left
        have hr := (hI N2 k2).res2 (meets_res (hI N2 k2).1 (q := 4) (by decide))
        refine ⟨rfl, ?_, ?_⟩
        · rw [s4]
          obtain ⟨r, P1, P2, p1, p2, -⟩ := hr
          refine ⟨r, P2, p2, ?_⟩
          unfold mX7_meets at p2
          rw [Option.bind_some, tr_rd_nI (by decide) (by decide), Option.bind_some, tr_wr_nI (by decide) (by decide), Option.bind_some, Option.bind_some] at p2
          cases p2
          show (-3 : Int32) < 0
          decide
        · unfold mX6_noLeast
          rcases isSpent_eq hok (hw.kl e2).1 (show m ≤ 5 by omega) with ⟨t, -⟩ | ⟨-, t⟩
          · exact absurd t s1
          · rw [t, if_pos rfl, s4]
            exact hr
      · exact absurd s3 x
    · rcases e4 with ⟨-, x⟩ | ⟨-, -, x1, x2⟩
      · rcases x with x | x
        · exact absurd x s1
        · exact absurd x s3
      · right
        exact ⟨by rw [x1]; exact hrf, x1, s1, s3, x2, N2, s4, k2, s5⟩
theorem r_least {w : Wd} {M1 M2 : tr_M} (h : InvE w M1 M2) (p1 : Int32) : ResE w (mX6_least p1 M1) (mX7_least p1 M2) := by
  unfold mX6_least mX7_least
  rcases isMeasure_cases p1 with ⟨i1, i2⟩ | ⟨m, hm, rfl, i1, i2⟩
  · rw [i1, i2, if_pos rfl, Option.bind_some, if_pos rfl]
    exact ResE.same h
  · rw [i1, i2, if_neg (by decide), Option.bind_some, if_neg (by decide)]
    obtain ⟨q, N1, e1, e2, e3⟩ := need_both h hm
    rw [e1, Option.bind_some]
    rcases e3 with ⟨rfl, ⟨r, P2, g1, g2⟩, e3⟩ | ⟨q0, q1, q2, q3, q4, N2, q5, q6, q7⟩
    · rw [if_pos rfl]
      rw [g1] at e3 ⊢
      rw [Option.bind_some, if_pos g2]
      obtain ⟨r', N1', N2', x1, x2, x3⟩ := e3
      rw [x1]
      cases x2
      exact ⟨_, _, _, rfl, rfl, x3⟩
    · rw [if_neg q0, q5, Option.bind_some, if_neg (show ¬ (0 : Int32) < 0 by decide), q1, lo_value (pin := none) h.2.1.1 trivial q4.2.2, Option.bind_some, q7.1]
      exact ResE.same (h.kl e2 q6 (q4.cch (by omega) q3))
