theorem need_call {w : Wd} {m : Nat} {M1 M2 : tr_M} (h : InvE w M1 M2) (hm : m ≤ 4) {F1 : Nat → tr_M → Option (Int32 × tr_M)} {F2 : tr_M → Option (Int32 × tr_M)} (hF : ∀ N1 N2, KL M1 N1 → KX M2 N2 → InvE w N1 N2 → Cc w none m N1 → NT w none m N2 → Al w none ≠ [] → ¬ spent w m → ResE w (F1 (rf m) N1) (F2 N2)) : ResE w (Option.bind (mX6_leastsOf (nI m) M1) (fun c => if c.1 = 0 then Option.bind (mX6_noLeast (nI m) c.2) (fun d => some (d.1, d.2)) else F1 c.1 c.2)) (Option.bind (mX7_needLeast (nI m) M2) (fun c => if c.1 < 0 then some (c.1, c.2) else F2 c.2)) := by
  obtain ⟨q, N1, e1, e2, e3⟩ := need_both h hm
  rw [e1, Option.bind_some]
  rcases e3 with ⟨rfl, ⟨r, P2, g1, g2⟩, e3⟩ | ⟨q0, q1, q2, q3, q4, N2, q5, q6, q7⟩
  · rw [if_pos rfl]
    rw [g1] at e3 ⊢
    rw [Option.bind_some, if_pos g2]
    obtain ⟨r', N1', N2', x1, x2, x3⟩ := e3
    rw [x1]
    cases x2
    exact ⟨_, _, _, rfl, rfl, x3⟩
  · rw [if_neg q0, q5, Option.bind_some, if_neg (show ¬ (0 : Int32) < 0 by decide), q1]
    exact hF N1 N2 e2 q6 (h.kl e2 q6 (q4.cch (by omega) q3)) q4 q7 q3 q2
theorem m_pick {w : Wd} {m k : Nat} {f : Nat → Nat} {N : tr_M} (hok : WOk w) (hm : MWd w N) (hp : PinX none N) (h4 : m ≤ 4) (hN : NT w none m N) (hf : Ord w.1 f) (hk : (LL w none m)[k]? = some (seg f 0 w.1)) : ∃ P, mX7_layLeast (nI m) (nI k) N = some P ∧ (∀ i, i < w.1 → P.1 12 i = nI (f i)) ∧ (∀ c, c ≠ 12 → c ≠ 13 → P.1 c = N.1 c) ∧ P.2 = N.2 := by
  by_cases c : m = 4
  · subst c
    exact layLong_eq hok hm hp trivial hN.1 hk
  · unfold LL at hk
    rw [if_neg c, ← EL_M (pin := none) hok trivial] at hk
    obtain ⟨hB, hW⟩ := hN.2.2 c
    have e := mpick_loop (m := m) hok.1 hm.1 (Gd_fresh (nxW_fresh stM w none)) hf hW (fun P hP s l x hst hx => isGood_eq hok (hm.congr (by rw [hP 1 (by decide)]) (by rw [hP 1 (by decide)]) (hP 8 (by decide)) (hP 9 (by decide))) (show PinX none P by unfold PinX; rw [hP 1 (by decide)]; exact hp) (by omega) (hB.cg (hP 14 (by decide)) (hP 16 (by decide)) (by rw [hP 1 (by decide)])) hst hx) hk
    unfold mX7_layLeast
    rw [if_neg (by rw [show (4 : Int32) = nI 4 from rfl, neq (by omega) (by decide)]; exact c), e]
    exact ⟨_, rfl, fun i hi => by rw [tr_row_s]; exact cp_in hi, fun c c1 _ => tr_row_ne c1, rfl⟩
theorem r_ways {w : Wd} {M1 M2 : tr_M} (h : InvE w M1 M2) (p1 : Int32) : ResE w (mX6_ways p1 M1) (mX7_ways p1 M2) := by
  unfold mX6_ways mX7_ways
  rcases isMeasure_cases p1 with ⟨i1, i2⟩ | ⟨m, hm, rfl, i1, i2⟩
  · rw [i1, i2, if_pos rfl, Option.bind_some, if_pos rfl]
    exact ResE.same h
  · rw [i1, i2, if_neg (show ¬ (1 : Int32) = 0 by decide), Option.bind_some, if_neg (show ¬ (1 : Int32) = 0 by decide)]
    have hI := h
    obtain ⟨h1, ⟨hok, hw, hmw⟩, h3, h4, h5⟩ := h
    rcases isSpent_eq hok hw.1 (show m ≤ 5 by omega) with ⟨s1, s2⟩ | ⟨s1, s2⟩
    · rcases tooLong_eq hok hmw.1 hm with ⟨-, t⟩ | ⟨t, -⟩
      · rw [s2, t, if_neg (show ¬ (1 : Int32) = 0 by decide), if_neg (show ¬ (1 : Int32) = 0 by decide)]
        exact ResE.same hI
      · exact absurd s1 t
    · rcases tooLong_eq hok hmw.1 hm with ⟨t, -⟩ | ⟨-, t⟩
      · exact absurd t s1
      · rw [s2, t, if_pos rfl, if_pos rfl]
        obtain ⟨q, N1, e1, e2, e3, e4⟩ := leastsOf_eq hok hw h4 trivial h3 (show m ≤ 5 by omega)
        obtain ⟨N, n1, n2, n3, n4⟩ := leastOf_eq hok hmw h5 trivial hm
        have hle := VL_le w none m
        have hNV : NV = 1000000 := rfl
        have hrf : rf m ≠ 0 := by unfold rf; split <;> omega
        rw [e1, Option.bind_some, n1, Option.bind_some, show (1000000 : Int32) = nI NV from rfl]
        simp (disch := omega) only [nlt]
        rcases e4 with ⟨rfl, x | x⟩ | ⟨-, x, rfl, x2⟩
        · exact absurd x s1
        · rw [if_pos rfl, if_neg (fun c => (VL_lt (pin := none) hok trivial m).mp c x)]
          exact ResE.same (hI.kl e2 n4 e3)
        · rw [if_neg hrf, if_pos ((VL_lt (pin := none) hok trivial m).mpr x)]
          obtain ⟨P, p1, p2, p3⟩ := lo_number (pin := none) hok trivial (hw.kl e2) x2.2.2
          rw [p1, Option.bind_some]
          have hcc := (x2.ks p3 p2).cch (show m ≤ 5 by omega) x
          by_cases d : m = 4
          · subst d
            have e29 : N.1 1 29 = nI (LM w none) := n2
            obtain ⟨Q, q1, q2, q3, q4⟩ := waysReach_eq (pin := none) hok (hmw.kx n4) (h5.kx n4) trivial e29
            rw [if_pos (show nI 4 = 4 from rfl), q1, Option.bind_some]
            exact ⟨_, P, Q, rfl, rfl, hI.kl (e2.tr p3.kl) (n4.tr q4) hcc⟩
          · obtain ⟨Q, q1, q2, q3, q4, q5, q6⟩ := layWays_eq (m := m) hok (hmw.kx n4) (h5.kx n4) (by omega) (n3 d)
            rw [if_neg (by rw [show (4 : Int32) = nI 4 from rfl, neq (by omega) (by decide)]; exact d), q1, Option.bind_some, q3, EL_M (pin := none) hok trivial]
            refine ⟨_, P, Q, ?_, rfl, hI.kl (e2.tr p3.kl) (n4.tr q6) hcc⟩
            unfold LL
            rw [if_neg d]
theorem r_all {w : Wd} {M1 M2 : tr_M} (h : InvE w M1 M2) : ResE w (mX6_all M1) (mX7_all M2) := by
  unfold mX6_all mX7_all
  have hI := h
  obtain ⟨h1, ⟨hok, hw, hmw⟩, h3, h4, h5⟩ := h
  obtain ⟨q, N1, e1, e2, e3, e4⟩ := leastsOf_eq (m := 5) hok hw h4 trivial h3 (by decide)
  obtain ⟨N, n1, n2⟩ := allowedMany_eq (pin := none) hok hmw h5 trivial
  have e1' : mX6_leastsOf 5 M1 = some (q, N1) := e1
  rw [e1', Option.bind_some, n1, Option.bind_some]
  rcases e4 with ⟨rfl, x | x⟩ | ⟨-, x, rfl, x2⟩
  · exact absurd x.1 (by decide)
  · rw [if_pos rfl, x]
    exact ⟨_, N1, N, rfl, rfl, hI.kl e2 n2 e3⟩
  · obtain ⟨P, p1, p2, p3⟩ := lo_number (pin := none) hok trivial (hw.kl e2) x2.2.2
    rw [if_neg (show ¬ rf 5 = 0 by decide), p1, Option.bind_some]
    refine ⟨_, P, N, rfl, ?_, hI.kl (e2.tr p3.kl) n2 ((x2.ks p3 p2).cch (by decide) x)⟩
    unfold LL
    rw [if_neg (by decide), LS_5]
