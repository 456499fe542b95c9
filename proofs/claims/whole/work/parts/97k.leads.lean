theorem InvE.ask {w : Wd} {m : Nat} {M1 M2 : tr_M} (h : InvE w M1 M2) (v : Int32) : InvE w (tr_st M1 1 12 v) (tr_st M2 1 2 v) := by
  obtain ⟨a1, a2, a3⟩ := ask_both h.1 v
  obtain ⟨r, N1, N2, e1, e2, e3⟩ := h.res2 (a := some ((0 : Int32), tr_st M1 1 12 v)) (b := some ((0 : Int32), tr_st M2 1 2 v)) ⟨0, _, _, rfl, rfl, a1, a2.to2, a3⟩
  cases e1
  cases e2
  exact e3
theorem r_leads {w : Wd} {M1 M2 : tr_M} (h : InvE w M1 M2) (p1 p2 p3 : Int32) : ResE w (mX6_leads p1 p2 p3 M1) (mX7_leads p1 p2 p3 M2) := by
  have hn := h.2.1.1.1
  unfold mX6_leads mX7_leads
  rcases isMeasure_cases p1 with ⟨i1, i2⟩ | ⟨m, hm, rfl, i1, i2⟩
  · rw [i1, i2, if_pos rfl, Option.bind_some, if_pos rfl]
    exact ResE.same h
  rw [i1, i2, if_neg (show ¬ (1 : Int32) = 0 by decide), Option.bind_some, if_neg (show ¬ (1 : Int32) = 0 by decide)]
  have un : (mX5_areUnlike 26 p2 p3 M1 = 0 ∧ ((mX7_isThing p2 M2 = some 0) ∨ (mX7_isThing p2 M2 = some 1 ∧ mX7_isThing p3 M2 = some 0) ∨ (mX7_isThing p2 M2 = some 1 ∧ mX7_isThing p3 M2 = some 1 ∧ p2 = p3))) ∨ ∃ a b, a < w.1 ∧ b < w.1 ∧ a ≠ b ∧ p2 = nI a ∧ p3 = nI b ∧ mX5_areUnlike 26 p2 p3 M1 = 1 ∧ mX7_isThing p2 M2 = some 1 ∧ mX7_isThing p3 M2 = some 1 := by
    unfold mX5_areUnlike
    rcases thing_cases h.2.1 p2 with ⟨j1, j2⟩ | ⟨a, ha, rfl, j1, j2⟩
    · left
      rw [j1]
      exact ⟨rfl, Or.inl j2⟩
    · rcases thing_cases h.2.1 p3 with ⟨k1, k2⟩ | ⟨b, hb, rfl, k1, k2⟩
      · left
        rw [j1, k1]
        exact ⟨rfl, Or.inr (Or.inl ⟨j2, k2⟩)⟩
      · rw [j1, k1]
        by_cases e : a = b
        · left
          subst e
          exact ⟨by simp, Or.inr (Or.inr ⟨j2, k2, rfl⟩)⟩
        · right
          refine ⟨a, b, ha, hb, e, rfl, rfl, ?_, j2, k2⟩
          have : ¬ nI a = nI b := by rw [neq (by omega) (by omega)]; exact e
          simp [this]
  rcases un with ⟨u1, u2⟩ | ⟨a, b, ha, hb, hab, rfl, rfl, u1, u2, u3⟩
  · rw [u1, if_pos rfl]
    rcases u2 with u2 | ⟨u2, u3⟩ | ⟨u2, u3, u4⟩
    · rw [u2, Option.bind_some, if_pos rfl]
      exact ResE.same h
    · rw [u2, Option.bind_some, if_neg (show ¬ (1 : Int32) = 0 by decide), u3, Option.bind_some, if_pos rfl]
      exact ResE.same h
    · rw [u2, Option.bind_some, if_neg (show ¬ (1 : Int32) = 0 by decide), u3, Option.bind_some, if_neg (show ¬ (1 : Int32) = 0 by decide), if_pos u4]
      exact ResE.same h
  rw [u1, if_neg (show ¬ (1 : Int32) = 0 by decide), u2, Option.bind_some, if_neg (show ¬ (1 : Int32) = 0 by decide), u3, Option.bind_some, if_neg (show ¬ (1 : Int32) = 0 by decide), if_neg (show ¬ nI a = nI b by rw [neq (by omega) (by omega)]; exact hab)]
  refine need_call h hm (F1 := fun q N => Option.bind (mLO_numberAhead q (nI a) (nI b) N) (fun c9 => Option.bind (some (tr_st c9.2 1 12 c9.1)) (fun M11 => if (M11.1 1 12) = 0 then some ((0 : Int32), M11) else Option.bind (mLO_number q M11) (fun c13 => if (M11.1 1 12) = c13.1 then some ((2 : Int32), c13.2) else some ((1 : Int32), c13.2))))) (F2 := fun N => Option.bind (mX7_leadMany (nI m) (nI a) (nI b) N) (fun c9 => Option.bind (if c9.1 = 0 then some (0 : Int32) else if c9.1 = (c9.2.1 1 30) then some (2 : Int32) else some (1 : Int32)) (fun v11 => Option.bind (mX7_tells c9.1 v11 c9.2) (fun c12 => some (c12.1, c12.2))))) (fun N1 N2 _ _ hI hc hN hne _ => ?_)
  have hok := hI.2.1.1
  obtain ⟨P, p1, p2, p3⟩ := lo_ahead (pin := none) hok hI.2.1.2.1 hc.2.2 ha hb
  obtain ⟨Q, q1, q2, q3⟩ := m_ahead hok hI.2.1.2.2 hI.2.2.2.2 hm hN ha hb hab
  have hcP := hc.ks p3 p2
  have hIP : InvE w P Q := hI.kl p3.kl q3 (hcP.cch (by omega) hne)
  have hIA := hIP.ask (m := m) (nI (AH w none m a b))
  rw [p1, Option.bind_some, Option.bind_some, q1, Option.bind_some]
  dsimp only
  rw [tr_st_s]
  by_cases z : nI (AH w none m a b) = 0
  · rw [if_pos z, if_pos z, Option.bind_some, tells_eq, Option.bind_some]
    exact ResE.same hIA
  · have hLA : Lst w none m (tr_st P 1 12 (nI (AH w none m a b))) := p2.cg fun c c1 c2 _ => tr_st_ne (by omega)
    obtain ⟨R, r1, r2, r3⟩ := lo_number (pin := none) hok trivial hIA.2.1.2.1 hLA
    have hcA : Cc w none m (tr_st P 1 12 (nI (AH w none m a b))) := ⟨(tr_st_j (by decide)).trans hcP.1, (tr_st_j (by decide)).trans hcP.2.1, hLA⟩
    have hIR : InvE w R (tr_st Q 1 2 (nI (AH w none m a b))) := hIA.kl r3.kl KX.rf ((hcA.ks r3 r2).cch (by omega) hne)
    rw [if_neg z, if_neg z, r1, Option.bind_some, q2, hN.2.1]
    by_cases y : nI (AH w none m a b) = nI (LL w none m).length
    · rw [if_pos y, if_pos y, Option.bind_some, tells_eq, Option.bind_some]
      exact ResE.same hIR
    · rw [if_neg y, if_neg y, Option.bind_some, tells_eq, Option.bind_some]
      exact ResE.same hIR
