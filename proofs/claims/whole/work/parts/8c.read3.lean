/-- the head, on both sides -/
theorem head_both {t s p : Nat} {b : Nat → Int32} {N1 N2 : tr_M} (h : TX t s b N1 N2) (hc : CR t p N1) (hm : N2.1 1 14 = nI p) (hr : MR (w0 0) N2) (hp : p < s) : Out t s b p N1 N2 (mX3_readHead N1) (mX7_readsCount (nI t) N2) := by
  have hs := h.2.1
  unfold mX3_readHead mX7_readsCount
  rw [sign_eq h hc (by omega), hm, byte_eq h (by omega), if_pos hp, if_pos hp]
  simp only [Option.bind_some]
  by_cases c110 : b p = 110
  · rw [if_pos c110, if_pos c110, hc.2, nadd1]
    -- behind the sign
    have hcQ : CR t (p + 1) (tr_st N1 4 2 (nI (p + 1))) := ⟨by rw [tr_st_j (by decide)]; exact hc.1, tr_st_s⟩
    have hk1 : KB N1 (tr_st N1 4 2 (nI (p + 1))) := KB.st (by omega)
    have hk2 : KMB N2 (tr_st N2 1 14 (nI (p + 1))) := KMB.st (by omega)
    have hmQ : (tr_st N2 1 14 (nI (p + 1))).1 1 14 = nI (p + 1) := tr_st_s
    have hrQ : MR (w0 0) (tr_st N2 1 14 (nI (p + 1))) := MR0_st hr
    generalize tr_st N1 4 2 (nI (p + 1)) = Q1 at *
    generalize tr_st N2 1 14 (nI (p + 1)) = Q2 at *
    have hT := h.kb hk1 hk2
    -- a number that is read
    have fin : ∀ (q n : Nat) (R1 R2 : tr_M), p < q → q ≤ s → n < 100 → CR t q R1 → R2.1 1 14 = nI q → MR (w0 0) R2 → KB N1 R1 → KMB N2 R2 → Out t s b p N1 N2 (if nI n < (1 : Int32) then some ((0 : Int32), R1) else if (10 : Int32) < nI n then some ((0 : Int32), R1) else Option.bind (mX5_clear 5 (nI n) R1) fun c14 => some ((1 : Int32), c14)) (if mX7_in (nI n) 1 10 = 0 then some ((0 : Int32), R2) else Option.bind (some (tr_st R2 1 16 (nI n))) fun M19 => some ((1 : Int32), M19)) := fun q n R1 R2 hq hqs hn100 r1 r2 r3 r4 r5 => by
      have e1 : (nI n < (1 : Int32)) ↔ n < 1 := by rw [show (1 : Int32) = nI 1 from rfl, nlt (by omega) (by decide)]
      have e2 : ((10 : Int32) < nI n) ↔ 10 < n := by rw [show (10 : Int32) = nI 10 from rfl, nlt (by decide) (by omega)]
      unfold mX7_in
      simp only [e1, e2]
      by_cases z1 : n < 1
      · rw [if_pos z1, if_pos z1, if_pos rfl]
        exact Or.inl ⟨q, R1, R2, rfl, r1.2, rfl, r2, r4, r5, hqs⟩
      · rw [if_neg z1, if_neg z1]
        by_cases z2 : 10 < n
        · rw [if_pos z2, if_pos z2, if_pos rfl]
          exact Or.inl ⟨q, R1, R2, rfl, r1.2, rfl, r2, r4, r5, hqs⟩
        · rw [if_neg z2, if_neg z2, if_neg (by decide)]
          obtain ⟨P1, g1, g2, g3, g4⟩ := clear_wd (o := 5) (n := n) (M := R1) len5
          have hkP : KB R1 P1 := ⟨fun c hc => g3 c (by omega) (by omega), g4⟩
          have hkP2 : KMB R2 (tr_st R2 1 16 (nI n)) := KMB.st (by omega)
          rw [g1]
          right
          refine ⟨q, w0 n, P1, tr_st R2 1 16 (nI n), hq, hqs, rfl, rfl, ⟨h.kb (r4.tr hkP) (r5.tr hkP2), ⟨?_, ?_⟩, g2, ?_, ⟨?_, ?_, fun a c ha hc => ?_, fun k hk => absurd hk (Nat.not_lt_zero k)⟩, w0_ok (by omega), by show 1 ≤ n; omega, fun _ => rfl⟩, r4.tr hkP, r5.tr hkP2⟩
          · rw [g3 4 (by decide) (by decide)]; exact r1.1
          · rw [g3 4 (by decide) (by decide)]; exact r1.2
          · rw [tr_st_j (by decide)]; exact r2
          · rw [tr_st_s]; rfl
          · rw [tr_st_j (by decide)]; exact r3.2.1
          · rw [tr_st_ne (by decide)]; exact r3.2.2.1 a c ha hc
    rcases fig_both hT hcQ hmQ (by omega) with ⟨u, hu, hlt, f1, f2, f3, f4⟩ | ⟨f1, -, f3⟩
    · rw [f1, f2]
      simp only [Option.bind_some, if_neg (show ¬ (1 : Int32) = 0 by decide)]
      have s1 := (cntStep (v := 0) (many := 0) hT hmQ (by omega) (by decide)).1 u hu hlt f4
      have hcR : CR t (p + 1 + 1) (tr_st Q1 4 2 (nI (p + 1 + 1))) := ⟨by rw [tr_st_j (by decide)]; exact hcQ.1, tr_st_s⟩
      have hkR1 : KB N1 (tr_st Q1 4 2 (nI (p + 1 + 1))) := hk1.tr (KB.st (by omega))
      have hkR2 : KMB N2 (tr_st Q2 1 14 (nI (p + 1 + 1))) := hk2.tr (KMB.st (by omega))
      have hmR : (tr_st Q2 1 14 (nI (p + 1 + 1))).1 1 14 = nI (p + 1 + 1) := tr_st_s
      have hrR : MR (w0 0) (tr_st Q2 1 14 (nI (p + 1 + 1))) := MR0_st hrQ
      generalize tr_st Q1 4 2 (nI (p + 1 + 1)) = R1 at *
      generalize tr_st Q2 1 14 (nI (p + 1 + 1)) = R2 at *
      have hTR := h.kb hkR1 hkR2
      rcases fig_both hTR hcR hmR (by omega) with ⟨u2, hu2, hlt2, k1, k2, k3, k4⟩ | ⟨k1, -, k3⟩
      · rw [k1, k2]
        simp only [Option.bind_some, if_neg (show ¬ (1 : Int32) = 0 by decide)]
        have s2 := (cntStep (v := 10 * 0 + u) (many := 0 + 1) hTR hmR (by omega) (by decide)).1 u2 hu2 hlt2 k4
        have s3 : mX7_readsCount_l30 (nI t) (nI (0 + 1 + 1), nI (10 * (10 * 0 + u) + u2), tr_st R2 1 14 (nI (p + 1 + 1 + 1))) = some (.inr (nI 2, nI (10 * u + u2), tr_st R2 1 14 (nI (p + 1 + 1 + 1)))) := by
          unfold mX7_readsCount_l30
          dsimp only
          rw [if_neg (show ¬ nI (0 + 1 + 1) < (2 : Int32) by decide), show 10 * (10 * 0 + u) + u2 = 10 * u + u2 by omega]
        have el : tr_loop (mX7_readsCount_l30 (nI t)) (0, 0, Q2) = some (nI 2, nI (10 * u + u2), tr_st R2 1 14 (nI (p + 1 + 1 + 1))) := by
          refine tr_loop_of (n := 3) ?_ (by decide)
          show tr_it _ (2 + 1) (nI 0, nI 0, Q2) = _
          rw [tr_it_l s1, tr_it_l s2]
          exact tr_it_r s3
        rw [el]
        dsimp only [Option.bind_some]
        rw [if_neg (show ¬ nI 2 = 0 by decide), show (10 : Int32) * nI u + nI u2 = nI (10 * u + u2) by rw [show (10 : Int32) = nI 10 from rfl, nmul, nadd]]
        exact fin (p + 1 + 1 + 1) (10 * u + u2) _ _ (by omega) (by omega) (by omega) ⟨by rw [tr_st_j (by decide)]; exact hcR.1, tr_st_s⟩ tr_st_s (MR0_st hrR) (hkR1.tr (KB.st (by omega))) (hkR2.tr (KMB.st (by omega)))
      · rw [k1]
        simp only [Option.bind_some, if_true]
        have s2 := (cntStep (v := 10 * 0 + u) (many := 0 + 1) hTR hmR (by omega) (by decide)).2 k3
        have el : tr_loop (mX7_readsCount_l30 (nI t)) (0, 0, Q2) = some (nI (0 + 1), nI (10 * 0 + u), R2) := by
          refine tr_loop_of (n := 2) ?_ (by decide)
          show tr_it _ (1 + 1) (nI 0, nI 0, Q2) = _
          rw [tr_it_l s1]
          exact tr_it_r s2
        rw [el]
        dsimp only [Option.bind_some]
        rw [if_neg (show ¬ nI (0 + 1) = 0 by decide), show 10 * 0 + u = u by omega]
        exact fin (p + 1 + 1) u _ _ (by omega) (by omega) (by omega) hcR hmR hrR hkR1 hkR2
    · rw [f1]
      simp only [Option.bind_some, if_true]
      have s1 := (cntStep (v := 0) (many := 0) hT hmQ (by omega) (by decide)).2 f3
      have el : tr_loop (mX7_readsCount_l30 (nI t)) (0, 0, Q2) = some (nI 0, nI 0, Q2) := tr_loop_of (n := 1) (tr_it_r s1) (by decide)
      rw [el]
      left
      exact ⟨p + 1, Q1, Q2, rfl, hcQ.2, rfl, hmQ, hk1, hk2, by omega⟩
  · rw [if_neg c110, if_neg c110]
    left
    exact ⟨p, N1, N2, rfl, hc.2, rfl, hm, KB.rf, KMB.rf, by omega⟩
/-- items one behind the other, to the end or a fault -/
theorem items_both {t s : Nat} {b : Nat → Int32} {K1 K2 : tr_M} : ∀ d p w N1 N2 i, s - p = d → p ≤ s → i + (s - p) ≤ 120 → RS t s b p w N1 N2 → KB K1 N1 → KMB K2 N2 → ∃ res P1 P2, tr_it mX3_read_l36 (d + 1) (nI i, N1) = some (res, P1) ∧ ((res = -9 ∧ tr_it (mX7_faultOf_l36 (nI t)) (d + 1) N2 = some (.inl P2) ∧ ∃ p' w', RS t s b p' w' P1 P2) ∨ (res ≠ -9 ∧ tr_it (mX7_faultOf_l36 (nI t)) (d + 1) N2 = some (.inr (res, P2)))) ∧ KB K1 P1 ∧ KMB K2 P2 := by
  intro d
  induction d using Nat.strongRecOn with
  | ind d ih =>
    intro p w N1 N2 i hd hp hi h g1 g2
    have hs := h.1.2.1
    have ht := h.1.1
    obtain ⟨p1, b1, b2, b3, b4⟩ := blanks (s := s) (b := b) (d := s - p) (p := p) (by omega)
    have hsk := skip_eq h.1 h.2.1 b1 b2 b3 b4
    have hskM := skipM h.1 h.2.2.2.1 (p1 - p) (d + 1 - (p1 - p)) (by omega) (fun j a1 a2 => b3 j a1 (by omega))
    rw [show p1 - p + (d + 1 - (p1 - p)) = d + 1 by omega, show p + (p1 - p) = p1 by omega] at hskM
    rw [hskM]
    have hR := h.on1 (q := p1)
    have hk1 : KB K1 (tr_st N1 4 2 (nI p1)) := g1.tr (KB.st (by omega))
    have hk2 : KMB K2 (tr_st N2 1 14 (nI p1)) := g2.tr (KMB.st (by omega))
    generalize tr_st N1 4 2 (nI p1) = Q1 at *
    generalize tr_st N2 1 14 (nI p1) = Q2 at *
    have c120 : ¬ (120 : Int32) < nI i := by rw [show (120 : Int32) = nI 120 from rfl, nlt (by decide) (by omega)]; omega
    have hst1 : mX3_read_l36 (nI i, N1) = if nI p1 < nI s then Option.bind (mX3_readItem Q1) (fun c15 => if c15.1 = 0 then some (.inr (c15.2.1 4 2, c15.2)) else some (.inl (nI (i + 1), c15.2))) else some (.inr (-9, Q1)) := by
      unfold mX3_read_l36
      dsimp only
      rw [if_neg c120, hsk, Option.bind_some, hR.2.1.1, nI_clamp (by omega), isL_text ht, hR.2.1.2, hR.1.2.2.1, nadd1]
      rfl
    have hst2 : ¬ w.1 = 0 → mX7_faultOf_l36 (nI t) Q2 = if nI p1 < nI s then Option.bind (mX7_readsItem (nI t) Q2) (fun c21 => if c21.1 = 0 then some (.inr (.inr (c21.2.1 1 14, c21.2))) else some (.inl c21.2)) else some (.inr (.inl Q2)) := fun hw0 => by
      unfold mX7_faultOf_l36
      rw [tr_rd_nI ht (by decide), Option.bind_some, hR.1.2.2.2.2.1, hR.2.2.2.1]
      by_cases c : p1 < s
      · have c1 : nI p1 < nI s := (nlt (by omega) (by omega)).mpr c
        have hn := hR.2.2.2.2.2.1.1
        have c2 : ¬ nI w.1 = 0 := by rw [n00, neq (by omega) (by decide)]; exact hw0
        rw [if_pos c1, if_pos c1, byte_eq hR.1 (by omega), Option.bind_some, if_pos c, if_neg (b4 c), hR.2.2.2.2.1.1, if_neg c2]
      · have c1 : ¬ nI p1 < nI s := by rw [nlt (by omega) (by omega)]; exact c
        rw [if_neg c1, if_neg c1]
    have hw1 := hR.2.2.2.2.2.2.1
    have hst2 := hst2 (by omega)
    by_cases c : p1 < s
    · have c1 : nI p1 < nI s := (nlt (by omega) (by omega)).mpr c
      rw [if_pos c1] at hst1 hst2
      rcases item_both hR c with ⟨p', P1, P2, o1, o2, o3, o4, o5, o6, o7⟩ | ⟨p', w', P1, P2, o0, o1, o2, o3, o4, o5, o6⟩
      · rw [o1] at hst1
        rw [o3] at hst2
        simp only [Option.bind_some, if_true] at hst1 hst2
        rw [o2] at hst1
        rw [o4] at hst2
        refine ⟨nI p', P1, P2, tr_it_r hst1, Or.inr ⟨ne9 (by omega), ?_⟩, hk1.tr o5, hk2.tr o6⟩
        rw [show d + 1 - (p1 - p) = (d - (p1 - p)) + 1 by omega]
        exact tr_it_r hst2
      · rw [o2] at hst1
        rw [o3] at hst2
        simp only [Option.bind_some, if_neg (show ¬ (1 : Int32) = 0 by decide)] at hst1 hst2
        obtain ⟨res, S1, S2, q1, q2, q3, q4⟩ := ih (s - p') (by omega) p' w' P1 P2 (i + 1) rfl (by omega) (by omega) o4 (hk1.tr o5) (hk2.tr o6)
        refine ⟨res, S1, S2, ?_, ?_, q3, q4⟩
        · rw [tr_it_l hst1]
          exact tr_it_mono q1 (by omega)
        · rw [show d + 1 - (p1 - p) = (d - (p1 - p)) + 1 by omega, tr_it_l hst2]
          rcases q2 with ⟨z1, z2, z3⟩ | ⟨z1, z2⟩
          · exact Or.inl ⟨z1, tr_it_mono z2 (by omega), z3⟩
          · exact Or.inr ⟨z1, tr_it_mono z2 (by omega)⟩
    · have c1 : ¬ nI p1 < nI s := by rw [nlt (by omega) (by omega)]; exact c
      rw [if_neg c1] at hst1 hst2
      refine ⟨-9, Q1, Q2, tr_it_r hst1, Or.inl ⟨rfl, ?_, p1, w, hR⟩, hk1, hk2⟩
      rw [show d + 1 - (p1 - p) = (d - (p1 - p)) + 1 by omega]
      exact tr_it_r hst2
/-- a text is read, on both sides -/
theorem read_both {t s : Nat} {b : Nat → Int32} {M1 M2 : tr_M} (h : TX t s b M1 M2) : ∃ res P1 P2, mX3_read (74 + 2 * t) M1 = some (res, P1) ∧ mX7_faultOf (nI t) M2 = some (res, P2) ∧ KB M1 P1 ∧ KMB M2 P2 ∧ (res = -9 → ∃ p' w', RS t s b p' w' P1 P2) := by
  have hs := h.2.1
  have ht := h.1
  unfold mX3_read mX7_faultOf
  simp only [Option.bind_some]
  obtain ⟨C1, e1, e2, e3, e4⟩ := clear_wd (o := 5) (n := 0) (M := tr_st (tr_st M1 4 1 (nI (74 + 2 * t))) 4 2 0) len5
  rw [show mX5_clear 5 0 (tr_st (tr_st M1 4 1 (nI (74 + 2 * t))) 4 2 0) = some C1 from e1]
  have e5 : tr_loop mX7_faultOf_l17 (0, tr_st (tr_st (tr_st M2 1 14 0) 1 16 0) 1 17 0) = some (tr_row (tr_st (tr_st (tr_st M2 1 14 0) 1 16 0) 1 17 0) 10 (fl (M2.1 10) 0 100 0)) := by
    refine tr_loop_seq' (fun i => (nI i, tr_row (tr_st (tr_st (tr_st M2 1 14 0) 1 16 0) 1 17 0) 10 (fl (M2.1 10) 0 i 0))) 100 ?_ (by decide) (fun i hi => ?_) ?_
    · show (nI 0, tr_row _ 10 (fl (M2.1 10) 0 0 0)) = _
      rw [fl_0, tr_row_id (by rw [tr_st_ne (by decide), tr_st_ne (by decide), tr_st_ne (by decide)])]
      rfl
    · unfold mX7_faultOf_l17
      dsimp only
      have c1 : nI i < (100 : Int32) := by rw [show (100 : Int32) = nI 100 from rfl]; exact (nlt (by omega) (by decide)).mpr hi
      rw [if_pos c1, tr_wr_nI hi (by decide), Option.bind_some, tr_row_st, nadd1]
      have := @fl_s (M2.1 10) 0 i 0
      rw [Nat.zero_add] at this
      rw [this]
    · unfold mX7_faultOf_l17
      dsimp only
      rw [if_neg (show ¬ nI 100 < (100 : Int32) by decide)]
  rw [e5]
  dsimp only [Option.bind_some]
  have hkC : KB M1 C1 := ((KB.st (by omega)).tr (KB.st (by omega))).tr ⟨fun c hc => e3 c (by omega) (by omega), e4⟩
  have hcC : CR t 0 C1 := by
    refine ⟨?_, ?_⟩
    · rw [e3 4 (by decide) (by decide), tr_st_j (by decide), tr_st_s]
    · rw [e3 4 (by decide) (by decide), tr_st_s]; rfl
  have hkD : KMB M2 (tr_row (tr_st (tr_st (tr_st M2 1 14 0) 1 16 0) 1 17 0) 10 (fl (M2.1 10) 0 100 0)) := (((KMB.st (by omega)).tr (KMB.st (by omega))).tr (KMB.st (by omega))).tr ⟨fun c _ h1 _ => tr_row_ne h1, fun k _ => by rw [tr_row_ne (by decide)], rfl⟩
  have hmD : (tr_row (tr_st (tr_st (tr_st M2 1 14 0) 1 16 0) 1 17 0) 10 (fl (M2.1 10) 0 100 0)).1 1 14 = nI 0 := by
    rw [tr_row_ne (by decide), tr_st_j (by decide), tr_st_j (by decide), tr_st_s]; rfl
  have hrD : MR (w0 0) (tr_row (tr_st (tr_st (tr_st M2 1 14 0) 1 16 0) 1 17 0) 10 (fl (M2.1 10) 0 100 0)) := by
    refine ⟨?_, ?_, fun a c ha hc => ?_, fun k hk => absurd hk (Nat.not_lt_zero k)⟩
    · rw [tr_row_ne (by decide), tr_st_j (by decide), tr_st_s]; rfl
    · rw [tr_row_ne (by decide), tr_st_s]; rfl
    · rw [tr_row_s, fl_in (by omega) (by omega)]; rfl
  generalize tr_row (tr_st (tr_st (tr_st M2 1 14 0) 1 16 0) 1 17 0) 10 (fl (M2.1 10) 0 100 0) = D2 at *
  have hT := h.kb hkC hkD
  obtain ⟨p1, b1, b2, b3, b4⟩ := blanks (s := s) (b := b) (d := s) (p := 0) (by omega)
  rw [skip_eq hT hcC b1 b2 b3 b4]
  simp only [Option.bind_some]
  have hskM := skipM hT hmD p1 (121 - p1) (by omega) (fun j a1 a2 => b3 j a1 (by omega))
  rw [show p1 + (121 - p1) = 121 by omega, Nat.zero_add] at hskM
  have hcQ : CR t p1 (tr_st C1 4 2 (nI p1)) := ⟨by rw [tr_st_j (by decide)]; exact hcC.1, tr_st_s⟩
  have hkQ1 : KB M1 (tr_st C1 4 2 (nI p1)) := hkC.tr (KB.st (by omega))
  have hkQ2 : KMB M2 (tr_st D2 1 14 (nI p1)) := hkD.tr (KMB.st (by omega))
  have hmQ : (tr_st D2 1 14 (nI p1)).1 1 14 = nI p1 := tr_st_s
  have hrQ : MR (w0 0) (tr_st D2 1 14 (nI p1)) := MR0_st hrD
  generalize tr_st C1 4 2 (nI p1) = Q1 at *
  generalize tr_st D2 1 14 (nI p1) = Q2 at *
  have hTQ := h.kb hkQ1 hkQ2
  by_cases c : p1 < s
  · have c1 : nI p1 < nI s := (nlt (by omega) (by omega)).mpr c
    have hst2 : mX7_faultOf_l36 (nI t) Q2 = Option.bind (mX7_readsCount (nI t) Q2) (fun c19 => if c19.1 = 0 then some (.inr (.inr (c19.2.1 1 14, c19.2))) else some (.inl c19.2)) := by
      unfold mX7_faultOf_l36
      rw [tr_rd_nI ht (by decide), Option.bind_some, hTQ.2.2.2.2.1, hmQ, if_pos c1, byte_eq hTQ (by omega), Option.bind_some, if_pos c, if_neg (b4 c), hrQ.1]
      rfl
    rcases head_both hTQ hcQ hmQ hrQ c with ⟨p', P1, P2, o1, o2, o3, o4, o5, o6, o7⟩ | ⟨p', w', P1, P2, o0, o1, o2, o3, o4, o5, o6⟩
    · rw [o1]
      rw [o3] at hst2
      simp only [Option.bind_some, if_true] at hst2 ⊢
      rw [o4] at hst2
      have el : tr_loop (mX7_faultOf_l36 (nI t)) D2 = some (.inr (nI p', P2)) := by
        refine tr_loop_of (n := 121) ?_ (by decide)
        rw [hskM, show 121 - p1 = (120 - p1) + 1 by omega]
        exact tr_it_r hst2
      rw [el, o2]
      exact ⟨nI p', P1, P2, rfl, rfl, hkQ1.tr o5, hkQ2.tr o6, fun e => absurd e (ne9 (by omega))⟩
    · rw [o2]
      rw [o3] at hst2
      simp only [Option.bind_some, if_neg (show ¬ (1 : Int32) = 0 by decide)] at hst2 ⊢
      obtain ⟨res, S1, S2, q1, q2, q3, q4⟩ := items_both (s - p') p' w' P1 P2 0 rfl (by omega) (by omega) o4 (hkQ1.tr o5) (hkQ2.tr o6)
      rw [show tr_loop mX3_read_l36 (0, P1) = some (res, S1) from tr_loop_of q1 (by omega)]
      rcases q2 with ⟨rfl, z2, p'', w'', z3⟩ | ⟨z1, z2⟩
      · have el : tr_loop (mX7_faultOf_l36 (nI t)) D2 = some (.inl S2) := by
          refine tr_loop_of (n := 121) ?_ (by decide)
          rw [hskM, show 121 - p1 = (120 - p1) + 1 by omega, tr_it_l hst2]
          exact tr_it_mono z2 (by omega)
        rw [el]
        dsimp only [Option.bind_some, tr_el]
        have hn := z3.2.2.2.2.2.1.1
        have hw1 := z3.2.2.2.2.2.2.1
        have c2 : ¬ S2.1 1 16 = 0 := by rw [z3.2.2.2.2.1.1, n00, neq (by omega) (by decide)]; omega
        rw [if_neg c2]
        exact ⟨-9, S1, S2, rfl, rfl, q3, q4, fun _ => ⟨p'', w'', z3⟩⟩
      · have el : tr_loop (mX7_faultOf_l36 (nI t)) D2 = some (.inr (res, S2)) := by
          refine tr_loop_of (n := 121) ?_ (by decide)
          rw [hskM, show 121 - p1 = (120 - p1) + 1 by omega, tr_it_l hst2]
          exact tr_it_mono z2 (by omega)
        rw [el]
        exact ⟨res, S1, S2, rfl, rfl, q3, q4, fun e => absurd e z1⟩
  · have hps : p1 = s := by omega
    have c1 : ¬ nI p1 < nI s := by rw [nlt (by omega) (by omega)]; exact c
    have hh : mX3_readHead Q1 = some (0, Q1) := by
      unfold mX3_readHead
      rw [sign_eq hTQ hcQ (by omega), if_neg c, Option.bind_some, if_neg (by decide)]
    rw [hh]
    simp only [Option.bind_some, if_true]
    have hst2 : mX7_faultOf_l36 (nI t) Q2 = some (.inr (.inl Q2)) := by
      unfold mX7_faultOf_l36
      rw [tr_rd_nI ht (by decide), Option.bind_some, hTQ.2.2.2.2.1, hmQ, if_neg c1]
    have el : tr_loop (mX7_faultOf_l36 (nI t)) D2 = some (.inl Q2) := by
      refine tr_loop_of (n := 121) ?_ (by decide)
      rw [hskM, show 121 - p1 = (120 - p1) + 1 by omega]
      exact tr_it_r hst2
    rw [el]
    dsimp only [Option.bind_some, tr_el]
    rw [hrQ.1, if_pos (show nI (w0 0).1 = 0 from rfl), tr_rd_nI ht (by decide), hTQ.2.2.2.2.1, hcQ.2, hps]
    exact ⟨nI s, Q1, Q2, rfl, rfl, hkQ1, hkQ2, fun e => absurd e (ne9 (by omega))⟩
