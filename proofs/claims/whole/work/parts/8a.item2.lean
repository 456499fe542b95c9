def Out (t s : Nat) (b : Nat → Int32) (p : Nat) (N1 N2 : tr_M) (r1 r2 : Option (Int32 × tr_M)) : Prop := (∃ p' P1 P2, r1 = some (0, P1) ∧ P1.1 4 2 = nI p' ∧ r2 = some (0, P2) ∧ P2.1 1 14 = nI p' ∧ KB N1 P1 ∧ KMB N2 P2 ∧ p' ≤ s) ∨ (∃ p' w' P1 P2, p < p' ∧ p' ≤ s ∧ r1 = some (1, P1) ∧ r2 = some (1, P2) ∧ RS t s b p' w' P1 P2 ∧ KB N1 P1 ∧ KMB N2 P2)
theorem he19 {n : Nat} (hn : n ≤ 10) : ∀ v, v < n → (nI v = -9 ↔ nI v = -1) := fun v hv => ⟨fun e => absurd e (ne9 (by omega)), fun e => absurd e (ne1 (by omega))⟩
theorem in_let {y : Nat} (hy : y < 10) : mX7_in (nI (65 + y)) 65 90 = 1 ∧ mX7_kindOf (nI (65 + y)) = -9 := by
  have : ∀ y : Fin 10, mX7_in (nI (65 + y.1)) 65 90 = 1 ∧ mX7_kindOf (nI (65 + y.1)) = -9 := by decide +kernel
  exact this ⟨y, hy⟩
theorem tie_both {t s p x : Nat} {b : Nat → Int32} {w : Wd} {N1 N2 : tr_M} (h : RS t s b p w N1 N2) (hx : x < w.1) (hp : p ≤ 150) {y : Nat} (hy : y < w.1) (hxy : x ≠ y) (hps : p ≤ s) {K1 K2 : tr_M} (k1 : KB K1 N1) (k2 : KMB K2 N2) {p0 : Nat} (hp0 : p0 < p) (hN : N2.1 1 15 = nI y) : Out t s b p0 K1 K2 (mX3_readTie (nI x) (nI y) N1) (Option.bind (mX7_figure (nI t) N2) fun c3 => if c3.1 = 0 then some ((0 : Int32), c3.2) else Option.bind (tr_wr 100 c3.2 10 ((10 : Int32) * nI x + N2.1 1 15) (c3.2.1 1 15)) fun M5 => Option.bind (tr_wr 100 M5 10 ((10 : Int32) * N2.1 1 15 + nI x) (M5.1 1 15)) fun M7 => some ((1 : Int32), M7)) := by
  unfold mX3_readTie
  rcases fig_both h.1 h.2.1 h.2.2.2.1 (by omega) with ⟨v, hv, hlt, f1, f2, f3, f4⟩ | ⟨f1, ⟨z, f2⟩, f3⟩
  · right
    have hR := h.on (q := p + 1) (x := nI v)
    rw [f1, f2, f3, hN]
    simp only [Option.bind_some, if_neg (show ¬ (1 : Int32) = 0 by decide)]
    obtain ⟨P1, P2, e1, e2, e3, e4, e5⟩ := tieF_both hR hx hy hxy hv (by rw [tr_st_j (by decide), tr_st_s])
    rw [e1]
    refine ⟨p + 1, _, P1, P2, by omega, by omega, rfl, e2, e3, (k1.tr (KB.st (by omega))).tr e4, (k2.tr ((KMB.st (by omega)).tr (KMB.st (by omega)))).tr e5⟩
  · left
    rw [f1, f2]
    exact ⟨p, N1, _, rfl, h.2.1.2, rfl, tr_st_s, k1, k2.tr ((KMB.st (by omega)).tr (KMB.st (by omega))), hps⟩
theorem rule_rd {t s p x k : Nat} {b : Nat → Int32} {w : Wd} {N1 N2 : tr_M} (h : RS t s b p w N1 N2) (h8 : w.2.2.1 < 8) (hx : x < w.1) (hp : p ≤ 150) (hps : p ≤ s) (hk0 : 1 ≤ k) (hk6 : k ≤ 6) {K1 K2 : tr_M} (k1 : KB K1 N1) (k2 : KMB K2 N2) {p0 : Nat} (hp0 : p0 < p) : Out t s b p0 K1 K2 (mX3_readRule (nI k) (nI x) N1) (Option.bind (show Option (Int32) from if nI k = (3 : Int32) then some (1 : Int32) else if nI k = (4 : Int32) then some (1 : Int32) else some (0 : Int32)) fun v15 => Option.bind (show Option (tr_M ⊕ (Int32 × tr_M)) from if v15 = 0 then Option.bind (mX7_thing (nI t) (nI x) (-1) N2) fun c17 => if c17.1 = 0 then some (.inr ((0 : Int32), c17.2)) else some (.inl c17.2) else Option.bind (mX7_figure (nI t) N2) fun c19 => if c19.1 = 0 then some (.inr ((0 : Int32), c19.2)) else some (.inl c19.2)) (tr_el fun v16 => Option.bind (show Option (tr_M ⊕ (Int32 × tr_M)) from if nI k = (6 : Int32) then Option.bind (mX7_thing (nI t) (nI x) (v16.1 1 15) v16) fun c22 => if c22.1 = 0 then some (.inr ((0 : Int32), c22.2)) else some (.inl c22.2) else some (.inl v16)) (tr_el fun v21 => mRul (nI k) (nI x) v16 v21))) := by
  have hn := h.2.2.2.2.2.1.1
  have he9 := he19 hn
  unfold mX3_readRule
  have hfail : ∀ (q : Nat) (P1 P2 : tr_M) (z : Int32), P1.1 4 2 = nI q → KB K1 P1 → KMB K2 P2 → q ≤ s → Out t s b p0 K1 K2 (some (0, P1)) (some (0, tr_st (tr_st P2 1 15 z) 1 14 (nI q))) := fun q P1 P2 z e g1 g2 g3 => Or.inl ⟨q, P1, _, rfl, e, rfl, tr_st_s, g1, g2.tr ((KMB.st (by omega)).tr (KMB.st (by omega))), g3⟩
  by_cases kp : k = 3 ∨ k = 4
  · have e1 : (if nI k = (3 : Int32) then some (1 : Int32) else if nI k = (4 : Int32) then some (1 : Int32) else some (0 : Int32)) = some 1 := by rcases kp with rfl | rfl <;> rfl
    have e6 : ¬ nI k = (6 : Int32) := by rcases kp with rfl | rfl <;> decide
    rw [e1]
    dsimp only [Option.bind_some]
    simp only [if_neg (show ¬ (1 : Int32) = 0 by decide), if_neg e6]
    rcases fig_both h.1 h.2.1 h.2.2.2.1 (by omega) with ⟨v, hv, hlt, f1, f2, f3, f4⟩ | ⟨f1, ⟨z, f2⟩, f3⟩
    · have hR := h.on (q := p + 1) (x := nI v)
      rw [f1, f2, f3]
      simp only [Option.bind_some, if_neg (show ¬ (1 : Int32) = 0 by decide), tr_el]
      obtain ⟨P1, P2, g1, g2, g3, g4, g5⟩ := rul_both (V16 := tr_st (tr_st N2 1 15 (nI v)) 1 14 (nI (p + 1))) (kd := k) (x := x) (y := v) (z := 0) (pz := 0) hR h8 (Or.inr (Or.inr (Or.inl ⟨kp, hx, hv, rfl⟩))) hk0 hk6 (by rw [tr_st_j (by decide), tr_st_s]) (by rw [if_neg e6]; rfl) (by rw [if_neg e6]; rfl)
      rw [g1, g2]
      right
      exact ⟨p + 1, _, P1, P2, by omega, by omega, rfl, rfl, g3, (k1.tr (KB.st (by omega))).tr g4, (k2.tr ((KMB.st (by omega)).tr (KMB.st (by omega)))).tr g5⟩
    · rw [f1, f2]
      exact hfail p N1 N2 z h.2.1.2 k1 k2 hps
  · have e1 : (if nI k = (3 : Int32) then some (1 : Int32) else if nI k = (4 : Int32) then some (1 : Int32) else some (0 : Int32)) = some 0 := by
      rw [if_neg (by rw [show (3 : Int32) = nI 3 from rfl, neq (by omega) (by decide)]; omega), if_neg (by rw [show (4 : Int32) = nI 4 from rfl, neq (by omega) (by decide)]; omega)]
    rw [e1]
    dsimp only [Option.bind_some]
    simp only [if_true]
    rcases thg_both h.1 h.2.1 h.2.2.2.1 (by omega) hn h.2.2.1.1 h.2.2.2.2.1.1 (nI x) (-9) (nI x) (-1) (fun _ _ => Iff.rfl) he9 with ⟨y, hy, hlt, y1, y2, f1, f2, f3, f4⟩ | ⟨f1, ⟨z, f2⟩, f3⟩
    · have hxy : x ≠ y := fun e => y1 (by rw [e])
      have hR := h.on (q := p + 1) (x := nI y)
      rw [f1, f2, f3]
      simp only [Option.bind_some, if_neg (show ¬ (1 : Int32) = 0 by decide), tr_el]
      have h15 : (tr_st (tr_st N2 1 15 (nI y)) 1 14 (nI (p + 1))).1 1 15 = nI y := by rw [tr_st_j (by decide), tr_st_s]
      by_cases k6 : k = 6
      · subst k6
        simp only [if_pos (show nI 6 = 6 from rfl), h15]
        rcases thg_both hR.1 hR.2.1 hR.2.2.2.1 (by omega) hn hR.2.2.1.1 hR.2.2.2.2.1.1 (nI x) (nI y) (nI x) (nI y) (fun _ _ => Iff.rfl) (fun _ _ => Iff.rfl) with ⟨z, hz, hltz, z1, z2, f5, f6, f7, f8⟩ | ⟨f5, ⟨z, f6⟩, f7⟩
        · have hR2 := hR.on (q := p + 1 + 1) (x := nI z)
          rw [f5, f6, f7]
          simp only [Option.bind_some, if_neg (show ¬ (1 : Int32) = 0 by decide), tr_el]
          obtain ⟨P1, P2, g1, g2, g3, g4, g5⟩ := rul_both (V16 := tr_st (tr_st N2 1 15 (nI y)) 1 14 (nI (p + 1))) (kd := 6) (x := x) (y := y) (z := z) (pz := nI z) hR2 h8 (Or.inr (Or.inr (Or.inr ⟨rfl, hx, hy, hz, hxy, fun e => z1 (by rw [show x = z from e]), fun e => z2 (by rw [show y = z from e])⟩))) hk0 hk6 h15 (if_pos rfl) (by rw [if_pos (show nI 6 = 6 from rfl), tr_st_j (by decide), tr_st_s])
          rw [g1, g2]
          right
          exact ⟨p + 1 + 1, _, P1, P2, by omega, by omega, rfl, rfl, g3, ((k1.tr (KB.st (by omega))).tr (KB.st (by omega))).tr g4, ((k2.tr ((KMB.st (by omega)).tr (KMB.st (by omega)))).tr ((KMB.st (by omega)).tr (KMB.st (by omega)))).tr g5⟩
        · rw [f5, f6]
          exact hfail (p + 1) _ _ z hR.2.1.2 (k1.tr (KB.st (by omega))) (k2.tr ((KMB.st (by omega)).tr (KMB.st (by omega)))) (by omega)
      · have e6 : ¬ nI k = (6 : Int32) := by rw [show (6 : Int32) = nI 6 from rfl, neq (by omega) (by decide)]; exact k6
        simp only [if_neg e6, Option.bind_some, tr_el]
        obtain ⟨P1, P2, g1, g2, g3, g4, g5⟩ := rul_both (V16 := tr_st (tr_st N2 1 15 (nI y)) 1 14 (nI (p + 1))) (kd := k) (x := x) (y := y) (z := 0) (pz := 0) hR h8 (Or.inr (Or.inl ⟨by omega, hx, hy, hxy, rfl⟩)) hk0 hk6 h15 (by rw [if_neg e6]; rfl) (by rw [if_neg e6]; rfl)
        rw [g1, g2]
        right
        exact ⟨p + 1, _, P1, P2, by omega, by omega, rfl, rfl, g3, (k1.tr (KB.st (by omega))).tr g4, (k2.tr ((KMB.st (by omega)).tr (KMB.st (by omega)))).tr g5⟩
    · rw [f1, f2]
      exact hfail p N1 N2 z h.2.1.2 k1 k2 hps
theorem Out.gd {t s p : Nat} {b : Nat → Int32} {N1 N2 : tr_M} {r1 r2 : Option (Int32 × tr_M)} (h : Out t s b p N1 N2 r1 r2) : Out t s b p N1 N2 (Option.bind r1 fun c => Option.bind (tr_gd (c.1 &&& 1 == c.1)) fun _ => some (c.1, c.2)) r2 := by
  rcases h with ⟨p', P1, P2, e1, e2⟩ | ⟨p', w', P1, P2, e1, e2, e3, e4⟩
  · left
    refine ⟨p', P1, P2, ?_, e2⟩
    rw [e1, Option.bind_some, show tr_gd ((0 : Int32) &&& 1 == 0) = some () by decide, Option.bind_some]
  · right
    refine ⟨p', w', P1, P2, e1, e2, ?_, e4⟩
    rw [e3, Option.bind_some, show tr_gd ((1 : Int32) &&& 1 == 1) = some () by decide, Option.bind_some]
theorem Out.r2 {t s p : Nat} {b : Nat → Int32} {N1 N2 : tr_M} {r1 r2 : Option (Int32 × tr_M)} (h : Out t s b p N1 N2 r1 r2) : Out t s b p N1 N2 r1 (Option.bind r2 fun c => if c.1 = 0 then some ((0 : Int32), c.2) else some ((1 : Int32), c.2)) := by
  rcases h with ⟨p', P1, P2, e1, e2, e3, e4⟩ | ⟨p', w', P1, P2, e1, e2, e3, e4, e5⟩
  · left; rw [e3]; exact ⟨p', P1, P2, e1, e2, rfl, e4⟩
  · right; rw [e4]; exact ⟨p', w', P1, P2, e1, e2, e3, rfl, e5⟩
theorem item_both {t s p : Nat} {b : Nat → Int32} {w : Wd} {N1 N2 : tr_M} (h : RS t s b p w N1 N2) (hp : p < s) : Out t s b p N1 N2 (mX3_readItem N1) (mX7_readsItem (nI t) N2) := by
  have hn := h.2.2.2.2.2.1.1
  have h8' := h.2.2.2.2.2.1.2.2.2.2.1
  have hs := h.1.2.1
  have he9 := he19 hn
  unfold mX3_readItem mX7_readsItem
  rcases thg_both h.1 h.2.1 h.2.2.2.1 (by omega) hn h.2.2.1.1 h.2.2.2.2.1.1 (-9) (-9) (-1) (-1) he9 he9 with ⟨x, hx, hlt, x1, x2, f1, f2, f3, f4⟩ | ⟨f1, ⟨z, f2⟩, f3⟩
  · have hR := h.on (q := p + 1) (x := nI x)
    rw [f1, f2, f3]
    simp only [Option.bind_some, if_neg (show ¬ (1 : Int32) = 0 by decide)]
    have h15 : (tr_st (tr_st N2 1 15 (nI x)) 1 14 (nI (p + 1))).1 1 15 = nI x := by rw [tr_st_j (by decide), tr_st_s]
    have hk1 : KB N1 (tr_st N1 4 2 (nI (p + 1))) := KB.st (by omega)
    have hk2 : KMB N2 (tr_st (tr_st N2 1 15 (nI x)) 1 14 (nI (p + 1))) := (KMB.st (by omega)).tr (KMB.st (by omega))
    have h4p := h.2.1.2
    have h14p := h.2.2.2.1
    generalize tr_st N1 4 2 (nI (p + 1)) = Q1 at *
    generalize tr_st (tr_st N2 1 15 (nI x)) 1 14 (nI (p + 1)) = Q2 at *
    rw [hR.2.2.2.1, byte_eq hR.1 (show p + 1 ≤ 200 by omega), h15]
    simp only [Option.bind_some]
    rcases thg_both hR.1 hR.2.1 hR.2.2.2.1 (by omega) hn hR.2.2.1.1 hR.2.2.2.2.1.1 (nI x) (-9) (nI x) (-1) (fun _ _ => Iff.rfl) he9 with ⟨y, hy, hlty, y1, y2, g1, g2, g3, g4⟩ | ⟨g1, ⟨z, g2⟩, g3⟩
    · have hxy : x ≠ y := fun e => y1 (by rw [e])
      have hR2 := hR.on (q := p + 1 + 1) (x := nI y)
      obtain ⟨i1, i2⟩ := in_let (show y < 10 by omega)
      rw [g1, if_pos hlty, g4, i1, i2, g2]
      simp only [Option.bind_some, if_neg (show ¬ (1 : Int32) = 0 by decide), if_true]
      unfold mX7_readsTie
      rw [g3]
      simp only [Option.bind_some, if_neg (show ¬ (1 : Int32) = 0 by decide)]
      have := tie_both hR2 hx (by omega) hy hxy (by omega) (hk1.tr (KB.st (by omega))) (hk2.tr ((KMB.st (by omega)).tr (KMB.st (by omega)))) (p0 := p) (by omega) (by rw [tr_st_j (by decide), tr_st_s])
      exact this.gd.r2
    · rw [g1]
      simp only [if_true, Option.bind_some]
      rw [sign_eq hR.1 hR.2.1 (show p + 1 ≤ 200 by omega)]
      simp only [Option.bind_some]
      by_cases c : p + 1 < s
      · rw [if_pos c, if_pos c]
        rcases kind_tab (b (p + 1)) with ⟨t1, t2⟩ | ⟨k, hk1', hk6, t1, t2, t3⟩
        · rw [t1, t2]
          simp only [if_true]
          by_cases q : mX7_in (b (p + 1)) 65 90 = 0
          · rw [if_pos q]
            left
            exact ⟨p + 1, Q1, Q2, rfl, hR.2.1.2, rfl, hR.2.2.2.1, hk1, hk2, by omega⟩
          · rw [if_neg q]
            unfold mX7_readsTie
            rw [g2]
            left
            exact ⟨p + 1, Q1, _, rfl, hR.2.1.2, rfl, tr_st_s, hk1, hk2.tr ((KMB.st (by omega)).tr (KMB.st (by omega))), by omega⟩
        · rw [t1, t2]
          have hk0 : ¬ nI k = 0 := by rw [n00, neq (by omega) (by decide)]; omega
          rw [if_neg hk0, if_neg (ne9 (show k < 1000 by omega)), hR.2.2.1.2.1, hR.2.2.2.2.1.2.1]
          simp (disch := omega) only [show (8 : Int32) = nI 8 from rfl, neq]
          by_cases r8 : w.2.2.1 = 8
          · rw [if_pos r8, if_pos r8, h4p, h14p]
            left
            exact ⟨p, _, _, rfl, tr_st_s, rfl, tr_st_s, hk1.tr (KB.st (by omega)), hk2.tr (KMB.st (by omega)), by omega⟩
          · rw [if_neg r8, if_neg r8, hR.2.1.2, nadd1]
            have := rule_rd (k := k) (hR.on1 (q := p + 1 + 1)) (by omega) hx (by omega) (by omega) hk1' hk6 (hk1.tr (KB.st (by omega))) (hk2.tr (KMB.st (by omega))) (p0 := p) (by omega)
            exact this.gd
      · rw [if_neg c, if_neg c]
        simp only [if_pos (show mX3_kindOf (-9) = 0 by decide), if_pos (show mX7_kindOf 0 = -9 by decide), if_pos (show mX7_in 0 65 90 = 0 by decide)]
        left
        exact ⟨p + 1, Q1, Q2, rfl, hR.2.1.2, rfl, hR.2.2.2.1, hk1, hk2, by omega⟩
  · left
    rw [f1, f2]
    exact ⟨p, N1, _, rfl, h.2.1.2, rfl, tr_st_s, KB.rf, (KMB.st (by omega)).tr (KMB.st (by omega)), by omega⟩
