/-- as need_call, where the model asks for the least alone -/
theorem val_call {w : Wd} {m : Nat} {M1 M2 : tr_M} (h : InvE w M1 M2) (hm : m ≤ 4) {F1 : Nat → tr_M → Option (Int32 × tr_M)} {F2 : Int32 × tr_M → Option (Int32 × tr_M)} (hF : ∀ N1 N2, KL M1 N1 → KX M2 N2 → InvE w N1 N2 → Cc w none m N1 → Al w none ≠ [] → ¬ spent w m → ResE w (F1 (rf m) N1) (F2 (nI (VL w none m), N2))) : ResE w (Option.bind (mX6_leastsOf (nI m) M1) (fun c => if c.1 = 0 then Option.bind (mX6_noLeast (nI m) c.2) (fun d => some (d.1, d.2)) else F1 c.1 c.2)) (if mX7_isTooLong (nI m) M2 = 0 then Option.bind (mX7_leastOf (nI m) M2) (fun c => if c.1 < 1000000 then F2 c else Option.bind (mX7_meets 4 c.2) (fun d => some (d.1, d.2))) else some (-6, M2)) := by
  have hI := h
  obtain ⟨h1, ⟨hok, hw, hmw⟩, h3, h4, h5⟩ := h
  obtain ⟨q, N1, e1, e2, e3, e4⟩ := leastsOf_eq hok hw h4 trivial h3 (show m ≤ 5 by omega)
  have hrf : rf m ≠ 0 := by unfold rf; split <;> omega
  rw [e1, Option.bind_some]
  dsimp only
  rcases tooLong_eq hok hmw.1 hm with ⟨s1, s2⟩ | ⟨s1, s2⟩
  · rw [s2, if_neg (show ¬ (1 : Int32) = 0 by decide)]
    rcases e4 with ⟨rfl, -⟩ | ⟨x, -⟩
    · rw [if_pos rfl]
      unfold mX6_noLeast
      rcases isSpent_eq hok (hw.kl e2).1 (show m ≤ 5 by omega) with ⟨-, t⟩ | ⟨t, -⟩
      · rw [t, if_neg (show ¬ (1 : Int32) = 0 by decide)]
        exact ResE.same (hI.kl e2 KX.rf e3)
      · exact absurd s1 t
    · exact absurd s1 x
  · rw [s2, if_pos rfl]
    obtain ⟨N, n1, n2, n3, n4⟩ := leastOf_eq hok hmw h5 trivial hm
    have hle := VL_le w none m
    have hNV : NV = 1000000 := rfl
    rw [n1, Option.bind_some]
    dsimp only
    have hlt : (nI (VL w none m) < (1000000 : Int32)) ↔ VL w none m < NV := nlt (b := NV) (by omega) (by omega)
    have hI2 := hI.kl e2 n4 e3
    rcases e4 with ⟨rfl, x | x⟩ | ⟨-, x, rfl, x2⟩
    · exact absurd x s1
    · rw [if_pos rfl, if_neg (fun c => (VL_lt (pin := none) hok trivial m).mp (hlt.mp c) x)]
      unfold mX6_noLeast
      rcases isSpent_eq hok (hw.kl e2).1 (show m ≤ 5 by omega) with ⟨t, -⟩ | ⟨-, t⟩
      · exact absurd t s1
      · rw [t, if_pos rfl]
        obtain ⟨r, A, B, a1, a2, a3⟩ := hI2.res2 (meets_res hI2.1 (q := 4) (by decide))
        have a1' : (Option.bind (mX6_found 4 N1) fun c => some (c.1, c.2)) = some (r, A) := a1
        have a2' : (Option.bind (mX7_meets 4 N) fun c => some (c.1, c.2)) = some (r, B) := a2
        rw [a1', a2']
        exact ⟨r, A, B, rfl, rfl, a3⟩
    · rw [if_neg hrf, if_pos (hlt.mpr ((VL_lt (pin := none) hok trivial m).mpr x))]
      exact hF N1 N e2 n4 hI2 x2 x s1
theorem unlike_cases {w : Wd} {M1 M2 : tr_M} (h : IWd w M1 M2) (p2 p3 : Int32) : (mX5_areUnlike 26 p2 p3 M1 = 0 ∧ ((mX7_isThing p2 M2 = some 0) ∨ (mX7_isThing p2 M2 = some 1 ∧ mX7_isThing p3 M2 = some 0) ∨ (mX7_isThing p2 M2 = some 1 ∧ mX7_isThing p3 M2 = some 1 ∧ p2 = p3))) ∨ ∃ a b, a < w.1 ∧ b < w.1 ∧ a ≠ b ∧ p2 = nI a ∧ p3 = nI b ∧ mX5_areUnlike 26 p2 p3 M1 = 1 ∧ mX7_isThing p2 M2 = some 1 ∧ mX7_isThing p3 M2 = some 1 := by
  have hn := h.1.1
  unfold mX5_areUnlike
  rcases thing_cases h p2 with ⟨j1, j2⟩ | ⟨a, ha, rfl, j1, j2⟩
  · left
    rw [j1]
    exact ⟨rfl, Or.inl j2⟩
  · rcases thing_cases h p3 with ⟨k1, k2⟩ | ⟨b, hb, rfl, k1, k2⟩
    · left
      rw [j1, k1]
      exact ⟨rfl, Or.inr (Or.inl ⟨j2, k2⟩)⟩
    · rw [j1, k1]
      by_cases e : a = b
      · left
        subst e
        exact ⟨by simp, Or.inr (Or.inr ⟨j2, k2, rfl⟩)⟩
      · right
        refine ⟨a, b, ha, hb, e, rfl, rfl, ?_, j2, k2⟩
        have : ¬ nI a = nI b := by rw [neq (by omega) (by omega)]; exact e
        simp [this]
/-- what calls that change the world for a while leave alone -/
def KT (M N : tr_M) : Prop := (∀ c, 57 ≤ c → c ≠ 58 → c ≠ 59 → c ≠ 60 → c ≠ 61 → N.1 c = M.1 c) ∧ (∀ k, k < 15 → N.1 1 k = M.1 1 k) ∧ N.2 = M.2
def KY (M N : tr_M) : Prop := (∀ c, c < 8 → c ≠ 1 → c ≠ 5 → N.1 c = M.1 c) ∧ (∀ k, k < 27 → N.1 1 k = M.1 1 k) ∧ N.2 = M.2
theorem KT.tr {M N P : tr_M} (h : KT M N) (g : KT N P) : KT M P := ⟨fun c a b d e f => (g.1 c a b d e f).trans (h.1 c a b d e f), fun k a => (g.2.1 k a).trans (h.2.1 k a), g.2.2.trans h.2.2⟩
theorem KY.tr {M N P : tr_M} (h : KY M N) (g : KY N P) : KY M P := ⟨fun c a b d => (g.1 c a b d).trans (h.1 c a b d), fun k a => (g.2.1 k a).trans (h.2.1 k a), g.2.2.trans h.2.2⟩
theorem KL.kt {M N : tr_M} (h : KL M N) : KT M N := ⟨fun c _ _ _ _ _ => h.1 c (by omega) (by omega), fun k _ => h.2.1 k (by omega) (by omega), h.2.2.2⟩
theorem KX.ky {M N : tr_M} (h : KX M N) : KY M N := ⟨fun c _ _ _ => h.1 c (by omega) (by omega) (by omega), fun k _ => h.2.1 k (by omega), h.2.2⟩
theorem KT.fg {M : tr_M} : KT M (tr_st (tr_st M 1 15 (-9)) 1 16 (nI 0)) := ((KL.st (Or.inl rfl)).tr (KL.st (Or.inr rfl))).kt
theorem ITF.kt {M1 M2 N1 N2 : tr_M} (h : ITF M1 M2) (h1 : KT M1 N1) (h2 : KY M2 N2) : ITF N1 N2 := h.congr h1.1 h1.2.1 h1.2.2 h2.1 (fun k hk => h2.2.1 k (by omega)) (fun k _ => by rw [h2.2.2])
/-- the least of a measure in a world of which nothing is kept -/
theorem cval {w : Wd} {pin : Option (Nat × Nat)} {m : Nat} {v : Int32} {P : tr_M} (hok : WOk w) (hw : CWd w 26 P) (hp : PinM pin P) (hpo : pinOk w.1 pin) (h15 : P.1 1 15 = -9) (hm : m ≤ 4) (hs : ¬ spent w m) : ∃ q Q, mX6_leastsOf (nI m) P = some (q, Q) ∧ KL P Q ∧ mX6_valueOr q v Q = some (if Al w pin = [] then v else nI (VL w pin m)) := by
  obtain ⟨q, Q, e1, e2, e3, e4⟩ := leastsOf_eq hok hw hp hpo (Or.inl h15) (show m ≤ 5 by omega)
  have hrf : rf m ≠ 0 := by unfold rf; split <;> omega
  refine ⟨q, Q, e1, e2, ?_⟩
  unfold mX6_valueOr
  rcases e4 with ⟨rfl, x | x⟩ | ⟨-, x, rfl, x2⟩
  · exact absurd x hs
  · rw [if_pos rfl, if_pos x]
  · rw [if_neg hrf, if_neg x, lo_value hok hpo x2.2.2, Option.bind_some]
theorem wt2_back {w : Wd} (hok : WOk w) (a b v : Nat) : wdW (wdW w (wt2 w.2.1 a b v)) (wt2 (wdW w (wt2 w.2.1 a b v)).2.1 a b (w.2.1 a b)) = w := by
  have : wt2 (wdW w (wt2 w.2.1 a b v)).2.1 a b (w.2.1 a b) = w.2.1 := funext fun x => funext fun y => by
    rw [wt2_eq]
    by_cases c : (x = a ∧ y = b) ∨ (x = b ∧ y = a)
    · rw [if_pos c]
      rcases c with ⟨rfl, rfl⟩ | ⟨rfl, rfl⟩
      · rfl
      · exact hok.2.2.1 _ _
    · rw [if_neg c]
      show wt2 w.2.1 a b v x y = w.2.1 x y
      rw [wt2_eq, if_neg c]
  rw [this]
  rfl
theorem wt2_same {w : Wd} (hok : WOk w) (a b : Nat) : wdW w (wt2 w.2.1 a b (w.2.1 a b)) = w := by
  have : wt2 w.2.1 a b (w.2.1 a b) = w.2.1 := funext fun x => funext fun y => by
    rw [wt2_eq]
    by_cases c : (x = a ∧ y = b) ∨ (x = b ∧ y = a)
    · rw [if_pos c]
      rcases c with ⟨rfl, rfl⟩ | ⟨rfl, rfl⟩
      · rfl
      · exact hok.2.2.1 _ _
    · rw [if_neg c]
  rw [this]
  rfl
theorem r_costs {w : Wd} {M1 M2 : tr_M} (h : InvE w M1 M2) (p1 p2 p3 : Int32) : ResE w (mX6_costs p1 p2 p3 M1) (mX7_costs p1 p2 p3 M2) := by
  have hn := h.2.1.1.1
  unfold mX6_costs mX7_costs
  rcases isMeasure_cases p1 with ⟨i1, i2⟩ | ⟨m, hm, rfl, i1, i2⟩
  · rw [i1, i2, if_pos rfl, Option.bind_some, if_pos rfl]
    exact ResE.same h
  rw [i1, i2, if_neg (show ¬ (1 : Int32) = 0 by decide), Option.bind_some, if_neg (show ¬ (1 : Int32) = 0 by decide)]
  rcases unlike_cases h.2.1 p2 p3 with ⟨u1, u2⟩ | ⟨a, b, ha, hb, hab, rfl, rfl, u1, u2, u3⟩
  · rw [u1, if_pos rfl]
    rcases u2 with u2 | ⟨u2, u3⟩ | ⟨u2, u3, u4⟩
    · rw [u2, Option.bind_some, if_pos rfl]
      exact ResE.same h
    · rw [u2, Option.bind_some, if_neg (show ¬ (1 : Int32) = 0 by decide), u3, Option.bind_some, if_pos rfl]
      exact ResE.same h
    · rw [u2, Option.bind_some, if_neg (show ¬ (1 : Int32) = 0 by decide), u3, Option.bind_some, if_neg (show ¬ (1 : Int32) = 0 by decide), if_pos u4]
      exact ResE.same h
  rw [u1, if_neg (show ¬ (1 : Int32) = 0 by decide), u2, Option.bind_some, if_neg (show ¬ (1 : Int32) = 0 by decide), u3, Option.bind_some, if_neg (show ¬ (1 : Int32) = 0 by decide), if_neg (show ¬ nI a = nI b by rw [neq (by omega) (by omega)]; exact hab)]
  refine val_call h hm (F1 := fun q N => Option.bind (tr_ra 10 (fun i => 28 + i) (nI a)) (fun r9 => Option.bind (tr_rd 10 N r9 (nI b)) (fun a11 => if a11 = 0 then some ((0 : Int32), N) else Option.bind (mLO_value q N) (fun c13 => Option.bind (mX5_setTie 26 (nI a) (nI b) (0 : Int32) N) (fun c15 => Option.bind (mX6_forget c15) (fun c17 => Option.bind (mX6_leastsOf (nI m) c17) (fun c19 => Option.bind (mX6_valueOr c19.1 c13 c19.2) (fun c21 => Option.bind (mX5_setTie 26 (nI a) (nI b) a11 c19.2) (fun c23 => Option.bind (mX6_forget c23) (fun c25 => some ((c13 - c21), c25))))))))))) (F2 := fun c9 => Option.bind (mX7_weight (nI a) (nI b) c9.2) (fun c11 => Option.bind (mX7_layTie (nI a) (nI b) (0 : Int32) c9.2) (fun c13 => Option.bind (mX7_leastOf (nI m) c13) (fun c15 => Option.bind (mX7_layTie (nI a) (nI b) c11 c15.2) (fun c17 => some ((c9.1 - c15.1), c17)))))) (fun N1 N2 _ _ hI hc hne hs => ?_)
  have hok := hI.2.1.1
  have hCW := hI.2.1.2.1
  have hMW := hI.2.1.2.2
  have hwt : N1.1 (28 + a) b = nI (w.2.1 a b) := by
    have := hCW.2.2.2.1 a b (by omega) (by omega)
    rw [show 28 + a = 26 + 2 + a by omega]
    exact this
  have hwm : mX7_weight (nI a) (nI b) N2 = some (nI (w.2.1 a b)) := by
    rw [weight_eq (by omega) (by omega), hMW.2.2.1 a b (by omega) (by omega)]
  have hw9 := hok.2.1 a b
  have hok' := wt2_ok hok ha hb hab (show 0 ≤ 9 by decide)
  -- the model
  have hl0 : mX7_layTie (nI a) (nI b) 0 N2 = some (tr_st (tr_st N2 8 (10 * a + b) (nI 0)) 8 (10 * b + a) (nI 0)) := layTie_eq (by omega) (by omega)
  have hMW' := layTie_wd (v := 0) hMW (show a < 10 by omega) (show b < 10 by omega)
  have hPX' : PinX none (tr_st (tr_st N2 8 (10 * a + b) (nI 0)) 8 (10 * b + a) (nI 0)) := by
    show (tr_st (tr_st N2 8 (10 * a + b) (nI 0)) 8 (10 * b + a) (nI 0)).1 1 27 = -9
    rw [tr_st_ne (by decide), tr_st_ne (by decide)]
    exact hI.2.2.2.2
  obtain ⟨N3, n1, n2, n3, n4⟩ := leastOf_eq (m := m) hok' hMW' hPX' trivial hm
  have hMW3 := hMW'.kx n4
  have hlv : mX7_layTie (nI a) (nI b) (nI (w.2.1 a b)) N3 = some (tr_st (tr_st N3 8 (10 * a + b) (nI (w.2.1 a b))) 8 (10 * b + a) (nI (w.2.1 a b))) := layTie_eq (by omega) (by omega)
  have hMW4 := layTie_wd (v := w.2.1 a b) hMW3 (show a < 10 by omega) (show b < 10 by omega)
  rw [wt2_back hok] at hMW4
  have ky8 : ∀ (P : tr_M) (i j : Nat) (x y : Int32), KY P (tr_st (tr_st P 8 i x) 8 j y) := fun P i j x y => ⟨fun c c1 _ _ => by rw [tr_st_ne (by omega), tr_st_ne (by omega)], fun k _ => by rw [tr_st_ne (by decide), tr_st_ne (by decide)], rfl⟩
  have hKY := ((ky8 N2 (10 * a + b) (10 * b + a) (nI 0) (nI 0)).tr n4.ky).tr (ky8 N3 (10 * a + b) (10 * b + a) (nI (w.2.1 a b)) (nI (w.2.1 a b)))
  have hPX4 : PinX none (tr_st (tr_st N3 8 (10 * a + b) (nI (w.2.1 a b))) 8 (10 * b + a) (nI (w.2.1 a b))) := by
    show (tr_st (tr_st N3 8 (10 * a + b) (nI (w.2.1 a b))) 8 (10 * b + a) (nI (w.2.1 a b))).1 1 27 = -9
    rw [tr_st_ne (by decide), tr_st_ne (by decide)]
    exact hPX'.kx n4
  dsimp only
  rw [hwm, Option.bind_some, hl0, Option.bind_some, n1, Option.bind_some]
  dsimp only
  rw [hlv, Option.bind_some, tr_ra_nI (show a < 10 by omega) (by decide), Option.bind_some, tr_rd_nI (show b < 10 by omega) (by decide), Option.bind_some, hwt]
  by_cases z : w.2.1 a b = 0
  · have e : wdW w (wt2 w.2.1 a b 0) = w := by
      have := wt2_same hok a b
      rw [z] at this
      exact this
    rw [if_pos (by rw [z]; rfl), e, Int32.sub_self]
    exact ⟨_, _, _, rfl, rfl, hI.1.kt KL.rf.kt hKY, ⟨hok, hCW, hMW4⟩, hI.2.2.1, hI.2.2.2.1, hPX4⟩
  · rw [if_neg (by rw [neq0 (by omega)]; exact z), lo_value (pin := none) hok trivial hc.2.2, Option.bind_some]
    obtain ⟨T, t1, t2, t3, t4⟩ := tie_wd hCW (show a < 10 by omega) (show b < 10 by omega) (show 0 ≤ 9 by decide)
    have t1' : mX5_setTie 26 (nI a) (nI b) 0 N1 = some T := t1
    rw [t1', Option.bind_some, forget_eq, Option.bind_some]
    have hCT : CWd (wdW w (wt2 w.2.1 a b 0)) 26 (tr_st (tr_st T 1 15 (-9)) 1 16 (nI 0)) := CWd.congr (show CWd (wdW w (wt2 w.2.1 a b 0)) 26 T from t2) fun c c1 c2 => by rw [tr_st_ne (by omega), tr_st_ne (by omega)]
    have hPT : PinM none (tr_st (tr_st T 1 15 (-9)) 1 16 (nI 0)) := by
      show (tr_st (tr_st T 1 15 (-9)) 1 16 (nI 0)).1 25 13 = -9
      rw [tr_st_ne (by decide), tr_st_ne (by decide), t3 25 (by omega)]
      exact hI.2.2.2.1
    obtain ⟨q, Q, q1, q2, q3⟩ := cval (m := m) (v := nI (VL w none m)) hok' hCT hPT trivial (by rw [tr_st_j (by decide), tr_st_s]) hm hs
    rw [q1, Option.bind_some]
    dsimp only
    rw [q3, Option.bind_some, if_neg (show ¬ Al (wdW w (wt2 w.2.1 a b 0)) none = [] from hne)]
    obtain ⟨U, u1, u2, u3, u4⟩ := tie_wd (v := w.2.1 a b) (hCT.kl q2) (show a < 10 by omega) (show b < 10 by omega) hw9
    have u2' : CWd w 26 U := by
      have : CWd (wdW (wdW w (wt2 w.2.1 a b 0)) (wt2 (wdW w (wt2 w.2.1 a b 0)).2.1 a b (w.2.1 a b))) 26 U := u2
      rw [wt2_back hok] at this
      exact this
    rw [u1, Option.bind_some, forget_eq, Option.bind_some]
    have ktT : KT N1 T := ⟨fun c c1 _ _ _ _ => t3 c (by omega), fun k _ => by rw [t3 1 (by omega)], t4⟩
    have ktU : KT Q U := ⟨fun c c1 _ _ _ _ => u3 c (by omega), fun k _ => by rw [u3 1 (by omega)], u4⟩
    have hKT := (((ktT.tr KT.fg).tr q2.kt).tr ktU).tr KT.fg
    refine ⟨_, _, _, rfl, rfl, hI.1.kt hKT hKY, ⟨hok, u2'.congr fun c c1 c2 => by rw [tr_st_ne (by omega), tr_st_ne (by omega)], hMW4⟩, Or.inl (by rw [tr_st_j (by decide), tr_st_s]), ?_, hPX4⟩
    show (tr_st (tr_st U 1 15 (-9)) 1 16 (nI 0)).1 25 13 = -9
    rw [tr_st_ne (by decide), tr_st_ne (by decide), u3 25 (by omega)]
    exact hPT.kl q2
