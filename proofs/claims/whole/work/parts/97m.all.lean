/-- as need_call, where the model asks for the least alone -/
theorem val_call {w : Wd} {m : Nat} {M1 M2 : tr_M} (h : InvE w M1 M2) (hm : m ≤ 4) {F1 : Nat → tr_M → Option (Int32 × tr_M)} {F2 : Int32 × tr_M → Option (Int32 × tr_M)} (hF : ∀ N1 N2, KL M1 N1 → KX M2 N2 → InvE w N1 N2 → Cc w none m N1 → Al w none ≠ [] → ¬ spent w m → ResE w (F1 (rf m) N1) (F2 (nI (VL w none m), N2))) : ResE w (Option.bind (mX6_leastsOf (nI m) M1) (fun c => if c.1 = 0 then Option.bind (mX6_noLeast (nI m) c.2) (fun d => some (d.1, d.2)) else F1 c.1 c.2)) (if mX7_isTooLong (nI m) M2 = 0 then Option.bind (mX7_leastOf (nI m) M2) (fun c => if c.1 < 1000000 then F2 c else Option.bind (mX7_meets 4 c.2) (fun d => some (d.1, d.2))) else some (-6, M2)) := by
  have hI := h
  obtain ⟨h1, ⟨hok, hw, hmw⟩, h3, h4, h5⟩ := h
  obtain ⟨q, N1, e1, e2, e3, e4⟩ := leastsOf_eq hok hw h4 trivial h3 (show m ≤ 5 by omega)
  have hrf : rf m ≠ 0 := by unfold rf; split <;> omega
  rw [e1, Option.bind_some]
  dsimp only
  rcases tooLong_eq hok hmw.1 hm with ⟨s1, s2⟩ | ⟨s1, s2⟩
  · rw [s2, if_neg (show ¬ (1 : Int32) = 0 by decide)]
    rcases e4 with ⟨rfl, -⟩ | ⟨x, -⟩
    · rw [if_pos rfl]
      unfold mX6_noLeast
      rcases isSpent_eq hok (hw.kl e2).1 (show m ≤ 5 by omega) with ⟨-, t⟩ | ⟨t, -⟩
      · rw [t, if_neg (show ¬ (1 : Int32) = 0 by decide)]
        exact ResE.same (hI.kl e2 KX.rf e3)
      · exact absurd s1 t
    · exact absurd s1 x
  · rw [s2, if_pos rfl]
    obtain ⟨N, n1, n2, n3, n4⟩ := leastOf_eq hok hmw h5 trivial hm
    have hle := VL_le w none m
    have hNV : NV = 1000000 := rfl
    rw [n1, Option.bind_some]
    dsimp only
    have hlt : (nI (VL w none m) < (1000000 : Int32)) ↔ VL w none m < NV := nlt (b := NV) (by omega) (by omega)
    have hI2 := hI.kl e2 n4 e3
    rcases e4 with ⟨rfl, x | x⟩ | ⟨-, x, rfl, x2⟩
    · exact absurd x s1
    · rw [if_pos rfl, if_neg (fun c => (VL_lt (pin := none) hok trivial m).mp (hlt.mp c) x)]
      unfold mX6_noLeast
      rcases isSpent_eq hok (hw.kl e2).1 (show m ≤ 5 by omega) with ⟨t, -⟩ | ⟨-, t⟩
      · exact absurd t s1
      · rw [t, if_pos rfl]
        obtain ⟨r, A, B, a1, a2, a3⟩ := hI2.res2 (meets_res hI2.1 (q := 4) (by decide))
        have a1' : (Option.bind (mX6_found 4 N1) fun c => some (c.1, c.2)) = some (r, A) := a1
        have a2' : (Option.bind (mX7_meets 4 N) fun c => some (c.1, c.2)) = some (r, B) := a2
        rw [a1', a2']
        exact ⟨r, A, B, rfl, rfl, a3⟩
    · rw [if_neg hrf, if_pos (hlt.mpr ((VL_lt (pin := none) hok trivial m).mpr x))]
      exact hF N1 N e2 n4 hI2 x2 x s1
theorem unlike_cases {w : Wd} {M1 M2 : tr_M} (h : IWd w M1 M2) (p2 p3 : Int32) : (mX5_areUnlike 26 p2 p3 M1 = 0 ∧ ((mX7_isThing p2 M2 = some 0) ∨ (mX7_isThing p2 M2 = some 1 ∧ mX7_isThing p3 M2 = some 0) ∨ (mX7_isThing p2 M2 = some 1 ∧ mX7_isThing p3 M2 = some 1 ∧ p2 = p3))) ∨ ∃ a b, a < w.1 ∧ b < w.1 ∧ a ≠ b ∧ p2 = nI a ∧ p3 = nI b ∧ mX5_areUnlike 26 p2 p3 M1 = 1 ∧ mX7_isThing p2 M2 = some 1 ∧ mX7_isThing p3 M2 = some 1 := by
  have hn := h.1.1
  unfold mX5_areUnlike
  rcases thing_cases h p2 with ⟨j1, j2⟩ | ⟨a, ha, rfl, j1, j2⟩
  · left
    rw [j1]
    exact ⟨rfl, Or.inl j2⟩
  · rcases thing_cases h p3 with ⟨k1, k2⟩ | ⟨b, hb, rfl, k1, k2⟩
    · left
      rw [j1, k1]
      exact ⟨rfl, Or.inr (Or.inl ⟨j2, k2⟩)⟩
    · rw [j1, k1]
      by_cases e : a = b
      · left
        subst e
        exact ⟨by simp, Or.inr (Or.inr ⟨j2, k2, rfl⟩)⟩
      · right
        refine ⟨a, b, ha, hb, e, rfl, rfl, ?_, j2, k2⟩
        have : ¬ nI a = nI b := by rw [neq (by omega) (by omega)]; exact e
        simp [this]
/-- what calls that change the world for a while leave alone -/
def KT (M N : tr_M) : Prop := (∀ c, 57 ≤ c → c ≠ 58 → c ≠ 59 → c ≠ 60 → c ≠ 61 → N.1 c = M.1 c) ∧ (∀ k, k < 15 → N.1 1 k = M.1 1 k) ∧ N.2 = M.2
def KY (M N : tr_M) : Prop := (∀ c, c < 8 → c ≠ 1 → c ≠ 5 → N.1 c = M.1 c) ∧ (∀ k, k < 27 → N.1 1 k = M.1 1 k) ∧ N.2 = M.2
theorem KT.tr {M N P : tr_M} (h : KT M N) (g : KT N P) : KT M P := ⟨fun c a b d e f => (g.1 c a b d e f).trans (h.1 c a b d e f), fun k a => (g.2.1 k a).trans (h.2.1 k a), g.2.2.trans h.2.2⟩
theorem KY.tr {M N P : tr_M} (h : KY M N) (g : KY N P) : KY M P := ⟨fun c a b d => (g.1 c a b d).trans (h.1 c a b d), fun k a => (g.2.1 k a).trans (h.2.1 k a), g.2.2.trans h.2.2⟩
theorem KL.kt {M N : tr_M} (h : KL M N) : KT M N := ⟨fun c _ _ _ _ _ => h.1 c (by omega) (by omega), fun k _ => h.2.1 k (by omega) (by omega), h.2.2.2⟩
theorem KX.ky {M N : tr_M} (h : KX M N) : KY M N := ⟨fun c _ _ _ => h.1 c (by omega) (by omega) (by omega), fun k _ => h.2.1 k (by omega), h.2.2⟩
theorem KT.fg {M : tr_M} : KT M (tr_st (tr_st M 1 15 (-9)) 1 16 (nI 0)) := ((KL.st (Or.inl rfl)).tr (KL.st (Or.inr rfl))).kt
theorem ITF.kt {M1 M2 N1 N2 : tr_M} (h : ITF M1 M2) (h1 : KT M1 N1) (h2 : KY M2 N2) : ITF N1 N2 := h.congr h1.1 h1.2.1 h1.2.2 h2.1 (fun k hk => h2.2.1 k (by omega)) (fun k _ => by rw [h2.2.2])
/-- the least of a measure in a world of which nothing is kept -/
theorem cval {w : Wd} {pin : Option (Nat × Nat)} {m : Nat} {v : Int32} {P : tr_M} (hok : WOk w) (hw : CWd w 26 P) (hp : PinM pin P) (hpo : pinOk w.1 pin) (h15 : P.1 1 15 = -9) (hm : m ≤ 4) (hs : ¬ spent w m) : ∃ q Q, mX6_leastsOf (nI m) P = some (q, Q) ∧ KL P Q ∧ mX6_valueOr q v Q = some (if Al w pin = [] then v else nI (VL w pin m)) := by
  obtain ⟨q, Q, e1, e2, e3, e4⟩ := leastsOf_eq hok hw hp hpo (Or.inl h15) (show m ≤ 5 by omega)
  have hrf : rf m ≠ 0 := by unfold rf; split <;> omega
  refine ⟨q, Q, e1, e2, ?_⟩
  unfold mX6_valueOr
  rcases e4 with ⟨rfl, x | x⟩ | ⟨-, x, rfl, x2⟩
  · exact absurd x hs
  · rw [if_pos rfl, if_pos x]
  · rw [if_neg hrf, if_neg x, lo_value hok hpo x2.2.2, Option.bind_some]
theorem wt2_back {w : Wd} (hok : WOk w) (a b v : Nat) : wdW (wdW w (wt2 w.2.1 a b v)) (wt2 (wdW w (wt2 w.2.1 a b v)).2.1 a b (w.2.1 a b)) = w := by
  have : wt2 (wdW w (wt2 w.2.1 a b v)).2.1 a b (w.2.1 a b) = w.2.1 := funext fun x => funext fun y => by
    rw [wt2_eq]
    by_cases c : (x = a ∧ y = b) ∨ (x = b ∧ y = a)
    · rw [if_pos c]
      rcases c with ⟨rfl, rfl⟩ | ⟨rfl, rfl⟩
      · rfl
      · exact hok.2.2.1 _ _
    · rw [if_neg c]
      show wt2 w.2.1 a b v x y = w.2.1 x y
      rw [wt2_eq, if_neg c]
  rw [this]
  rfl
theorem wt2_same {w : Wd} (hok : WOk w) (a b : Nat) : wdW w (wt2 w.2.1 a b (w.2.1 a b)) = w := by
  have : wt2 w.2.1 a b (w.2.1 a b) = w.2.1 := funext fun x => funext fun y => by
    rw [wt2_eq]
    by_cases c : (x = a ∧ y = b) ∨ (x = b ∧ y = a)
    · rw [if_pos c]
      rcases c with ⟨rfl, rfl⟩ | ⟨rfl, rfl⟩
      · rfl
      · exact hok.2.2.1 _ _
    · rw [if_neg c]
  rw [this]
  rfl
theorem r_costs {w : Wd} {M1 M2 : tr_M} (h : InvE w M1 M2) (p1 p2 p3 : Int32) : ResE w (mX6_costs p1 p2 p3 M1) (mX7_costs p1 p2 p3 M2) := by
  have hn := h.2.1.1.1
  unfold mX6_costs mX7_costs
  rcases isMeasure_cases p1 with ⟨i1, i2⟩ | ⟨m, hm, rfl, i1, i2⟩
  · rw [i1, i2, if_pos rfl, Option.bind_some, if_pos rfl]
    exact ResE.same h
  rw [i1, i2, if_neg (show ¬ (1 : Int32) = 0 by decide), Option.bind_some, if_neg (show ¬ (1 : Int32) = 0 by decide)]
  rcases unlike_cases h.2.1 p2 p3 with ⟨u1, u2⟩ | ⟨a, b, ha, hb, hab, rfl, rfl, u1, u2, u3⟩
  · rw [u1, if_pos rfl]
    rcases u2 with u2 | ⟨u2, u3⟩ | ⟨u2, u3, u4⟩
    · rw [u2, Option.bind_some, if_pos rfl]
      exact ResE.same h
    · rw [u2, Option.bind_some, if_neg (show ¬ (1 : Int32) = 0 by decide), u3, Option.bind_some, if_pos rfl]
      exact ResE.same h
    · rw [u2, Option.bind_some, if_neg (show ¬ (1 : Int32) = 0 by decide), u3, Option.bind_some, if_neg (show ¬ (1 : Int32) = 0 by decide), if_pos u4]
      exact ResE.same h
  rw [u1, if_neg (show ¬ (1 : Int32) = 0 by decide), u2, Option.bind_some, if_neg (show ¬ (1 : Int32) = 0 by decide), u3, Option.bind_some, if_neg (show ¬ (1 : Int32) = 0 by decide), if_neg (show ¬ nI a = nI b by rw [neq (by omega) (by omega)]; exact hab)]
  refine val_call h hm (F1 := fun q N => Option.bind (tr_ra 10 (fun i => 28 + i) (nI a)) (fun r9 => Option.bind (tr_rd 10 N r9 (nI b)) (fun a11 => if a11 = 0 then some ((0 : Int32), N) else Option.bind (mLO_value q N) (fun c13 => Option.bind (mX5_setTie 26 (nI a) (nI b) (0 : Int32) N) (fun c15 => Option.bind (mX6_forget c15) (fun c17 => Option.bind (mX6_leastsOf (nI m) c17) (fun c19 => Option.bind (mX6_valueOr c19.1 c13 c19.2) (fun c21 => Option.bind (mX5_setTie 26 (nI a) (nI b) a11 c19.2) (fun c23 => Option.bind (mX6_forget c23) (fun c25 => some ((c13 - c21), c25))))))))))) (F2 := fun c9 => Option.bind (mX7_weight (nI a) (nI b) c9.2) (fun c11 => Option.bind (mX7_layTie (nI a) (nI b) (0 : Int32) c9.2) (fun c13 => Option.bind (mX7_leastOf (nI m) c13) (fun c15 => Option.bind (mX7_layTie (nI a) (nI b) c11 c15.2) (fun c17 => some ((c9.1 - c15.1), c17)))))) (fun N1 N2 _ _ hI hc hne hs => ?_)
  have hok := hI.2.1.1
  have hCW := hI.2.1.2.1
  have hMW := hI.2.1.2.2
  have hwt : N1.1 (28 + a) b = nI (w.2.1 a b) := by
    have := hCW.2.2.2.1 a b (by omega) (by omega)
    rw [show 28 + a = 26 + 2 + a by omega]
    exact this
  have hwm : mX7_weight (nI a) (nI b) N2 = some (nI (w.2.1 a b)) := by
    rw [weight_eq (by omega) (by omega), hMW.2.2.1 a b (by omega) (by omega)]
  have hw9 := hok.2.1 a b
  have hok' := wt2_ok hok ha hb hab (show 0 ≤ 9 by decide)
  -- the model
  have hl0 : mX7_layTie (nI a) (nI b) 0 N2 = some (tr_st (tr_st N2 8 (10 * a + b) (nI 0)) 8 (10 * b + a) (nI 0)) := layTie_eq (by omega) (by omega)
  have hMW' := layTie_wd (v := 0) hMW (show a < 10 by omega) (show b < 10 by omega)
  have hPX' : PinX none (tr_st (tr_st N2 8 (10 * a + b) (nI 0)) 8 (10 * b + a) (nI 0)) := by
    show (tr_st (tr_st N2 8 (10 * a + b) (nI 0)) 8 (10 * b + a) (nI 0)).1 1 27 = -9
    rw [tr_st_ne (by decide), tr_st_ne (by decide)]
    exact hI.2.2.2.2
  obtain ⟨N3, n1, n2, n3, n4⟩ := leastOf_eq (m := m) hok' hMW' hPX' trivial hm
  have hMW3 := hMW'.kx n4
  have hlv : mX7_layTie (nI a) (nI b) (nI (w.2.1 a b)) N3 = some (tr_st (tr_st N3 8 (10 * a + b) (nI (w.2.1 a b))) 8 (10 * b + a) (nI (w.2.1 a b))) := layTie_eq (by omega) (by omega)
  have hMW4 := layTie_wd (v := w.2.1 a b) hMW3 (show a < 10 by omega) (show b < 10 by omega)
  rw [wt2_back hok] at hMW4
  have ky8 : ∀ (P : tr_M) (i j : Nat) (x y : Int32), KY P (tr_st (tr_st P 8 i x) 8 j y) := fun P i j x y => ⟨fun c c1 _ _ => by rw [tr_st_ne (by omega), tr_st_ne (by omega)], fun k _ => by rw [tr_st_ne (by decide), tr_st_ne (by decide)], rfl⟩
  have hKY := ((ky8 N2 (10 * a + b) (10 * b + a) (nI 0) (nI 0)).tr n4.ky).tr (ky8 N3 (10 * a + b) (10 * b + a) (nI (w.2.1 a b)) (nI (w.2.1 a b)))
  have hPX4 : PinX none (tr_st (tr_st N3 8 (10 * a + b) (nI (w.2.1 a b))) 8 (10 * b + a) (nI (w.2.1 a b))) := by
    show (tr_st (tr_st N3 8 (10 * a + b) (nI (w.2.1 a b))) 8 (10 * b + a) (nI (w.2.1 a b))).1 1 27 = -9
    rw [tr_st_ne (by decide), tr_st_ne (by decide)]
    exact hPX'.kx n4
  dsimp only
  rw [hwm, Option.bind_some, hl0, Option.bind_some, n1, Option.bind_some]
  dsimp only
  rw [hlv, Option.bind_some, tr_ra_nI (show a < 10 by omega) (by decide), Option.bind_some, tr_rd_nI (show b < 10 by omega) (by decide), Option.bind_some, hwt]
  by_cases z : w.2.1 a b = 0
  · have e : wdW w (wt2 w.2.1 a b 0) = w := by
      have := wt2_same hok a b
      rw [z] at this
      exact this
    rw [if_pos (by rw [z]; rfl), e, Int32.sub_self]
    exact ⟨_, _, _, rfl, rfl, hI.1.kt KL.rf.kt hKY, ⟨hok, hCW, hMW4⟩, hI.2.2.1, hI.2.2.2.1, hPX4⟩
  · rw [if_neg (by rw [neq0 (by omega)]; exact z), lo_value (pin := none) hok trivial hc.2.2, Option.bind_some]
    obtain ⟨T, t1, t2, t3, t4⟩ := tie_wd hCW (show a < 10 by omega) (show b < 10 by omega) (show 0 ≤ 9 by decide)
    have t1' : mX5_setTie 26 (nI a) (nI b) 0 N1 = some T := t1
    rw [t1', Option.bind_some, forget_eq, Option.bind_some]
    have hCT : CWd (wdW w (wt2 w.2.1 a b 0)) 26 (tr_st (tr_st T 1 15 (-9)) 1 16 (nI 0)) := CWd.congr (show CWd (wdW w (wt2 w.2.1 a b 0)) 26 T from t2) fun c c1 c2 => by rw [tr_st_ne (by omega), tr_st_ne (by omega)]
    have hPT : PinM none (tr_st (tr_st T 1 15 (-9)) 1 16 (nI 0)) := by
      show (tr_st (tr_st T 1 15 (-9)) 1 16 (nI 0)).1 25 13 = -9
      rw [tr_st_ne (by decide), tr_st_ne (by decide), t3 25 (by omega)]
      exact hI.2.2.2.1
    obtain ⟨q, Q, q1, q2, q3⟩ := cval (m := m) (v := nI (VL w none m)) hok' hCT hPT trivial (by rw [tr_st_j (by decide), tr_st_s]) hm hs
    rw [q1, Option.bind_some]
    dsimp only
    rw [q3, Option.bind_some, if_neg (show ¬ Al (wdW w (wt2 w.2.1 a b 0)) none = [] from hne)]
    obtain ⟨U, u1, u2, u3, u4⟩ := tie_wd (v := w.2.1 a b) (hCT.kl q2) (show a < 10 by omega) (show b < 10 by omega) hw9
    have u2' : CWd w 26 U := by
      have : CWd (wdW (wdW w (wt2 w.2.1 a b 0)) (wt2 (wdW w (wt2 w.2.1 a b 0)).2.1 a b (w.2.1 a b))) 26 U := u2
      rw [wt2_back hok] at this
      exact this
    rw [u1, Option.bind_some, forget_eq, Option.bind_some]
    have ktT : KT N1 T := ⟨fun c c1 _ _ _ _ => t3 c (by omega), fun k _ => by rw [t3 1 (by omega)], t4⟩
    have ktU : KT Q U := ⟨fun c c1 _ _ _ _ => u3 c (by omega), fun k _ => by rw [u3 1 (by omega)], u4⟩
    have hKT := (((ktT.tr KT.fg).tr q2.kt).tr ktU).tr KT.fg
    refine ⟨_, _, _, rfl, rfl, hI.1.kt hKT hKY, ⟨hok, u2'.congr fun c c1 c2 => by rw [tr_st_ne (by omega), tr_st_ne (by omega)], hMW4⟩, Or.inl (by rw [tr_st_j (by decide), tr_st_s]), ?_, hPX4⟩
    show (tr_st (tr_st U 1 15 (-9)) 1 16 (nI 0)).1 25 13 = -9
    rw [tr_st_ne (by decide), tr_st_ne (by decide), u3 25 (by omega)]
    exact hPT.kl q2
/-- a rule off, or not -/
def woff (w : Wd) (k : Nat) (v : Bool) : Wd := wdOff w (fun j => if j = k then v else w.2.2.2.2 j)
theorem woff_ok {w : Wd} (h : WOk w) {k : Nat} (hk : k < w.2.2.1) (v : Bool) : WOk (woff w k v) := wdOff_ok h fun j hj => by
  show (if j = k then v else w.2.2.2.2 j) = false
  rw [if_neg (by omega)]
  exact h.2.2.2.2.2.2 j hj
theorem setOff1_wd {w : Wd} {k : Nat} {M : tr_M} (hw : CWd w 26 M) (hk : k < 8) : ∃ b, mX5_setOff 26 (nI k) 1 M = some (tr_st M 26 2 (nI b)) ∧ CWd (woff w k true) 26 (tr_st M 26 2 (nI b)) := by
  refine ⟨ins (obits w) k, ?_, hw.off ?_⟩
  · unfold mX5_setOff
    rw [if_neg (by decide), hw.2.2.1, ins_nI (by omega)]
    rfl
  · refine mkb_ext (ins_lt (obits_lt w) (by omega)) (fun i hi => ?_)
    rw [ins_bit, obits_bit]
    by_cases e : i = k
    · subst e; simp
    · simp [e, hi, show ¬ k = i from fun q => e q.symm]
theorem setOff0_wd {w : Wd} {k : Nat} {M : tr_M} (hw : CWd w 26 M) (hk : k < 8) : ∃ b, mX5_setOff 26 (nI k) 0 M = some (tr_st M 26 2 (nI b)) ∧ CWd (woff w k false) 26 (tr_st M 26 2 (nI b)) := by
  refine ⟨del (obits w) k, ?_, hw.off ?_⟩
  · unfold mX5_setOff
    rw [if_pos rfl, hw.2.2.1, del_nI (by omega)]
    rfl
  · refine mkb_ext (Nat.lt_of_lt_of_le (del_lt (n := 8) (obits_lt w)) (by decide)) (fun i hi => ?_)
    rw [del_bit, obits_bit]
    by_cases e : i = k
    · subst e; simp
    · simp [e, hi, show ¬ k = i from fun q => e q.symm]
theorem MWd.woff {w : Wd} {k : Nat} {M : tr_M} (hw : MWd w M) (v : Bool) : MWd (woff w k v) (tr_st M 9 (5 * k + 4) (if v = true then 1 else 0)) := by
  obtain ⟨g1, g2, g3, g4⟩ := hw
  refine ⟨?_, ?_, fun x y hx hy => ?_, fun j hj => ?_⟩
  · rw [tr_st_ne (by decide)]; exact g1
  · rw [tr_st_ne (by decide)]; exact g2
  · rw [tr_st_ne (by decide)]; exact g3 x y hx hy
  · obtain ⟨q1, q2, q3, q4, q5⟩ := g4 j hj
    refine ⟨?_, ?_, ?_, ?_, ?_⟩
    · rw [tr_st_j (by omega)]; exact q1
    · rw [tr_st_j (by omega)]; exact q2
    · rw [tr_st_j (by omega)]; exact q3
    · rw [tr_st_j (by omega)]; exact q4
    · show _ = if (if j = k then v else w.2.2.2.2 j) = true then 1 else 0
      by_cases e : j = k
      · subst e
        rw [tr_st_s, if_pos rfl]
      · rw [tr_st_j (by omega), if_neg e]
        exact q5
theorem woff_back (w : Wd) (k : Nat) (v : Bool) : woff (woff w k v) k (w.2.2.2.2 k) = w := by
  unfold woff wdOff
  have : (fun j => if j = k then w.2.2.2.2 k else if j = k then v else w.2.2.2.2 j) = w.2.2.2.2 := funext fun j => by
    by_cases c : j = k
    · rw [if_pos c, c]
    · rw [if_neg c, if_neg c]
  show (w.1, w.2.1, w.2.2.1, w.2.2.2.1, fun j => if j = k then w.2.2.2.2 k else if j = k then v else w.2.2.2.2 j) = w
  rw [this]
theorem woff_same (w : Wd) (k : Nat) : woff w k (w.2.2.2.2 k) = w := by
  unfold woff wdOff
  have : (fun j => if j = k then w.2.2.2.2 k else w.2.2.2.2 j) = w.2.2.2.2 := funext fun j => by
    by_cases c : j = k
    · rw [if_pos c, c]
    · rw [if_neg c]
  rw [this]
theorem Al_off {w : Wd} {f : Nat → Bool} (hf : ∀ j, w.2.2.2.2 j = true → f j = true) (h : Al w none ≠ []) : Al (wdOff w f) none ≠ [] := by
  obtain ⟨p, hp⟩ := List.exists_mem_of_ne_nil _ h
  obtain ⟨hp1, hp2⟩ := List.mem_filter.mp hp
  have hm : p ∈ Al (wdOff w f) none := by
    refine List.mem_filter.mpr ⟨hp1, ?_⟩
    unfold okf at hp2 ⊢
    rw [Bool.and_eq_true] at hp2 ⊢
    refine ⟨al_iff.mpr fun k hk => ?_, rfl⟩
    have := al_iff.mp hp2.1 k hk
    show (f k || kept w.1 (w.2.2.2.1 k) (fn p)) = true
    rw [Bool.or_eq_true] at this ⊢
    exact this.imp (hf k) id
  intro e
  rw [e] at hm
  cases hm
theorem r_bars {w : Wd} {M1 M2 : tr_M} (h : InvE w M1 M2) (p1 p2 : Int32) : ResE w (mX6_bars p1 p2 M1) (mX7_bars p1 p2 M2) := by
  have hn := h.2.1.1.2.2.2.2.1
  unfold mX6_bars mX7_bars
  rcases isMeasure_cases p1 with ⟨i1, i2⟩ | ⟨m, hm, rfl, i1, i2⟩
  · rw [i1, i2, if_pos rfl, Option.bind_some, if_pos rfl]
    exact ResE.same h
  rw [i1, i2, if_neg (show ¬ (1 : Int32) = 0 by decide), Option.bind_some, if_neg (show ¬ (1 : Int32) = 0 by decide)]
  rcases isRule_cases h.2.1 p2 with ⟨e1, e2⟩ | ⟨k, hk, rfl, e1, e2⟩
  · rw [e1, e2, if_pos rfl, Option.bind_some, if_pos rfl]
    exact ResE.same h
  rw [e1, e2, if_neg (show ¬ (1 : Int32) = 0 by decide), Option.bind_some, if_neg (show ¬ (1 : Int32) = 0 by decide)]
  refine val_call h hm (F1 := fun q N => if (mX5_isOff 26 (nI k) N) = 0 then Option.bind (mLO_value q N) (fun c11 => Option.bind (mX5_setOff 26 (nI k) (1 : Int32) N) (fun c13 => Option.bind (mX6_forget c13) (fun c15 => Option.bind (mX6_leastsOf (nI m) c15) (fun c17 => Option.bind (mX6_valueOr c17.1 c11 c17.2) (fun c19 => Option.bind (mX5_setOff 26 (nI k) (0 : Int32) c17.2) (fun c21 => Option.bind (mX6_forget c21) (fun c23 => some ((c11 - c19), c23)))))))) else some ((0 : Int32), N)) (F2 := fun c7 => Option.bind (mX7_ruleAt (nI k) (4 : Int32) c7.2) (fun c9 => Option.bind (tr_wr 40 c7.2 9 (((5 : Int32) * (nI k)) + (4 : Int32)) (1 : Int32)) (fun M11 => Option.bind (mX7_leastOf (nI m) M11) (fun c13 => Option.bind (tr_wr 40 c13.2 9 (((5 : Int32) * (nI k)) + (4 : Int32)) c9) (fun M15 => some ((c7.1 - c13.1), M15)))))) (fun N1 N2 _ _ hI hc hne hs => ?_)
  have hok := hI.2.1.1
  have hCW := hI.2.1.2.1
  have hMW := hI.2.1.2.2
  have hok' := woff_ok hok hk true
  have hix : ((5 : Int32) * (nI k)) + (4 : Int32) = nI (5 * k + 4) := by
    rw [show (5 : Int32) = nI 5 from rfl, show (4 : Int32) = nI 4 from rfl, nmul, nadd]
  have hr : mX7_ruleAt (nI k) 4 N2 = some (if w.2.2.2.2 k = true then 1 else 0) := by
    rw [show (4 : Int32) = nI 4 from rfl, ruleAt_eq (by omega) (by decide), (hMW.2.2.2 k hk).2.2.2.2]
  have hMW' := hMW.woff (k := k) true
  rw [if_pos rfl] at hMW'
  have hPX' : PinX none (tr_st N2 9 (5 * k + 4) 1) := by
    show (tr_st N2 9 (5 * k + 4) 1).1 1 27 = -9
    rw [tr_st_ne (by decide)]
    exact hI.2.2.2.2
  obtain ⟨N3, n1, n2, n3, n4⟩ := leastOf_eq (m := m) hok' hMW' hPX' trivial hm
  have hMW4 := (hMW'.kx n4).woff (k := k) (w.2.2.2.2 k)
  rw [woff_back] at hMW4
  have ky9 : ∀ (P : tr_M) (i : Nat) (x : Int32), KY P (tr_st P 9 i x) := fun P i x => ⟨fun c c1 _ _ => tr_st_ne (by omega), fun k _ => by rw [tr_st_ne (by decide)], rfl⟩
  have hKY := ((ky9 N2 (5 * k + 4) 1).tr n4.ky).tr (ky9 N3 (5 * k + 4) (if w.2.2.2.2 k = true then 1 else 0))
  have hPX4 : PinX none (tr_st N3 9 (5 * k + 4) (if w.2.2.2.2 k = true then 1 else 0)) := by
    show (tr_st N3 9 (5 * k + 4) (if w.2.2.2.2 k = true then 1 else 0)).1 1 27 = -9
    rw [tr_st_ne (by decide)]
    exact hPX'.kx n4
  dsimp only
  rw [hr, Option.bind_some, hix, tr_wr_nI (by omega) (by decide), Option.bind_some, n1, Option.bind_some]
  dsimp only
  rw [tr_wr_nI (by omega) (by decide), Option.bind_some, isOff_eq hCW (by omega)]
  cases z : w.2.2.2.2 k with
  | true =>
    have e : woff w k true = w := by
      have := woff_same w k
      rw [z] at this
      exact this
    rw [z] at hKY hPX4 hMW4
    rw [if_pos rfl, if_neg (show ¬ (1 : Int32) = 0 by decide), e, Int32.sub_self]
    exact ⟨_, _, _, rfl, rfl, hI.1.kt KL.rf.kt hKY, ⟨hok, hCW, hMW4⟩, hI.2.2.1, hI.2.2.2.1, hPX4⟩
  | false =>
    rw [z] at hKY hPX4 hMW4
    rw [if_neg (show ¬ false = true by decide), if_pos rfl, lo_value (pin := none) hok trivial hc.2.2, Option.bind_some]
    obtain ⟨b, t1, t2⟩ := setOff1_wd hCW (show k < 8 by omega)
    rw [t1, Option.bind_some, forget_eq, Option.bind_some]
    have hCT : CWd (woff w k true) 26 (tr_st (tr_st (tr_st N1 26 2 (nI b)) 1 15 (-9)) 1 16 (nI 0)) := t2.congr fun c c1 c2 => by rw [tr_st_ne (by omega), tr_st_ne (by omega)]
    have hPT : PinM none (tr_st (tr_st (tr_st N1 26 2 (nI b)) 1 15 (-9)) 1 16 (nI 0)) := by
      show (tr_st (tr_st (tr_st N1 26 2 (nI b)) 1 15 (-9)) 1 16 (nI 0)).1 25 13 = -9
      rw [tr_st_ne (by decide), tr_st_ne (by decide), tr_st_ne (by decide)]
      exact hI.2.2.2.1
    have hne' : Al (woff w k true) none ≠ [] := Al_off (fun j hj => by
      show (if j = k then true else w.2.2.2.2 j) = true
      split
      · rfl
      · exact hj) hne
    obtain ⟨q, Q, q1, q2, q3⟩ := cval (m := m) (v := nI (VL w none m)) hok' hCT hPT trivial (by rw [tr_st_j (by decide), tr_st_s]) hm hs
    rw [q1, Option.bind_some]
    dsimp only
    rw [q3, Option.bind_some, if_neg hne']
    obtain ⟨b2, u1, u2⟩ := setOff0_wd (hCT.kl q2) (show k < 8 by omega)
    have u2' : CWd w 26 (tr_st Q 26 2 (nI b2)) := by
      have := woff_back w k true
      rw [z] at this
      rw [this] at u2
      exact u2
    rw [u1, Option.bind_some, forget_eq, Option.bind_some]
    have kt2 : ∀ (P : tr_M) (x : Int32), KT P (tr_st P 26 2 x) := fun P x => ⟨fun c c1 _ _ _ _ => tr_st_ne (by omega), fun k _ => by rw [tr_st_ne (by decide)], rfl⟩
    have hKT := ((((kt2 N1 (nI b)).tr KT.fg).tr q2.kt).tr (kt2 Q (nI b2))).tr KT.fg
    refine ⟨_, _, _, rfl, rfl, hI.1.kt hKT hKY, ⟨hok, u2'.congr fun c c1 c2 => by rw [tr_st_ne (by omega), tr_st_ne (by omega)], hMW4⟩, Or.inl (by rw [tr_st_j (by decide), tr_st_s]), ?_, hPX4⟩
    show (tr_st (tr_st (tr_st Q 26 2 (nI b2)) 1 15 (-9)) 1 16 (nI 0)).1 25 13 = -9
    rw [tr_st_ne (by decide), tr_st_ne (by decide), tr_st_ne (by decide)]
    exact hPT.kl q2
theorem Al_pin {w : Wd} {pin : Option (Nat × Nat)} (h : Al w none = []) : Al w pin = [] := by
  refine List.eq_nil_iff_forall_not_mem.mpr fun p hp => ?_
  obtain ⟨h1, h2⟩ := List.mem_filter.mp hp
  unfold okf at h2
  rw [Bool.and_eq_true] at h2
  have : p ∈ Al w none := List.mem_filter.mpr ⟨h1, by unfold okf; rw [Bool.and_eq_true]; exact ⟨h2.1, rfl⟩⟩
  rw [h] at this
  cases this
theorem Al_len {w : Wd} (hok : WOk w) : (Al w none).length ≤ 3628800 := by
  have := LL_len hok none 5
  unfold LL at this
  rw [if_neg (by decide), LS_5] at this
  exact this
theorem n9_no {x : Nat} (hx : x < 2147483648) : ¬ nI x = -9 := fun e => by
  have := (n_lt_neg (x := -9) (k := x) (by decide) hx).2.2.1
  exact this e
theorem r_where {w : Wd} {M1 M2 : tr_M} (h : InvE w M1 M2) (p1 p2 p3 : Int32) : ResE w (mX6_where p1 p2 p3 M1) (mX7_where p1 p2 p3 M2) := by
  have hn := h.2.1.1.1
  have hok := h.2.1.1
  have hCW := h.2.1.2.1
  have hMW := h.2.1.2.2
  unfold mX6_where mX7_where
  rcases isMeasure_cases p1 with ⟨i1, i2⟩ | ⟨m, hm, rfl, i1, i2⟩
  · rw [i1, i2, if_pos rfl, Option.bind_some, if_pos rfl]
    exact ResE.same h
  rw [i1, i2, if_neg (show ¬ (1 : Int32) = 0 by decide), Option.bind_some, if_neg (show ¬ (1 : Int32) = 0 by decide)]
  rcases thing_cases h.2.1 p2 with ⟨j1, j2⟩ | ⟨a, ha, rfl, j1, j2⟩
  · rw [j1, j2, if_pos rfl, Option.bind_some, if_pos rfl]
    exact ResE.same h
  rw [j1, j2, if_neg (show ¬ (1 : Int32) = 0 by decide), Option.bind_some, if_neg (show ¬ (1 : Int32) = 0 by decide)]
  rcases isThing_m (p := p3) hn hMW.1 with ⟨k1, k2⟩ | ⟨b, hb, rfl, k1⟩
  · rw [k1, Option.bind_some, if_pos rfl]
    by_cases c : p3 < 0
    · rw [if_pos c]
      exact ResE.same h
    · rw [if_neg c, hCW.1, if_neg (k2.resolve_left c)]
      exact ResE.same h
  rw [k1, Option.bind_some, if_neg (show ¬ (1 : Int32) = 0 by decide), if_neg (nI_pos (by omega)), hCW.1, if_pos ((nlt (by omega) (by omega)).mpr hb)]
  rcases isSpent_eq hok hCW.1 (show m ≤ 5 by omega) with ⟨s1, s2⟩ | ⟨s1, s2⟩
  · rcases tooLong_eq hok hMW.1 hm with ⟨-, t⟩ | ⟨t, -⟩
    · rw [s2, t, if_neg (show ¬ (1 : Int32) = 0 by decide), if_neg (show ¬ (1 : Int32) = 0 by decide)]
      exact ResE.same h
    · exact absurd s1 t
  rcases tooLong_eq hok hMW.1 hm with ⟨t, -⟩ | ⟨-, t⟩
  · exact absurd t s1
  rw [s2, t, if_pos rfl, if_pos rfl]
  -- the class
  have p1 : mX4_pin (nI a) (nI b) M1 = some (tr_st (tr_st M1 25 13 (nI a)) 25 14 (nI b)) := rfl
  rw [p1, Option.bind_some, forget_eq, Option.bind_some]
  have hpo : pinOk w.1 (some (a, b)) := ⟨ha, hb⟩
  have hCP : CWd w 26 (tr_st (tr_st (tr_st (tr_st M1 25 13 (nI a)) 25 14 (nI b)) 1 15 (-9)) 1 16 (nI 0)) := hCW.congr fun c c1 c2 => by rw [tr_st_ne (by omega), tr_st_ne (by omega), tr_st_ne (by omega), tr_st_ne (by omega)]
  have hPP : PinM (some (a, b)) (tr_st (tr_st (tr_st (tr_st M1 25 13 (nI a)) 25 14 (nI b)) 1 15 (-9)) 1 16 (nI 0)) := by
    refine ⟨?_, ?_, by omega, by omega⟩
    · rw [tr_st_ne (by decide), tr_st_ne (by decide), tr_st_j (by decide), tr_st_s]
    · rw [tr_st_ne (by decide), tr_st_ne (by decide), tr_st_s]
  obtain ⟨q, Q, q1, q2, q3⟩ := cval (m := m) (v := -9) hok hCP hPP hpo (by rw [tr_st_j (by decide), tr_st_s]) hm s1
  rw [q1, Option.bind_some]
  dsimp only
  have p2 : mX4_unpin Q = some (tr_st (tr_st Q 25 13 (-9)) 25 14 (-9)) := rfl
  rw [q3, Option.bind_some, p2, Option.bind_some, forget_eq, Option.bind_some]
  have kt25 : ∀ (P : tr_M) (x y : Int32), KT P (tr_st (tr_st P 25 13 x) 25 14 y) := fun P x y => ⟨fun c c1 _ _ _ _ => by rw [tr_st_ne (by omega), tr_st_ne (by omega)], fun k _ => by rw [tr_st_ne (by decide), tr_st_ne (by decide)], rfl⟩
  have hKT := ((((kt25 M1 (nI a) (nI b)).tr KT.fg).tr q2.kt).tr (kt25 Q (-9) (-9))).tr KT.fg
  have hCR : CWd w 26 (tr_st (tr_st (tr_st (tr_st Q 25 13 (-9)) 25 14 (-9)) 1 15 (-9)) 1 16 (nI 0)) := (hCP.kl q2).congr fun c c1 c2 => by rw [tr_st_ne (by omega), tr_st_ne (by omega), tr_st_ne (by omega), tr_st_ne (by omega)]
  have hPR : PinM none (tr_st (tr_st (tr_st (tr_st Q 25 13 (-9)) 25 14 (-9)) 1 15 (-9)) 1 16 (nI 0)) := by
    show (tr_st (tr_st (tr_st (tr_st Q 25 13 (-9)) 25 14 (-9)) 1 15 (-9)) 1 16 (nI 0)).1 25 13 = -9
    rw [tr_st_ne (by decide), tr_st_ne (by decide), tr_st_j (by decide), tr_st_s]
  have hcR : Cch w none (tr_st (tr_st (tr_st (tr_st Q 25 13 (-9)) 25 14 (-9)) 1 15 (-9)) 1 16 (nI 0)) := Or.inl (by rw [tr_st_j (by decide), tr_st_s])
  generalize tr_st (tr_st (tr_st (tr_st Q 25 13 (-9)) 25 14 (-9)) 1 15 (-9)) 1 16 (nI 0) = R at hKT hCR hPR hcR ⊢
  have hR : ∀ N, KY M2 N → MWd w N → PinX none N → InvE w R N := fun N n1 n2 n3 => ⟨h.1.kt hKT n1, ⟨hok, hCR, n2⟩, hcR, hPR, n3⟩
  obtain ⟨q', S, l1, l2, l3, l4⟩ := leastsOf_eq (m := 5) hok hCR hPR trivial hcR (by decide)
  have l1' : mX6_leastsOf 5 R = some (q', S) := l1
  -- the model
  obtain ⟨N, n1, n2⟩ := allowedMany_eq (pin := none) hok hMW h.2.2.2.2 trivial
  have hlen := Al_len hok
  rw [n1, Option.bind_some]
  dsimp only
  by_cases z : Al w none = []
  · rw [if_pos (Al_pin z), if_pos (rfl : (-9 : Int32) = -9), l1', Option.bind_some, z, if_pos (show nI ([] : List (List Nat)).length = 0 from rfl)]
    dsimp only
    rcases l4 with ⟨rfl, -⟩ | ⟨-, x, -⟩
    · rw [if_pos rfl]
      have hI := (hR N n2.ky (hMW.kx n2) (PinX.kx h.2.2.2.2 n2)).kl l2 KX.rf l3
      obtain ⟨r, A, B, a1, a2, a3⟩ := hI.res2 (meets_res hI.1 (q := 4) (by decide))
      have a1' : (Option.bind (mX6_found 4 S) fun c => some (c.1, c.2)) = some (r, A) := a1
      have a2' : (Option.bind (mX7_meets 4 N) fun c => some (c.1, c.2)) = some (r, B) := a2
      rw [a1', a2']
      exact ⟨r, A, B, rfl, rfl, a3⟩
    · exact absurd z x
  · have hpos : (Al w none).length ≠ 0 := fun e => z (List.eq_nil_of_length_eq_zero e)
    rw [if_neg (show ¬ nI (Al w none).length = 0 by rw [neq0 (by omega)]; exact hpos), Option.bind_some, Option.bind_some]
    have hMN := hMW.kx n2
    have hMP : MWd w (tr_st (tr_st N 1 27 (nI a)) 1 28 (nI b)) := hMN.congr (by rw [tr_st_j (by decide), tr_st_j (by decide)]) (by rw [tr_st_j (by decide), tr_st_j (by decide)]) (by rw [tr_st_ne (by decide), tr_st_ne (by decide)]) (by rw [tr_st_ne (by decide), tr_st_ne (by decide)])
    have hXP : PinX (some (a, b)) (tr_st (tr_st N 1 27 (nI a)) 1 28 (nI b)) := by
      refine ⟨?_, tr_st_s, by omega, by omega⟩
      rw [tr_st_j (by decide), tr_st_s]
    obtain ⟨N3, v1, v2, v3, v4⟩ := leastOf_eq (m := m) hok hMP hXP hpo hm
    rw [v1, Option.bind_some, Option.bind_some]
    dsimp only
    have ky27 : KY N (tr_st (tr_st N 1 27 (nI a)) 1 28 (nI b)) := ⟨fun c _ c2 _ => by rw [tr_st_ne c2, tr_st_ne c2], fun k hk => by rw [tr_st_j (by omega), tr_st_j (by omega)], rfl⟩
    have ky9 : KY N3 (tr_st N3 1 27 (-9)) := ⟨fun c _ c2 _ => tr_st_ne c2, fun k hk => tr_st_j (by omega), rfl⟩
    have hI := hR (tr_st N3 1 27 (-9)) (((n2.ky.tr ky27).tr v4.ky).tr ky9) ((hMP.kx v4).congr (tr_st_j (by decide)) (tr_st_j (by decide)) (tr_st_ne (by decide)) (tr_st_ne (by decide))) tr_st_s
    have hle := VL_le w (some (a, b)) m
    have hNV : NV = 1000000 := rfl
    have hlt : (nI (VL w (some (a, b)) m) < (1000000 : Int32)) ↔ VL w (some (a, b)) m < NV := nlt (b := NV) (by omega) (by omega)
    by_cases y : Al w (some (a, b)) = []
    · rw [if_pos y, if_pos (rfl : (-9 : Int32) = -9), l1', Option.bind_some, if_neg (fun c => (VL_lt hok hpo m).mp (hlt.mp c) y)]
      dsimp only
      rcases l4 with ⟨-, x | x⟩ | ⟨-, x, rfl, -⟩
      · exact absurd x.1 (by decide)
      · exact absurd x z
      · rw [if_neg (show ¬ rf 5 = 0 by decide)]
        exact ResE.same (hI.kl l2 KX.rf l3)
    · rw [if_neg y, if_neg (n9_no (by omega)), if_pos (hlt.mpr ((VL_lt hok hpo m).mpr y))]
      exact ResE.same hI
/-! ===== the least value of a list, how many have it ===== -/
def cv {α : Type} (c : α → Nat) (A : List α) : Nat := lm NV (A.map c)
def cn {α : Type} (c : α → Nat) (A : List α) : Nat := (A.filter (fun p => decide (c p = cv c A))).length
theorem cv_le {α : Type} (c : α → Nat) (A : List α) : cv c A ≤ NV := lm_le _ _
theorem cv_app {α : Type} (c : α → Nat) (A B : List α) : cv c (A ++ B) = min (cv c A) (cv c B) := by
  unfold cv
  rw [List.map_append, lm_append]
theorem cv_min {α : Type} {c : α → Nat} {A : List α} {p : α} (h : p ∈ A) : cv c A ≤ c p := lm_min (List.mem_map.mpr ⟨p, h, rfl⟩)
theorem cf_none {α : Type} {c : α → Nat} {A : List α} {v : Nat} (h : v < cv c A) : A.filter (fun p => decide (c p = v)) = [] := by
  refine List.filter_eq_nil_iff.mpr fun p hp e => ?_
  have := cv_min (c := c) hp
  have e := of_decide_eq_true e
  omega
theorem cn_lt {α : Type} {c : α → Nat} {A B : List α} (h : cv c A < cv c B) : cn c (A ++ B) = cn c A := by
  have e : cv c (A ++ B) = cv c A := by rw [cv_app]; omega
  unfold cn
  rw [e, List.filter_append, cf_none h, List.append_nil]
theorem cn_gt {α : Type} {c : α → Nat} {A B : List α} (h : cv c B < cv c A) : cn c (A ++ B) = cn c B := by
  have e : cv c (A ++ B) = cv c B := by rw [cv_app]; omega
  unfold cn
  rw [e, List.filter_append, cf_none h, List.nil_append]
theorem cn_eq {α : Type} {c : α → Nat} {A B : List α} (h : cv c B = cv c A) : cn c (A ++ B) = cn c A + cn c B := by
  have e : cv c (A ++ B) = cv c A := by rw [cv_app]; omega
  unfold cn
  rw [e, List.filter_append, List.length_append, h]
theorem cn_nil {α : Type} (c : α → Nat) : cn c [] = 0 := rfl
theorem cv_one {α : Type} {c : α → Nat} {p : α} (h : c p ≤ NV) : cv c [p] = c p := Nat.min_eq_left h
theorem cn_one {α : Type} {c : α → Nat} {p : α} (h : c p ≤ NV) : cn c [p] = 1 := by
  unfold cn
  rw [cv_one h, List.filter_cons_of_pos (p := fun q => decide (c q = c p)) (a := p) (decide_eq_true rfl)]
  rfl
theorem cv_nil {α : Type} (c : α → Nat) : cv c [] = NV := rfl
theorem cv_congr {α : Type} {c d : α → Nat} {A : List α} (h : ∀ p, p ∈ A → c p = d p) : cv c A = cv d A := by
  unfold cv
  rw [List.map_congr_left h]
theorem cn_congr {α : Type} {c d : α → Nat} {A : List α} (h : ∀ p, p ∈ A → c p = d p) : cn c A = cn d A := by
  unfold cn
  rw [cv_congr h, List.filter_congr fun p hp => by rw [h p hp]]
/-- all have the same value -/
theorem cv_all {α : Type} {c : α → Nat} {v : Nat} : ∀ {A : List α}, A ≠ [] → v ≤ NV → (∀ p, p ∈ A → c p = v) → cv c A = v
  | [], h, _, _ => absurd rfl h
  | [p], _, hv, h => by rw [cv_one (by rw [h p List.mem_cons_self]; exact hv), h p List.mem_cons_self]
  | p :: q :: A, _, hv, h => by
    have := cv_all (c := c) (v := v) (A := q :: A) (fun e => by cases e) hv fun x hx => h x (List.mem_cons_of_mem _ hx)
    show min (c p) (cv c (q :: A)) = v
    rw [this, h p List.mem_cons_self, Nat.min_self]
theorem cn_all {α : Type} {c : α → Nat} {v : Nat} {A : List α} (h0 : A ≠ []) (hv : v ≤ NV) (h : ∀ p, p ∈ A → c p = v) : cn c A = A.length := by
  unfold cn
  rw [cv_all h0 hv h, List.filter_eq_self.mpr fun p hp => decide_eq_true (h p hp)]
/-- the fold that both sides do -/
theorem cn_step {α : Type} {c : α → Nat} {A : List α} {p : α} (h : c p < NV) : cv c (A ++ [p]) = min (cv c A) (c p) ∧ cn c (A ++ [p]) = if c p < cv c A then 1 else if c p = cv c A then cn c A + 1 else cn c A := by
  have h1 := cv_one (c := c) (p := p) (by omega)
  have h2 := cn_one (c := c) (p := p) (by omega)
  refine ⟨by rw [cv_app, h1], ?_⟩
  by_cases a : c p < cv c A
  · rw [if_pos a, cn_gt (by omega), h2]
  · rw [if_neg a]
    by_cases b : c p = cv c A
    · rw [if_pos b, cn_eq (by omega), h2]
    · rw [if_neg b, cn_lt (by omega)]
/-- ways on, and how many of them are wanted: those of the least cost, or those of a cost that is not above B -/
def wB (ad : Bool) (g : Nat → Nat) (B s : Nat) (A : List (List Nat)) : Nat := if ad = true then cn (cost ad g s) A else (A.filter (fun p => decide (cost ad g s p ≤ B))).length
theorem cv_cons {nx : Rl} {n : Nat} {ad : Bool} {g : Nat → Nat} (hg : ∀ s, g s ≤ 1000) {k s x : Nat} (hk : k + 1 ≤ 10) (d : mv nx n ad g k (ins s x) x < NV) : cv (cost ad g s) ((ext nx n k (ins s x) x).map (List.cons x)) = comb ad (g (ins s x)) (mv nx n ad g k (ins s x) x) := by
  unfold cv
  rw [List.map_map]
  obtain ⟨p, h1, h2⟩ := mv_get d
  have hle : lm NV (List.map (cost ad g s ∘ List.cons x) (ext nx n k (ins s x) x)) ≤ comb ad (g (ins s x)) (mv nx n ad g k (ins s x) x) := by
    rw [← h2]
    exact lm_min (List.mem_map.mpr ⟨p, h1, rfl⟩)
  have hb : comb ad (g (ins s x)) (mv nx n ad g k (ins s x) x) < NV := by
    have a1 : comb ad (g (ins s x)) (mv nx n ad g k (ins s x) x) ≤ _ := comb_le
    have a2 := hg (ins s x)
    have a3 := mv_lt (ad := ad) hg (show k ≤ 10 by omega) ((mv_iff hg (by omega)).mp d)
    show _ < 1000000
    omega
  have hm := lm_mem (Nat.lt_of_le_of_lt hle hb)
  obtain ⟨q, h3, h4⟩ := List.mem_map.mp hm
  refine Nat.le_antisymm hle ?_
  rw [← h4]
  exact comb_mono (mv_min h3)
theorem cn_cons {nx : Rl} {n : Nat} {g : Nat → Nat} (hg : ∀ s, g s ≤ 1000) {k s x : Nat} (hk : k + 1 ≤ 10) (d : mv nx n true g k (ins s x) x < NV) : cn (cost true g s) ((ext nx n k (ins s x) x).map (List.cons x)) = cn (cost true g (ins s x)) (ext nx n k (ins s x) x) := by
  unfold cn
  rw [cv_cons hg hk d, List.filter_map, List.length_map]
  congr 1
  refine List.filter_congr fun p _ => ?_
  show decide (g (ins s x) + cost true g (ins s x) p = g (ins s x) + mv nx n true g k (ins s x) x) = decide (cost true g (ins s x) p = cv (cost true g (ins s x)) (ext nx n k (ins s x) x))
  show _ = decide (cost true g (ins s x) p = mv nx n true g k (ins s x) x)
  by_cases c : cost true g (ins s x) p = mv nx n true g k (ins s x) x
  · rw [c]
    simp
  · rw [decide_eq_false c, decide_eq_false (by omega)]
theorem cb_cons {g : Nat → Nat} {B s x : Nat} (L : List (List Nat)) : ((L.map (List.cons x)).filter (fun p => decide (cost false g s p ≤ B))).length = if B < g (ins s x) then 0 else (L.filter (fun p => decide (cost false g (ins s x) p ≤ B))).length := by
  rw [List.filter_map, List.length_map]
  have e : ∀ p, ((fun p => decide (cost false g s p ≤ B)) ∘ List.cons x) p = (decide (g (ins s x) ≤ B) && decide (cost false g (ins s x) p ≤ B)) := fun p => by
    show decide (max (g (ins s x)) (cost false g (ins s x) p) ≤ B) = _
    by_cases c : g (ins s x) ≤ B <;> by_cases d : cost false g (ins s x) p ≤ B <;> simp [c, d]
    all_goals omega
  rw [List.filter_congr fun p _ => e p]
  by_cases c : B < g (ins s x)
  · rw [if_pos c, List.filter_eq_nil_iff.mpr fun p _ q => ?_]
    · rfl
    · rw [Bool.and_eq_true] at q
      have := of_decide_eq_true q.1
      omega
  · rw [if_neg c]
    congr 1
    refine List.filter_congr fun p _ => ?_
    rw [decide_eq_true (show g (ins s x) ≤ B by omega), Bool.true_and]
/-- the ways on that begin with one of the first x things -/
def PA (nx : Rl) (n k s l x : Nat) : List (List Nat) := fm x (fun y => if nx s l y = true then (ext nx n k (ins s y) y).map (List.cons y) else [])
theorem PA_s (nx : Rl) (n k s l x : Nat) : PA nx n k s l (x + 1) = PA nx n k s l x ++ (if nx s l x = true then (ext nx n k (ins s x) x).map (List.cons x) else []) := rfl
theorem PA_n (nx : Rl) (n k s l : Nat) : PA nx n k s l n = ext nx n (k + 1) s l := rfl
theorem PA_no {nx : Rl} {n : Nat} {ad : Bool} {g : Nat → Nat} (hg : ∀ s, g s ≤ 1000) {k s l x : Nat} (hk : k + 1 ≤ 10) (h : ¬ (nx s l x = true ∧ mv nx n ad g k (ins s x) x < NV)) : PA nx n k s l (x + 1) = PA nx n k s l x := by
  rw [PA_s]
  by_cases c : nx s l x = true
  · have : ext nx n k (ins s x) x = [] := Classical.byContradiction fun e => h ⟨c, (mv_iff hg (by omega)).mpr e⟩
    rw [if_pos c, this]
    exact List.append_nil _
  · rw [if_neg c, List.append_nil]
theorem PA_cv {nx : Rl} {n : Nat} {ad : Bool} {g : Nat → Nat} (hg : ∀ s, g s ≤ 1000) {k s l x : Nat} (hk : k + 1 ≤ 10) (c : nx s l x = true) (d : mv nx n ad g k (ins s x) x < NV) : cv (cost ad g s) (PA nx n k s l (x + 1)) = min (cv (cost ad g s) (PA nx n k s l x)) (comb ad (g (ins s x)) (mv nx n ad g k (ins s x) x)) := by
  rw [PA_s, if_pos c, cv_app, cv_cons hg hk d]
theorem PA_wt {nx : Rl} {n : Nat} {g : Nat → Nat} (hg : ∀ s, g s ≤ 1000) {B k s l x : Nat} (hk : k + 1 ≤ 10) (c : nx s l x = true) (d : mv nx n true g k (ins s x) x < NV) : wB true g B s (PA nx n k s l (x + 1)) = if g (ins s x) + mv nx n true g k (ins s x) x < cv (cost true g s) (PA nx n k s l x) then wB true g B (ins s x) (ext nx n k (ins s x) x) else if g (ins s x) + mv nx n true g k (ins s x) x = cv (cost true g s) (PA nx n k s l x) then wB true g B s (PA nx n k s l x) + wB true g B (ins s x) (ext nx n k (ins s x) x) else wB true g B s (PA nx n k s l x) := by
  have e1 : cv (cost true g s) ((ext nx n k (ins s x) x).map (List.cons x)) = g (ins s x) + mv nx n true g k (ins s x) x := cv_cons hg hk d
  have e2 := cn_cons hg hk d
  unfold wB
  rw [if_pos rfl, if_pos rfl, if_pos rfl, PA_s, if_pos c, ← e2, ← e1]
  by_cases y : cv (cost true g s) ((ext nx n k (ins s x) x).map (List.cons x)) < cv (cost true g s) (PA nx n k s l x)
  · rw [if_pos y, cn_gt y]
  · rw [if_neg y]
    by_cases z : cv (cost true g s) ((ext nx n k (ins s x) x).map (List.cons x)) = cv (cost true g s) (PA nx n k s l x)
    · rw [if_pos z, cn_eq z]
    · rw [if_neg z, cn_lt (by omega)]
theorem PA_wf {nx : Rl} {n : Nat} {g : Nat → Nat} {B k s l x : Nat} (c : nx s l x = true) : wB false g B s (PA nx n k s l (x + 1)) = wB false g B s (PA nx n k s l x) + if B < g (ins s x) then 0 else wB false g B (ins s x) (ext nx n k (ins s x) x) := by
  unfold wB
  rw [if_neg (show ¬ false = true by decide), if_neg (show ¬ false = true by decide), if_neg (show ¬ false = true by decide), PA_s, if_pos c, List.filter_append, List.length_append, cb_cons]
theorem wB_nil (ad : Bool) (g : Nat → Nat) (B s : Nat) : wB ad g B s [] = 0 := by
  unfold wB
  split <;> rfl
/-- one place of the tables along least ways, in the model -/
theorem mgoes_eq {w : Wd} {m l2 B s l k : Nat} {ad : Bool} {g : Nat → Nat} {M : tr_M} (hok : WOk w) (hm : MWd w M) (hp : PinX none M) (h4 : m < 4) (hsum : mX7_isSum (nI l2) = if ad = true then 1 else 0) (hgl : ∀ s, g s ≤ 1000) (hBT : BT w (nxW stM w none) m M) (h15 : ∀ s, s < 2 ^ w.1 → M.1 15 s = nI (g s)) (hst : St w.1 s l) (hs : lft w.1 s = k + 1) (hl : l < w.1) (hB : B ≤ NV) (hT : ∀ s' l', St w.1 s' l' → l' < w.1 → s < s' → M.1 22 (s' * 10 + l') = nI (ms (Gd w (nxW stM w none) m) w.1 ad g s' (ls s' l')) ∧ M.1 23 (s' * 10 + l') = nI (wB ad g B s' (ext (Gd w (nxW stM w none) m) w.1 (lft w.1 s') s' (ls s' l')))) (h22 : M.1 22 (s * 10 + l) = nI NV) (h23 : M.1 23 (s * 10 + l) = nI 0) : ∃ N, mX7_goesOn (nI m) (nI l2) (nI s) (nI l) (nI B) M = some N ∧ N.1 22 (s * 10 + l) = nI (ms (Gd w (nxW stM w none) m) w.1 ad g s (ls s l)) ∧ N.1 23 (s * 10 + l) = nI (wB ad g B s (ext (Gd w (nxW stM w none) m) w.1 (lft w.1 s) s (ls s l))) ∧ (∀ c, c ≠ 22 → c ≠ 23 → N.1 c = M.1 c) ∧ (∀ j, j ≠ s * 10 + l → N.1 22 j = M.1 22 j ∧ N.1 23 j = M.1 23 j) ∧ N.2 = M.2 := by
  have hn := hok.1
  have hpw := pow_lt hn
  have hG : Fresh (Gd w (nxW stM w none) m) w.1 := Gd_fresh (nxW_fresh stM w none)
  have hs2 := hst.1
  have hk10 : k + 1 ≤ 10 := by unfold lft at hs; omega
  have hNV : NV = 1000000 := rfl
  unfold mX7_goesOn
  rw [hs, ms_eq hs]
  refine tr_loop_inv (step := mX7_goesOn_l11 (nI m) (nI l2) (nI s) (nI l) (nI B)) (s0 := (0, M)) (fun x t => ∃ N, t = (nI x, N) ∧ N.1 22 (s * 10 + l) = nI (cv (cost ad g s) (PA (Gd w (nxW stM w none) m) w.1 k s (ls s l) x)) ∧ N.1 23 (s * 10 + l) = nI (wB ad g B s (PA (Gd w (nxW stM w none) m) w.1 k s (ls s l) x)) ∧ (∀ c, c ≠ 22 → c ≠ 23 → N.1 c = M.1 c) ∧ (∀ j, j ≠ s * 10 + l → N.1 22 j = M.1 22 j ∧ N.1 23 j = M.1 23 j) ∧ N.2 = M.2) (fun N => N.1 22 (s * 10 + l) = nI (mv (Gd w (nxW stM w none) m) w.1 ad g (k + 1) s (ls s l)) ∧ N.1 23 (s * 10 + l) = nI (wB ad g B s (ext (Gd w (nxW stM w none) m) w.1 (k + 1) s (ls s l))) ∧ (∀ c, c ≠ 22 → c ≠ 23 → N.1 c = M.1 c) ∧ (∀ j, j ≠ s * 10 + l → N.1 22 j = M.1 22 j ∧ N.1 23 j = M.1 23 j) ∧ N.2 = M.2) w.1 (by omega) ⟨M, rfl, h22, by rw [show PA (Gd w (nxW stM w none) m) w.1 k s (ls s l) 0 = [] from rfl, wB_nil]; exact h23, fun _ _ _ => rfl, fun _ _ => ⟨rfl, rfl⟩, rfl⟩ ?_ ?_
  · rintro x t hx ⟨N, rfl, t1, t2, t3, t4, t5⟩
    left
    have kN : KX M N := ⟨fun c _ _ hc => t3 c (by omega) (by omega), fun k _ => by rw [t3 1 (by decide) (by decide)], t5⟩
    have hmN := hm.kx kN
    have hpN := hp.kx kN
    have hBN : BT w (nxW stM w none) m N := hBT.cg (t3 14 (by decide) (by decide)) (t3 16 (by decide) (by decide)) (by rw [t3 1 (by decide) (by decide)])
    have fin : ∀ u v : Nat, v = cv (cost ad g s) (PA (Gd w (nxW stM w none) m) w.1 k s (ls s l) (x + 1)) → u = wB ad g B s (PA (Gd w (nxW stM w none) m) w.1 k s (ls s l) (x + 1)) → ∃ s', some (Sum.inl (nI x + 1, tr_st (tr_st N 23 (s * 10 + l) (nI u)) 22 (s * 10 + l) (nI v)) : (Int32 × tr_M) ⊕ tr_M) = some (Sum.inl s') ∧ ∃ N, s' = (nI (x + 1), N) ∧ N.1 22 (s * 10 + l) = nI (cv (cost ad g s) (PA (Gd w (nxW stM w none) m) w.1 k s (ls s l) (x + 1))) ∧ N.1 23 (s * 10 + l) = nI (wB ad g B s (PA (Gd w (nxW stM w none) m) w.1 k s (ls s l) (x + 1))) ∧ (∀ c, c ≠ 22 → c ≠ 23 → N.1 c = M.1 c) ∧ (∀ j, j ≠ s * 10 + l → N.1 22 j = M.1 22 j ∧ N.1 23 j = M.1 23 j) ∧ N.2 = M.2 := fun u v hv hu => by
      refine ⟨_, rfl, _, Prod.ext (nadd1 _) rfl, ?_, ?_, fun c c1 c2 => ?_, fun j hj => ⟨?_, ?_⟩, t5⟩
      · rw [tr_st_s, hv]
      · rw [tr_st_ne (by decide), tr_st_s, hu]
      · rw [tr_st_ne c1, tr_st_ne c2, t3 c c1 c2]
      · rw [tr_st_j hj, tr_st_ne (by decide), (t4 j hj).1]
      · rw [tr_st_ne (by decide), tr_st_j hj, (t4 j hj).2]
    have skip : ¬ (Gd w (nxW stM w none) m s (ls s l) x = true ∧ mv (Gd w (nxW stM w none) m) w.1 ad g k (ins s x) x < NV) → ∃ s', some (Sum.inl (nI x + 1, N) : (Int32 × tr_M) ⊕ tr_M) = some (Sum.inl s') ∧ ∃ N, s' = (nI (x + 1), N) ∧ N.1 22 (s * 10 + l) = nI (cv (cost ad g s) (PA (Gd w (nxW stM w none) m) w.1 k s (ls s l) (x + 1))) ∧ N.1 23 (s * 10 + l) = nI (wB ad g B s (PA (Gd w (nxW stM w none) m) w.1 k s (ls s l) (x + 1))) ∧ (∀ c, c ≠ 22 → c ≠ 23 → N.1 c = M.1 c) ∧ (∀ j, j ≠ s * 10 + l → N.1 22 j = M.1 22 j ∧ N.1 23 j = M.1 23 j) ∧ N.2 = M.2 := fun h => by
      rw [PA_no hgl hk10 h]
      exact ⟨_, rfl, N, by rw [nadd1], t1, t2, t3, t4, t5⟩
    unfold mX7_goesOn_l11
    dsimp only
    have e6 : (if nI s = 0 then some (-9 : Int32) else some (nI l)) = some (lsI s l) := by
      unfold lsI
      by_cases z : s = 0
      · rw [if_pos z, if_pos (by rw [z]; rfl)]
      · rw [if_neg z, if_neg (by rw [neq0 (by omega)]; exact z)]
    rw [hmN.1, if_pos ((nlt (by omega) (by omega)).mpr hx), Option.bind_some, e6, Option.bind_some, isGood_eq hok hmN hpN h4 hBN hst hx, Option.bind_some]
    by_cases c : Gd w (nxW stM w none) m s (ls s l) x = true
    · have hfr := (hG _ _ _ c).2
      obtain ⟨z1, z2⟩ := St_ins hst.1 hx
      have hi := z1.1
      have hk' : lft w.1 (ins s x) = k := by have := lft_ins hx hfr; omega
      have gt := ins_gt hfr
      obtain ⟨a1, a2⟩ := hT (ins s x) x z1 hx gt
      rw [z2, ms_eq hk'] at a1
      rw [z2, hk'] at a2
      obtain ⟨b1, b2⟩ := t4 (ins s x * 10 + x) (by omega)
      rw [a1] at b1
      rw [a2] at b2
      have hmv : mv (Gd w (nxW stM w none) m) w.1 ad g k (ins s x) x ≤ NV := lm_le _ _
      have hgx := hgl (ins s x)
      have hcv := cv_le (cost ad g s) (PA (Gd w (nxW stM w none) m) w.1 k s (ls s l) x)
      have r15 : tr_rd 1024 N 15 (nI (ins s x)) = some (nI (g (ins s x))) := by rw [tr_rd_nI (by omega) (by decide), t3 15 (by decide) (by decide), h15 _ hi]
      have r22t : tr_rd 10240 N 22 (nI (ins s x * 10 + x)) = some (nI (mv (Gd w (nxW stM w none) m) w.1 ad g k (ins s x) x)) := by rw [tr_rd_nI (by omega) (by decide), b1]
      have r23t : tr_rd 10240 N 23 (nI (ins s x * 10 + x)) = some (nI (wB ad g B (ins s x) (ext (Gd w (nxW stM w none) m) w.1 k (ins s x) x))) := by rw [tr_rd_nI (by omega) (by decide), b2]
      have r22 : tr_rd 10240 N 22 (nI (s * 10 + l)) = some (nI (cv (cost ad g s) (PA (Gd w (nxW stM w none) m) w.1 k s (ls s l) x))) := by rw [tr_rd_nI (by omega) (by decide), t1]
      have r23 : tr_rd 10240 N 23 (nI (s * 10 + l)) = some (nI (wB ad g B s (PA (Gd w (nxW stM w none) m) w.1 k s (ls s l) x))) := by rw [tr_rd_nI (by omega) (by decide), t2]
      have w23 : ∀ v, tr_wr 10240 N 23 (nI (s * 10 + l)) v = some (tr_st N 23 (s * 10 + l) v) := fun v => tr_wr_nI (by omega) (by decide)
      have r57 : ∀ u, tr_rd 10240 (tr_st N 23 (s * 10 + l) u) 22 (nI (s * 10 + l)) = some (nI (cv (cost ad g s) (PA (Gd w (nxW stM w none) m) w.1 k s (ls s l) x))) := fun u => by rw [tr_rd_nI (by omega) (by decide), tr_st_ne (by decide), t1]
      have w61 : ∀ u v, tr_wr 10240 (tr_st N 23 (s * 10 + l) u) 22 (nI (s * 10 + l)) v = some (tr_st (tr_st N 23 (s * 10 + l) u) 22 (s * 10 + l) v) := fun u v => tr_wr_nI (by omega) (by decide)
      rw [if_pos c, if_neg (show ¬ (1 : Int32) = 0 by decide), ins_nI (by omega), spot_eq, spot_eq, r22t, Option.bind_some, show (1000000 : Int32) = nI NV from rfl]
      by_cases d : mv (Gd w (nxW stM w none) m) w.1 ad g k (ins s x) x < NV
      · rw [if_pos ((nlt (by omega) (by omega)).mpr d)]
        have hcl := comb_le (ad := ad) (a := g (ins s x)) (b := mv (Gd w (nxW stM w none) m) w.1 ad g k (ins s x) x)
        have hcv1 := PA_cv hgl hk10 c d
        cases ad with
        | false =>
          have hsum0 : mX7_isSum (nI l2) = 0 := hsum
          have hw1 := PA_wf (n := w.1) (g := g) (B := B) (k := k) c
          simp only [hsum0, if_true, r15, r22t, Option.bind_some, r23, ngreater _ _ (show g (ins s x) < 2147483648 by omega) (show mv (Gd w (nxW stM w none) m) w.1 false g k (ins s x) x < 2147483648 by omega)]
          by_cases q : B < g (ins s x)
          · rw [if_pos ((nlt (by omega) (by omega)).mpr q), w23, Option.bind_some, Option.bind_some, r57, Option.bind_some, w61, Option.bind_some, nlesser _ _ (by omega) (by show max _ _ < _; omega), Int32.add_zero]
            rw [if_pos q, Nat.add_zero] at hw1
            exact fin _ _ hcv1.symm hw1.symm
          · rw [if_neg (by rw [nlt (by omega) (by omega)]; exact q), r23t, Option.bind_some, w23, Option.bind_some, Option.bind_some, r57, Option.bind_some, w61, Option.bind_some, nlesser _ _ (by omega) (by show max _ _ < _; omega), nadd]
            rw [if_neg q] at hw1
            exact fin _ _ hcv1.symm hw1.symm
        | true =>
          have hsum0 : mX7_isSum (nI l2) = 1 := hsum
          have hw1 := PA_wt hgl (B := B) hk10 c d
          simp only [hsum0, if_neg (show ¬ (1 : Int32) = 0 by decide), r15, r22t, Option.bind_some, r22, nadd]
          have hby : g (ins s x) + mv (Gd w (nxW stM w none) m) w.1 true g k (ins s x) x < 2147483648 := by omega
          by_cases q : g (ins s x) + mv (Gd w (nxW stM w none) m) w.1 true g k (ins s x) x < cv (cost true g s) (PA (Gd w (nxW stM w none) m) w.1 k s (ls s l) x)
          · rw [if_pos ((nlt (by omega) (by omega)).mpr q), r23t, Option.bind_some, w23, Option.bind_some, Option.bind_some, r57, Option.bind_some, w61, Option.bind_some, nlesser _ _ (by omega) hby]
            rw [if_pos q] at hw1
            exact fin _ _ hcv1.symm hw1.symm
          · rw [if_neg (by rw [nlt (by omega) (by omega)]; exact q)]
            rw [if_neg q] at hw1
            by_cases q2 : g (ins s x) + mv (Gd w (nxW stM w none) m) w.1 true g k (ins s x) x = cv (cost true g s) (PA (Gd w (nxW stM w none) m) w.1 k s (ls s l) x)
            · rw [if_pos (by rw [q2]), r23, Option.bind_some, r23t, Option.bind_some, w23, Option.bind_some, Option.bind_some, r57, Option.bind_some, w61, Option.bind_some, nlesser _ _ (by omega) hby, nadd]
              rw [if_pos q2] at hw1
              exact fin _ _ hcv1.symm hw1.symm
            · rw [if_neg (by rw [neq (by omega) (by omega)]; exact q2), r23, Option.bind_some, w23, Option.bind_some, Option.bind_some, r57, Option.bind_some, w61, Option.bind_some, nlesser _ _ (by omega) hby]
              rw [if_neg q2] at hw1
              exact fin _ _ hcv1.symm hw1.symm
      · rw [if_neg (by rw [nlt (by omega) (by omega)]; exact d)]
        exact skip fun h => d h.2
    · rw [if_neg c, if_pos rfl]
      exact skip fun h => c h.1
  · rintro t ⟨N, rfl, t1, t2, t3, t4, t5⟩
    unfold mX7_goesOn_l11
    dsimp only
    rw [t3 1 (by decide) (by decide), hm.1, if_neg (by rw [nlt (by omega) (by omega)]; omega)]
    rw [PA_n] at t1 t2
    exact ⟨N, rfl, t1, t2, t3, t4, t5⟩
theorem mdown2 {n : Nat} {ρ : Type} {M : tr_M} (hn : n ≤ 10) {out : Int32 × tr_M → Option ((Int32 × tr_M) ⊕ ρ)} {inn : Nat → tr_M → Int32 × tr_M → Option ((Int32 × tr_M) ⊕ ((Int32 × tr_M) ⊕ ρ))} (J : Nat → Nat → tr_M → Prop) (R : ρ → Prop) (ho : ∀ s N, s < 2 ^ n → J s 0 N → out (nI s, N) = tr_loop (inn s N) (0, N)) (ho2 : ∀ N, J 0 n N → ∃ r, out (-1, N) = some (.inr r) ∧ R r) (hst : ∀ s l N K, s < 2 ^ n → l < n → J s l N → ∃ P, inn s K (nI l, N) = some (.inl (nI (l + 1), P)) ∧ J s (l + 1) P) (he : ∀ s N K, s < 2 ^ n → J s n N → inn s K (nI n, N) = some (.inr (.inl (nI s + (-1), N)))) (hnx : ∀ s N, s + 1 < 2 ^ n → J (s + 1) n N → J s 0 N) (h0 : J (2 ^ n - 1) 0 M) : ∃ r, tr_loop out (nI (2 ^ n - 1), M) = some r ∧ R r := by
  have hpw := pow_lt hn
  have hp0 := Nat.two_pow_pos n
  have inner : ∀ s N, s < 2 ^ n → J s 0 N → ∃ P, tr_loop (inn s N) (0, N) = some (.inl (nI s + (-1), P)) ∧ J s n P := fun s N hs hJ => by
    obtain ⟨r, e1, P, e2, e3⟩ := tr_loop_inv (step := inn s N) (s0 := (0, N)) (fun l t => ∃ P, t = (nI l, P) ∧ J s l P) (fun r => ∃ P, r = .inl (nI s + (-1), P) ∧ J s n P) n (by omega) ⟨N, rfl, hJ⟩ (by
      rintro l t hl ⟨P, rfl, hP⟩
      left
      obtain ⟨Q, q1, q2⟩ := hst s l P N hs hl hP
      exact ⟨_, q1, Q, rfl, q2⟩) (by
      rintro t ⟨P, rfl, hP⟩
      exact ⟨_, he s P N hs hP, P, rfl, hP⟩)
    exact ⟨P, by rw [e1, e2], e3⟩
  refine tr_loop_inv (step := out) (s0 := (nI (2 ^ n - 1), M)) (fun i t => ∃ N, (i < 2 ^ n ∧ t = (nI (2 ^ n - 1 - i), N) ∧ J (2 ^ n - 1 - i) 0 N) ∨ (i = 2 ^ n ∧ t = (-1, N) ∧ J 0 n N)) R (2 ^ n) (by omega) ⟨M, Or.inl ⟨hp0, rfl, h0⟩⟩ ?_ ?_
  · rintro i t hi ⟨N, ⟨_, rfl, hJ⟩ | ⟨e, _, _⟩⟩
    · left
      have h1 := ho (2 ^ n - 1 - i) N (by omega) hJ
      obtain ⟨P, p1, p2⟩ := inner (2 ^ n - 1 - i) N (by omega) hJ
      rw [h1, p1]
      refine ⟨_, rfl, P, ?_⟩
      by_cases c : i + 1 < 2 ^ n
      · left
        refine ⟨c, ?_, ?_⟩
        · rw [nsub1 (by omega), show 2 ^ n - 1 - i - 1 = 2 ^ n - 1 - (i + 1) by omega]
        · refine hnx (2 ^ n - 1 - (i + 1)) P (by omega) ?_
          rw [show 2 ^ n - 1 - (i + 1) + 1 = 2 ^ n - 1 - i by omega]
          exact p2
      · right
        rw [show 2 ^ n - 1 - i = 0 by omega] at p2 ⊢
        exact ⟨by omega, rfl, p2⟩
    · omega
  · rintro t ⟨N, ⟨hi, _, _⟩ | ⟨_, rfl, hJ⟩⟩
    · omega
    · exact ho2 N hJ
theorem wB_full (ad : Bool) (g : Nat → Nat) (B s : Nat) : wB ad g B s [[]] = 1 := by
  unfold wB
  by_cases c : ad = true
  · rw [if_pos c]
    exact cn_one (c := cost ad g s) (p := []) (Nat.zero_le _)
  · rw [if_neg c, List.filter_cons_of_pos (p := fun p => decide (cost ad g s p ≤ B)) (a := []) (decide_eq_true (Nat.zero_le _))]
    rfl
theorem along_eq {w : Wd} {m l2 B : Nat} {ad : Bool} {g : Nat → Nat} {M : tr_M} (hok : WOk w) (hm : MWd w M) (hp : PinX none M) (h4 : m < 4) (hsum : mX7_isSum (nI l2) = if ad = true then 1 else 0) (hgl : ∀ s, g s ≤ 1000) (hBT : BT w (nxW stM w none) m M) (h15 : ∀ s, s < 2 ^ w.1 → M.1 15 s = nI (g s)) (hB : B ≤ NV) (h0 : w.1 ≠ 0) : ∃ N, mX7_bestAlong (nI m) (nI l2) (nI B) M = some (nI (ms (Gd w (nxW stM w none) m) w.1 ad g 0 10), N) ∧ N.1 23 0 = nI (wB ad g B 0 (ext (Gd w (nxW stM w none) m) w.1 w.1 0 10)) ∧ (∀ c, c ≠ 22 → c ≠ 23 → N.1 c = M.1 c) ∧ N.2 = M.2 := by
  have hn := hok.1
  have hpw := pow_lt hn
  have hp0 := Nat.two_pow_pos w.1
  have hNV : NV = 1000000 := rfl
  unfold mX7_bestAlong
  rw [full_eq hm.1 hn]
  obtain ⟨r, e1, N, e2, e3⟩ := mdown2 (n := w.1) (M := M) hn (out := mX7_bestAlong_l6 (nI m) (nI l2) (nI B)) (inn := fun s N => mX7_bestAlong_l14 (nI m) (nI l2) (nI B) (nI s, N)) (fun s l N => (∀ s' l', St w.1 s' l' → l' < w.1 → (s < s' ∨ (s' = s ∧ l' < l)) → N.1 22 (s' * 10 + l') = nI (ms (Gd w (nxW stM w none) m) w.1 ad g s' (ls s' l')) ∧ N.1 23 (s' * 10 + l') = nI (wB ad g B s' (ext (Gd w (nxW stM w none) m) w.1 (lft w.1 s') s' (ls s' l')))) ∧ (∀ c, c ≠ 22 → c ≠ 23 → N.1 c = M.1 c) ∧ N.2 = M.2) (fun r => ∃ N, r = (nI (ms (Gd w (nxW stM w none) m) w.1 ad g 0 10), N) ∧ N.1 23 0 = nI (wB ad g B 0 (ext (Gd w (nxW stM w none) m) w.1 w.1 0 10)) ∧ (∀ c, c ≠ 22 → c ≠ 23 → N.1 c = M.1 c) ∧ N.2 = M.2) (fun s N hs hJ => by
      unfold mX7_bestAlong_l6
      dsimp only
      rw [if_neg (nI_pos (by omega))]) (by
    rintro N ⟨t1, t2, t3⟩
    obtain ⟨a1, a2⟩ := t1 0 0 ⟨hp0, Or.inl ⟨rfl, rfl⟩⟩ (by omega) (Or.inr ⟨rfl, by omega⟩)
    rw [show ls 0 0 = 10 from rfl] at a1 a2
    rw [lft_0] at a2
    have r0 : tr_rd 10240 N 22 0 = some (nI (ms (Gd w (nxW stM w none) m) w.1 ad g 0 10)) := by
      have := tr_rd_nI (n := 10240) (M := N) (a := 22) (k := 0) (by decide) (by decide)
      rw [show N.1 22 0 = nI (ms (Gd w (nxW stM w none) m) w.1 ad g 0 10) from a1] at this
      exact this
    unfold mX7_bestAlong_l6
    dsimp only
    rw [if_pos (by decide), r0]
    exact ⟨_, rfl, N, rfl, a2, t2, t3⟩) (by
    rintro s l N K hs hl ⟨t1, t2, t3⟩
    have kN : KX M N := ⟨fun c _ _ hc => t2 c (by omega) (by omega), fun k _ => by rw [t2 1 (by decide) (by decide)], t3⟩
    have hmN := hm.kx kN
    have hpN := hp.kx kN
    unfold mX7_bestAlong_l14
    dsimp only
    rw [hmN.1, if_pos ((nlt (by omega) (by omega)).mpr hl), full_eq hmN.1 hn, has_eq (by omega) (by omega), spot_eq]
    have w22 : ∀ v, tr_wr 10240 N 22 (nI (s * 10 + l)) v = some (tr_st N 22 (s * 10 + l) v) := fun v => tr_wr_nI (by omega) (by decide)
    have w23 : ∀ u v, tr_wr 10240 (tr_st N 22 (s * 10 + l) u) 23 (nI (s * 10 + l)) v = some (tr_st (tr_st N 22 (s * 10 + l) u) 23 (s * 10 + l) v) := fun u v => tr_wr_nI (by omega) (by decide)
    have f1 : ∀ u, mX7_full (tr_st N 22 (s * 10 + l) u) = nI (2 ^ w.1 - 1) := fun u => full_eq (by rw [tr_st_ne (by decide)]; exact hmN.1) hn
    have f2 : ∀ u v, mX7_full (tr_st (tr_st N 22 (s * 10 + l) u) 23 (s * 10 + l) v) = nI (2 ^ w.1 - 1) := fun u v => full_eq (by rw [tr_st_ne (by decide), tr_st_ne (by decide)]; exact hmN.1) hn
    have frame : ∀ u v c, c ≠ 22 → c ≠ 23 → (tr_st (tr_st N 22 (s * 10 + l) u) 23 (s * 10 + l) v).1 c = M.1 c := fun u v c c1 c2 => by rw [tr_st_ne c2, tr_st_ne c1, t2 c c1 c2]
    have oth : ∀ u v j, j ≠ s * 10 + l → (tr_st (tr_st N 22 (s * 10 + l) u) 23 (s * 10 + l) v).1 22 j = N.1 22 j ∧ (tr_st (tr_st N 22 (s * 10 + l) u) 23 (s * 10 + l) v).1 23 j = N.1 23 j := fun u v j hj => ⟨by rw [tr_st_ne (by decide), tr_st_j hj], by rw [tr_st_j hj, tr_st_ne (by decide)]⟩
    have fin : ∀ P : tr_M, (∀ c, c ≠ 22 → c ≠ 23 → P.1 c = M.1 c) → P.2 = M.2 → (∀ j, j ≠ s * 10 + l → P.1 22 j = N.1 22 j ∧ P.1 23 j = N.1 23 j) → (St w.1 s l → P.1 22 (s * 10 + l) = nI (ms (Gd w (nxW stM w none) m) w.1 ad g s (ls s l)) ∧ P.1 23 (s * 10 + l) = nI (wB ad g B s (ext (Gd w (nxW stM w none) m) w.1 (lft w.1 s) s (ls s l)))) → (∀ s' l', St w.1 s' l' → l' < w.1 → (s < s' ∨ (s' = s ∧ l' < l + 1)) → P.1 22 (s' * 10 + l') = nI (ms (Gd w (nxW stM w none) m) w.1 ad g s' (ls s' l')) ∧ P.1 23 (s' * 10 + l') = nI (wB ad g B s' (ext (Gd w (nxW stM w none) m) w.1 (lft w.1 s') s' (ls s' l')))) ∧ (∀ c, c ≠ 22 → c ≠ 23 → P.1 c = M.1 c) ∧ P.2 = M.2 := fun P p1 p2 p3 p4 => by
      refine ⟨fun s' l' hst' hl' hlt => ?_, p1, p2⟩
      by_cases q : s' = s ∧ l' = l
      · obtain ⟨rfl, rfl⟩ := q
        exact p4 hst'
      · have h1 := hst'.l10 hn
        obtain ⟨a1, a2⟩ := p3 (s' * 10 + l') (by omega)
        rw [a1, a2]
        refine t1 s' l' hst' hl' ?_
        rcases hlt with y | y
        · exact Or.inl y
        · exact Or.inr ⟨y.1, by omega⟩
    by_cases c : s = 2 ^ w.1 - 1
    · have hb : s.testBit l = true := by rw [c, full_bit]; exact decide_eq_true hl
      rw [if_pos (by rw [c]), hb, if_pos rfl, if_neg (show ¬ (1 : Int32) = 0 by decide), Option.bind_some, w22, Option.bind_some, f1, if_pos (by rw [c]), if_neg (show ¬ (1 : Int32) = 0 by decide), Option.bind_some, w23, Option.bind_some, f2, if_neg (by rw [nlt (by omega) (by omega)]; omega), nadd1]
      refine ⟨_, rfl, fin _ (frame _ _) t3 (oth _ _) fun _ => ⟨?_, ?_⟩⟩
      · rw [tr_st_ne (by decide), tr_st_s]
        unfold ms
        rw [lft_full c]
        rfl
      · rw [tr_st_s, lft_full c]
        show (1 : Int32) = nI (wB ad g B s [[]])
        rw [wB_full]
        rfl
    · rw [if_neg (by rw [neq (by omega) (by omega)]; exact c), Option.bind_some, w22, Option.bind_some, f1, if_neg (by rw [neq (by omega) (by omega)]; exact c), Option.bind_some, w23, Option.bind_some, f2, if_pos ((nlt (by omega) (by omega)).mpr (by omega))]
      have go : St w.1 s l → ∃ P, (Option.bind (mX7_goesOn (nI m) (nI l2) (nI s) (nI l) (nI B) (tr_st (tr_st N 22 (s * 10 + l) (1000000 : Int32)) 23 (s * 10 + l) (0 : Int32))) (fun c30 => some (Sum.inl (nI l + 1, c30) : (Int32 × tr_M) ⊕ ((Int32 × tr_M) ⊕ (Int32 × tr_M))))) = some (.inl (nI (l + 1), P)) ∧ (∀ s' l', St w.1 s' l' → l' < w.1 → (s < s' ∨ (s' = s ∧ l' < l + 1)) → P.1 22 (s' * 10 + l') = nI (ms (Gd w (nxW stM w none) m) w.1 ad g s' (ls s' l')) ∧ P.1 23 (s' * 10 + l') = nI (wB ad g B s' (ext (Gd w (nxW stM w none) m) w.1 (lft w.1 s') s' (ls s' l')))) ∧ (∀ c, c ≠ 22 → c ≠ 23 → P.1 c = M.1 c) ∧ P.2 = M.2 := fun hst => by
        obtain ⟨k, hk⟩ : ∃ k, lft w.1 s = k + 1 := ⟨lft w.1 s - 1, by have := lft_pos hs c; omega⟩
        have kQ : KX N (tr_st (tr_st N 22 (s * 10 + l) (1000000 : Int32)) 23 (s * 10 + l) (0 : Int32)) := (KX.cell (a := 22) (by decide) (by decide) (fun c hc => tr_st_ne hc) rfl).tr (KX.cell (a := 23) (by decide) (by decide) (fun c hc => tr_st_ne hc) rfl)
        obtain ⟨P, g1, g2, g3, g4, g5, g6⟩ := mgoes_eq (B := B) (l2 := l2) hok (hmN.kx kQ) (hpN.kx kQ) h4 hsum hgl (hBT.cg (frame _ _ 14 (by decide) (by decide)) (frame _ _ 16 (by decide) (by decide)) (by rw [frame _ _ 1 (by decide) (by decide)])) (fun s hs => by rw [frame _ _ 15 (by decide) (by decide)]; exact h15 s hs) hst hk hl hB (fun s' l' hst' hl' hlt => by
          have h1 := hst'.l10 hn
          obtain ⟨a1, a2⟩ := oth (1000000 : Int32) (0 : Int32) (s' * 10 + l') (by omega)
          rw [a1, a2]
          exact t1 s' l' hst' hl' (Or.inl hlt)) (by rw [tr_st_ne (by decide), tr_st_s]; rfl) (by rw [tr_st_s]; rfl)
        rw [g1, Option.bind_some, nadd1]
        exact ⟨P, rfl, fin P (fun c c1 c2 => by rw [g4 c c1 c2, frame _ _ c c1 c2]) (g6.trans t3) (fun j hj => by
          rw [(g5 j hj).1, (g5 j hj).2]
          exact oth _ _ j hj) fun _ => ⟨g2, g3⟩⟩
      by_cases hb : s.testBit l = true
      · rw [if_pos hb, if_neg (show ¬ (1 : Int32) = 0 by decide), Option.bind_some]
        exact go ⟨hs, Or.inr ⟨hl, hb⟩⟩
      · rw [if_neg hb, if_pos rfl]
        by_cases z : s = 0 ∧ l = 0
        · rw [if_pos (by rw [z.1]; rfl), if_pos (by rw [z.2]; rfl), Option.bind_some]
          exact go ⟨hs, Or.inl z⟩
        · have hno : ¬ St w.1 s l := fun h => h.2.elim z fun y => hb y.2
          by_cases z1 : s = 0
          · rw [if_pos (by rw [z1]; rfl), if_neg (by rw [neq0 (by omega)]; exact fun e => z ⟨z1, e⟩), nadd1]
            exact ⟨_, rfl, fin _ (frame _ _) t3 (oth _ _) fun h => absurd h hno⟩
          · rw [if_neg (by rw [neq0 (by omega)]; exact z1), nadd1]
            exact ⟨_, rfl, fin _ (frame _ _) t3 (oth _ _) fun h => absurd h hno⟩) (by
    rintro s N K hs ⟨t1, t2, t3⟩
    unfold mX7_bestAlong_l14
    dsimp only
    rw [t2 1 (by decide) (by decide), hm.1, if_neg (by rw [nlt (by omega) (by omega)]; omega)]
    rfl) (by
    rintro s N hs ⟨t1, t2, t3⟩
    refine ⟨fun s' l' hst hl' hlt => t1 s' l' hst hl' ?_, t2, t3⟩
    rcases hlt with y | y
    · by_cases q : s' = s + 1
      · exact Or.inr ⟨q, hl'⟩
      · exact Or.inl (by omega)
    · omega) ⟨fun s' l' hst hl' hlt => by have := hst.1; omega, fun _ _ _ => rfl, rfl⟩
  have e1' : tr_loop (mX7_bestAlong_l6 (nI m) (nI l2) (nI B)) (nI (2 ^ w.1 - 1), M) = some r := e1
  exact ⟨N, by rw [e1', e2], e3⟩
/-- what a measure says of an order -/
def vl (w : Wd) (m : Nat) (p : List Nat) : Nat := if m = 4 then lgv w p else cst w m p
theorem vl_seg {w : Wd} {f : Nat → Nat} (hf : Ord w.1 f) (m : Nat) : vl w m (seg f 0 w.1) = msr w m f := by
  unfold vl msr
  by_cases c : m = 4
  · rw [if_pos c, if_pos c, lgv_seg]
  · rw [if_neg c, if_neg c]
    exact cost_msr hf
/-- the least of one measure among the least orders of another; how many have it -/
def BV (w : Wd) (m l : Nat) : Nat := cv (vl w l) (LL w none m)
def BN (w : Wd) (m l : Nat) : Nat := cn (vl w l) (LL w none m)
theorem LL_ne {w : Wd} (hok : WOk w) {m : Nat} (h : Al w none ≠ []) : LL w none m ≠ [] := fun e => by
  have := LL_pos (pin := none) (m := m) hok trivial h
  rw [e] at this
  cases this
theorem cost_lt {w : Wd} (hok : WOk w) {ad : Bool} {l : Nat} {p : List Nat} (hp : p.length ≤ 10) : cost ad (gN w l) 0 p < NV := by
  have := cost_le (ad := ad) (gN_le hok l) p 0
  show _ < 1000000
  omega
theorem bothSets_eq {w : Wd} {m l : Nat} {M : tr_M} (hok : WOk w) (hm : MWd w M) (hp : PinX none M) (h4 : m < 4) (hl : l < 4) (hBT : BT w (nxW stM w none) m M) (hne : Al w none ≠ []) : ∃ N, mX7_bothBySets (nI m) (nI l) M = some (nI (BV w m l), tr_st N 1 2 (nI (BN w m l))) ∧ KX M N := by
  have hn := hok.1
  have hNV : NV = 1000000 := rfl
  have hLL : LL w none m = ext (Gd w (nxW stM w none) m) w.1 w.1 0 10 := by
    unfold LL
    rw [if_neg (by omega), ← EL_M (pin := none) hok trivial]
    rfl
  have hLne := LL_ne (m := m) hok hne
  have hvl : vl w l = cost (adN l) (gN w l) 0 := funext fun p => by
    unfold vl
    rw [if_neg (by omega)]
    rfl
  unfold mX7_bothBySets
  obtain ⟨E, e1, e2, e3, e4⟩ := layEdges_eq (p := 15) hok hm hl (Or.inr rfl)
  have kE : KX M E := KX.cell (by decide) (by decide) e3 e4
  rw [e1, Option.bind_some, (hm.kx kE).1]
  by_cases z : w.1 = 0
  · rw [if_pos (by rw [z]; rfl), tells_eq, Option.bind_some]
    have e0 : LL w none m = [[]] := by
      rw [hLL, z]
      rfl
    have b1 : BV w m l = 0 := by
      unfold BV
      rw [e0, hvl]
      exact cv_one (Nat.zero_le _)
    have b2 : BN w m l = 1 := by
      unfold BN
      rw [e0, hvl]
      exact cn_one (Nat.zero_le _)
    rw [b1, b2]
    exact ⟨E, rfl, kE⟩
  · rw [if_neg (by rw [neq0 (by omega)]; exact z)]
    have hBE : BT w (nxW stM w none) m E := hBT.cg (e3 14 (by decide)) (e3 16 (by decide)) (by rw [e3 1 (by decide)])
    have hsum := isSum_eq (m := l) (by omega)
    have eV : ms (Gd w (nxW stM w none) m) w.1 (adN l) (gN w l) 0 10 = BV w m l := by
      rw [ms_eq (lft_0 w.1)]
      unfold BV
      rw [hvl, hLL]
      rfl
    have hVle : BV w m l ≤ NV := cv_le _ _
    obtain ⟨N, n1, n2, n3, n4⟩ := along_eq (B := NV) (l2 := l) hok (hm.kx kE) (hp.kx kE) h4 hsum (gN_le hok l) hBE e2 (Nat.le_refl _) z
    have kN : KX E N := ⟨fun c _ _ hc => n3 c (by omega) (by omega), fun k _ => by rw [n3 1 (by decide) (by decide)], n4⟩
    have n1' : mX7_bestAlong (nI m) (nI l) 1000000 E = some (nI (BV w m l), N) := by rw [← eV]; exact n1
    rw [n1', Option.bind_some, hsum]
    have rd0 : ∀ (P : tr_M) (v : Int32), P.1 23 0 = v → tr_rd 10240 P 23 0 = some v := fun P v hv => by
      have := tr_rd_nI (n := 10240) (M := P) (a := 23) (k := 0) (by decide) (by decide)
      rw [hv] at this
      exact this
    by_cases a : adN l = true
    · rw [if_pos a, if_neg (show ¬ (1 : Int32) = 0 by decide)]
      dsimp only
      rw [rd0 N _ n2, Option.bind_some, Option.bind_some, if_neg (show ¬ (1 : Int32) = 0 by decide), Option.bind_some]
      dsimp only
      rw [tells_eq, Option.bind_some]
      have eN : wB (adN l) (gN w l) NV 0 (ext (Gd w (nxW stM w none) m) w.1 w.1 0 10) = BN w m l := by
        unfold wB BN
        rw [if_pos a, hvl, hLL]
      rw [eN]
      exact ⟨N, rfl, kE.tr kN⟩
    · rw [if_neg a, if_pos rfl]
      dsimp only
      obtain ⟨P, p1, p2, p3, p4⟩ := along_eq (B := BV w m l) (l2 := l) hok ((hm.kx kE).kx kN) ((hp.kx kE).kx kN) h4 hsum (gN_le hok l) (hBE.cg (n3 14 (by decide) (by decide)) (n3 16 (by decide) (by decide)) (by rw [n3 1 (by decide) (by decide)])) (fun s hs => by rw [n3 15 (by decide) (by decide)]; exact e2 s hs) hVle z
      have kP : KX N P := ⟨fun c _ _ hc => p3 c (by omega) (by omega), fun k _ => by rw [p3 1 (by decide) (by decide)], p4⟩
      rw [Option.bind_some, if_pos rfl, p1, Option.bind_some]
      dsimp only
      rw [rd0 P _ p2, Option.bind_some, Option.bind_some, tells_eq, Option.bind_some]
      have eN : wB (adN l) (gN w l) (BV w m l) 0 (ext (Gd w (nxW stM w none) m) w.1 w.1 0 10) = BN w m l := by
        unfold wB BN cn
        rw [if_neg a, hvl, ← hLL]
        congr 1
        refine List.filter_congr fun p hp => ?_
        have h1 : cv (cost (adN l) (gN w l) 0) (LL w none m) ≤ cost (adN l) (gN w l) 0 p := cv_min hp
        have h2 : BV w m l = cv (cost (adN l) (gN w l) 0) (LL w none m) := by
          unfold BV
          rw [hvl]
        rw [h2]
        by_cases q : cost (adN l) (gN w l) 0 p = cv (cost (adN l) (gN w l) 0) (LL w none m)
        · rw [decide_eq_true q, decide_eq_true (by omega)]
        · rw [decide_eq_false q, decide_eq_false (by omega)]
      rw [eN]
      exact ⟨P, rfl, (kE.tr kN).tr kP⟩
theorem LL_vl (w : Wd) (pin : Option (Nat × Nat)) (m : Nat) : LL w pin m = (Al w pin).filter (fun p => decide (vl w m p = VL w pin m)) := by
  unfold LL VL vl
  by_cases c : m = 4
  · simp only [if_pos c]
    rfl
  · simp only [if_neg c]
    rfl
/-- the least ones of a measure among the first t orders -/
def LU (w : Wd) (m t : Nat) : List (List Nat) := ((Pm w.1).take t).filter (fun p => okf w none (fn p) && decide (vl w m p = VL w none m))
theorem LU_all (w : Wd) (m : Nat) : LU w m (fct w.1) = LL w none m := by
  rw [LL_vl]
  unfold LU Al
  rw [← Pm_len, List.take_length, List.filter_filter]
  refine List.filter_congr fun p _ => ?_
  rw [Bool.and_comm]
theorem LU_next {w : Wd} {m t : Nat} {f : Nat → Nat} (hf : Ord w.1 f) (h : (Pm w.1)[t]? = some (seg f 0 w.1)) : LU w m (t + 1) = if (okf w none f && decide (msr w m f = VL w none m)) = true then LU w m t ++ [seg f 0 w.1] else LU w m t := by
  unfold LU
  rw [take_next h, List.filter_append]
  by_cases c : (okf w none f && decide (msr w m f = VL w none m)) = true
  · rw [if_pos c, List.filter_cons_of_pos (by rw [okf_seg, vl_seg hf]; exact c)]
    rfl
  · rw [if_neg c, List.filter_cons_of_neg (by rw [okf_seg, vl_seg hf]; exact c)]
    exact List.append_nil _
theorem bothLines_eq {w : Wd} {m l : Nat} {M : tr_M} (hok : WOk w) (hm : MWd w M) (hp : PinX none M) (h4 : m ≤ 4) (hl : l ≤ 4) (h29 : M.1 1 29 = nI (VL w none m)) : ∃ N, mX7_bothByLines (nI m) (nI l) M = some (nI (BV w m l), tr_st N 1 2 (nI (BN w m l))) ∧ KX M N := by
  have hn := hok.1
  have hNV : NV = 1000000 := rfl
  have hVL := VL_le w none m
  unfold mX7_bothByLines
  obtain ⟨r, e1, N, e2, e3, e4⟩ := lines_loop (w := w) (step := mX7_bothByLines_l19 (nI m) (nI l) M) (fun (a : Int32 × Int32) b N => (a.1, a.2, b, N)) hok (fun t a N => a = (nI (cv (vl w l) (LU w m t)), nI (cn (vl w l) (LU w m t))) ∧ (∀ c, c ≠ 12 → c ≠ 13 → N.1 c = M.1 c) ∧ N.2 = M.2) (fun r => ∃ N, r = (nI (BV w m l), nI (BN w m l), N) ∧ (∀ c, c ≠ 12 → c ≠ 13 → N.1 c = M.1 c) ∧ N.2 = M.2) (fun t a N h => by rw [h.2.1 1 (by decide) (by decide)]; exact hm.1) (fun t a N N' h h1 h2 => ⟨h.1, fun c c1 c2 => (h1 c c1 c2).trans (h.2.1 c c1 c2), h2.trans h.2.2⟩) (by
    rintro t f N a h1 h2 h3 h4' ⟨rfl, h5, h6⟩
    have kN := KX.of h5 h6
    have hnx := LU_next (m := m) h1 h3
    have hmm := msr_le hok m f
    have hml := msr_le hok l f
    have hcv := cv_le (vl w l) (LU w m t)
    refine ⟨(nI (cv (vl w l) (LU w m (t + 1))), nI (cn (vl w l) (LU w m (t + 1)))), N, h4', ⟨rfl, h5, h6⟩, fun b N' hb => ?_⟩
    unfold mX7_bothByLines_l19
    dsimp only
    rw [if_neg (show ¬ (1 : Int32) = 0 by decide), allowedNow_eq (pin := none) hok (hm.kx kN) (hp.kx kN) trivial h1 h4', Option.bind_some, hnx]
    by_cases c : okf w none f = true
    · rw [if_pos c, if_neg (show ¬ (1 : Int32) = 0 by decide), measureNow_eq hok (hm.kx kN) h1 h4' h4, Option.bind_some, h29, c, Bool.true_and]
      by_cases d : msr w m f = VL w none m
      · obtain ⟨s1, s2⟩ := cn_step (c := vl w l) (A := LU w m t) (p := seg f 0 w.1) (by rw [vl_seg h1]; omega)
        rw [vl_seg h1] at s1 s2
        rw [if_pos (by rw [d]), measureNow_eq hok (hm.kx kN) h1 h4' hl, Option.bind_some, decide_eq_true d, if_pos rfl, s1, s2, nlesser _ _ (by omega) (by omega)]
        have e : (if nI (msr w l f) < nI (cv (vl w l) (LU w m t)) then some (1 : Int32) else if nI (msr w l f) = nI (cv (vl w l) (LU w m t)) then some (nI (cn (vl w l) (LU w m t)) + 1) else some (nI (cn (vl w l) (LU w m t)))) = some (nI (if msr w l f < cv (vl w l) (LU w m t) then 1 else if msr w l f = cv (vl w l) (LU w m t) then cn (vl w l) (LU w m t) + 1 else cn (vl w l) (LU w m t))) := by
          simp (disch := omega) only [nlt, neq]
          split
          · rfl
          · split
            · rw [nadd1]
            · rfl
        rw [e, Option.bind_some, Option.bind_some, hb, Option.bind_some]
      · rw [if_neg (by rw [neq (by omega) (by omega)]; exact d), decide_eq_false d, if_neg (by decide), Option.bind_some, hb, Option.bind_some]
    · have c' : okf w none f = false := by
        cases h : okf w none f with
        | true => exact absurd h c
        | false => rfl
      rw [if_neg c, if_pos rfl, c', Bool.false_and, if_neg (by decide), Option.bind_some, hb, Option.bind_some]) (by
    rintro a N ⟨rfl, h5, h6⟩
    unfold mX7_bothByLines_l19
    dsimp only
    rw [if_pos rfl, LU_all]
    exact ⟨_, rfl, N, rfl, h5, h6⟩) (M := M) (a0 := ((1000000 : Int32), (0 : Int32))) ⟨rfl, fun _ _ _ => rfl, rfl⟩
  cases hF : mX7_firstLine M with
  | none =>
    rw [hF] at e1
    cases e1
  | some F =>
    rw [hF, Option.bind_some] at e1
    have e1' : tr_loop (mX7_bothByLines_l19 (nI m) (nI l) M) (1000000, 0, 1, F) = some r := e1
    rw [Option.bind_some, e1', Option.bind_some, e2]
    dsimp only
    rw [tells_eq, Option.bind_some]
    exact ⟨N, rfl, KX.of e3 e4⟩
/-- the class goes through the orders of the least LONG -/
theorem compare_eq {w : Wd} {l : Nat} {L : List (List Nat)} {v : Nat} {M : tr_M} (hok : WOk w) (h8 : w.1 ≤ 8) (hw : CWd w 26 M) (hK : WK w L v M) (hl : l ≤ 4) (hne : L ≠ []) : ∃ N, mX2_compare (nI l) M = some N ∧ N.1 24 5 = nI (cv (vl w l) L) ∧ N.1 24 6 = nI (cn (vl w l) L) ∧ (∀ c, c ≠ 24 → c ≠ 56 → N.1 c = M.1 c) ∧ (∀ k, k ≠ 5 → k ≠ 6 → N.1 24 k = M.1 24 k) ∧ N.2 = M.2 := by
  have hn := hok.1
  have hNV : NV = 1000000 := rfl
  have hlen := hK.2.2.2.1
  have hpos : 0 < L.length := List.length_pos_iff.mpr hne
  unfold mX2_compare
  rw [Option.bind_some, Option.bind_some]
  refine tr_loop_inv (step := mX2_compare_l13 (nI l)) (s0 := (0, tr_st (tr_st M 24 5 268435456) 24 6 0)) (fun k t => ∃ N, t = (nI k, N) ∧ ((k = 0 ∧ N.1 24 5 = nI 268435456 ∧ N.1 24 6 = nI 0) ∨ (0 < k ∧ N.1 24 5 = nI (cv (vl w l) (L.take k)) ∧ N.1 24 6 = nI (cn (vl w l) (L.take k)))) ∧ (∀ c, c ≠ 24 → c ≠ 56 → N.1 c = M.1 c) ∧ (∀ k, k ≠ 5 → k ≠ 6 → N.1 24 k = M.1 24 k) ∧ N.2 = M.2) (fun N => N.1 24 5 = nI (cv (vl w l) L) ∧ N.1 24 6 = nI (cn (vl w l) L) ∧ (∀ c, c ≠ 24 → c ≠ 56 → N.1 c = M.1 c) ∧ (∀ k, k ≠ 5 → k ≠ 6 → N.1 24 k = M.1 24 k) ∧ N.2 = M.2) L.length (by omega) ⟨_, rfl, Or.inl ⟨rfl, by rw [tr_st_j (by decide), tr_st_s]; rfl, tr_st_s⟩, fun c c1 _ => by rw [tr_st_ne c1, tr_st_ne c1], fun k k1 k2 => by rw [tr_st_j k2, tr_st_j k1], rfl⟩ ?_ ?_
  · rintro k t hk ⟨N, rfl, t1, t2, t3, t4⟩
    left
    have hKN : WK w L v N := hK.cg (t3 3 (by decide) (by decide)) (t3 4 (by decide) (by decide)) (t2 54 (by decide) (by decide))
    have hCN : CWd w 26 N := hw.congr fun b h1 h2 => t2 b (by omega) (by omega)
    obtain ⟨p, hp⟩ : ∃ p, L[k]? = some p := ⟨L[k], List.getElem?_eq_getElem hk⟩
    obtain ⟨f, hf, rfl⟩ := hK.2.2.2.2 p (List.mem_of_getElem? hp)
    obtain ⟨P, p1, p2, p3, p4⟩ := unpack_eq hok h8 hCN hKN hf hp
    have hCP : CWd w 26 P := hCN.congr fun b h1 h2 => p3 b (by omega)
    have hms := measured_eq (m := l) hok hCP hf p2 (show w.1 ≤ 10 from hn) (by decide) hl
    have hml := msr_le hok l f
    have htk := take_next hp
    obtain ⟨s1, s2⟩ := cn_step (c := vl w l) (A := L.take k) (p := seg f 0 w.1) (by rw [vl_seg hf]; omega)
    rw [vl_seg hf, ← htk] at s1 s2
    have hcv := cv_le (vl w l) (L.take k)
    have q5 : P.1 24 5 = N.1 24 5 := by rw [p3 24 (by decide)]
    have q6 : P.1 24 6 = N.1 24 6 := by rw [p3 24 (by decide)]
    have hP2 : ∀ c, c ≠ 24 → c ≠ 56 → P.1 c = M.1 c := fun c c1 c2 => by rw [p3 c c2, t2 c c1 c2]
    have hP3 : ∀ k, k ≠ 5 → k ≠ 6 → P.1 24 k = M.1 24 k := fun k k1 k2 => by rw [p3 24 (by decide), t3 k k1 k2]
    have new : ∀ u v, u = cv (vl w l) (L.take (k + 1)) → v = cn (vl w l) (L.take (k + 1)) → ∃ s', some (Sum.inl (nI k + 1, tr_st (tr_st (tr_st P 24 5 (nI u)) 24 6 0) 24 6 (nI v)) : (Int32 × tr_M) ⊕ tr_M) = some (Sum.inl s') ∧ ∃ N, s' = (nI (k + 1), N) ∧ ((k + 1 = 0 ∧ N.1 24 5 = nI 268435456 ∧ N.1 24 6 = nI 0) ∨ (0 < k + 1 ∧ N.1 24 5 = nI (cv (vl w l) (L.take (k + 1))) ∧ N.1 24 6 = nI (cn (vl w l) (L.take (k + 1))))) ∧ (∀ c, c ≠ 24 → c ≠ 56 → N.1 c = M.1 c) ∧ (∀ k, k ≠ 5 → k ≠ 6 → N.1 24 k = M.1 24 k) ∧ N.2 = M.2 := fun u v hu hv => by
      refine ⟨_, rfl, _, Prod.ext (nadd1 _) rfl, Or.inr ⟨by omega, ?_, ?_⟩, fun c c1 c2 => ?_, fun j j1 j2 => ?_, p4.trans t4⟩
      · rw [tr_st_j (by decide), tr_st_j (by decide), tr_st_s, hu]
      · rw [tr_st_s, hv]
      · rw [tr_st_ne c1, tr_st_ne c1, tr_st_ne c1, hP2 c c1 c2]
      · rw [tr_st_j j2, tr_st_j j2, tr_st_j j1, hP3 j j1 j2]
    unfold mX2_compare_l13
    dsimp only
    rw [t3 3 (by decide) (by decide), hK.2.1, if_pos ((nlt (by omega) (by omega)).mpr hk), p1, Option.bind_some, hms, Option.bind_some, q5]
    have one : ∀ T : tr_M, (tr_st (tr_st T 24 5 (nI (msr w l f))) 24 6 0).1 24 6 + 1 = nI 1 := fun T => by rw [tr_st_s]; rfl
    have h5' : ∀ T : tr_M, (tr_st (tr_st T 24 5 (nI (msr w l f))) 24 6 0).1 24 5 = nI (msr w l f) := fun T => by rw [tr_st_j (by decide), tr_st_s]
    rcases t1 with ⟨rfl, a1, a2⟩ | ⟨k0, a1, a2⟩
    · rw [a1, if_pos ((nlt (by omega) (by omega)).mpr (by omega)), Option.bind_some, Option.bind_some, Option.bind_some, h5', if_pos rfl, one, Option.bind_some]
      have z1 : cv (vl w l) (L.take 0) = NV := rfl
      have z2 : cn (vl w l) (L.take 0) = 0 := rfl
      rw [z1] at s1 s2
      rw [if_pos (by omega)] at s2
      exact new _ _ (by rw [s1]; omega) s2.symm
    · rw [a1]
      by_cases c : msr w l f < cv (vl w l) (L.take k)
      · rw [if_pos ((nlt (by omega) (by omega)).mpr c), Option.bind_some, Option.bind_some, Option.bind_some, h5', if_pos rfl, one, Option.bind_some]
        rw [if_pos c] at s2
        exact new _ _ (by rw [s1]; omega) s2.symm
      · rw [if_neg (by rw [nlt (by omega) (by omega)]; exact c), Option.bind_some, q5, a1]
        rw [if_neg c] at s2
        by_cases d : msr w l f = cv (vl w l) (L.take k)
        · rw [if_pos d] at s2
          rw [if_pos (by rw [d]), Option.bind_some, q6, a2, nadd1]
          refine ⟨_, rfl, _, Prod.ext (nadd1 _) rfl, Or.inr ⟨by omega, ?_, ?_⟩, fun c c1 c2 => ?_, fun j j1 j2 => ?_, p4.trans t4⟩
          · rw [tr_st_j (by decide), q5, a1, s1, d, Nat.min_self]
          · rw [tr_st_s, s2]
          · rw [tr_st_ne c1, hP2 c c1 c2]
          · rw [tr_st_j j2, hP3 j j1 j2]
        · rw [if_neg d] at s2
          rw [if_neg (by rw [neq (by omega) (by omega)]; exact d)]
          refine ⟨_, rfl, P, by rw [nadd1], Or.inr ⟨by omega, ?_, ?_⟩, hP2, hP3, p4.trans t4⟩
          · rw [q5, a1, s1, Nat.min_eq_left (by omega)]
          · rw [q6, a2, s2]
  · rintro t ⟨N, rfl, t1, t2, t3, t4⟩
    unfold mX2_compare_l13
    dsimp only
    rw [t3 3 (by decide) (by decide), hK.2.1, if_neg (by rw [nlt (by omega) (by omega)]; omega)]
    rcases t1 with ⟨h0, -⟩ | ⟨-, a1, a2⟩
    · omega
    · rw [List.take_length] at a1 a2
      exact ⟨N, rfl, a1, a2, t2, t3, t4⟩
theorem LL_mem {w : Wd} {pin : Option (Nat × Nat)} {m : Nat} {p : List Nat} (h : p ∈ LL w pin m) : p ∈ Al w pin ∧ vl w m p = VL w pin m := by
  rw [LL_vl] at h
  obtain ⟨h1, h2⟩ := List.mem_filter.mp h
  exact ⟨h1, of_decide_eq_true h2⟩
/-- a measure among its own least orders -/
theorem BV_same {w : Wd} (hok : WOk w) {m : Nat} (hne : Al w none ≠ []) : BV w m m = VL w none m ∧ BN w m m = (LL w none m).length := ⟨cv_all (LL_ne hok hne) (VL_le _ _ _) fun _ hp => (LL_mem hp).2, cn_all (LL_ne hok hne) (VL_le _ _ _) fun _ hp => (LL_mem hp).2⟩
theorem m_both {w : Wd} {m l : Nat} {N : tr_M} (hok : WOk w) (hm : MWd w N) (hp : PinX none N) (h4 : m ≤ 4) (hl : l ≤ 4) (hN : NT w none m N) (hne : Al w none ≠ []) : ∃ P, (Option.bind (show Option ((tr_M) ⊕ (Int32 × tr_M)) from if nI m = (4 : Int32) then some (.inl N) else if nI l = (4 : Int32) then some (.inl N) else Option.bind (mX7_bothBySets (nI m) (nI l) N) (fun c12 => some (.inr (c12.1, c12.2)))) (tr_el (fun (v11 : tr_M) => Option.bind (mX7_bothByLines (nI m) (nI l) v11) (fun c14 => some (c14.1, c14.2))))) = some (nI (BV w m l), tr_st P 1 2 (nI (BN w m l))) ∧ KX N P := by
  have e4 : ∀ x, x ≤ 4 → (nI x = (4 : Int32) ↔ x = 4) := fun x hx => by rw [show (4 : Int32) = nI 4 from rfl, neq (by omega) (by decide)]
  obtain ⟨P, p1, p2⟩ := bothLines_eq hok hm hp h4 hl hN.1
  by_cases c : m = 4
  · rw [if_pos ((e4 m h4).mpr c)]
    refine ⟨P, ?_, p2⟩
    show Option.bind (mX7_bothByLines (nI m) (nI l) N) _ = _
    rw [p1, Option.bind_some]
  · rw [if_neg (fun e => c ((e4 m h4).mp e))]
    by_cases d : l = 4
    · rw [if_pos ((e4 l hl).mpr d)]
      refine ⟨P, ?_, p2⟩
      show Option.bind (mX7_bothByLines (nI m) (nI l) N) _ = _
      rw [p1, Option.bind_some]
    · rw [if_neg (fun e => d ((e4 l hl).mp e))]
      obtain ⟨Q, q1, q2⟩ := bothSets_eq hok hm hp (show m < 4 by omega) (show l < 4 by omega) (hN.2.2 c).1 hne
      refine ⟨Q, ?_, q2⟩
      rw [q1, Option.bind_some]
      rfl
/-- the walk among the least orders of another measure -/
theorem walked2_eq {w : Wd} {m : Nat} {M : tr_M} (hok : WOk w) (h8 : w.1 ≤ 8) (h4 : m ≠ 4) (hw : CWd w 26 M) (hS : SR w (nxW stC w none) m M) (hne : Al w none ≠ []) : ∃ N, mX6_walked M = some (24, N) ∧ KS M N ∧ SR w (nxW stC w none) m N ∧ N.1 24 4 = nI (BV w m 4) ∧ N.1 24 3 = nI (BN w m 4) := by
  obtain ⟨F, f1, f2, f3, f4, f5, -, f6⟩ := hS.fill hok hw
  obtain ⟨N, n1, n2, n3⟩ := go_eq hok h8 (Gd_fresh (m := m) hS.2.2.1) (hw.ks f6) f4
  have e : ext (Gd w (nxW stC w none) m) w.1 w.1 0 10 = LL w none m := by
    unfold LL
    rw [if_neg h4, ← EL_C (pin := none) hok trivial]
    rfl
  rw [e] at n2
  have hv : vl w 4 = lgv w := funext fun p => rfl
  have e2 : lm TP ((LL w none m).map (lgv w)) = BV w m 4 := by
    unfold BV cv
    rw [hv]
    exact lm_TN (fun z => LL_ne (m := m) hok hne (List.map_eq_nil_iff.mp z)) fun x hx => by
      obtain ⟨p, -, rfl⟩ := List.mem_map.mp hx
      exact lgv_lt hok
  have e3 : (fll w (LL w none m)).length = BN w m 4 := by
    unfold fll BN cn
    rw [e2, hv]
    rfl
  unfold WS at n2
  rw [e2, e3] at n2
  unfold mX6_walked
  rw [f1, Option.bind_some, n1, Option.bind_some]
  exact ⟨N, rfl, f6.tr n3.ks, f2.cg fun c hc => n3.1 c (by omega) (by omega) (by omega), n2.1, n2.2.1⟩
theorem within2_eq {w : Wd} {m l : Nat} (hok : WOk w) (h4 : m ≠ 4) (hl : l ≠ 4) : ms (Gd w (nxW stC w none) m) w.1 (adN l) (gN w l) 0 10 = BV w m l ∧ (EL w (Gd w (nxW stC w none) m) l).length = BN w m l := by
  have e : ext (Gd w (nxW stC w none) m) w.1 w.1 0 10 = LL w none m := by
    unfold LL
    rw [if_neg h4, ← EL_C (pin := none) hok trivial]
    rfl
  have hv : vl w l = cost (adN l) (gN w l) 0 := funext fun p => by
    unfold vl
    rw [if_neg hl]
    rfl
  have e1 : ms (Gd w (nxW stC w none) m) w.1 (adN l) (gN w l) 0 10 = BV w m l := by
    rw [ms_eq (lft_0 w.1)]
    unfold mv BV cv
    rw [e, hv]
  refine ⟨e1, ?_⟩
  have hf : Fresh (Gd w (nxW stC w none) m) w.1 := Gd_fresh (nxW_fresh stC w none)
  unfold EL
  have := ext_least (ad := adN l) (g := gN w l) (l := 10) hf hok.1 (gN_le hok l)
  unfold Gd at this ⊢
  rw [this]
  unfold Gd at e1 e
  rw [e1, e]
  unfold BN cn
  rw [hv]
  congr 2
  unfold BV
  rw [hv]
theorem c_both {w : Wd} {m l : Nat} {N : tr_M} (hok : WOk w) (hw : CWd w 26 N) (h4 : m ≤ 4) (hl : l ≤ 4) (hc : Cc w none m N) (hne : Al w none ≠ []) (hsl : ¬ spent w l) : ∃ P, (if nI m = nI l then Option.bind (mLO_number (rf m) N) (fun c11 => Option.bind (some (tr_st c11.2 1 12 c11.1)) (fun M13 => Option.bind (mLO_value (rf m) M13) (fun c15 => some (c15, M13)))) else if nI m = (4 : Int32) then Option.bind (mX2_compare (nI l) N) (fun c17 => Option.bind (some (tr_st c17 1 12 (c17.1 24 6))) (fun M19 => some ((M19.1 24 5), M19))) else Option.bind (show Option (Nat × tr_M) from if nI l = (4 : Int32) then Option.bind (mX6_walked N) (fun c22 => some (c22.1, c22.2)) else Option.bind (mX6_solvedWithin (nI l) N) (fun c24 => some (c24.1, c24.2))) (fun (v21 : Nat × tr_M) => Option.bind (mLO_number v21.1 v21.2) (fun c26 => Option.bind (some (tr_st c26.2 1 12 c26.1)) (fun M28 => Option.bind (mLO_value v21.1 M28) (fun c30 => some (c30, M28)))))) = some (nI (BV w m l), tr_st P 1 12 (nI (BN w m l))) ∧ KL N P ∧ Cch w none P := by
  have hn := hok.1
  have e4 : ∀ x, x ≤ 4 → (nI x = (4 : Int32) ↔ x = 4) := fun x hx => by rw [show (4 : Int32) = nI 4 from rfl, neq (by omega) (by decide)]
  by_cases a : m = l
  · subst a
    obtain ⟨b1, b2⟩ := BV_same (m := m) hok hne
    obtain ⟨P, p1, p2, p3⟩ := lo_number (pin := none) hok trivial hw hc.2.2
    have hLA : Lst w none m (tr_st P 1 12 (nI (LL w none m).length)) := p2.cg fun c c1 c2 _ => tr_st_ne (by omega)
    rw [if_pos rfl, p1, Option.bind_some, Option.bind_some, lo_value (pin := none) hok trivial hLA, Option.bind_some, b1, b2]
    exact ⟨P, rfl, p3.kl, (hc.ks p3 p2).cch (by omega) hne⟩
  · rw [if_neg (by rw [neq (by omega) (by omega)]; exact a)]
    by_cases b : m = 4
    · subst b
      have hL := hc.2.2
      unfold Lst at hL
      rw [if_pos rfl] at hL
      have hLL : LL w none 4 = LQ w none := rfl
      obtain ⟨P, p1, p2, p3, p4, p5, p6⟩ := compare_eq (l := l) hok hL.1 hw hL.2 hl (by rw [← hLL]; exact LL_ne hok hne)
      rw [if_pos ((e4 4 (by decide)).mpr rfl), p1, Option.bind_some, Option.bind_some, p3, tr_st_ne (by decide), p2]
      refine ⟨P, rfl, ⟨fun c c1 hc => p4 c (by omega) (by omega), fun k _ _ => by rw [p4 1 (by decide) (by decide)], fun k _ => by rw [p4 25 (by decide) (by decide)], p6⟩, ?_⟩
      have hLP : Lst w none 4 P := by
        unfold Lst
        rw [if_pos rfl]
        exact ⟨hL.1, hL.2.cg (p5 3 (by decide) (by decide)) (p5 4 (by decide) (by decide)) (p4 54 (by decide) (by decide))⟩
      exact Cc.cch ⟨by rw [p4 1 (by decide) (by decide)]; exact hc.1, by rw [p4 1 (by decide) (by decide)]; exact hc.2.1, hLP⟩ (by decide) hne
    · rw [if_neg (fun e => b ((e4 m h4).mp e))]
      have hS := hc.2.2.sr b
      by_cases d : l = 4
      · subst d
        have h8 : w.1 ≤ 8 := Nat.le_of_not_lt fun h => hsl ⟨rfl, h⟩
        obtain ⟨P, p1, p2, p3, p4, p5⟩ := walked2_eq hok h8 b hw hS hne
        have hnum : mLO_number 24 P = some (nI (BN w m 4), P) := by
          unfold mLO_number mX2_number
          rw [if_neg (by decide), if_pos rfl, p5]
        have hval : mLO_value 24 (tr_st P 1 12 (nI (BN w m 4))) = some (nI (BV w m 4)) := by
          unfold mLO_value mX2_value
          rw [if_neg (by decide), if_pos rfl, tr_st_ne (by decide), p4]
        rw [if_pos ((e4 4 (by decide)).mpr rfl), p1, Option.bind_some, Option.bind_some]
        dsimp only
        rw [hnum, Option.bind_some, Option.bind_some, hval, Option.bind_some]
        exact ⟨P, rfl, p2.kl, (hc.ks p2 (Lst.of p3 b)).cch (by omega) hne⟩
      · rw [if_neg (fun e => d ((e4 l hl).mp e))]
        obtain ⟨W, w1, w2, w3⟩ := within_eq (m2 := l) hok hw hS (by omega)
        obtain ⟨v1, v2⟩ := within2_eq (w := w) hok b d
        have e1 : mX6_solvedWithin (nI l) N = some (25, tr_st (tr_st W 1 15 (-9)) 1 16 (nI 0)) := by
          unfold mX6_solvedWithin
          rw [w1, Option.bind_some, forget_eq, Option.bind_some]
        have kW : KL N (tr_st (tr_st W 1 15 (-9)) 1 16 (nI 0)) := (w2.kl.tr (KL.st (Or.inl rfl))).tr (KL.st (Or.inr rfl))
        have hSW : SR w (Gd w (nxW stC w none) m) l (tr_st (tr_st W 1 15 (-9)) 1 16 (nI 0)) := w3.cg fun c hc => by rw [tr_st_ne (by omega), tr_st_ne (by omega)]
        have h15 : (tr_st (tr_st W 1 15 (-9)) 1 16 (nI 0)).1 1 15 = -9 := by rw [tr_st_j (by decide), tr_st_s]
        obtain ⟨P, p1, p2, p3⟩ := number_eq hok (hw.kl kW) hSW
        rw [v2] at p1
        have hnum : mLO_number 25 (tr_st (tr_st W 1 15 (-9)) 1 16 (nI 0)) = some (nI (BN w m l), P) := by
          unfold mLO_number
          rw [if_pos rfl, p1]
        have hval : mLO_value 25 (tr_st P 1 12 (nI (BN w m l))) = some (nI (BV w m l)) := by
          unfold mLO_value
          rw [if_pos rfl, value_eq (p2.cg fun c hc => tr_st_ne (by omega)), v1]
        rw [e1, Option.bind_some, Option.bind_some]
        dsimp only
        rw [hnum, Option.bind_some, Option.bind_some, hval, Option.bind_some]
        exact ⟨P, rfl, kW.tr p3.kl, Or.inl (by rw [p3.1 1 (by decide)]; exact h15)⟩
theorem r_both {w : Wd} {M1 M2 : tr_M} (h : InvE w M1 M2) (p1 p2 : Int32) : ResE w (mX6_both p1 p2 M1) (mX7_both p1 p2 M2) := by
  unfold mX6_both mX7_both
  rcases isMeasure_cases p1 with ⟨i1, i2⟩ | ⟨m, hm, rfl, i1, i2⟩
  · rw [i1, i2, if_pos rfl, Option.bind_some, if_pos rfl]
    exact ResE.same h
  rw [i1, i2, if_neg (show ¬ (1 : Int32) = 0 by decide), Option.bind_some, if_neg (show ¬ (1 : Int32) = 0 by decide)]
  rcases isMeasure_cases p2 with ⟨j1, j2⟩ | ⟨l, hl, rfl, j1, j2⟩
  · rw [j1, j2, if_pos rfl, Option.bind_some, if_pos rfl]
    exact ResE.same h
  rw [j1, j2, if_neg (show ¬ (1 : Int32) = 0 by decide), Option.bind_some, if_neg (show ¬ (1 : Int32) = 0 by decide)]
  have hI := h
  obtain ⟨h1, ⟨hok, hw, hmw⟩, h3, h4, h5⟩ := h
  rcases isSpent_eq hok hw.1 (show l ≤ 5 by omega) with ⟨s1, s2⟩ | ⟨s1, s2⟩
  · rcases tooLong_eq hok hmw.1 hl with ⟨-, t⟩ | ⟨t, -⟩
    · rw [s2, t, if_neg (show ¬ (1 : Int32) = 0 by decide), if_neg (show ¬ (1 : Int32) = 0 by decide)]
      split
      · exact ResE.same hI
      · exact ResE.same hI
    · exact absurd s1 t
  rcases tooLong_eq hok hmw.1 hl with ⟨t, -⟩ | ⟨-, t⟩
  · exact absurd t s1
  rw [s2, t, if_pos rfl, if_pos rfl]
  have main := need_call hI hm (F1 := fun q N => if nI m = nI l then Option.bind (mLO_number q N) (fun c11 => Option.bind (some (tr_st c11.2 1 12 c11.1)) (fun M13 => Option.bind (mLO_value q M13) (fun c15 => some (c15, M13)))) else if nI m = (4 : Int32) then Option.bind (mX2_compare (nI l) N) (fun c17 => Option.bind (some (tr_st c17 1 12 (c17.1 24 6))) (fun M19 => some ((M19.1 24 5), M19))) else Option.bind (show Option (Nat × tr_M) from if nI l = (4 : Int32) then Option.bind (mX6_walked N) (fun c22 => some (c22.1, c22.2)) else Option.bind (mX6_solvedWithin (nI l) N) (fun c24 => some (c24.1, c24.2))) (fun (v21 : Nat × tr_M) => Option.bind (mLO_number v21.1 v21.2) (fun c26 => Option.bind (some (tr_st c26.2 1 12 c26.1)) (fun M28 => Option.bind (mLO_value v21.1 M28) (fun c30 => some (c30, M28)))))) (F2 := fun N => Option.bind (show Option ((tr_M) ⊕ (Int32 × tr_M)) from if nI m = (4 : Int32) then some (.inl N) else if nI l = (4 : Int32) then some (.inl N) else Option.bind (mX7_bothBySets (nI m) (nI l) N) (fun c12 => some (.inr (c12.1, c12.2)))) (tr_el (fun (v11 : tr_M) => Option.bind (mX7_bothByLines (nI m) (nI l) v11) (fun c14 => some (c14.1, c14.2))))) (fun N1 N2 _ _ hI hc hN hne _ => by
    obtain ⟨P, a1, a2, a3⟩ := c_both hI.2.1.1 hI.2.1.2.1 hm hl hc hne s1
    obtain ⟨Q, b1, b2⟩ := m_both hI.2.1.1 hI.2.1.2.2 hI.2.2.2.2 hm hl hN hne
    exact ⟨_, _, _, a1, b1, (hI.kl a2 b2 a3).ask (m := m) _⟩)
  rcases tooLong_eq hok hmw.1 hm with ⟨u, v⟩ | ⟨-, v⟩
  · rw [v, if_neg (show ¬ (1 : Int32) = 0 by decide)]
    rcases needLeast_eq (pin := none) hok hmw h5 trivial hm with ⟨-, n⟩ | ⟨n, -⟩
    · rw [n, Option.bind_some, if_pos (show (-6 : Int32) < 0 by decide)] at main
      exact main
    · exact absurd u n
  · rw [v, if_pos rfl]
    exact main
/-! ===== must: whether any order is allowed, in the model ===== -/
def Rc (nx : Rl) : Nat → Nat → Nat → Prop
  | 0, s, l => s = 0 ∧ l = 0
  | i + 1, s, l => ∃ s0 l0, Rc nx i s0 l0 ∧ nx s0 (ls s0 l0) l = true ∧ s = ins s0 l
theorem Rc_st {nx : Rl} {n : Nat} (hf : Fresh nx n) : ∀ {i s l : Nat}, Rc nx i s l → St n s l ∧ cnt n s = i
  | 0, s, l, h => by
    obtain ⟨rfl, rfl⟩ := h
    exact ⟨⟨Nat.two_pow_pos n, Or.inl ⟨rfl, rfl⟩⟩, cnt_0 n⟩
  | i + 1, s, l, h => by
    obtain ⟨s0, l0, h1, h2, rfl⟩ := h
    obtain ⟨a1, a2⟩ := Rc_st hf h1
    obtain ⟨b1, b2⟩ := hf _ _ _ h2
    exact ⟨(St_ins a1.1 b1).1, by rw [cnt_ins b1 b2, a2]⟩
theorem ins_ne0 (s x : Nat) : ins s x ≠ 0 := fun e => by
  have h : (ins s x).testBit x = true := by rw [ins_bit]; simp
  rw [e, Nat.zero_testBit] at h
  cases h
theorem Rc_ls {nx : Rl} {n : Nat} (hf : Fresh nx n) {i s l : Nat} (h : Rc nx (i + 1) s l) : ls s l = l := by
  obtain ⟨s0, l0, -, -, rfl⟩ := h
  unfold ls
  rw [if_neg (ins_ne0 s0 l)]
theorem Rc_ext {nx : Rl} {n : Nat} (hf : Fresh nx n) : ∀ {i s l k : Nat}, Rc nx i s l → i + k = n → ext nx n k s (ls s l) ≠ [] → ext nx n n 0 10 ≠ []
  | 0, s, l, k, h, hk, he => by
    obtain ⟨rfl, rfl⟩ := h
    rw [show k = n by omega] at he
    exact he
  | i + 1, s, l, k, h, hk, he => by
    have hl := Rc_ls hf h
    rw [hl] at he
    obtain ⟨s0, l0, h1, h2, rfl⟩ := h
    obtain ⟨q, hq⟩ := List.exists_mem_of_ne_nil _ he
    refine Rc_ext hf (k := k + 1) h1 (by omega) fun e => ?_
    have : (l :: q) ∈ ext nx n (k + 1) s0 (ls s0 l0) := ext_cons.mpr ⟨(hf _ _ _ h2).1, h2, hq⟩
    rw [e] at this
    cases this
theorem Rc_of {nx : Rl} {n : Nat} (hf : Fresh nx n) : ∀ {k i s l : Nat} {p : List Nat}, Rc nx i s l → p ∈ ext nx n k s (ls s l) → ∃ s' l', Rc nx (i + k) s' l'
  | 0, i, s, l, p, h, _ => ⟨s, l, h⟩
  | k + 1, i, s, l, p, h, hp => by
    have hlen := ext_len hp
    cases p with
    | nil => cases hlen
    | cons x q =>
      obtain ⟨h1, h2, h3⟩ := ext_cons.mp hp
      have hR : Rc nx (i + 1) (ins s x) x := ⟨s, l, h, h2, rfl⟩
      obtain ⟨s', l', h4⟩ := Rc_of hf (k := k) hR (by rw [Rc_ls hf hR]; exact h3)
      exact ⟨s', l', by rw [show i + (k + 1) = i + 1 + k by omega]; exact h4⟩
/-- an order stands iff all things can have come -/
theorem Rc_full {nx : Rl} {n : Nat} (hf : Fresh nx n) : ext nx n n 0 10 ≠ [] ↔ ∃ l i, Rc nx i (2 ^ n - 1) l := by
  constructor
  · intro h
    obtain ⟨p, hp⟩ := List.exists_mem_of_ne_nil _ h
    obtain ⟨s, l, h1⟩ := Rc_of hf (i := 0) (s := 0) (l := 0) ⟨rfl, rfl⟩ hp
    obtain ⟨a1, a2⟩ := Rc_st hf h1
    rw [Nat.zero_add] at a2
    have := (full_cnt a1.1).mp a2
    exact ⟨l, _, by rw [← this]; exact h1⟩
  · rintro ⟨l, i, h⟩
    obtain ⟨a1, a2⟩ := Rc_st hf h
    have h2 := (full_cnt a1.1).mpr rfl
    exact Rc_ext hf (k := 0) h (by omega) (fun e => by cases e)
theorem nar1 : vp_nar .boolean (1 : Int32) = 1 := rfl
theorem nar0 : vp_nar .boolean (0 : Int32) = 0 := rfl
/-- the marks of those that have come, when the places ahead of (s, l) are done -/
def RJ (nx : Rl) (n s l : Nat) (N : tr_M) : Prop := (∀ s' l', s' < 2 ^ n → l' < n → N.1 24 (s' * 10 + l') = 0 ∨ (N.1 24 (s' * 10 + l') = 1 ∧ ∃ i, Rc nx i s' l')) ∧ N.1 24 0 = 1 ∧ ∀ i s0 l0 x, Rc nx i s0 l0 → l0 < n → (s0 < s ∨ (s0 = s ∧ l0 < l)) → nx s0 (ls s0 l0) x = true → N.1 24 (ins s0 x * 10 + x) = 1
theorem RJ.come {nx : Rl} {n s l : Nat} {N : tr_M} (hf : Fresh nx n) (h : RJ nx n s l N) {i : Nat} (hr : Rc nx i s l) (hn : n ≠ 0) : N.1 24 (s * 10 + l) = 1 := by
  cases i with
  | zero =>
    obtain ⟨rfl, rfl⟩ := hr
    exact h.2.1
  | succ i =>
    obtain ⟨s0, l0, h1, h2, rfl⟩ := hr
    have hs := (Rc_st hf h1).1
    have gt := ins_gt (hf _ _ _ h2).2
    refine h.2.2 i s0 l0 l h1 ?_ (Or.inl gt) h2
    rcases hs.2 with y | y
    · omega
    · exact y.1
theorem anyMarks_eq {n : Nat} {M : tr_M} (hn : n ≤ 10) (h0 : n ≠ 0) (hw : M.1 1 10 = nI n) : ∃ N, tr_loop mX7_isAnyAllowed_l15 (0, M) = some N ∧ (∀ j, j < 10 * 2 ^ n → N.1 24 j = if j = 0 then 1 else 0) ∧ (∀ c, c ≠ 24 → N.1 c = M.1 c) ∧ N.2 = M.2 := by
  have hpw := pow_lt hn
  have hp0 := Nat.two_pow_pos n
  refine tr_loop_inv (step := mX7_isAnyAllowed_l15) (s0 := (0, M)) (fun k t => ∃ N, t = (nI k, N) ∧ (∀ j, j < k → N.1 24 j = if j = 0 then 1 else 0) ∧ (∀ c, c ≠ 24 → N.1 c = M.1 c) ∧ N.2 = M.2) (fun N => (∀ j, j < 10 * 2 ^ n → N.1 24 j = if j = 0 then 1 else 0) ∧ (∀ c, c ≠ 24 → N.1 c = M.1 c) ∧ N.2 = M.2) (10 * 2 ^ n) (by omega) ⟨M, rfl, fun j hj => by omega, fun _ _ => rfl, rfl⟩ ?_ ?_
  · rintro k t hk ⟨N, rfl, t1, t2, t3⟩
    left
    have hwN : N.1 1 10 = nI n := by rw [t2 1 (by decide)]; exact hw
    have fin : ∀ v : Int32, v = (if k = 0 then 1 else 0) → ∃ s', some (Sum.inl (nI k + 1, tr_st N 24 k v) : (Int32 × tr_M) ⊕ tr_M) = some (Sum.inl s') ∧ ∃ N, s' = (nI (k + 1), N) ∧ (∀ j, j < k + 1 → N.1 24 j = if j = 0 then 1 else 0) ∧ (∀ c, c ≠ 24 → N.1 c = M.1 c) ∧ N.2 = M.2 := fun v hv => by
      refine ⟨_, rfl, _, Prod.ext (nadd1 _) rfl, fun j hj => ?_, fun c hc => by rw [tr_st_ne hc, t2 c hc], t3⟩
      by_cases e : j = k
      · rw [e, tr_st_s, hv]
      · rw [tr_st_j e]
        exact t1 j (by omega)
    unfold mX7_isAnyAllowed_l15
    dsimp only
    rw [full_eq hwN hn, hwN, show (10 : Int32) = nI 10 from rfl, nadd1, nmul, if_pos ((nlt (by omega) (by omega)).mpr (by omega)), nar1, nar0]
    have w24 : ∀ v, tr_wr 10240 N 24 (nI k) v = some (tr_st N 24 k v) := fun v => tr_wr_nI (by omega) (by decide)
    by_cases z : k = 0
    · rw [if_pos (by rw [z]; rfl), if_pos ((n0lt (by omega)).mpr (by omega)), w24, Option.bind_some]
      exact fin 1 (by rw [if_pos z])
    · rw [if_neg (by rw [neq0 (by omega)]; exact z), w24, Option.bind_some]
      exact fin 0 (by rw [if_neg z])
  · rintro t ⟨N, rfl, t1, t2, t3⟩
    have hwN : N.1 1 10 = nI n := by rw [t2 1 (by decide)]; exact hw
    unfold mX7_isAnyAllowed_l15
    dsimp only
    rw [full_eq hwN hn, show (10 : Int32) = nI 10 from rfl, nadd1, nmul, if_neg (by rw [nlt (by omega) (by omega), show 2 ^ n - 1 + 1 = 2 ^ n by omega]; omega)]
    exact ⟨N, rfl, t1, t2, t3⟩
/-- from one place on -/
theorem anyFrom_eq {w : Wd} {s l i : Nat} {M N : tr_M} {a : Int32 × Int32 × tr_M} {b : Int32 × Int32 × tr_M} {v : Int32} (hok : WOk w) (hm : MWd w M) (hp : PinX none M) (hs : s < 2 ^ w.1) (hl : l < w.1) (ha : a.2.1 = nI s) (hb : b.2.1 = nI l) (hfr : ∀ c, c ≠ 24 → N.1 c = M.1 c) (h2 : N.2 = M.2) (hR : Rc (nxW stM w none) i s l) (hJ : RJ (nxW stM w none) w.1 s l N) : ∃ P, tr_loop (mX7_isAnyAllowed_l117 a b v) (0, N) = some (.inl (v, nI (l + 1), P)) ∧ RJ (nxW stM w none) w.1 s (l + 1) P ∧ (∀ c, c ≠ 24 → P.1 c = M.1 c) ∧ P.2 = M.2 := by
  have hn := hok.1
  have hpw := pow_lt hn
  have hf := nxW_fresh stM w none
  have hst := (Rc_st hf hR).1
  obtain ⟨r, e1, P, rfl, e3⟩ := tr_loop_inv (step := mX7_isAnyAllowed_l117 a b v) (s0 := (0, N)) (fun x t => ∃ P, t = (nI x, P) ∧ RJ (nxW stM w none) w.1 s l P ∧ (∀ y, y < x → nxW stM w none s (ls s l) y = true → P.1 24 (ins s y * 10 + y) = 1) ∧ (∀ c, c ≠ 24 → P.1 c = M.1 c) ∧ P.2 = M.2) (fun r => ∃ P, r = .inl (v, nI (l + 1), P) ∧ RJ (nxW stM w none) w.1 s (l + 1) P ∧ (∀ c, c ≠ 24 → P.1 c = M.1 c) ∧ P.2 = M.2) w.1 (by omega) ⟨N, rfl, hJ, fun y hy => by omega, hfr, h2⟩ (by
    rintro x t hx ⟨P, rfl, t1, t2, t3, t4⟩
    left
    have kP : KX M P := KX.cell (a := 24) (by decide) (by decide) t3 t4
    have hmP := hm.kx kP
    have hi := ins_lt hs hx
    have e6 : (if nI s = 0 then some (-9 : Int32) else some (nI l)) = some (lsI s l) := by
      unfold lsI
      by_cases z : s = 0
      · rw [if_pos z, if_pos (by rw [z]; rfl)]
      · rw [if_neg z, if_neg (by rw [neq0 (by omega)]; exact z)]
    have r24 : tr_rd 10240 P 24 (nI (ins s x * 10 + x)) = some (P.1 24 (ins s x * 10 + x)) := tr_rd_nI (by omega) (by decide)
    have w24 : ∀ v, tr_wr 10240 P 24 (nI (ins s x * 10 + x)) v = some (tr_st P 24 (ins s x * 10 + x) v) := fun v => tr_wr_nI (by omega) (by decide)
    have fin : ∀ u : Int32, (u = 0 ∧ P.1 24 (ins s x * 10 + x) = 0 ∧ nxW stM w none s (ls s l) x = false) ∨ (u = 1 ∧ ∃ i, Rc (nxW stM w none) i (ins s x) x) → ∃ s', some (Sum.inl (nI x + 1, tr_st P 24 (ins s x * 10 + x) u) : (Int32 × tr_M) ⊕ ((Int32 × Int32 × tr_M) ⊕ ((Int32 × Int32 × tr_M) ⊕ (Int32 × tr_M)))) = some (Sum.inl s') ∧ ∃ P, s' = (nI (x + 1), P) ∧ RJ (nxW stM w none) w.1 s l P ∧ (∀ y, y < x + 1 → nxW stM w none s (ls s l) y = true → P.1 24 (ins s y * 10 + y) = 1) ∧ (∀ c, c ≠ 24 → P.1 c = M.1 c) ∧ P.2 = M.2 := fun u hu => by
      have up : ∀ j, P.1 24 j = 1 → (tr_st P 24 (ins s x * 10 + x) u).1 24 j = 1 := fun j hj => by
        by_cases e : j = ins s x * 10 + x
        · rw [e, tr_st_s]
          rcases hu with ⟨-, u2, -⟩ | ⟨u1, -⟩
          · rw [e] at hj
            rw [hj] at u2
            exact absurd u2 (by decide)
          · exact u1
        · rw [tr_st_j e]
          exact hj
      refine ⟨_, rfl, _, Prod.ext (nadd1 _) rfl, ⟨fun s' l' hs' hl' => ?_, up 0 t1.2.1, fun i s0 l0 y g1 g2 g3 g4 => up _ (t1.2.2 i s0 l0 y g1 g2 g3 g4)⟩, fun y hy hyn => ?_, fun c hc => by rw [tr_st_ne hc, t3 c hc], t4⟩
      · by_cases e : s' * 10 + l' = ins s x * 10 + x
        · have e1 : s' = ins s x := by omega
          have e2 : l' = x := by omega
          rw [e, tr_st_s, e1, e2]
          rcases hu with ⟨u1, -⟩ | ⟨u1, u2⟩
          · exact Or.inl u1
          · exact Or.inr ⟨u1, u2⟩
        · rw [tr_st_j e]
          exact t1.1 s' l' hs' hl'
      · by_cases e : y = x
        · rw [e] at hyn ⊢
          rw [tr_st_s]
          rcases hu with ⟨-, -, u3⟩ | ⟨u1, -⟩
          · rw [u3] at hyn
            cases hyn
          · exact u1
        · exact up _ (t2 y (by omega) hyn)
    unfold mX7_isAnyAllowed_l117
    dsimp only
    rw [hmP.1, if_pos ((nlt (by omega) (by omega)).mpr hx), ha, hb, ins_nI (by omega), spot_eq, Option.bind_some, r24, Option.bind_some, nar0, nar1]
    rcases t1.1 (ins s x) x hi hx with z | ⟨z, z2⟩
    · rw [if_pos z, e6, Option.bind_some, mayCome_eq (pin := none) hok hmP (hp.kx kP) (by omega) (by omega) hx, Option.bind_some]
      by_cases c : nxW stM w none s (ls s l) x = true
      · rw [if_pos c, if_neg (show ¬ (1 : Int32) = 0 by decide), w24, Option.bind_some]
        exact fin 1 (Or.inr ⟨rfl, i + 1, s, l, hR, c, rfl⟩)
      · rw [if_neg c, if_pos rfl, w24, Option.bind_some]
        refine fin 0 (Or.inl ⟨rfl, z, ?_⟩)
        cases h : nxW stM w none s (ls s l) x with
        | true => exact absurd h c
        | false => rfl
    · rw [if_neg (by rw [z]; decide), w24, Option.bind_some]
      exact fin 1 (Or.inr ⟨rfl, z2⟩)) (by
    rintro t ⟨P, rfl, t1, t2, t3, t4⟩
    have kP : KX M P := KX.cell (a := 24) (by decide) (by decide) t3 t4
    unfold mX7_isAnyAllowed_l117
    dsimp only
    rw [(hm.kx kP).1, if_neg (by rw [nlt (by omega) (by omega)]; omega), hb, nadd1]
    refine ⟨_, rfl, P, rfl, ⟨t1.1, t1.2.1, fun i s0 l0 x g1 g2 g3 g4 => ?_⟩, t3, t4⟩
    by_cases e : s0 = s ∧ l0 = l
    · obtain ⟨rfl, rfl⟩ := e
      exact t2 x (hf _ _ _ g4).1 g4
    · exact t1.2.2 i s0 l0 x g1 g2 (by omega) g4)
  exact ⟨P, e1, e3⟩
theorem anyAllowed_eq {w : Wd} {M : tr_M} (hok : WOk w) (hm : MWd w M) (hp : PinX none M) : ∃ N, mX7_isAnyAllowed M = some (if Al w none = [] then 0 else 1, N) ∧ (∀ c, c ≠ 24 → N.1 c = M.1 c) ∧ N.2 = M.2 := by
  have hn := hok.1
  have hpw := pow_lt hn
  have hp0 := Nat.two_pow_pos w.1
  have hf := nxW_fresh stM w none
  have hext := nxM_ok (pin := none) hok trivial
  unfold mX7_isAnyAllowed
  rw [hm.1]
  by_cases z : w.1 = 0
  · have hne : Al w none ≠ [] := by
      rw [← hext, z]
      intro e
      cases e
    rw [if_pos (by rw [z]; rfl), Option.bind_some, if_neg hne]
    -- the marks are laid, none is looked at
    obtain ⟨N, n1, n2, n3⟩ := tr_loop_inv (step := mX7_isAnyAllowed_l15) (s0 := (0, M)) (fun k t => ∃ N, t = (nI k, N) ∧ (∀ c, c ≠ 24 → N.1 c = M.1 c) ∧ N.2 = M.2) (fun N => (∀ c, c ≠ 24 → N.1 c = M.1 c) ∧ N.2 = M.2) 10 (by omega) ⟨M, rfl, fun _ _ => rfl, rfl⟩ (by
      rintro k t hk ⟨N, rfl, t2, t3⟩
      left
      have hwN : N.1 1 10 = nI w.1 := by rw [t2 1 (by decide)]; exact hm.1
      unfold mX7_isAnyAllowed_l15
      dsimp only
      have w24 : ∀ v, tr_wr 10240 N 24 (nI k) v = some (tr_st N 24 k v) := fun v => tr_wr_nI (by omega) (by decide)
      rw [full_eq hwN hn, hwN, z, show (10 : Int32) = nI 10 from rfl, nadd1, nmul, if_pos ((nlt (by omega) (by omega)).mpr (by omega)), w24, w24]
      by_cases q : k = 0
      · rw [if_pos (by rw [q]; rfl), if_neg (by decide), Option.bind_some]
        exact ⟨_, rfl, _, Prod.ext (nadd1 _) rfl, fun c hc => by rw [tr_st_ne hc, t2 c hc], t3⟩
      · rw [if_neg (by rw [neq0 (by omega)]; exact q), Option.bind_some]
        exact ⟨_, rfl, _, Prod.ext (nadd1 _) rfl, fun c hc => by rw [tr_st_ne hc, t2 c hc], t3⟩) (by
      rintro t ⟨N, rfl, t2, t3⟩
      have hwN : N.1 1 10 = nI w.1 := by rw [t2 1 (by decide)]; exact hm.1
      unfold mX7_isAnyAllowed_l15
      dsimp only
      rw [full_eq hwN hn, z, show (10 : Int32) = nI 10 from rfl, nadd1, nmul, if_neg (by decide)]
      exact ⟨N, rfl, t2, t3⟩)
    have hwN : N.1 1 10 = nI w.1 := by rw [n2 1 (by decide)]; exact hm.1
    rw [n1, Option.bind_some]
    refine ⟨N, ?_, n2, n3⟩
    have e1 : mX7_isAnyAllowed_l58 (1, 0, N) = some (.inr (1, N)) := by
      unfold mX7_isAnyAllowed_l58
      dsimp only
      rw [full_eq hwN hn, hwN, z, if_neg (by decide), if_neg (by decide)]
      rfl
    exact tr_loop_of (n := 1) (tr_it_r e1) (by decide)
  · rw [if_neg (by rw [neq0 (by omega)]; exact z), Option.bind_some]
    obtain ⟨N, n1, n2, n3, n4⟩ := anyMarks_eq hn z hm.1
    rw [n1, Option.bind_some]
    have hJ0 : RJ (nxW stM w none) w.1 0 0 N := by
      refine ⟨fun s' l' hs' hl' => ?_, ?_, fun i s0 l0 x g1 g2 g3 g4 => by omega⟩
      · rw [n2 (s' * 10 + l') (by omega)]
        by_cases e : s' * 10 + l' = 0
        · right
          rw [if_pos e]
          exact ⟨rfl, 0, by omega, by omega⟩
        · left
          rw [if_neg e]
      · rw [n2 0 (by omega), if_pos rfl]
    -- whether all have come, by the places that are done
    have key : ∃ r, tr_loop mX7_isAnyAllowed_l58 (0, 0, N) = some r ∧ ∃ P, r = ((if Al w none = [] then 0 else 1), P) ∧ (∀ c, c ≠ 24 → P.1 c = M.1 c) ∧ P.2 = M.2 := by
      refine tr_loop_inv (step := mX7_isAnyAllowed_l58) (s0 := (0, 0, N)) (fun s t => ∃ P v, t = (v, nI s, P) ∧ RJ (nxW stM w none) w.1 s 0 P ∧ (∀ c, c ≠ 24 → P.1 c = M.1 c) ∧ P.2 = M.2 ∧ ((v = 0 ∧ ¬ (2 ^ w.1 - 1 < s ∧ ∃ l i, Rc (nxW stM w none) i (2 ^ w.1 - 1) l)) ∨ (v = 1 ∧ ∃ l i, Rc (nxW stM w none) i (2 ^ w.1 - 1) l))) (fun r => ∃ P, r = ((if Al w none = [] then 0 else 1), P) ∧ (∀ c, c ≠ 24 → P.1 c = M.1 c) ∧ P.2 = M.2) (2 ^ w.1) (by omega) ⟨N, 0, rfl, hJ0, n3, n4, Or.inl ⟨rfl, fun h => by omega⟩⟩ ?_ ?_
      · rintro s t hs ⟨P, v, rfl, t1, t2, t3, t4⟩
        left
        have hwP : P.1 1 10 = nI w.1 := by rw [t2 1 (by decide)]; exact hm.1
        have hstep : mX7_isAnyAllowed_l58 (v, nI s, P) = tr_loop (mX7_isAnyAllowed_l75 (v, nI s, P)) (v, 0, P) := by
          conv => lhs; unfold mX7_isAnyAllowed_l58
          dsimp only
          rw [full_eq hwP hn, hwP, if_neg (by rw [nlt (by omega) (by omega)]; omega), if_pos ((n0lt (by omega)).mpr (by omega))]
        rw [hstep]
        obtain ⟨r, r1, Q, u, rfl, r3, r4, r5, r6⟩ := tr_loop_inv (step := mX7_isAnyAllowed_l75 (v, nI s, P)) (s0 := (v, 0, P)) (fun l t => ∃ Q u, t = (u, nI l, Q) ∧ RJ (nxW stM w none) w.1 s l Q ∧ (∀ c, c ≠ 24 → Q.1 c = M.1 c) ∧ Q.2 = M.2 ∧ ((u = 0 ∧ ¬ (∃ l', (2 ^ w.1 - 1 < s ∨ (s = 2 ^ w.1 - 1 ∧ l' < l)) ∧ ∃ i, Rc (nxW stM w none) i (2 ^ w.1 - 1) l')) ∨ (u = 1 ∧ ∃ l i, Rc (nxW stM w none) i (2 ^ w.1 - 1) l))) (fun r => ∃ Q u, r = .inl (u, nI (s + 1), Q) ∧ RJ (nxW stM w none) w.1 (s + 1) 0 Q ∧ (∀ c, c ≠ 24 → Q.1 c = M.1 c) ∧ Q.2 = M.2 ∧ ((u = 0 ∧ ¬ (2 ^ w.1 - 1 < s + 1 ∧ ∃ l i, Rc (nxW stM w none) i (2 ^ w.1 - 1) l)) ∨ (u = 1 ∧ ∃ l i, Rc (nxW stM w none) i (2 ^ w.1 - 1) l))) w.1 (by omega) ⟨P, v, rfl, t1, t2, t3, by
            rcases t4 with ⟨a, b⟩ | a
            · exact Or.inl ⟨a, fun ⟨l', c, d⟩ => b ⟨by omega, l', d⟩⟩
            · exact Or.inr a⟩ (by
          rintro l t hl ⟨Q, u, rfl, t1, t2, t3, t4⟩
          left
          have hwQ : Q.1 1 10 = nI w.1 := by rw [t2 1 (by decide)]; exact hm.1
          unfold mX7_isAnyAllowed_l75
          dsimp only
          rw [hwQ, if_pos ((nlt (by omega) (by omega)).mpr hl), spot_eq, tr_rd_nI (by omega) (by decide), Option.bind_some]
          rcases t1.1 s l hs hl with y | ⟨y, i, hR⟩
          · rw [if_pos y, nadd1]
            have no : ∀ i, ¬ Rc (nxW stM w none) i s l := fun i hR => by
              have := t1.come hf hR z
              rw [y] at this
              exact absurd this (by decide)
            refine ⟨_, rfl, Q, u, rfl, ⟨t1.1, t1.2.1, fun i s0 l0 x g1 g2 g3 g4 => ?_⟩, t2, t3, ?_⟩
            · by_cases e : s0 = s ∧ l0 = l
              · obtain ⟨rfl, rfl⟩ := e
                exact absurd g1 (no i)
              · exact t1.2.2 i s0 l0 x g1 g2 (by omega) g4
            · rcases t4 with ⟨a, b⟩ | a
              · refine Or.inl ⟨a, fun ⟨l', c, i, d⟩ => ?_⟩
                by_cases e : s = 2 ^ w.1 - 1 ∧ l' = l
                · obtain ⟨e1, e2⟩ := e
                  rw [← e1, e2] at d
                  exact no i d
                · exact b ⟨l', by omega, i, d⟩
              · exact Or.inr a
          · rw [if_neg (by rw [y]; decide), full_eq hwQ hn]
            have hv : ∃ v22, (if u = 0 then (if nI s = nI (2 ^ w.1 - 1) then some (1 : Int32) else some 0) else some 1) = some v22 ∧ ((v22 = 0 ∧ ¬ (∃ l', (2 ^ w.1 - 1 < s ∨ (s = 2 ^ w.1 - 1 ∧ l' < l + 1)) ∧ ∃ i, Rc (nxW stM w none) i (2 ^ w.1 - 1) l')) ∨ (v22 = 1 ∧ ∃ l i, Rc (nxW stM w none) i (2 ^ w.1 - 1) l)) := by
              rcases t4 with ⟨rfl, b⟩ | ⟨rfl, b⟩
              · rw [if_pos rfl]
                by_cases e : s = 2 ^ w.1 - 1
                · rw [if_pos (by rw [e])]
                  refine ⟨1, rfl, Or.inr ⟨rfl, l, i, ?_⟩⟩
                  rw [← e]
                  exact hR
                · rw [if_neg (by rw [neq (by omega) (by omega)]; exact e)]
                  exact ⟨0, rfl, Or.inl ⟨rfl, fun ⟨l', c, d⟩ => b ⟨l', by omega, d⟩⟩⟩
              · rw [if_neg (by decide)]
                exact ⟨1, rfl, Or.inr ⟨rfl, b⟩⟩
            obtain ⟨v22, v1, v2⟩ := hv
            rw [v1, Option.bind_some]
            obtain ⟨T, c1, c2, c3, c4⟩ := anyFrom_eq (a := (v, nI s, P)) (b := (u, nI l, Q)) (v := v22) hok hm hp hs hl rfl rfl t2 t3 hR t1
            rw [c1]
            exact ⟨_, rfl, T, v22, rfl, c2, c3, c4, v2⟩) (by
          rintro t ⟨Q, u, rfl, t1, t2, t3, t4⟩
          have hwQ : Q.1 1 10 = nI w.1 := by rw [t2 1 (by decide)]; exact hm.1
          unfold mX7_isAnyAllowed_l75
          dsimp only
          rw [hwQ, if_neg (by rw [nlt (by omega) (by omega)]; omega), nadd1]
          refine ⟨_, rfl, Q, u, rfl, ⟨t1.1, t1.2.1, fun i s0 l0 x g1 g2 g3 g4 => t1.2.2 i s0 l0 x g1 g2 (by omega) g4⟩, t2, t3, ?_⟩
          rcases t4 with ⟨a, b⟩ | a
          · refine Or.inl ⟨a, fun ⟨c, l', i, d⟩ => b ⟨l', ?_, i, d⟩⟩
            have hl' : l' < w.1 := by
              rcases (Rc_st hf d).1.2 with y | y
              · omega
              · exact y.1
            omega
          · exact Or.inr a)
        rw [r1]
        exact ⟨_, rfl, Q, u, rfl, r3, r4, r5, r6⟩
      · rintro t ⟨P, v, rfl, t1, t2, t3, t4⟩
        have hwP : P.1 1 10 = nI w.1 := by rw [t2 1 (by decide)]; exact hm.1
        unfold mX7_isAnyAllowed_l58
        dsimp only
        rw [full_eq hwP hn, if_pos ((nlt (by omega) (by omega)).mpr (by omega))]
        rcases t4 with ⟨rfl, b⟩ | ⟨rfl, b⟩
        · have : Al w none = [] := Classical.byContradiction fun e => by
            rw [← hext] at e
            exact b ⟨by omega, (Rc_full hf).mp e⟩
          rw [if_pos this]
          exact ⟨_, rfl, P, rfl, t2, t3⟩
        · have : Al w none ≠ [] := by
            rw [← hext]
            exact (Rc_full hf).mpr b
          rw [if_neg this]
          exact ⟨_, rfl, P, rfl, t2, t3⟩
    obtain ⟨r, r1, P, rfl, r3, r4⟩ := key
    exact ⟨P, r1, r3, r4⟩
/-! ===== must: the class's table of what is broken at least ===== -/
theorem down3 {n : Nat} {ρ : Type} {M : tr_M} (hn : n ≤ 10) {out : Int32 × tr_M → Option ((Int32 × tr_M) ⊕ ρ)} {inn : Nat → tr_M → Int32 × tr_M → Option ((Int32 × tr_M) ⊕ ((Int32 × tr_M) ⊕ ρ))} (J : Nat → Nat → tr_M → Prop) (Q : Nat → tr_M → Prop) (R : ρ → Prop) (ho : ∀ s N, s < 2 ^ n → Q s N → ∃ N', J s 0 N' ∧ out (nI s, N) = tr_loop (inn s N') (0, N')) (ho2 : ∀ N, J 0 1 N → ∃ r, out (-1, N) = some (.inr r) ∧ R r) (hst : ∀ s l N K, St n s l → J s l N → ∃ P, inn s K (nI l, N) = some (.inl (nI (l + 1), P)) ∧ J s (l + 1) P) (hsk : ∀ s l N K, s < 2 ^ n → s ≠ 0 → l < n → s.testBit l = false → J s l N → inn s K (nI l, N) = some (.inl (nI (l + 1), N)) ∧ J s (l + 1) N) (he : ∀ s N K, s < 2 ^ n → J s (Ln n s) N → inn s K (nI (Ln n s), N) = some (.inr (.inl (nI s + (-1), N)))) (hnx : ∀ s N, s + 1 < 2 ^ n → J (s + 1) (Ln n (s + 1)) N → Q s N) (h0 : Q (2 ^ n - 1) M) : ∃ r, tr_loop out (nI (2 ^ n - 1), M) = some r ∧ R r := by
  have hpw := pow_lt hn
  have hp0 := Nat.two_pow_pos n
  have inner : ∀ s N, s < 2 ^ n → J s 0 N → ∃ P, tr_loop (inn s N) (0, N) = some (.inl (nI s + (-1), P)) ∧ J s (Ln n s) P := fun s N hs hJ => by
    obtain ⟨r, e1, P, e2, e3⟩ := tr_loop_inv (step := inn s N) (s0 := (0, N)) (fun l t => ∃ P, t = (nI l, P) ∧ J s l P) (fun r => ∃ P, r = .inl (nI s + (-1), P) ∧ J s (Ln n s) P) (Ln n s) (by unfold Ln; split <;> omega) ⟨N, rfl, hJ⟩ (by
      rintro l t hl ⟨P, rfl, hP⟩
      left
      by_cases c : s = 0
      · unfold Ln at hl
        rw [if_pos c] at hl
        obtain ⟨Q, q1, q2⟩ := hst s l P N ⟨hs, Or.inl ⟨c, by omega⟩⟩ hP
        exact ⟨_, q1, Q, rfl, q2⟩
      · unfold Ln at hl
        rw [if_neg c] at hl
        cases b : s.testBit l with
        | true =>
          obtain ⟨Q, q1, q2⟩ := hst s l P N ⟨hs, Or.inr ⟨hl, b⟩⟩ hP
          exact ⟨_, q1, Q, rfl, q2⟩
        | false =>
          obtain ⟨q1, q2⟩ := hsk s l P N hs c hl b hP
          exact ⟨_, q1, P, rfl, q2⟩) (by
      rintro t ⟨P, rfl, hP⟩
      exact ⟨_, he s P N hs hP, P, rfl, hP⟩)
    exact ⟨P, by rw [e1, e2], e3⟩
  refine tr_loop_inv (step := out) (s0 := (nI (2 ^ n - 1), M)) (fun i t => ∃ N, (i < 2 ^ n ∧ t = (nI (2 ^ n - 1 - i), N) ∧ Q (2 ^ n - 1 - i) N) ∨ (i = 2 ^ n ∧ t = (-1, N) ∧ J 0 1 N)) R (2 ^ n) (by omega) ⟨M, Or.inl ⟨hp0, rfl, h0⟩⟩ ?_ ?_
  · rintro i t hi ⟨N, ⟨_, rfl, hJ⟩ | ⟨e, _, _⟩⟩
    · left
      obtain ⟨N', hJ', h1⟩ := ho (2 ^ n - 1 - i) N (by omega) hJ
      obtain ⟨P, p1, p2⟩ := inner (2 ^ n - 1 - i) N' (by omega) hJ'
      rw [h1, p1]
      refine ⟨_, rfl, P, ?_⟩
      by_cases c : i + 1 < 2 ^ n
      · left
        refine ⟨c, ?_, ?_⟩
        · rw [nsub1 (by omega), show 2 ^ n - 1 - i - 1 = 2 ^ n - 1 - (i + 1) by omega]
        · refine hnx (2 ^ n - 1 - (i + 1)) P (by omega) ?_
          rw [show 2 ^ n - 1 - (i + 1) + 1 = 2 ^ n - 1 - i by omega]
          exact p2
      · right
        rw [show 2 ^ n - 1 - i = 0 by omega] at p2 ⊢
        exact ⟨by omega, rfl, p2⟩
    · omega
  · rintro t ⟨N, ⟨hi, _, _⟩ | ⟨_, rfl, hJ⟩⟩
    · omega
    · exact ho2 N hJ
theorem pw_lt {n x : Nat} (hn : n ≤ 10) (hx : x < n) : 2 ^ x < 1024 := Nat.lt_of_lt_of_le (Nat.pow_lt_pow_right (by decide) hx) (pow_lt hn)
theorem bB_lt {n : Nat} {r : Nat × Nat × Nat × Nat} (hr : ruleOk n r) (hn : n ≤ 10) (s : Nat) : bB r s < 1024 := by
  obtain ⟨kd, x, y, z⟩ := r
  unfold ruleOk at hr
  unfold bB
  dsimp only at hr ⊢
  have hx : kd ≠ 0 → x < n := by omega
  have hy : kd = 1 → y < n := by omega
  by_cases c1 : kd = 1
  · rw [if_pos c1]
    split
    · decide
    · exact pw_lt hn (hy c1)
  rw [if_neg c1]
  by_cases c3 : kd = 3
  · rw [if_pos c3]
    split
    · decide
    · exact pw_lt hn (hx (by omega))
  rw [if_neg c3]
  by_cases c4 : kd = 4
  · rw [if_pos c4]
    split
    · exact pw_lt hn (hx (by omega))
    · decide
  rw [if_neg c4]
  by_cases c6 : kd = 6
  · rw [if_pos c6]
    split
    · exact pw_lt hn (hx (by omega))
    · decide
  rw [if_neg c6]
  decide
theorem bN_lt {n : Nat} {r : Nat × Nat × Nat × Nat} (hr : ruleOk n r) (hn : n ≤ 10) (l : Nat) : bN r l < 1024 := by
  obtain ⟨kd, x, y, z⟩ := r
  unfold ruleOk at hr
  unfold bN
  dsimp only at hr ⊢
  have hx : kd ≠ 0 → x < n := by omega
  have hy : kd = 2 ∨ kd = 5 → y < n := by omega
  by_cases c1 : kd = 2
  · rw [if_pos c1]
    split
    · decide
    · exact pw_lt hn (hy (Or.inl c1))
  rw [if_neg c1]
  by_cases c3 : kd = 5
  · rw [if_pos c3]
    split
    · exact pw_lt hn (hy (Or.inr c3))
    · split
      · exact pw_lt hn (hx (by omega))
      · decide
  rw [if_neg c3]
  decide
theorem bB_or (r : Nat × Nat × Nat × Nat) (s l : Nat) : bB r s = 0 ∨ bN r l = 0 := by
  unfold bB bN
  by_cases c2 : r.1 = 2
  · left
    simp [c2]
  · by_cases c5 : r.1 = 5
    · left
      simp [c5]
    · right
      simp [c2, c5]
def vio (w : Wd) (k s l x : Nat) : Bool := !w.2.2.2.2 k && !stC (w.2.2.2.1 k) s l x
def cK (k : Nat) : Nat := 256 + 2 ^ k
def sB (w : Wd) (s x : Nat) : Nat := sm w.2.2.1 (fun k => if (bBk w k s).testBit x = true then cK k else 0)
def sN (w : Wd) (l x : Nat) : Nat := sm w.2.2.1 (fun k => if (bNk w k l).testBit x = true then cK k else 0)
def sV (w : Wd) (s l x : Nat) : Nat := sm w.2.2.1 (fun k => if vio w k s l x = true then cK k else 0)
theorem sV_eq {w : Wd} (hok : WOk w) (s l x : Nat) : sB w s x + sN w l x = sV w s l x := by
  unfold sB sN sV
  rw [← sm_add]
  refine sm_congr fun k hk => ?_
  unfold bBk bNk vio
  rw [stC_bits (hok.2.2.2.2.2.1 k hk) s l x]
  cases ho : w.2.2.2.2 k with
  | true => simp
  | false =>
    rw [if_neg (show ¬ false = true by decide), if_neg (show ¬ false = true by decide)]
    rcases bB_or (w.2.2.2.1 k) s l with z | z
    · rw [z, Nat.zero_testBit]
      cases (bN (w.2.2.2.1 k) l).testBit x <;> simp
    · rw [z, Nat.zero_testBit]
      cases (bB (w.2.2.2.1 k) s).testBit x <;> simp
theorem cK_le {k : Nat} (hk : k < 8) : cK k ≤ 384 := by
  unfold cK
  have : 2 ^ k ≤ 2 ^ 7 := Nat.pow_le_pow_right (by decide) (by omega)
  have e : (2 : Nat) ^ 7 = 128 := by decide
  omega
theorem sV_le {w : Wd} (hok : WOk w) (s l x : Nat) : sV w s l x ≤ 3072 := by
  have h8 := hok.2.2.2.2.1
  have h : sV w s l x ≤ w.2.2.1 * 384 := sm_le fun k hk => by
    split
    · exact cK_le (by omega)
    · omega
  have := Nat.mul_le_mul_right 384 h8
  omega
theorem costRule_eq {k : Nat} (hk : k < 8) : mX4_costOfRule (nI k) = nI (cK k) := by
  rcases (show k = 0 ∨ k = 1 ∨ k = 2 ∨ k = 3 ∨ k = 4 ∨ k = 5 ∨ k = 6 ∨ k = 7 by omega) with rfl | rfl | rfl | rfl | rfl | rfl | rfl | rfl <;> decide
theorem addCosts_eq {n b c p o : Nat} {M : tr_M} (hn : n ≤ 10) (hw : M.1 26 0 = nI n) (hb : b < 1024) (hp : p ≠ 26) (ho : o + n ≤ tr_len shC p) (hl : tr_len shC p < 2147483648) : ∃ N, mX4_addCosts (nI b) (nI c) p (nI o) M = some N ∧ (∀ x, x < n → N.1 p (o + x) = M.1 p (o + x) + (if b.testBit x = true then nI c else 0)) ∧ (∀ j, j < o ∨ o + n ≤ j → N.1 p j = M.1 p j) ∧ (∀ q, q ≠ p → N.1 q = M.1 q) ∧ N.2 = M.2 := by
  unfold mX4_addCosts
  refine tr_loop_inv (step := mX4_addCosts_l3 (nI b) (nI c) p (nI o)) (s0 := (0, M)) (fun k t => ∃ N, t = (nI k, N) ∧ (∀ x, x < k → N.1 p (o + x) = M.1 p (o + x) + (if b.testBit x = true then nI c else 0)) ∧ (∀ j, j < o ∨ o + k ≤ j → N.1 p j = M.1 p j) ∧ (∀ q, q ≠ p → N.1 q = M.1 q) ∧ N.2 = M.2) (fun N => (∀ x, x < n → N.1 p (o + x) = M.1 p (o + x) + (if b.testBit x = true then nI c else 0)) ∧ (∀ j, j < o ∨ o + n ≤ j → N.1 p j = M.1 p j) ∧ (∀ q, q ≠ p → N.1 q = M.1 q) ∧ N.2 = M.2) n (by omega) ⟨M, rfl, fun x hx => by omega, fun _ _ => rfl, fun _ _ => rfl, rfl⟩ ?_ ?_
  · rintro k t hk ⟨N, rfl, t1, t2, t3, t4⟩
    left
    have hwN : N.1 26 0 = nI n := by rw [t3 26 (fun e => hp e.symm)]; exact hw
    unfold mX4_addCosts_l3
    dsimp only
    rw [hwN, if_pos ((nlt (by omega) (by omega)).mpr hk), nadd1]
    by_cases d : b.testBit k = true
    · rw [if_neg (by rw [bit_eq0 (by omega) (by omega), d]; decide), nadd, tr_rd_nI (by omega) hl, Option.bind_some, tr_wr_nI (by omega) hl, Option.bind_some]
      refine ⟨_, rfl, _, rfl, fun x hx => ?_, fun j hj => ?_, fun q hq => by rw [tr_st_ne hq, t3 q hq], t4⟩
      · by_cases e : x = k
        · rw [e, tr_st_s, if_pos d, t2 (o + k) (by omega)]
        · rw [tr_st_j (by omega)]
          exact t1 x (by omega)
      · rw [tr_st_j (by omega)]
        exact t2 j (by omega)
    · rw [if_pos (by rw [bit_eq0 (by omega) (by omega)]; simpa using d)]
      refine ⟨_, rfl, N, rfl, fun x hx => ?_, fun j hj => t2 j (by omega), t3, t4⟩
      by_cases e : x = k
      · rw [e, if_neg d, Int32.add_zero]
        exact t2 (o + k) (by omega)
      · exact t1 x (by omega)
  · rintro t ⟨N, rfl, t1, t2, t3, t4⟩
    have hwN : N.1 26 0 = nI n := by rw [t3 26 (fun e => hp e.symm)]; exact hw
    unfold mX4_addCosts_l3
    dsimp only
    rw [hwN, if_neg (by rw [nlt (by omega) (by omega)]; omega)]
    exact ⟨N, rfl, t1, t2, t3, t4⟩
theorem nI_if {b : Bool} {c : Nat} : (if b = true then nI c else 0) = nI (if b = true then c else 0) := by
  cases b <;> rfl
theorem bBk_lt {w : Wd} (hok : WOk w) {k : Nat} (hk : k < w.2.2.1) (s : Nat) : bBk w k s < 1024 := by
  unfold bBk
  split
  · decide
  · exact bB_lt (hok.2.2.2.2.2.1 k hk) hok.1 s
theorem bNk_lt {w : Wd} (hok : WOk w) {k : Nat} (hk : k < w.2.2.1) (l : Nat) : bNk w k l < 1024 := by
  unfold bNk
  split
  · decide
  · exact bN_lt (hok.2.2.2.2.2.1 k hk) hok.1 l
theorem fillBehind_eq {w : Wd} {s : Nat} {M : tr_M} (hok : WOk w) (hw : CWd w 26 M) (hs : s < 1024) : ∃ N, mX4_fillBehindCosts (nI s) M = some N ∧ (∀ x, x < w.1 → N.1 52 x = nI (sB w s x)) ∧ (∀ c, c ≠ 52 → N.1 c = M.1 c) ∧ N.2 = M.2 := by
  have hn := hok.1
  have h8 := hok.2.2.2.2.1
  unfold mX4_fillBehindCosts
  have e0 := fillAll_eq (sh := shC) (a := 52) (v := 0) (M := M) (by decide) (by decide)
  rw [e0, Option.bind_some]
  refine tr_loop_inv (step := mX4_fillBehindCosts_l10 (nI s)) (s0 := (0, _)) (fun k t => ∃ N, t = (nI k, N) ∧ (∀ x, x < w.1 → N.1 52 x = nI (sm k (fun k => if (bBk w k s).testBit x = true then cK k else 0))) ∧ (∀ c, c ≠ 52 → N.1 c = M.1 c) ∧ N.2 = M.2) (fun N => (∀ x, x < w.1 → N.1 52 x = nI (sB w s x)) ∧ (∀ c, c ≠ 52 → N.1 c = M.1 c) ∧ N.2 = M.2) w.2.2.1 (by omega) ⟨_, rfl, fun x hx => ?_, fun c hc => tr_row_ne hc, rfl⟩ ?_ ?_
  · rw [tr_row_s]
    exact fl_in (Nat.zero_le _) (show x < 0 + 10 by omega)
  · rintro k t hk ⟨N, rfl, t1, t2, t3⟩
    left
    have hwN : CWd w 26 N := hw.congr fun b h1 h2 => t2 b (by omega)
    unfold mX4_fillBehindCosts_l10
    dsimp only
    rw [hwN.2.1, if_pos ((nlt (by omega) (by omega)).mpr hk), barredBehind_eq hok hwN hk hs, Option.bind_some, costRule_eq (by omega)]
    obtain ⟨P, p1, p2, p3, p4, p5⟩ := addCosts_eq (b := bBk w k s) (c := cK k) (p := 52) (o := 0) hn hwN.1 (bBk_lt hok hk s) (by decide) (show 0 + w.1 ≤ 10 by omega) (by decide)
    have p1' : mX4_addCosts (nI (bBk w k s)) (nI (cK k)) 52 0 N = some P := p1
    rw [p1', Option.bind_some, nadd1]
    refine ⟨_, rfl, P, rfl, fun x hx => ?_, fun c hc => by rw [p4 c hc, t2 c hc], p5.trans t3⟩
    have := p2 x hx
    rw [Nat.zero_add] at this
    rw [this, t1 x hx, nI_if, nadd]
    rfl
  · rintro t ⟨N, rfl, t1, t2, t3⟩
    have hwN : CWd w 26 N := hw.congr fun b h1 h2 => t2 b (by omega)
    unfold mX4_fillBehindCosts_l10
    dsimp only
    rw [hwN.2.1, if_neg (by rw [nlt (by omega) (by omega)]; omega)]
    exact ⟨N, rfl, t1, t2, t3⟩
theorem fillNext_eq {w : Wd} {M : tr_M} (hok : WOk w) (hw : CWd w 26 M) : ∃ N, mX4_fillNextCosts M = some N ∧ (∀ l x, l ≤ 10 → x < w.1 → N.1 53 (l * 10 + x) = nI (sN w l x)) ∧ (∀ c, c ≠ 53 → N.1 c = M.1 c) ∧ N.2 = M.2 := by
  have hn := hok.1
  have h8 := hok.2.2.2.2.1
  unfold mX4_fillNextCosts
  have e0 := fillAll_eq (sh := shC) (a := 53) (v := 0) (M := M) (by decide) (by decide)
  rw [e0, Option.bind_some]
  refine tr_loop_inv (step := mX4_fillNextCosts_l10) (s0 := (0, _)) (fun l t => ∃ N, t = (nI l, N) ∧ (∀ l' x, l' < l → x < w.1 → N.1 53 (l' * 10 + x) = nI (sN w l' x)) ∧ (∀ l' x, l ≤ l' → l' ≤ 10 → x < w.1 → N.1 53 (l' * 10 + x) = nI 0) ∧ (∀ c, c ≠ 53 → N.1 c = M.1 c) ∧ N.2 = M.2) (fun N => (∀ l x, l ≤ 10 → x < w.1 → N.1 53 (l * 10 + x) = nI (sN w l x)) ∧ (∀ c, c ≠ 53 → N.1 c = M.1 c) ∧ N.2 = M.2) 11 (by omega) ⟨_, rfl, fun l' x hl' => by omega, fun l' x _ hl' hx => ?_, fun c hc => tr_row_ne hc, rfl⟩ ?_ ?_
  · rw [tr_row_s]
    exact fl_in (Nat.zero_le _) (show l' * 10 + x < 0 + 110 by omega)
  · rintro l t hl ⟨N, rfl, t1, t2, t3, t4⟩
    left
    have hstep : mX4_fillNextCosts_l10 (nI l, N) = tr_loop (mX4_fillNextCosts_l18 (nI l, N)) (0, N) := by
      conv => lhs; unfold mX4_fillNextCosts_l10
      dsimp only
      rw [if_neg (by rw [show (10 : Int32) = nI 10 from rfl, nlt (by decide) (by omega)]; omega)]
    rw [hstep]
    obtain ⟨r, r1, P, rfl, r3, r4, r5, r6⟩ := tr_loop_inv (step := mX4_fillNextCosts_l18 (nI l, N)) (s0 := (0, N)) (fun k t => ∃ P, t = (nI k, P) ∧ (∀ x, x < w.1 → P.1 53 (l * 10 + x) = nI (sm k (fun k => if (bNk w k l).testBit x = true then cK k else 0))) ∧ (∀ l' x, l' ≠ l → x < w.1 → P.1 53 (l' * 10 + x) = N.1 53 (l' * 10 + x)) ∧ (∀ c, c ≠ 53 → P.1 c = M.1 c) ∧ P.2 = M.2) (fun r => ∃ P, r = .inl (nI (l + 1), P) ∧ (∀ x, x < w.1 → P.1 53 (l * 10 + x) = nI (sN w l x)) ∧ (∀ l' x, l' ≠ l → x < w.1 → P.1 53 (l' * 10 + x) = N.1 53 (l' * 10 + x)) ∧ (∀ c, c ≠ 53 → P.1 c = M.1 c) ∧ P.2 = M.2) w.2.2.1 (by omega) ⟨N, rfl, fun x hx => t2 l x (Nat.le_refl _) (by omega) hx, fun _ _ _ _ => rfl, t3, t4⟩ (by
      rintro k t hk ⟨P, rfl, u1, u2, u3, u4⟩
      left
      have hwP : CWd w 26 P := hw.congr fun b h1 h2 => u3 b (by omega)
      unfold mX4_fillNextCosts_l18
      dsimp only
      have hso : mX4_stateOf (nI l) 0 = nI (l * 10) := stateOf_eq l 0
      rw [hwP.2.1, if_pos ((nlt (by omega) (by omega)).mpr hk), barredNextTo_eq hok hwP hk (by omega), Option.bind_some, costRule_eq (by omega), hso]
      obtain ⟨Q, p1, p2, p3, p4, p5⟩ := addCosts_eq (b := bNk w k l) (c := cK k) (p := 53) (o := l * 10) hn hwP.1 (bNk_lt hok hk l) (by decide) (show l * 10 + w.1 ≤ 110 by omega) (by decide)
      rw [p1, Option.bind_some, nadd1]
      refine ⟨_, rfl, Q, rfl, fun x hx => ?_, fun l' x hl' hx => ?_, fun c hc => by rw [p4 c hc, u3 c hc], p5.trans u4⟩
      · rw [p2 x hx, u1 x hx, nI_if, nadd]
        rfl
      · rw [p3 (l' * 10 + x) (by omega)]
        exact u2 l' x hl' hx) (by
      rintro t ⟨P, rfl, u1, u2, u3, u4⟩
      have hwP : CWd w 26 P := hw.congr fun b h1 h2 => u3 b (by omega)
      unfold mX4_fillNextCosts_l18
      dsimp only
      rw [hwP.2.1, if_neg (by rw [nlt (by omega) (by omega)]; omega), nadd1]
      exact ⟨_, rfl, P, rfl, u1, u2, u3, u4⟩)
    rw [r1]
    refine ⟨_, rfl, P, rfl, fun l' x hl' hx => ?_, fun l' x h1 h2 hx => ?_, r5, r6⟩
    · by_cases e : l' = l
      · rw [e]
        exact r3 x hx
      · rw [r4 l' x e hx]
        exact t1 l' x (by omega) hx
    · rw [r4 l' x (by omega) hx]
      exact t2 l' x (by omega) h2 hx
  · rintro t ⟨N, rfl, t1, t2, t3, t4⟩
    unfold mX4_fillNextCosts_l10
    dsimp only
    rw [if_pos (by decide)]
    exact ⟨N, rfl, fun l x hl hx => t1 l x (by omega) hx, t3, t4⟩
/-- what an order breaks, step by step -/
def tc (w : Wd) : Nat → Nat → List Nat → Nat
  | _, _, [] => 0
  | s, l, x :: p => sV w s l x + tc w (ins s x) x p
def tb (w : Wd) (s l : Nat) : Nat := lm TP ((ext (nxA w.1) w.1 (lft w.1 s) s l).map (tc w s l))
theorem lm_add {α : Type} (T c : Nat) (d : α → Nat) : ∀ L : List α, lm T (L.map (fun p => c + d p)) = min T (c + lm T (L.map d))
  | [] => by
    show T = min T (c + T)
    omega
  | p :: L => by
    show min (c + d p) (lm T (L.map (fun p => c + d p))) = min T (c + min (d p) (lm T (L.map d)))
    rw [lm_add T c d L]
    have := lm_le T (L.map d)
    omega
theorem tb_succ {w : Wd} {s l k : Nat} (hs : lft w.1 s = k + 1) : tb w s l = mnf TP w.1 (fun x => if s.testBit x = true then TP else min TP (sV w s l x + tb w (ins s x) x)) := by
  unfold tb
  rw [hs]
  show lm TP ((fm w.1 _).map _) = _
  rw [fm_map, lm_fm]
  refine mnf_congr fun x hx => ?_
  cases b : s.testBit x with
  | true =>
    rw [if_pos rfl, if_neg (by unfold nxA; rw [b]; simp)]
    rfl
  | false =>
    have hk : lft w.1 (ins s x) = k := by have := lft_ins hx b; omega
    rw [if_neg (show ¬ false = true by decide), if_pos (show nxA w.1 s l x = true by unfold nxA; rw [b]; simp [hx]), List.map_map, hk]
    exact lm_add TP (sV w s l x) (tc w (ins s x) x) _
theorem tb_le (w : Wd) (s l : Nat) : tb w s l ≤ TP := lm_le _ _
theorem brokenFrom_eq {w : Wd} {s l : Nat} {M : tr_M} (hok : WOk w) (hw : CWd w 26 M) (hst : St w.1 s l) (h52 : ∀ x, x < w.1 → M.1 52 x = nI (sB w s x)) (h53 : ∀ l x, l ≤ 10 → x < w.1 → M.1 53 (l * 10 + x) = nI (sN w l x)) (hT : ∀ s' l', St w.1 s' l' → s < s' → M.1 48 (s' * 10 + l') = nI (tb w s' (ls s' l'))) : mX4_leastBrokenFrom (nI s) (nI l) M = some (nI (tb w s (ls s l))) := by
  have hn := hok.1
  have hpw := pow_lt hn
  have hp0 := Nat.two_pow_pos w.1
  have hs := hst.1
  have hl := hst.l10 hn
  have hTP : TP = 268435456 := rfl
  unfold mX4_leastBrokenFrom
  rw [everything_eq hw.1 hn]
  by_cases c : s = 2 ^ w.1 - 1
  · rw [if_pos (by rw [c])]
    unfold tb
    rw [lft_full c]
    rfl
  · rw [if_neg (by rw [neq (by omega) (by omega)]; exact c)]
    obtain ⟨k, hk⟩ : ∃ k, lft w.1 s = k + 1 := ⟨lft w.1 s - 1, by have := lft_pos hs c; omega⟩
    have e6 : (if nI s = 0 then some (10 : Int32) else some (nI l)) = some (nI (ls s l)) := by
      unfold ls
      by_cases z : s = 0
      · rw [if_pos z, if_pos (by rw [z]; rfl)]
        rfl
      · rw [if_neg z, if_neg (by rw [neq0 (by omega)]; exact z)]
    have hls : ls s l ≤ 10 := by unfold ls; split <;> omega
    rw [e6, Option.bind_some, tb_succ hk]
    refine tr_loop_seq' (fun x => (nI (mnf TP x (fun x => if s.testBit x = true then TP else min TP (sV w s (ls s l) x + tb w (ins s x) x))), nI x)) w.1 rfl (by omega) (fun x hx => ?_) ?_
    · unfold mX4_leastBrokenFrom_l35
      dsimp only
      have hm : mnf TP x (fun x => if s.testBit x = true then TP else min TP (sV w s (ls s l) x + tb w (ins s x) x)) ≤ TP := mnf_top
      rw [hw.1, if_pos ((nlt (by omega) (by omega)).mpr hx), nadd1]
      show _ = some (Sum.inl (nI (min (mnf TP x (fun x => if s.testBit x = true then TP else min TP (sV w s (ls s l) x + tb w (ins s x) x))) (if s.testBit x = true then TP else min TP (sV w s (ls s l) x + tb w (ins s x) x))), nI (x + 1)))
      cases b : s.testBit x with
      | true =>
        rw [if_neg (by rw [bit_eq0 (by omega) (by omega), b]; decide), if_pos rfl, Nat.min_eq_left hm]
      | false =>
        obtain ⟨z1, z2⟩ := St_ins hs hx
        have gt := ins_gt b
        have hi := z1.1
        have h48 := hT (ins s x) x z1 gt
        rw [z2] at h48
        have hso : mX4_stateOf (nI (ls s l)) 0 = nI (ls s l * 10) := stateOf_eq (ls s l) 0
        have hv := sV_le hok s (ls s l) x
        have ht := tb_le w (ins s x) x
        rw [if_pos (by rw [bit_eq0 (by omega) (by omega)]; exact b), tr_rd_nI (by omega) (by decide), Option.bind_some, h52 x hx, hso, nadd, tr_rd_nI (by omega) (by decide), Option.bind_some, h53 _ _ hls hx, ins_nI (by omega), stateOf_eq, tr_rd_nI (by omega) (by decide), Option.bind_some, h48, nadd, sV_eq hok, nadd, nmin _ _ (by omega) (by omega), if_neg (by decide)]
        congr 4
        omega
    · unfold mX4_leastBrokenFrom_l35
      dsimp only
      rw [hw.1, if_neg (by rw [nlt (by omega) (by omega)]; omega)]
theorem leastBroken_eq {w : Wd} {M : tr_M} (hok : WOk w) (hw : CWd w 26 M) : ∃ N, mX4_leastBroken M = some (nI (tb w 0 10), N) ∧ (∀ c, c ≠ 48 → c ≠ 52 → c ≠ 53 → N.1 c = M.1 c) ∧ N.2 = M.2 := by
  have hn := hok.1
  have hpw := pow_lt hn
  have hp0 := Nat.two_pow_pos w.1
  unfold mX4_leastBroken
  obtain ⟨F, f1, f2, f3, f4⟩ := fillNext_eq hok hw
  have hF : F.1 26 0 = nI w.1 := by rw [f3 26 (by decide)]; exact hw.1
  rw [f1, Option.bind_some, everything_eq hF hn]
  obtain ⟨r, e1, N, rfl, e3⟩ := down3 (n := w.1) (M := F) hn (out := mX4_leastBroken_l12) (inn := fun s K => mX4_leastBroken_l23 (nI s, K)) (fun s l N => (∀ s' l', St w.1 s' l' → (s < s' ∨ (s' = s ∧ l' < l)) → N.1 48 (s' * 10 + l') = nI (tb w s' (ls s' l'))) ∧ (∀ x, x < w.1 → N.1 52 x = nI (sB w s x)) ∧ (∀ c, c ≠ 48 → c ≠ 52 → N.1 c = F.1 c) ∧ N.2 = F.2) (fun s N => (∀ s' l', St w.1 s' l' → s < s' → N.1 48 (s' * 10 + l') = nI (tb w s' (ls s' l'))) ∧ (∀ c, c ≠ 48 → c ≠ 52 → N.1 c = F.1 c) ∧ N.2 = F.2) (fun r => ∃ N, r = (nI (tb w 0 10), N) ∧ (∀ c, c ≠ 48 → c ≠ 52 → N.1 c = F.1 c) ∧ N.2 = F.2) (by
    rintro s N hs ⟨t1, t2, t3⟩
    have hwN : CWd w 26 N := hw.congr fun b h1 h2 => by rw [t2 b (by omega) (by omega), f3 b (by omega)]
    obtain ⟨P, p1, p2, p3, p4⟩ := fillBehind_eq (s := s) hok hwN (by omega)
    refine ⟨P, ⟨fun s' l' hst hlt => ?_, p2, fun c c1 c2 => by rw [p3 c c2, t2 c c1 c2], p4.trans t3⟩, ?_⟩
    · rw [p3 48 (by decide)]
      exact t1 s' l' hst (by omega)
    · conv => lhs; unfold mX4_leastBroken_l12
      dsimp only
      rw [if_neg (nI_pos (by omega)), p1, Option.bind_some]
      rfl) (by
    rintro N ⟨t1, t2, t3, t4⟩
    have h0 := t1 0 0 ⟨hp0, Or.inl ⟨rfl, rfl⟩⟩ (Or.inr ⟨rfl, by decide⟩)
    rw [show ls 0 0 = 10 from rfl] at h0
    have r0 : tr_rd 10240 N 48 0 = some (nI (tb w 0 10)) := by
      have := tr_rd_nI (n := 10240) (M := N) (a := 48) (k := 0) (by decide) (by decide)
      rw [show N.1 48 0 = nI (tb w 0 10) from h0] at this
      exact this
    unfold mX4_leastBroken_l12
    dsimp only
    rw [if_pos (by decide), r0]
    exact ⟨_, rfl, N, rfl, t3, t4⟩) (by
    rintro s l N K hst ⟨t1, t2, t3, t4⟩
    have hs := hst.1
    have hl := hst.l10 hn
    have hwN : CWd w 26 N := hw.congr fun b h1 h2 => by rw [t3 b (by omega) (by omega), f3 b (by omega)]
    have hlt := hst.lt
    have hL : Ln w.1 s ≤ 10 := by unfold Ln; split <;> omega
    have hb := brokenFrom_eq hok hwN hst t2 (fun l x hl hx => by rw [t3 53 (by decide) (by decide)]; exact f2 l x hl hx) (fun s' l' a b => t1 s' l' a (Or.inl b))
    unfold mX4_leastBroken_l23
    dsimp only
    rw [lastsOf_eq (by omega) hwN.1, if_pos ((nlt (by omega) (by omega)).mpr hlt), isState_eq (by omega) (by omega), if_pos hst.is, if_neg (show ¬ (1 : Int32) = 0 by decide), hb, Option.bind_some, stateOf_eq, tr_wr_nI (by omega) (by decide), Option.bind_some, nadd1]
    refine ⟨_, rfl, fun s' l' hst' hlt' => ?_, fun x hx => by rw [tr_st_ne (by decide)]; exact t2 x hx, fun c c1 c2 => by rw [tr_st_ne c1, t3 c c1 c2], t4⟩
    by_cases q : s' = s ∧ l' = l
    · rw [q.1, q.2, tr_st_s]
    · have h1 := hst'.l10 hn
      rw [tr_st_j (by omega)]
      exact t1 s' l' hst' (by omega)) (by
    rintro s l N K hs h0 hl hb ⟨t1, t2, t3, t4⟩
    have hwN : CWd w 26 N := hw.congr fun b h1 h2 => by rw [t3 b (by omega) (by omega), f3 b (by omega)]
    have hL : Ln w.1 s = w.1 := by unfold Ln; rw [if_neg h0]
    refine ⟨?_, fun s' l' hst' hlt' => ?_, t2, t3, t4⟩
    · unfold mX4_leastBroken_l23
      dsimp only
      rw [lastsOf_eq (by omega) hwN.1, hL, if_pos ((nlt (by omega) (by omega)).mpr hl), isState_eq (by omega) (by omega), if_neg (show ¬ (s = 0 ∨ s.testBit l = true) by rw [hb]; simp [h0]), if_pos rfl, nadd1]
    · refine t1 s' l' hst' ?_
      by_cases q : s' = s ∧ l' = l
      · exfalso
        rw [q.1, q.2] at hst'
        rcases hst'.2 with y | y
        · exact h0 y.1
        · rw [hb] at y
          cases y.2
      · omega) (by
    rintro s N K hs ⟨t1, t2, t3, t4⟩
    have hwN : CWd w 26 N := hw.congr fun b h1 h2 => by rw [t3 b (by omega) (by omega), f3 b (by omega)]
    have hL : Ln w.1 s ≤ 10 := by unfold Ln; split <;> omega
    unfold mX4_leastBroken_l23
    dsimp only
    rw [lastsOf_eq (by omega) hwN.1, if_neg (by rw [nlt (by omega) (by omega)]; omega)]
    rfl) (by
    rintro s N hs ⟨t1, t2, t3, t4⟩
    refine ⟨fun s' l' hst hlt => t1 s' l' hst ?_, t3, t4⟩
    have := hst.lt
    by_cases q : s' = s + 1
    · right
      rw [q] at this
      exact ⟨q, this⟩
    · left
      omega) ⟨fun s' l' hst hlt => by have := hst.1; omega, fun _ _ _ => rfl, rfl⟩
  rw [e1]
  exact ⟨N, rfl, fun c c1 c2 c3 => by rw [e3.1 c c1 c2, f3 c c3], e3.2.trans f4⟩
/-! ===== must: what an order breaks ===== -/
theorem sm_shift (F : Nat → Nat) : ∀ k, sm (k + 1) F = F 0 + sm k (fun j => F (j + 1))
  | 0 => by
    show 0 + F 0 = F 0 + 0
    omega
  | k + 1 => by
    show sm (k + 1) F + F (k + 1) = F 0 + (sm k (fun j => F (j + 1)) + F (k + 1))
    rw [sm_shift F k]
    omega
theorem tc_seg (w : Wd) (f : Nat → Nat) : ∀ k i, tc w (pre f i) (la f i) (seg f i k) = sm k (fun j => sV w (pre f (i + j)) (la f (i + j)) (f (i + j)))
  | 0, _ => rfl
  | k + 1, i => by
    rw [sm_shift]
    show sV w (pre f i) (la f i) (f i) + tc w (ins (pre f i) (f i)) (f i) (seg f (i + 1) k) = _
    have h1 : ins (pre f i) (f i) = pre f (i + 1) := rfl
    have h2 : f i = la f (i + 1) := by
      unfold la
      rw [if_neg (by omega), Nat.add_sub_cancel]
    have ih := tc_seg w f k (i + 1)
    rw [← h1, ← h2] at ih
    rw [ih, Nat.add_zero]
    congr 1
    refine sm_congr fun j _ => ?_
    rw [show i + 1 + j = i + (j + 1) by omega]
theorem vio_one {n : Nat} {f : Nat → Nat} (h : Ord n f) (hn : n ≤ 10) {r : Nat × Nat × Nat × Nat} (hr : ruleOk n r) {i j : Nat} (hi : i < n) (hj : j < n) (h1 : stC r (pre f i) (la f i) (f i) = false) (h2 : stC r (pre f j) (la f j) (f j) = false) : i = j := by
  obtain ⟨kd, x, y, z⟩ := r
  unfold ruleOk at hr
  unfold stC at h1 h2
  dsimp only at hr h1 h2
  have at1 : ∀ u, f i = u → f j = u → i = j := fun u a b => h.2 i j hi hj (a.trans b.symm)
  by_cases c1 : kd = 1
  · simp only [if_pos c1, Bool.not_eq_false', Bool.and_eq_true, decide_eq_true_eq] at h1 h2
    exact at1 y h1.1 h2.1
  by_cases c2 : kd = 2
  · simp only [if_neg c1, if_pos c2, Bool.not_eq_false', Bool.and_eq_true, decide_eq_true_eq] at h1 h2
    exact at1 y h1.1 h2.1
  by_cases c3 : kd = 3
  · simp only [if_neg c1, if_neg c2, if_pos c3, Bool.not_eq_false', Bool.and_eq_true, decide_eq_true_eq] at h1 h2
    exact at1 x h1.1 h2.1
  by_cases c4 : kd = 4
  · simp only [if_neg c1, if_neg c2, if_neg c3, if_pos c4, Bool.not_eq_false', Bool.and_eq_true, decide_eq_true_eq] at h1 h2
    exact at1 x h1.1 h2.1
  by_cases c5 : kd = 5
  · have hx : x < n := by omega
    have hy : y < n := by omega
    simp only [if_neg c1, if_neg c2, if_neg c3, if_neg c4, if_pos c5] at h1 h2
    have g : ∀ {i : Nat}, i < n → (!(decide (la f i = x) && decide (f i = y)) && !(decide (la f i = y) && decide (f i = x))) = false → (la f i = x ∧ f i = y) ∨ (la f i = y ∧ f i = x) := fun {i} _ q => by
      by_cases a1 : la f i = x ∧ f i = y
      · exact Or.inl a1
      · by_cases a2 : la f i = y ∧ f i = x
        · exact Or.inr a2
        · exfalso
          have b1 : (decide (la f i = x) && decide (f i = y)) = false := by
            rw [Bool.eq_false_iff]
            intro e
            rw [Bool.and_eq_true] at e
            exact a1 ⟨of_decide_eq_true e.1, of_decide_eq_true e.2⟩
          have b2 : (decide (la f i = y) && decide (f i = x)) = false := by
            rw [Bool.eq_false_iff]
            intro e
            rw [Bool.and_eq_true] at e
            exact a2 ⟨of_decide_eq_true e.1, of_decide_eq_true e.2⟩
          rw [b1, b2] at q
          cases q
    rcases g hi h1 with ⟨a1, a2⟩ | ⟨a1, a2⟩ <;> rcases g hj h2 with ⟨b1, b2⟩ | ⟨b1, b2⟩
    · exact at1 y a2 b2
    · have e1 := (la_iff h hn hx (Nat.le_of_lt hi)).mp a1
      have e2 := (sf_iff h hy hi).mp a2
      have e3 := (la_iff h hn hy (Nat.le_of_lt hj)).mp b1
      have e4 := (sf_iff h hx hj).mp b2
      omega
    · have e1 := (la_iff h hn hy (Nat.le_of_lt hi)).mp a1
      have e2 := (sf_iff h hx hi).mp a2
      have e3 := (la_iff h hn hx (Nat.le_of_lt hj)).mp b1
      have e4 := (sf_iff h hy hj).mp b2
      omega
    · exact at1 x a2 b2
  by_cases c6 : kd = 6
  · simp only [if_neg c1, if_neg c2, if_neg c3, if_neg c4, if_neg c5, if_pos c6, Bool.not_eq_false', Bool.and_eq_true, decide_eq_true_eq] at h1 h2
    exact at1 x h1.1 h2.1
  · simp only [if_neg c1, if_neg c2, if_neg c3, if_neg c4, if_neg c5, if_neg c6] at h1
    cases h1
/-- a rule is broken by one step, if at all -/
theorem vio_sm {n : Nat} {f : Nat → Nat} (h : Ord n f) (hn : n ≤ 10) {r : Nat × Nat × Nat × Nat} (hr : ruleOk n r) (c : Nat) : sm n (fun i => if (!stC r (pre f i) (la f i) (f i)) = true then c else 0) = if kept n r f = true then 0 else c := by
  by_cases k : kept n r f = true
  · rw [if_pos k]
    have := (kept_C h hn hr).mpr k
    rw [sm_congr (g := fun _ => 0) fun i hi => by rw [this i hi]; rfl]
    exact sm_0 n
  · rw [if_neg k]
    have : ∃ i, i < n ∧ stC r (pre f i) (la f i) (f i) = false := Classical.byContradiction fun e => k ((kept_C h hn hr).mp fun i hi => by
      cases q : stC r (pre f i) (la f i) (f i) with
      | true => rfl
      | false => exact absurd ⟨i, hi, q⟩ e)
    obtain ⟨i0, hi0, h0⟩ := this
    rw [sm_congr (g := fun i => if i = i0 then c else 0) fun i hi => ?_]
    · exact sm_one c hi0
    · by_cases e : i = i0
      · subst e
        simp [h0]
      · cases q : stC r (pre f i) (la f i) (f i) with
        | true => rw [if_neg e]; rfl
        | false => exact absurd (vio_one h hn hr hi hi0 q h0) e
/-- the rules that an order breaks -/
def bk (w : Wd) (f : Nat → Nat) (k : Nat) : Bool := !w.2.2.2.2 k && !kept w.1 (w.2.2.2.1 k) f
def br (w : Wd) (f : Nat → Nat) : Nat := mkb w.2.2.1 (bk w f)
theorem mkb_add (F : Nat → Bool) (n : Nat) : mkb (n + 1) F = mkb n F + if F n = true then 2 ^ n else 0 := by
  show mkb n F ||| (if F n = true then 2 ^ n else 0) = _
  by_cases c : F n = true
  · rw [if_pos c]
    have := Nat.two_pow_add_eq_or_of_lt (mkb_lt F n) 1
    rw [Nat.mul_one] at this
    rw [Nat.or_comm, ← this, Nat.add_comm]
  · rw [if_neg c, Nat.or_zero, Nat.add_zero]
theorem cK_sm (F : Nat → Bool) : ∀ n, sm n (fun k => if F k = true then cK k else 0) = 256 * sm n (fun k => if F k = true then 1 else 0) + mkb n F
  | 0 => rfl
  | n + 1 => by
    rw [mkb_add]
    show sm n _ + (if F n = true then cK n else 0) = 256 * (sm n _ + if F n = true then 1 else 0) + _
    rw [cK_sm F n]
    by_cases c : F n = true
    · simp only [if_pos c, cK]
      omega
    · simp only [if_neg c]
      omega
theorem cnt_mkb {F : Nat → Bool} {n : Nat} (hn : n ≤ 8) : cnt 8 (mkb n F) = sm n (fun k => if F k = true then 1 else 0) := by
  rw [cnt_sm, sm_zero (n := n) (fun i hi => ?_) hn]
  · refine sm_congr fun i hi => ?_
    rw [mkb_bit]
    simp [hi]
  · rw [mkb_bit]
    simp [show ¬ i < n by omega]
theorem tc_br {w : Wd} (hok : WOk w) {f : Nat → Nat} (hf : Ord w.1 f) : tc w 0 10 (seg f 0 w.1) = 256 * cnt 8 (br w f) + br w f := by
  have h8 := hok.2.2.2.2.1
  have h0 := tc_seg w f w.1 0
  have e0 : tc w 0 10 (seg f 0 w.1) = tc w (pre f 0) (la f 0) (seg f 0 w.1) := rfl
  rw [e0, h0]
  unfold sV
  rw [sm_swap]
  unfold br
  rw [cnt_mkb h8, ← cK_sm]
  refine sm_congr fun k hk => ?_
  unfold vio bk
  cases ho : w.2.2.2.2 k with
  | true =>
    simp only [Bool.not_true, Bool.false_and]
    exact sm_0 w.1
  | false =>
    simp only [Bool.not_false, Bool.true_and, Nat.zero_add]
    rw [vio_sm hf hok.1 (hok.2.2.2.2.2.1 k hk) (cK k)]
    cases kept w.1 (w.2.2.2.1 k) f <;> rfl
theorem br_lt {w : Wd} (hok : WOk w) (f : Nat → Nat) : br w f < 256 := Nat.lt_of_lt_of_le (mkb_lt _ _) (show 2 ^ w.2.2.1 ≤ 2 ^ 8 from Nat.pow_le_pow_right (by decide) hok.2.2.2.2.1)
theorem br_bit (w : Wd) (f : Nat → Nat) (k : Nat) : (br w f).testBit k = (decide (k < w.2.2.1) && bk w f k) := mkb_bit _ _ _
theorem Ord_id (n : Nat) : Ord n (fun i => i) := ⟨fun _ hi => hi, fun _ _ _ _ e => e⟩
/-- the order that breaks least -/
theorem tb_get {w : Wd} (hok : WOk w) : ∃ f, Ord w.1 f ∧ tb w 0 10 = 256 * cnt 8 (br w f) + br w f ∧ ∀ g, Ord w.1 g → 256 * cnt 8 (br w f) + br w f ≤ 256 * cnt 8 (br w g) + br w g := by
  have hTP : TP = 268435456 := rfl
  have e : tb w 0 10 = lm TP ((Pm w.1).map (tc w 0 10)) := by
    unfold tb
    rw [lft_0]
    rfl
  have hle : ∀ g, Ord w.1 g → tb w 0 10 ≤ 256 * cnt 8 (br w g) + br w g := fun g hg => by
    rw [e, ← tc_br hok hg]
    exact lm_min (List.mem_map.mpr ⟨_, seg_Pm hg, rfl⟩)
  have hlt : lm TP ((Pm w.1).map (tc w 0 10)) < TP := by
    have h1 := hle _ (Ord_id w.1)
    have h2 := br_lt hok (fun i => i)
    have h3 := cnt_le (br w (fun i => i)) 8
    rw [← e]
    omega
  obtain ⟨p, hp, he⟩ := List.mem_map.mp (lm_mem hlt)
  obtain ⟨h1, h2⟩ := mem_Pm.mp hp
  have hps : p = seg (fn p) 0 w.1 := by
    have := seg_fn p
    rw [h1] at this
    exact this.symm
  rw [hps, tc_br hok h2, ← e] at he
  exact ⟨fn p, h2, he.symm, fun g hg => by rw [he]; exact hle g hg⟩
/-- rules off besides -/
def wS (w : Wd) (S : Nat) : Wd := wdOff w (fun k => decide (k < w.2.2.1) && (w.2.2.2.2 k || S.testBit k))
theorem wS_ok {w : Wd} (hok : WOk w) (S : Nat) : WOk (wS w S) := wdOff_ok hok fun k hk => by simp [show ¬ k < w.2.2.1 by omega]
theorem wS_Al {w : Wd} {S : Nat} : Al (wS w S) none ≠ [] ↔ ∃ f, Ord w.1 f ∧ ∀ k, (br w f).testBit k = true → S.testBit k = true := by
  constructor
  · intro h
    obtain ⟨p, hp⟩ := List.exists_mem_of_ne_nil _ h
    obtain ⟨hp1, hp2⟩ := List.mem_filter.mp hp
    refine ⟨fn p, (mem_Pm.mp hp1).2, fun k hk => ?_⟩
    rw [br_bit, Bool.and_eq_true] at hk
    have hkn := of_decide_eq_true hk.1
    have hkb := hk.2
    unfold bk at hkb
    unfold okf at hp2
    rw [Bool.and_eq_true] at hp2
    have := al_iff.mp hp2.1 k hkn
    have h3 : ((decide (k < w.2.2.1) && (w.2.2.2.2 k || S.testBit k)) || kept w.1 (w.2.2.2.1 k) (fn p)) = true := this
    rw [hk.1] at h3
    cases h4 : w.2.2.2.2 k <;> cases h5 : kept w.1 (w.2.2.2.1 k) (fn p) <;> rw [h4, h5] at hkb h3
    · simpa using h3
    · cases hkb
    · cases hkb
    · cases hkb
  · rintro ⟨f, hf, hb⟩ e
    have hm : seg f 0 w.1 ∈ Al (wS w S) none := by
      refine List.mem_filter.mpr ⟨seg_Pm hf, ?_⟩
      have e2 := okf_seg (wS w S) none f
      have e3 : okf (wS w S) none (fn (seg f 0 w.1)) = okf (wS w S) none f := e2
      rw [e3]
      unfold okf
      rw [Bool.and_eq_true]
      refine ⟨al_iff.mpr fun k hk => ?_, rfl⟩
      have hk' : k < w.2.2.1 := hk
      show ((decide (k < w.2.2.1) && (w.2.2.2.2 k || S.testBit k)) || kept w.1 (w.2.2.2.1 k) f) = true
      have := hb k
      rw [br_bit, decide_eq_true hk'] at this
      rw [decide_eq_true hk']
      unfold bk at this
      cases h4 : w.2.2.2.2 k <;> cases h5 : kept w.1 (w.2.2.2.1 k) f <;> rw [h4, h5] at this
      · rw [this rfl]; rfl
      · simp
      · rfl
      · rfl
    rw [e] at hm
    cases hm
theorem cnt_subs {a b : Nat} : ∀ n, (∀ k, k < n → a.testBit k = true → b.testBit k = true) → cnt n a ≤ cnt n b ∧ (cnt n a = cnt n b → ∀ k, k < n → a.testBit k = b.testBit k)
  | 0, _ => ⟨by rw [cnt_sm, cnt_sm]; exact Nat.le_refl _, fun _ k hk => by omega⟩
  | n + 1, h => by
    obtain ⟨h1, h2⟩ := cnt_subs n fun k hk => h k (by omega)
    have hn := h n (by omega)
    rw [cnt_sm, cnt_sm] at h1 h2 ⊢
    have e : ∀ s : Nat, sm (n + 1) (fun i => if s.testBit i = true then 1 else 0) = sm n (fun i => if s.testBit i = true then 1 else 0) + if s.testBit n = true then 1 else 0 := fun s => rfl
    rw [e, e]
    cases ha : a.testBit n with
    | true =>
      rw [hn ha, if_pos rfl]
      refine ⟨by omega, fun q k hk => ?_⟩
      by_cases c : k = n
      · rw [c, ha, hn ha]
      · exact h2 (by omega) k (by omega)
    | false =>
      cases hb : b.testBit n with
      | true =>
        simp only [if_true, if_neg (show ¬ false = true by decide)]
        exact ⟨by omega, fun q => by omega⟩
      | false =>
        refine ⟨by simpa using h1, fun q k hk => ?_⟩
        by_cases c : k = n
        · rw [c, ha, hb]
        · exact h2 (by simpa using q) k (by omega)
/-- the first set, by number, then by bits, without which an order is allowed -/
theorem must_set {w : Wd} (hok : WOk w) : ∃ b, b < 2 ^ w.2.2.1 ∧ tb w 0 10 = 256 * cnt 8 b + b ∧ (∀ k, b.testBit k = true → w.2.2.2.2 k = false) ∧ Al (wS w b) none ≠ [] ∧ ∀ S, S < 256 → Al (wS w S) none ≠ [] → cnt 8 b ≤ cnt 8 S ∧ (cnt 8 b = cnt 8 S → b ≤ S) := by
  obtain ⟨f, hf, h1, h2⟩ := tb_get hok
  have hlt := br_lt hok f
  refine ⟨br w f, mkb_lt _ _, h1, fun k hk => ?_, wS_Al.mpr ⟨f, hf, fun _ h => h⟩, fun S hS hA => ?_⟩
  · rw [br_bit, Bool.and_eq_true] at hk
    have := hk.2
    unfold bk at this
    rw [Bool.and_eq_true] at this
    simpa using this.1
  · obtain ⟨g, hg, hb⟩ := wS_Al.mp hA
    have h3 := h2 g hg
    have hltg := br_lt hok g
    obtain ⟨c1, c2⟩ := cnt_subs (a := br w g) (b := S) 8 fun k _ => hb k
    refine ⟨by omega, fun q => ?_⟩
    have h4 : cnt 8 (br w g) = cnt 8 S := by omega
    have h5 := c2 h4
    have h6 : br w g = S := Nat.eq_of_testBit_eq fun i => by
      by_cases hi : i < 8
      · exact h5 i hi
      · have z1 := Nat.testBit_lt_two_pow (Nat.lt_of_lt_of_le (show br w g < 2 ^ 8 from hltg) (Nat.pow_le_pow_right (by decide) (show 8 ≤ i by omega)))
        have z2 := Nat.testBit_lt_two_pow (Nat.lt_of_lt_of_le (show S < 2 ^ 8 from hS) (Nat.pow_le_pow_right (by decide) (show 8 ≤ i by omega)))
        rw [z1, z2]
    rw [h6] at h3
    omega
/-! ===== must ===== -/
theorem layOff_eq {w : Wd} {g : Nat → Bool} {S : Nat} {N : tr_M} (hok : WOk w) (hm : MWd (wdOff w g) N) (hS : S < 2147483648) : ∃ P, mX7_layOff (nI S) N = some P ∧ MWd (wdOff w (fun k => decide (k < w.2.2.1) && S.testBit k)) P ∧ (∀ c, c ≠ 9 → P.1 c = N.1 c) ∧ P.2 = N.2 := by
  have h8 := hok.2.2.2.2.1
  have h12 : N.1 1 12 = nI w.2.2.1 := hm.2.1
  unfold mX7_layOff
  refine tr_loop_inv (step := mX7_layOff_l2 (nI S)) (s0 := (0, N)) (fun k t => ∃ P, t = (nI k, P) ∧ (∀ j, j < k → P.1 9 (5 * j + 4) = if S.testBit j = true then 1 else 0) ∧ (∀ j r, r < 4 → P.1 9 (5 * j + r) = N.1 9 (5 * j + r)) ∧ (∀ c, c ≠ 9 → P.1 c = N.1 c) ∧ P.2 = N.2) (fun P => MWd (wdOff w (fun k => decide (k < w.2.2.1) && S.testBit k)) P ∧ (∀ c, c ≠ 9 → P.1 c = N.1 c) ∧ P.2 = N.2) w.2.2.1 (by omega) ⟨N, rfl, fun j hj => by omega, fun _ _ _ => rfl, fun _ _ => rfl, rfl⟩ ?_ ?_
  · rintro k t hk ⟨P, rfl, t1, t2, t3, t4⟩
    left
    unfold mX7_layOff_l2
    dsimp only
    rw [t3 1 (by decide), h12, if_pos ((nlt (by omega) (by omega)).mpr hk), bit_nI hS (by omega), show (5 : Int32) = nI 5 from rfl, show (4 : Int32) = nI 4 from rfl, nmul, nadd, tr_wr_nI (by omega) (by decide), Option.bind_some, nadd1]
    refine ⟨_, rfl, _, rfl, fun j hj => ?_, fun j r hr => ?_, fun c hc => by rw [tr_st_ne hc, t3 c hc], t4⟩
    · by_cases e : j = k
      · rw [e, tr_st_s]
      · rw [tr_st_j (by omega)]
        exact t1 j (by omega)
    · rw [tr_st_j (by omega)]
      exact t2 j r hr
  · rintro t ⟨P, rfl, t1, t2, t3, t4⟩
    unfold mX7_layOff_l2
    dsimp only
    rw [t3 1 (by decide), h12, if_neg (by rw [nlt (by omega) (by omega)]; omega)]
    obtain ⟨g1, g2, g3, g4⟩ := hm
    refine ⟨P, rfl, ⟨?_, ?_, fun x y hx hy => ?_, fun j hj => ?_⟩, t3, t4⟩
    · rw [t3 1 (by decide)]; exact g1
    · rw [t3 1 (by decide)]; exact g2
    · rw [t3 8 (by decide)]; exact g3 x y hx hy
    · have hj' : j < w.2.2.1 := hj
      obtain ⟨q1, q2, q3, q4, -⟩ := g4 j hj
      refine ⟨?_, ?_, ?_, ?_, ?_⟩
      · have := t2 j 0 (by decide)
        rw [Nat.add_zero] at this
        rw [this]; exact q1
      · rw [t2 j 1 (by decide)]; exact q2
      · rw [t2 j 2 (by decide)]; exact q3
      · rw [t2 j 3 (by decide)]; exact q4
      · rw [t1 j hj']
        show _ = if (decide (j < w.2.2.1) && S.testBit j) = true then 1 else 0
        rw [decide_eq_true hj', Bool.true_and]
def was (w : Wd) : Nat := mkb w.2.2.1 w.2.2.2.2
theorem was_lt {w : Wd} (hok : WOk w) : was w < 256 := Nat.lt_of_lt_of_le (mkb_lt _ _) (show 2 ^ w.2.2.1 ≤ 2 ^ 8 from Nat.pow_le_pow_right (by decide) hok.2.2.2.2.1)
theorem was_bit (w : Wd) (k : Nat) : (was w).testBit k = (decide (k < w.2.2.1) && w.2.2.2.2 k) := mkb_bit _ _ _
theorem was_eq {w : Wd} {M : tr_M} (hok : WOk w) (hm : MWd w M) : tr_loop (mX7_must_l4 M) (0, 0) = some (nI (was w)) := by
  have h8 := hok.2.2.2.2.1
  refine tr_loop_seq' (fun k => (nI (mkb k w.2.2.2.2), nI k)) w.2.2.1 rfl (by omega) (fun k hk => ?_) ?_
  · unfold mX7_must_l4
    dsimp only
    rw [hm.2.1, if_pos ((nlt (by omega) (by omega)).mpr hk), show (4 : Int32) = nI 4 from rfl, ruleAt_eq (by omega) (by decide), (hm.2.2.2 k hk).2.2.2.2, Option.bind_some, nadd1]
    show _ = some (Sum.inl (nI (mkb k w.2.2.2.2 ||| if w.2.2.2.2 k = true then 2 ^ k else 0), nI (k + 1)))
    cases w.2.2.2.2 k with
    | true => rw [if_pos rfl, if_pos rfl, sh1 (by omega), or_nI]
    | false =>
      have e : (0 : Int32) <<< (nI k &&& 31) = nI 0 := by
        rcases (show k = 0 ∨ k = 1 ∨ k = 2 ∨ k = 3 ∨ k = 4 ∨ k = 5 ∨ k = 6 ∨ k = 7 by omega) with rfl | rfl | rfl | rfl | rfl | rfl | rfl | rfl <;> decide
      rw [if_neg (by decide), if_neg (by decide), e, or_nI]
  · unfold mX7_must_l4
    dsimp only
    rw [hm.2.1, if_neg (by rw [nlt (by omega) (by omega)]; omega)]
    rfl
theorem cnt_108 {s : Nat} (h : s < 256) : cnt 10 s = cnt 8 s := by
  rw [cnt_sm, cnt_sm]
  exact sm_zero (fun i hi => by
    have := Nat.testBit_lt_two_pow (Nat.lt_of_lt_of_le (show s < 2 ^ 8 from h) (Nat.pow_le_pow_right (by decide) hi))
    rw [this]; rfl) (by decide)
/-- what the model's search changes -/
def MQm (w : Wd) (M N : tr_M) : Prop := (∃ g, MWd (wdOff w g) N) ∧ (∀ c, c ≠ 9 → c ≠ 24 → N.1 c = M.1 c) ∧ N.2 = M.2
theorem must_step {w : Wd} {S many : Nat} {M N K : tr_M} {v : Int32} (hok : WOk w) (hm : MWd w M) (hp : PinX none M) (hN : MQm w M N) (hS : S < 2 ^ w.2.2.1) (hmany : many < 1000) : ∃ P, mX7_must_l43 (nI (was w)) (v, nI many, K) (-9, nI S, N) = some (.inl ((if S &&& was w = 0 ∧ cnt 8 S = many ∧ Al (wS w S) none ≠ [] then nI S else -9), nI (S + 1), P)) ∧ MQm w M P := by
  obtain ⟨⟨g, hg⟩, hfr, h2⟩ := hN
  have h8 := hok.2.2.2.2.1
  have hpw : 2 ^ w.2.2.1 ≤ 256 := show 2 ^ w.2.2.1 ≤ 2 ^ 8 from Nat.pow_le_pow_right (by decide) h8
  have hwas := was_lt hok
  have hand : S &&& was w ≤ S := Nat.and_le_left
  have h12 : N.1 1 12 = nI w.2.2.1 := hg.2.1
  have hc8 := cnt_le S 8
  unfold mX7_must_l43
  dsimp only
  rw [h12, sh1 (by omega), if_pos ((nlt (by omega) (by omega)).mpr hS), if_pos rfl, and_nI, nadd1]
  by_cases a : S &&& was w = 0
  · rw [if_pos (by rw [a]; rfl), bits_eq (by omega), Option.bind_some, cnt_108 (by omega)]
    by_cases b : cnt 8 S = many
    · rw [if_pos (by rw [b]), or_nI]
      have hor : was w ||| S < 2 ^ 8 := Nat.or_lt_two_pow hwas (by omega)
      obtain ⟨P, p1, p2, p3, p4⟩ := layOff_eq (S := was w ||| S) hok hg (by omega)
      rw [p1, Option.bind_some]
      have ew : wdOff w (fun k => decide (k < w.2.2.1) && (was w ||| S).testBit k) = wS w S := by
        unfold wS
        congr 1
        funext k
        rw [Nat.testBit_or, was_bit]
        cases decide (k < w.2.2.1) <;> simp
      rw [ew] at p2
      have hpP : PinX none P := by
        show P.1 1 27 = -9
        rw [p3 1 (by decide), hfr 1 (by decide) (by decide)]
        exact hp
      obtain ⟨Q, q1, q2, q3⟩ := anyAllowed_eq (wS_ok hok S) p2 hpP
      rw [q1, Option.bind_some]
      dsimp only
      have hQ : MQm w M Q := ⟨⟨_, MWd.congr p2 (by rw [q2 1 (by decide)]) (by rw [q2 1 (by decide)]) (q2 8 (by decide)) (q2 9 (by decide))⟩, fun c c1 c2 => by rw [q2 c c2, p3 c c1, hfr c c1 c2], (q3.trans p4).trans h2⟩
      by_cases d : Al (wS w S) none = []
      · rw [if_pos d, if_pos rfl, if_neg (fun e => e.2.2 d)]
        exact ⟨Q, rfl, hQ⟩
      · rw [if_neg d, if_neg (show ¬ (1 : Int32) = 0 by decide), if_pos ⟨a, b, d⟩]
        exact ⟨Q, rfl, hQ⟩
    · rw [if_neg (by rw [neq (by omega) (by omega)]; exact b), if_neg (fun e => b e.2.1)]
      exact ⟨N, rfl, ⟨g, hg⟩, hfr, h2⟩
  · rw [if_neg (by rw [neq0 (by omega)]; exact a), if_neg (fun e => a e.1)]
    exact ⟨N, rfl, ⟨g, hg⟩, hfr, h2⟩
theorem must_no {w : Wd} {many : Nat} {M N K : tr_M} {v : Int32} (hok : WOk w) (hm : MWd w M) (hp : PinX none M) (hN : MQm w M N) (hmany : many < 1000) (hno : ∀ S, S < 2 ^ w.2.2.1 → cnt 8 S = many → Al (wS w S) none = []) : ∃ r, tr_loop (mX7_must_l43 (nI (was w)) (v, nI many, K)) (-9, 0, N) = some r ∧ ∃ P, r = .inl (-9, nI (many + 1), P) ∧ MQm w M P := by
  have h8 := hok.2.2.2.2.1
  have hpw : 2 ^ w.2.2.1 ≤ 256 := show 2 ^ w.2.2.1 ≤ 2 ^ 8 from Nat.pow_le_pow_right (by decide) h8
  refine tr_loop_inv (step := mX7_must_l43 (nI (was w)) (v, nI many, K)) (s0 := (-9, 0, N)) (fun S t => ∃ N, t = (-9, nI S, N) ∧ MQm w M N) (fun r => ∃ P, r = .inl (-9, nI (many + 1), P) ∧ MQm w M P) (2 ^ w.2.2.1) (by omega) ⟨N, rfl, hN⟩ ?_ ?_
  · rintro S t hS ⟨N, rfl, t1⟩
    left
    obtain ⟨P, p1, p2⟩ := must_step (K := K) (v := v) hok hm hp t1 hS hmany
    rw [if_neg (fun e => e.2.2 (hno S hS e.2.1))] at p1
    exact ⟨_, p1, P, rfl, p2⟩
  · rintro t ⟨N, rfl, t1⟩
    have h12 : N.1 1 12 = nI w.2.2.1 := t1.1.choose_spec.2.1
    unfold mX7_must_l43
    dsimp only
    rw [h12, sh1 (by omega), if_neg (by rw [nlt (by omega) (by omega)]; omega), nadd1]
    exact ⟨_, rfl, N, rfl, t1⟩
theorem must_yes {w : Wd} {many b : Nat} {M N K : tr_M} {v : Int32} (hok : WOk w) (hm : MWd w M) (hp : PinX none M) (hN : MQm w M N) (hmany : many < 1000) (hb : b < 2 ^ w.2.2.1) (hb1 : b &&& was w = 0) (hb2 : cnt 8 b = many) (hb3 : Al (wS w b) none ≠ []) (hno : ∀ S, S < b → cnt 8 S = many → Al (wS w S) none = []) : ∃ r, tr_loop (mX7_must_l43 (nI (was w)) (v, nI many, K)) (-9, 0, N) = some r ∧ ∃ P, r = .inl (nI b, nI (many + 1), P) ∧ MQm w M P := by
  have h8 := hok.2.2.2.2.1
  have hpw : 2 ^ w.2.2.1 ≤ 256 := show 2 ^ w.2.2.1 ≤ 2 ^ 8 from Nat.pow_le_pow_right (by decide) h8
  refine tr_loop_inv (step := mX7_must_l43 (nI (was w)) (v, nI many, K)) (s0 := (-9, 0, N)) (fun S t => ∃ N, MQm w M N ∧ ((S ≤ b ∧ t = (-9, nI S, N)) ∨ (S = b + 1 ∧ t = (nI b, nI (b + 1), N)))) (fun r => ∃ P, r = .inl (nI b, nI (many + 1), P) ∧ MQm w M P) (b + 1) (by omega) ⟨N, hN, Or.inl ⟨Nat.zero_le _, rfl⟩⟩ ?_ ?_
  · rintro S t hS ⟨N, t1, ⟨t2, rfl⟩ | ⟨t2, -⟩⟩
    · left
      obtain ⟨P, p1, p2⟩ := must_step (K := K) (v := v) hok hm hp t1 (show S < 2 ^ w.2.2.1 by omega) hmany
      by_cases e : S = b
      · subst e
        rw [if_pos ⟨hb1, hb2, hb3⟩] at p1
        exact ⟨_, p1, P, p2, Or.inr ⟨rfl, rfl⟩⟩
      · rw [if_neg (fun q => q.2.2 (hno S (by omega) q.2.1))] at p1
        exact ⟨_, p1, P, p2, Or.inl ⟨by omega, rfl⟩⟩
    · omega
  · rintro t ⟨N, t1, ⟨t2, -⟩ | ⟨-, rfl⟩⟩
    · omega
    · unfold mX7_must_l43
      dsimp only
      rw [if_neg (n9_no (show b < 2147483648 by omega)), nadd1]
      split
      · exact ⟨_, rfl, N, rfl, t1⟩
      · exact ⟨_, rfl, N, rfl, t1⟩
theorem m_must {w : Wd} {M : tr_M} {b : Nat} (hok : WOk w) (hm : MWd w M) (hp : PinX none M) (hb : b < 2 ^ w.2.2.1) (hb1 : ∀ k, b.testBit k = true → w.2.2.2.2 k = false) (hb3 : Al (wS w b) none ≠ []) (hmin : ∀ S, S < 256 → Al (wS w S) none ≠ [] → cnt 8 b ≤ cnt 8 S ∧ (cnt 8 b = cnt 8 S → b ≤ S)) : ∃ P, mX7_must M = some (nI (cnt 8 b), tr_st P 1 2 (nI b)) ∧ MWd w P ∧ (∀ c, c ≠ 9 → c ≠ 24 → P.1 c = M.1 c) ∧ P.2 = M.2 := by
  have h8 := hok.2.2.2.2.1
  have hpw : 2 ^ w.2.2.1 ≤ 256 := show 2 ^ w.2.2.1 ≤ 2 ^ 8 from Nat.pow_le_pow_right (by decide) h8
  have hwas := was_lt hok
  have hc8 := cnt_le b 8
  have hand : b &&& was w = 0 := Nat.eq_of_testBit_eq fun i => by
    rw [Nat.testBit_and, was_bit, Nat.zero_testBit]
    cases h : b.testBit i with
    | false => rfl
    | true => rw [hb1 i h]; simp
  unfold mX7_must
  have e1 : (show Option Int32 from tr_loop (mX7_must_l4 M) ((0 : Int32), (0 : Int32))) = some (nI (was w)) := was_eq hok hm
  rw [e1, Option.bind_some]
  have hM0 : MQm w M M := ⟨⟨w.2.2.2.2, hm⟩, fun _ _ _ => rfl, rfl⟩
  obtain ⟨r, r1, P, rfl, r3⟩ := tr_loop_inv (step := mX7_must_l34 (nI (was w))) (s0 := (-9, 0, M)) (fun i t => ∃ N, MQm w M N ∧ ((i ≤ cnt 8 b ∧ t = (-9, nI i, N)) ∨ (i = cnt 8 b + 1 ∧ t = (nI b, nI (cnt 8 b + 1), N)))) (fun r => ∃ P, r = (nI b, P) ∧ MQm w M P) (cnt 8 b + 1) (by omega) ⟨M, hM0, Or.inl ⟨Nat.zero_le _, rfl⟩⟩ (by
    rintro i t hi ⟨N, t1, ⟨t2, rfl⟩ | ⟨t2, -⟩⟩
    · left
      have hstep : mX7_must_l34 (nI (was w)) (-9, nI i, N) = tr_loop (mX7_must_l43 (nI (was w)) (-9, nI i, N)) (-9, 0, N) := by
        conv => lhs; unfold mX7_must_l34
        dsimp only
        rw [if_pos rfl]
      rw [hstep]
      by_cases e : i = cnt 8 b
      · obtain ⟨r, r1, P, rfl, r3⟩ := must_yes (K := N) (v := -9) hok hm hp t1 (show i < 1000 by omega) hb hand e.symm hb3 (fun S hS hc => Classical.byContradiction fun q => by
          have := (hmin S (by omega) q).2 (by omega)
          omega)
        rw [r1]
        exact ⟨_, rfl, P, r3, Or.inr ⟨by omega, by rw [e]⟩⟩
      · obtain ⟨r, r1, P, rfl, r3⟩ := must_no (K := N) (v := -9) hok hm hp t1 (show i < 1000 by omega) (fun S hS hc => Classical.byContradiction fun q => by
          have := (hmin S (by omega) q).1
          omega)
        rw [r1]
        exact ⟨_, rfl, P, r3, Or.inl ⟨by omega, rfl⟩⟩
    · omega) (by
    rintro t ⟨N, t1, ⟨t2, -⟩ | ⟨-, rfl⟩⟩
    · omega
    · unfold mX7_must_l34
      dsimp only
      rw [if_neg (n9_no (show b < 2147483648 by omega))]
      exact ⟨_, rfl, N, rfl, t1⟩)
  have r1' : (show Option (Int32 × tr_M) from tr_loop (mX7_must_l34 (nI (was w))) ((-9 : Int32), (0 : Int32), M)) = some (nI b, P) := r1
  rw [r1', Option.bind_some]
  dsimp only
  obtain ⟨⟨g, hg⟩, hfr, h2⟩ := r3
  obtain ⟨Q, q1, q2, q3, q4⟩ := layOff_eq (S := was w) hok hg (by omega)
  have ew : wdOff w (fun k => decide (k < w.2.2.1) && (was w).testBit k) = w := by
    have : (fun k => decide (k < w.2.2.1) && (was w).testBit k) = w.2.2.2.2 := funext fun k => by
      rw [was_bit]
      by_cases c : k < w.2.2.1
      · simp [c]
      · simp [c, hok.2.2.2.2.2.2 k (by omega)]
    rw [this]
    rfl
  rw [ew] at q2
  rw [q1, Option.bind_some, bits_eq (by omega), Option.bind_some, tells_eq, Option.bind_some, cnt_108 (by omega)]
  exact ⟨Q, rfl, q2, fun c c1 c2 => by rw [q3 c c1, hfr c c1 c2], q4.trans h2⟩
theorem r_must {w : Wd} {M1 M2 : tr_M} (h : InvE w M1 M2) : ResE w (mX6_must M1) (mX7_must M2) := by
  obtain ⟨h1, ⟨hok, hw, hmw⟩, h3, h4, h5⟩ := h
  have h8 := hok.2.2.2.2.1
  have hpw : 2 ^ w.2.2.1 ≤ 256 := show 2 ^ w.2.2.1 ≤ 2 ^ 8 from Nat.pow_le_pow_right (by decide) h8
  obtain ⟨b, hb, htb, hb1, hb3, hmin⟩ := must_set hok
  have hc8 := cnt_le b 8
  obtain ⟨P, p1, p2, p3, p4⟩ := m_must hok hmw h5 hb hb1 hb3 hmin
  obtain ⟨N, n1, n2, n3⟩ := leastBroken_eq hok hw
  unfold mX6_must
  rw [n1, Option.bind_some, forget_eq, Option.bind_some, Option.bind_some, p1, htb]
  dsimp only
  have e1 : nI (256 * cnt 8 b + b) &&& 255 = nI b := by
    rw [show (255 : Int32) = nI 255 from rfl, and_nI]
    have := Nat.and_two_pow_sub_one_eq_mod (256 * cnt 8 b + b) 8
    rw [show 2 ^ 8 - 1 = 255 from rfl] at this
    rw [this]
    congr 1
    omega
  have e2 : nI (256 * cnt 8 b + b) >>> ((8 : Int32) &&& 31) = nI (cnt 8 b) := by
    rw [show (8 : Int32) = nI 8 from rfl, shr_nI (by omega) (by decide)]
    congr 1
    omega
  rw [e1, e2]
  have kN : KL M1 N := ⟨fun c _ hc => n2 c (by omega) (by omega) (by omega), fun k _ _ => by rw [n2 1 (by decide) (by decide) (by decide)], fun k _ => by rw [n2 25 (by decide) (by decide) (by decide)], n3⟩
  have kF : KL M1 (tr_st (tr_st N 1 15 (-9)) 1 16 (nI 0)) := (kN.tr (KL.st (Or.inl rfl))).tr (KL.st (Or.inr rfl))
  have kY : KY M2 P := ⟨fun c _ _ _ => p3 c (by omega) (by omega), fun k _ => by rw [p3 1 (by decide) (by decide)], p4⟩
  have hI : InvE w (tr_st (tr_st N 1 15 (-9)) 1 16 (nI 0)) P := ⟨h1.kt kF.kt kY, ⟨hok, hw.kl kF, p2⟩, Or.inl (by rw [tr_st_j (by decide), tr_st_s]), h4.kl kF, by
    show P.1 1 27 = -9
    rw [p3 1 (by decide) (by decide)]
    exact h5⟩
  exact ⟨_, _, _, rfl, rfl, hI.ask (m := 0) _⟩
def pure_inv (M1 M2 : tr_M) : Prop := ∃ w, InvE w M1 M2
theorem pi_e {ρ : Type} {w : Wd} {a b : Option (ρ × tr_M)} (h : ResE w a b) : ∃ (r : ρ) (N1 N2 : tr_M), a = some (r, N1) ∧ b = some (r, N2) ∧ pure_inv N1 N2 := by
  obtain ⟨r, N1, N2, e1, e2, e3⟩ := h
  exact ⟨r, N1, N2, e1, e2, w, e3⟩
theorem pi_2 {ρ : Type} {w : Wd} {M1 M2 : tr_M} {a b : Option (ρ × tr_M)} (hI : InvE w M1 M2) (h : Res2 a b M1 M2) : ∃ (r : ρ) (N1 N2 : tr_M), a = some (r, N1) ∧ b = some (r, N2) ∧ pure_inv N1 N2 := pi_e (hI.res2 h)
theorem pi_1 {ρ : Type} {w : Wd} {M1 M2 : tr_M} {a b : Option (ρ × tr_M)} (hI : InvE w M1 M2) (h : Res a b M1 M2) : ∃ (r : ρ) (N1 N2 : tr_M), a = some (r, N1) ∧ b = some (r, N2) ∧ pure_inv N1 N2 := pi_2 hI h.to2
theorem pi_w {ρ : Type} {w : Wd} {M1 M2 : tr_M} {a b : Option (ρ × tr_M)} (hI : InvE w M1 M2) (h : ResW a b M1 M2) : ∃ (r : ρ) (N1 N2 : tr_M), a = some (r, N1) ∧ b = some (r, N2) ∧ pure_inv N1 N2 := by
  obtain ⟨r, N1, N2, e1, e2, e3, ⟨w', e4⟩, e5, e6, e7⟩ := h
  refine ⟨r, N1, N2, e1, e2, w', e3, e4, Or.inl e5, ?_, ?_⟩
  · show N1.1 25 13 = -9
    rw [e6]
    exact hI.2.2.2.1
  · show N2.1 1 27 = -9
    rw [e7]
    exact hI.2.2.2.2
theorem InvE.dm {w : Wd} {M1 M2 : tr_M} (h : InvE w M1 M2) (v : Int64) : InvE w M1 (DM M2 v) := by
  obtain ⟨h1, ⟨hok, hw, hm⟩, h3, h4, h5⟩ := h
  exact ⟨h1.congr (fun _ _ _ _ _ _ => rfl) (fun _ _ => rfl) rfl (fun _ _ _ _ => rfl) (fun _ _ => rfl) (fun k hk => by show (tr_sl M2 1 37 v).2 1 k = M2.2 1 k; rw [tr_sl_2, if_neg (by omega)]), ⟨hok, hw, hm.congr rfl rfl rfl rfl⟩, h3, h4, h5⟩
theorem s_row : sm_row pure_inv := fun M1 M2 p1 p2 ⟨w, h⟩ => pi_1 h (r_row h.1 p1 p2)
theorem s_lay : sm_lay pure_inv := fun M1 M2 p1 p2 p3 ⟨w, h⟩ => pi_1 h (r_lay h.1 p1 p2 p3)
theorem s_at : sm_at pure_inv := fun M1 M2 p1 p2 ⟨w, h⟩ => pi_1 h (r_at h.1 p1 p2)
theorem s_tear : sm_tear pure_inv := fun M1 M2 p1 ⟨w, h⟩ => pi_1 h (r_tear h.1 p1)
theorem s_copy : sm_copy pure_inv := fun M1 M2 p1 p2 p3 p4 p5 ⟨w, h⟩ => pi_1 h (r_copy h.1 p1 p2 p3 p4 p5)
theorem s_mean : sm_mean pure_inv := fun M1 M2 p1 ⟨w, h⟩ => pi_1 h (r_mean h.1 p1)
theorem s_text : sm_text pure_inv := fun M1 M2 p1 p2 ⟨w, h⟩ => pi_1 h (r_text h.1 p1 p2)
theorem s_put : sm_put pure_inv := fun M1 M2 p1 p2 p3 ⟨w, h⟩ => pi_1 h (r_put h.1 p1 p2 p3)
theorem s_fault : sm_fault pure_inv := fun M1 M2 p1 ⟨w, h⟩ => pi_2 h (r_fault h.1 h.2.1 p1)
theorem s_world : sm_world pure_inv := fun M1 M2 p1 ⟨w, h⟩ => (r_world h.1 h.2.1 p1).elim (pi_2 h) (pi_w h)
theorem s_tie : sm_tie pure_inv := fun M1 M2 p1 p2 p3 ⟨w, h⟩ => (r_tie h.1 h.2.1 p1 p2 p3).elim (pi_1 h) (pi_w h)
theorem s_rule : sm_rule pure_inv := fun M1 M2 p1 p2 p3 p4 ⟨w, h⟩ => (r_rule h.1 h.2.1 p1 p2 p3 p4).elim (pi_1 h) (pi_w h)
theorem s_off : sm_off pure_inv := fun M1 M2 p1 p2 ⟨w, h⟩ => (r_off h.1 h.2.1 p1 p2).elim (pi_1 h) (pi_w h)
theorem s_back : sm_back pure_inv := fun M1 M2 p1 ⟨w, h⟩ => (r_back h.1 h.2.1 p1).elim (pi_1 h) (pi_w h)
theorem s_told : sm_told pure_inv := fun M1 M2 p1 p2 ⟨w, h⟩ => pi_1 h (r_told h.1 h.2.1 p1 p2)
theorem s_mark : sm_mark pure_inv := fun M1 M2 p1 p2 ⟨w, h⟩ => pi_1 h (r_mark h.1 h.2.1 p1 p2)
theorem s_measure : sm_measure pure_inv := fun M1 M2 p1 p2 ⟨w, h⟩ => pi_2 h (r_measure h.1 h.2.1 p1 p2)
theorem s_breaks : sm_breaks pure_inv := fun M1 M2 p1 ⟨w, h⟩ => pi_2 h (r_breaks h.1 h.2.1 p1)
theorem s_gap : sm_gap pure_inv := fun M1 M2 p1 p2 ⟨w, h⟩ => pi_2 h (r_gap h.1 h.2.1 p1 p2)
theorem s_least : sm_least pure_inv := fun M1 M2 p1 ⟨w, h⟩ => pi_e (r_least h p1)
theorem s_first : sm_first pure_inv := fun M1 M2 p1 p2 ⟨w, h⟩ => pi_e (r_first h p1 p2)
theorem s_ways : sm_ways pure_inv := fun M1 M2 p1 ⟨w, h⟩ => pi_e (r_ways h p1)
theorem s_rank : sm_rank pure_inv := fun M1 M2 p1 p2 ⟨w, h⟩ => pi_e (r_rank h p1 p2)
theorem s_order : sm_order pure_inv := fun M1 M2 p1 p2 p3 ⟨w, h⟩ => pi_e (r_order h p1 p2 p3)
theorem s_all : sm_all pure_inv := fun M1 M2 ⟨w, h⟩ => pi_e (r_all h)
theorem s_bound : sm_bound pure_inv := fun M1 M2 p1 ⟨w, h⟩ => pi_2 h (r_bound h.1 h.2.1 p1)
theorem s_costs : sm_costs pure_inv := fun M1 M2 p1 p2 p3 ⟨w, h⟩ => pi_e (r_costs h p1 p2 p3)
theorem s_bars : sm_bars pure_inv := fun M1 M2 p1 p2 ⟨w, h⟩ => pi_e (r_bars h p1 p2)
theorem s_where : sm_where pure_inv := fun M1 M2 p1 p2 p3 ⟨w, h⟩ => pi_e (r_where h p1 p2 p3)
theorem s_places : sm_places pure_inv := fun M1 M2 p1 p2 ⟨w, h⟩ => pi_e (r_places h p1 p2)
theorem s_middle : sm_middle pure_inv := fun M1 M2 p1 p2 ⟨w, h⟩ => pi_e (r_middle h p1 p2)
theorem s_leads : sm_leads pure_inv := fun M1 M2 p1 p2 p3 ⟨w, h⟩ => pi_e (r_leads h p1 p2 p3)
theorem s_both : sm_both pure_inv := fun M1 M2 p1 p2 ⟨w, h⟩ => pi_e (r_both h p1 p2)
theorem s_must : sm_must pure_inv := fun M1 M2 ⟨w, h⟩ => pi_e (r_must h)
theorem s_swaps : sm_swaps pure_inv := fun M1 M2 p1 p2 ⟨w, h⟩ => pi_2 h (r_swaps h.1 h.2.1 p1 p2)
theorem s_moves : sm_moves pure_inv := fun M1 M2 p1 p2 ⟨w, h⟩ => pi_2 h (r_moves h.1 h.2.1 p1 p2)
theorem s_apart : sm_apart pure_inv := fun M1 M2 p1 p2 ⟨w, h⟩ => pi_2 h (r_apart h.1 h.2.1 p1 p2)
theorem s_draw : sm_draw pure_inv := fun M1 M2 p1 p2 ⟨w, h⟩ => pi_2 h (r_draw h.1 h.2.1 p1 p2)
theorem s_lots : sm_lots pure_inv := fun M1 M2 p1 p2 p3 ⟨w, h⟩ => pi_2 h (r_lots h.1 h.2.1 p1 p2 p3)
theorem s_average : sm_average pure_inv := fun M1 M2 ⟨w, h⟩ => pi_2 h (r_average h.1 h.2.1)
theorem s_image : sm_image pure_inv := fun M1 M2 p1 ⟨w, h⟩ => pi_2 h (r_image h.1 h.2.1 p1)
theorem s_on : sm_on pure_inv := fun M1 M2 p1 ⟨w, h⟩ => (r_on h.1 h.2.1 p1).elim (pi_1 h) (pi_w h)
theorem s_asked : sm_asked pure_inv := fun M1 M2 ⟨w, h⟩ => ⟨mX6_asked M1, M1, M2, rfl, congrArg some (congrArg (fun v => (v, M2)) (r_asked h.1).symm), w, h⟩
theorem s_upper : sm_upper pure_inv := fun M1 M2 ⟨w, h⟩ => ⟨mX6_upper M1, M1, M2, rfl, congrArg some (congrArg (fun v => (v, M2)) (r_upper h.1).symm), w, h⟩
theorem s_lower : sm_lower pure_inv := fun M1 M2 ⟨w, h⟩ => ⟨mX6_lower M1, M1, M2, rfl, congrArg some (congrArg (fun v => (v, M2)) (r_lower h.1).symm), w, h⟩
theorem s_count : sm_count pure_inv := fun M1 M2 p1 ⟨w, h⟩ => by
  obtain ⟨v, e1, e2⟩ := r_count h.1 h.2.1 p1
  refine ⟨v, M1, M2, ?_, ?_, w, h⟩
  · unfold wX6_count
    rw [e1]
    rfl
  · unfold wX7_count
    rw [e2]
    rfl
theorem s_finding : sm_finding pure_inv := fun M1 M2 ⟨w, h⟩ => ⟨mX6_finding M1, M1, M2, rfl, congrArg some (congrArg (fun v => (v, M2)) (r_finding h.1).symm), w, h⟩
theorem s_findings : sm_findings pure_inv := fun M1 M2 p1 ⟨w, h⟩ => by
  obtain ⟨v, e1, e2⟩ := r_findings h.1 p1
  refine ⟨v, M1, M2, ?_, ?_, w, h⟩
  · unfold wX6_findings
    rw [e1]
    rfl
  · unfold wX7_findings
    rw [e2]
    rfl
theorem s_digest : sm_digest pure_inv := fun M1 M2 ⟨w, h⟩ => by
  obtain ⟨v, e1, e2⟩ := r_digest h.1 h.2.1
  refine ⟨v, M1, DM M2 v, ?_, e2, w, h.dm v⟩
  unfold wX6_digest
  rw [e1]
  rfl
theorem pure_same : tr_same pure_inv := ⟨s_row, s_lay, s_at, s_tear, s_copy, s_mean, s_text, s_put, s_fault, s_world, s_tie, s_rule, s_off, s_back, s_told, s_mark, s_measure, s_breaks, s_gap, s_least, s_first, s_ways, s_rank, s_order, s_all, s_bound, s_costs, s_bars, s_where, s_places, s_middle, s_leads, s_both, s_must, s_swaps, s_moves, s_apart, s_draw, s_lots, s_average, s_image, s_on, s_asked, s_upper, s_lower, s_count, s_finding, s_findings, s_digest⟩
def w0 : Wd := (0, fun _ _ => 0, 0, fun _ => (0, 0, 0, 0), fun _ => false)
theorem w0_rows : ∀ r : Fin 6, tr_C0.1 (62 + 2 * r.1) 1 = -1 ∧ tr_M0.1 3 r.1 = -1 := by decide +kernel
theorem w0_texts : ∀ t : Fin 4, tr_C0.1 (74 + 2 * t.1) 1 = -1 ∧ tr_M0.1 6 t.1 = -1 := by decide +kernel
theorem w0_found : tr_C0.1 1 11 = tr_M0.1 1 0 ∧ (∀ f : Fin 6, tr_C0.1 57 f.1 = tr_M0.1 2 f.1) ∧ tr_C0.1 1 12 = tr_M0.1 1 2 ∧ tr_C0.2 1 13 = tr_M0.2 1 3 ∧ tr_C0.2 1 14 = tr_M0.2 1 4 := by decide +kernel
theorem w0_cls : tr_C0.1 26 0 = nI 0 ∧ tr_C0.1 26 1 = nI 0 ∧ tr_C0.1 26 2 = nI 0 ∧ (∀ a b : Fin 10, tr_C0.1 (26 + 2 + a.1) b.1 = nI 0) ∧ (∀ a : Fin 10, tr_C0.1 (26 + 12) a.1 = nI 0) ∧ (∀ a : Fin 10, tr_C0.1 (26 + 13) a.1 = nI 0) ∧ tr_C0.1 1 15 = -9 ∧ tr_C0.1 25 13 = -9 := by decide +kernel
theorem w0_mod : tr_M0.1 1 10 = nI 0 ∧ tr_M0.1 1 12 = nI 0 ∧ (∀ a b : Fin 10, tr_M0.1 8 (10 * a.1 + b.1) = nI 0) ∧ tr_M0.1 1 27 = -9 := by decide +kernel
theorem pure_start : pure_inv tr_C0 tr_M0 := by
  obtain ⟨f1, f2, f3, f4, f5⟩ := w0_found
  obtain ⟨c1, c2, c3, c4, c5, c6, c7, c8⟩ := w0_cls
  obtain ⟨m1, m2, m3, m4⟩ := w0_mod
  refine ⟨w0, ⟨fun r hr => Or.inl (w0_rows ⟨r, hr⟩), fun t ht => Or.inl (w0_texts ⟨t, ht⟩), f1, fun f hf => f2 ⟨f, hf⟩, f3, f4, f5⟩, ⟨⟨by decide, fun _ _ => by decide, fun _ _ => rfl, fun _ _ _ => rfl, by decide, fun k hk => by cases hk, fun _ _ => rfl⟩, ⟨c1, c2, ?_, fun a b ha hb => c4 ⟨a, ha⟩ ⟨b, hb⟩, fun a ha => ?_, fun a ha => ?_, fun k hk => by cases hk⟩, ⟨m1, m2, fun a b ha hb => m3 ⟨a, ha⟩ ⟨b, hb⟩, fun k hk => by cases hk⟩⟩, Or.inl c7, c8, m4⟩
  · exact c3
  · exact c5 ⟨a, ha⟩
  · exact c6 ⟨a, ha⟩
