/-- a rule off, or not -/
def woff (w : Wd) (k : Nat) (v : Bool) : Wd := wdOff w (fun j => if j = k then v else w.2.2.2.2 j)
theorem woff_ok {w : Wd} (h : WOk w) {k : Nat} (hk : k < w.2.2.1) (v : Bool) : WOk (woff w k v) := wdOff_ok h fun j hj => by
  show (if j = k then v else w.2.2.2.2 j) = false
  rw [if_neg (by omega)]
  exact h.2.2.2.2.2.2 j hj
theorem setOff1_wd {w : Wd} {k : Nat} {M : tr_M} (hw : CWd w 26 M) (hk : k < 8) : ∃ b, mX5_setOff 26 (nI k) 1 M = some (tr_st M 26 2 (nI b)) ∧ CWd (woff w k true) 26 (tr_st M 26 2 (nI b)) := by
  refine ⟨ins (obits w) k, ?_, hw.off ?_⟩
  · unfold mX5_setOff
    rw [if_neg (by decide), hw.2.2.1, ins_nI (by omega)]
    rfl
  · refine mkb_ext (ins_lt (obits_lt w) (by omega)) (fun i hi => ?_)
    rw [ins_bit, obits_bit]
    by_cases e : i = k
    · subst e; simp
    · simp [e, hi, show ¬ k = i from fun q => e q.symm]
theorem setOff0_wd {w : Wd} {k : Nat} {M : tr_M} (hw : CWd w 26 M) (hk : k < 8) : ∃ b, mX5_setOff 26 (nI k) 0 M = some (tr_st M 26 2 (nI b)) ∧ CWd (woff w k false) 26 (tr_st M 26 2 (nI b)) := by
  refine ⟨del (obits w) k, ?_, hw.off ?_⟩
  · unfold mX5_setOff
    rw [if_pos rfl, hw.2.2.1, del_nI (by omega)]
    rfl
  · refine mkb_ext (Nat.lt_of_lt_of_le (del_lt (n := 8) (obits_lt w)) (by decide)) (fun i hi => ?_)
    rw [del_bit, obits_bit]
    by_cases e : i = k
    · subst e; simp
    · simp [e, hi, show ¬ k = i from fun q => e q.symm]
theorem MWd.woff {w : Wd} {k : Nat} {M : tr_M} (hw : MWd w M) (v : Bool) : MWd (woff w k v) (tr_st M 9 (5 * k + 4) (if v = true then 1 else 0)) := by
  obtain ⟨g1, g2, g3, g4⟩ := hw
  refine ⟨?_, ?_, fun x y hx hy => ?_, fun j hj => ?_⟩
  · rw [tr_st_ne (by decide)]; exact g1
  · rw [tr_st_ne (by decide)]; exact g2
  · rw [tr_st_ne (by decide)]; exact g3 x y hx hy
  · obtain ⟨q1, q2, q3, q4, q5⟩ := g4 j hj
    refine ⟨?_, ?_, ?_, ?_, ?_⟩
    · rw [tr_st_j (by omega)]; exact q1
    · rw [tr_st_j (by omega)]; exact q2
    · rw [tr_st_j (by omega)]; exact q3
    · rw [tr_st_j (by omega)]; exact q4
    · show _ = if (if j = k then v else w.2.2.2.2 j) = true then 1 else 0
      by_cases e : j = k
      · subst e
        rw [tr_st_s, if_pos rfl]
      · rw [tr_st_j (by omega), if_neg e]
        exact q5
theorem woff_back (w : Wd) (k : Nat) (v : Bool) : woff (woff w k v) k (w.2.2.2.2 k) = w := by
  unfold woff wdOff
  have : (fun j => if j = k then w.2.2.2.2 k else if j = k then v else w.2.2.2.2 j) = w.2.2.2.2 := funext fun j => by
    by_cases c : j = k
    · rw [if_pos c, c]
    · rw [if_neg c, if_neg c]
  show (w.1, w.2.1, w.2.2.1, w.2.2.2.1, fun j => if j = k then w.2.2.2.2 k else if j = k then v else w.2.2.2.2 j) = w
  rw [this]
theorem woff_same (w : Wd) (k : Nat) : woff w k (w.2.2.2.2 k) = w := by
  unfold woff wdOff
  have : (fun j => if j = k then w.2.2.2.2 k else w.2.2.2.2 j) = w.2.2.2.2 := funext fun j => by
    by_cases c : j = k
    · rw [if_pos c, c]
    · rw [if_neg c]
  rw [this]
theorem Al_off {w : Wd} {f : Nat → Bool} (hf : ∀ j, w.2.2.2.2 j = true → f j = true) (h : Al w none ≠ []) : Al (wdOff w f) none ≠ [] := by
  obtain ⟨p, hp⟩ := List.exists_mem_of_ne_nil _ h
  obtain ⟨hp1, hp2⟩ := List.mem_filter.mp hp
  have hm : p ∈ Al (wdOff w f) none := by
    refine List.mem_filter.mpr ⟨hp1, ?_⟩
    unfold okf at hp2 ⊢
    rw [Bool.and_eq_true] at hp2 ⊢
    refine ⟨al_iff.mpr fun k hk => ?_, rfl⟩
    have := al_iff.mp hp2.1 k hk
    show (f k || kept w.1 (w.2.2.2.1 k) (fn p)) = true
    rw [Bool.or_eq_true] at this ⊢
    exact this.imp (hf k) id
  intro e
  rw [e] at hm
  cases hm
theorem r_bars {w : Wd} {M1 M2 : tr_M} (h : InvE w M1 M2) (p1 p2 : Int32) : ResE w (mX6_bars p1 p2 M1) (mX7_bars p1 p2 M2) := by
  have hn := h.2.1.1.2.2.2.2.1
  unfold mX6_bars mX7_bars
  rcases isMeasure_cases p1 with ⟨i1, i2⟩ | ⟨m, hm, rfl, i1, i2⟩
  · rw [i1, i2, if_pos rfl, Option.bind_some, if_pos rfl]
    exact ResE.same h
  rw [i1, i2, if_neg (show ¬ (1 : Int32) = 0 by decide), Option.bind_some, if_neg (show ¬ (1 : Int32) = 0 by decide)]
  rcases isRule_cases h.2.1 p2 with ⟨e1, e2⟩ | ⟨k, hk, rfl, e1, e2⟩
  · rw [e1, e2, if_pos rfl, Option.bind_some, if_pos rfl]
    exact ResE.same h
  rw [e1, e2, if_neg (show ¬ (1 : Int32) = 0 by decide), Option.bind_some, if_neg (show ¬ (1 : Int32) = 0 by decide)]
  refine val_call h hm (F1 := fun q N => if (mX5_isOff 26 (nI k) N) = 0 then Option.bind (mLO_value q N) (fun c11 => Option.bind (mX5_setOff 26 (nI k) (1 : Int32) N) (fun c13 => Option.bind (mX6_forget c13) (fun c15 => Option.bind (mX6_leastsOf (nI m) c15) (fun c17 => Option.bind (mX6_valueOr c17.1 c11 c17.2) (fun c19 => Option.bind (mX5_setOff 26 (nI k) (0 : Int32) c17.2) (fun c21 => Option.bind (mX6_forget c21) (fun c23 => some ((c11 - c19), c23)))))))) else some ((0 : Int32), N)) (F2 := fun c7 => Option.bind (mX7_ruleAt (nI k) (4 : Int32) c7.2) (fun c9 => Option.bind (tr_wr 40 c7.2 9 (((5 : Int32) * (nI k)) + (4 : Int32)) (1 : Int32)) (fun M11 => Option.bind (mX7_leastOf (nI m) M11) (fun c13 => Option.bind (tr_wr 40 c13.2 9 (((5 : Int32) * (nI k)) + (4 : Int32)) c9) (fun M15 => some ((c7.1 - c13.1), M15)))))) (fun N1 N2 _ _ hI hc hne hs => ?_)
  have hok := hI.2.1.1
  have hCW := hI.2.1.2.1
  have hMW := hI.2.1.2.2
  have hok' := woff_ok hok hk true
  have hix : ((5 : Int32) * (nI k)) + (4 : Int32) = nI (5 * k + 4) := by
    rw [show (5 : Int32) = nI 5 from rfl, show (4 : Int32) = nI 4 from rfl, nmul, nadd]
  have hr : mX7_ruleAt (nI k) 4 N2 = some (if w.2.2.2.2 k = true then 1 else 0) := by
    rw [show (4 : Int32) = nI 4 from rfl, ruleAt_eq (by omega) (by decide), (hMW.2.2.2 k hk).2.2.2.2]
  have hMW' := hMW.woff (k := k) true
  rw [if_pos rfl] at hMW'
  have hPX' : PinX none (tr_st N2 9 (5 * k + 4) 1) := by
    show (tr_st N2 9 (5 * k + 4) 1).1 1 27 = -9
    rw [tr_st_ne (by decide)]
    exact hI.2.2.2.2
  obtain ⟨N3, n1, n2, n3, n4⟩ := leastOf_eq (m := m) hok' hMW' hPX' trivial hm
  have hMW4 := (hMW'.kx n4).woff (k := k) (w.2.2.2.2 k)
  rw [woff_back] at hMW4
  have ky9 : ∀ (P : tr_M) (i : Nat) (x : Int32), KY P (tr_st P 9 i x) := fun P i x => ⟨fun c c1 _ _ => tr_st_ne (by omega), fun k _ => by rw [tr_st_ne (by decide)], rfl⟩
  have hKY := ((ky9 N2 (5 * k + 4) 1).tr n4.ky).tr (ky9 N3 (5 * k + 4) (if w.2.2.2.2 k = true then 1 else 0))
  have hPX4 : PinX none (tr_st N3 9 (5 * k + 4) (if w.2.2.2.2 k = true then 1 else 0)) := by
    show (tr_st N3 9 (5 * k + 4) (if w.2.2.2.2 k = true then 1 else 0)).1 1 27 = -9
    rw [tr_st_ne (by decide)]
    exact hPX'.kx n4
  dsimp only
  rw [hr, Option.bind_some, hix, tr_wr_nI (by omega) (by decide), Option.bind_some, n1, Option.bind_some]
  dsimp only
  rw [tr_wr_nI (by omega) (by decide), Option.bind_some, isOff_eq hCW (by omega)]
  cases z : w.2.2.2.2 k with
  | true =>
    have e : woff w k true = w := by
      have := woff_same w k
      rw [z] at this
      exact this
    rw [z] at hKY hPX4 hMW4
    rw [if_pos rfl, if_neg (show ¬ (1 : Int32) = 0 by decide), e, Int32.sub_self]
    exact ⟨_, _, _, rfl, rfl, hI.1.kt KL.rf.kt hKY, ⟨hok, hCW, hMW4⟩, hI.2.2.1, hI.2.2.2.1, hPX4⟩
  | false =>
    rw [z] at hKY hPX4 hMW4
    rw [if_neg (show ¬ false = true by decide), if_pos rfl, lo_value (pin := none) hok trivial hc.2.2, Option.bind_some]
    obtain ⟨b, t1, t2⟩ := setOff1_wd hCW (show k < 8 by omega)
    rw [t1, Option.bind_some, forget_eq, Option.bind_some]
    have hCT : CWd (woff w k true) 26 (tr_st (tr_st (tr_st N1 26 2 (nI b)) 1 15 (-9)) 1 16 (nI 0)) := t2.congr fun c c1 c2 => by rw [tr_st_ne (by omega), tr_st_ne (by omega)]
    have hPT : PinM none (tr_st (tr_st (tr_st N1 26 2 (nI b)) 1 15 (-9)) 1 16 (nI 0)) := by
      show (tr_st (tr_st (tr_st N1 26 2 (nI b)) 1 15 (-9)) 1 16 (nI 0)).1 25 13 = -9
      rw [tr_st_ne (by decide), tr_st_ne (by decide), tr_st_ne (by decide)]
      exact hI.2.2.2.1
    have hne' : Al (woff w k true) none ≠ [] := Al_off (fun j hj => by
      show (if j = k then true else w.2.2.2.2 j) = true
      split
      · rfl
      · exact hj) hne
    obtain ⟨q, Q, q1, q2, q3⟩ := cval (m := m) (v := nI (VL w none m)) hok' hCT hPT trivial (by rw [tr_st_j (by decide), tr_st_s]) hm hs
    rw [q1, Option.bind_some]
    dsimp only
    rw [q3, Option.bind_some, if_neg hne']
    obtain ⟨b2, u1, u2⟩ := setOff0_wd (hCT.kl q2) (show k < 8 by omega)
    have u2' : CWd w 26 (tr_st Q 26 2 (nI b2)) := by
      have := woff_back w k true
      rw [z] at this
      rw [this] at u2
      exact u2
    rw [u1, Option.bind_some, forget_eq, Option.bind_some]
    have kt2 : ∀ (P : tr_M) (x : Int32), KT P (tr_st P 26 2 x) := fun P x => ⟨fun c c1 _ _ _ _ => tr_st_ne (by omega), fun k _ => by rw [tr_st_ne (by decide)], rfl⟩
    have hKT := ((((kt2 N1 (nI b)).tr KT.fg).tr q2.kt).tr (kt2 Q (nI b2))).tr KT.fg
    refine ⟨_, _, _, rfl, rfl, hI.1.kt hKT hKY, ⟨hok, u2'.congr fun c c1 c2 => by rw [tr_st_ne (by omega), tr_st_ne (by omega)], hMW4⟩, Or.inl (by rw [tr_st_j (by decide), tr_st_s]), ?_, hPX4⟩
    show (tr_st (tr_st (tr_st Q 26 2 (nI b2)) 1 15 (-9)) 1 16 (nI 0)).1 25 13 = -9
    rw [tr_st_ne (by decide), tr_st_ne (by decide), tr_st_ne (by decide)]
    exact hPT.kl q2
