theorem Al_pin {w : Wd} {pin : Option (Nat × Nat)} (h : Al w none = []) : Al w pin = [] := by
  refine List.eq_nil_iff_forall_not_mem.mpr fun p hp => ?_
  obtain ⟨h1, h2⟩ := List.mem_filter.mp hp
  unfold okf at h2
  rw [Bool.and_eq_true] at h2
  have : p ∈ Al w none := List.mem_filter.mpr ⟨h1, by unfold okf; rw [Bool.and_eq_true]; exact ⟨h2.1, rfl⟩⟩
  rw [h] at this
  cases this
theorem Al_len {w : Wd} (hok : WOk w) : (Al w none).length ≤ 3628800 := by
  have := LL_len hok none 5
  unfold LL at this
  rw [if_neg (by decide), LS_5] at this
  exact this
theorem n9_no {x : Nat} (hx : x < 2147483648) : ¬ nI x = -9 := fun e => by
  have := (n_lt_neg (x := -9) (k := x) (by decide) hx).2.2.1
  exact this e
theorem r_where {w : Wd} {M1 M2 : tr_M} (h : InvE w M1 M2) (p1 p2 p3 : Int32) : ResE w (mX6_where p1 p2 p3 M1) (mX7_where p1 p2 p3 M2) := by
  have hn := h.2.1.1.1
  have hok := h.2.1.1
  have hCW := h.2.1.2.1
  have hMW := h.2.1.2.2
  unfold mX6_where mX7_where
  rcases isMeasure_cases p1 with ⟨i1, i2⟩ | ⟨m, hm, rfl, i1, i2⟩
  · rw [i1, i2, if_pos rfl, Option.bind_some, if_pos rfl]
    exact ResE.same h
  rw [i1, i2, if_neg (show ¬ (1 : Int32) = 0 by decide), Option.bind_some, if_neg (show ¬ (1 : Int32) = 0 by decide)]
  rcases thing_cases h.2.1 p2 with ⟨j1, j2⟩ | ⟨a, ha, rfl, j1, j2⟩
  · rw [j1, j2, if_pos rfl, Option.bind_some, if_pos rfl]
    exact ResE.same h
  rw [j1, j2, if_neg (show ¬ (1 : Int32) = 0 by decide), Option.bind_some, if_neg (show ¬ (1 : Int32) = 0 by decide)]
  rcases isThing_m (p := p3) hn hMW.1 with ⟨k1, k2⟩ | ⟨b, hb, rfl, k1⟩
  · rw [k1, Option.bind_some, if_pos rfl]
    by_cases c : p3 < 0
    · rw [if_pos c]
      exact ResE.same h
    · rw [if_neg c, hCW.1, if_neg (k2.resolve_left c)]
      exact ResE.same h
  rw [k1, Option.bind_some, if_neg (show ¬ (1 : Int32) = 0 by decide), if_neg (nI_pos (by omega)), hCW.1, if_pos ((nlt (by omega) (by omega)).mpr hb)]
  rcases isSpent_eq hok hCW.1 (show m ≤ 5 by omega) with ⟨s1, s2⟩ | ⟨s1, s2⟩
  · rcases tooLong_eq hok hMW.1 hm with ⟨-, t⟩ | ⟨t, -⟩
    · rw [s2, t, if_neg (show ¬ (1 : Int32) = 0 by decide), if_neg (show ¬ (1 : Int32) = 0 by decide)]
      exact ResE.same h
    · exact absurd s1 t
  rcases tooLong_eq hok hMW.1 hm with ⟨t, -⟩ | ⟨-, t⟩
  · exact absurd t s1
  rw [s2, t, if_pos rfl, if_pos rfl]
  -- the class
  have p1 : mX4_pin (nI a) (nI b) M1 = some (tr_st (tr_st M1 25 13 (nI a)) 25 14 (nI b)) := rfl
  rw [p1, Option.bind_some, forget_eq, Option.bind_some]
  have hpo : pinOk w.1 (some (a, b)) := ⟨ha, hb⟩
  have hCP : CWd w 26 (tr_st (tr_st (tr_st (tr_st M1 25 13 (nI a)) 25 14 (nI b)) 1 15 (-9)) 1 16 (nI 0)) := hCW.congr fun c c1 c2 => by rw [tr_st_ne (by omega), tr_st_ne (by omega), tr_st_ne (by omega), tr_st_ne (by omega)]
  have hPP : PinM (some (a, b)) (tr_st (tr_st (tr_st (tr_st M1 25 13 (nI a)) 25 14 (nI b)) 1 15 (-9)) 1 16 (nI 0)) := by
    refine ⟨?_, ?_, by omega, by omega⟩
    · rw [tr_st_ne (by decide), tr_st_ne (by decide), tr_st_j (by decide), tr_st_s]
    · rw [tr_st_ne (by decide), tr_st_ne (by decide), tr_st_s]
  obtain ⟨q, Q, q1, q2, q3⟩ := cval (m := m) (v := -9) hok hCP hPP hpo (by rw [tr_st_j (by decide), tr_st_s]) hm s1
  rw [q1, Option.bind_some]
  dsimp only
  have p2 : mX4_unpin Q = some (tr_st (tr_st Q 25 13 (-9)) 25 14 (-9)) := rfl
  rw [q3, Option.bind_some, p2, Option.bind_some, forget_eq, Option.bind_some]
  have kt25 : ∀ (P : tr_M) (x y : Int32), KT P (tr_st (tr_st P 25 13 x) 25 14 y) := fun P x y => ⟨fun c c1 _ _ _ _ => by rw [tr_st_ne (by omega), tr_st_ne (by omega)], fun k _ => by rw [tr_st_ne (by decide), tr_st_ne (by decide)], rfl⟩
  have hKT := ((((kt25 M1 (nI a) (nI b)).tr KT.fg).tr q2.kt).tr (kt25 Q (-9) (-9))).tr KT.fg
  have hCR : CWd w 26 (tr_st (tr_st (tr_st (tr_st Q 25 13 (-9)) 25 14 (-9)) 1 15 (-9)) 1 16 (nI 0)) := (hCP.kl q2).congr fun c c1 c2 => by rw [tr_st_ne (by omega), tr_st_ne (by omega), tr_st_ne (by omega), tr_st_ne (by omega)]
  have hPR : PinM none (tr_st (tr_st (tr_st (tr_st Q 25 13 (-9)) 25 14 (-9)) 1 15 (-9)) 1 16 (nI 0)) := by
    show (tr_st (tr_st (tr_st (tr_st Q 25 13 (-9)) 25 14 (-9)) 1 15 (-9)) 1 16 (nI 0)).1 25 13 = -9
    rw [tr_st_ne (by decide), tr_st_ne (by decide), tr_st_j (by decide), tr_st_s]
  have hcR : Cch w none (tr_st (tr_st (tr_st (tr_st Q 25 13 (-9)) 25 14 (-9)) 1 15 (-9)) 1 16 (nI 0)) := Or.inl (by rw [tr_st_j (by decide), tr_st_s])
  generalize tr_st (tr_st (tr_st (tr_st Q 25 13 (-9)) 25 14 (-9)) 1 15 (-9)) 1 16 (nI 0) = R at hKT hCR hPR hcR ⊢
  have hR : ∀ N, KY M2 N → MWd w N → PinX none N → InvE w R N := fun N n1 n2 n3 => ⟨h.1.kt hKT n1, ⟨hok, hCR, n2⟩, hcR, hPR, n3⟩
  obtain ⟨q', S, l1, l2, l3, l4⟩ := leastsOf_eq (m := 5) hok hCR hPR trivial hcR (by decide)
  have l1' : mX6_leastsOf 5 R = some (q', S) := l1
  -- the model
  obtain ⟨N, n1, n2⟩ := allowedMany_eq (pin := none) hok hMW h.2.2.2.2 trivial
  have hlen := Al_len hok
  rw [n1, Option.bind_some]
  dsimp only
  by_cases z : Al w none = []
  · rw [if_pos (Al_pin z), if_pos (rfl : (-9 : Int32) = -9), l1', Option.bind_some, z, if_pos (show nI ([] : List (List Nat)).length = 0 from rfl)]
    dsimp only
    rcases l4 with ⟨rfl, -⟩ | ⟨-, x, -⟩
    · rw [if_pos rfl]
      have hI := (hR N n2.ky (hMW.kx n2) (PinX.kx h.2.2.2.2 n2)).kl l2 KX.rf l3
      obtain ⟨r, A, B, a1, a2, a3⟩ := hI.res2 (meets_res hI.1 (q := 4) (by decide))
      have a1' : (Option.bind (mX6_found 4 S) fun c => some (c.1, c.2)) = some (r, A) := a1
      have a2' : (Option.bind (mX7_meets 4 N) fun c => some (c.1, c.2)) = some (r, B) := a2
      rw [a1', a2']
      exact ⟨r, A, B, rfl, rfl, a3⟩
    · exact absurd z x
  · have hpos : (Al w none).length ≠ 0 := fun e => z (List.eq_nil_of_length_eq_zero e)
    rw [if_neg (show ¬ nI (Al w none).length = 0 by rw [neq0 (by omega)]; exact hpos), Option.bind_some, Option.bind_some]
    have hMN := hMW.kx n2
    have hMP : MWd w (tr_st (tr_st N 1 27 (nI a)) 1 28 (nI b)) := hMN.congr (by rw [tr_st_j (by decide), tr_st_j (by decide)]) (by rw [tr_st_j (by decide), tr_st_j (by decide)]) (by rw [tr_st_ne (by decide), tr_st_ne (by decide)]) (by rw [tr_st_ne (by decide), tr_st_ne (by decide)])
    have hXP : PinX (some (a, b)) (tr_st (tr_st N 1 27 (nI a)) 1 28 (nI b)) := by
      refine ⟨?_, tr_st_s, by omega, by omega⟩
      rw [tr_st_j (by decide), tr_st_s]
    obtain ⟨N3, v1, v2, v3, v4⟩ := leastOf_eq (m := m) hok hMP hXP hpo hm
    rw [v1, Option.bind_some, Option.bind_some]
    dsimp only
    have ky27 : KY N (tr_st (tr_st N 1 27 (nI a)) 1 28 (nI b)) := ⟨fun c _ c2 _ => by rw [tr_st_ne c2, tr_st_ne c2], fun k hk => by rw [tr_st_j (by omega), tr_st_j (by omega)], rfl⟩
    have ky9 : KY N3 (tr_st N3 1 27 (-9)) := ⟨fun c _ c2 _ => tr_st_ne c2, fun k hk => tr_st_j (by omega), rfl⟩
    have hI := hR (tr_st N3 1 27 (-9)) (((n2.ky.tr ky27).tr v4.ky).tr ky9) ((hMP.kx v4).congr (tr_st_j (by decide)) (tr_st_j (by decide)) (tr_st_ne (by decide)) (tr_st_ne (by decide))) tr_st_s
    have hle := VL_le w (some (a, b)) m
    have hNV : NV = 1000000 := rfl
    have hlt : (nI (VL w (some (a, b)) m) < (1000000 : Int32)) ↔ VL w (some (a, b)) m < NV := nlt (b := NV) (by omega) (by omega)
    by_cases y : Al w (some (a, b)) = []
    · rw [if_pos y, if_pos (rfl : (-9 : Int32) = -9), l1', Option.bind_some, if_neg (fun c => (VL_lt hok hpo m).mp (hlt.mp c) y)]
      dsimp only
      rcases l4 with ⟨-, x | x⟩ | ⟨-, x, rfl, -⟩
      · exact absurd x.1 (by decide)
      · exact absurd x z
      · rw [if_neg (show ¬ rf 5 = 0 by decide)]
        exact ResE.same (hI.kl l2 KX.rf l3)
    · rw [if_neg y, if_neg (n9_no (by omega)), if_pos (hlt.mpr ((VL_lt hok hpo m).mpr y))]
      exact ResE.same hI
