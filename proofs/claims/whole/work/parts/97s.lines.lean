theorem LL_vl (w : Wd) (pin : Option (Nat × Nat)) (m : Nat) : LL w pin m = (Al w pin).filter (fun p => decide (vl w m p = VL w pin m)) := by
  unfold LL VL vl
  by_cases c : m = 4
  · simp only [if_pos c]
    rfl
  · simp only [if_neg c]
    rfl
/-- the least ones of a measure among the first t orders -/
def LU (w : Wd) (m t : Nat) : List (List Nat) := ((Pm w.1).take t).filter (fun p => okf w none (fn p) && decide (vl w m p = VL w none m))
theorem LU_all (w : Wd) (m : Nat) : LU w m (fct w.1) = LL w none m := by
  rw [LL_vl]
  unfold LU Al
  rw [← Pm_len, List.take_length, List.filter_filter]
  refine List.filter_congr fun p _ => ?_
  rw [Bool.and_comm]
theorem LU_next {w : Wd} {m t : Nat} {f : Nat → Nat} (hf : Ord w.1 f) (h : (Pm w.1)[t]? = some (seg f 0 w.1)) : LU w m (t + 1) = if (okf w none f && decide (msr w m f = VL w none m)) = true then LU w m t ++ [seg f 0 w.1] else LU w m t := by
  unfold LU
  rw [take_next h, List.filter_append]
  by_cases c : (okf w none f && decide (msr w m f = VL w none m)) = true
  · rw [if_pos c, List.filter_cons_of_pos (by rw [okf_seg, vl_seg hf]; exact c)]
    rfl
  · rw [if_neg c, List.filter_cons_of_neg (by rw [okf_seg, vl_seg hf]; exact c)]
    exact List.append_nil _
theorem bothLines_eq {w : Wd} {m l : Nat} {M : tr_M} (hok : WOk w) (hm : MWd w M) (hp : PinX none M) (h4 : m ≤ 4) (hl : l ≤ 4) (h29 : M.1 1 29 = nI (VL w none m)) : ∃ N, mX7_bothByLines (nI m) (nI l) M = some (nI (BV w m l), tr_st N 1 2 (nI (BN w m l))) ∧ KX M N := by
  have hn := hok.1
  have hNV : NV = 1000000 := rfl
  have hVL := VL_le w none m
  unfold mX7_bothByLines
  obtain ⟨r, e1, N, e2, e3, e4⟩ := lines_loop (w := w) (step := mX7_bothByLines_l19 (nI m) (nI l) M) (fun (a : Int32 × Int32) b N => (a.1, a.2, b, N)) hok (fun t a N => a = (nI (cv (vl w l) (LU w m t)), nI (cn (vl w l) (LU w m t))) ∧ (∀ c, c ≠ 12 → c ≠ 13 → N.1 c = M.1 c) ∧ N.2 = M.2) (fun r => ∃ N, r = (nI (BV w m l), nI (BN w m l), N) ∧ (∀ c, c ≠ 12 → c ≠ 13 → N.1 c = M.1 c) ∧ N.2 = M.2) (fun t a N h => by rw [h.2.1 1 (by decide) (by decide)]; exact hm.1) (fun t a N N' h h1 h2 => ⟨h.1, fun c c1 c2 => (h1 c c1 c2).trans (h.2.1 c c1 c2), h2.trans h.2.2⟩) (by
    rintro t f N a h1 h2 h3 h4' ⟨rfl, h5, h6⟩
    have kN := KX.of h5 h6
    have hnx := LU_next (m := m) h1 h3
    have hmm := msr_le hok m f
    have hml := msr_le hok l f
    have hcv := cv_le (vl w l) (LU w m t)
    refine ⟨(nI (cv (vl w l) (LU w m (t + 1))), nI (cn (vl w l) (LU w m (t + 1)))), N, h4', ⟨rfl, h5, h6⟩, fun b N' hb => ?_⟩
    unfold mX7_bothByLines_l19
    dsimp only
    rw [if_neg (show ¬ (1 : Int32) = 0 by decide), allowedNow_eq (pin := none) hok (hm.kx kN) (hp.kx kN) trivial h1 h4', Option.bind_some, hnx]
    by_cases c : okf w none f = true
    · rw [if_pos c, if_neg (show ¬ (1 : Int32) = 0 by decide), measureNow_eq hok (hm.kx kN) h1 h4' h4, Option.bind_some, h29, c, Bool.true_and]
      by_cases d : msr w m f = VL w none m
      · obtain ⟨s1, s2⟩ := cn_step (c := vl w l) (A := LU w m t) (p := seg f 0 w.1) (by rw [vl_seg h1]; omega)
        rw [vl_seg h1] at s1 s2
        rw [if_pos (by rw [d]), measureNow_eq hok (hm.kx kN) h1 h4' hl, Option.bind_some, decide_eq_true d, if_pos rfl, s1, s2, nlesser _ _ (by omega) (by omega)]
        have e : (if nI (msr w l f) < nI (cv (vl w l) (LU w m t)) then some (1 : Int32) else if nI (msr w l f) = nI (cv (vl w l) (LU w m t)) then some (nI (cn (vl w l) (LU w m t)) + 1) else some (nI (cn (vl w l) (LU w m t)))) = some (nI (if msr w l f < cv (vl w l) (LU w m t) then 1 else if msr w l f = cv (vl w l) (LU w m t) then cn (vl w l) (LU w m t) + 1 else cn (vl w l) (LU w m t))) := by
          simp (disch := omega) only [nlt, neq]
          split
          · rfl
          · split
            · rw [nadd1]
            · rfl
        rw [e, Option.bind_some, Option.bind_some, hb, Option.bind_some]
      · rw [if_neg (by rw [neq (by omega) (by omega)]; exact d), decide_eq_false d, if_neg (by decide), Option.bind_some, hb, Option.bind_some]
    · have c' : okf w none f = false := by
        cases h : okf w none f with
        | true => exact absurd h c
        | false => rfl
      rw [if_neg c, if_pos rfl, c', Bool.false_and, if_neg (by decide), Option.bind_some, hb, Option.bind_some]) (by
    rintro a N ⟨rfl, h5, h6⟩
    unfold mX7_bothByLines_l19
    dsimp only
    rw [if_pos rfl, LU_all]
    exact ⟨_, rfl, N, rfl, h5, h6⟩) (M := M) (a0 := ((1000000 : Int32), (0 : Int32))) ⟨rfl, fun _ _ _ => rfl, rfl⟩
  cases hF : mX7_firstLine M with
  | none =>
    rw [hF] at e1
    cases e1
  | some F =>
    rw [hF, Option.bind_some] at e1
    have e1' : tr_loop (mX7_bothByLines_l19 (nI m) (nI l) M) (1000000, 0, 1, F) = some r := e1
    rw [Option.bind_some, e1', Option.bind_some, e2]
    dsimp only
    rw [tells_eq, Option.bind_some]
    exact ⟨N, rfl, KX.of e3 e4⟩
/-- the class goes through the orders of the least LONG -/
theorem compare_eq {w : Wd} {l : Nat} {L : List (List Nat)} {v : Nat} {M : tr_M} (hok : WOk w) (h8 : w.1 ≤ 8) (hw : CWd w 26 M) (hK : WK w L v M) (hl : l ≤ 4) (hne : L ≠ []) : ∃ N, mX2_compare (nI l) M = some N ∧ N.1 24 5 = nI (cv (vl w l) L) ∧ N.1 24 6 = nI (cn (vl w l) L) ∧ (∀ c, c ≠ 24 → c ≠ 56 → N.1 c = M.1 c) ∧ (∀ k, k ≠ 5 → k ≠ 6 → N.1 24 k = M.1 24 k) ∧ N.2 = M.2 := by
  have hn := hok.1
  have hNV : NV = 1000000 := rfl
  have hlen := hK.2.2.2.1
  have hpos : 0 < L.length := List.length_pos_iff.mpr hne
  unfold mX2_compare
  rw [Option.bind_some, Option.bind_some]
  refine tr_loop_inv (step := mX2_compare_l13 (nI l)) (s0 := (0, tr_st (tr_st M 24 5 268435456) 24 6 0)) (fun k t => ∃ N, t = (nI k, N) ∧ ((k = 0 ∧ N.1 24 5 = nI 268435456 ∧ N.1 24 6 = nI 0) ∨ (0 < k ∧ N.1 24 5 = nI (cv (vl w l) (L.take k)) ∧ N.1 24 6 = nI (cn (vl w l) (L.take k)))) ∧ (∀ c, c ≠ 24 → c ≠ 56 → N.1 c = M.1 c) ∧ (∀ k, k ≠ 5 → k ≠ 6 → N.1 24 k = M.1 24 k) ∧ N.2 = M.2) (fun N => N.1 24 5 = nI (cv (vl w l) L) ∧ N.1 24 6 = nI (cn (vl w l) L) ∧ (∀ c, c ≠ 24 → c ≠ 56 → N.1 c = M.1 c) ∧ (∀ k, k ≠ 5 → k ≠ 6 → N.1 24 k = M.1 24 k) ∧ N.2 = M.2) L.length (by omega) ⟨_, rfl, Or.inl ⟨rfl, by rw [tr_st_j (by decide), tr_st_s]; rfl, tr_st_s⟩, fun c c1 _ => by rw [tr_st_ne c1, tr_st_ne c1], fun k k1 k2 => by rw [tr_st_j k2, tr_st_j k1], rfl⟩ ?_ ?_
  · rintro k t hk ⟨N, rfl, t1, t2, t3, t4⟩
    left
    have hKN : WK w L v N := hK.cg (t3 3 (by decide) (by decide)) (t3 4 (by decide) (by decide)) (t2 54 (by decide) (by decide))
    have hCN : CWd w 26 N := hw.congr fun b h1 h2 => t2 b (by omega) (by omega)
    obtain ⟨p, hp⟩ : ∃ p, L[k]? = some p := ⟨L[k], List.getElem?_eq_getElem hk⟩
    obtain ⟨f, hf, rfl⟩ := hK.2.2.2.2 p (List.mem_of_getElem? hp)
    obtain ⟨P, p1, p2, p3, p4⟩ := unpack_eq hok h8 hCN hKN hf hp
    have hCP : CWd w 26 P := hCN.congr fun b h1 h2 => p3 b (by omega)
    have hms := measured_eq (m := l) hok hCP hf p2 (show w.1 ≤ 10 from hn) (by decide) hl
    have hml := msr_le hok l f
    have htk := take_next hp
    obtain ⟨s1, s2⟩ := cn_step (c := vl w l) (A := L.take k) (p := seg f 0 w.1) (by rw [vl_seg hf]; omega)
    rw [vl_seg hf, ← htk] at s1 s2
    have hcv := cv_le (vl w l) (L.take k)
    have q5 : P.1 24 5 = N.1 24 5 := by rw [p3 24 (by decide)]
    have q6 : P.1 24 6 = N.1 24 6 := by rw [p3 24 (by decide)]
    have hP2 : ∀ c, c ≠ 24 → c ≠ 56 → P.1 c = M.1 c := fun c c1 c2 => by rw [p3 c c2, t2 c c1 c2]
    have hP3 : ∀ k, k ≠ 5 → k ≠ 6 → P.1 24 k = M.1 24 k := fun k k1 k2 => by rw [p3 24 (by decide), t3 k k1 k2]
    have new : ∀ u v, u = cv (vl w l) (L.take (k + 1)) → v = cn (vl w l) (L.take (k + 1)) → ∃ s', some (Sum.inl (nI k + 1, tr_st (tr_st (tr_st P 24 5 (nI u)) 24 6 0) 24 6 (nI v)) : (Int32 × tr_M) ⊕ tr_M) = some (Sum.inl s') ∧ ∃ N, s' = (nI (k + 1), N) ∧ ((k + 1 = 0 ∧ N.1 24 5 = nI 268435456 ∧ N.1 24 6 = nI 0) ∨ (0 < k + 1 ∧ N.1 24 5 = nI (cv (vl w l) (L.take (k + 1))) ∧ N.1 24 6 = nI (cn (vl w l) (L.take (k + 1))))) ∧ (∀ c, c ≠ 24 → c ≠ 56 → N.1 c = M.1 c) ∧ (∀ k, k ≠ 5 → k ≠ 6 → N.1 24 k = M.1 24 k) ∧ N.2 = M.2 := fun u v hu hv => by
      refine ⟨_, rfl, _, Prod.ext (nadd1 _) rfl, Or.inr ⟨by omega, ?_, ?_⟩, fun c c1 c2 => ?_, fun j j1 j2 => ?_, p4.trans t4⟩
      · rw [tr_st_j (by decide), tr_st_j (by decide), tr_st_s, hu]
      · rw [tr_st_s, hv]
      · rw [tr_st_ne c1, tr_st_ne c1, tr_st_ne c1, hP2 c c1 c2]
      · rw [tr_st_j j2, tr_st_j j2, tr_st_j j1, hP3 j j1 j2]
    unfold mX2_compare_l13
    dsimp only
    rw [t3 3 (by decide) (by decide), hK.2.1, if_pos ((nlt (by omega) (by omega)).mpr hk), p1, Option.bind_some, hms, Option.bind_some, q5]
    have one : ∀ T : tr_M, (tr_st (tr_st T 24 5 (nI (msr w l f))) 24 6 0).1 24 6 + 1 = nI 1 := fun T => by rw [tr_st_s]; rfl
    have h5' : ∀ T : tr_M, (tr_st (tr_st T 24 5 (nI (msr w l f))) 24 6 0).1 24 5 = nI (msr w l f) := fun T => by rw [tr_st_j (by decide), tr_st_s]
    rcases t1 with ⟨rfl, a1, a2⟩ | ⟨k0, a1, a2⟩
    · rw [a1, if_pos ((nlt (by omega) (by omega)).mpr (by omega)), Option.bind_some, Option.bind_some, Option.bind_some, h5', if_pos rfl, one, Option.bind_some]
      have z1 : cv (vl w l) (L.take 0) = NV := rfl
      have z2 : cn (vl w l) (L.take 0) = 0 := rfl
      rw [z1] at s1 s2
      rw [if_pos (by omega)] at s2
      exact new _ _ (by rw [s1]; omega) s2.symm
    · rw [a1]
      by_cases c : msr w l f < cv (vl w l) (L.take k)
      · rw [if_pos ((nlt (by omega) (by omega)).mpr c), Option.bind_some, Option.bind_some, Option.bind_some, h5', if_pos rfl, one, Option.bind_some]
        rw [if_pos c] at s2
        exact new _ _ (by rw [s1]; omega) s2.symm
      · rw [if_neg (by rw [nlt (by omega) (by omega)]; exact c), Option.bind_some, q5, a1]
        rw [if_neg c] at s2
        by_cases d : msr w l f = cv (vl w l) (L.take k)
        · rw [if_pos d] at s2
          rw [if_pos (by rw [d]), Option.bind_some, q6, a2]
          refine ⟨_, rfl, _, Prod.ext (nadd1 _) rfl, Or.inr ⟨by omega, ?_, ?_⟩, fun c c1 c2 => ?_, fun j j1 j2 => ?_, p4.trans t4⟩
          · rw [tr_st_j (by decide), q5, a1, s1, d, Nat.min_self]
          · rw [tr_st_s, s2, nadd1]
          · rw [tr_st_ne c1, hP2 c c1 c2]
          · rw [tr_st_j j2, hP3 j j1 j2]
        · rw [if_neg d] at s2
          rw [if_neg (by rw [neq (by omega) (by omega)]; exact d)]
          refine ⟨_, rfl, P, by rw [nadd1], Or.inr ⟨by omega, ?_, ?_⟩, hP2, hP3, p4.trans t4⟩
          · rw [q5, a1, s1, Nat.min_eq_left (by omega)]
          · rw [q6, a2, s2]
  · rintro t ⟨N, rfl, t1, t2, t3, t4⟩
    unfold mX2_compare_l13
    dsimp only
    rw [t3 3 (by decide) (by decide), hK.2.1, if_neg (by rw [nlt (by omega) (by omega)]; omega)]
    rcases t1 with ⟨h0, -⟩ | ⟨-, a1, a2⟩
    · omega
    · rw [List.take_length] at a1 a2
      exact ⟨N, rfl, a1, a2, t2, t3, t4⟩
