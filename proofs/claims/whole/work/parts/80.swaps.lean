/-! ===== swaps ===== -/
def swV : (Nat → Nat) → Nat → Bool := fun _ _ => true
def swT : (Nat → Nat) → Nat → Nat → Nat := fun f k => sw f k (k + 1)
theorem CWd.sc0 {w : Wd} {M N : tr_M} (h : CWd w 26 M) (hs : SC M N) : N.1 26 0 = nI w.1 := (h.sc hs).1
theorem bestSwap_eq {w : Wd} {M1 : tr_M} {m v : Nat} {f : Nat → Nat} {N : tr_M} (hok : WOk w) (hw : CWd w 26 M1) (hf : Ord w.1 f) (hm : m ≤ 4) (hv : v ≤ 10000) (hs : SC M1 N) (hc : HasF N 58 w.1 f) : ∃ P, mX6_bestSwap (nI m) (nI v) N = some (nI (scn w m (swV f) (swT f) v (w.1 - 1)).1, P) ∧ CS w M1 f (swT f) (scn w m (swV f) (swT f) v (w.1 - 1)).2 P := by
  have hn := hok.1
  have hN := hw.sc0 hs
  unfold mX6_bestSwap
  obtain ⟨r, e1, P, e2, e3⟩ := tr_loop_inv (step := mX6_bestSwap_l14 (nI m) N) (s0 := (nI v, 0, N)) (fun i s => ∃ P, s = (nI (scn w m (swV f) (swT f) v i).1, nI i, P) ∧ CS w M1 f (swT f) (scn w m (swV f) (swT f) v i).2 P) (fun r => ∃ P, r = (nI (scn w m (swV f) (swT f) v (w.1 - 1)).1, P) ∧ CS w M1 f (swT f) (scn w m (swV f) (swT f) v (w.1 - 1)).2 P) (w.1 - 1) (by omega) ⟨N, rfl, hs, hc, fun j h => by cases h⟩ (by
    rintro i s hi ⟨P, rfl, hcs⟩
    left
    have hi2 : i + 1 < w.1 := by omega
    have g0 := hf.1 i (by omega)
    have g1 := hf.1 (i + 1) (by omega)
    have ec := tr_cpy_nI (n0 := 10) (n1 := 10) (M := P) (a0 := 58) (a1 := 59) (sp := 0) (dp := 0) (n := w.1) (by omega) (by omega) (by decide) (by decide) (by decide) (by decide)
    obtain ⟨Q, hQ⟩ : ∃ Q, Q = tr_st (tr_st (tr_row P 59 (va_cpy (P.1 58) (P.1 59) 0 0 w.1)) 59 i (nI (f (i + 1)))) 59 (i + 1) (nI (f i)) := ⟨_, rfl⟩
    have hQ58 : ∀ c, c ≠ 59 → Q.1 c = P.1 c := fun c hc => by rw [hQ, tr_st_ne hc, tr_st_ne hc, tr_row_ne hc]
    have hQ59 : HasF Q 59 w.1 (swT f i) := fun t ht => by
      rw [hQ]
      show _ = nI (sw f i (i + 1) t)
      unfold sw
      rw [tr_st_1, tr_st_1]
      by_cases d : t = i + 1
      · rw [if_pos ⟨rfl, d⟩, if_neg (by omega), if_pos d]
      · rw [if_neg (fun z => d z.2)]
        by_cases c : t = i
        · rw [if_pos ⟨rfl, c⟩, if_pos c]
        · rw [if_neg (fun z => c z.2), if_neg c, if_neg d, tr_row_s, pk_cpy_in (by omega) (by omega), Nat.zero_add, Nat.sub_zero]
          exact hcs.2.1 t ht
    have hcsQ : CS w M1 f (swT f) (scn w m (swV f) (swT f) v i).2 Q := ⟨hcs.1.tr ⟨fun c _ _ _ _ => hQ58 c (by omega), by rw [hQ]; rfl⟩, fun t ht => by rw [hQ58 58 (by decide)]; exact hcs.2.1 t ht, fun j hj t ht => by rw [hQ58 60 (by decide)]; exact hcs.2.2 j hj t ht⟩
    obtain ⟨R, k1, k2⟩ := keep_CS (k := i) (V := swV f) (T := swT f) hok hw (sw_ord hf (by omega) hi2) hQ59 hm hv rfl hcsQ
    refine ⟨_, ?_, R, rfl, k2⟩
    unfold mX6_bestSwap_l14
    dsimp only
    have c1 : nI (i + 1) < nI w.1 := (nlt (by omega) (by omega)).mpr hi2
    rw [nadd1, hN, if_pos c1, show tr_len shC 58 = 10 from rfl, show tr_len shC 59 = 10 from rfl, show tr_cpy 10 10 P 58 0 59 0 (nI w.1) = _ from ec]
    simp only [Option.bind_some]
    rw [tr_rd_nI (by omega) (by decide)]
    simp only [Option.bind_some]
    rw [tr_wr_nI (by omega) (by decide)]
    simp only [Option.bind_some]
    rw [tr_rd_nI (by omega) (by decide)]
    simp only [Option.bind_some]
    rw [tr_wr_nI (by omega) (by decide)]
    simp only [Option.bind_some]
    have hp1 : (tr_row P 59 (va_cpy (P.1 58) (P.1 59) 0 0 w.1)).1 58 (i + 1) = nI (f (i + 1)) := by rw [tr_row_ne (by decide)]; exact hcs.2.1 (i + 1) hi2
    have hp2 : (tr_st (tr_row P 59 (va_cpy (P.1 58) (P.1 59) 0 0 w.1)) 59 i (nI (f (i + 1)))).1 58 i = nI (f i) := by rw [tr_st_ne (by decide), tr_row_ne (by decide)]; exact hcs.2.1 i (by omega)
    rw [hp1, hp2, ← hQ, k1]
    simp only [Option.bind_some]) (by
    rintro s ⟨P, rfl, hcs⟩
    refine ⟨_, ?_, P, rfl, hcs⟩
    unfold mX6_bestSwap_l14
    dsimp only
    have c1 : ¬ nI (w.1 - 1 + 1) < nI w.1 := by rw [nlt (by omega) (by omega)]; omega
    rw [nadd1, hN, if_neg c1])
  exact ⟨P, by rw [e1, e2], e3⟩
def oi : Option Nat → Int32
  | none => -9
  | some j => nI j
theorem swapsRound {w : Wd} {M2 : tr_M} {m v : Nat} {f : Nat → Nat} {N : tr_M} (hok : WOk w) (hw : MWd w M2) (hf : Ord w.1 f) (hm : m ≤ 4) (hv : v ≤ 10000) (hs : SM M2 N) (hc : ∀ t, t < w.1 → N.1 12 t = nI (f t)) : ∃ P, tr_loop (mX7_swaps_l59 (nI m)) (-9, nI v, 0, N) = some (oi (scn w m (swV f) (swT f) v (w.1 - 1)).2, nI (scn w m (swV f) (swT f) v (w.1 - 1)).1, P) ∧ SM M2 P ∧ ∀ t, t < w.1 → P.1 12 t = nI (f t) := by
  have hn := hok.1
  obtain ⟨r, e1, P, e2, e3⟩ := tr_loop_inv (step := mX7_swaps_l59 (nI m)) (s0 := (-9, nI v, 0, N)) (fun i s => ∃ P, s = (oi (scn w m (swV f) (swT f) v i).2, nI (scn w m (swV f) (swT f) v i).1, nI i, P) ∧ SM M2 P ∧ ∀ t, t < w.1 → P.1 12 t = nI (f t)) (fun r => ∃ P, r = (oi (scn w m (swV f) (swT f) v (w.1 - 1)).2, nI (scn w m (swV f) (swT f) v (w.1 - 1)).1, P) ∧ SM M2 P ∧ ∀ t, t < w.1 → P.1 12 t = nI (f t)) (w.1 - 1) (by omega) ⟨N, rfl, hs, hc⟩ (by
    rintro i s hi ⟨P, rfl, hsm, hl⟩
    left
    have hi2 : i + 1 < w.1 := by omega
    have hmP := hw.sm hsm
    have hg : Ord w.1 (swT f i) := sw_ord hf (by omega) hi2
    obtain ⟨Q, q1, q2, q3, q4⟩ := swap_eq hn (show i < w.1 by omega) hi2 hl
    have hsQ : SM M2 Q := hsm.tr ⟨fun c _ h _ _ _ => q3 c h, q4⟩
    have hlay := layPlaces_eq hok (hw.sm hsQ).1 hg q2
    have hMO := lay_MOr hg q2
    have hsR : SM M2 (tr_row Q 13 (sa (swT f i) (Q.1 13) w.1)) := hsQ.tr (SM.row (by omega))
    have hmR := hw.sm hsR
    obtain ⟨S, s1, s2, s3, s4⟩ := swap_eq hn (show i < w.1 by omega) hi2 hMO.1
    have hsS : SM M2 S := hsR.tr ⟨fun c _ h _ _ _ => s3 c h, s4⟩
    have hml := msr_le hok m (swT f i)
    have hsc := (scn_ok w m (swV f) (swT f) v i).1
    refine ⟨_, ?_, S, rfl, hsS, fun t ht => ?_⟩
    · unfold mX7_swaps_l59
      dsimp only
      have c1 : nI (i + 1) < nI w.1 := (nlt (by omega) (by omega)).mpr hi2
      rw [nadd1, hmP.1, if_pos c1, q1]
      dsimp only [Option.bind_some]
      rw [hlay]
      dsimp only [Option.bind_some]
      rw [brokenNow_eq hok hmR hg hMO]
      dsimp only [Option.bind_some]
      rw [measureNow_eq hok hmR hg hMO hm, s1, scn_s]
      by_cases o : okf w none (swT f i) = true
      · rw [if_pos ((brk_none hok).mpr o)]
        dsimp only [Option.bind_some]
        simp (disch := omega) only [nlt]
        by_cases d : msr w m (swT f i) < (scn w m (swV f) (swT f) v i).1
        · rw [if_pos d, if_pos ⟨rfl, o, d⟩]
          rfl
        · rw [if_neg d, if_neg (fun z => d z.2.2)]
      · rw [if_neg (fun z => o ((brk_none hok).mp z))]
        dsimp only [Option.bind_some]
        have c2 : ¬ (1000000 : Int32) < nI (scn w m (swV f) (swT f) v i).1 := by
          rw [show (1000000 : Int32) = nI 1000000 from rfl, nlt (by decide) (by omega)]
          omega
        rw [if_neg c2, if_neg (fun z => o z.2.1)]
    · rw [s2 t ht]
      exact congrArg nI (sw_sw f i (i + 1) t)) (by
    rintro s ⟨P, rfl, hsm, hl⟩
    refine ⟨_, ?_, P, rfl, hsm, hl⟩
    unfold mX7_swaps_l59
    dsimp only
    have c1 : ¬ nI (w.1 - 1 + 1) < nI w.1 := by rw [nlt (by omega) (by omega)]; omega
    rw [nadd1, (hw.sm hsm).1, if_neg c1])
  exact ⟨P, by rw [e1, e2], e3⟩
