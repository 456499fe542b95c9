theorem shift_eq {w : Wd} {q p : Nat} {f : Nat → Nat} {M : tr_M} (hok : WOk w) (hM : M.1 1 10 = nI w.1) (hf : Ord w.1 f) (hq : q < w.1) (hp : p < w.1) (hc : ∀ t, t < w.1 → M.1 12 t = nI (f t)) : ∃ N, mX7_shift (nI q) (nI p) M = some N ∧ MOr w (fun t => f (mvp q p t)) N ∧ SM M N := by
  have hn := hok.1
  unfold mX7_shift
  rw [tr_rd_nI (by omega) (by decide)]
  dsimp only [Option.bind_some]
  have e1 : tr_loop (mX7_shift_l10 (nI p)) (nI q, M) = some (tr_row M 12 (fun t => if q ≤ t ∧ t < p then M.1 12 (t + 1) else M.1 12 t)) := by
    refine tr_loop_seq' (fun d => (nI (q + d), tr_row M 12 (fun t => if q ≤ t ∧ t < q + d then M.1 12 (t + 1) else M.1 12 t))) (p - q) ?_ (by omega) (fun d hd => ?_) ?_
    · show (nI (q + 0), tr_row M 12 (fun t => if q ≤ t ∧ t < q + 0 then M.1 12 (t + 1) else M.1 12 t)) = _
      rw [tr_row_id (funext fun t => if_neg (by omega))]
      rfl
    · unfold mX7_shift_l10
      dsimp only
      have c1 : nI (q + d) < nI p := (nlt (by omega) (by omega)).mpr (by omega)
      rw [if_pos c1, nadd1, tr_rd_nI (by omega) (by decide)]
      dsimp only [Option.bind_some]
      rw [tr_wr_nI (by omega) (by decide), Option.bind_some, tr_row_st, tr_row_s, show q + (d + 1) = q + d + 1 by omega]
      congr 4
      funext t
      by_cases e : t = q + d
      · subst e
        rw [if_pos rfl, if_neg (by omega), if_pos (by omega)]
      · rw [if_neg e]
        by_cases e2 : q ≤ t ∧ t < q + d
        · rw [if_pos e2, if_pos (by omega)]
        · rw [if_neg e2, if_neg (by omega)]
    · unfold mX7_shift_l10
      dsimp only
      have c1 : ¬ nI (q + (p - q)) < nI p := by rw [nlt (by omega) (by omega)]; omega
      rw [if_neg c1]
      congr 3
      funext t
      by_cases e2 : q ≤ t ∧ t < q + (p - q)
      · rw [if_pos e2, if_pos (by omega)]
      · rw [if_neg e2, if_neg (by omega)]
  rw [e1]
  dsimp only [Option.bind_some]
  generalize hM3 : tr_row M 12 (fun t => if q ≤ t ∧ t < p then M.1 12 (t + 1) else M.1 12 t) = M3
  have e2 : tr_loop (mX7_shift_l41 (nI p)) (nI q, M3) = some (tr_row M3 12 (fun t => if p < t ∧ t ≤ q then M3.1 12 (t - 1) else M3.1 12 t)) := by
    refine tr_loop_seq' (fun d => (nI (q - d), tr_row M3 12 (fun t => if q - d < t ∧ t ≤ q then M3.1 12 (t - 1) else M3.1 12 t))) (q - p) ?_ (by omega) (fun d hd => ?_) ?_
    · show (nI (q - 0), tr_row M3 12 (fun t => if q - 0 < t ∧ t ≤ q then M3.1 12 (t - 1) else M3.1 12 t)) = _
      rw [tr_row_id (funext fun t => if_neg (by omega))]
      rfl
    · unfold mX7_shift_l41
      dsimp only
      have c1 : nI p < nI (q - d) := (nlt (by omega) (by omega)).mpr (by omega)
      have e0 : nI (q - d) - 1 = nI (q - d - 1) := nsub (b := 1) (by omega)
      rw [if_pos c1, e0, tr_rd_nI (by omega) (by decide)]
      dsimp only [Option.bind_some]
      rw [tr_wr_nI (by omega) (by decide), Option.bind_some, tr_row_st, tr_row_s, nsub1 (by omega), show q - (d + 1) = q - d - 1 by omega]
      congr 4
      funext t
      by_cases e : t = q - d
      · subst e
        rw [if_pos rfl, if_neg (by omega), if_pos (by omega)]
      · rw [if_neg e]
        by_cases e2 : q - d < t ∧ t ≤ q
        · rw [if_pos e2, if_pos (by omega)]
        · rw [if_neg e2, if_neg (by omega)]
    · unfold mX7_shift_l41
      dsimp only
      have c1 : ¬ nI p < nI (q - (q - p)) := by rw [nlt (by omega) (by omega)]; omega
      rw [if_neg c1]
      congr 3
      funext t
      by_cases e2 : q - (q - p) < t ∧ t ≤ q
      · rw [if_pos e2, if_pos (by omega)]
      · rw [if_neg e2, if_neg (by omega)]
  rw [e2]
  dsimp only [Option.bind_some]
  rw [tr_wr_nI (by omega) (by decide)]
  dsimp only [Option.bind_some]
  generalize hM4 : tr_st (tr_row M3 12 (fun t => if p < t ∧ t ≤ q then M3.1 12 (t - 1) else M3.1 12 t)) 12 p (M.1 12 q) = M4
  have h4 : ∀ c, c ≠ 12 → M4.1 c = M.1 c := fun c hc => by rw [← hM4, tr_st_ne hc, tr_row_ne hc, ← hM3, tr_row_ne hc]
  have hs4 : SM M M4 := ⟨fun c _ h _ _ _ => h4 c h, by rw [← hM4, ← hM3]; rfl⟩
  have hl4 : ∀ t, t < w.1 → M4.1 12 t = nI (f (mvp q p t)) := fun t ht => by
    rw [← hM4, tr_st_1]
    unfold mvp
    by_cases c1 : t = p
    · rw [if_pos ⟨rfl, c1⟩, if_pos c1, hc q hq]
    · rw [if_neg (fun z => c1 z.2), if_neg c1, tr_row_s, ← hM3, tr_row_s]
      by_cases c2 : q ≤ t ∧ t < p
      · rw [if_neg (by omega), if_pos c2, if_pos c2, hc (t + 1) (by omega)]
      · by_cases c3 : p < t ∧ t ≤ q
        · rw [if_pos c3, if_neg (show ¬ (q ≤ t - 1 ∧ t - 1 < p) by omega), if_neg c2, if_pos c3, hc (t - 1) (by omega)]
        · rw [if_neg c3, if_neg c2, if_neg c2, if_neg c3, hc t ht]
  have hg := mv_ord hf hq hp
  rw [layPlaces_eq hok (by rw [h4 1 (by decide)]; exact hM) hg hl4]
  exact ⟨_, rfl, lay_MOr hg hl4, hs4.tr (SM.row (by omega))⟩
theorem MOr.cg {w : Wd} {f g : Nat → Nat} {M : tr_M} (h : MOr w f M) (hf : Ord w.1 f) (e : f = g) : MOr w g M := by subst e; exact h
theorem movesRound {w : Wd} {M2 : tr_M} {m v : Nat} {f : Nat → Nat} {N : tr_M} (hok : WOk w) (hw : MWd w M2) (hf : Ord w.1 f) (hm : m ≤ 4) (hv : v ≤ 10000) (hs : SM M2 N) (hc : MOr w f N) : ∃ P, tr_loop (mX7_moves_l59 (nI m)) (-9, nI v, 0, N) = some (oi (scn w m (mvV w.1 f) (mvT w.1 f) v (w.1 * w.1)).2, nI (scn w m (mvV w.1 f) (mvT w.1 f) v (w.1 * w.1)).1, P) ∧ SM M2 P ∧ MOr w f P := by
  have hn := hok.1
  have hnn : w.1 * w.1 ≤ 100 := Nat.mul_le_mul hn hn
  obtain ⟨r, e1, P, e2, e3⟩ := tr_loop_inv (step := mX7_moves_l59 (nI m)) (s0 := (-9, nI v, 0, N)) (fun i s => ∃ P, s = (oi (scn w m (mvV w.1 f) (mvT w.1 f) v i).2, nI (scn w m (mvV w.1 f) (mvT w.1 f) v i).1, nI i, P) ∧ SM M2 P ∧ MOr w f P) (fun r => ∃ P, r = (oi (scn w m (mvV w.1 f) (mvT w.1 f) v (w.1 * w.1)).2, nI (scn w m (mvV w.1 f) (mvT w.1 f) v (w.1 * w.1)).1, P) ∧ SM M2 P ∧ MOr w f P) (w.1 * w.1) (by omega) ⟨N, rfl, hs, hc⟩ (by
    rintro i s hi ⟨P, rfl, hsm, hl⟩
    left
    have hpos : 0 < w.1 := by
      refine Nat.pos_of_ne_zero fun e => ?_
      rw [e] at hi
      omega
    have hmP := hw.sm hsm
    have ha : i / w.1 < w.1 := Nat.div_lt_of_lt_mul hi
    have hp : i % w.1 < w.1 := Nat.mod_lt _ hpos
    obtain ⟨hq1, hq⟩ := sf_ord hf ha
    have hg : Ord w.1 (mvT w.1 f i) := mv_ord hf hq hp
    obtain ⟨Q, q1, q2, q3⟩ := shift_eq hok hmP.1 hf hq hp hl.1
    have q2 : MOr w (mvT w.1 f i) Q := q2
    have hsQ : SM M2 Q := hsm.tr q3
    have hmQ := hw.sm hsQ
    obtain ⟨S, s1, s2, s3⟩ := shift_eq hok hmQ.1 hg hp hq q2.1
    have hsS : SM M2 S := hsQ.tr s3
    have hback : (fun t => mvT w.1 f i (mvp (i % w.1) (sf f (i / w.1) w.1) t)) = f := funext fun t => by
      show f (mvp (sf f (i / w.1) w.1) (i % w.1) (mvp (i % w.1) (sf f (i / w.1) w.1) t)) = f t
      rw [mvp_inv]
    rw [hback] at s2
    have hml := msr_le hok m (mvT w.1 f i)
    have hsc := (scn_ok w m (mvV w.1 f) (mvT w.1 f) v i).1
    refine ⟨_, ?_, S, rfl, hsS, s2⟩
    unfold mX7_moves_l59
    dsimp only
    have c1 : nI i < nI (w.1 * w.1) := (nlt (by omega) (by omega)).mpr hi
    have cn : ¬ nI w.1 = 0 := by rw [n00, neq (by omega) (by decide)]; omega
    rw [hmP.1, nmul, if_pos c1]
    unfold tr_dvi tr_rmi
    rw [if_neg cn, if_neg cn, pk_div (by omega) hpos (by omega)]
    dsimp only [Option.bind_some]
    rw [tr_rd_nI (by omega) (by decide)]
    dsimp only [Option.bind_some]
    rw [hl.2 (i / w.1) ha]
    have hrem := pk_rem (a := i) (d := w.1) (by omega) hpos (by omega)
    rw [pk_div (by omega) hpos (by omega)] at hrem
    rw [hrem, q1]
    dsimp only [Option.bind_some]
    rw [brokenNow_eq hok hmQ hg q2]
    dsimp only [Option.bind_some]
    rw [measureNow_eq hok hmQ hg q2 hm, s1, scn_s, nadd1]
    have hqp : (nI (sf f (i / w.1) w.1) = nI (i % w.1)) ↔ sf f (i / w.1) w.1 = i % w.1 := neq (by omega) (by omega)
    have hVi : mvV w.1 f i = true ↔ ¬ sf f (i / w.1) w.1 = i % w.1 := by
      unfold mvV
      rw [Bool.not_eq_true', decide_eq_false_iff_not]
    by_cases o : okf w none (mvT w.1 f i) = true
    · rw [if_pos ((brk_none hok).mpr o)]
      dsimp only [Option.bind_some]
      by_cases z : sf f (i / w.1) w.1 = i % w.1
      · rw [if_pos (hqp.mpr z), if_neg (show ¬ (mvV w.1 f i = true ∧ okf w none (mvT w.1 f i) = true ∧ msr w m (mvT w.1 f i) < (scn w m (mvV w.1 f) (mvT w.1 f) v i).1) from fun y => (hVi.mp y.1) z)]
      · rw [if_neg (fun y => z (hqp.mp y))]
        simp (disch := omega) only [nlt]
        by_cases d : msr w m (mvT w.1 f i) < (scn w m (mvV w.1 f) (mvT w.1 f) v i).1
        · rw [if_pos d, if_pos ⟨hVi.mpr z, o, d⟩]
          rfl
        · rw [if_neg d, if_neg (show ¬ (mvV w.1 f i = true ∧ okf w none (mvT w.1 f i) = true ∧ msr w m (mvT w.1 f i) < (scn w m (mvV w.1 f) (mvT w.1 f) v i).1) from fun y => d y.2.2)]
    · rw [if_neg (fun y => o ((brk_none hok).mp y))]
      dsimp only [Option.bind_some]
      have c2 : ¬ (1000000 : Int32) < nI (scn w m (mvV w.1 f) (mvT w.1 f) v i).1 := by
        rw [show (1000000 : Int32) = nI 1000000 from rfl, nlt (by decide) (by omega)]
        omega
      rw [if_neg c2, if_neg (show ¬ (mvV w.1 f i = true ∧ okf w none (mvT w.1 f i) = true ∧ msr w m (mvT w.1 f i) < (scn w m (mvV w.1 f) (mvT w.1 f) v i).1) from fun y => o y.2.1)]
      by_cases z : nI (sf f (i / w.1) w.1) = nI (i % w.1)
      · rw [if_pos z]
      · rw [if_neg z]) (by
    rintro s ⟨P, rfl, hsm, hl⟩
    refine ⟨_, ?_, P, rfl, hsm, hl⟩
    unfold mX7_moves_l59
    dsimp only
    have c1 : ¬ nI (w.1 * w.1) < nI (w.1 * w.1) := by rw [nlt (by omega) (by omega)]; omega
    rw [(hw.sm hsm).1, nmul, if_neg c1])
  exact ⟨P, by rw [e1, e2], e3⟩
theorem oi_ne (o : Nat) (h : o < 1000) : nI o ≠ -9 := fun e => by
  have := nI_pos (n := o) (by omega)
  rw [e] at this
  exact this (by decide)
/-- the class: a row of an allowed order is bettered -/
theorem improved_c {w : Wd} {M1 : tr_M} {m c : Nat} {v7 : Int32 × tr_M} {b : Int32} {f : Nat → Nat} {N : tr_M} {V : Nat → Bool} {T : Nat → Nat → Nat} {K v : Nat} (hok : WOk w) (h7 : v7.2.1 26 0 = nI w.1) (hc : c < 100000) (hv : v ≤ 10000) (hT : ∀ j, j < K → V j = true → Ord w.1 (T j)) (hB : ∃ P, (if b = 0 then Option.bind (mX6_bestSwap (nI m) (nI v) N) (fun c21 => some (c21.1, c21.2)) else Option.bind (mX6_bestMove (nI m) (nI v) N) (fun c23 => some (c23.1, c23.2))) = some (nI (scn w m V T v K).1, P) ∧ CS w M1 f T (scn w m V T v K).2 P) : ((scn w m V T v K).2 = none → ∃ P, mX6_improved_l113 (nI m) b v7 (nI v, nI c, nI c, N) = some (.inr (nI v, nI c, P)) ∧ SC M1 P ∧ HasF P 58 w.1 f) ∧ ∀ j, (scn w m V T v K).2 = some j → ∃ P, mX6_improved_l113 (nI m) b v7 (nI v, nI c, nI c, N) = some (.inl (nI (msr w m (T j)), nI (c + 1), nI (c + 1), P)) ∧ SC M1 P ∧ HasF P 58 w.1 (T j) := by
  have hn := hok.1
  obtain ⟨P, e1, e2⟩ := hB
  obtain ⟨k1, k2, k3⟩ := scn_ok w m V T v K
  have c1 : nI c < (1000000 : Int32) := by rw [show (1000000 : Int32) = nI 1000000 from rfl]; exact (nlt (by omega) (by decide)).mpr (by omega)
  unfold mX6_improved_l113
  dsimp only
  rw [if_pos c1, e1]
  dsimp only [Option.bind_some]
  simp (disch := omega) only [nlt]
  constructor
  · intro h
    have := k2 h
    rw [if_neg (by omega)]
    exact ⟨P, rfl, e2.1, e2.2.1⟩
  · intro j h
    obtain ⟨a1, a2, a3, a4, a5⟩ := k3 j h
    rw [if_pos (by omega), h7, show tr_len shC 60 = 10 from rfl, show tr_len shC 58 = 10 from rfl]
    have ec := tr_cpy_nI (n0 := 10) (n1 := 10) (M := P) (a0 := 60) (a1 := 58) (sp := 0) (dp := 0) (n := w.1) (by omega) (by omega) (by decide) (by decide) (by decide) (by decide)
    rw [show tr_cpy 10 10 P 60 0 58 0 (nI w.1) = _ from ec, a1]
    simp only [Option.bind_some, nadd1]
    refine ⟨tr_row P 58 (va_cpy (P.1 60) (P.1 58) 0 0 w.1), rfl, e2.1.tr (SC.row (by omega)), fun i hi => ?_⟩
    rw [tr_row_s, pk_cpy_in (by omega) (by omega), Nat.zero_add, Nat.sub_zero]
    exact e2.2.2 j h i hi
