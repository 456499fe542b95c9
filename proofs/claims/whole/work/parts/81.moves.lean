/-! ===== moves ===== -/
def mvp (q p t : Nat) : Nat := if t = p then q else if q ≤ t ∧ t < p then t + 1 else if p < t ∧ t ≤ q then t - 1 else t
theorem mvp_lt {n q p t : Nat} (hq : q < n) (hp : p < n) (ht : t < n) : mvp q p t < n := by
  unfold mvp
  split
  · exact hq
  · split
    · omega
    · split <;> omega
theorem mvp_inv {q p t : Nat} : mvp q p (mvp p q t) = t := by
  unfold mvp
  by_cases c1 : t = q
  · rw [if_pos c1]
    by_cases c2 : p = q
    · simp [c2, c1]
    · simp [c1]
  · rw [if_neg c1]
    by_cases c2 : p ≤ t ∧ t < q
    · rw [if_pos c2, if_neg (by omega), if_neg (by omega), if_pos (by omega)]
      omega
    · rw [if_neg c2]
      by_cases c3 : q < t ∧ t ≤ p
      · rw [if_pos c3, if_neg (by omega), if_pos (by omega)]
        omega
      · rw [if_neg c3, if_neg (by omega), if_neg (by omega), if_neg (by omega)]
theorem mv_ord {n : Nat} {f : Nat → Nat} (h : Ord n f) {q p : Nat} (hq : q < n) (hp : p < n) : Ord n (fun t => f (mvp q p t)) := by
  refine ⟨fun t ht => h.1 _ (mvp_lt hq hp ht), fun t s ht hs e => ?_⟩
  have e2 := h.2 _ _ (mvp_lt hq hp ht) (mvp_lt hq hp hs) e
  have e3 := congrArg (mvp p q) e2
  rw [mvp_inv, mvp_inv] at e3
  exact e3
def mvV (n : Nat) : (Nat → Nat) → Nat → Bool := fun f k => !decide (sf f (k / n) n = k % n)
def mvT (n : Nat) : (Nat → Nat) → Nat → Nat → Nat := fun f k t => f (mvp (sf f (k / n) n) (k % n) t)
theorem kdiv {n a p : Nat} (hp : p < n) : (n * a + p) / n = a := by
  rw [Nat.mul_add_div (by omega), Nat.div_eq_of_lt hp, Nat.add_zero]
theorem kmod {n a p : Nat} (hp : p < n) : (n * a + p) % n = p := by
  rw [Nat.mul_add_mod, Nat.mod_eq_of_lt hp]
theorem moveInto_eq {w : Wd} {a p q : Nat} {f : Nat → Nat} {N : tr_M} (hok : WOk w) (hN : N.1 26 0 = nI w.1) (hf : Ord w.1 f) (ha : a < w.1) (hp : p < w.1) (hq : q = sf f a w.1) (hc : HasF N 58 w.1 f) : ∃ P, mX6_moveInto (nI a) (nI p) N = some P ∧ (∀ c, c ≠ 59 → P.1 c = N.1 c) ∧ P.2 = N.2 ∧ HasF P 59 w.1 (fun t => f (mvp q p t)) := by
  have hn := hok.1
  have hqn : q < w.1 := by rw [hq]; exact (sf_ord hf ha).2
  have hfq : f q = a := by rw [hq]; exact (sf_ord hf ha).1
  unfold mX6_moveInto
  obtain ⟨r, e1, P, e2, e3, e4, e5⟩ := tr_loop_inv (step := mX6_moveInto_l5 (nI a) (nI p)) (s0 := (0, 0, N)) (fun i s => ∃ c j P, s = (nI j, nI i, P) ∧ ((i ≤ q ∧ c = i) ∨ (q < i ∧ c + 1 = i)) ∧ ((c ≤ p ∧ j = c) ∨ (p < c ∧ j = c + 1)) ∧ (∀ b, b ≠ 59 → P.1 b = N.1 b) ∧ P.2 = N.2 ∧ ∀ t, t < j → t ≠ p → P.1 59 t = nI (f (mvp q p t))) (fun r => ∃ P, r = P ∧ (∀ b, b ≠ 59 → P.1 b = N.1 b) ∧ P.2 = N.2 ∧ HasF P 59 w.1 (fun t => f (mvp q p t))) w.1 (by omega) ⟨0, 0, N, rfl, Or.inl ⟨by omega, rfl⟩, Or.inl ⟨by omega, rfl⟩, fun _ _ => rfl, rfl, fun t ht => by omega⟩ (by
    rintro i s hi ⟨c, j, P, rfl, hci, hj, h1, h2, h3⟩
    left
    have hfi := hf.1 i hi
    have hP : P.1 26 0 = nI w.1 := by rw [h1 26 (by decide)]; exact hN
    have hP58 : P.1 58 i = nI (f i) := by rw [h1 58 (by decide)]; exact hc i hi
    have c1 : nI i < nI w.1 := (nlt (by omega) (by omega)).mpr hi
    unfold mX6_moveInto_l5
    dsimp only
    rw [hP, if_pos c1, tr_rd_nI (by omega) (by decide)]
    simp only [Option.bind_some]
    rw [hP58]
    simp (disch := omega) only [neq]
    by_cases d : f i = a
    · have hiq : i = q := by rw [hq]; exact (sf_iff hf ha hi).mp d
      rw [if_pos d, nadd1]
      exact ⟨_, rfl, c, j, P, rfl, by omega, hj, h1, h2, h3⟩
    · have hiq : i ≠ q := fun e => d (by rw [e]; exact hfq)
      rw [if_neg d]
      obtain ⟨v, hv1, hv2⟩ : ∃ v, (if j = p then some (nI j + 1) else some (nI j)) = some (nI v) ∧ ((c < p ∧ v = c) ∨ (p ≤ c ∧ v = c + 1)) := by
        by_cases e : j = p
        · exact ⟨j + 1, by rw [if_pos e, nadd1], by omega⟩
        · exact ⟨j, by rw [if_neg e], by omega⟩
      rw [hv1]
      have hmv : mvp q p v = i := by
        unfold mvp
        by_cases z1 : v = p
        · omega
        · rw [if_neg z1]
          by_cases z2 : q ≤ v ∧ v < p
          · rw [if_pos z2]; omega
          · rw [if_neg z2]
            by_cases z3 : p < v ∧ v ≤ q
            · rw [if_pos z3]; omega
            · rw [if_neg z3]; omega
      dsimp only [Option.bind_some]
      rw [tr_wr_nI (by omega) (by decide)]
      dsimp only [Option.bind_some]
      rw [nadd1, nadd1]
      refine ⟨_, rfl, c + 1, v + 1, _, rfl, by omega, by omega, fun b hb => by rw [tr_st_ne hb]; exact h1 b hb, h2, fun t ht htp => ?_⟩
      by_cases e : t = v
      · rw [e, tr_st_s, hmv]
      · rw [tr_st_j e]
        exact h3 t (by omega) htp) (by
    rintro s ⟨c, j, P, rfl, hci, hj, h1, h2, h3⟩
    have hP : P.1 26 0 = nI w.1 := by rw [h1 26 (by decide)]; exact hN
    have c1 : ¬ nI w.1 < nI w.1 := by rw [nlt (by omega) (by omega)]; omega
    unfold mX6_moveInto_l5
    dsimp only
    rw [hP, if_neg c1, tr_wr_nI (by omega) (by decide)]
    refine ⟨_, rfl, _, rfl, fun b hb => by rw [tr_st_ne hb]; exact h1 b hb, h2, fun t ht => ?_⟩
    show _ = nI (f (mvp q p t))
    by_cases e : t = p
    · rw [e, tr_st_s]
      unfold mvp
      rw [if_pos rfl, hfq]
    · rw [tr_st_j e]
      exact h3 t (by omega) e)
  exact ⟨P, by rw [e1, e2], e3, e4, e5⟩
theorem bestMove_eq {w : Wd} {M1 : tr_M} {m v : Nat} {f : Nat → Nat} {N : tr_M} (hok : WOk w) (hw : CWd w 26 M1) (hf : Ord w.1 f) (hm : m ≤ 4) (hv : v ≤ 10000) (hs : SC M1 N) (hc : HasF N 58 w.1 f) : ∃ P, mX6_bestMove (nI m) (nI v) N = some (nI (scn w m (mvV w.1 f) (mvT w.1 f) v (w.1 * w.1)).1, P) ∧ CS w M1 f (mvT w.1 f) (scn w m (mvV w.1 f) (mvT w.1 f) v (w.1 * w.1)).2 P := by
  have hn := hok.1
  unfold mX6_bestMove
  have inner : ∀ a P, a < w.1 → CS w M1 f (mvT w.1 f) (scn w m (mvV w.1 f) (mvT w.1 f) v (w.1 * a)).2 P → ∃ Q, tr_loop (mX6_bestMove_l20 (nI m) (nI (scn w m (mvV w.1 f) (mvT w.1 f) v (w.1 * a)).1, nI a, P)) (nI (scn w m (mvV w.1 f) (mvT w.1 f) v (w.1 * a)).1, 0, P) = some (.inl (nI (scn w m (mvV w.1 f) (mvT w.1 f) v (w.1 * (a + 1))).1, nI (a + 1), Q)) ∧ CS w M1 f (mvT w.1 f) (scn w m (mvV w.1 f) (mvT w.1 f) v (w.1 * (a + 1))).2 Q := fun a P ha hP => by
    obtain ⟨r, e1, Q, e2, e3⟩ := tr_loop_inv (step := mX6_bestMove_l20 (nI m) (nI (scn w m (mvV w.1 f) (mvT w.1 f) v (w.1 * a)).1, nI a, P)) (s0 := (nI (scn w m (mvV w.1 f) (mvT w.1 f) v (w.1 * a)).1, 0, P)) (fun p s => ∃ Q, s = (nI (scn w m (mvV w.1 f) (mvT w.1 f) v (w.1 * a + p)).1, nI p, Q) ∧ CS w M1 f (mvT w.1 f) (scn w m (mvV w.1 f) (mvT w.1 f) v (w.1 * a + p)).2 Q) (fun r => ∃ Q, r = .inl (nI (scn w m (mvV w.1 f) (mvT w.1 f) v (w.1 * (a + 1))).1, nI (a + 1), Q) ∧ CS w M1 f (mvT w.1 f) (scn w m (mvV w.1 f) (mvT w.1 f) v (w.1 * (a + 1))).2 Q) w.1 (by omega) ⟨P, rfl, hP⟩ (by
      rintro p s hp ⟨Q, rfl, hQ⟩
      left
      have hQ0 := hw.sc0 hQ.1
      have hfp := hf.1 p hp
      have c1 : nI p < nI w.1 := (nlt (by omega) (by omega)).mpr hp
      unfold mX6_bestMove_l20
      dsimp only
      rw [hQ0, if_pos c1, tr_rd_nI (by omega) (by decide)]
      simp only [Option.bind_some]
      rw [hQ.2.1 p hp]
      simp (disch := omega) only [neq]
      have hdv : (w.1 * a + p) / w.1 = a := kdiv hp
      have hmd : (w.1 * a + p) % w.1 = p := kmod hp
      by_cases d : f p = a
      · have hpq := (sf_iff hf ha hp).mp d
        rw [if_pos d, nadd1]
        have hV : ¬ mvV w.1 f (w.1 * a + p) = true := by
          unfold mvV
          rw [hdv, hmd, ← hpq]
          simp
        have hsc : scn w m (mvV w.1 f) (mvT w.1 f) v (w.1 * a + (p + 1)) = scn w m (mvV w.1 f) (mvT w.1 f) v (w.1 * a + p) := by
          rw [← Nat.add_assoc, scn_s, if_neg (fun z => hV z.1)]
        rw [hsc]
        exact ⟨_, rfl, Q, rfl, hQ⟩
      · have hpq : sf f a w.1 ≠ p := fun e => d ((sf_iff hf ha hp).mpr e.symm)
        rw [if_neg d]
        obtain ⟨R, r1, r2, r3, r4⟩ := moveInto_eq hok hQ0 hf ha hp rfl hQ.2.1
        have hV : mvV w.1 f (w.1 * a + p) = true := by
          unfold mvV
          rw [hdv, hmd]
          simp [hpq]
        have hTk : mvT w.1 f (w.1 * a + p) = fun t => f (mvp (sf f a w.1) p t) := by
          unfold mvT
          rw [hdv, hmd]
        have hR : CS w M1 f (mvT w.1 f) (scn w m (mvV w.1 f) (mvT w.1 f) v (w.1 * a + p)).2 R := ⟨hQ.1.tr ⟨fun c _ _ _ _ => r2 c (by omega), r3⟩, fun t ht => by rw [r2 58 (by decide)]; exact hQ.2.1 t ht, fun j hj t ht => by rw [r2 60 (by decide)]; exact hQ.2.2 j hj t ht⟩
        obtain ⟨S, k1, k2⟩ := keep_CS (k := w.1 * a + p) (V := mvV w.1 f) (T := mvT w.1 f) hok hw (by rw [hTk]; exact mv_ord hf (sf_ord hf ha).2 hp) (by rw [hTk]; exact r4) hm hv hV hR
        rw [r1]
        dsimp only [Option.bind_some]
        rw [k1]
        dsimp only [Option.bind_some]
        rw [nadd1, show w.1 * a + p + 1 = w.1 * a + (p + 1) by omega]
        rw [show w.1 * a + p + 1 = w.1 * a + (p + 1) by omega] at k2
        exact ⟨_, rfl, S, rfl, k2⟩) (by
      rintro s ⟨Q, rfl, hQ⟩
      have hQ0 := hw.sc0 hQ.1
      have c1 : ¬ nI w.1 < nI w.1 := by rw [nlt (by omega) (by omega)]; omega
      rw [show w.1 * a + w.1 = w.1 * (a + 1) by rw [Nat.mul_add, Nat.mul_one]] at hQ
      refine ⟨_, ?_, Q, rfl, hQ⟩
      unfold mX6_bestMove_l20
      dsimp only
      rw [hQ0, if_neg c1, nadd1, show w.1 * a + w.1 = w.1 * (a + 1) by rw [Nat.mul_add, Nat.mul_one]])
    exact ⟨Q, by rw [e1, e2], e3⟩
  obtain ⟨r, e1, P, e2, e3⟩ := tr_loop_inv (step := mX6_bestMove_l5 (nI m)) (s0 := (nI v, 0, N)) (fun a s => ∃ P, s = (nI (scn w m (mvV w.1 f) (mvT w.1 f) v (w.1 * a)).1, nI a, P) ∧ CS w M1 f (mvT w.1 f) (scn w m (mvV w.1 f) (mvT w.1 f) v (w.1 * a)).2 P) (fun r => ∃ P, r = (nI (scn w m (mvV w.1 f) (mvT w.1 f) v (w.1 * w.1)).1, P) ∧ CS w M1 f (mvT w.1 f) (scn w m (mvV w.1 f) (mvT w.1 f) v (w.1 * w.1)).2 P) w.1 (by omega) ⟨N, by rw [Nat.mul_zero]; rfl, by rw [Nat.mul_zero]; exact ⟨hs, hc, fun j h => by cases h⟩⟩ (by
    rintro a s ha ⟨P, rfl, hP⟩
    left
    obtain ⟨Q, q1, q2⟩ := inner a P ha hP
    refine ⟨_, ?_, Q, rfl, q2⟩
    unfold mX6_bestMove_l5
    dsimp only
    have c1 : nI a < nI w.1 := (nlt (by omega) (by omega)).mpr ha
    rw [hw.sc0 hP.1, if_pos c1]
    exact q1) (by
    rintro s ⟨P, rfl, hP⟩
    refine ⟨_, ?_, P, rfl, hP⟩
    unfold mX6_bestMove_l5
    dsimp only
    have c1 : ¬ nI w.1 < nI w.1 := by rw [nlt (by omega) (by omega)]; omega
    rw [hw.sc0 hP.1, if_neg c1])
  exact ⟨P, by rw [e1, e2], e3⟩
