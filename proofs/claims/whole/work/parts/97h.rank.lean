theorem wanted_eq {n : Nat} {f : Nat → Nat} {M : tr_M} (hn : n ≤ 10) (hw : M.1 1 10 = nI n) (hl : ∀ i, i < n → M.1 12 i = nI (f i)) : ∃ N, tr_loop mX7_rank_l31 (0, M) = some N ∧ (∀ i, i < n → N.1 19 i = nI (f i)) ∧ (∀ c, c ≠ 19 → N.1 c = M.1 c) ∧ N.2 = M.2 := by
  obtain ⟨N, e, h1, h2, h3⟩ := tr_loop_inv (step := mX7_rank_l31) (s0 := (0, M)) (fun k t => t.1 = nI k ∧ (∀ i, i < k → t.2.1 19 i = nI (f i)) ∧ (∀ b, b ≠ 19 → t.2.1 b = M.1 b) ∧ t.2.2 = M.2) (fun N => (∀ i, i < n → N.1 19 i = nI (f i)) ∧ (∀ b, b ≠ 19 → N.1 b = M.1 b) ∧ N.2 = M.2) n (by omega) ⟨rfl, fun _ h => absurd h (by omega), fun _ _ => rfl, rfl⟩ (by
    rintro k ⟨-, N⟩ hk ⟨rfl, t1, t2, t3⟩
    left
    dsimp only at t1 t2 t3
    unfold mX7_rank_l31
    dsimp only
    rw [t2 1 (by decide), hw, if_pos ((nlt (by omega) (by omega)).mpr hk), tr_rd_nI (by omega) (by decide), Option.bind_some, tr_wr_nI (by omega) (by decide), Option.bind_some, nadd1, t2 12 (by decide), hl k hk]
    refine ⟨_, rfl, rfl, fun i hi => ?_, fun b hb => (tr_st_ne hb).trans (t2 b hb), t3⟩
    by_cases q : i = k
    · rw [q]; exact tr_st_s
    · exact (tr_st_j q).trans (t1 i (by omega))) (by
    rintro ⟨-, N⟩ ⟨rfl, t1, t2, t3⟩
    dsimp only at t1 t2 t3
    unfold mX7_rank_l31
    dsimp only
    rw [t2 1 (by decide), hw, if_neg (by rw [nlt (by omega) (by omega)]; omega)]
    exact ⟨N, rfl, t1, t2, t3⟩)
  exact ⟨N, e, h1, h2, h3⟩
