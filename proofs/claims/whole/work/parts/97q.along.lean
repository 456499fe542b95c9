theorem wB_nil (ad : Bool) (g : Nat → Nat) (B s : Nat) : wB ad g B s [] = 0 := by
  unfold wB
  split <;> rfl
/-- one place of the tables along least ways, in the model -/
theorem mgoes_eq {w : Wd} {m l2 B s l k : Nat} {ad : Bool} {g : Nat → Nat} {M : tr_M} (hok : WOk w) (hm : MWd w M) (hp : PinX none M) (h4 : m < 4) (hsum : mX7_isSum (nI l2) = if ad = true then 1 else 0) (hgl : ∀ s, g s ≤ 1000) (hBT : BT w (nxW stM w none) m M) (h15 : ∀ s, s < 2 ^ w.1 → M.1 15 s = nI (g s)) (hst : St w.1 s l) (hs : lft w.1 s = k + 1) (hl : l < w.1) (hB : B ≤ NV) (hT : ∀ s' l', St w.1 s' l' → l' < w.1 → s < s' → M.1 22 (s' * 10 + l') = nI (ms (Gd w (nxW stM w none) m) w.1 ad g s' (ls s' l')) ∧ M.1 23 (s' * 10 + l') = nI (wB ad g B s' (ext (Gd w (nxW stM w none) m) w.1 (lft w.1 s') s' (ls s' l')))) (h22 : M.1 22 (s * 10 + l) = nI NV) (h23 : M.1 23 (s * 10 + l) = nI 0) : ∃ N, mX7_goesOn (nI m) (nI l2) (nI s) (nI l) (nI B) M = some N ∧ N.1 22 (s * 10 + l) = nI (ms (Gd w (nxW stM w none) m) w.1 ad g s (ls s l)) ∧ N.1 23 (s * 10 + l) = nI (wB ad g B s (ext (Gd w (nxW stM w none) m) w.1 (lft w.1 s) s (ls s l))) ∧ (∀ c, c ≠ 22 → c ≠ 23 → N.1 c = M.1 c) ∧ (∀ j, j ≠ s * 10 + l → N.1 22 j = M.1 22 j ∧ N.1 23 j = M.1 23 j) ∧ N.2 = M.2 := by
  have hn := hok.1
  have hpw := pow_lt hn
  have hG : Fresh (Gd w (nxW stM w none) m) w.1 := Gd_fresh (nxW_fresh stM w none)
  have hs2 := hst.1
  have hk10 : k + 1 ≤ 10 := by unfold lft at hs; omega
  have hNV : NV = 1000000 := rfl
  unfold mX7_goesOn
  rw [hs, ms_eq hs]
  refine tr_loop_inv (step := mX7_goesOn_l11 (nI m) (nI l2) (nI s) (nI l) (nI B)) (s0 := (0, M)) (fun x t => ∃ N, t = (nI x, N) ∧ N.1 22 (s * 10 + l) = nI (cv (cost ad g s) (PA (Gd w (nxW stM w none) m) w.1 k s (ls s l) x)) ∧ N.1 23 (s * 10 + l) = nI (wB ad g B s (PA (Gd w (nxW stM w none) m) w.1 k s (ls s l) x)) ∧ (∀ c, c ≠ 22 → c ≠ 23 → N.1 c = M.1 c) ∧ (∀ j, j ≠ s * 10 + l → N.1 22 j = M.1 22 j ∧ N.1 23 j = M.1 23 j) ∧ N.2 = M.2) (fun N => N.1 22 (s * 10 + l) = nI (mv (Gd w (nxW stM w none) m) w.1 ad g (k + 1) s (ls s l)) ∧ N.1 23 (s * 10 + l) = nI (wB ad g B s (ext (Gd w (nxW stM w none) m) w.1 (k + 1) s (ls s l))) ∧ (∀ c, c ≠ 22 → c ≠ 23 → N.1 c = M.1 c) ∧ (∀ j, j ≠ s * 10 + l → N.1 22 j = M.1 22 j ∧ N.1 23 j = M.1 23 j) ∧ N.2 = M.2) w.1 (by omega) ⟨M, rfl, h22, by rw [show PA (Gd w (nxW stM w none) m) w.1 k s (ls s l) 0 = [] from rfl, wB_nil]; exact h23, fun _ _ _ => rfl, fun _ _ => ⟨rfl, rfl⟩, rfl⟩ ?_ ?_
  · rintro x t hx ⟨N, rfl, t1, t2, t3, t4, t5⟩
    left
    have kN : KX M N := ⟨fun c _ _ hc => t3 c (by omega) (by omega), fun k _ => by rw [t3 1 (by decide) (by decide)], t5⟩
    have hmN := hm.kx kN
    have hpN := hp.kx kN
    have hBN : BT w (nxW stM w none) m N := hBT.cg (t3 14 (by decide) (by decide)) (t3 16 (by decide) (by decide)) (by rw [t3 1 (by decide) (by decide)])
    have fin : ∀ u v : Nat, v = cv (cost ad g s) (PA (Gd w (nxW stM w none) m) w.1 k s (ls s l) (x + 1)) → u = wB ad g B s (PA (Gd w (nxW stM w none) m) w.1 k s (ls s l) (x + 1)) → ∃ s', some (Sum.inl (nI x + 1, tr_st (tr_st N 23 (s * 10 + l) (nI u)) 22 (s * 10 + l) (nI v)) : (Int32 × tr_M) ⊕ tr_M) = some (Sum.inl s') ∧ ∃ N, s' = (nI (x + 1), N) ∧ N.1 22 (s * 10 + l) = nI (cv (cost ad g s) (PA (Gd w (nxW stM w none) m) w.1 k s (ls s l) (x + 1))) ∧ N.1 23 (s * 10 + l) = nI (wB ad g B s (PA (Gd w (nxW stM w none) m) w.1 k s (ls s l) (x + 1))) ∧ (∀ c, c ≠ 22 → c ≠ 23 → N.1 c = M.1 c) ∧ (∀ j, j ≠ s * 10 + l → N.1 22 j = M.1 22 j ∧ N.1 23 j = M.1 23 j) ∧ N.2 = M.2 := fun u v hv hu => by
      refine ⟨_, rfl, _, Prod.ext (nadd1 _) rfl, ?_, ?_, fun c c1 c2 => ?_, fun j hj => ⟨?_, ?_⟩, t5⟩
      · rw [tr_st_s, hv]
      · rw [tr_st_ne (by decide), tr_st_s, hu]
      · rw [tr_st_ne c1, tr_st_ne c2, t3 c c1 c2]
      · rw [tr_st_j hj, tr_st_ne (by decide), (t4 j hj).1]
      · rw [tr_st_ne (by decide), tr_st_j hj, (t4 j hj).2]
    have skip : ¬ (Gd w (nxW stM w none) m s (ls s l) x = true ∧ mv (Gd w (nxW stM w none) m) w.1 ad g k (ins s x) x < NV) → ∃ s', some (Sum.inl (nI x + 1, N) : (Int32 × tr_M) ⊕ tr_M) = some (Sum.inl s') ∧ ∃ N, s' = (nI (x + 1), N) ∧ N.1 22 (s * 10 + l) = nI (cv (cost ad g s) (PA (Gd w (nxW stM w none) m) w.1 k s (ls s l) (x + 1))) ∧ N.1 23 (s * 10 + l) = nI (wB ad g B s (PA (Gd w (nxW stM w none) m) w.1 k s (ls s l) (x + 1))) ∧ (∀ c, c ≠ 22 → c ≠ 23 → N.1 c = M.1 c) ∧ (∀ j, j ≠ s * 10 + l → N.1 22 j = M.1 22 j ∧ N.1 23 j = M.1 23 j) ∧ N.2 = M.2 := fun h => by
      rw [PA_no hgl hk10 h]
      exact ⟨_, rfl, N, by rw [nadd1], t1, t2, t3, t4, t5⟩
    unfold mX7_goesOn_l11
    dsimp only
    have e6 : (if nI s = 0 then some (-9 : Int32) else some (nI l)) = some (lsI s l) := by
      unfold lsI
      by_cases z : s = 0
      · rw [if_pos z, if_pos (by rw [z]; rfl)]
      · rw [if_neg z, if_neg (by rw [neq0 (by omega)]; exact z)]
    rw [hmN.1, if_pos ((nlt (by omega) (by omega)).mpr hx), Option.bind_some, e6, Option.bind_some, isGood_eq hok hmN hpN h4 hBN hst hx, Option.bind_some]
    by_cases c : Gd w (nxW stM w none) m s (ls s l) x = true
    · have hfr := (hG _ _ _ c).2
      obtain ⟨z1, z2⟩ := St_ins hst.1 hx
      have hi := z1.1
      have hk' : lft w.1 (ins s x) = k := by have := lft_ins hx hfr; omega
      have gt := ins_gt hfr
      obtain ⟨a1, a2⟩ := hT (ins s x) x z1 hx gt
      rw [z2, ms_eq hk'] at a1
      rw [z2, hk'] at a2
      obtain ⟨b1, b2⟩ := t4 (ins s x * 10 + x) (by omega)
      rw [a1] at b1
      rw [a2] at b2
      have hmv : mv (Gd w (nxW stM w none) m) w.1 ad g k (ins s x) x ≤ NV := lm_le _ _
      have hgx := hgl (ins s x)
      have hcv := cv_le (cost ad g s) (PA (Gd w (nxW stM w none) m) w.1 k s (ls s l) x)
      have r15 : tr_rd 1024 N 15 (nI (ins s x)) = some (nI (g (ins s x))) := by rw [tr_rd_nI (by omega) (by decide), t3 15 (by decide) (by decide), h15 _ hi]
      have r22t : tr_rd 10240 N 22 (nI (ins s x * 10 + x)) = some (nI (mv (Gd w (nxW stM w none) m) w.1 ad g k (ins s x) x)) := by rw [tr_rd_nI (by omega) (by decide), b1]
      have r23t : tr_rd 10240 N 23 (nI (ins s x * 10 + x)) = some (nI (wB ad g B (ins s x) (ext (Gd w (nxW stM w none) m) w.1 k (ins s x) x))) := by rw [tr_rd_nI (by omega) (by decide), b2]
      have r22 : tr_rd 10240 N 22 (nI (s * 10 + l)) = some (nI (cv (cost ad g s) (PA (Gd w (nxW stM w none) m) w.1 k s (ls s l) x))) := by rw [tr_rd_nI (by omega) (by decide), t1]
      have r23 : tr_rd 10240 N 23 (nI (s * 10 + l)) = some (nI (wB ad g B s (PA (Gd w (nxW stM w none) m) w.1 k s (ls s l) x))) := by rw [tr_rd_nI (by omega) (by decide), t2]
      have w23 : ∀ v, tr_wr 10240 N 23 (nI (s * 10 + l)) v = some (tr_st N 23 (s * 10 + l) v) := fun v => tr_wr_nI (by omega) (by decide)
      have r57 : ∀ u, tr_rd 10240 (tr_st N 23 (s * 10 + l) u) 22 (nI (s * 10 + l)) = some (nI (cv (cost ad g s) (PA (Gd w (nxW stM w none) m) w.1 k s (ls s l) x))) := fun u => by rw [tr_rd_nI (by omega) (by decide), tr_st_ne (by decide), t1]
      have w61 : ∀ u v, tr_wr 10240 (tr_st N 23 (s * 10 + l) u) 22 (nI (s * 10 + l)) v = some (tr_st (tr_st N 23 (s * 10 + l) u) 22 (s * 10 + l) v) := fun u v => tr_wr_nI (by omega) (by decide)
      rw [if_pos c, if_neg (show ¬ (1 : Int32) = 0 by decide), ins_nI (by omega), spot_eq, spot_eq, r22t, Option.bind_some, show (1000000 : Int32) = nI NV from rfl]
      by_cases d : mv (Gd w (nxW stM w none) m) w.1 ad g k (ins s x) x < NV
      · rw [if_pos ((nlt (by omega) (by omega)).mpr d)]
        have hcl := comb_le (ad := ad) (a := g (ins s x)) (b := mv (Gd w (nxW stM w none) m) w.1 ad g k (ins s x) x)
        have hcv1 := PA_cv hgl hk10 c d
        cases ad with
        | false =>
          have hsum0 : mX7_isSum (nI l2) = 0 := hsum
          have hw1 := PA_wf (n := w.1) (g := g) (B := B) (k := k) c
          simp only [hsum0, if_true, r15, r22t, Option.bind_some, r23, ngreater _ _ (show g (ins s x) < 2147483648 by omega) (show mv (Gd w (nxW stM w none) m) w.1 false g k (ins s x) x < 2147483648 by omega)]
          by_cases q : B < g (ins s x)
          · rw [if_pos ((nlt (by omega) (by omega)).mpr q), w23, Option.bind_some, Option.bind_some, r57, Option.bind_some, w61, Option.bind_some, nlesser _ _ (by omega) (by show max _ _ < _; omega), Int32.add_zero]
            rw [if_pos q, Nat.add_zero] at hw1
            exact fin _ _ hcv1.symm hw1.symm
          · rw [if_neg (by rw [nlt (by omega) (by omega)]; exact q), r23t, Option.bind_some, w23, Option.bind_some, Option.bind_some, r57, Option.bind_some, w61, Option.bind_some, nlesser _ _ (by omega) (by show max _ _ < _; omega), nadd]
            rw [if_neg q] at hw1
            exact fin _ _ hcv1.symm hw1.symm
        | true =>
          have hsum0 : mX7_isSum (nI l2) = 1 := hsum
          have hw1 := PA_wt hgl (B := B) hk10 c d
          simp only [hsum0, if_neg (show ¬ (1 : Int32) = 0 by decide), r15, r22t, Option.bind_some, r22, nadd]
          have hby : g (ins s x) + mv (Gd w (nxW stM w none) m) w.1 true g k (ins s x) x < 2147483648 := by omega
          by_cases q : g (ins s x) + mv (Gd w (nxW stM w none) m) w.1 true g k (ins s x) x < cv (cost true g s) (PA (Gd w (nxW stM w none) m) w.1 k s (ls s l) x)
          · rw [if_pos ((nlt (by omega) (by omega)).mpr q), r23t, Option.bind_some, w23, Option.bind_some, Option.bind_some, r57, Option.bind_some, w61, Option.bind_some, nlesser _ _ (by omega) hby]
            rw [if_pos q] at hw1
            exact fin _ _ hcv1.symm hw1.symm
          · rw [if_neg (by rw [nlt (by omega) (by omega)]; exact q)]
            rw [if_neg q] at hw1
            by_cases q2 : g (ins s x) + mv (Gd w (nxW stM w none) m) w.1 true g k (ins s x) x = cv (cost true g s) (PA (Gd w (nxW stM w none) m) w.1 k s (ls s l) x)
            · rw [if_pos (by rw [q2]), r23, Option.bind_some, r23t, Option.bind_some, w23, Option.bind_some, Option.bind_some, r57, Option.bind_some, w61, Option.bind_some, nlesser _ _ (by omega) hby, nadd]
              rw [if_pos q2] at hw1
              exact fin _ _ hcv1.symm hw1.symm
            · rw [if_neg (by rw [neq (by omega) (by omega)]; exact q2), r23, Option.bind_some, w23, Option.bind_some, Option.bind_some, r57, Option.bind_some, w61, Option.bind_some, nlesser _ _ (by omega) hby]
              rw [if_neg q2] at hw1
              exact fin _ _ hcv1.symm hw1.symm
      · rw [if_neg (by rw [nlt (by omega) (by omega)]; exact d)]
        exact skip fun h => d h.2
    · rw [if_neg c, if_pos rfl]
      exact skip fun h => c h.1
  · rintro t ⟨N, rfl, t1, t2, t3, t4, t5⟩
    unfold mX7_goesOn_l11
    dsimp only
    rw [t3 1 (by decide) (by decide), hm.1, if_neg (by rw [nlt (by omega) (by omega)]; omega)]
    rw [PA_n] at t1 t2
    exact ⟨N, rfl, t1, t2, t3, t4, t5⟩
