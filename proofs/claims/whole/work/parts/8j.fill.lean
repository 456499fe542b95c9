/-- what the search holds once it is solved: relation, cost, whether it adds up -/
def SV (w : Wd) (nx : Rl) (m : Nat) (N : tr_M) : Prop := (∀ s l, St w.1 s l → N.1 48 (s * 10 + l) = nI (bC nx w.1 (adN m) (gN w m) s (ls s l))) ∧ (∀ s, s < 2 ^ w.1 → N.1 45 s = nI (gN w m s)) ∧ N.1 25 11 = (if adN m = true then 1 else 0)
/-- and its least orders are laid -/
def LV (w : Wd) (nx : Rl) (m : Nat) (N : tr_M) : Prop := ∀ s l, St w.1 s l → N.1 49 (s * 10 + l) = nI (nxb (gd nx w.1 (adN m) (gN w m) (ms nx w.1 (adN m) (gN w m) 0 10)) s (ls s l)) ∧ N.1 50 (s * 10 + l) = nI (nm (gd nx w.1 (adN m) (gN w m) (ms nx w.1 (adN m) (gN w m) 0 10)) w.1 s (ls s l))
theorem fillLeast_eq {w : Wd} {m : Nat} {nx : Rl} {M : tr_M} (hok : WOk w) (hw : CWd w 26 M) (hf : Fresh nx w.1) (hNX : NX w.1 nx M) (hS : SV w nx m M) (h12 : M.1 25 12 = 0) (hB : ms nx w.1 (adN m) (gN w m) 0 10 < NV) : ∃ N, mX4_fillLeast M = some N ∧ LV w nx m N ∧ SV w nx m N ∧ N.1 25 12 = 1 ∧ (∀ k, k ≠ 12 → N.1 25 k = M.1 25 k) ∧ (∀ c, c ≠ 25 → c ≠ 49 → c ≠ 50 → N.1 c = M.1 c) ∧ N.2 = M.2 := by
  have hn := hok.1
  have hpw := pow_lt hn
  have hp0 := Nat.two_pow_pos w.1
  have hgl := gN_le hok m
  unfold mX4_fillLeast
  rw [if_pos h12]
  simp only [Option.bind_some]
  have hw1 : CWd w 26 (tr_st M 25 12 1) := hw.congr fun b h1 h2 => tr_st_ne (by omega)
  rw [everything_eq hw1.1 hn]
  generalize hA : tr_st M 25 12 1 = A at *
  have hA' : ∀ c, c ≠ 25 → A.1 c = M.1 c := fun c hc => by rw [← hA, tr_st_ne hc]
  have hA25 : ∀ k, k ≠ 12 → A.1 25 k = M.1 25 k := fun k hk => by rw [← hA, tr_st_j hk]
  have hA12 : A.1 25 12 = 1 := by rw [← hA, tr_st_s]
  obtain ⟨N, n1, n2, n3, n4, n5⟩ := down_loop (n := w.1) (M := A) hn (out := mX4_fillLeast_l21) (inn := fun s N => mX4_fillLeast_l27 (nI s, N)) (fun s l N => (∀ s' l', St w.1 s' l' → (s < s' ∨ (s' = s ∧ l' < l)) → N.1 49 (s' * 10 + l') = nI (nxb (gd nx w.1 (adN m) (gN w m) (ms nx w.1 (adN m) (gN w m) 0 10)) s' (ls s' l')) ∧ N.1 50 (s' * 10 + l') = nI (nm (gd nx w.1 (adN m) (gN w m) (ms nx w.1 (adN m) (gN w m) 0 10)) w.1 s' (ls s' l'))) ∧ (∀ s' l', St w.1 s' l' → ¬ (s < s' ∨ (s' = s ∧ l' < l)) → N.1 49 (s' * 10 + l') = A.1 49 (s' * 10 + l')) ∧ (∀ c, c ≠ 49 → c ≠ 50 → N.1 c = A.1 c) ∧ N.2 = M.2) (fun s N hs hJ => ⟨N, hJ, by
      unfold mX4_fillLeast_l21
      dsimp only
      rw [if_neg (nI_pos (by omega))]⟩) (fun N => by
      unfold mX4_fillLeast_l21
      dsimp only
      rw [if_pos (by decide)]) (by
    rintro s l N K hst ⟨t1, t2, t3, t4⟩
    have hl10 := hst.l10 hn
    have hs := hst.1
    have hN : ∀ c, c ≠ 25 → c ≠ 49 → c ≠ 50 → N.1 c = M.1 c := fun c h1 h2 h3 => by rw [t3 c h2 h3, hA' c h1]
    have hN25 : ∀ k, k ≠ 12 → N.1 25 k = M.1 25 k := fun k hk => by rw [t3 25 (by decide) (by decide), hA25 k hk]
    have hN0 : N.1 26 0 = nI w.1 := by rw [hN 26 (by decide) (by decide) (by decide)]; exact hw.1
    have hnext : mX4_nextOf (nI s) (nI l) N = some (nI (nxb nx s (ls s l))) := by
      rw [nextOf_cg (M := M) (by omega) hl10 (hN25 10 (by decide)) (hN 46 (by decide) (by decide) (by decide)) (hN 47 (by decide) (by decide) (by decide)) (by rw [t2 s l hst (by omega), hA' 49 (by decide)])]
      exact hNX s l hst
    have hlf := leastFrom_eq (ad := adN m) (g := gN w m) hn hN0 hf hgl (gN_0 m) hst hnext (fun s l h => by rw [hN 48 (by decide) (by decide) (by decide)]; exact hS.1 s l h) (fun s h => by rw [hN 45 (by decide) (by decide) (by decide)]; exact hS.2.1 s h) (by rw [hN25 11 (by decide)]; exact hS.2.2) hB (fun x hx hnew => by
      obtain ⟨z1, z2⟩ := St_ins hs hx
      have := (t1 (ins s x) x z1 (Or.inl (ins_gt hnew))).2
      rw [z2] at this
      exact this)
    have c1 : nI l < nI (Ln w.1 s) := (nlt (by omega) (by unfold Ln; split <;> omega)).mpr hst.lt
    refine ⟨tr_st (tr_st N 49 (s * 10 + l) (nI (nxb (gd nx w.1 (adN m) (gN w m) (ms nx w.1 (adN m) (gN w m) 0 10)) s (ls s l)))) 50 (s * 10 + l) (nI (nm (gd nx w.1 (adN m) (gN w m) (ms nx w.1 (adN m) (gN w m) 0 10)) w.1 s (ls s l))), ?_, fun s' l' hst' hlt => ?_, fun s' l' hst' hlt => ?_, fun c h1 h2 => by rw [tr_st_ne h2, tr_st_ne h1]; exact t3 c h1 h2, t4⟩
    · unfold mX4_fillLeast_l27
      dsimp only
      rw [lastsOf_eq (by omega) hN0, if_pos c1, isState_eq (by omega) (by omega), if_pos hst.is, if_neg (by decide), hlf, Option.bind_some, nadd1]
    · have hl10' := hst'.l10 hn
      by_cases e : s' = s ∧ l' = l
      · rw [e.1, e.2, tr_st_ne (by decide), tr_st_s, tr_st_s]
        exact ⟨rfl, rfl⟩
      · rw [tr_st_ne (by decide), tr_st_j (by omega), tr_st_j (by omega), tr_st_ne (by decide)]
        exact t1 s' l' hst' (by omega)
    · have hl10' := hst'.l10 hn
      rw [tr_st_ne (by decide), tr_st_j (by omega)]
      exact t2 s' l' hst' (by omega)) (by
    rintro s l N K hs h0 hl hb ⟨t1, t2, t3, t4⟩
    have hN0 : N.1 26 0 = nI w.1 := by rw [t3 26 (by decide) (by decide), hA' 26 (by decide)]; exact hw.1
    have c1 : nI l < nI (Ln w.1 s) := by
      unfold Ln
      rw [if_neg h0]
      exact (nlt (by omega) (by omega)).mpr hl
    have hno : ∀ s' l', St w.1 s' l' → ¬ (s' = s ∧ l' = l) := fun s' l' hst' e => by
      rcases hst'.is with z | z
      · exact h0 (by omega)
      · rw [e.1, e.2, hb] at z; cases z
    refine ⟨?_, fun s' l' hst' hlt => t1 s' l' hst' ?_, fun s' l' hst' hlt => t2 s' l' hst' ?_, t3, t4⟩
    · unfold mX4_fillLeast_l27
      dsimp only
      have hns : mX4_isState (nI s) (nI l) = 0 := by
        rw [isState_eq (by omega) (by omega), if_neg]
        simp [h0, hb]
      rw [lastsOf_eq (by omega) hN0, if_pos c1, hns, if_pos rfl, nadd1]
    · have := hno s' l' hst'
      omega
    · omega) (by
    rintro s N K hs ⟨t1, t2, t3, t4⟩
    have hN0 : N.1 26 0 = nI w.1 := by rw [t3 26 (by decide) (by decide), hA' 26 (by decide)]; exact hw.1
    have hLn : Ln w.1 s ≤ 10 := by unfold Ln; split <;> omega
    have c1 : ¬ nI (Ln w.1 s) < nI (Ln w.1 s) := by rw [nlt (by omega) (by omega)]; omega
    unfold mX4_fillLeast_l27
    dsimp only
    rw [lastsOf_eq (by omega) hN0, if_neg c1]
    rfl) (by
    rintro s N hs ⟨t1, t2, t3, t4⟩
    refine ⟨fun s' l' hst' hlt => t1 s' l' hst' ?_, fun s' l' hst' hlt => t2 s' l' hst' ?_, t3, t4⟩
    · have := hst'.lt
      by_cases e : s' = s + 1
      · right
        rw [e] at this
        exact ⟨e, this⟩
      · left
        omega
    · omega) ⟨fun s' l' hst' hlt => by
      have := hst'.1
      omega, fun _ _ _ _ => rfl, fun _ _ _ => rfl, by rw [← hA]; rfl⟩
  have hN : ∀ c, c ≠ 25 → c ≠ 49 → c ≠ 50 → N.1 c = M.1 c := fun c h1 h2 h3 => by rw [n4 c h2 h3, hA' c h1]
  have hN25 : ∀ k, k ≠ 12 → N.1 25 k = M.1 25 k := fun k hk => by rw [n4 25 (by decide) (by decide), hA25 k hk]
  refine ⟨N, n1, fun s l hst => n2 s l hst ?_, ⟨fun s l h => by rw [hN 48 (by decide) (by decide) (by decide)]; exact hS.1 s l h, fun s h => by rw [hN 45 (by decide) (by decide) (by decide)]; exact hS.2.1 s h, by rw [hN25 11 (by decide)]; exact hS.2.2⟩, by rw [n4 25 (by decide) (by decide)]; exact hA12, hN25, hN, n5⟩
  have := hst.lt
  by_cases e : s = 0
  · right
    unfold Ln at this
    rw [if_pos e] at this
    exact ⟨e, this⟩
  · left
    omega
