theorem seg_inj {f g : Nat → Nat} {n : Nat} (h : seg f 0 n = seg g 0 n) : ∀ i, i < n → f i = g i := fun i hi => by
  rw [← fn_seg (f := f) hi, h, fn_seg hi]
theorem pre_get {α : Type} {A B : List α} (h : A <+: B) {k : Nat} {x : α} (hx : A[k]? = some x) : B[k]? = some x := by
  obtain ⟨C, rfl⟩ := h
  rw [List.getElem?_append_left (List.getElem?_eq_some_iff.mp hx).1]
  exact hx
theorem LT_pre (w : Wd) (pin : Option (Nat × Nat)) (t : Nat) : LT w pin t <+: LQ w pin := by
  rw [← LT_all]
  unfold LT
  refine List.IsPrefix.filter _ ?_
  rw [← Pm_len, List.take_length]
  exact List.take_prefix t (Pm w.1)
theorem LT_len (w : Wd) (pin : Option (Nat × Nat)) (t : Nat) : (LT w pin t).length ≤ (LQ w pin).length := (LT_pre w pin t).length_le
theorem LQ_len {w : Wd} (hok : WOk w) (pin : Option (Nat × Nat)) : (LQ w pin).length ≤ 3628800 := by
  have h1 : (LQ w pin).length ≤ (Pm w.1).length := Nat.le_trans (List.length_filter_le _ _) (List.length_filter_le _ _)
  rw [Pm_len] at h1
  have := fct_le10 hok.1
  omega
theorem KX.of {M N : tr_M} (h : ∀ c, c ≠ 12 → c ≠ 13 → N.1 c = M.1 c) (h2 : N.2 = M.2) : KX M N := ⟨fun c _ _ _ => h c (by omega) (by omega), fun k _ => by rw [h 1 (by decide) (by decide)], h2⟩
theorem layLong_eq {w : Wd} {pin : Option (Nat × Nat)} {k : Nat} {g : Nat → Nat} {M : tr_M} (hok : WOk w) (hm : MWd w M) (hp : PinX pin M) (hpo : pinOk w.1 pin) (h29 : M.1 1 29 = nI (LM w pin)) (hk : (LQ w pin)[k]? = some (seg g 0 w.1)) : ∃ N, mX7_layLeast 4 (nI k) M = some N ∧ (∀ i, i < w.1 → N.1 12 i = nI (g i)) ∧ (∀ c, c ≠ 12 → c ≠ 13 → N.1 c = M.1 c) ∧ N.2 = M.2 := by
  have hn := hok.1
  have hfl := fct_le10 hn
  have hkl := (List.getElem?_eq_some_iff.mp hk).1
  have hll := LQ_len hok pin
  unfold mX7_layLeast
  obtain ⟨f, F, f1, f2, f3, f4, f5, f6⟩ := firstLine_eq hok hm.1
  rw [if_pos rfl, f1, Option.bind_some]
  obtain ⟨r, e1, e2, e3, e4⟩ := tr_loop_inv (step := mX7_layLeast_l11) (s0 := (nI k, F)) (fun t s => ∃ f N, s = (nI (k - (LT w pin t).length), N) ∧ (LT w pin t).length ≤ k ∧ Ord w.1 f ∧ rk f w.1 0 = t ∧ MOr w f N ∧ (∀ c, c ≠ 12 → c ≠ 13 → N.1 c = M.1 c) ∧ N.2 = M.2) (fun N => (∀ i, i < w.1 → N.1 12 i = nI (g i)) ∧ (∀ c, c ≠ 12 → c ≠ 13 → N.1 c = M.1 c) ∧ N.2 = M.2) (fct w.1) (by omega) ⟨f, F, rfl, Nat.zero_le _, f2, f3, f4, f5, f6⟩ (by
    rintro t s ht ⟨f, N, rfl, h1, h2, h3, h4, h5, h6⟩
    have kN := KX.of h5 h6
    have hP := Pm_rk h2
    rw [h3] at hP
    have hl := isLeast_eq hok (hm.kx kN) (hp.kx kN) hpo (by rw [h5 1 (by decide) (by decide)]; exact h29) h2 h4
    have hnx := LT_next (pin := pin) hP
    have go : ∀ d, (LT w pin (t + 1)).length = (LT w pin t).length + d → (LT w pin t).length + d ≤ k → ∃ s', (Option.bind (mX7_nextLine N) (fun c10 => some (Sum.inl (nI (k - (LT w pin t).length) - nI d, c10.2) : (Int32 × tr_M) ⊕ tr_M))) = some (.inl s') ∧ ∃ f N, s' = (nI (k - (LT w pin (t + 1)).length), N) ∧ (LT w pin (t + 1)).length ≤ k ∧ Ord w.1 f ∧ rk f w.1 0 = t + 1 ∧ MOr w f N ∧ (∀ c, c ≠ 12 → c ≠ 13 → N.1 c = M.1 c) ∧ N.2 = M.2 := fun d d1 d2 => by
      rcases nextLine_eq hok (hm.kx kN).1 h2 h4 with ⟨x1, x2⟩ | ⟨g, P, x1, x2, x3, x4, x5, x6⟩
      · exfalso
        rw [h3] at x1
        rw [x1, LT_all] at d1
        omega
      · rw [x3, Option.bind_some, nsub (by omega)]
        exact ⟨_, rfl, g, P, by rw [d1, Nat.sub_sub], by omega, x1, by omega, x4, fun c c1 c2 => (x5 c c1 c2).trans (h5 c c1 c2), x6.trans h6⟩
    unfold mX7_layLeast_l11
    dsimp only
    rw [hl]
    dsimp only [Option.bind_some]
    by_cases c : (okf w pin f && decide (longN w f = LM w pin)) = true
    · rw [if_pos c] at hnx
      simp only [if_pos c, if_neg (show ¬ (1 : Int32) = 0 by decide), n00]
      simp (disch := omega) only [nlt]
      by_cases d : 0 < k - (LT w pin t).length
      · left
        rw [if_pos d]
        exact go 1 (by rw [hnx, List.length_append]; rfl) (by omega)
      · right
        rw [if_neg d]
        refine ⟨N, rfl, ?_, h5, h6⟩
        have hx : (LT w pin (t + 1))[k]? = some (seg f 0 w.1) := by
          rw [hnx, show k = (LT w pin t).length by omega]
          exact List.getElem?_concat_length
        have := pre_get (LT_pre w pin (t + 1)) hx
        rw [hk] at this
        have hs := seg_inj (Option.some.inj this)
        intro i hi
        rw [h4.1 i hi, hs i hi]
    · left
      rw [if_neg c] at hnx
      simp only [if_neg c, if_true]
      exact go 0 (by rw [hnx]; rfl) (by omega)) (by
    rintro s ⟨f, N, rfl, h1, -⟩
    rw [LT_all] at h1
    omega)
  exact ⟨r, e1, e2, e3, e4⟩
theorem isWanted_eq {n : Nat} {f g : Nat → Nat} {M : tr_M} (hn : n ≤ 10) (hw : M.1 1 10 = nI n) (hf : ∀ i, i < n → f i < n) (hg : ∀ i, i < n → g i < n) (h12 : ∀ i, i < n → M.1 12 i = nI (f i)) (h19 : ∀ i, i < n → M.1 19 i = nI (g i)) : mX7_isWanted M = some (if al n (fun i => decide (f i = g i)) = true then 1 else 0) := by
  unfold mX7_isWanted
  refine tr_loop_seq' (fun k => (if al k (fun i => decide (f i = g i)) = true then 1 else 0, nI k)) n rfl (by omega) (fun k hk => ?_) ?_
  · unfold mX7_isWanted_l4
    dsimp only
    have := hf k hk
    have := hg k hk
    rw [hw, if_pos ((nlt (by omega) (by omega)).mpr hk), nadd1]
    show _ = some (Sum.inl (if (al k (fun i => decide (f i = g i)) && decide (f k = g k)) = true then 1 else 0, nI (k + 1)))
    by_cases c : al k (fun i => decide (f i = g i)) = true
    · rw [if_pos c, if_neg (by decide), tr_rd_nI (by omega) (by decide), Option.bind_some, tr_rd_nI (by omega) (by decide), Option.bind_some, h12 k hk, h19 k hk, c, Bool.true_and]
      simp (disch := omega) only [neq]
      by_cases d : f k = g k <;> simp [d]
    · rw [if_neg c, if_pos rfl, if_neg]
      rw [Bool.and_eq_true]
      exact fun q => c q.1
  · unfold mX7_isWanted_l4
    dsimp only
    rw [hw, if_neg (by rw [nlt (by omega) (by omega)]; omega)]
    cases al n (fun i => decide (f i = g i)) <;> rfl
theorem ix_none {p : List Nat} : ∀ {L : List (List Nat)}, p ∉ L → ix p L = none
  | [], _ => rfl
  | q :: L, h => by
    unfold ix
    rw [if_neg (fun e => h (by rw [e]; exact List.mem_cons_self)), ix_none (fun e => h (List.mem_cons_of_mem _ e))]
    rfl
theorem ix_first {p : List Nat} : ∀ {L : List (List Nat)} {t : Nat}, ix p L = some t → p ∉ L.take t
  | [], t, h => by cases h
  | q :: L, t, h => by
    unfold ix at h
    by_cases c : q = p
    · rw [if_pos c] at h
      cases h
      exact List.not_mem_nil
    · rw [if_neg c] at h
      cases e : ix p L with
      | none => rw [e] at h; cases h
      | some j =>
        rw [e] at h
        cases h
        have := ix_first e
        show p ∉ (q :: L).take (j + 1)
        rw [List.take_succ_cons, List.mem_cons]
        rintro (x | x)
        · exact c x.symm
        · exact this x
theorem LT_not {w : Wd} {pin : Option (Nat × Nat)} {g : Nat → Nat} (hg : Ord w.1 g) : seg g 0 w.1 ∉ LT w pin (rk g w.1 0) := fun h => ix_first (ix_rk hg w.1 0 (Nat.zero_add _)) (List.mem_filter.mp h).1
theorem ix_LQ {w : Wd} {pin : Option (Nat × Nat)} {g : Nat → Nat} (hg : Ord w.1 g) : ix (seg g 0 w.1) (LQ w pin) = if (okf w pin g && decide (longN w g = LM w pin)) = true then some (LT w pin (rk g w.1 0)).length else none := by
  have hnx := LT_next (pin := pin) (Pm_rk hg)
  by_cases c : (okf w pin g && decide (longN w g = LM w pin)) = true
  · rw [if_pos c] at hnx ⊢
    obtain ⟨C, hC⟩ := LT_pre w pin (rk g w.1 0 + 1)
    rw [← hC, hnx, List.append_assoc, ix_append, ix_none (LT_not hg)]
    show Option.map _ (ix _ (seg g 0 w.1 :: C)) = _
    unfold ix
    rw [if_pos rfl]
    show some (0 + _) = _
    rw [Nat.zero_add]
  · rw [if_neg c]
    refine ix_none fun h => c ?_
    unfold LQ Al at h
    rw [List.mem_filter, List.mem_filter] at h
    have h1 := h.1.2
    have h2 := h.2
    rw [okf_seg] at h1
    rw [lgv_seg] at h2
    rw [h1, h2]
    rfl
theorem rankReach_eq {w : Wd} {pin : Option (Nat × Nat)} {g : Nat → Nat} {M : tr_M} (hok : WOk w) (hm : MWd w M) (hp : PinX pin M) (hpo : pinOk w.1 pin) (h29 : M.1 1 29 = nI (LM w pin)) (hg : Ord w.1 g) (h19 : ∀ i, i < w.1 → M.1 19 i = nI (g i)) : ∃ N, mX7_rankReach M = some (oix (ix (seg g 0 w.1) (LQ w pin)), N) ∧ (∀ c, c ≠ 12 → c ≠ 13 → N.1 c = M.1 c) ∧ N.2 = M.2 := by
  have hn := hok.1
  have hfl := fct_le10 hn
  have hgl : rk g w.1 0 < fct w.1 := by
    have := (List.getElem?_eq_some_iff.mp (Pm_rk hg)).1
    rw [Pm_len] at this
    exact this
  unfold mX7_rankReach
  obtain ⟨f, F, f1, f2, f3, f4, f5, f6⟩ := firstLine_eq hok hm.1
  rw [f1, Option.bind_some]
  have isw : ∀ (f : Nat → Nat) (N : tr_M), Ord w.1 f → MOr w f N → (∀ c, c ≠ 12 → c ≠ 13 → N.1 c = M.1 c) → mX7_isWanted N = some (if al w.1 (fun i => decide (f i = g i)) = true then 1 else 0) := fun f N h1 h2 h3 => isWanted_eq hn (by rw [h3 1 (by decide) (by decide)]; exact hm.1) h1.1 hg.1 h2.1 (fun i hi => by rw [h3 19 (by decide) (by decide)]; exact h19 i hi)
  have same : ∀ f : Nat → Nat, Ord w.1 f → rk f w.1 0 = rk g w.1 0 → ∀ i, i < w.1 → f i = g i := fun f h1 h2 => by
    have a := Pm_rk h1
    have b := Pm_rk hg
    rw [h2, b] at a
    exact seg_inj (Option.some.inj a.symm)
  have same2 : ∀ f : Nat → Nat, (∀ i, i < w.1 → f i = g i) → rk f w.1 0 = rk g w.1 0 → (okf w pin f && decide (longN w f = LM w pin)) = (okf w pin g && decide (longN w g = LM w pin)) := fun f h1 h2 => by
    rw [okf_cg h1, longN_cg h1]
  have rkcg : ∀ f : Nat → Nat, Ord w.1 f → (∀ i, i < w.1 → f i = g i) → rk f w.1 0 = rk g w.1 0 := fun f h1 h2 => by
    have a := ix_rk h1 w.1 0 (Nat.zero_add _)
    have b := ix_rk hg w.1 0 (Nat.zero_add _)
    rw [show seg f 0 w.1 = seg g 0 w.1 from seg_congr fun j _ hj => h2 j (by omega)] at a
    exact Option.some.inj (a.symm.trans b)
  obtain ⟨r, e1, f', N, e2, e3, e4, e5, e6, e7⟩ := tr_loop_inv (step := mX7_rankReach_l6) (s0 := (0, F)) (fun t s => ∃ f N, s = (nI (LT w pin t).length, N) ∧ Ord w.1 f ∧ rk f w.1 0 = t ∧ MOr w f N ∧ (∀ c, c ≠ 12 → c ≠ 13 → N.1 c = M.1 c) ∧ N.2 = M.2) (fun r => ∃ f N, r = (nI (LT w pin (rk g w.1 0)).length, N) ∧ Ord w.1 f ∧ rk f w.1 0 = rk g w.1 0 ∧ MOr w f N ∧ (∀ c, c ≠ 12 → c ≠ 13 → N.1 c = M.1 c) ∧ N.2 = M.2) (rk g w.1 0) (by omega) ⟨f, F, rfl, f2, f3, f4, f5, f6⟩ (by
    rintro t s ht ⟨f, N, rfl, h2, h3, h4, h5, h6⟩
    left
    have kN := KX.of h5 h6
    have hP := Pm_rk h2
    rw [h3] at hP
    have hl := isLeast_eq hok (hm.kx kN) (hp.kx kN) hpo (by rw [h5 1 (by decide) (by decide)]; exact h29) h2 h4
    have hnx := LT_next (pin := pin) hP
    have hne : ¬ al w.1 (fun i => decide (f i = g i)) = true := fun e => by
      have := rkcg f h2 (fun i hi => of_decide_eq_true (al_iff.mp e i hi))
      omega
    unfold mX7_rankReach_l6
    dsimp only
    rw [isw f N h2 h4 h5, if_neg hne, Option.bind_some, if_pos rfl, hl]
    dsimp only [Option.bind_some]
    rcases nextLine_eq hok (hm.kx kN).1 h2 h4 with ⟨x1, x2⟩ | ⟨g', P, x1, x2, x3, x4, x5, x6⟩
    · omega
    · rw [x3]
      by_cases c : (okf w pin f && decide (longN w f = LM w pin)) = true
      · rw [if_pos c] at hnx
        rw [if_pos c, if_neg (by decide)]
        dsimp only [Option.bind_some]
        rw [nadd1]
        exact ⟨_, rfl, g', P, by rw [hnx, List.length_append]; rfl, x1, by omega, x4, fun c c1 c2 => (x5 c c1 c2).trans (h5 c c1 c2), x6.trans h6⟩
      · rw [if_neg c] at hnx
        rw [if_neg c, if_pos rfl]
        dsimp only [Option.bind_some]
        rw [n00, nadd, Nat.add_zero]
        exact ⟨_, rfl, g', P, by rw [hnx], x1, by omega, x4, fun c c1 c2 => (x5 c c1 c2).trans (h5 c c1 c2), x6.trans h6⟩) (by
    rintro s ⟨f, N, rfl, h2, h3, h4, h5, h6⟩
    have hs := same f h2 h3
    unfold mX7_rankReach_l6
    dsimp only
    rw [isw f N h2 h4 h5, if_pos (al_iff.mpr fun i hi => decide_eq_true (hs i hi)), Option.bind_some, if_neg (by decide)]
    exact ⟨_, rfl, f, N, rfl, h2, h3, h4, h5, h6⟩)
  rw [e1, e2]
  dsimp only [Option.bind_some]
  have kN := KX.of e6 e7
  have hs := same f' e3 e4
  rw [isLeast_eq hok (hm.kx kN) (hp.kx kN) hpo (by rw [e6 1 (by decide) (by decide)]; exact h29) e3 e5, same2 f' hs e4, Option.bind_some, ix_LQ hg]
  refine ⟨N, ?_, e6, e7⟩
  by_cases c : (okf w pin g && decide (longN w g = LM w pin)) = true
  · rw [if_pos c, if_pos c, if_neg (by decide)]
    rfl
  · rw [if_neg c, if_neg c, if_pos rfl]
    rfl
