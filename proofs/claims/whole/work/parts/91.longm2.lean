/-- of a list of orders: in how many a is at place i; in how many a is ahead of b -/
def lsp (n a i : Nat) (L : List (List Nat)) : Nat := (L.filter (fun p => decide (sf (fn p) a n = i))).length
def lah (n a b : Nat) (L : List (List Nat)) : Nat := (L.filter (fun p => decide (sf (fn p) a n < sf (fn p) b n))).length
theorem lsp_add (n a i : Nat) (L K : List (List Nat)) : lsp n a i (L ++ K) = lsp n a i L + lsp n a i K := by
  unfold lsp
  rw [List.filter_append, List.length_append]
theorem lah_add (n a b : Nat) (L K : List (List Nat)) : lah n a b (L ++ K) = lah n a b L + lah n a b K := by
  unfold lah
  rw [List.filter_append, List.length_append]
theorem lsp_one {n a i : Nat} {f : Nat → Nat} : lsp n a i [seg f 0 n] = if sf f a n = i then 1 else 0 := by
  unfold lsp
  have e : sf (fn (seg f 0 n)) a n = sf f a n := sf_cg fun i hi => fn_seg hi
  by_cases c : sf f a n = i
  · rw [if_pos c, List.filter_cons_of_pos (by rw [e]; exact decide_eq_true c)]
    rfl
  · rw [if_neg c, List.filter_cons_of_neg (by rw [e]; simpa using c)]
    rfl
theorem lah_one {n a b : Nat} {f : Nat → Nat} : lah n a b [seg f 0 n] = if sf f a n < sf f b n then 1 else 0 := by
  unfold lah
  have e : ∀ y, sf (fn (seg f 0 n)) y n = sf f y n := fun y => sf_cg fun i hi => fn_seg hi
  by_cases c : sf f a n < sf f b n
  · rw [if_pos c, List.filter_cons_of_pos (by rw [e, e]; exact decide_eq_true c)]
    rfl
  · rw [if_neg c, List.filter_cons_of_neg (by rw [e, e]; simpa using c)]
    rfl
theorem lspread_eq {w : Wd} {pin : Option (Nat × Nat)} {a : Nat} {M : tr_M} (hok : WOk w) (hm : MWd w M) (hp : PinX pin M) (hpo : pinOk w.1 pin) (h29 : M.1 1 29 = nI (LM w pin)) (ha : a < w.1) : ∃ N, mX7_layPlaceMany 4 (nI a) M = some N ∧ (∀ i, i < 10 → N.1 21 i = nI (lsp w.1 a i (LQ w pin))) ∧ (∀ c, c ≠ 12 → c ≠ 13 → c ≠ 21 → N.1 c = M.1 c) ∧ N.2 = M.2 := by
  have hn := hok.1
  unfold mX7_layPlaceMany
  obtain ⟨Z, z1, z2, z3, z4⟩ := placeZero_eq (M := M)
  have z1' : tr_loop mX7_layPlaceMany_l2 (0, M) = some Z := z1
  rw [z1', Option.bind_some, if_pos rfl]
  have hJ : ∀ N : tr_M, (∀ c, c ≠ 12 → c ≠ 13 → c ≠ 21 → N.1 c = M.1 c) ∧ N.2 = M.2 → KX M N := fun N h => ⟨fun c _ _ _ => h.1 c (by omega) (by omega) (by omega), fun k _ => by rw [h.1 1 (by decide) (by decide) (by decide)], h.2⟩
  obtain ⟨r, e1, e2, e3, e4⟩ := lines_loop (w := w) (step := mX7_layPlaceMany_l32 (nI a)) (fun (_ : Unit) b N => (b, N)) hok (fun t _ N => (∀ i, i < 10 → N.1 21 i = nI (lsp w.1 a i (LT w pin t))) ∧ (∀ c, c ≠ 12 → c ≠ 13 → c ≠ 21 → N.1 c = M.1 c) ∧ N.2 = M.2) (fun N => (∀ i, i < 10 → N.1 21 i = nI (lsp w.1 a i (LQ w pin))) ∧ (∀ c, c ≠ 12 → c ≠ 13 → c ≠ 21 → N.1 c = M.1 c) ∧ N.2 = M.2) (fun t a N h => by rw [h.2.1 1 (by decide) (by decide) (by decide)]; exact hm.1) (fun t a N N' h h1 h2 => ⟨fun i hi => by rw [h1 21 (by decide) (by decide)]; exact h.1 i hi, fun c c1 c2 c3 => (h1 c c1 c2).trans (h.2.1 c c1 c2 c3), h2.trans h.2.2⟩) (by
    rintro t f N ⟨⟩ h1 h2 h3 h4 ⟨h7, h5, h6⟩
    have kN := hJ N ⟨h5, h6⟩
    obtain ⟨-, hsl⟩ := sf_ord h1 ha
    have hl := isLeast_eq hok (hm.kx kN) (hp.kx kN) hpo (by rw [h5 1 (by decide) (by decide) (by decide)]; exact h29) h1 h4
    have hnx := LT_next (pin := pin) h3
    have key : ∀ d, (∀ i, lsp w.1 a i (LT w pin (t + 1)) = lsp w.1 a i (LT w pin t) + if sf f a w.1 = i then d else 0) → (MOr w f (tr_st N 21 (sf f a w.1) (nI (lsp w.1 a (sf f a w.1) (LT w pin t)) + nI d)) ∧ (∀ i, i < 10 → (tr_st N 21 (sf f a w.1) (nI (lsp w.1 a (sf f a w.1) (LT w pin t)) + nI d)).1 21 i = nI (lsp w.1 a i (LT w pin (t + 1)))) ∧ (∀ c, c ≠ 12 → c ≠ 13 → c ≠ 21 → (tr_st N 21 (sf f a w.1) (nI (lsp w.1 a (sf f a w.1) (LT w pin t)) + nI d)).1 c = M.1 c) ∧ N.2 = M.2) := fun d hd => by
      refine ⟨?_, fun i hi => ?_, fun c c1 c2 c3 => by rw [tr_st_ne c3]; exact h5 c c1 c2 c3, h6⟩
      · unfold MOr
        rw [tr_st_ne (by decide), tr_st_ne (by decide)]
        exact h4
      · rw [hd i]
        by_cases q : sf f a w.1 = i
        · rw [if_pos q, q, tr_st_s, nadd]
        · rw [if_neg q, tr_st_j (fun y => q y.symm), Nat.add_zero]; exact h7 i hi
    have stp : ∀ d, (if (okf w pin f && decide (longN w f = LM w pin)) = true then (1 : Int32) else 0) = nI d → ∀ b N', mX7_nextLine (tr_st N 21 (sf f a w.1) (nI (lsp w.1 a (sf f a w.1) (LT w pin t)) + nI d)) = some (b, N') → mX7_layPlaceMany_l32 (nI a) (1, N) = some (.inl (b, N')) := fun d hd b N' hb => by
      have e0 : (if nI d = 0 then some (0 : Int32) else some 1) = some (nI d) := by
        rw [← hd]
        split
        · rw [if_neg (by decide)]
        · rw [if_pos rfl]
      unfold mX7_layPlaceMany_l32
      dsimp only
      rw [if_neg (by decide), tr_rd_nI (by omega) (by decide), Option.bind_some, h4.2 a ha, tr_rd_nI (by omega) (by decide), Option.bind_some, hl, hd, Option.bind_some, e0, Option.bind_some, tr_wr_nI (by omega) (by decide), Option.bind_some, h7 _ (by omega), hb, Option.bind_some]
    by_cases c : (okf w pin f && decide (longN w f = LM w pin)) = true
    · obtain ⟨k1, k2⟩ := key 1 (fun i => by rw [hnx, if_pos c, lsp_add, lsp_one])
      exact ⟨(), _, k1, k2, stp 1 (by rw [if_pos c]; rfl)⟩
    · obtain ⟨k1, k2⟩ := key 0 (fun i => by rw [hnx, if_neg c]; split <;> rfl)
      exact ⟨(), _, k1, k2, stp 0 (by rw [if_neg c]; rfl)⟩) (by
    rintro ⟨⟩ N ⟨h7, h5, h6⟩
    unfold mX7_layPlaceMany_l32
    dsimp only
    rw [if_pos rfl]
    rw [LT_all] at h7
    exact ⟨N, rfl, h7, h5, h6⟩) (M := Z) (a0 := ()) ⟨fun i hi => z2 i hi, fun c _ _ c3 => z3 c c3, z4⟩
  exact ⟨r, e1, e2, e3, e4⟩
theorem llead_eq {w : Wd} {pin : Option (Nat × Nat)} {a b : Nat} {M : tr_M} (hok : WOk w) (hm : MWd w M) (hp : PinX pin M) (hpo : pinOk w.1 pin) (h29 : M.1 1 29 = nI (LM w pin)) (ha : a < w.1) (hb : b < w.1) : ∃ N, mX7_leadMany 4 (nI a) (nI b) M = some (nI (lah w.1 a b (LQ w pin)), N) ∧ (∀ c, c ≠ 12 → c ≠ 13 → N.1 c = M.1 c) ∧ N.2 = M.2 := by
  have hn := hok.1
  unfold mX7_leadMany
  rw [if_pos rfl]
  obtain ⟨r, e1, N, e2, e3, e4⟩ := lines_loop (w := w) (step := mX7_leadMany_l15 (nI a) (nI b)) (fun (v : Int32) b N => (v, b, N)) hok (fun t v N => v = nI (lah w.1 a b (LT w pin t)) ∧ (∀ c, c ≠ 12 → c ≠ 13 → N.1 c = M.1 c) ∧ N.2 = M.2) (fun r => ∃ N, r = (nI (lah w.1 a b (LQ w pin)), N) ∧ (∀ c, c ≠ 12 → c ≠ 13 → N.1 c = M.1 c) ∧ N.2 = M.2) (fun t a N h => by rw [h.2.1 1 (by decide) (by decide)]; exact hm.1) (fun t a N N' h h1 h2 => ⟨h.1, fun c c1 c2 => (h1 c c1 c2).trans (h.2.1 c c1 c2), h2.trans h.2.2⟩) (by
    rintro t f N v h1 h2 h3 h4 ⟨rfl, h5, h6⟩
    have kN := KX.of h5 h6
    obtain ⟨-, hsa⟩ := sf_ord h1 ha
    obtain ⟨-, hsb⟩ := sf_ord h1 hb
    have hl := isLeast_eq hok (hm.kx kN) (hp.kx kN) hpo (by rw [h5 1 (by decide) (by decide)]; exact h29) h1 h4
    have hnx := LT_next (pin := pin) h3
    refine ⟨nI (lah w.1 a b (LT w pin (t + 1))), N, h4, ⟨rfl, h5, h6⟩, fun b' N' hb' => ?_⟩
    unfold mX7_leadMany_l15
    dsimp only
    rw [if_neg (by decide), hl, Option.bind_some, hnx]
    by_cases c : (okf w pin f && decide (longN w f = LM w pin)) = true
    · rw [if_pos c, if_pos c, if_neg (by decide), tr_rd_nI (by omega) (by decide), Option.bind_some, tr_rd_nI (by omega) (by decide), Option.bind_some, h4.2 a ha, h4.2 b hb, lah_add, lah_one]
      simp (disch := omega) only [nlt]
      by_cases d : sf f a w.1 < sf f b w.1
      · rw [if_pos d, if_pos d, Option.bind_some, hb', Option.bind_some, nadd1]
      · rw [if_neg d, if_neg d, Option.bind_some, hb', Option.bind_some, n00, nadd]
    · rw [if_neg c, if_neg c, if_pos rfl, Option.bind_some, hb', Option.bind_some, n00, nadd]
      rfl) (by
    rintro v N ⟨rfl, h5, h6⟩
    unfold mX7_leadMany_l15
    dsimp only
    rw [if_pos rfl, LT_all]
    exact ⟨_, rfl, N, rfl, h5, h6⟩) (M := M) (a0 := 0) ⟨rfl, fun _ _ _ => rfl, rfl⟩
  exact ⟨N, by rw [e1, e2], e3, e4⟩
