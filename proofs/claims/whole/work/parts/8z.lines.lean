theorem fct_le10 {n : Nat} (h : n ≤ 10) : fct n ≤ 3628800 := by
  have h1 := fct_mono h
  have h2 : fct 10 = 3628800 := by decide
  omega
theorem fct_pos : ∀ n, 0 < fct n
  | 0 => by decide
  | n + 1 => Nat.mul_pos (by omega) (fct_pos n)
/-- through all orders -/
theorem lines_loop {σ ρ α : Type} {w : Wd} {step : σ → Option (σ ⊕ ρ)} (enc : α → Int32 → tr_M → σ) (hok : WOk w) (J : Nat → α → tr_M → Prop) (R : ρ → Prop) (hJw : ∀ t a N, J t a N → N.1 1 10 = nI w.1) (hJ : ∀ t a N N', J t a N → (∀ c, c ≠ 12 → c ≠ 13 → N'.1 c = N.1 c) → N'.2 = N.2 → J t a N') (hstep : ∀ t f N a, Ord w.1 f → rk f w.1 0 = t → (Pm w.1)[t]? = some (seg f 0 w.1) → MOr w f N → J t a N → ∃ a' N1, MOr w f N1 ∧ J (t + 1) a' N1 ∧ ∀ b N', mX7_nextLine N1 = some (b, N') → step (enc a 1 N) = some (.inl (enc a' b N'))) (hend : ∀ a N, J (fct w.1) a N → ∃ r, step (enc a 0 N) = some (.inr r) ∧ R r) {M : tr_M} {a0 : α} (h0 : J 0 a0 M) : ∃ r, (Option.bind (mX7_firstLine M) fun c => tr_loop step (enc a0 1 c)) = some r ∧ R r := by
  obtain ⟨f, F, f1, f2, f3, f4, f5, f6⟩ := firstLine_eq hok (hJw 0 a0 M h0)
  rw [f1, Option.bind_some]
  have hfl := fct_le10 hok.1
  have hfp := fct_pos w.1
  refine tr_loop_inv (step := step) (s0 := enc a0 1 F) (fun t s => (t < fct w.1 ∧ ∃ f N a, s = enc a 1 N ∧ Ord w.1 f ∧ rk f w.1 0 = t ∧ MOr w f N ∧ J t a N) ∨ (t = fct w.1 ∧ ∃ a N, s = enc a 0 N ∧ J t a N)) R (fct w.1) (by omega) (Or.inl ⟨hfp, f, F, a0, rfl, f2, f3, f4, hJ _ _ _ _ h0 f5 f6⟩) ?_ ?_
  · rintro t s ht (⟨-, f, N, a, rfl, g1, g2, g3, g4⟩ | ⟨e, -⟩)
    · left
      have hp := Pm_rk g1
      rw [g2] at hp
      obtain ⟨a', N1, n1, n2, n3⟩ := hstep t f N a g1 g2 hp g3 g4
      rcases nextLine_eq hok (hJw _ _ _ n2) g1 n1 with ⟨x1, x2⟩ | ⟨g, P, x1, x2, x3, x4, x5, x6⟩
      · refine ⟨_, n3 _ _ x2, Or.inr ⟨by omega, a', N1, rfl, n2⟩⟩
      · refine ⟨_, n3 _ _ x3, Or.inl ⟨?_, g, P, a', rfl, x1, by omega, x4, hJ _ _ _ _ n2 x5 x6⟩⟩
        have hg := Pm_rk x1
        have := (List.getElem?_eq_some_iff.mp hg).1
        rw [Pm_len] at this
        omega
    · omega
  · rintro s (⟨e, -⟩ | ⟨-, a, N, rfl, g⟩)
    · omega
    · exact hend a N g
theorem allowedNow_eq {w : Wd} {pin : Option (Nat × Nat)} {f : Nat → Nat} {M : tr_M} (hok : WOk w) (hm : MWd w M) (hp : PinX pin M) (hpo : pinOk w.1 pin) (hf : Ord w.1 f) (ho : MOr w f M) : mX7_isAllowedNow M = some (if okf w pin f = true then 1 else 0) := by
  have hn := hok.1
  unfold mX7_isAllowedNow
  rw [brokenNow_eq hok hm hf ho, Option.bind_some]
  have hb := brk_none (f := f) hok
  unfold okf at hb ⊢
  by_cases c : brk w f = -9
  · rw [if_pos c]
    have := hb.mp c
    rw [Bool.and_eq_true] at this
    rw [this.1, Bool.true_and]
    cases pin with
    | none =>
      rw [show M.1 1 27 = -9 from hp, if_pos rfl]
      rfl
    | some p =>
      obtain ⟨t, q⟩ := p
      obtain ⟨h27, h28, ht, hq⟩ := hp
      have ht2 : t < w.1 := hpo.1
      have hs := sf_le f t w.1
      rw [h27, if_neg (fun e => n9_ne ht e.symm), tr_rd_nI ht (by decide), Option.bind_some, ho.2 t ht2, h28]
      simp (disch := omega) only [neq]
      unfold pinK
      by_cases d : sf f t w.1 = q <;> simp [d]
  · rw [if_neg c]
    have : ¬ (al w.2.2.1 (fun k => w.2.2.2.2 k || kept w.1 (w.2.2.2.1 k) f) && pinK w.1 none f) = true := fun e => c (hb.mpr e)
    rw [Bool.and_eq_true] at this
    rw [if_neg]
    rw [Bool.and_eq_true]
    exact fun e => this ⟨e.1, rfl⟩
/-- how long the longest tie of an order is; the least of it among the allowed ones; those that have it -/
def lgv (w : Wd) (p : List Nat) : Nat := longN w (fn p)
def LM (w : Wd) (pin : Option (Nat × Nat)) : Nat := lm NV ((Al w pin).map (lgv w))
def LQ (w : Wd) (pin : Option (Nat × Nat)) : List (List Nat) := (Al w pin).filter (fun p => decide (lgv w p = LM w pin))
theorem LM_le (w : Wd) (pin : Option (Nat × Nat)) : LM w pin ≤ NV := lm_le _ _
theorem longN_cg {w : Wd} {f g : Nat → Nat} (h : ∀ i, i < w.1 → f i = g i) : longN w f = longN w g := by
  unfold longN
  refine mxf_congr fun i hi => mxf_congr fun j hj => ?_
  rw [h i hi, h j hj]
theorem fn_seg {f : Nat → Nat} {n i : Nat} (hi : i < n) : fn (seg f 0 n) i = f i := by
  unfold fn
  rw [seg_get f hi, Nat.zero_add]
theorem lgv_seg (w : Wd) (f : Nat → Nat) : lgv w (seg f 0 w.1) = longN w f := longN_cg fun i hi => fn_seg hi
theorem sf_cg {f g : Nat → Nat} {y : Nat} : ∀ {n : Nat}, (∀ i, i < n → f i = g i) → sf f y n = sf g y n
  | 0, _ => rfl
  | n + 1, h => by
    unfold sf
    rw [sf_cg (fun i hi => h i (by omega)), h n (by omega)]
theorem okf_cg {w : Wd} {pin : Option (Nat × Nat)} {f g : Nat → Nat} (h : ∀ i, i < w.1 → f i = g i) : okf w pin f = okf w pin g := by
  unfold okf
  have hk : ∀ r, kept w.1 r f = kept w.1 r g := fun r => by
    unfold kept
    simp only [sf_cg h]
  have hp : pinK w.1 pin f = pinK w.1 pin g := by
    unfold pinK
    cases pin with
    | none => rfl
    | some p => simp only [sf_cg h]
  simp only [hk, hp]
theorem okf_seg (w : Wd) (pin : Option (Nat × Nat)) (f : Nat → Nat) : okf w pin (fn (seg f 0 w.1)) = okf w pin f := okf_cg fun i hi => fn_seg hi
theorem take_next {α : Type} {L : List α} {t : Nat} {x : α} (h : L[t]? = some x) : L.take (t + 1) = L.take t ++ [x] := by
  rw [List.take_succ, h]
  rfl
theorem leastReach_eq {w : Wd} {pin : Option (Nat × Nat)} {M : tr_M} (hok : WOk w) (hm : MWd w M) (hp : PinX pin M) (hpo : pinOk w.1 pin) : ∃ N, mX7_leastReach M = some (nI (LM w pin), N) ∧ N.1 1 29 = nI (LM w pin) ∧ KX M N := by
  have hn := hok.1
  unfold mX7_leastReach
  have hJ : ∀ N : tr_M, (∀ c, c ≠ 12 → c ≠ 13 → N.1 c = M.1 c) ∧ N.2 = M.2 → KX M N := fun N h => ⟨fun c _ _ _ => h.1 c (by omega) (by omega), fun k _ => by rw [h.1 1 (by decide) (by decide)], h.2⟩
  obtain ⟨r, e1, N, e2, e3, e4⟩ := lines_loop (w := w) (step := mX7_leastReach_l9) (fun (a : Int32) b N => (a, b, N)) hok (fun t a N => a = nI (lm NV ((((Pm w.1).take t).filter (fun p => okf w pin (fn p))).map (lgv w))) ∧ (∀ c, c ≠ 12 → c ≠ 13 → N.1 c = M.1 c) ∧ N.2 = M.2) (fun r => ∃ N, r = (nI (LM w pin), N) ∧ N.1 1 29 = nI (LM w pin) ∧ KX M N) (fun t a N h => by rw [h.2.1 1 (by decide) (by decide)]; exact hm.1) (fun t a N N' h h1 h2 => ⟨h.1, fun c c1 c2 => (h1 c c1 c2).trans (h.2.1 c c1 c2), h2.trans h.2.2⟩) (by
    rintro t f N a h1 h2 h3 h4 ⟨rfl, h5, h6⟩
    have kN := hJ N ⟨h5, h6⟩
    have hl := longN_le w f
    have hle := lm_le NV ((((Pm w.1).take t).filter (fun p => okf w pin (fn p))).map (lgv w))
    have hNV : NV = 1000000 := rfl
    refine ⟨nI (lm NV ((((Pm w.1).take (t + 1)).filter (fun p => okf w pin (fn p))).map (lgv w))), N, h4, ⟨rfl, h5, h6⟩, fun b N' hb => ?_⟩
    unfold mX7_leastReach_l9
    dsimp only
    rw [if_neg (by decide), allowedNow_eq hok (hm.kx kN) (hp.kx kN) hpo h1 h4, Option.bind_some, reachNow_eq hok (hm.kx kN) h1 h4, take_next h3, List.filter_append, List.map_append, lm_append]
    by_cases c : okf w pin f = true
    · rw [if_pos c, if_neg (by decide)]
      have e : [seg f 0 w.1].filter (fun p => okf w pin (fn p)) = [seg f 0 w.1] := by
        rw [List.filter_cons_of_pos (by rw [okf_seg]; exact c)]
        rfl
      rw [e]
      show Option.bind (some (mX7_lesser (nI _) (nI (longN w f)))) _ = some (Sum.inl (nI (min _ (min (lgv w (seg f 0 w.1)) NV)), b, N'))
      rw [nlesser _ _ (by omega) (by omega), Option.bind_some, hb, Option.bind_some, lgv_seg, Nat.min_eq_left (show longN w f ≤ NV by omega)]
    · rw [if_neg c, if_pos rfl]
      have e : [seg f 0 w.1].filter (fun p => okf w pin (fn p)) = [] := by
        rw [List.filter_cons_of_neg (by rw [okf_seg]; exact c)]
        rfl
      rw [e]
      show Option.bind (some (nI _)) _ = some (Sum.inl (nI (min _ NV), b, N'))
      rw [Option.bind_some, hb, Option.bind_some, Nat.min_eq_left hle]) (by
    rintro a N ⟨rfl, h5, h6⟩
    have kN := hJ N ⟨h5, h6⟩
    unfold mX7_leastReach_l9
    dsimp only
    rw [if_pos rfl, Option.bind_some, ← Pm_len, List.take_length]
    exact ⟨_, rfl, _, rfl, tr_st_s, kN.tr (KX.fld (Or.inl rfl))⟩) (M := M) (a0 := 1000000) ⟨rfl, fun _ _ _ => rfl, rfl⟩
  exact ⟨N, by rw [e1, e2], e3, e4⟩
theorem isLeast_eq {w : Wd} {pin : Option (Nat × Nat)} {f : Nat → Nat} {M : tr_M} (hok : WOk w) (hm : MWd w M) (hp : PinX pin M) (hpo : pinOk w.1 pin) (h29 : M.1 1 29 = nI (LM w pin)) (hf : Ord w.1 f) (ho : MOr w f M) : mX7_isLeastReach M = some (if (okf w pin f && decide (longN w f = LM w pin)) = true then 1 else 0) := by
  have hn := hok.1
  have hl := longN_le w f
  have hL := LM_le w pin
  have hNV : NV = 1000000 := rfl
  unfold mX7_isLeastReach
  rw [allowedNow_eq hok hm hp hpo hf ho, Option.bind_some, reachNow_eq hok hm hf ho, h29]
  cases okf w pin f with
  | false => rfl
  | true =>
    rw [if_neg (by decide), Option.bind_some]
    simp (disch := omega) only [neq]
    by_cases c : longN w f = LM w pin <;> simp [c]
/-- the least ones among the first t orders -/
def LT (w : Wd) (pin : Option (Nat × Nat)) (t : Nat) : List (List Nat) := ((Pm w.1).take t).filter (fun p => okf w pin (fn p) && decide (lgv w p = LM w pin))
theorem LT_all (w : Wd) (pin : Option (Nat × Nat)) : LT w pin (fct w.1) = LQ w pin := by
  unfold LT LQ Al
  rw [← Pm_len, List.take_length, List.filter_filter]
  refine List.filter_congr fun p _ => ?_
  rw [Bool.and_comm]
theorem LT_next {w : Wd} {pin : Option (Nat × Nat)} {t : Nat} {f : Nat → Nat} (h : (Pm w.1)[t]? = some (seg f 0 w.1)) : LT w pin (t + 1) = if (okf w pin f && decide (longN w f = LM w pin)) = true then LT w pin t ++ [seg f 0 w.1] else LT w pin t := by
  unfold LT
  rw [take_next h, List.filter_append]
  by_cases c : (okf w pin f && decide (longN w f = LM w pin)) = true
  · rw [if_pos c, List.filter_cons_of_pos (by rw [okf_seg, lgv_seg]; exact c)]
    rfl
  · rw [if_neg c, List.filter_cons_of_neg (by rw [okf_seg, lgv_seg]; exact c)]
    exact List.append_nil _
theorem waysReach_eq {w : Wd} {pin : Option (Nat × Nat)} {M : tr_M} (hok : WOk w) (hm : MWd w M) (hp : PinX pin M) (hpo : pinOk w.1 pin) (h29 : M.1 1 29 = nI (LM w pin)) : ∃ N, mX7_waysReach M = some (nI (LQ w pin).length, N) ∧ N.1 1 30 = nI (LQ w pin).length ∧ N.1 1 29 = M.1 1 29 ∧ KX M N := by
  have hn := hok.1
  unfold mX7_waysReach
  have hJ : ∀ N : tr_M, (∀ c, c ≠ 12 → c ≠ 13 → N.1 c = M.1 c) ∧ N.2 = M.2 → KX M N := fun N h => ⟨fun c _ _ _ => h.1 c (by omega) (by omega), fun k _ => by rw [h.1 1 (by decide) (by decide)], h.2⟩
  obtain ⟨r, e1, N, e2, e3, e4⟩ := lines_loop (w := w) (step := mX7_waysReach_l8) (fun (a : Int32) b N => (a, b, N)) hok (fun t a N => a = nI (LT w pin t).length ∧ (∀ c, c ≠ 12 → c ≠ 13 → N.1 c = M.1 c) ∧ N.2 = M.2) (fun r => ∃ N, r = (nI (LQ w pin).length, N) ∧ N.1 1 30 = nI (LQ w pin).length ∧ N.1 1 29 = M.1 1 29 ∧ KX M N) (fun t a N h => by rw [h.2.1 1 (by decide) (by decide)]; exact hm.1) (fun t a N N' h h1 h2 => ⟨h.1, fun c c1 c2 => (h1 c c1 c2).trans (h.2.1 c c1 c2), h2.trans h.2.2⟩) (by
    rintro t f N a h1 h2 h3 h4 ⟨rfl, h5, h6⟩
    have kN := hJ N ⟨h5, h6⟩
    refine ⟨nI (LT w pin (t + 1)).length, N, h4, ⟨rfl, h5, h6⟩, fun b N' hb => ?_⟩
    unfold mX7_waysReach_l8
    dsimp only
    rw [if_neg (by decide), isLeast_eq hok (hm.kx kN) (hp.kx kN) hpo (by rw [h5 1 (by decide) (by decide)]; exact h29) h1 h4, Option.bind_some, LT_next h3]
    by_cases c : (okf w pin f && decide (longN w f = LM w pin)) = true
    · rw [if_pos c, if_pos c, if_neg (by decide), Option.bind_some, hb, Option.bind_some, nadd1, List.length_append]
      rfl
    · rw [if_neg c, if_neg c, if_pos rfl, Option.bind_some, hb, Option.bind_some, n00, nadd]
      rfl) (by
    rintro a N ⟨rfl, h5, h6⟩
    have kN := hJ N ⟨h5, h6⟩
    unfold mX7_waysReach_l8
    dsimp only
    rw [if_pos rfl, Option.bind_some, LT_all]
    exact ⟨_, rfl, _, rfl, tr_st_s, (tr_st_j (by decide)).trans (by rw [h5 1 (by decide) (by decide)]), kN.tr (KX.fld (Or.inr rfl))⟩) (M := M) (a0 := 0) ⟨rfl, fun _ _ _ => rfl, rfl⟩
  exact ⟨N, by rw [e1, e2], e3, e4⟩
