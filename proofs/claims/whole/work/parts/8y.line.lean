theorem find_up {n : Nat} {f : Nat → Nat} {M : tr_M} (hn : n ≤ 10) (hf : Ord n f) (hl : ∀ i, i < n → M.1 12 i = nI (f i)) : ∃ v, tr_loop (mX7_nextLine_l7 M) (nI n - 2) = some v ∧ ((v < 0 ∧ Dn f 0 n) ∨ ∃ i, v = nI i ∧ i + 1 < n ∧ f i < f (i + 1) ∧ Dn f (i + 1) n) := by
  by_cases h2 : n < 2
  · have hneg : (nI n - 2 : Int32) < 0 := by
      rcases (show n = 0 ∨ n = 1 by omega) with h | h <;> subst h <;> decide
    refine ⟨nI n - 2, ?_, Or.inl ⟨hneg, fun j h1 h3 => by omega⟩⟩
    refine tr_loop_seq' (fun _ => nI n - 2) 0 rfl (by decide) (fun i hi => by omega) ?_
    unfold mX7_nextLine_l7
    rw [if_pos hneg]
  · rw [show (2 : Int32) = nI 2 from rfl, nsub (by omega)]
    obtain ⟨v, e1, e2⟩ := tr_loop_inv (step := mX7_nextLine_l7 M) (s0 := nI (n - 2)) (fun t s => (t + 1 < n ∧ s = nI (n - 2 - t) ∧ Dn f (n - 1 - t) n) ∨ (t + 1 = n ∧ s = -1 ∧ Dn f 0 n)) (fun v => (v < 0 ∧ Dn f 0 n) ∨ ∃ i, v = nI i ∧ i + 1 < n ∧ f i < f (i + 1) ∧ Dn f (i + 1) n) (n - 1) (by omega) (Or.inl ⟨by omega, rfl, fun j h1 h3 => by omega⟩) (by
      rintro t s ht h
      rcases h with ⟨h1, rfl, h3⟩ | ⟨h1, -, -⟩
      · unfold mX7_nextLine_l7
        rw [if_neg (nI_pos (by omega)), tr_rd_nI (by omega) (by decide), Option.bind_some, nadd1, tr_rd_nI (by omega) (by decide), Option.bind_some, hl _ (by omega), hl _ (by omega)]
        have g1 := hf.1 (n - 2 - t) (by omega)
        have g2 := hf.1 (n - 2 - t + 1) (by omega)
        simp (disch := omega) only [nlt]
        by_cases c : f (n - 2 - t + 1) < f (n - 2 - t)
        · left
          rw [if_pos c]
          have hd : Dn f (n - 2 - t) n := fun j j1 j2 => by
            by_cases e : j = n - 2 - t
            · rw [e]; exact c
            · exact h3 j (by omega) j2
          refine ⟨_, rfl, ?_⟩
          by_cases d : t + 1 + 1 < n
          · left
            refine ⟨d, ?_, ?_⟩
            · rw [nsub1 (by omega)]
              congr 1
            · rw [show n - 1 - (t + 1) = n - 2 - t by omega]; exact hd
          · right
            rw [show n - 2 - t = 0 by omega] at hd ⊢
            exact ⟨by omega, rfl, hd⟩
        · right
          rw [if_neg c]
          refine ⟨_, rfl, Or.inr ⟨n - 2 - t, rfl, by omega, ?_, ?_⟩⟩
          · have : f (n - 2 - t) ≠ f (n - 2 - t + 1) := fun e => by
              have := hf.2 _ _ (by omega) (by omega) e
              omega
            omega
          · rw [show n - 2 - t + 1 = n - 1 - t by omega]; exact h3
      · omega) (by
      rintro s h
      rcases h with ⟨h1, -, -⟩ | ⟨h1, rfl, h3⟩
      · omega
      · unfold mX7_nextLine_l7
        rw [if_pos (by decide)]
        exact ⟨_, rfl, Or.inl ⟨by decide, h3⟩⟩)
    exact ⟨v, e1, e2⟩
theorem find_k {n i : Nat} {f : Nat → Nat} {M : tr_M} (hn : n ≤ 10) (hf : Ord n f) (hl : ∀ i, i < n → M.1 12 i = nI (f i)) (hi : i + 1 < n) (hlt : f i < f (i + 1)) : ∃ k, tr_loop (mX7_nextLine_l47 M (nI i)) (nI n - 1) = some (nI k) ∧ i < k ∧ k < n ∧ f i < f k ∧ ∀ j, k < j → j < n → f j < f i := by
  rw [show (1 : Int32) = nI 1 from rfl, nsub (by omega)]
  have step : ∀ k, i < k → k < n → mX7_nextLine_l47 M (nI i) (nI k) = if f k < f i then some (.inl (nI (k - 1))) else some (.inr (nI k)) := fun k h1 h2 => by
    have g1 := hf.1 k h2
    have g2 := hf.1 i (by omega)
    unfold mX7_nextLine_l47
    rw [tr_rd_nI (by omega) (by decide), Option.bind_some, tr_rd_nI (by omega) (by decide), Option.bind_some, hl _ (by omega), hl _ (by omega), nsub1 (by omega)]
    simp (disch := omega) only [nlt]
    rfl
  obtain ⟨v, e1, k, e2, e3⟩ := tr_loop_inv (step := mX7_nextLine_l47 M (nI i)) (s0 := nI (n - 1)) (fun t s => s = nI (n - 1 - t) ∧ i < n - 1 - t ∧ ∀ j, n - 1 - t < j → j < n → f j < f i) (fun v => ∃ k, v = nI k ∧ i < k ∧ k < n ∧ f i < f k ∧ ∀ j, k < j → j < n → f j < f i) (n - 2 - i) (by omega) ⟨rfl, by omega, fun j h1 h2 => by omega⟩ (by
    rintro t s ht ⟨rfl, h1, h2⟩
    rw [step _ h1 (by omega)]
    by_cases c : f (n - 1 - t) < f i
    · left
      rw [if_pos c]
      refine ⟨_, rfl, by congr 1, by omega, fun j h3 h4 => ?_⟩
      by_cases e : j = n - 1 - t
      · rw [e]; exact c
      · exact h2 j (by omega) h4
    · right
      rw [if_neg c]
      refine ⟨_, rfl, n - 1 - t, rfl, h1, by omega, ?_, h2⟩
      have : f i ≠ f (n - 1 - t) := fun e => by
        have := hf.2 _ _ (by omega) (by omega) e
        omega
      omega) (by
    rintro s ⟨rfl, h1, h2⟩
    rw [show n - 1 - (n - 2 - i) = i + 1 by omega] at h2 ⊢
    rw [step _ (by omega) (by omega), if_neg (by omega)]
    exact ⟨_, rfl, i + 1, rfl, by omega, by omega, hlt, h2⟩)
  exact ⟨k, by rw [e1, e2], e3⟩
def rvt (g : Nat → Nat) (a b t x : Nat) : Nat := if (a ≤ x ∧ x < a + t) ∨ (b < x + t ∧ x ≤ b) then g (a + b - x) else g x
theorem reverse_eq {n a : Nat} {g : Nat → Nat} {M : tr_M} (hn : n ≤ 10) (hg : Ord n g) (hl : ∀ i, i < n → M.1 12 i = nI (g i)) (ha : 0 < a) (han : a < n) : ∃ h N, tr_loop mX7_nextLine_l86 (nI a, nI (n - 1), M) = some N ∧ Ord n h ∧ (∀ i, i < n → N.1 12 i = nI (h i)) ∧ (∀ x, x < n → h x = if a ≤ x then g (a + (n - 1) - x) else g x) ∧ (∀ c, c ≠ 12 → N.1 c = M.1 c) ∧ N.2 = M.2 := by
  obtain ⟨N, e1, h, e2, e3, e4, e5, e6⟩ := tr_loop_inv (step := mX7_nextLine_l86) (s0 := (nI a, nI (n - 1), M)) (fun t s => ∃ h N, s = (nI (a + t), nI (n - 1 - t), N) ∧ 2 * t ≤ n - a ∧ Ord n h ∧ (∀ i, i < n → N.1 12 i = nI (h i)) ∧ (∀ x, x < n → h x = rvt g a (n - 1) t x) ∧ (∀ c, c ≠ 12 → N.1 c = M.1 c) ∧ N.2 = M.2) (fun N => ∃ h, Ord n h ∧ (∀ i, i < n → N.1 12 i = nI (h i)) ∧ (∀ x, x < n → h x = if a ≤ x then g (a + (n - 1) - x) else g x) ∧ (∀ c, c ≠ 12 → N.1 c = M.1 c) ∧ N.2 = M.2) (n - a) (by omega) ⟨g, M, rfl, by omega, hg, hl, fun x hx => by unfold rvt; rw [if_neg (by omega)], fun _ _ => rfl, rfl⟩ (by
    rintro t s ht ⟨h, N, rfl, h1, h2, h3, h4, h5, h6⟩
    unfold mX7_nextLine_l86
    dsimp only
    simp (disch := omega) only [nlt]
    by_cases c : a + t < n - 1 - t
    · left
      rw [if_pos c]
      obtain ⟨P, p1, p2, p3, p4⟩ := swap_eq (i := a + t) (j := n - 1 - t) hn (by omega) (by omega) h3
      rw [p1, Option.bind_some, Option.bind_some, nadd1, nsub1 (by omega)]
      refine ⟨_, rfl, sw h (a + t) (n - 1 - t), P, by rw [show n - 1 - t - 1 = n - 1 - (t + 1) by omega, Nat.add_assoc], by omega, sw_ord h2 (by omega) (by omega), p2, fun x hx => ?_, fun b hb => (p3 b hb).trans (h5 b hb), p4.trans h6⟩
      unfold sw
      by_cases x1 : x = a + t
      · rw [if_pos x1, h4 _ (by omega)]
        unfold rvt
        rw [if_neg (by omega), if_pos (by omega)]
        congr 1
        omega
      · rw [if_neg x1]
        by_cases x2 : x = n - 1 - t
        · rw [if_pos x2, h4 _ (by omega)]
          unfold rvt
          rw [if_neg (by omega), if_pos (by omega)]
          congr 1
          omega
        · rw [if_neg x2, h4 x hx]
          unfold rvt
          by_cases q : (a ≤ x ∧ x < a + t) ∨ (n - 1 < x + t ∧ x ≤ n - 1)
          · rw [if_pos q, if_pos (by omega)]
          · rw [if_neg q, if_neg (by omega)]
    · right
      rw [if_neg c]
      refine ⟨N, rfl, h, h2, h3, fun x hx => ?_, h5, h6⟩
      rw [h4 x hx]
      unfold rvt
      by_cases q : (a ≤ x ∧ x < a + t) ∨ (n - 1 < x + t ∧ x ≤ n - 1)
      · rw [if_pos q, if_pos (by omega)]
      · rw [if_neg q]
        by_cases q2 : a ≤ x
        · rw [if_pos q2]
          congr 1
          omega
        · rw [if_neg q2]) (by
    rintro s ⟨h, N, rfl, h1, h2⟩
    omega)
  exact ⟨h, N, e1, e2, e3, e4, e5, e6⟩
theorem nextLine_eq {w : Wd} {f : Nat → Nat} {M : tr_M} (hok : WOk w) (hw : M.1 1 10 = nI w.1) (hf : Ord w.1 f) (ho : MOr w f M) : (rk f w.1 0 + 1 = fct w.1 ∧ mX7_nextLine M = some (0, M)) ∨ ∃ g N, Ord w.1 g ∧ rk g w.1 0 = rk f w.1 0 + 1 ∧ mX7_nextLine M = some (1, N) ∧ MOr w g N ∧ (∀ c, c ≠ 12 → c ≠ 13 → N.1 c = M.1 c) ∧ N.2 = M.2 := by
  have hn := hok.1
  obtain ⟨v, v1, v2⟩ := find_up hn hf ho.1
  unfold mX7_nextLine
  rw [hw, v1]
  dsimp only [Option.bind_some]
  rcases v2 with ⟨v2, v3⟩ | ⟨i, rfl, h1, h2, h3⟩
  · left
    rw [if_pos v2]
    exact ⟨rk_dn hf w.1 0 (Nat.zero_add _) v3, rfl⟩
  · right
    obtain ⟨k, k1, k2, k3, k4, k5⟩ := find_k hn hf ho.1 h1 h2
    obtain ⟨S, s1, s2, s3, s4⟩ := swap_eq (i := i) (j := k) hn (by omega) k3 ho.1
    have hSw : S.1 1 10 = nI w.1 := by rw [s3 1 (by decide)]; exact hw
    have hswo := sw_ord hf (show i < w.1 by omega) k3
    obtain ⟨h, R, r1, r2, r3, r4, r5, r6⟩ := reverse_eq (a := i + 1) hn hswo s2 (by omega) (by omega)
    have hRw : R.1 1 10 = nI w.1 := by rw [r5 1 (by decide)]; exact hSw
    rw [if_neg (nI_pos (by omega)), k1]
    dsimp only [Option.bind_some]
    rw [s1, Option.bind_some, hSw, nadd1, show (nI w.1 : Int32) - 1 = nI (w.1 - 1) from nsub (b := 1) (by omega), r1]
    dsimp only [Option.bind_some]
    rw [layPlaces_eq hok hRw r2 r3, Option.bind_some]
    refine ⟨h, _, r2, ?_, rfl, lay_MOr r2 r3, fun c c1 c2 => by rw [tr_row_ne c2, r5 c c1, s3 c c1], by show R.2 = _; rw [r6, s4]⟩
    have hi : h i = f k := by
      rw [r4 i (by omega), if_neg (by omega)]
      unfold sw
      rw [if_pos rfl]
    have hsw : ∀ q, i < q → q < w.1 → sw f i k q = if q = k then f i else f q := fun q q1 q2 => by
      unfold sw
      rw [if_neg (by omega)]
    refine rk_next hf r2 (show i < w.1 by omega) (fun j hj => ?_) (by rw [hi]; exact k4) (fun j j1 j2 j3 => ?_) h3 (fun j j1 j2 => ?_)
    · rw [r4 j (by omega), if_neg (by omega)]
      unfold sw
      rw [if_neg (by omega), if_neg (by omega)]
    · rw [hi]
      by_cases c : k < j
      · have := k5 j c j2
        omega
      · by_cases e : j = k
        · rw [e]; exact Nat.le_refl _
        · exact Nat.le_of_lt (h3.lt (by omega) (show j < k by omega) k3)
    · rw [r4 j (by omega), if_pos (by omega), r4 (j + 1) j2, if_pos (by omega), hsw _ (by omega) (by omega), hsw _ (by omega) (by omega)]
      have hd := h3 (i + 1 + (w.1 - 1) - (j + 1)) (by omega) (by omega)
      rw [show i + 1 + (w.1 - 1) - (j + 1) + 1 = i + 1 + (w.1 - 1) - j by omega] at hd
      by_cases c1 : i + 1 + (w.1 - 1) - j = k
      · rw [if_pos c1, if_neg (by omega)]
        rw [c1] at hd
        omega
      · rw [if_neg c1]
        by_cases c2 : i + 1 + (w.1 - 1) - (j + 1) = k
        · rw [if_pos c2]
          exact k5 _ (by omega) (by omega)
        · rw [if_neg c2]
          exact hd
theorem firstLine_eq {w : Wd} {M : tr_M} (hok : WOk w) (hw : M.1 1 10 = nI w.1) : ∃ f N, mX7_firstLine M = some N ∧ Ord w.1 f ∧ rk f w.1 0 = 0 ∧ MOr w f N ∧ (∀ c, c ≠ 12 → c ≠ 13 → N.1 c = M.1 c) ∧ N.2 = M.2 := by
  have hn := hok.1
  have hid : Ord w.1 (fun i => i) := ⟨fun i hi => hi, fun i j _ _ e => e⟩
  unfold mX7_firstLine
  obtain ⟨N, e1, e2, e3, e4⟩ := tr_loop_inv (step := mX7_firstLine_l2) (s0 := (0, M)) (fun k t => t.1 = nI k ∧ (∀ i, i < k → t.2.1 12 i = nI i) ∧ (∀ b, b ≠ 12 → t.2.1 b = M.1 b) ∧ t.2.2 = M.2) (fun N => (∀ i, i < w.1 → N.1 12 i = nI i) ∧ (∀ b, b ≠ 12 → N.1 b = M.1 b) ∧ N.2 = M.2) w.1 (by omega) ⟨rfl, fun _ h => absurd h (by omega), fun _ _ => rfl, rfl⟩ (by
    rintro k ⟨-, N⟩ hk ⟨rfl, t1, t2, t3⟩
    left
    dsimp only at t1 t2 t3
    unfold mX7_firstLine_l2
    dsimp only
    rw [t2 1 (by decide), hw, if_pos ((nlt (by omega) (by omega)).mpr hk), tr_wr_nI (by omega) (by decide), Option.bind_some, nadd1]
    refine ⟨_, rfl, rfl, fun i hi => ?_, fun b hb => (tr_st_ne hb).trans (t2 b hb), t3⟩
    by_cases q : i = k
    · rw [q]; exact tr_st_s
    · exact (tr_st_j q).trans (t1 i (by omega))) (by
    rintro ⟨-, N⟩ ⟨rfl, t1, t2, t3⟩
    dsimp only at t1 t2 t3
    unfold mX7_firstLine_l2
    dsimp only
    rw [t2 1 (by decide), hw, if_neg (by rw [nlt (by omega) (by omega)]; omega)]
    exact ⟨N, rfl, t1, t2, t3⟩)
  have hN : N.1 1 10 = nI w.1 := by rw [e3 1 (by decide)]; exact hw
  rw [e1]
  dsimp only [Option.bind_some]
  rw [layPlaces_eq hok hN hid e2, Option.bind_some]
  exact ⟨fun i => i, _, rfl, hid, rk_up hid w.1 0 (Nat.zero_add _) (fun j _ _ => Nat.lt_succ_self j), lay_MOr hid e2, fun c c1 c2 => by rw [tr_row_ne c2, e3 c c1], e4⟩
