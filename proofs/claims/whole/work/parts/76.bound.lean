/-! ===== bounds: the nearest ===== -/
def cw (n : Nat) (g : Nat → Nat) (v : Nat) : Nat := sm n (fun b => if g b = v then 1 else 0)
def tri (v k c : Nat) : Nat := sm c (fun t => v * ((k + t) / 2 + 1))
def NN (n : Nat) (g : Nat → Nat) : Nat → Nat → Nat
  | 0, _ => 0
  | v + 1, k => tri (v + 1) k (cw n g (v + 1)) + NN n g v (k + cw n g (v + 1))
theorem tri_s (v k : Nat) : ∀ c, tri v k (c + 1) = v * (k / 2 + 1) + tri v (k + 1) c
  | 0 => by
    show 0 + v * ((k + 0) / 2 + 1) = v * (k / 2 + 1) + 0
    rw [Nat.zero_add]
    rfl
  | c + 1 => by
    show tri v k (c + 1) + v * ((k + (c + 1)) / 2 + 1) = v * (k / 2 + 1) + (tri v (k + 1) c + v * ((k + 1 + c) / 2 + 1))
    rw [tri_s v k c, show k + (c + 1) = k + 1 + c by omega]
    omega
theorem NN_congr {n : Nat} {g h : Nat → Nat} : ∀ {t k : Nat}, (∀ u, 0 < u → u ≤ t → cw n g u = cw n h u) → NN n g t k = NN n h t k
  | 0, _, _ => rfl
  | t + 1, k, H => by
    show tri (t + 1) k (cw n g (t + 1)) + NN n g t (k + cw n g (t + 1)) = tri (t + 1) k (cw n h (t + 1)) + NN n h t (k + cw n h (t + 1))
    rw [H (t + 1) (by omega) (by omega), NN_congr (fun u h1 h2 => H u h1 (by omega))]
theorem NN_skip {n : Nat} {g : Nat → Nat} {v k : Nat} : ∀ {t : Nat}, v ≤ t → (∀ u, v < u → u ≤ t → cw n g u = 0) → NN n g t k = NN n g v k
  | 0, h, _ => by rw [show v = 0 by omega]
  | t + 1, h, H => by
    by_cases e : v = t + 1
    · rw [e]
    · show tri (t + 1) k (cw n g (t + 1)) + NN n g t (k + cw n g (t + 1)) = _
      rw [H (t + 1) (by omega) (by omega)]
      show 0 + NN n g t k = _
      rw [Nat.zero_add, NN_skip (by omega) (fun u h1 h2 => H u h1 (by omega))]
theorem cw_0 {n : Nat} {g : Nat → Nat} {u : Nat} (h : ∀ b, b < n → g b ≠ u) : cw n g u = 0 := by
  unfold cw
  rw [sm_congr (g := fun _ => 0) (fun b hb => if_neg (h b hb)), sm_0]
theorem NN_pick {n : Nat} {g : Nat → Nat} {best v k : Nat} (hb : best < n) (hv : g best = v) (hm : ∀ b, b < n → g b ≤ v) (h9 : v ≤ 9) : NN n g 9 k = v * (k / 2 + 1) + NN n (fun b => if b = best then 0 else g b) 9 (k + 1) := by
  have hup : ∀ u, cw n (fun b => if b = best then 0 else g b) u + (if v = u then 1 else 0) = cw n g u + (if 0 = u then 1 else 0) := fun u => by
    have e := sm_up (f := fun b => if g b = u then 1 else 0) (b := best) (v := if 0 = u then 1 else 0) hb
    simp only [hv] at e
    unfold cw
    rw [← e]
    congr 1
    refine sm_congr fun b _ => ?_
    by_cases c : b = best
    · simp only [if_pos c]
    · simp only [if_neg c]
  cases v with
  | zero =>
    have e1 : NN n g 9 k = NN n g 0 k := NN_skip (by omega) fun u h1 h2 => cw_0 fun b hb => by have := hm b hb; omega
    have e2 : NN n (fun b => if b = best then 0 else g b) 9 (k + 1) = NN n (fun b => if b = best then 0 else g b) 0 (k + 1) := NN_skip (by omega) fun u h1 h2 => cw_0 fun b hb => by
      show (if b = best then 0 else g b) ≠ u
      have := hm b hb
      split <;> omega
    rw [e1, e2]
    show 0 = 0 * _ + 0
    rw [Nat.zero_mul]
  | succ v =>
    have e1 : NN n g 9 k = NN n g (v + 1) k := NN_skip (by omega) fun u h1 h2 => cw_0 fun b hb => by have := hm b hb; omega
    have e2 : NN n (fun b => if b = best then 0 else g b) 9 (k + 1) = NN n (fun b => if b = best then 0 else g b) (v + 1) (k + 1) := NN_skip (by omega) fun u h1 h2 => cw_0 fun b hb => by
      show (if b = best then 0 else g b) ≠ u
      have := hm b hb
      split <;> omega
    have h1 := hup (v + 1)
    rw [if_pos rfl, if_neg (by omega)] at h1
    have h1 : cw n (fun b => if b = best then 0 else g b) (v + 1) + 1 = cw n g (v + 1) := h1
    rw [e1, e2]
    show tri (v + 1) k (cw n g (v + 1)) + NN n g v (k + cw n g (v + 1)) = (v + 1) * (k / 2 + 1) + (tri (v + 1) (k + 1) (cw n (fun b => if b = best then 0 else g b) (v + 1)) + NN n (fun b => if b = best then 0 else g b) v (k + 1 + cw n (fun b => if b = best then 0 else g b) (v + 1)))
    rw [← h1, tri_s]
    have e3 : NN n g v (k + (cw n (fun b => if b = best then 0 else g b) (v + 1) + 1)) = NN n (fun b => if b = best then 0 else g b) v (k + 1 + cw n (fun b => if b = best then 0 else g b) (v + 1)) := by
      rw [show k + (cw n (fun b => if b = best then 0 else g b) (v + 1) + 1) = k + 1 + cw n (fun b => if b = best then 0 else g b) (v + 1) by omega]
      refine NN_congr fun u h2 h3 => ?_
      have := hup u
      rw [if_neg (by omega), if_neg (by omega)] at this
      omega
    rw [e3]
    omega
def nz (n : Nat) (g : Nat → Nat) : Nat := sm n (fun b => if g b = 0 then 0 else 1)
theorem sm_eq0 {f : Nat → Nat} : ∀ {n : Nat}, sm n f = 0 → ∀ b, b < n → f b = 0
  | 0, _, b, hb => by omega
  | n + 1, h, b, hb => by
    have h : sm n f + f n = 0 := h
    by_cases e : b = n
    · subst e; omega
    · exact sm_eq0 (n := n) (by omega) b (by omega)
theorem NN_zero {n : Nat} {g : Nat → Nat} {k : Nat} (h : nz n g = 0) : NN n g 9 k = 0 := by
  have h2 : ∀ b, b < n → g b = 0 := fun b hb => by
    have := sm_eq0 h b hb
    by_cases c : g b = 0
    · exact c
    · simp [c] at this
  rw [NN_skip (v := 0) (by omega) fun u h1 h3 => cw_0 fun b hb => by rw [h2 b hb]; omega]
  rfl
theorem nz_pick {n : Nat} {g : Nat → Nat} {best : Nat} (hb : best < n) (hm : ∀ b, b < n → g b ≤ g best) {k : Nat} (hk : nz n g ≤ k + 1) : nz n (fun b => if b = best then 0 else g b) ≤ k := by
  have e := sm_up (f := fun b => if g b = 0 then 0 else 1) (b := best) (v := 0) hb
  have e2 : nz n (fun b => if b = best then 0 else g b) = sm n (fun y => if y = best then 0 else if g y = 0 then 0 else 1) := sm_congr fun b _ => by
    by_cases c : b = best
    · simp [c]
    · simp [c]
  rw [e2]
  have e3 : sm n (fun y => if y = best then 0 else if g y = 0 then 0 else 1) + (if g best = 0 then 0 else 1) = nz n g + 0 := e
  by_cases c : g best = 0
  · have : nz n g = 0 := by
      unfold nz
      rw [sm_congr (g := fun _ => 0), sm_0]
      intro b hb
      have := hm b hb
      rw [if_pos (by omega)]
    rw [if_pos c] at e3
    omega
  · rw [if_neg c] at e3
    omega
/-- the class -/
theorem nearC_in {w : Wd} {o a v k q : Nat} {M : tr_M} (hok : WOk w) (hw : CWd w o M) (ha : a < w.1) (hv : v ≤ 9) (hv0 : 0 < v) (hk : k ≤ 100) : tr_loop (mX5_nearestProducts_l26 o M (nI q, nI a) (nI q, nI k, nI v)) (nI q, nI k, 0) = some (.inl (nI (q + tri v k (cw w.1 (w.2.1 a) v)), nI (k + cw w.1 (w.2.1 a) v), nI (v - 1))) := by
  have hn := hok.1
  refine tr_loop_seq' (fun b => (nI (q + tri v k (cw b (w.2.1 a) v)), nI (k + cw b (w.2.1 a) v), nI b)) w.1 rfl (by omega) (fun b hb => ?_) ?_
  · unfold mX5_nearestProducts_l26
    have h9 := hok.2.1 a b
    have hc : cw b (w.2.1 a) v ≤ b * 1 := sm_le fun i hi => by split <;> omega
    simp (disch := omega) only [hw.1, nlt, hb, if_true, tr_ra_nI, tr_rd_nI, Option.bind_some, hw.2.2.2.1, neq]
    have hs : cw (b + 1) (w.2.1 a) v = cw b (w.2.1 a) v + (if w.2.1 a b = v then 1 else 0) := rfl
    rw [hs]
    by_cases c : w.2.1 a b = v
    · simp only [if_pos c]
      rw [show (2 : Int32) = nI 2 from rfl, pk_div (by omega) (by decide) (by decide), nadd1, nmul, nadd, nadd1, nadd1, Nat.add_assoc, Nat.add_assoc]
      rfl
    · simp only [if_neg c, Nat.add_zero, nadd1]
  · unfold mX5_nearestProducts_l26
    simp (disch := omega) only [hw.1, nlt, Nat.lt_irrefl, if_false, Option.bind_some, nsub1]
theorem nearC_mid {w : Wd} {o a q : Nat} {M : tr_M} (hok : WOk w) (hw : CWd w o M) (ha : a < w.1) : tr_loop (mX5_nearestProducts_l18 o M (nI q, nI a)) (nI q, 0, 9) = some (.inl (nI (q + NN w.1 (w.2.1 a) 9 0), nI (a + 1))) := by
  have hn := hok.1
  obtain ⟨r, h1, h2⟩ := tr_loop_inv (step := mX5_nearestProducts_l18 o M (nI q, nI a)) (s0 := (nI q, 0, 9)) (fun i s => ∃ q' k, s = (nI q', nI k, nI (9 - i)) ∧ k ≤ 10 * i ∧ q' + NN w.1 (w.2.1 a) (9 - i) k = q + NN w.1 (w.2.1 a) 9 0) (fun r => r = .inl (nI (q + NN w.1 (w.2.1 a) 9 0), nI (a + 1))) 9 (by decide) ⟨q, 0, rfl, by omega, rfl⟩ (by
    rintro i s hi ⟨q', k, rfl, hk, hq⟩
    left
    have hc : cw w.1 (w.2.1 a) (9 - i) ≤ w.1 * 1 := sm_le fun i hi => by split <;> omega
    refine ⟨_, ?_, q' + tri (9 - i) k (cw w.1 (w.2.1 a) (9 - i)), k + cw w.1 (w.2.1 a) (9 - i), rfl, by omega, ?_⟩
    · unfold mX5_nearestProducts_l18
      simp (disch := omega) only [n0lt, show 0 < 9 - i by omega, if_true]
      have e : ∀ p, tr_loop (mX5_nearestProducts_l26 o M (nI q, nI a) (nI p, nI k, nI (9 - i))) (nI p, nI k, 0) = some (.inl (nI (p + tri (9 - i) k (cw w.1 (w.2.1 a) (9 - i))), nI (k + cw w.1 (w.2.1 a) (9 - i)), nI (9 - (i + 1)))) := fun p => by
        have := nearC_in (q := p) hok hw ha (show 9 - i ≤ 9 by omega) (by omega) (show k ≤ 100 by omega)
        rw [show 9 - (i + 1) = 9 - i - 1 by omega]
        exact this
      exact e q'
    · rw [← hq, show 9 - i = 9 - (i + 1) + 1 by omega]
      show _ = q' + (tri (9 - (i + 1) + 1) k (cw w.1 (w.2.1 a) (9 - (i + 1) + 1)) + NN w.1 (w.2.1 a) (9 - (i + 1)) (k + cw w.1 (w.2.1 a) (9 - (i + 1) + 1)))
      omega) (by
    rintro s ⟨q', k, rfl, hk, hq⟩
    refine ⟨_, ?_, rfl⟩
    unfold mX5_nearestProducts_l18
    rw [if_neg (show ¬ (0 : Int32) < nI (9 - 9) by decide), nadd1, ← hq]
    rfl)
  rw [h1, h2]
theorem nearC {w : Wd} {o : Nat} {M : tr_M} (hok : WOk w) (hw : CWd w o M) : mX5_nearestProducts o M = some (nI (sm w.1 (fun a => NN w.1 (w.2.1 a) 9 0))) := by
  have hn := hok.1
  have e := loop_sum (step := mX5_nearestProducts_l4 o M) (n := w.1) (f := fun a => NN w.1 (w.2.1 a) 9 0) (g := fun v => v) 0 (by omega) (fun a c ha => by
    unfold mX5_nearestProducts_l4
    simp (disch := omega) only [hw.1, nlt, ha, if_true]
    exact nearC_mid hok hw ha) (fun c => by
    unfold mX5_nearestProducts_l4
    simp (disch := omega) only [hw.1, nlt, Nat.lt_irrefl, if_false])
  rw [Nat.zero_add] at e
  exact e
/-- the model -/
theorem argmax_eq {n k q : Nat} {g : Nat → Nat} {N : tr_M} (hn : n ≤ 10) (h1 : 0 < n) (hw : N.1 1 10 = nI n) (hg : ∀ b, b < n → N.1 20 b = nI (g b)) (h9 : ∀ b, b < n → g b ≤ 9) : ∃ best, best < n ∧ (∀ b, b < n → g b ≤ g best) ∧ tr_loop (mX7_nearestOf_l46 (nI q, nI k, N)) (0, 1) = some (nI best) := by
  obtain ⟨r, e1, best, e2, e3, e4⟩ := tr_loop_inv (step := mX7_nearestOf_l46 (nI q, nI k, N)) (s0 := (0, 1)) (fun i s => ∃ best, s = (nI best, nI (i + 1)) ∧ best < n ∧ ∀ b, b < i + 1 → g b ≤ g best) (fun r => ∃ best, r = nI best ∧ best < n ∧ ∀ b, b < n → g b ≤ g best) (n - 1) (by omega) ⟨0, rfl, h1, fun b hb => by rw [show b = 0 by omega]; exact Nat.le_refl _⟩ (by
    rintro i s hi ⟨best, rfl, hb, hm⟩
    left
    have a1 := h9 (i + 1) (by omega)
    have a2 := h9 best hb
    unfold mX7_nearestOf_l46
    simp (disch := omega) only [hw, nlt, show i + 1 < n by omega, if_true, tr_rd_nI, hg, Option.bind_some, nadd1]
    by_cases c : g best < g (i + 1)
    · rw [if_pos c]
      refine ⟨_, rfl, i + 1, rfl, by omega, fun b hb => ?_⟩
      by_cases e : b = i + 1
      · rw [e]; exact Nat.le_refl _
      · have := hm b (by omega); omega
    · rw [if_neg c]
      refine ⟨_, rfl, best, rfl, hb, fun b hb => ?_⟩
      by_cases e : b = i + 1
      · rw [e]; omega
      · exact hm b (by omega)) (by
    rintro s ⟨best, rfl, hb, hm⟩
    refine ⟨nI best, ?_, best, rfl, hb, fun b hb => hm b (by omega)⟩
    unfold mX7_nearestOf_l46
    simp (disch := omega) only [hw, nlt, show ¬ (n - 1 + 1 < n) by omega, if_false])
  exact ⟨best, e3, e4, by rw [e1, e2]⟩
theorem nearM {w : Wd} {a : Nat} {M : tr_M} (hok : WOk w) (hm : MWd w M) (ha : a < w.1) : ∃ N, mX7_nearestOf (nI a) M = some (nI (NN w.1 (w.2.1 a) 9 0), N) ∧ SM M N := by
  have hn := hok.1
  unfold mX7_nearestOf
  have e0 : tr_loop (mX7_nearestOf_l2 (nI a)) (0, M) = some (tr_row M 20 (cp (M.1 20) (fun b => nI (w.2.1 a b)) w.1)) := by
    refine tr_loop_seq' (fun i => (nI i, tr_row M 20 (cp (M.1 20) (fun b => nI (w.2.1 a b)) i))) w.1 ?_ (by omega) (fun i hi => ?_) ?_
    · show (nI 0, tr_row M 20 (cp (M.1 20) _ 0)) = _
      rw [cp_0, tr_row_id rfl]
      rfl
    · unfold mX7_nearestOf_l2
      have hm2 : MWd w (tr_row M 20 (cp (M.1 20) (fun b => nI (w.2.1 a b)) i)) := hm.sm (SM.row (by omega))
      simp (disch := omega) only [hm2.1, nlt, hi, if_true, weight_eq, hm2.2.2.1, Option.bind_some, tr_wr_nI, tr_row_st, nadd1]
      rw [← cp_s]
    · unfold mX7_nearestOf_l2
      have hm2 : MWd w (tr_row M 20 (cp (M.1 20) (fun b => nI (w.2.1 a b)) w.1)) := hm.sm (SM.row (by omega))
      simp (disch := omega) only [hm2.1, nlt, Nat.lt_irrefl, if_false]
  rw [e0]
  dsimp only [Option.bind_some]
  obtain ⟨r, h1, N, h2, h3⟩ := tr_loop_inv (step := mX7_nearestOf_l32) (s0 := (0, 0, tr_row M 20 (cp (M.1 20) (fun b => nI (w.2.1 a b)) w.1))) (fun i s => ∃ q g N, s = (nI q, nI i, N) ∧ (∀ b, b < w.1 → N.1 20 b = nI (g b)) ∧ (∀ b, b < w.1 → g b ≤ 9) ∧ q + NN w.1 g 9 i = NN w.1 (w.2.1 a) 9 0 ∧ nz w.1 g ≤ w.1 - i ∧ SM M N) (fun r => ∃ N, r = (nI (NN w.1 (w.2.1 a) 9 0), N) ∧ SM M N) w.1 (by omega) ⟨0, w.2.1 a, _, rfl, fun b hb => by rw [tr_row_s, cp_in hb], fun b _ => hok.2.1 a b, Nat.zero_add _, by
      have : nz w.1 (w.2.1 a) ≤ w.1 * 1 := sm_le fun i hi => by split <;> omega
      omega, SM.row (by omega)⟩ (by
    rintro i s hi ⟨q, g, N, rfl, hg, h9, hq, hz, hs⟩
    left
    have hN := (hm.sm hs).1
    obtain ⟨best, hb, hmx, e⟩ := argmax_eq (k := i) (q := q) hn (by omega) hN hg h9
    have hb9 := h9 best hb
    refine ⟨_, ?_, q + g best * (i / 2 + 1), fun b => if b = best then 0 else g b, tr_st N 20 best (nI 0), rfl, fun b hb' => ?_, fun b hb' => ?_, ?_, ?_, hs.tr ⟨fun c _ _ _ _ _ => tr_st_ne (by omega), rfl⟩⟩
    · unfold mX7_nearestOf_l32
      simp (disch := omega) only [hN, nlt, hi, if_true]
      rw [e]
      dsimp only [Option.bind_some]
      simp (disch := omega) only [tr_rd_nI, hg best hb, Option.bind_some, tr_wr_nI, nadd1]
      rw [show (2 : Int32) = nI 2 from rfl, pk_div (by omega) (by decide) (by decide), nadd1, nmul, nadd]
      rfl
    · show _ = nI (if b = best then 0 else g b)
      by_cases c : b = best
      · rw [if_pos c, c, tr_st_s]
      · rw [if_neg c, tr_st_j c]; exact hg b hb'
    · show (if b = best then 0 else g b) ≤ 9
      have := h9 b hb'
      split <;> omega
    · rw [← hq, NN_pick (k := i) hb rfl hmx hb9]
      omega
    · have := nz_pick hb hmx (show nz w.1 g ≤ (w.1 - (i + 1)) + 1 by omega)
      exact this) (by
    rintro s ⟨q, g, N, rfl, hg, h9, hq, hz, hs⟩
    refine ⟨(nI q, N), ?_, N, ?_, hs⟩
    · unfold mX7_nearestOf_l32
      simp (disch := omega) only [(hm.sm hs).1, nlt, Nat.lt_irrefl, if_false]
    · rw [← hq, NN_zero (by omega), Nat.add_zero])
  exact ⟨N, by rw [h1, h2], h3⟩
