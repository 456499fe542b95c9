/-! ===== swaps and moves ===== -/
def scn (w : Wd) (m : Nat) (V : Nat → Bool) (T : Nat → Nat → Nat) (v : Nat) : Nat → Nat × Option Nat
  | 0 => (v, none)
  | k + 1 => if V k = true ∧ okf w none (T k) = true ∧ msr w m (T k) < (scn w m V T v k).1 then (msr w m (T k), some k) else scn w m V T v k
theorem scn_s (w : Wd) (m : Nat) (V : Nat → Bool) (T : Nat → Nat → Nat) (v k : Nat) : scn w m V T v (k + 1) = if V k = true ∧ okf w none (T k) = true ∧ msr w m (T k) < (scn w m V T v k).1 then (msr w m (T k), some k) else scn w m V T v k := rfl
theorem scn_ok (w : Wd) (m : Nat) (V : Nat → Bool) (T : Nat → Nat → Nat) (v : Nat) : ∀ k, (scn w m V T v k).1 ≤ v ∧ ((scn w m V T v k).2 = none → (scn w m V T v k).1 = v) ∧ ∀ j, (scn w m V T v k).2 = some j → (scn w m V T v k).1 = msr w m (T j) ∧ msr w m (T j) < v ∧ okf w none (T j) = true ∧ j < k ∧ V j = true
  | 0 => ⟨Nat.le_refl _, fun _ => rfl, fun j h => by cases h⟩
  | k + 1 => by
    obtain ⟨h1, h2, h3⟩ := scn_ok w m V T v k
    rw [scn_s]
    by_cases c : V k = true ∧ okf w none (T k) = true ∧ msr w m (T k) < (scn w m V T v k).1
    · rw [if_pos c]
      refine ⟨?_, fun h => ?_, fun j h => ?_⟩
      · show msr w m (T k) ≤ v
        omega
      · cases h
      · have h : some k = some j := h
        cases h
        exact ⟨rfl, by omega, c.2.1, by omega, c.1⟩
    · rw [if_neg c]
      refine ⟨h1, h2, fun j h => ?_⟩
      obtain ⟨a1, a2, a3, a4, a5⟩ := h3 j h
      exact ⟨a1, a2, a3, by omega, a5⟩
theorem keep_eq {w : Wd} {m b : Nat} {g : Nat → Nat} {N : tr_M} (hok : WOk w) (hw : CWd w 26 N) (hg : Ord w.1 g) (hc : HasF N 59 w.1 g) (hm : m ≤ 4) (hb : b ≤ 10000) : ∃ P, mX6_keepIfBetter (nI m) (nI b) N = some (nI (if okf w none g = true ∧ msr w m g < b then msr w m g else b), P) ∧ (∀ c, c ≠ 44 → c ≠ 60 → P.1 c = N.1 c) ∧ P.2 = N.2 ∧ ((okf w none g = true ∧ msr w m g < b) → HasF P 60 w.1 g) ∧ (¬ (okf w none g = true ∧ msr w m g < b) → P.1 60 = N.1 60) := by
  have hn := hok.1
  have hml := msr_le hok m g
  unfold mX6_keepIfBetter
  have e : mX5_firstBroken 26 59 N = some (brk w g, tr_row N 44 (sa g (N.1 44) w.1)) := firstBroken_eq hok hw hg hc (show w.1 ≤ 10 from hn) (by decide) rfl (by decide)
  rw [e]
  simp only [Option.bind_some]
  have hw2 : CWd w 26 (tr_row N 44 (sa g (N.1 44) w.1)) := hw.congr fun b h1 h2 => tr_row_ne (by omega)
  have hc2 : HasF (tr_row N 44 (sa g (N.1 44) w.1)) 59 w.1 g := fun i hi => by rw [tr_row_ne (by decide)]; exact hc i hi
  by_cases q : okf w none g = true
  · rw [if_pos ((brk_none hok).mpr q), measured_eq hok hw2 hg hc2 (show w.1 ≤ 10 from hn) (by decide) hm]
    simp (disch := omega) only [Option.bind_some, nlt]
    by_cases d : msr w m g < b
    · rw [if_pos d, hw2.1, show tr_len shC 59 = 10 from rfl, show tr_len shC 60 = 10 from rfl, if_pos ⟨q, d⟩]
      have ec := tr_cpy_nI (n0 := 10) (n1 := 10) (M := tr_row N 44 (sa g (N.1 44) w.1)) (a0 := 59) (a1 := 60) (sp := 0) (dp := 0) (n := w.1) (by omega) (by omega) (by decide) (by decide) (by decide) (by decide)
      rw [show tr_cpy 10 10 (tr_row N 44 (sa g (N.1 44) w.1)) 59 0 60 0 (nI w.1) = _ from ec]
      refine ⟨_, rfl, fun c h1 h2 => ?_, rfl, fun _ i hi => ?_, fun e => absurd ⟨q, d⟩ e⟩
      · rw [tr_row_ne h2, tr_row_ne h1]
      · rw [tr_row_s, pk_cpy_in (by omega) (by omega), Nat.zero_add, Nat.sub_zero]
        exact hc2 i hi
    · rw [if_neg d, if_neg (fun z => d z.2)]
      exact ⟨_, rfl, fun c h1 h2 => tr_row_ne h1, rfl, fun z => absurd z.2 d, fun _ => tr_row_ne (by decide)⟩
  · rw [if_neg (fun z => q ((brk_none hok).mp z)), if_neg (fun z => q z.1)]
    exact ⟨_, rfl, fun c h1 h2 => tr_row_ne h1, rfl, fun z => absurd z.1 q, fun _ => tr_row_ne (by decide)⟩
/-- what one side's round has found -/
def CS (w : Wd) (M1 : tr_M) (f : Nat → Nat) (T : Nat → Nat → Nat) (o : Option Nat) (N : tr_M) : Prop := SC M1 N ∧ HasF N 58 w.1 f ∧ ∀ j, o = some j → HasF N 60 w.1 (T j)
theorem keep_CS {w : Wd} {M1 N : tr_M} {m v k : Nat} {f : Nat → Nat} {V : Nat → Bool} {T : Nat → Nat → Nat} (hok : WOk w) (hw : CWd w 26 M1) (hg : Ord w.1 (T k)) (hc : HasF N 59 w.1 (T k)) (hm : m ≤ 4) (hv : v ≤ 10000) (hV : V k = true) (h : CS w M1 f T (scn w m V T v k).2 N) : ∃ P, mX6_keepIfBetter (nI m) (nI (scn w m V T v k).1) N = some (nI (scn w m V T v (k + 1)).1, P) ∧ CS w M1 f T (scn w m V T v (k + 1)).2 P := by
  have hsc := (scn_ok w m V T v k).1
  obtain ⟨P, e1, e2, e3, e4, e5⟩ := keep_eq (b := (scn w m V T v k).1) hok (hw.sc h.1) hg hc hm (by omega)
  refine ⟨P, ?_, ?_⟩
  · rw [e1]
    have : (if okf w none (T k) = true ∧ msr w m (T k) < (scn w m V T v k).1 then msr w m (T k) else (scn w m V T v k).1) = (scn w m V T v (k + 1)).1 := by
      show _ = (if V k = true ∧ okf w none (T k) = true ∧ msr w m (T k) < (scn w m V T v k).1 then (msr w m (T k), some k) else scn w m V T v k).1
      by_cases c : okf w none (T k) = true ∧ msr w m (T k) < (scn w m V T v k).1
      · rw [if_pos c, if_pos ⟨hV, c⟩]
      · rw [if_neg c, if_neg (fun z => c z.2)]
    rw [this]
  · have hsc2 : SC M1 P := h.1.tr ⟨fun c a1 a2 a3 a4 => e2 c a1 (by omega), e3⟩
    refine ⟨hsc2, fun i hi => by rw [e2 58 (by decide) (by decide)]; exact h.2.1 i hi, fun j hj => ?_⟩
    have hj : (if V k = true ∧ okf w none (T k) = true ∧ msr w m (T k) < (scn w m V T v k).1 then (msr w m (T k), some k) else scn w m V T v k).2 = some j := hj
    by_cases c : okf w none (T k) = true ∧ msr w m (T k) < (scn w m V T v k).1
    · rw [if_pos ⟨hV, c⟩] at hj
      cases hj
      exact e4 c
    · rw [if_neg (fun z => c z.2)] at hj
      intro i hi
      rw [e5 c]
      exact h.2.2 j hj i hi
/-- the rounds of both sides: st1 the class's loop, st2 the model's -/
theorem rounds_both {w : Wd} {M1 M2 : tr_M} {m K : Nat} {V : (Nat → Nat) → Nat → Bool} {T : (Nat → Nat) → Nat → Nat → Nat} {Pl : (Nat → Nat) → tr_M → Prop} {st1 : Int32 × Int32 × Int32 × tr_M → Option ((Int32 × Int32 × Int32 × tr_M) ⊕ (Int32 × Int32 × tr_M))} {st2 : Int32 × Int32 × Int32 × tr_M → Option ((Int32 × Int32 × Int32 × tr_M) ⊕ (Int32 × Int32 × tr_M))} (hok : WOk w) (hT : ∀ f j, Ord w.1 f → j < K → V f j = true → Ord w.1 (T f j)) (h1 : ∀ f v c N, Ord w.1 f → okf w none f = true → v = msr w m f → v ≤ 10000 → c < 100000 → SC M1 N → HasF N 58 w.1 f → ((scn w m (V f) (T f) v K).2 = none → ∃ P, st1 (nI v, nI c, nI c, N) = some (.inr (nI v, nI c, P)) ∧ SC M1 P ∧ HasF P 58 w.1 f) ∧ ∀ j, (scn w m (V f) (T f) v K).2 = some j → ∃ P, st1 (nI v, nI c, nI c, N) = some (.inl (nI (msr w m (T f j)), nI (c + 1), nI (c + 1), P)) ∧ SC M1 P ∧ HasF P 58 w.1 (T f j)) (h2 : ∀ f v c x N, Ord w.1 f → okf w none f = true → v = msr w m f → v ≤ 10000 → x ≠ -9 → SM M2 N → Pl f N → ((scn w m (V f) (T f) v K).2 = none → ∃ P, st2 (nI v, nI c, x, N) = some (.inl (nI v, nI c, -9, P)) ∧ SM M2 P ∧ Pl f P) ∧ ∀ j, (scn w m (V f) (T f) v K).2 = some j → ∃ x' P, x' ≠ -9 ∧ st2 (nI v, nI c, x, N) = some (.inl (nI (msr w m (T f j)), nI (c + 1), x', P)) ∧ SM M2 P ∧ Pl (T f j) P) (h3 : ∀ v c N, st2 (v, c, -9, N) = some (.inr (v, c, N))) : ∀ v f c N1 N2 x, Ord w.1 f → okf w none f = true → v = msr w m f → v ≤ 10000 → v + c ≤ 20000 → x ≠ -9 → SC M1 N1 → HasF N1 58 w.1 f → SM M2 N2 → Pl f N2 → ∃ f' v' c' P1 P2, tr_it st1 (v + 1) (nI v, nI c, nI c, N1) = some (nI v', nI c', P1) ∧ tr_it st2 (v + 2) (nI v, nI c, x, N2) = some (nI v', nI c', P2) ∧ Ord w.1 f' ∧ SC M1 P1 ∧ HasF P1 58 w.1 f' ∧ SM M2 P2 ∧ Pl f' P2 := by
  intro v
  induction v using Nat.strongRecOn with
  | ind v ih =>
    intro f c N1 N2 x hf ho hv hv2 hvc hx s1 g1 s2 g2
    obtain ⟨a1, a2⟩ := h1 f v c N1 hf ho hv hv2 (by omega) s1 g1
    obtain ⟨b1, b2⟩ := h2 f v c x N2 hf ho hv hv2 hx s2 g2
    obtain ⟨-, -, hs⟩ := scn_ok w m (V f) (T f) v K
    cases hsc : (scn w m (V f) (T f) v K).2 with
    | none =>
      obtain ⟨P1, e1, e2, e3⟩ := a1 hsc
      obtain ⟨P2, e4, e5, e6⟩ := b1 hsc
      exact ⟨f, v, c, P1, P2, tr_it_r e1, by rw [tr_it_l e4]; exact tr_it_r (h3 _ _ _), hf, e2, e3, e5, e6⟩
    | some j =>
      obtain ⟨P1, e1, e2, e3⟩ := a2 j hsc
      obtain ⟨x', P2, ex, e4, e5, e6⟩ := b2 j hsc
      obtain ⟨k1, k2, k3, k4, k5⟩ := hs j hsc
      obtain ⟨f', v', c', Q1, Q2, q1, q2, q3, q4⟩ := ih (msr w m (T f j)) k2 (T f j) (c + 1) P1 P2 x' (hT f j hf k4 k5) k3 rfl (by omega) (by omega) ex e2 e3 e5 e6
      refine ⟨f', v', c', Q1, Q2, ?_, ?_, q3, q4⟩
      · rw [tr_it_l e1]
        exact tr_it_mono q1 (by omega)
      · rw [tr_it_l e4]
        exact tr_it_mono q2 (by omega)
/-- two places change -/
def sw (f : Nat → Nat) (i j : Nat) : Nat → Nat := fun t => if t = i then f j else if t = j then f i else f t
theorem sw_ord {n : Nat} {f : Nat → Nat} (h : Ord n f) {i j : Nat} (hi : i < n) (hj : j < n) : Ord n (sw f i j) := by
  have key : ∀ t, t < n → ∃ u, u < n ∧ sw f i j t = f u ∧ ((t = i ∧ u = j) ∨ (t ≠ i ∧ t = j ∧ u = i) ∨ (t ≠ i ∧ t ≠ j ∧ u = t)) := fun t ht => by
    unfold sw
    by_cases c : t = i
    · exact ⟨j, hj, by rw [if_pos c], Or.inl ⟨c, rfl⟩⟩
    · by_cases d : t = j
      · exact ⟨i, hi, by rw [if_neg c, if_pos d], Or.inr (Or.inl ⟨c, d, rfl⟩)⟩
      · exact ⟨t, ht, by rw [if_neg c, if_neg d], Or.inr (Or.inr ⟨c, d, rfl⟩)⟩
  refine ⟨fun t ht => ?_, fun t s ht hs e => ?_⟩
  · obtain ⟨u, h1, h2, -⟩ := key t ht
    rw [h2]; exact h.1 u h1
  · obtain ⟨u, h1, h2, h3⟩ := key t ht
    obtain ⟨z, k1, k2, k3⟩ := key s hs
    rw [h2, k2] at e
    have := h.2 u z h1 k1 e
    omega
theorem sw_sw (f : Nat → Nat) (i j t : Nat) : sw (sw f i j) i j t = f t := by
  unfold sw
  by_cases c : t = i
  · subst c
    by_cases d : j = t
    · subst d; simp
    · simp [d]
  · by_cases d : t = j
    · subst d; simp [c]
    · simp [c, d]
theorem swap_eq {n i j : Nat} {f : Nat → Nat} {M : tr_M} (hn : n ≤ 10) (hi : i < n) (hj : j < n) (hl : ∀ t, t < n → M.1 12 t = nI (f t)) : ∃ N, mX7_swap (nI i) (nI j) M = some N ∧ (∀ t, t < n → N.1 12 t = nI (sw f i j t)) ∧ (∀ c, c ≠ 12 → N.1 c = M.1 c) ∧ N.2 = M.2 := by
  unfold mX7_swap
  rw [tr_rd_nI (by omega) (by decide)]
  simp only [Option.bind_some]
  rw [tr_rd_nI (by omega) (by decide)]
  simp only [Option.bind_some]
  rw [tr_wr_nI (by omega) (by decide)]
  simp only [Option.bind_some]
  rw [tr_wr_nI (by omega) (by decide)]
  refine ⟨_, rfl, fun t ht => ?_, fun c hc => ?_, rfl⟩
  · unfold sw
    rw [tr_st_1, tr_st_1, hl i hi, hl j hj]
    by_cases d : t = j
    · subst d
      rw [if_pos ⟨rfl, rfl⟩]
      by_cases c : t = i
      · rw [if_pos c, c]
      · rw [if_neg c, if_pos rfl]
    · rw [if_neg (fun z => d z.2)]
      by_cases c : t = i
      · rw [if_pos ⟨rfl, c⟩, if_pos c]
      · rw [if_neg (fun z => c z.2), if_neg c, if_neg d]; exact hl t ht
  · rw [tr_st_ne hc, tr_st_ne hc]
