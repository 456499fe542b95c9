theorem compM {w : Wd} {x : Nat} {M : tr_M} (hok : WOk w) (hm : MWd w M) (hx : x < w.1) : ∃ H, tr_loop (mX7_groups_l19 M) (nI (2 ^ x), 1) = some (nI H) ∧ H < 2 ^ w.1 ∧ ∀ y, y < w.1 → H.testBit y = (grp w x w.1).testBit y := by
  have hn := hok.1
  have hp := pow_lt hn
  have h2x : 2 ^ x < 2 ^ w.1 := Nat.pow_lt_pow_right (by decide) hx
  have hc0 : cnt w.1 (2 ^ x) = 1 := by
    have h : cnt w.1 (ins 0 x) = cnt w.1 0 + 1 := cnt_ins hx (Nat.zero_testBit x)
    have e : ins 0 x = 2 ^ x := Nat.zero_or _
    rw [← e, h, cnt_0]
  obtain ⟨r, e1, H, e2, e3, e4, e5, e6⟩ := tr_loop_inv (step := mX7_groups_l19 M) (s0 := (nI (2 ^ x), 1)) (fun i s => ∃ H, H < 2 ^ w.1 ∧ H.testBit x = true ∧ (∀ C, C.testBit x = true → Cl w C → Sub w.1 H C) ∧ ((s = (nI H, 1) ∧ i + 1 ≤ cnt w.1 H) ∨ (s = (nI H, 0) ∧ Cl w H))) (fun r => ∃ H, r = nI H ∧ H < 2 ^ w.1 ∧ H.testBit x = true ∧ (∀ C, C.testBit x = true → Cl w C → Sub w.1 H C) ∧ Cl w H) (w.1 + 1) (by omega) ⟨2 ^ x, h2x, Nat.testBit_two_pow_self, fun C c _ y _ q => by
      rw [Nat.testBit_two_pow, decide_eq_true_eq] at q
      rw [← q]; exact c, Or.inl ⟨rfl, by omega⟩⟩ (by
    rintro i s hi ⟨H, g1, g2, g3, ⟨rfl, g4⟩ | ⟨rfl, g4⟩⟩
    · left
      obtain ⟨K, k1, k2, k3, k4, k5⟩ := passM hok hm g1
      unfold mX7_groups_l19
      simp only [if_neg (show ¬ (1 : Int32) = 0 by decide)]
      rw [k1]
      dsimp only [Option.bind_some]
      simp (disch := omega) only [neq]
      have kx : K.testBit x = true := k3 x hx g2
      have kC : ∀ C, C.testBit x = true → Cl w C → Sub w.1 K C := fun C c1 c2 => k4 C (g3 C c1 c2) c2
      by_cases e : K = H
      · rw [if_pos e]
        refine ⟨_, rfl, K, k2, kx, kC, Or.inr ⟨rfl, ?_⟩⟩
        rw [e]; exact k5 e
      · rw [if_neg e]
        refine ⟨_, rfl, K, k2, kx, kC, ?_⟩
        by_cases d : ∃ y, y < w.1 ∧ H.testBit y = false ∧ K.testBit y = true
        · obtain ⟨y, d1, d2, d3⟩ := d
          have := cnt_more k3 d1 d2 d3
          exact Or.inl ⟨rfl, by omega⟩
        · exfalso
          refine e (Nat.eq_of_testBit_eq fun y => ?_)
          by_cases hy : y < w.1
          · cases q : K.testBit y with
            | true =>
              cases q2 : H.testBit y with
              | true => rfl
              | false => exact absurd ⟨y, hy, q2, q⟩ d
            | false =>
              cases q2 : H.testBit y with
              | true => rw [k3 y hy q2] at q; cases q
              | false => rfl
          · rw [Nat.testBit_lt_two_pow (Nat.lt_of_lt_of_le k2 (Nat.pow_le_pow_right (by decide) (show w.1 ≤ y by omega))), Nat.testBit_lt_two_pow (Nat.lt_of_lt_of_le g1 (Nat.pow_le_pow_right (by decide) (show w.1 ≤ y by omega)))]
    · right
      refine ⟨_, ?_, H, rfl, g1, g2, g3, g4⟩
      unfold mX7_groups_l19
      simp only [if_true]) (by
    rintro s ⟨H, g1, g2, g3, ⟨rfl, g4⟩ | ⟨rfl, g4⟩⟩
    · have := cnt_le H w.1
      omega
    · refine ⟨_, ?_, H, rfl, g1, g2, g3, g4⟩
      unfold mX7_groups_l19
      simp only [if_true])
  refine ⟨H, by rw [e1, e2], e3, fun y hy => ?_⟩
  rw [Bool.eq_iff_iff]
  exact ⟨e5 _ (grp_a w.1) (grp_closed hok hx) y hy, grp_min hok e4 e6 w.1 y hy⟩
theorem low_tab : ∀ s : Fin 1024, s.1 ≠ 0 → ∃ x : Fin 10, s.1.testBit x.1 = true ∧ (∀ y : Fin 10, y.1 < x.1 → s.1.testBit y.1 = false) ∧ nI s.1 &&& (-nI s.1) = nI (2 ^ x.1) := by decide +kernel
theorem ncg_0 (w : Wd) : ∀ k i, ncg w k i 0 = 0
  | 0, _ => rfl
  | k + 1, i => by
    show (if (0 : Nat).testBit i = true then _ else ncg w k (i + 1) 0) = 0
    rw [Nat.zero_testBit]
    exact ncg_0 w k (i + 1)
theorem ncg_skip (w : Wd) {L : Nat} : ∀ d k i, (∀ y, i ≤ y → y < i + d → L.testBit y = false) → ncg w (d + k) i L = ncg w k (i + d) L
  | 0, k, i, _ => by rw [Nat.zero_add]; rfl
  | d + 1, k, i, h => by
    rw [show d + 1 + k = d + k + 1 by omega]
    show (if L.testBit i = true then _ else ncg w (d + k) (i + 1) L) = _
    rw [h i (by omega) (by omega), if_neg (by decide), ncg_skip w d k (i + 1) (fun y h1 h2 => h y (by omega) (by omega)), show i + 1 + d = i + (d + 1) by omega]
theorem groupsM_it {w : Wd} {M : tr_M} (hok : WOk w) (hm : MWd w M) : ∀ k i L c, i + k = w.1 → L < 2 ^ w.1 → (∀ y, y < i → L.testBit y = false) → tr_it (mX7_groups_l7 M) (k + 1) (nI L, nI c) = some (nI (c + ncg w k i L)) := by
  have hn := hok.1
  have hp := pow_lt hn
  intro k
  induction k using Nat.strongRecOn with
  | ind k ih =>
    intro i L c hik hL hlow
    by_cases h0 : L = 0
    · subst h0
      rw [ncg_0]
      refine tr_it_r ?_
      unfold mX7_groups_l7
      simp only [show nI 0 = 0 from rfl, if_true, Nat.add_zero]
    · obtain ⟨x, h1, h2, h3⟩ := low_tab ⟨L, by omega⟩ h0
      have h1 : L.testBit x.1 = true := h1
      have h2 : ∀ y : Fin 10, y.1 < x.1 → L.testBit y.1 = false := h2
      have h3 : nI L &&& (-nI L) = nI (2 ^ x.1) := h3
      have hx10 := x.2
      have hxw : x.1 < w.1 := by
        refine Nat.lt_of_not_le fun q => ?_
        have := Nat.testBit_lt_two_pow (Nat.lt_of_lt_of_le hL (Nat.pow_le_pow_right (by decide) q))
        rw [h1] at this; cases this
      have hix : i ≤ x.1 := by
        refine Nat.le_of_not_lt fun q => ?_
        rw [hlow x.1 q] at h1; cases h1
      obtain ⟨H, g1, g2, g3⟩ := compM hok hm hxw
      have hnd : ndf L H = ndf L (grp w x.1 w.1) := by
        refine Nat.eq_of_testBit_eq fun y => ?_
        rw [ndf_bit, ndf_bit]
        by_cases hy : y < w.1
        · rw [g3 y hy]
        · rw [Nat.testBit_lt_two_pow (Nat.lt_of_lt_of_le hL (Nat.pow_le_pow_right (by decide) (show w.1 ≤ y by omega)))]
          rfl
      have hle := ndf_le L H
      have hstep : mX7_groups_l7 M (nI L, nI c) = some (.inl (nI (ndf L H), nI (c + 1))) := by
        unfold mX7_groups_l7
        rw [if_neg (show ¬ nI L = 0 by rw [n00, neq (by omega) (by decide)]; exact h0)]
        show Option.bind (tr_loop (mX7_groups_l19 M) (nI L &&& (-nI L), 1)) _ = _
        rw [h3, g1]
        simp only [Option.bind_some, ndf_nI, nadd1]
      obtain ⟨k', rfl⟩ : ∃ k', k = (x.1 - i) + (k' + 1) := ⟨w.1 - (x.1 + 1), by omega⟩
      rw [tr_it_l hstep, ncg_skip w (x.1 - i) (k' + 1) i (fun y q1 q2 => h2 ⟨y, by omega⟩ (by show y < x.1; omega)), show i + (x.1 - i) = x.1 by omega]
      show _ = some (nI (c + (if L.testBit x.1 = true then 1 + ncg w k' (x.1 + 1) (ndf L (grp w x.1 w.1)) else _)))
      rw [if_pos h1, ← hnd]
      have := ih k' (by omega) (x.1 + 1) (ndf L H) (c + 1) (by omega) (by omega) (fun y hy => by
        rw [hnd, ndf_bit]
        by_cases e : y = x.1
        · rw [e, grp_a]; simp
        · rw [h2 ⟨y, by omega⟩ (by show y < x.1; omega)]; rfl)
      rw [show c + (1 + ncg w k' (x.1 + 1) (ndf L H)) = c + 1 + ncg w k' (x.1 + 1) (ndf L H) by omega]
      exact tr_it_mono this (by omega)
theorem groupsM {w : Wd} {M : tr_M} (hok : WOk w) (hm : MWd w M) : mX7_groups M = some (nI (ncg w w.1 0 (2 ^ w.1 - 1))) := by
  have hn := hok.1
  have hp0 := Nat.two_pow_pos w.1
  unfold mX7_groups
  rw [full_eq hm.1 hn]
  have := groupsM_it hok hm w.1 0 (2 ^ w.1 - 1) 0 (by omega) (by omega) (fun y hy => by omega)
  rw [Nat.zero_add] at this
  exact tr_loop_of this (by omega)
theorem mnf_s (T n : Nat) (f : Nat → Nat) : mnf T (n + 1) f = min (mnf T n f) (f n) := rfl
theorem mxf_s (n : Nat) (f : Nat → Nat) : mxf (n + 1) f = max (mxf n f) (f n) := rfl
theorem boundLoop {w : Wd} {M : tr_M} (hok : WOk w) (hm : MWd w M) {T : Nat} (hT : T ≤ 10) : ∃ N, tr_loop mX7_bound_l34 (0, 0, 0, nI T, 0, M) = some (nI (sm w.1 (fun a => NN w.1 (w.2.1 a) 9 0)), nI (mxf w.1 (fun a => cnt 10 (tied w a))), nI (mxf w.1 (load w)), nI (mnf T w.1 (fun a => cnt 10 (tied w a))), N) ∧ SM M N := by
  have hn := hok.1
  have hl : ∀ a, load w a ≤ 90 := fun a => sm_le (n := 10) fun j hj => hok.2.1 a j
  have ht : ∀ a, cnt 10 (tied w a) ≤ 10 := fun a => cnt_le _ 10
  have b1 : ∀ k, mxf k (fun a => cnt 10 (tied w a)) ≤ 10 := fun k => mxf_le.mpr fun i _ => ht i
  have b2 : ∀ k, mxf k (load w) ≤ 90 := fun k => mxf_le.mpr fun i _ => hl i
  have b3 : ∀ k, mnf T k (fun a => cnt 10 (tied w a)) ≤ 10 := fun k => Nat.le_trans mnf_top hT
  obtain ⟨r, e1, N, e2, e3⟩ := tr_loop_inv (step := mX7_bound_l34) (s0 := (0, 0, 0, nI T, 0, M)) (fun i s => ∃ N, s = (nI (sm i (fun a => NN w.1 (w.2.1 a) 9 0)), nI (mxf i (fun a => cnt 10 (tied w a))), nI (mxf i (load w)), nI (mnf T i (fun a => cnt 10 (tied w a))), nI i, N) ∧ SM M N) (fun r => ∃ N, r = (nI (sm w.1 (fun a => NN w.1 (w.2.1 a) 9 0)), nI (mxf w.1 (fun a => cnt 10 (tied w a))), nI (mxf w.1 (load w)), nI (mnf T w.1 (fun a => cnt 10 (tied w a))), N) ∧ SM M N) w.1 (by omega) ⟨M, rfl, SM.rf⟩ (by
    rintro i s hi ⟨N, rfl, hs⟩
    left
    have hmN := hm.sm hs
    obtain ⟨P, g1, g2⟩ := nearM hok hmN hi
    have hmP := hmN.sm g2
    have c1 := b1 i
    have c2 := b2 i
    have c3 := b3 i
    have c4 := ht i
    have c5 := hl i
    refine ⟨_, ?_, P, rfl, hs.tr g2⟩
    unfold mX7_bound_l34
    simp (disch := omega) only [hmN.1, nlt, hi, if_true, g1, Option.bind_some, tiesOf_eq hok hmP, weightOf_eq hok hmP, nadd, nadd1, ngreater, nlesser]
    rfl) (by
    rintro s ⟨N, rfl, hs⟩
    refine ⟨_, ?_, N, rfl, hs⟩
    unfold mX7_bound_l34
    simp (disch := omega) only [(hm.sm hs).1, nlt, Nat.lt_irrefl, if_false])
  exact ⟨N, by rw [e1, e2], e3⟩
theorem T_eq {n : Nat} (hn : n ≤ 10) : (if nI n = 0 then some (0 : Int32) else some 10) = some (nI (if n = 0 then 0 else 10)) := by
  simp (disch := omega) only [neq0]
  by_cases c : n = 0
  · rw [if_pos c, if_pos c]; rfl
  · rw [if_neg c, if_neg c]; rfl
theorem mostLoad_eq {w : Wd} {M : tr_M} (hok : WOk w) (hw : CWd w 26 M) : mX5_mostLoad 26 M = some (nI (mxf w.1 (load w))) := by
  have hn := hok.1
  have hl : ∀ a, load w a ≤ 90 := fun a => sm_le (n := 10) fun j hj => hok.2.1 a j
  unfold mX5_mostLoad
  refine tr_loop_seq' (fun i => (nI (mxf i (load w)), nI i)) w.1 rfl (by omega) (fun i hi => ?_) ?_
  · unfold mX5_mostLoad_l4
    have c1 : mxf i (load w) ≤ 90 := mxf_le.mpr fun i _ => hl i
    have c2 := hl i
    simp (disch := omega) only [hw.1, nlt, hi, if_true, tr_rd_nI, hw.2.2.2.2.2.1, Option.bind_some, nmax, nadd1]
    rfl
  · unfold mX5_mostLoad_l4
    simp (disch := omega) only [hw.1, nlt, Nat.lt_irrefl, if_false]
theorem loop_acc {ρ : Type} {step : Int32 × Int32 → Option ((Int32 × Int32) ⊕ ρ)} {n : Nat} {F : Nat → Nat → Nat} {g : Int32 → ρ} {B : Nat} (a0 : Nat) (hn : n < 4294967296) (h0 : a0 ≤ B) (hF : ∀ i a, i < n → a ≤ B → F i a ≤ B) (h : ∀ i a, i < n → a ≤ B → step (nI a, nI i) = some (.inl (nI (F i a), nI (i + 1)))) (he : ∀ a, a ≤ B → step (nI a, nI n) = some (.inr (g (nI a)))) : tr_loop step (nI a0, nI 0) = some (g (nI (fo F n a0))) := by
  exact (loop_fo (step := step) (fun a i => (nI a, nI i)) F (fun _ a => a ≤ B) (g := fun a => g (nI a)) a0 n hn h0 (fun i a hi ha => ⟨h i a hi ha, hF i a hi ha⟩) he).1
theorem fo_max (f : Nat → Nat) : ∀ n, fo (fun i a => max a (f i)) n 0 = mxf n f
  | 0 => rfl
  | n + 1 => by
    show max (fo (fun i a => max a (f i)) n 0) (f n) = max (mxf n f) (f n)
    rw [fo_max f n]
theorem fo_min (f : Nat → Nat) (T : Nat) : ∀ n, fo (fun i a => min a (f i)) n T = mnf T n f
  | 0 => rfl
  | n + 1 => by
    show min (fo (fun i a => min a (f i)) n T) (f n) = min (mnf T n f) (f n)
    rw [fo_min f T n]
def tcn (w : Wd) (a : Nat) : Nat := cnt 10 (tied w a)
theorem tcn_le (w : Wd) (a : Nat) : tcn w a ≤ 10 := cnt_le _ 10
theorem bitCount_tcn (w : Wd) (a : Nat) : mJ6_bitCount_0f7a4 (nI (tied w a)) = some (nI (tcn w a)) := bitCount_tied w a
theorem mostTies_eq {w : Wd} {o : Nat} {M : tr_M} (hok : WOk w) (hw : CWd w o M) : mX5_mostTies o M = some (nI (mxf w.1 (tcn w))) := by
  have hn := hok.1
  have e := loop_acc (step := mX5_mostTies_l4 o M) (n := w.1) (F := fun i a => max a (tcn w i)) (g := fun v => v) (B := 10) 0 (by omega) (by omega) (fun i a _ ha => by have := tcn_le w i; omega) (fun i a hi ha => by
    unfold mX5_mostTies_l4
    have c2 := tcn_le w i
    have c3 : nI i < nI w.1 := (nlt (by omega) (by omega)).mpr hi
    dsimp only
    rw [hw.1, if_pos c3, tr_rd_nI (by omega) (by decide), Option.bind_some, hw.2.2.2.2.1 i (by omega), bitCount_tcn, Option.bind_some, nmax _ _ (by omega) (by omega), nadd1]) (fun a ha => by
    unfold mX5_mostTies_l4
    simp (disch := omega) only [hw.1, nlt, Nat.lt_irrefl, if_false])
  rw [fo_max] at e
  exact e
theorem fewestTies_eq {w : Wd} {o : Nat} {M : tr_M} (hok : WOk w) (hw : CWd w o M) : mX5_fewestTies o M = some (nI (mnf (if w.1 = 0 then 0 else 10) w.1 (tcn w))) := by
  have hn := hok.1
  unfold mX5_fewestTies
  rw [hw.1, T_eq hn]
  dsimp only [Option.bind_some]
  have hT : (if w.1 = 0 then 0 else 10) ≤ 10 := by split <;> omega
  generalize (if w.1 = 0 then 0 else 10) = T at hT ⊢
  have e := loop_acc (step := mX5_fewestTies_l16 o M) (n := w.1) (F := fun i a => min a (tcn w i)) (g := fun v => v) (B := 10) T (by omega) (by omega) (fun i a _ ha => by omega) (fun i a hi ha => by
    unfold mX5_fewestTies_l16
    have c2 := tcn_le w i
    have c3 : nI i < nI w.1 := (nlt (by omega) (by omega)).mpr hi
    dsimp only
    rw [hw.1, if_pos c3, tr_rd_nI (by omega) (by decide), Option.bind_some, hw.2.2.2.2.1 i (by omega), bitCount_tcn, Option.bind_some, nmin _ _ (by omega) (by omega), nadd1]) (fun a ha => by
    unfold mX5_fewestTies_l16
    simp (disch := omega) only [hw.1, nlt, Nat.lt_irrefl, if_false])
  rw [fo_min] at e
  exact e
def bnd (w : Wd) (m : Nat) : Int32 := if m = 0 then (nI (sm w.1 (fun a => NN w.1 (w.2.1 a) 9 0)) + 1) / 2 else if m = 1 then (nI (mxf w.1 (load w)) + 1) / 2 else if m = 2 then nI (mnf (if w.1 = 0 then 0 else 10) w.1 (tcn w)) else if m = 3 then nI w.1 - nI (ncg w w.1 0 (2 ^ w.1 - 1)) else (nI (mxf w.1 (tcn w)) + 1) / 2
theorem boundOf_eq {w : Wd} {m : Nat} {M : tr_M} (hok : WOk w) (hw : CWd w 26 M) (hm : m ≤ 4) : mX5_boundOf 26 (nI m) M = some (bnd w m) := by
  unfold mX5_boundOf bnd mX5_halfCutUp
  rw [nearC hok hw, mostLoad_eq hok hw, fewestTies_eq hok hw, groupsC hok hw, mostTies_eq hok hw, hw.1]
  simp only [Option.bind_some]
  rcases (show m = 0 ∨ m = 1 ∨ m = 2 ∨ m = 3 ∨ m = 4 by omega) with rfl | rfl | rfl | rfl | rfl
  · simp (config := { decide := true }) only [if_true, if_false]
  · simp (config := { decide := true }) only [if_true, if_false]
  · simp (config := { decide := true }) only [if_true, if_false]
  · simp (config := { decide := true }) only [if_true, if_false]
  · simp (config := { decide := true }) only [if_true, if_false]
theorem boundM_eq {w : Wd} {m : Nat} {M : tr_M} (hok : WOk w) (hmw : MWd w M) (hm : m ≤ 4) (he : mX7_isMeasure (nI m) = some 1) : ∃ N, mX7_bound (nI m) M = some (bnd w m, N) ∧ SM M N := by
  have hn := hok.1
  unfold mX7_bound bnd
  rw [he]
  simp only [Option.bind_some, if_neg (show ¬ (1 : Int32) = 0 by decide)]
  rw [hmw.1, T_eq hn]
  dsimp only [Option.bind_some]
  have hT : (if w.1 = 0 then 0 else 10) ≤ 10 := by split <;> omega
  generalize (if w.1 = 0 then 0 else 10) = T at hT ⊢
  obtain ⟨N, g1, g2⟩ := boundLoop hok hmw hT
  rw [g1, show (fun a => cnt 10 (tied w a)) = tcn w from rfl]
  dsimp only [Option.bind_some]
  rw [groupsM hok (hmw.sm g2), (hmw.sm g2).1]
  refine ⟨N, ?_, g2⟩
  simp only [Option.bind_some]
  rcases (show m = 0 ∨ m = 1 ∨ m = 2 ∨ m = 3 ∨ m = 4 by omega) with rfl | rfl | rfl | rfl | rfl
  · simp (config := { decide := true }) only [if_true, if_false]
  · simp (config := { decide := true }) only [if_true, if_false]
  · simp (config := { decide := true }) only [if_true, if_false]
  · simp (config := { decide := true }) only [if_true, if_false]
  · simp (config := { decide := true }) only [if_true, if_false]
theorem r_bound {w : Wd} {M1 M2 : tr_M} (h : ITF M1 M2) (hw : IWd w M1 M2) (p1 : Int32) : Res2 (Option.map (fun v => (v, M1)) (mX6_bound p1 M1)) (mX7_bound p1 M2) M1 M2 := by
  rcases isMeasure_cases p1 with ⟨e1, e2⟩ | ⟨m, hm, rfl, e1, e2⟩
  · unfold mX6_bound mX7_bound
    rw [e1, e2]; exact (Res.same h).to2
  · obtain ⟨N, g1, g2⟩ := boundM_eq hw.1 hw.2.2 hm e2
    rw [g1]
    unfold mX6_bound
    rw [e1, if_neg (by decide), boundOf_eq hw.1 hw.2.1 hm]
    exact Res2.sc h SC.rf g2
