/-- the tables of what is least -/
def BT (w : Wd) (nx : Rl) (m : Nat) (N : tr_M) : Prop := (∀ s, s < 2 ^ w.1 → N.1 14 s = nI (gN w m s)) ∧ (∀ s l, St w.1 s l → l < w.1 → N.1 16 (s * 10 + l) = nI (ms nx w.1 (adN m) (gN w m) s (ls s l))) ∧ N.1 1 29 = nI (ms nx w.1 (adN m) (gN w m) 0 10)
theorem BT.cg {w : Wd} {nx : Rl} {m : Nat} {M N : tr_M} (h : BT w nx m M) (h14 : N.1 14 = M.1 14) (h16 : N.1 16 = M.1 16) (h29 : N.1 1 29 = M.1 1 29) : BT w nx m N := by
  unfold BT
  rw [h14, h16, h29]
  exact h
theorem layBests_eq {w : Wd} {pin : Option (Nat × Nat)} {m : Nat} {M : tr_M} (hok : WOk w) (hm : MWd w M) (hp : PinX pin M) (h4 : m < 4) : ∃ N, mX7_layBests (nI m) M = some (nI (ms (nxW stM w pin) w.1 (adN m) (gN w m) 0 10), N) ∧ BT w (nxW stM w pin) m N ∧ (∀ c, c ≠ 1 → c ≠ 14 → c ≠ 16 → N.1 c = M.1 c) ∧ KX M N := by
  have hn := hok.1
  have hpw := pow_lt hn
  have hp0 := Nat.two_pow_pos w.1
  unfold mX7_layBests
  obtain ⟨E, e1, e2, e3, e4⟩ := layEdges_eq (p := 14) hok hm h4 (Or.inl rfl)
  have kE : KX M E := KX.cell (by decide) (by decide) e3 e4
  rw [e1, Option.bind_some, full_eq (hm.kx kE).1 hn]
  obtain ⟨N, n1, n2, n3, n4⟩ := mdown_loop (n := w.1) (M := E) hn (out := mX7_layBests_l14 (nI m)) (inn := fun s N => mX7_layBests_l20 (nI m) (nI s, N)) (fun s l N => BTat w (nxW stM w pin) m s l N ∧ (∀ c, c ≠ 16 → N.1 c = E.1 c) ∧ N.2 = M.2) (fun s N hs hJ => by
      unfold mX7_layBests_l14
      dsimp only
      rw [if_neg (nI_pos (by omega))]) (fun N => by
      unfold mX7_layBests_l14
      dsimp only
      rw [if_pos (by decide)]) (by
    rintro s l N K hs hl ⟨t1, t2, t3⟩
    have kN : KX M N := kE.tr (KX.cell (a := 16) (by decide) (by decide) t2 (t3.trans e4.symm))
    have hmN := hm.kx kN
    have hpN := hp.kx kN
    have fin : ∀ v, (St w.1 s l → v = nI (ms (nxW stM w pin) w.1 (adN m) (gN w m) s (ls s l))) → ∃ P, (some (Sum.inl (nI (l + 1), tr_st N 16 (s * 10 + l) v)) : Option ((Int32 × tr_M) ⊕ ((Int32 × tr_M) ⊕ tr_M))) = some (.inl (nI (l + 1), P)) ∧ BTat w (nxW stM w pin) m s (l + 1) P ∧ (∀ c, c ≠ 16 → P.1 c = E.1 c) ∧ P.2 = M.2 := fun v hv => by
      refine ⟨_, rfl, fun s' l' hst hl' hlt => ?_, fun c hc => (tr_st_ne hc).trans (t2 c hc), t3⟩
      by_cases q : s' = s ∧ l' = l
      · rw [q.1, q.2]
        rw [q.1, q.2] at hst
        exact tr_st_s.trans (hv hst)
      · have h1 := hst.l10 hn
        refine (tr_st_j (by omega)).trans (t1 s' l' hst hl' ?_)
        rcases hlt with y | y
        · exact Or.inl y
        · exact Or.inr ⟨y.1, by omega⟩
    unfold mX7_layBests_l20
    dsimp only
    rw [hmN.1, if_pos ((nlt (by omega) (by omega)).mpr hl), full_eq hmN.1 hn]
    simp (disch := omega) only [has_eq, spot_eq, tr_wr_nI, Option.bind_some, nadd1, neq, show (0 : Int32) = nI 0 from rfl]
    by_cases st : s = 0 ∧ l = 0 ∨ s.testBit l = true
    · have hst : St w.1 s l := ⟨hs, st.imp id fun h => ⟨hl, h⟩⟩
      have e5 : (if (if s.testBit l = true then (1 : Int32) else nI 0) = nI 0 then (if s = 0 then (if l = 0 then some (1 : Int32) else some (nI 0)) else some (nI 0)) else some (1 : Int32)) = some 1 := by
        rcases st with st | st
        · rw [if_pos st.1, if_pos st.2]; split <;> rfl
        · rw [if_pos st]; rfl
      rw [e5, Option.bind_some, if_neg (by decide)]
      by_cases c : s = 2 ^ w.1 - 1
      · rw [if_pos c]
        refine fin _ fun _ => ?_
        unfold ms
        rw [lft_full c]
        rfl
      · rw [if_neg c]
        have e6 : (if s = 0 then some (-9 : Int32) else some (nI l)) = some (lsI s l) := by
          unfold lsI; split <;> rfl
        rw [e6, Option.bind_some, bestFrom_eq hok hmN hpN h4 hst c (by omega) (fun s hs => by rw [t2 14 (by decide)]; exact e2 s hs) (fun s' l' a b d => t1 s' l' a b (by omega)), Option.bind_some]
        exact fin _ fun _ => rfl
    · have hb : s.testBit l = false := by
        cases h : s.testBit l with
        | true => exact absurd (Or.inr h) st
        | false => rfl
      have e5 : (if (if s.testBit l = true then (1 : Int32) else nI 0) = nI 0 then (if s = 0 then (if l = 0 then some (1 : Int32) else some (nI 0)) else some (nI 0)) else some (1 : Int32)) = some (nI 0) := by
        rw [hb, if_pos (by decide)]
        by_cases z : s = 0
        · rw [if_pos z, if_neg (fun y => st (Or.inl ⟨z, y⟩))]
        · rw [if_neg z]
      rw [e5, Option.bind_some, if_pos rfl]
      refine fin _ fun h => absurd (h.2.imp id fun y => y.2) st) (by
    rintro s N K hs ⟨t1, t2, t3⟩
    have kN : KX M N := kE.tr (KX.cell (a := 16) (by decide) (by decide) t2 (t3.trans e4.symm))
    unfold mX7_layBests_l20
    dsimp only
    rw [(hm.kx kN).1, if_neg (by rw [nlt (by omega) (by omega)]; omega)]
    rfl) (by
    rintro s N hs ⟨t1, t2, t3⟩
    refine ⟨fun s' l' hst hl' hlt => t1 s' l' hst hl' ?_, t2, t3⟩
    rcases hlt with y | y
    · by_cases q : s' = s + 1
      · exact Or.inr ⟨q, hl'⟩
      · exact Or.inl (by omega)
    · omega) ⟨fun s' l' hst hl' hlt => by have := hst.1; omega, fun _ _ => rfl, e4⟩
  have kN : KX M N := kE.tr (KX.cell (a := 16) (by decide) (by decide) n3 (n4.trans e4.symm))
  have h14 : ∀ s, s < 2 ^ w.1 → N.1 14 s = nI (gN w m s) := fun s hs => by rw [n3 14 (by decide)]; exact e2 s hs
  have h16 : ∀ s l, St w.1 s l → l < w.1 → N.1 16 (s * 10 + l) = nI (ms (nxW stM w pin) w.1 (adN m) (gN w m) s (ls s l)) := fun s l hst hl => n2 s l hst hl (by omega)
  have fin : ∀ P : tr_M, P = tr_st N 1 29 (nI (ms (nxW stM w pin) w.1 (adN m) (gN w m) 0 10)) → BT w (nxW stM w pin) m P ∧ (∀ c, c ≠ 1 → c ≠ 14 → c ≠ 16 → P.1 c = M.1 c) ∧ KX M P := fun P hP => by
    rw [hP]
    refine ⟨⟨fun s hs => ?_, fun s l hst hl => ?_, tr_st_s⟩, fun c c1 c2 c3 => ?_, kN.tr (KX.fld (Or.inl rfl))⟩
    · rw [tr_st_ne (by decide)]; exact h14 s hs
    · rw [tr_st_ne (by decide)]; exact h16 s l hst hl
    · rw [tr_st_ne c1, n3 c c3, e3 c c2]
  have n1' : tr_loop (mX7_layBests_l14 (nI m)) (nI (2 ^ w.1 - 1), E) = some N := n1
  rw [n1', Option.bind_some]
  rw [(hm.kx kN).1, n00]
  simp (disch := omega) only [neq]
  by_cases z : w.1 = 0
  · rw [if_pos z, Option.bind_some, tr_st_s]
    have e9 : nI 0 = nI (ms (nxW stM w pin) w.1 (adN m) (gN w m) 0 10) := by
      unfold ms
      rw [lft_0, z]
      rfl
    rw [e9]
    exact ⟨_, rfl, fin _ rfl⟩
  · rw [if_neg z, spot_eq, tr_rd_nI (by decide) (by decide), Option.bind_some, Option.bind_some, tr_st_s]
    have e9 := h16 0 0 ⟨hp0, Or.inl ⟨rfl, rfl⟩⟩ (by omega)
    rw [show ls 0 0 = 10 from rfl] at e9
    rw [show 0 * 10 + 0 = 0 from rfl] at e9 ⊢
    rw [e9]
    exact ⟨_, rfl, fin _ rfl⟩
theorem isGood_eq {w : Wd} {pin : Option (Nat × Nat)} {m s l x : Nat} {M : tr_M} (hok : WOk w) (hm : MWd w M) (hp : PinX pin M) (h4 : m < 4) (hB : BT w (nxW stM w pin) m M) (hst : St w.1 s l) (hx : x < w.1) : mX7_isGood (nI m) (nI s) (lsI s l) (nI x) M = some (if Gd w (nxW stM w pin) m s (ls s l) x = true then 1 else 0) := by
  have hn := hok.1
  have hpw := pow_lt hn
  have hs2 := hst.1
  have hl10 := hst.l10 hn
  have hf := nxW_fresh stM w pin
  have hNV : NV = 1000000 := rfl
  unfold mX7_isGood
  rw [mayCome_eq hok hm hp (by omega) hl10 hx, Option.bind_some]
  unfold Gd gd
  by_cases c : nxW stM w pin s (ls s l) x = true
  · have hfr := (hf _ _ _ c).2
    obtain ⟨z1, z2⟩ := St_ins hst.1 hx
    have hi := z1.1
    have hb : M.1 16 (ins s x * 10 + x) = nI (ms (nxW stM w pin) w.1 (adN m) (gN w m) (ins s x) x) := by
      have := hB.2.1 (ins s x) x z1 hx
      rw [z2] at this
      exact this
    have hms := ms_NV (nx := nxW stM w pin) (n := w.1) (ad := adN m) (g := gN w m) (ins s x) x
    have hms0 := ms_NV (nx := nxW stM w pin) (n := w.1) (ad := adN m) (g := gN w m) 0 10
    have hmsh := ms_NV (nx := nxW stM w pin) (n := w.1) (ad := adN m) (g := gN w m) s (ls s l)
    have hg := gN_le hok m (ins s x)
    have hln : l < w.1 := by
      rcases hst.2 with y | y
      · omega
      · exact y.1
    have hh := hB.2.1 s l hst hln
    have hv : (if nI s = 0 then some (0 : Int32) else some (lsI s l)) = some (nI l) := by
      simp (disch := omega) only [show (0 : Int32) = nI 0 from rfl, neq]
      unfold lsI
      by_cases z : s = 0
      · rw [if_pos z]
        rcases hst.2 with y | y
        · rw [y.2]
        · rw [z, Nat.zero_testBit] at y; cases y.2
      · rw [if_neg z, if_neg z]
    rw [c, if_pos rfl, if_neg (by decide), ins_nI (by omega), spot_eq, tr_rd_nI (by omega) (by decide), Option.bind_some, hb, hv, tr_rd_nI (by omega) (by decide), hB.1 _ hi, hB.2.2, isSum_eq (by omega), show (1000000 : Int32) = nI NV from rfl]
    simp (disch := omega) only [Option.bind_some, spot_eq, tr_rd_nI, hh, nadd, nlt, neq]
    generalize ms (nxW stM w pin) w.1 (adN m) (gN w m) (ins s x) x = A
    generalize ms (nxW stM w pin) w.1 (adN m) (gN w m) s (ls s l) = C
    generalize ms (nxW stM w pin) w.1 (adN m) (gN w m) 0 10 = B
    by_cases d : A < NV
    · rw [if_pos d]
      cases adN m with
      | true =>
        simp only [if_neg (show ¬ (1 : Int32) = 0 by decide), if_true]
        by_cases q : gN w m (ins s x) + A = C
        · simp [q, d]
        · simp [q]
      | false =>
        simp only [Bool.false_eq_true, if_false, if_true]
        by_cases q : B < gN w m (ins s x)
        · rw [if_pos q]
          simp [show ¬ gN w m (ins s x) ≤ B by omega]
        · rw [if_neg q]
          by_cases q2 : B < A
          · rw [if_pos q2]
            simp [show ¬ A ≤ B by omega]
          · rw [if_neg q2]
            simp [d, show A ≤ B by omega, show gN w m (ins s x) ≤ B by omega]
    · rw [if_neg d]
      simp [d]
  · rw [if_neg c, if_pos rfl]
    simp [c]
