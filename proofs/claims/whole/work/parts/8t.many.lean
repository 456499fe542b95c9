/-- in how many ways it goes on -/
def WT (n : Nat) (G : Rl) (N : tr_M) : Prop := ∀ s l, St n s l → l < n → N.1 17 (s * 10 + l) = nI (nm G n s (ls s l))
theorem layWays_tab {n : Nat} {G : Rl} {m : Nat} {M : tr_M} (hn : n ≤ 10) (hM : M.1 1 10 = nI n) (hG : Fresh G n) (hg : ∀ N : tr_M, (∀ c, c ≠ 17 → N.1 c = M.1 c) → ∀ s l x, St n s l → x < n → mX7_isGood (nI m) (nI s) (lsI s l) (nI x) N = some (if G s (ls s l) x = true then 1 else 0)) : ∃ N, tr_loop (mX7_layWays_l5 (nI m)) (mX7_full M, M) = some N ∧ WT n G N ∧ (∀ c, c ≠ 17 → N.1 c = M.1 c) ∧ N.2 = M.2 := by
  have hpw := pow_lt hn
  have hp0 := Nat.two_pow_pos n
  rw [full_eq hM hn]
  obtain ⟨N, n1, n2, n3, n4⟩ := mdown_loop (n := n) (M := M) hn (out := mX7_layWays_l5 (nI m)) (inn := fun s N => mX7_layWays_l11 (nI m) (nI s, N)) (fun s l N => (∀ s' l', St n s' l' → l' < n → (s < s' ∨ (s' = s ∧ l' < l)) → N.1 17 (s' * 10 + l') = nI (nm G n s' (ls s' l'))) ∧ (∀ c, c ≠ 17 → N.1 c = M.1 c) ∧ N.2 = M.2) (fun s N hs hJ => by
      unfold mX7_layWays_l5
      dsimp only
      rw [if_neg (nI_pos (by omega))]) (fun N => by
      unfold mX7_layWays_l5
      dsimp only
      rw [if_pos (by decide)]) (by
    rintro s l N K hs hl ⟨t1, t2, t3⟩
    have hmN : N.1 1 10 = nI n := by rw [t2 1 (by decide)]; exact hM
    have fin : ∀ v, (St n s l → v = nI (nm G n s (ls s l))) → ∃ P, (some (Sum.inl (nI (l + 1), tr_st N 17 (s * 10 + l) v)) : Option ((Int32 × tr_M) ⊕ ((Int32 × tr_M) ⊕ tr_M))) = some (.inl (nI (l + 1), P)) ∧ (∀ s' l', St n s' l' → l' < n → (s < s' ∨ (s' = s ∧ l' < l + 1)) → P.1 17 (s' * 10 + l') = nI (nm G n s' (ls s' l'))) ∧ (∀ c, c ≠ 17 → P.1 c = M.1 c) ∧ P.2 = M.2 := fun v hv => by
      refine ⟨_, rfl, fun s' l' hst hl' hlt => ?_, fun c hc => (tr_st_ne hc).trans (t2 c hc), t3⟩
      by_cases q : s' = s ∧ l' = l
      · rw [q.1, q.2]
        rw [q.1, q.2] at hst
        exact tr_st_s.trans (hv hst)
      · have h1 := hst.l10 hn
        refine (tr_st_j (by omega)).trans (t1 s' l' hst hl' ?_)
        rcases hlt with y | y
        · exact Or.inl y
        · exact Or.inr ⟨y.1, by omega⟩
    unfold mX7_layWays_l11
    dsimp only
    rw [hmN, if_pos ((nlt (by omega) (by omega)).mpr hl), full_eq hmN hn]
    simp (disch := omega) only [has_eq, spot_eq, tr_wr_nI, nadd1, neq, nlt, show (0 : Int32) = nI 0 from rfl]
    by_cases c : s = 2 ^ n - 1
    · have hb : s.testBit l = true := by rw [c, full_bit]; simp [hl]
      rw [if_pos c, hb, if_neg (show ¬ (if true = true then (1 : Int32) else nI 0) = nI 0 by decide), Option.bind_some, if_neg (show ¬ s < 2 ^ n - 1 by omega)]
      refine fin _ fun _ => ?_
      rw [nm_full c]
      rfl
    · have c2 : s < 2 ^ n - 1 := by omega
      rw [if_neg c, Option.bind_some, if_pos c2]
      by_cases st : s = 0 ∧ l = 0 ∨ s.testBit l = true
      · have hst : St n s l := ⟨hs, st.imp id fun h => ⟨hl, h⟩⟩
        have e5 : (if (if s.testBit l = true then (1 : Int32) else nI 0) = nI 0 then (if s = 0 then (if l = 0 then some (Sum.inl ()) else some (Sum.inr (nI 0))) else some (Sum.inr (nI 0))) else some (Sum.inl ()) : Option (Unit ⊕ Int32)) = some (Sum.inl ()) := by
          rcases st with st | st
          · rw [if_pos st.1, if_pos st.2]; split <;> rfl
          · rw [if_pos st]; rfl
        rw [e5]
        have e6 : ∀ v : Unit, tr_loop (mX7_layWays_l69 (nI m) (nI s, K) (nI l, N)) (nI 0, nI 0) = some (nI (nm G n s (ls s l))) := fun _ => by
          have := loop_sum (step := mX7_layWays_l69 (nI m) (nI s, K) (nI l, N)) (n := n) (f := fun x => if G s (ls s l) x = true then nm G n (ins s x) x else 0) (g := fun v => v) 0 (by omega) (fun x a hx => by
            unfold mX7_layWays_l69
            dsimp only
            have e7 : (if nI s = 0 then some (-9 : Int32) else some (nI l)) = some (lsI s l) := by
              simp (disch := omega) only [show (0 : Int32) = nI 0 from rfl, neq]
              unfold lsI; split <;> rfl
            rw [hmN, if_pos ((nlt (by omega) (by omega)).mpr hx), e7, Option.bind_some, hg N t2 s l x hst hx, Option.bind_some, nadd1]
            by_cases g : G s (ls s l) x = true
            · have hfr := (hG _ _ _ g).2
              obtain ⟨z1, z2⟩ := St_ins hs hx
              have hi := z1.1
              have := t1 (ins s x) x z1 hx (Or.inl (ins_gt hfr))
              rw [z2] at this
              rw [if_pos g, if_pos g, if_neg (by decide), ins_nI (by omega), spot_eq, tr_rd_nI (by omega) (by decide), Option.bind_some, this, nadd]
            · rw [if_neg g, if_neg g, if_pos rfl, n00, nadd]) (fun a => by
            unfold mX7_layWays_l69
            dsimp only
            rw [hmN, if_neg (by rw [nlt (by omega) (by omega)]; omega)])
          rw [this, Nat.zero_add, nm_sum hG hs c]
        show ∃ P, Option.bind (tr_loop (mX7_layWays_l69 (nI m) (nI s, K) (nI l, N)) (nI 0, nI 0)) _ = _ ∧ _
        rw [e6 ()]
        exact fin _ fun _ => rfl
      · have hb : s.testBit l = false := by
          cases h : s.testBit l with
          | true => exact absurd (Or.inr h) st
          | false => rfl
        have e5 : (if (if s.testBit l = true then (1 : Int32) else nI 0) = nI 0 then (if s = 0 then (if l = 0 then some (Sum.inl ()) else some (Sum.inr (nI 0))) else some (Sum.inr (nI 0))) else some (Sum.inl ()) : Option (Unit ⊕ Int32)) = some (Sum.inr (nI 0)) := by
          rw [hb, if_pos (by decide)]
          by_cases z : s = 0
          · rw [if_pos z, if_neg (fun y => st (Or.inl ⟨z, y⟩))]
          · rw [if_neg z]
        rw [e5]
        refine fin _ fun h => absurd (h.2.imp id fun y => y.2) st) (by
    rintro s N K hs ⟨t1, t2, t3⟩
    have hmN : N.1 1 10 = nI n := by rw [t2 1 (by decide)]; exact hM
    unfold mX7_layWays_l11
    dsimp only
    rw [hmN, if_neg (by rw [nlt (by omega) (by omega)]; omega)]
    rfl) (by
    rintro s N hs ⟨t1, t2, t3⟩
    refine ⟨fun s' l' hst hl' hlt => t1 s' l' hst hl' ?_, t2, t3⟩
    rcases hlt with y | y
    · by_cases q : s' = s + 1
      · exact Or.inr ⟨q, hl'⟩
      · exact Or.inl (by omega)
    · omega) ⟨fun s' l' hst hl' hlt => by have := hst.1; omega, fun _ _ => rfl, rfl⟩
  exact ⟨N, n1, fun s l hst hl => n2 s l hst hl (by omega), n3, n4⟩
theorem allowedMany_tab {n : Nat} {G : Rl} {M : tr_M} (hn : n ≤ 10) (hM : M.1 1 10 = nI n) (hG : Fresh G n) (hg : ∀ N : tr_M, (∀ c, c ≠ 17 → N.1 c = M.1 c) → ∀ s l x, St n s l → x < n → mX7_mayCome (nI s) (lsI s l) (nI x) N = some (if G s (ls s l) x = true then 1 else 0)) : ∃ N, tr_loop (mX7_allowedMany_l5) (mX7_full M, M) = some N ∧ WT n G N ∧ (∀ c, c ≠ 17 → N.1 c = M.1 c) ∧ N.2 = M.2 := by
  have hpw := pow_lt hn
  have hp0 := Nat.two_pow_pos n
  rw [full_eq hM hn]
  obtain ⟨N, n1, n2, n3, n4⟩ := mdown_loop (n := n) (M := M) hn (out := mX7_allowedMany_l5) (inn := fun s N => mX7_allowedMany_l11 (nI s, N)) (fun s l N => (∀ s' l', St n s' l' → l' < n → (s < s' ∨ (s' = s ∧ l' < l)) → N.1 17 (s' * 10 + l') = nI (nm G n s' (ls s' l'))) ∧ (∀ c, c ≠ 17 → N.1 c = M.1 c) ∧ N.2 = M.2) (fun s N hs hJ => by
      unfold mX7_allowedMany_l5
      dsimp only
      rw [if_neg (nI_pos (by omega))]) (fun N => by
      unfold mX7_allowedMany_l5
      dsimp only
      rw [if_pos (by decide)]) (by
    rintro s l N K hs hl ⟨t1, t2, t3⟩
    have hmN : N.1 1 10 = nI n := by rw [t2 1 (by decide)]; exact hM
    have fin : ∀ v, (St n s l → v = nI (nm G n s (ls s l))) → ∃ P, (some (Sum.inl (nI (l + 1), tr_st N 17 (s * 10 + l) v)) : Option ((Int32 × tr_M) ⊕ ((Int32 × tr_M) ⊕ tr_M))) = some (.inl (nI (l + 1), P)) ∧ (∀ s' l', St n s' l' → l' < n → (s < s' ∨ (s' = s ∧ l' < l + 1)) → P.1 17 (s' * 10 + l') = nI (nm G n s' (ls s' l'))) ∧ (∀ c, c ≠ 17 → P.1 c = M.1 c) ∧ P.2 = M.2 := fun v hv => by
      refine ⟨_, rfl, fun s' l' hst hl' hlt => ?_, fun c hc => (tr_st_ne hc).trans (t2 c hc), t3⟩
      by_cases q : s' = s ∧ l' = l
      · rw [q.1, q.2]
        rw [q.1, q.2] at hst
        exact tr_st_s.trans (hv hst)
      · have h1 := hst.l10 hn
        refine (tr_st_j (by omega)).trans (t1 s' l' hst hl' ?_)
        rcases hlt with y | y
        · exact Or.inl y
        · exact Or.inr ⟨y.1, by omega⟩
    unfold mX7_allowedMany_l11
    dsimp only
    rw [hmN, if_pos ((nlt (by omega) (by omega)).mpr hl), full_eq hmN hn]
    simp (disch := omega) only [has_eq, spot_eq, tr_wr_nI, nadd1, neq, nlt, show (0 : Int32) = nI 0 from rfl]
    by_cases c : s = 2 ^ n - 1
    · have hb : s.testBit l = true := by rw [c, full_bit]; simp [hl]
      rw [if_pos c, hb, if_neg (show ¬ (if true = true then (1 : Int32) else nI 0) = nI 0 by decide), Option.bind_some, if_neg (show ¬ s < 2 ^ n - 1 by omega)]
      refine fin _ fun _ => ?_
      rw [nm_full c]
      rfl
    · have c2 : s < 2 ^ n - 1 := by omega
      rw [if_neg c, Option.bind_some, if_pos c2]
      by_cases st : s = 0 ∧ l = 0 ∨ s.testBit l = true
      · have hst : St n s l := ⟨hs, st.imp id fun h => ⟨hl, h⟩⟩
        have e5 : (if (if s.testBit l = true then (1 : Int32) else nI 0) = nI 0 then (if s = 0 then (if l = 0 then some (Sum.inl ()) else some (Sum.inr (nI 0))) else some (Sum.inr (nI 0))) else some (Sum.inl ()) : Option (Unit ⊕ Int32)) = some (Sum.inl ()) := by
          rcases st with st | st
          · rw [if_pos st.1, if_pos st.2]; split <;> rfl
          · rw [if_pos st]; rfl
        rw [e5]
        have e6 : ∀ v : Unit, tr_loop (mX7_allowedMany_l68 (nI s, K) (nI l, N)) (nI 0, nI 0) = some (nI (nm G n s (ls s l))) := fun _ => by
          have := loop_sum (step := mX7_allowedMany_l68 (nI s, K) (nI l, N)) (n := n) (f := fun x => if G s (ls s l) x = true then nm G n (ins s x) x else 0) (g := fun v => v) 0 (by omega) (fun x a hx => by
            unfold mX7_allowedMany_l68
            dsimp only
            have e7 : (if nI s = 0 then some (-9 : Int32) else some (nI l)) = some (lsI s l) := by
              simp (disch := omega) only [show (0 : Int32) = nI 0 from rfl, neq]
              unfold lsI; split <;> rfl
            rw [hmN, if_pos ((nlt (by omega) (by omega)).mpr hx), e7, Option.bind_some, hg N t2 s l x hst hx, Option.bind_some, nadd1]
            by_cases g : G s (ls s l) x = true
            · have hfr := (hG _ _ _ g).2
              obtain ⟨z1, z2⟩ := St_ins hs hx
              have hi := z1.1
              have := t1 (ins s x) x z1 hx (Or.inl (ins_gt hfr))
              rw [z2] at this
              rw [if_pos g, if_pos g, if_neg (by decide), ins_nI (by omega), spot_eq, tr_rd_nI (by omega) (by decide), Option.bind_some, this, nadd]
            · rw [if_neg g, if_neg g, if_pos rfl, n00, nadd]) (fun a => by
            unfold mX7_allowedMany_l68
            dsimp only
            rw [hmN, if_neg (by rw [nlt (by omega) (by omega)]; omega)])
          rw [this, Nat.zero_add, nm_sum hG hs c]
        show ∃ P, Option.bind (tr_loop (mX7_allowedMany_l68 (nI s, K) (nI l, N)) (nI 0, nI 0)) _ = _ ∧ _
        rw [e6 ()]
        exact fin _ fun _ => rfl
      · have hb : s.testBit l = false := by
          cases h : s.testBit l with
          | true => exact absurd (Or.inr h) st
          | false => rfl
        have e5 : (if (if s.testBit l = true then (1 : Int32) else nI 0) = nI 0 then (if s = 0 then (if l = 0 then some (Sum.inl ()) else some (Sum.inr (nI 0))) else some (Sum.inr (nI 0))) else some (Sum.inl ()) : Option (Unit ⊕ Int32)) = some (Sum.inr (nI 0)) := by
          rw [hb, if_pos (by decide)]
          by_cases z : s = 0
          · rw [if_pos z, if_neg (fun y => st (Or.inl ⟨z, y⟩))]
          · rw [if_neg z]
        rw [e5]
        refine fin _ fun h => absurd (h.2.imp id fun y => y.2) st) (by
    rintro s N K hs ⟨t1, t2, t3⟩
    have hmN : N.1 1 10 = nI n := by rw [t2 1 (by decide)]; exact hM
    unfold mX7_allowedMany_l11
    dsimp only
    rw [hmN, if_neg (by rw [nlt (by omega) (by omega)]; omega)]
    rfl) (by
    rintro s N hs ⟨t1, t2, t3⟩
    refine ⟨fun s' l' hst hl' hlt => t1 s' l' hst hl' ?_, t2, t3⟩
    rcases hlt with y | y
    · by_cases q : s' = s + 1
      · exact Or.inr ⟨q, hl'⟩
      · exact Or.inl (by omega)
    · omega) ⟨fun s' l' hst hl' hlt => by have := hst.1; omega, fun _ _ => rfl, rfl⟩
  exact ⟨N, n1, fun s l hst hl => n2 s l hst hl (by omega), n3, n4⟩
theorem WT.zero {n : Nat} {G : Rl} {N : tr_M} (h : WT n G N) (hn : n ≠ 0) : N.1 17 0 = nI (nm G n 0 10) := by
  have := h 0 0 ⟨Nat.two_pow_pos _, Or.inl ⟨rfl, rfl⟩⟩ (by omega)
  rw [show ls 0 0 = 10 from rfl, show 0 * 10 + 0 = 0 from rfl] at this
  exact this
theorem nm_no {G : Rl} {n : Nat} (h : n = 0) : nm G n 0 10 = 1 := nm_full (by rw [h])
theorem layWays_eq {w : Wd} {pin : Option (Nat × Nat)} {m : Nat} {M : tr_M} (hok : WOk w) (hm : MWd w M) (hp : PinX pin M) (h4 : m < 4) (hB : BT w (nxW stM w pin) m M) : ∃ N, mX7_layWays (nI m) M = some N ∧ WT w.1 (Gd w (nxW stM w pin) m) N ∧ N.1 1 30 = nI (EL w (nxW stM w pin) m).length ∧ BT w (nxW stM w pin) m N ∧ (∀ c, c ≠ 1 → c ≠ 17 → N.1 c = M.1 c) ∧ KX M N := by
  have hn := hok.1
  have kx : ∀ N : tr_M, (∀ c, c ≠ 17 → N.1 c = M.1 c) → MWd w N ∧ PinX pin N ∧ BT w (nxW stM w pin) m N := fun N h => by
    refine ⟨hm.congr (by rw [h 1 (by decide)]) (by rw [h 1 (by decide)]) (h 8 (by decide)) (h 9 (by decide)), ?_, hB.cg (h 14 (by decide)) (h 16 (by decide)) (by rw [h 1 (by decide)])⟩
    unfold PinX
    rw [h 1 (by decide)]
    exact hp
  obtain ⟨N, n1, n2, n3, n4⟩ := layWays_tab (G := Gd w (nxW stM w pin) m) (m := m) hn hm.1 (Gd_fresh (nxW_fresh _ _ _)) (fun N h s l x hst hx => by
    obtain ⟨a, b, c⟩ := kx N h
    exact isGood_eq hok a b h4 c hst hx)
  obtain ⟨a, b, c⟩ := kx N n3
  have kN : KX M N := KX.cell (a := 17) (by decide) (by decide) n3 n4
  unfold mX7_layWays
  have n1' : tr_loop (mX7_layWays_l5 (nI m)) (mX7_full M, M) = some N := n1
  rw [n1', Option.bind_some, a.1, n00]
  simp (disch := omega) only [neq]
  have el : (EL w (nxW stM w pin) m).length = nm (Gd w (nxW stM w pin) m) w.1 0 10 := by
    unfold nm EL
    rw [lft_0]
  have fin : ∀ P : tr_M, P = tr_st N 1 30 (nI (EL w (nxW stM w pin) m).length) → WT w.1 (Gd w (nxW stM w pin) m) P ∧ P.1 1 30 = nI (EL w (nxW stM w pin) m).length ∧ BT w (nxW stM w pin) m P ∧ (∀ c, c ≠ 1 → c ≠ 17 → P.1 c = M.1 c) ∧ KX M P := fun P hP => by
    rw [hP]
    refine ⟨fun s l hst hl => ?_, tr_st_s, c.cg (tr_st_ne (by decide)) (tr_st_ne (by decide)) (tr_st_j (by decide)), fun c c1 c2 => ?_, kN.tr (KX.fld (Or.inr rfl))⟩
    · rw [tr_st_ne (by decide)]; exact n2 s l hst hl
    · rw [tr_st_ne c1, n3 c c2]
  by_cases z : w.1 = 0
  · rw [if_pos z, Option.bind_some]
    refine ⟨_, rfl, fin _ ?_⟩
    rw [el, nm_no z]
    rfl
  · rw [if_neg z, spot_eq, tr_rd_nI (by decide) (by decide), Option.bind_some, Option.bind_some]
    refine ⟨_, rfl, fin _ ?_⟩
    rw [el, show 0 * 10 + 0 = 0 from rfl, n2.zero z]
theorem allowedMany_eq {w : Wd} {pin : Option (Nat × Nat)} {M : tr_M} (hok : WOk w) (hm : MWd w M) (hp : PinX pin M) (ho : pinOk w.1 pin) : ∃ N, mX7_allowedMany M = some (nI (Al w pin).length, N) ∧ KX M N := by
  have hn := hok.1
  have kx : ∀ N : tr_M, (∀ c, c ≠ 17 → N.1 c = M.1 c) → MWd w N ∧ PinX pin N := fun N h => by
    refine ⟨hm.congr (by rw [h 1 (by decide)]) (by rw [h 1 (by decide)]) (h 8 (by decide)) (h 9 (by decide)), ?_⟩
    unfold PinX
    rw [h 1 (by decide)]
    exact hp
  obtain ⟨N, n1, n2, n3, n4⟩ := allowedMany_tab (G := nxW stM w pin) hn hm.1 (nxW_fresh _ _ _) (fun N h s l x hst hx => by
    obtain ⟨a, b⟩ := kx N h
    have := hst.1
    have := pow_lt hn
    exact mayCome_eq hok a b (by omega) (hst.l10 hn) hx)
  obtain ⟨a, b⟩ := kx N n3
  have kN : KX M N := KX.cell (a := 17) (by decide) (by decide) n3 n4
  unfold mX7_allowedMany
  have n1' : tr_loop mX7_allowedMany_l5 (mX7_full M, M) = some N := n1
  rw [n1', Option.bind_some, a.1, n00]
  simp (disch := omega) only [neq]
  have el : (Al w pin).length = nm (nxW stM w pin) w.1 0 10 := by
    unfold nm
    rw [lft_0, nxM_ok hok ho]
  refine ⟨N, ?_, kN⟩
  by_cases z : w.1 = 0
  · rw [if_pos z, el, nm_no z]
    rfl
  · rw [if_neg z, spot_eq, tr_rd_nI (by decide) (by decide), Option.bind_some, el, show 0 * 10 + 0 = 0 from rfl, n2.zero z]
