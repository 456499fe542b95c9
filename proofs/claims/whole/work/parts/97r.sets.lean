theorem mdown2 {n : Nat} {ρ : Type} {M : tr_M} (hn : n ≤ 10) {out : Int32 × tr_M → Option ((Int32 × tr_M) ⊕ ρ)} {inn : Nat → tr_M → Int32 × tr_M → Option ((Int32 × tr_M) ⊕ ((Int32 × tr_M) ⊕ ρ))} (J : Nat → Nat → tr_M → Prop) (R : ρ → Prop) (ho : ∀ s N, s < 2 ^ n → J s 0 N → out (nI s, N) = tr_loop (inn s N) (0, N)) (ho2 : ∀ N, J 0 n N → ∃ r, out (-1, N) = some (.inr r) ∧ R r) (hst : ∀ s l N K, s < 2 ^ n → l < n → J s l N → ∃ P, inn s K (nI l, N) = some (.inl (nI (l + 1), P)) ∧ J s (l + 1) P) (he : ∀ s N K, s < 2 ^ n → J s n N → inn s K (nI n, N) = some (.inr (.inl (nI s + (-1), N)))) (hnx : ∀ s N, s + 1 < 2 ^ n → J (s + 1) n N → J s 0 N) (h0 : J (2 ^ n - 1) 0 M) : ∃ r, tr_loop out (nI (2 ^ n - 1), M) = some r ∧ R r := by
  have hpw := pow_lt hn
  have hp0 := Nat.two_pow_pos n
  have inner : ∀ s N, s < 2 ^ n → J s 0 N → ∃ P, tr_loop (inn s N) (0, N) = some (.inl (nI s + (-1), P)) ∧ J s n P := fun s N hs hJ => by
    obtain ⟨r, e1, P, e2, e3⟩ := tr_loop_inv (step := inn s N) (s0 := (0, N)) (fun l t => ∃ P, t = (nI l, P) ∧ J s l P) (fun r => ∃ P, r = .inl (nI s + (-1), P) ∧ J s n P) n (by omega) ⟨N, rfl, hJ⟩ (by
      rintro l t hl ⟨P, rfl, hP⟩
      left
      obtain ⟨Q, q1, q2⟩ := hst s l P N hs hl hP
      exact ⟨_, q1, Q, rfl, q2⟩) (by
      rintro t ⟨P, rfl, hP⟩
      exact ⟨_, he s P N hs hP, P, rfl, hP⟩)
    exact ⟨P, by rw [e1, e2], e3⟩
  refine tr_loop_inv (step := out) (s0 := (nI (2 ^ n - 1), M)) (fun i t => ∃ N, (i < 2 ^ n ∧ t = (nI (2 ^ n - 1 - i), N) ∧ J (2 ^ n - 1 - i) 0 N) ∨ (i = 2 ^ n ∧ t = (-1, N) ∧ J 0 n N)) R (2 ^ n) (by omega) ⟨M, Or.inl ⟨hp0, rfl, h0⟩⟩ ?_ ?_
  · rintro i t hi ⟨N, ⟨_, rfl, hJ⟩ | ⟨e, _, _⟩⟩
    · left
      have h1 := ho (2 ^ n - 1 - i) N (by omega) hJ
      obtain ⟨P, p1, p2⟩ := inner (2 ^ n - 1 - i) N (by omega) hJ
      rw [h1, p1]
      refine ⟨_, rfl, P, ?_⟩
      by_cases c : i + 1 < 2 ^ n
      · left
        refine ⟨c, ?_, ?_⟩
        · rw [nsub1 (by omega), show 2 ^ n - 1 - i - 1 = 2 ^ n - 1 - (i + 1) by omega]
        · refine hnx (2 ^ n - 1 - (i + 1)) P (by omega) ?_
          rw [show 2 ^ n - 1 - (i + 1) + 1 = 2 ^ n - 1 - i by omega]
          exact p2
      · right
        rw [show 2 ^ n - 1 - i = 0 by omega] at p2 ⊢
        exact ⟨by omega, rfl, p2⟩
    · omega
  · rintro t ⟨N, ⟨hi, _, _⟩ | ⟨_, rfl, hJ⟩⟩
    · omega
    · exact ho2 N hJ
theorem wB_full (ad : Bool) (g : Nat → Nat) (B s : Nat) : wB ad g B s [[]] = 1 := by
  unfold wB
  by_cases c : ad = true
  · rw [if_pos c]
    exact cn_one (c := cost ad g s) (p := []) (Nat.zero_le _)
  · rw [if_neg c, List.filter_cons_of_pos (p := fun p => decide (cost ad g s p ≤ B)) (a := []) (decide_eq_true (Nat.zero_le _))]
    rfl
theorem along_eq {w : Wd} {m l2 B : Nat} {ad : Bool} {g : Nat → Nat} {M : tr_M} (hok : WOk w) (hm : MWd w M) (hp : PinX none M) (h4 : m < 4) (hsum : mX7_isSum (nI l2) = if ad = true then 1 else 0) (hgl : ∀ s, g s ≤ 1000) (hBT : BT w (nxW stM w none) m M) (h15 : ∀ s, s < 2 ^ w.1 → M.1 15 s = nI (g s)) (hB : B ≤ NV) (h0 : w.1 ≠ 0) : ∃ N, mX7_bestAlong (nI m) (nI l2) (nI B) M = some (nI (ms (Gd w (nxW stM w none) m) w.1 ad g 0 10), N) ∧ N.1 23 0 = nI (wB ad g B 0 (ext (Gd w (nxW stM w none) m) w.1 w.1 0 10)) ∧ (∀ c, c ≠ 22 → c ≠ 23 → N.1 c = M.1 c) ∧ N.2 = M.2 := by
  have hn := hok.1
  have hpw := pow_lt hn
  have hp0 := Nat.two_pow_pos w.1
  have hNV : NV = 1000000 := rfl
  unfold mX7_bestAlong
  rw [full_eq hm.1 hn]
  obtain ⟨r, e1, N, e2, e3⟩ := mdown2 (n := w.1) (M := M) hn (out := mX7_bestAlong_l6 (nI m) (nI l2) (nI B)) (inn := fun s N => mX7_bestAlong_l14 (nI m) (nI l2) (nI B) (nI s, N)) (fun s l N => (∀ s' l', St w.1 s' l' → l' < w.1 → (s < s' ∨ (s' = s ∧ l' < l)) → N.1 22 (s' * 10 + l') = nI (ms (Gd w (nxW stM w none) m) w.1 ad g s' (ls s' l')) ∧ N.1 23 (s' * 10 + l') = nI (wB ad g B s' (ext (Gd w (nxW stM w none) m) w.1 (lft w.1 s') s' (ls s' l')))) ∧ (∀ c, c ≠ 22 → c ≠ 23 → N.1 c = M.1 c) ∧ N.2 = M.2) (fun r => ∃ N, r = (nI (ms (Gd w (nxW stM w none) m) w.1 ad g 0 10), N) ∧ N.1 23 0 = nI (wB ad g B 0 (ext (Gd w (nxW stM w none) m) w.1 w.1 0 10)) ∧ (∀ c, c ≠ 22 → c ≠ 23 → N.1 c = M.1 c) ∧ N.2 = M.2) (fun s N hs hJ => by
      unfold mX7_bestAlong_l6
      dsimp only
      rw [if_neg (nI_pos (by omega))]) (by
    rintro N ⟨t1, t2, t3⟩
    obtain ⟨a1, a2⟩ := t1 0 0 ⟨hp0, Or.inl ⟨rfl, rfl⟩⟩ (by omega) (Or.inr ⟨rfl, by omega⟩)
    rw [show ls 0 0 = 10 from rfl] at a1 a2
    rw [lft_0] at a2
    have r0 : tr_rd 10240 N 22 0 = some (nI (ms (Gd w (nxW stM w none) m) w.1 ad g 0 10)) := by
      have := tr_rd_nI (n := 10240) (M := N) (a := 22) (k := 0) (by decide) (by decide)
      rw [show N.1 22 0 = nI (ms (Gd w (nxW stM w none) m) w.1 ad g 0 10) from a1] at this
      exact this
    unfold mX7_bestAlong_l6
    dsimp only
    rw [if_pos (by decide), r0]
    exact ⟨_, rfl, N, rfl, a2, t2, t3⟩) (by
    rintro s l N K hs hl ⟨t1, t2, t3⟩
    have kN : KX M N := ⟨fun c _ _ hc => t2 c (by omega) (by omega), fun k _ => by rw [t2 1 (by decide) (by decide)], t3⟩
    have hmN := hm.kx kN
    have hpN := hp.kx kN
    unfold mX7_bestAlong_l14
    dsimp only
    rw [hmN.1, if_pos ((nlt (by omega) (by omega)).mpr hl), full_eq hmN.1 hn, has_eq (by omega) (by omega), spot_eq]
    have w22 : ∀ v, tr_wr 10240 N 22 (nI (s * 10 + l)) v = some (tr_st N 22 (s * 10 + l) v) := fun v => tr_wr_nI (by omega) (by decide)
    have w23 : ∀ u v, tr_wr 10240 (tr_st N 22 (s * 10 + l) u) 23 (nI (s * 10 + l)) v = some (tr_st (tr_st N 22 (s * 10 + l) u) 23 (s * 10 + l) v) := fun u v => tr_wr_nI (by omega) (by decide)
    have f1 : ∀ u, mX7_full (tr_st N 22 (s * 10 + l) u) = nI (2 ^ w.1 - 1) := fun u => full_eq (by rw [tr_st_ne (by decide)]; exact hmN.1) hn
    have f2 : ∀ u v, mX7_full (tr_st (tr_st N 22 (s * 10 + l) u) 23 (s * 10 + l) v) = nI (2 ^ w.1 - 1) := fun u v => full_eq (by rw [tr_st_ne (by decide), tr_st_ne (by decide)]; exact hmN.1) hn
    have frame : ∀ u v c, c ≠ 22 → c ≠ 23 → (tr_st (tr_st N 22 (s * 10 + l) u) 23 (s * 10 + l) v).1 c = M.1 c := fun u v c c1 c2 => by rw [tr_st_ne c2, tr_st_ne c1, t2 c c1 c2]
    have oth : ∀ u v j, j ≠ s * 10 + l → (tr_st (tr_st N 22 (s * 10 + l) u) 23 (s * 10 + l) v).1 22 j = N.1 22 j ∧ (tr_st (tr_st N 22 (s * 10 + l) u) 23 (s * 10 + l) v).1 23 j = N.1 23 j := fun u v j hj => ⟨by rw [tr_st_ne (by decide), tr_st_j hj], by rw [tr_st_j hj, tr_st_ne (by decide)]⟩
    have fin : ∀ P : tr_M, (∀ c, c ≠ 22 → c ≠ 23 → P.1 c = M.1 c) → P.2 = M.2 → (∀ j, j ≠ s * 10 + l → P.1 22 j = N.1 22 j ∧ P.1 23 j = N.1 23 j) → (St w.1 s l → P.1 22 (s * 10 + l) = nI (ms (Gd w (nxW stM w none) m) w.1 ad g s (ls s l)) ∧ P.1 23 (s * 10 + l) = nI (wB ad g B s (ext (Gd w (nxW stM w none) m) w.1 (lft w.1 s) s (ls s l)))) → (∀ s' l', St w.1 s' l' → l' < w.1 → (s < s' ∨ (s' = s ∧ l' < l + 1)) → P.1 22 (s' * 10 + l') = nI (ms (Gd w (nxW stM w none) m) w.1 ad g s' (ls s' l')) ∧ P.1 23 (s' * 10 + l') = nI (wB ad g B s' (ext (Gd w (nxW stM w none) m) w.1 (lft w.1 s') s' (ls s' l')))) ∧ (∀ c, c ≠ 22 → c ≠ 23 → P.1 c = M.1 c) ∧ P.2 = M.2 := fun P p1 p2 p3 p4 => by
      refine ⟨fun s' l' hst' hl' hlt => ?_, p1, p2⟩
      by_cases q : s' = s ∧ l' = l
      · obtain ⟨rfl, rfl⟩ := q
        exact p4 hst'
      · have h1 := hst'.l10 hn
        obtain ⟨a1, a2⟩ := p3 (s' * 10 + l') (by omega)
        rw [a1, a2]
        refine t1 s' l' hst' hl' ?_
        rcases hlt with y | y
        · exact Or.inl y
        · exact Or.inr ⟨y.1, by omega⟩
    by_cases c : s = 2 ^ w.1 - 1
    · have hb : s.testBit l = true := by rw [c, full_bit]; exact decide_eq_true hl
      rw [if_pos (by rw [c]), hb, if_pos rfl, if_neg (show ¬ (1 : Int32) = 0 by decide), Option.bind_some, w22, Option.bind_some, f1, if_pos (by rw [c]), if_neg (show ¬ (1 : Int32) = 0 by decide), Option.bind_some, w23, Option.bind_some, f2, if_neg (by rw [nlt (by omega) (by omega)]; omega), nadd1]
      refine ⟨_, rfl, fin _ (frame _ _) t3 (oth _ _) fun _ => ⟨?_, ?_⟩⟩
      · rw [tr_st_ne (by decide), tr_st_s]
        unfold ms
        rw [lft_full c]
        rfl
      · rw [tr_st_s, lft_full c]
        show (1 : Int32) = nI (wB ad g B s [[]])
        rw [wB_full]
        rfl
    · rw [if_neg (by rw [neq (by omega) (by omega)]; exact c), Option.bind_some, w22, Option.bind_some, f1, if_neg (by rw [neq (by omega) (by omega)]; exact c), Option.bind_some, w23, Option.bind_some, f2, if_pos ((nlt (by omega) (by omega)).mpr (by omega))]
      have go : St w.1 s l → ∃ P, (Option.bind (mX7_goesOn (nI m) (nI l2) (nI s) (nI l) (nI B) (tr_st (tr_st N 22 (s * 10 + l) (1000000 : Int32)) 23 (s * 10 + l) (0 : Int32))) (fun c30 => some (Sum.inl (nI l + 1, c30) : (Int32 × tr_M) ⊕ ((Int32 × tr_M) ⊕ (Int32 × tr_M))))) = some (.inl (nI (l + 1), P)) ∧ (∀ s' l', St w.1 s' l' → l' < w.1 → (s < s' ∨ (s' = s ∧ l' < l + 1)) → P.1 22 (s' * 10 + l') = nI (ms (Gd w (nxW stM w none) m) w.1 ad g s' (ls s' l')) ∧ P.1 23 (s' * 10 + l') = nI (wB ad g B s' (ext (Gd w (nxW stM w none) m) w.1 (lft w.1 s') s' (ls s' l')))) ∧ (∀ c, c ≠ 22 → c ≠ 23 → P.1 c = M.1 c) ∧ P.2 = M.2 := fun hst => by
        obtain ⟨k, hk⟩ : ∃ k, lft w.1 s = k + 1 := ⟨lft w.1 s - 1, by have := lft_pos hs c; omega⟩
        have kQ : KX N (tr_st (tr_st N 22 (s * 10 + l) (1000000 : Int32)) 23 (s * 10 + l) (0 : Int32)) := (KX.cell (a := 22) (by decide) (by decide) (fun c hc => tr_st_ne hc) rfl).tr (KX.cell (a := 23) (by decide) (by decide) (fun c hc => tr_st_ne hc) rfl)
        obtain ⟨P, g1, g2, g3, g4, g5, g6⟩ := mgoes_eq (B := B) (l2 := l2) hok (hmN.kx kQ) (hpN.kx kQ) h4 hsum hgl (hBT.cg (frame _ _ 14 (by decide) (by decide)) (frame _ _ 16 (by decide) (by decide)) (by rw [frame _ _ 1 (by decide) (by decide)])) (fun s hs => by rw [frame _ _ 15 (by decide) (by decide)]; exact h15 s hs) hst hk hl hB (fun s' l' hst' hl' hlt => by
          have h1 := hst'.l10 hn
          obtain ⟨a1, a2⟩ := oth (1000000 : Int32) (0 : Int32) (s' * 10 + l') (by omega)
          rw [a1, a2]
          exact t1 s' l' hst' hl' (Or.inl hlt)) (by rw [tr_st_ne (by decide), tr_st_s]; rfl) (by rw [tr_st_s]; rfl)
        rw [g1, Option.bind_some, nadd1]
        exact ⟨P, rfl, fin P (fun c c1 c2 => by rw [g4 c c1 c2, frame _ _ c c1 c2]) (g6.trans t3) (fun j hj => by
          rw [(g5 j hj).1, (g5 j hj).2]
          exact oth _ _ j hj) fun _ => ⟨g2, g3⟩⟩
      by_cases hb : s.testBit l = true
      · rw [if_pos hb, if_neg (show ¬ (1 : Int32) = 0 by decide), Option.bind_some]
        exact go ⟨hs, Or.inr ⟨hl, hb⟩⟩
      · rw [if_neg hb, if_pos rfl]
        by_cases z : s = 0 ∧ l = 0
        · rw [if_pos (by rw [z.1]; rfl), if_pos (by rw [z.2]; rfl), Option.bind_some]
          exact go ⟨hs, Or.inl z⟩
        · have hno : ¬ St w.1 s l := fun h => h.2.elim z fun y => hb y.2
          by_cases z1 : s = 0
          · rw [if_pos (by rw [z1]; rfl), if_neg (by rw [neq0 (by omega)]; exact fun e => z ⟨z1, e⟩), nadd1]
            exact ⟨_, rfl, fin _ (frame _ _) t3 (oth _ _) fun h => absurd h hno⟩
          · rw [if_neg (by rw [neq0 (by omega)]; exact z1), nadd1]
            exact ⟨_, rfl, fin _ (frame _ _) t3 (oth _ _) fun h => absurd h hno⟩) (by
    rintro s N K hs ⟨t1, t2, t3⟩
    unfold mX7_bestAlong_l14
    dsimp only
    rw [t2 1 (by decide) (by decide), hm.1, if_neg (by rw [nlt (by omega) (by omega)]; omega)]
    rfl) (by
    rintro s N hs ⟨t1, t2, t3⟩
    refine ⟨fun s' l' hst hl' hlt => t1 s' l' hst hl' ?_, t2, t3⟩
    rcases hlt with y | y
    · by_cases q : s' = s + 1
      · exact Or.inr ⟨q, hl'⟩
      · exact Or.inl (by omega)
    · omega) ⟨fun s' l' hst hl' hlt => by have := hst.1; omega, fun _ _ _ => rfl, rfl⟩
  have e1' : tr_loop (mX7_bestAlong_l6 (nI m) (nI l2) (nI B)) (nI (2 ^ w.1 - 1), M) = some r := e1
  exact ⟨N, by rw [e1', e2], e3⟩
/-- what a measure says of an order -/
def vl (w : Wd) (m : Nat) (p : List Nat) : Nat := if m = 4 then lgv w p else cst w m p
theorem vl_seg {w : Wd} {f : Nat → Nat} (hf : Ord w.1 f) (m : Nat) : vl w m (seg f 0 w.1) = msr w m f := by
  unfold vl msr
  by_cases c : m = 4
  · rw [if_pos c, if_pos c, lgv_seg]
  · rw [if_neg c, if_neg c]
    exact cost_msr hf
/-- the least of one measure among the least orders of another; how many have it -/
def BV (w : Wd) (m l : Nat) : Nat := cv (vl w l) (LL w none m)
def BN (w : Wd) (m l : Nat) : Nat := cn (vl w l) (LL w none m)
theorem LL_ne {w : Wd} (hok : WOk w) {m : Nat} (h : Al w none ≠ []) : LL w none m ≠ [] := fun e => by
  have := LL_pos (pin := none) (m := m) hok trivial h
  rw [e] at this
  cases this
theorem cost_lt {w : Wd} (hok : WOk w) {ad : Bool} {l : Nat} {p : List Nat} (hp : p.length ≤ 10) : cost ad (gN w l) 0 p < NV := by
  have := cost_le (ad := ad) (gN_le hok l) p 0
  show _ < 1000000
  omega
theorem bothSets_eq {w : Wd} {m l : Nat} {M : tr_M} (hok : WOk w) (hm : MWd w M) (hp : PinX none M) (h4 : m < 4) (hl : l < 4) (hBT : BT w (nxW stM w none) m M) (hne : Al w none ≠ []) : ∃ N, mX7_bothBySets (nI m) (nI l) M = some (nI (BV w m l), tr_st N 1 2 (nI (BN w m l))) ∧ KX M N := by
  have hn := hok.1
  have hNV : NV = 1000000 := rfl
  have hLL : LL w none m = ext (Gd w (nxW stM w none) m) w.1 w.1 0 10 := by
    unfold LL
    rw [if_neg (by omega), ← EL_M (pin := none) hok trivial]
    rfl
  have hLne := LL_ne (m := m) hok hne
  have hvl : vl w l = cost (adN l) (gN w l) 0 := funext fun p => by
    unfold vl
    rw [if_neg (by omega)]
    rfl
  unfold mX7_bothBySets
  obtain ⟨E, e1, e2, e3, e4⟩ := layEdges_eq (p := 15) hok hm hl (Or.inr rfl)
  have kE : KX M E := KX.cell (by decide) (by decide) e3 e4
  rw [e1, Option.bind_some, (hm.kx kE).1]
  by_cases z : w.1 = 0
  · rw [if_pos (by rw [z]; rfl), tells_eq, Option.bind_some]
    have e0 : LL w none m = [[]] := by
      rw [hLL, z]
      rfl
    have b1 : BV w m l = 0 := by
      unfold BV
      rw [e0, hvl]
      exact cv_one (Nat.zero_le _)
    have b2 : BN w m l = 1 := by
      unfold BN
      rw [e0, hvl]
      exact cn_one (Nat.zero_le _)
    rw [b1, b2]
    exact ⟨E, rfl, kE⟩
  · rw [if_neg (by rw [neq0 (by omega)]; exact z)]
    have hBE : BT w (nxW stM w none) m E := hBT.cg (e3 14 (by decide)) (e3 16 (by decide)) (by rw [e3 1 (by decide)])
    have hsum := isSum_eq (m := l) (by omega)
    have eV : ms (Gd w (nxW stM w none) m) w.1 (adN l) (gN w l) 0 10 = BV w m l := by
      rw [ms_eq (lft_0 w.1)]
      unfold BV
      rw [hvl, hLL]
      rfl
    have hVle : BV w m l ≤ NV := cv_le _ _
    obtain ⟨N, n1, n2, n3, n4⟩ := along_eq (B := NV) (l2 := l) hok (hm.kx kE) (hp.kx kE) h4 hsum (gN_le hok l) hBE e2 (Nat.le_refl _) z
    have kN : KX E N := ⟨fun c _ _ hc => n3 c (by omega) (by omega), fun k _ => by rw [n3 1 (by decide) (by decide)], n4⟩
    have n1' : mX7_bestAlong (nI m) (nI l) 1000000 E = some (nI (BV w m l), N) := by rw [← eV]; exact n1
    rw [n1', Option.bind_some, hsum]
    have rd0 : ∀ (P : tr_M) (v : Int32), P.1 23 0 = v → tr_rd 10240 P 23 0 = some v := fun P v hv => by
      have := tr_rd_nI (n := 10240) (M := P) (a := 23) (k := 0) (by decide) (by decide)
      rw [hv] at this
      exact this
    by_cases a : adN l = true
    · rw [if_pos a, if_neg (show ¬ (1 : Int32) = 0 by decide)]
      dsimp only
      rw [rd0 N _ n2, Option.bind_some, Option.bind_some, if_neg (show ¬ (1 : Int32) = 0 by decide), Option.bind_some]
      dsimp only
      rw [tells_eq, Option.bind_some]
      have eN : wB (adN l) (gN w l) NV 0 (ext (Gd w (nxW stM w none) m) w.1 w.1 0 10) = BN w m l := by
        unfold wB BN
        rw [if_pos a, hvl, hLL]
      rw [eN]
      exact ⟨N, rfl, kE.tr kN⟩
    · rw [if_neg a, if_pos rfl]
      dsimp only
      obtain ⟨P, p1, p2, p3, p4⟩ := along_eq (B := BV w m l) (l2 := l) hok ((hm.kx kE).kx kN) ((hp.kx kE).kx kN) h4 hsum (gN_le hok l) (hBE.cg (n3 14 (by decide) (by decide)) (n3 16 (by decide) (by decide)) (by rw [n3 1 (by decide) (by decide)])) (fun s hs => by rw [n3 15 (by decide) (by decide)]; exact e2 s hs) hVle z
      have kP : KX N P := ⟨fun c _ _ hc => p3 c (by omega) (by omega), fun k _ => by rw [p3 1 (by decide) (by decide)], p4⟩
      rw [Option.bind_some, if_pos rfl, p1, Option.bind_some]
      dsimp only
      rw [rd0 P _ p2, Option.bind_some, Option.bind_some, tells_eq, Option.bind_some]
      have eN : wB (adN l) (gN w l) (BV w m l) 0 (ext (Gd w (nxW stM w none) m) w.1 w.1 0 10) = BN w m l := by
        unfold wB BN cn
        rw [if_neg a, hvl, ← hLL]
        congr 1
        refine List.filter_congr fun p hp => ?_
        have h1 : cv (cost (adN l) (gN w l) 0) (LL w none m) ≤ cost (adN l) (gN w l) 0 p := cv_min hp
        have h2 : BV w m l = cv (cost (adN l) (gN w l) 0) (LL w none m) := by
          unfold BV
          rw [hvl]
        rw [h2]
        by_cases q : cost (adN l) (gN w l) 0 p = cv (cost (adN l) (gN w l) 0) (LL w none m)
        · rw [decide_eq_true q, decide_eq_true (by omega)]
        · rw [decide_eq_false q, decide_eq_false (by omega)]
      rw [eN]
      exact ⟨P, rfl, (kE.tr kN).tr kP⟩
