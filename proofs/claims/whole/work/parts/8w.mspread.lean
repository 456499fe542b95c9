/-- in how many ways it comes there -/
def CT (n : Nat) (G : Rl) (N : tr_M) : Prop := ∀ s l, s < 2 ^ n → s.testBit l = true → l < n → N.1 18 (s * 10 + l) = nI (cN G n s l)
theorem layComes_eq {n m : Nat} {G : Rl} {M : tr_M} (hn : n ≤ 10) (hw : M.1 1 10 = nI n) (hG : Fresh G n) (hg : ∀ P : tr_M, (∀ b, b ≠ 18 → P.1 b = M.1 b) → IG n m G P) : ∃ N, mX7_layComes (nI m) M = some N ∧ CT n G N ∧ (∀ b, b ≠ 18 → N.1 b = M.1 b) ∧ N.2 = M.2 := by
  have hpw := pow_lt hn
  have hp0 := Nat.two_pow_pos n
  unfold mX7_layComes
  obtain ⟨D, d1, d2, d3, d4⟩ := mup_loop (n := n) (T := 2 ^ n) (M := M) hn hpw (out := mX7_layComes_l2) (inn := fun s N => mX7_layComes_l12 (nI s, N)) (fun S L N => (∀ s l, s < 2 ^ n → l < n → (s < S ∨ (s = S ∧ l < L)) → N.1 18 (s * 10 + l) = if s = 0 ∧ l = 0 then 1 else 0) ∧ (∀ b, b ≠ 18 → N.1 b = M.1 b) ∧ N.2 = M.2) (by
    rintro s N hs ⟨t1, t2, t3⟩
    have hN : N.1 1 10 = nI n := by rw [t2 1 (by decide)]; exact hw
    unfold mX7_layComes_l2
    dsimp only
    rw [full_eq hN hn, if_neg (by rw [nlt (by omega) (by omega)]; omega)]) (by
    rintro N ⟨t1, t2, t3⟩
    have hN : N.1 1 10 = nI n := by rw [t2 1 (by decide)]; exact hw
    unfold mX7_layComes_l2
    dsimp only
    rw [full_eq hN hn, if_pos ((nlt (by omega) (by omega)).mpr (by omega))]) (by
    rintro s l N K hs hl ⟨t1, t2, t3⟩
    have hN : N.1 1 10 = nI n := by rw [t2 1 (by decide)]; exact hw
    have fin : ∀ v : Int32, v = (if s = 0 ∧ l = 0 then 1 else 0) → ∃ P, (some (Sum.inl (nI (l + 1), tr_st N 18 (s * 10 + l) v)) : Option ((Int32 × tr_M) ⊕ ((Int32 × tr_M) ⊕ tr_M))) = some (.inl (nI (l + 1), P)) ∧ (∀ s' l', s' < 2 ^ n → l' < n → (s' < s ∨ (s' = s ∧ l' < l + 1)) → P.1 18 (s' * 10 + l') = if s' = 0 ∧ l' = 0 then 1 else 0) ∧ (∀ b, b ≠ 18 → P.1 b = M.1 b) ∧ P.2 = M.2 := fun v hv => by
      refine ⟨_, rfl, fun s' l' h1 h2 h3 => ?_, fun b hb => (tr_st_ne hb).trans (t2 b hb), t3⟩
      by_cases q : s' = s ∧ l' = l
      · rw [q.1, q.2, tr_st_s]; exact hv
      · rw [tr_st_j (by omega)]
        refine t1 s' l' h1 h2 ?_
        rcases h3 with y | y
        · exact Or.inl y
        · exact Or.inr ⟨y.1, by omega⟩
    unfold mX7_layComes_l12
    dsimp only
    rw [hN, if_pos ((nlt (by omega) (by omega)).mpr hl), spot_eq]
    simp (disch := omega) only [tr_wr_nI, Option.bind_some, nadd1, show (0 : Int32) = nI 0 from rfl, neq]
    by_cases c : s = 0
    · rw [if_pos c]
      by_cases d : l = 0
      · rw [if_pos d]; exact fin _ (by rw [if_pos ⟨c, d⟩])
      · rw [if_neg d]; exact fin _ (by rw [if_neg (fun y => d y.2)]; rfl)
    · rw [if_neg c]; exact fin _ (by rw [if_neg (fun y => c y.1)]; rfl)) (by
    rintro s N K hs ⟨t1, t2, t3⟩
    have hN : N.1 1 10 = nI n := by rw [t2 1 (by decide)]; exact hw
    unfold mX7_layComes_l12
    dsimp only
    rw [hN, if_neg (by rw [nlt (by omega) (by omega)]; omega), nadd1]) (by
    rintro s N hs ⟨t1, t2, t3⟩
    refine ⟨fun s' l' h1 h2 h3 => t1 s' l' h1 h2 ?_, t2, t3⟩
    omega) ⟨fun s' l' h1 h2 h3 => by omega, fun _ _ => rfl, rfl⟩
  have d1' : tr_loop mX7_layComes_l2 (0, M) = some D := d1
  rw [d1', Option.bind_some]
  obtain ⟨P, e1, e2, e3, e6, e4, e5⟩ := mup_loop (n := n) (T := 2 ^ n - 1) (M := D) hn (by omega) (out := mX7_layComes_l57 (nI m)) (inn := fun s N => mX7_layComes_l67 (nI m) (nI s, N)) (fun S L N => (0 < n → N.1 18 0 = 1) ∧ (∀ s x, s < 2 ^ n → x < n → s.testBit x = true → N.1 18 (s * 10 + x) = nI (Vc G n S L s x)) ∧ (∀ s x, s < 2 ^ n → x < n → stb s x = false → N.1 18 (s * 10 + x) = 0) ∧ (∀ b, b ≠ 18 → N.1 b = M.1 b) ∧ N.2 = M.2) (by
    rintro s N hs ⟨t1, t2, t5, t3, t4⟩
    have hN : N.1 1 10 = nI n := by rw [t3 1 (by decide)]; exact hw
    unfold mX7_layComes_l57
    dsimp only
    rw [full_eq hN hn, if_pos ((nlt (by omega) (by omega)).mpr hs)]) (by
    rintro N ⟨t1, t2, t5, t3, t4⟩
    have hN : N.1 1 10 = nI n := by rw [t3 1 (by decide)]; exact hw
    unfold mX7_layComes_l57
    dsimp only
    rw [full_eq hN hn, if_neg (by rw [nlt (by omega) (by omega)]; omega)]) (by
    rintro s l N K hs hl ⟨t1, t2, t5, t3, t4⟩
    have hN : N.1 1 10 = nI n := by rw [t3 1 (by decide)]; exact hw
    unfold mX7_layComes_l67
    dsimp only
    rw [hN, if_pos ((nlt (by omega) (by omega)).mpr hl), spot_eq, tr_rd_nI (by omega) (by decide), Option.bind_some]
    have hVs : ∀ s' x, Vc G n s (l + 1) s' x = if del s' x = s ∧ stb s l = true ∧ G s (ls s l) x = true then Vc G n s l s' x + cN G n s l else Vc G n s l s' x := fun s' x => by
      unfold Vc
      by_cases d1 : del s' x < s
      · rw [if_pos d1, if_pos d1, if_neg (by omega)]
      · rw [if_neg d1, if_neg d1]
        by_cases d2 : del s' x = s
        · rw [if_pos d2, if_pos d2]
          show sm l _ + (if stb s l = true then (if G s (ls s l) x = true then cN G n s l else 0) else 0) = _
          by_cases b : stb s l = true
          · rw [if_pos b]
            by_cases g : G s (ls s l) x = true
            · rw [if_pos g, if_pos ⟨d2, b, g⟩]
            · rw [if_neg g, if_neg (fun q => g q.2.2)]
              rfl
          · rw [if_neg b, if_neg (fun q => b q.2.1)]
            rfl
        · rw [if_neg d2, if_neg d2, if_neg (fun q => d2 q.1)]
    cases b : stb s l with
    | false =>
      rw [t5 s l (by omega) hl b, if_neg (by decide), nadd1]
      refine ⟨N, rfl, t1, fun s' x h1 h2 h3 => ?_, t5, t3, t4⟩
      rw [t2 s' x h1 h2 h3, hVs, if_neg (fun q => by rw [b] at q; cases q.2.1)]
    | true =>
      have hst : St n s l := (stb_St (by omega)).mp b
      have hhere : N.1 18 (s * 10 + l) = nI (cN G n s l) := by
        by_cases z : s = 0
        · rcases hst.2 with y | y
          · rw [z, y.2, cN_0]
            exact t1 (by omega)
          · rw [z, Nat.zero_testBit] at y; cases y.2
        · have hb : s.testBit l = true := by
            rcases hst.is with y | y
            · exact absurd y z
            · exact y
          rw [t2 s l (by omega) hl hb]
          unfold Vc
          rw [if_pos (del_lt_self hb)]
      have hcn : cN G n s l ≤ 3628800 := by
        have h1 := cN_le hG hn (cnt n s) s l hst rfl
        have h2 := fct_mono (Nat.le_trans (cnt_le s n) hn)
        have h3 : fct 10 = 3628800 := by decide
        omega
      rw [hhere]
      simp (disch := omega) only [n0lt]
      by_cases p : 0 < cN G n s l
      · rw [if_pos p]
        obtain ⟨P, p1, p2, p3, p4⟩ := mcome_eq (m := m) (K := K) hn hN hG (fun P hP => hg P fun b hb => (hP b hb).trans (t3 b hb)) hst hl hhere
        rw [p1]
        refine ⟨P, rfl, fun h0 => ?_, fun s' x h1 h2 h3 => ?_, fun s' x h1 h2 h3 => ?_, fun b hb => (p3 b hb).trans (t3 b hb), p4.trans t4⟩
        · have := p2 0 0 hp0 h0
          rw [if_neg (by rw [Nat.zero_testBit]; rintro ⟨q, -⟩; cases q), show 0 * 10 + 0 = 0 from rfl] at this
          exact this.trans (t1 h0)
        · rw [p2 s' x h1 h2, t2 s' x h1 h2 h3, hVs]
          by_cases q : del s' x = s ∧ stb s l = true ∧ G s (ls s l) x = true
          · rw [if_pos q, if_pos ⟨h3, q.1, q.2.2⟩, nadd]
          · rw [if_neg q, if_neg (fun y => q ⟨y.2.1, b, y.2.2⟩)]
        · rw [p2 s' x h1 h2, t5 s' x h1 h2 h3, if_neg]
          rintro ⟨q, -⟩
          unfold stb at h3
          rw [q] at h3
          simp at h3
      · rw [if_neg p, nadd1]
        refine ⟨N, rfl, t1, fun s' x h1 h2 h3 => ?_, t5, t3, t4⟩
        rw [t2 s' x h1 h2 h3, hVs]
        by_cases q : del s' x = s ∧ stb s l = true ∧ G s (ls s l) x = true
        · rw [if_pos q, show cN G n s l = 0 by omega, Nat.add_zero]
        · rw [if_neg q]) (by
    rintro s N K hs ⟨t1, t2, t5, t3, t4⟩
    have hN : N.1 1 10 = nI n := by rw [t3 1 (by decide)]; exact hw
    unfold mX7_layComes_l67
    dsimp only
    rw [hN, if_neg (by rw [nlt (by omega) (by omega)]; omega), nadd1]) (by
    rintro s N hs ⟨t1, t2, t5, t3, t4⟩
    refine ⟨t1, fun s' x h1 h2 h3 => ?_, t5, t3, t4⟩
    rw [t2 s' x h1 h2 h3]
    congr 1
    unfold Vc
    by_cases d1 : del s' x < s
    · rw [if_pos d1, if_pos (by omega)]
    · rw [if_neg d1]
      by_cases d2 : del s' x = s
      · rw [if_pos d2, if_pos (by omega)]
        have hnew : s.testBit x = false := by rw [← d2, del_bit]; simp
        have e := cN_step hG hn (show s < 2 ^ n by omega) h2 hnew
        rw [← d2, ins_del h3, d2] at e
        rw [e]
        symm
        refine sm_zero (fun l hl => ?_) hn
        rw [if_neg]
        intro q
        have hst := (stb_St (n := n) (by omega)).mp q
        rcases hst.2 with y | y
        · omega
        · omega
      · rw [if_neg d2]
        by_cases d3 : del s' x < s + 1
        · omega
        · rw [if_neg d3]
          split <;> rfl) ⟨fun h0 => by
      have := d2 0 0 hp0 h0 (Or.inl hp0)
      rw [if_pos ⟨rfl, rfl⟩, show 0 * 10 + 0 = 0 from rfl] at this
      exact this, fun s x h1 h2 h3 => by
      rw [d2 s x h1 h2 (Or.inl h1), if_neg (by rintro ⟨z, -⟩; rw [z, Nat.zero_testBit] at h3; cases h3), n00]
      congr 1
      unfold Vc
      rw [if_neg (by omega)]
      split <;> rfl, (fun s x h1 h2 h3 => by
      rw [d2 s x h1 h2 (Or.inl h1), if_neg]
      rintro ⟨z1, z2⟩
      rw [z1, z2] at h3
      cases h3), d3, d4⟩
  refine ⟨P, e1, fun s l h1 h2 h3 => ?_, e4, e5⟩
  rw [e3 s l h1 h3 h2]
  unfold Vc
  rw [if_pos]
  have := del_lt_self h2
  omega
theorem placeZero_eq {M : tr_M} : ∃ N, tr_loop mX7_layPlaceMany_l2 (0, M) = some N ∧ (∀ i, i < 10 → N.1 21 i = 0) ∧ (∀ b, b ≠ 21 → N.1 b = M.1 b) ∧ N.2 = M.2 := by
  obtain ⟨N, e, h1, h2, h3⟩ := tr_loop_inv (step := mX7_layPlaceMany_l2) (s0 := (0, M)) (fun k t => t.1 = nI k ∧ (∀ i, i < k → t.2.1 21 i = 0) ∧ (∀ b, b ≠ 21 → t.2.1 b = M.1 b) ∧ t.2.2 = M.2) (fun N => (∀ i, i < 10 → N.1 21 i = 0) ∧ (∀ b, b ≠ 21 → N.1 b = M.1 b) ∧ N.2 = M.2) 10 (by decide) ⟨rfl, fun _ h => absurd h (by omega), fun _ _ => rfl, rfl⟩ (by
    rintro k ⟨-, N⟩ hk ⟨rfl, t1, t2, t3⟩
    left
    dsimp only at t1 t2 t3
    unfold mX7_layPlaceMany_l2
    dsimp only
    rw [show (10 : Int32) = nI 10 from rfl, if_pos ((nlt (by omega) (by decide)).mpr hk), tr_wr_nI hk (by decide), Option.bind_some, nadd1]
    refine ⟨_, rfl, rfl, fun i hi => ?_, fun b hb => (tr_st_ne hb).trans (t2 b hb), t3⟩
    by_cases q : i = k
    · rw [q]; exact tr_st_s
    · exact (tr_st_j q).trans (t1 i (by omega))) (by
    rintro ⟨-, N⟩ ⟨rfl, t1, t2, t3⟩
    unfold mX7_layPlaceMany_l2
    dsimp only
    rw [show (10 : Int32) = nI 10 from rfl, if_neg (by rw [nlt (by decide) (by decide)]; decide)]
    exact ⟨N, rfl, t1, t2, t3⟩)
  exact ⟨N, e, h1, h2, h3⟩
theorem WT.cg {n : Nat} {G : Rl} {M N : tr_M} (h : WT n G M) (h17 : N.1 17 = M.1 17) : WT n G N := fun s l a b => by rw [h17]; exact h s l a b
theorem WT.in {n : Nat} {G : Rl} {N : tr_M} (h : WT n G N) {s a : Nat} (hs : s < 2 ^ n) (ha : a < n) (hb : s.testBit a = true) : N.1 17 (s * 10 + a) = nI (nm G n s a) := by
  have := h s a ⟨hs, Or.inr ⟨ha, hb⟩⟩ ha
  rw [this]
  unfold ls
  rw [if_neg]
  intro z
  rw [z, Nat.zero_testBit] at hb
  cases hb
theorem mspread_eq {n m a : Nat} {G : Rl} {M : tr_M} (hn : n ≤ 10) (hw : M.1 1 10 = nI n) (hG : Fresh G n) (h4 : m < 4) (hL : WT n G M) (hg : ∀ P : tr_M, (∀ b, b ≠ 18 → b ≠ 21 → P.1 b = M.1 b) → IG n m G P) (ha : a < n) : ∃ N, mX7_layPlaceMany (nI m) (nI a) M = some N ∧ (∀ i, i < 10 → N.1 21 i = nI (spr G n a i)) ∧ (∀ b, b ≠ 18 → b ≠ 21 → N.1 b = M.1 b) ∧ N.2 = M.2 := by
  have hpw := pow_lt hn
  have hp0 := Nat.two_pow_pos n
  unfold mX7_layPlaceMany
  obtain ⟨Z, z1, z2, z3, z4⟩ := placeZero_eq (M := M)
  have hZ : Z.1 1 10 = nI n := by rw [z3 1 (by decide)]; exact hw
  obtain ⟨C, c1, c2, c3, c4⟩ := layComes_eq (m := m) (M := Z) hn hZ hG (fun P hP => hg P fun b h1 h2 => (hP b h1).trans (z3 b h2))
  have z1' : tr_loop mX7_layPlaceMany_l2 (0, M) = some Z := z1
  rw [z1', Option.bind_some, if_neg (by rw [show (4 : Int32) = nI 4 from rfl, neq (by omega) (by decide)]; omega), c1, Option.bind_some]
  have hLC : WT n G C := hL.cg (by rw [c3 17 (by decide), z3 17 (by decide)])
  obtain ⟨N, e, h1, h2, h3⟩ := tr_loop_inv (step := mX7_layPlaceMany_l80 (nI a)) (s0 := (1, C)) (fun k t => t.1 = nI (k + 1) ∧ (∀ i, i < 10 → t.2.1 21 i = nI (sm (k + 1) (fun s => if s.testBit a = true then (if cnt n s = i + 1 then cN G n s a * nm G n s a else 0) else 0))) ∧ (∀ b, b ≠ 21 → t.2.1 b = C.1 b) ∧ t.2.2 = C.2) (fun N => (∀ i, i < 10 → N.1 21 i = nI (spr G n a i)) ∧ (∀ b, b ≠ 21 → N.1 b = C.1 b) ∧ N.2 = C.2) (2 ^ n - 1) (by omega) ⟨rfl, fun i hi => by
      rw [c3 21 (by decide), z2 i hi]
      show 0 = nI (0 + if (0 : Nat).testBit a = true then _ else 0)
      rw [Nat.zero_testBit]
      rfl, fun _ _ => rfl, rfl⟩ (by
    rintro k ⟨-, N⟩ hk ⟨rfl, t1, t2, t3⟩
    left
    dsimp only at t1 t2 t3
    have hN : N.1 1 10 = nI n := by rw [t2 1 (by decide), c3 1 (by decide)]; exact hZ
    unfold mX7_layPlaceMany_l80
    dsimp only
    rw [full_eq hN hn, if_neg (by rw [nlt (by omega) (by omega)]; omega), has_eq (by omega) (by omega)]
    by_cases b : (k + 1).testBit a = true
    · have hc1 : 1 ≤ cnt n (k + 1) := by
        refine Nat.pos_of_ne_zero fun z => ?_
        rw [cnt_sm] at z
        have := sm_eq0 z a ha
        rw [if_pos b] at this
        omega
      have hc2 := cnt_le (k + 1) n
      rw [if_pos b, if_neg (by decide), bits_eq (by omega), cnt_in hn (by omega), Option.bind_some, show (1 : Int32) = nI 1 from rfl, nsub hc1, tr_rd_nI (by omega) (by decide), Option.bind_some, spot_eq, tr_rd_nI (by omega) (by decide), Option.bind_some, tr_rd_nI (by omega) (by decide), Option.bind_some, tr_wr_nI (by omega) (by decide), Option.bind_some, t1 _ (by omega), t2 18 (by decide), t2 17 (by decide), c2 (k + 1) a (by omega) b ha, hLC.in (by omega) ha b, nmul, nadd, nadd]
      refine ⟨_, rfl, rfl, fun i hi => ?_, fun c hc => (tr_st_ne hc).trans (t2 c hc), t3⟩
      show (tr_st _ _ _ _).1 21 i = nI (sm (k + 1) _ + if (k + 1).testBit a = true then _ else 0)
      rw [if_pos b]
      by_cases q : cnt n (k + 1) = i + 1
      · rw [if_pos q, q, show i + 1 - 1 = i from rfl, tr_st_s]
      · rw [if_neg q, tr_st_j (by omega), t1 i hi]
        rfl
    · rw [if_neg b, if_pos rfl, nadd1]
      refine ⟨_, rfl, rfl, fun i hi => ?_, t2, t3⟩
      show N.1 21 i = nI (sm (k + 1) _ + if (k + 1).testBit a = true then _ else 0)
      rw [if_neg b, t1 i hi]
      rfl) (by
    rintro ⟨-, N⟩ ⟨rfl, t1, t2, t3⟩
    dsimp only at t1 t2 t3
    have hN : N.1 1 10 = nI n := by rw [t2 1 (by decide), c3 1 (by decide)]; exact hZ
    unfold mX7_layPlaceMany_l80
    dsimp only
    rw [full_eq hN hn, if_pos ((nlt (by omega) (by omega)).mpr (by omega))]
    refine ⟨N, rfl, fun i hi => ?_, t2, t3⟩
    rw [t1 i hi, show 2 ^ n - 1 + 1 = 2 ^ n by omega, spr_M ha])
  exact ⟨N, e, h1, fun b b1 b2 => by rw [h2 b b2, c3 b b1, z3 b b2], by rw [h3, c4, z4]⟩
theorem mahead_eq {n m a b : Nat} {G : Rl} {M : tr_M} (hn : n ≤ 10) (hw : M.1 1 10 = nI n) (hG : Fresh G n) (h4 : m < 4) (hL : WT n G M) (hg : ∀ P : tr_M, (∀ b, b ≠ 18 → P.1 b = M.1 b) → IG n m G P) (ha : a < n) (hb : b < n) (hab : a ≠ b) : ∃ N, mX7_leadMany (nI m) (nI a) (nI b) M = some (nI (ahd G n a b), N) ∧ (∀ b, b ≠ 18 → N.1 b = M.1 b) ∧ N.2 = M.2 := by
  have hpw := pow_lt hn
  have hp0 := Nat.two_pow_pos n
  unfold mX7_leadMany
  obtain ⟨C, c1, c2, c3, c4⟩ := layComes_eq (m := m) hn hw hG hg
  have hC : C.1 1 10 = nI n := by rw [c3 1 (by decide)]; exact hw
  rw [if_neg (by rw [show (4 : Int32) = nI 4 from rfl, neq (by omega) (by decide)]; omega), c1, Option.bind_some]
  have hLC : WT n G C := hL.cg (c3 17 (by decide))
  refine ⟨C, ?_, c3, c4⟩
  have e := loop_sum_from (step := mX7_leadMany_l72 (nI a) (nI b) C) (n := 2 ^ n) (f := fun s => if s.testBit b = true then (if s.testBit a = true then cN G n s b * nm G n s b else 0) else 0) (g := fun v => (v, C)) 0 1 (by omega) (by omega) (fun s c h1 hs => by
    unfold mX7_leadMany_l72
    dsimp only
    rw [full_eq hC hn, if_neg (by rw [nlt (by omega) (by omega)]; omega), has_eq (by omega) (by omega), has_eq (by omega) (by omega), nadd1]
    by_cases x : s.testBit b = true
    · by_cases y : s.testBit a = true
      · rw [if_pos x, if_pos y, if_pos x, if_pos y, if_neg (by decide), if_neg (by decide), spot_eq, tr_rd_nI (by omega) (by decide), Option.bind_some, tr_rd_nI (by omega) (by decide), Option.bind_some, c2 s b hs x hb, hLC.in hs hb x, nmul, nadd]
      · rw [if_pos x, if_neg y, if_pos x, if_neg y, if_pos rfl, n00, nadd]
    · by_cases y : s.testBit a = true
      · rw [if_neg x, if_pos y, if_neg x, if_neg (by decide), if_pos rfl, n00, nadd]
      · rw [if_neg x, if_neg y, if_neg x, if_pos rfl, n00, nadd]) (fun c => by
    unfold mX7_leadMany_l72
    dsimp only
    rw [full_eq hC hn, if_pos ((nlt (by omega) (by omega)).mpr (by omega))])
  rw [show tr_loop (mX7_leadMany_l72 (nI a) (nI b) C) (0, 1) = _ from e, Nat.zero_add, ahd_M hb hab]
  congr 3
  refine sm_congr fun s hs => ?_
  by_cases z : s = 0
  · rw [if_neg (by omega), z, Nat.zero_testBit]
    rfl
  · rw [if_pos (by omega)]
