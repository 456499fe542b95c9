/-! ===== E: tables, from the greatest set down ===== -/
def Ln (n s : Nat) : Nat := if s = 0 then 1 else n
theorem down_loop {n : Nat} {M : tr_M} (hn : n ≤ 10) {out : Int32 × tr_M → Option ((Int32 × tr_M) ⊕ tr_M)} {inn : Nat → tr_M → Int32 × tr_M → Option ((Int32 × tr_M) ⊕ ((Int32 × tr_M) ⊕ tr_M))} (J : Nat → Nat → tr_M → Prop) (ho : ∀ s N, s < 2 ^ n → J s 0 N → ∃ N', J s 0 N' ∧ out (nI s, N) = tr_loop (inn s N') (0, N')) (ho2 : ∀ N, out (-1, N) = some (.inr N)) (hst : ∀ s l N K, St n s l → J s l N → ∃ P, inn s K (nI l, N) = some (.inl (nI (l + 1), P)) ∧ J s (l + 1) P) (hsk : ∀ s l N K, s < 2 ^ n → s ≠ 0 → l < n → s.testBit l = false → J s l N → inn s K (nI l, N) = some (.inl (nI (l + 1), N)) ∧ J s (l + 1) N) (he : ∀ s N K, s < 2 ^ n → J s (Ln n s) N → inn s K (nI (Ln n s), N) = some (.inr (.inl (nI s + (-1), N)))) (hnx : ∀ s N, s + 1 < 2 ^ n → J (s + 1) (Ln n (s + 1)) N → J s 0 N) (h0 : J (2 ^ n - 1) 0 M) : ∃ N, tr_loop out (nI (2 ^ n - 1), M) = some N ∧ J 0 1 N := by
  have hpw := pow_lt hn
  have hp0 := Nat.two_pow_pos n
  have inner : ∀ s N, s < 2 ^ n → J s 0 N → ∃ P, tr_loop (inn s N) (0, N) = some (.inl (nI s + (-1), P)) ∧ J s (Ln n s) P := fun s N hs hJ => by
    obtain ⟨r, e1, P, e2, e3⟩ := tr_loop_inv (step := inn s N) (s0 := (0, N)) (fun l t => ∃ P, t = (nI l, P) ∧ J s l P) (fun r => ∃ P, r = .inl (nI s + (-1), P) ∧ J s (Ln n s) P) (Ln n s) (by unfold Ln; split <;> omega) ⟨N, rfl, hJ⟩ (by
      rintro l t hl ⟨P, rfl, hP⟩
      left
      by_cases c : s = 0
      · unfold Ln at hl
        rw [if_pos c] at hl
        obtain ⟨Q, q1, q2⟩ := hst s l P N ⟨hs, Or.inl ⟨c, by omega⟩⟩ hP
        exact ⟨_, q1, Q, rfl, q2⟩
      · unfold Ln at hl
        rw [if_neg c] at hl
        cases b : s.testBit l with
        | true =>
          obtain ⟨Q, q1, q2⟩ := hst s l P N ⟨hs, Or.inr ⟨hl, b⟩⟩ hP
          exact ⟨_, q1, Q, rfl, q2⟩
        | false =>
          obtain ⟨q1, q2⟩ := hsk s l P N hs c hl b hP
          exact ⟨_, q1, P, rfl, q2⟩) (by
      rintro t ⟨P, rfl, hP⟩
      exact ⟨_, he s P N hs hP, P, rfl, hP⟩)
    exact ⟨P, by rw [e1, e2], e3⟩
  refine tr_loop_inv (step := out) (s0 := (nI (2 ^ n - 1), M)) (fun i t => ∃ N, (i < 2 ^ n ∧ t = (nI (2 ^ n - 1 - i), N) ∧ J (2 ^ n - 1 - i) 0 N) ∨ (i = 2 ^ n ∧ t = (-1, N) ∧ J 0 1 N)) (fun N => J 0 1 N) (2 ^ n) (by omega) ⟨M, Or.inl ⟨hp0, rfl, h0⟩⟩ ?_ ?_
  · rintro i t hi ⟨N, ⟨_, rfl, hJ⟩ | ⟨e, _, _⟩⟩
    · left
      obtain ⟨N', hJ', h1⟩ := ho (2 ^ n - 1 - i) N (by omega) hJ
      obtain ⟨P, p1, p2⟩ := inner (2 ^ n - 1 - i) N' (by omega) hJ'
      rw [h1, p1]
      refine ⟨_, rfl, P, ?_⟩
      by_cases c : i + 1 < 2 ^ n
      · left
        refine ⟨c, ?_, ?_⟩
        · rw [nsub1 (by omega), show 2 ^ n - 1 - i - 1 = 2 ^ n - 1 - (i + 1) by omega]
        · refine hnx (2 ^ n - 1 - (i + 1)) P (by omega) ?_
          rw [show 2 ^ n - 1 - (i + 1) + 1 = 2 ^ n - 1 - i by omega]
          exact p2
      · right
        rw [show 2 ^ n - 1 - i = 0 by omega] at p2 ⊢
        exact ⟨by omega, rfl, p2⟩
    · omega
  · rintro t ⟨N, ⟨hi, _, _⟩ | ⟨_, rfl, hJ⟩⟩
    · omega
    · exact ⟨N, ho2 N, hJ⟩
theorem isState_eq {s l : Nat} (hs : s < 1024) (hl : l < 31) : mX4_isState (nI s) (nI l) = if s = 0 ∨ s.testBit l = true then 1 else 0 := by
  unfold mX4_isState
  simp (disch := omega) only [neq0, bit_eq0]
  by_cases c : s = 0
  · rw [if_pos c, if_pos (Or.inl c)]
  · rw [if_neg c]
    cases b : s.testBit l with
    | true => rw [if_neg (by decide), if_pos (Or.inr rfl)]
    | false => rw [if_pos rfl, if_neg (by simp [c])]
theorem lastsOf_eq {n s : Nat} {M : tr_M} (hs : s < 1024) (hw : M.1 26 0 = nI n) : mX4_lastsOf (nI s) M = nI (Ln n s) := by
  unfold mX4_lastsOf Ln
  simp (disch := omega) only [neq0]
  by_cases c : s = 0
  · rw [if_pos c, if_pos c]; rfl
  · rw [if_neg c, if_neg c, hw]
theorem St.l10 {n s l : Nat} (h : St n s l) (hn : n ≤ 10) : l < 10 := by
  rcases h.2 with ⟨_, z⟩ | ⟨z, _⟩ <;> omega
theorem St.lt {n s l : Nat} (h : St n s l) : l < Ln n s := by
  unfold Ln
  rcases h.2 with ⟨z, y⟩ | ⟨z, y⟩
  · rw [if_pos z]; omega
  · have : s ≠ 0 := fun e => by rw [e, Nat.zero_testBit] at y; cases y
    rw [if_neg this]; exact z
theorem St.is {n s l : Nat} (h : St n s l) : s = 0 ∨ s.testBit l = true := by
  rcases h.2 with z | z
  · exact Or.inl z.1
  · exact Or.inr z.2
theorem St_ins {n s x : Nat} (hs : s < 2 ^ n) (hx : x < n) : St n (ins s x) x ∧ ls (ins s x) x = x := by
  have hb : (ins s x).testBit x = true := by rw [ins_bit]; simp
  refine ⟨⟨ins_lt hs hx, Or.inr ⟨hx, hb⟩⟩, ?_⟩
  unfold ls
  rw [if_neg]
  intro e
  rw [e, Nat.zero_testBit] at hb
  cases hb
/-- the table of what is least -/
def TB (n : Nat) (nx : Rl) (ad : Bool) (g : Nat → Nat) (s l : Nat) (N : tr_M) : Prop := ∀ s' l', St n s' l' → (s < s' ∨ (s' = s ∧ l' < l)) → N.1 48 (s' * 10 + l') = nI (bC nx n ad g s' (ls s' l'))
theorem NX.cg {n : Nat} {nx : Rl} {M N : tr_M} (h : NX n nx M) (h10 : N.1 25 10 = M.1 25 10) (h46 : N.1 46 = M.1 46) (h47 : N.1 47 = M.1 47) (h49 : N.1 49 = M.1 49) : NX n nx N := by
  intro s l hst
  have := h s l hst
  unfold mX4_nextOf tr_rd at this ⊢
  rw [h10, h46, h47, h49]
  exact this
theorem fillBest_eq {w : Wd} {m : Nat} {nx : Rl} {M : tr_M} (hok : WOk w) (hw : CWd w 26 M) (hm : m < 4 ∨ m = 5) (hf : Fresh nx w.1) (hNX : NX w.1 nx M) : ∃ N, mX4_fillBest (nI m) M = some N ∧ (∀ s l, St w.1 s l → N.1 48 (s * 10 + l) = nI (bC nx w.1 (adN m) (gN w m) s (ls s l))) ∧ (∀ s, s < 2 ^ w.1 → N.1 45 s = nI (gN w m s)) ∧ N.1 25 11 = (if adN m = true then 1 else 0) ∧ N.1 25 12 = 0 ∧ (∀ k, k ≠ 11 → k ≠ 12 → N.1 25 k = M.1 25 k) ∧ (∀ c, c ≠ 25 → c ≠ 45 → c ≠ 48 → N.1 c = M.1 c) ∧ N.2 = M.2 := by
  have hn := hok.1
  have hpw := pow_lt hn
  have hp0 := Nat.two_pow_pos w.1
  unfold mX4_fillBest
  have had : (if nI m = 0 then some (1 : Int32) else if nI m = 3 then some 1 else some 0) = some (if adN m = true then 1 else 0) := by
    rcases (show m = 0 ∨ m = 1 ∨ m = 2 ∨ m = 3 ∨ m = 5 by omega) with rfl | rfl | rfl | rfl | rfl <;> rfl
  rw [had]
  dsimp only [Option.bind_some]
  have hgd : tr_gd ((if adN m = true then (1 : Int32) else 0) &&& 1 == (if adN m = true then 1 else 0)) = some () := by
    cases adN m <;> decide
  rw [hgd]
  simp only [Option.bind_some]
  have hw0 : CWd w 26 (tr_st (tr_st M 25 11 (if adN m = true then 1 else 0)) 25 12 0) := hw.congr fun b h1 h2 => by rw [tr_st_ne (by omega), tr_st_ne (by omega)]
  obtain ⟨G, g1, g2, g3, g4⟩ := gaps_eq hok hw0 hm
  rw [g1]
  simp only [Option.bind_some]
  have hG25 : ∀ k, G.1 25 k = (tr_st (tr_st M 25 11 (if adN m = true then 1 else 0)) 25 12 0).1 25 k := fun k => by rw [g3 25 (by decide)]
  have hG : ∀ c, c ≠ 25 → c ≠ 45 → G.1 c = M.1 c := fun c h1 h2 => by rw [g3 c h2, tr_st_ne h1, tr_st_ne h1]
  have hwG : CWd w 26 G := hw.congr fun b h1 h2 => hG b (by omega) (by omega)
  have hNXG : NX w.1 nx G := hNX.cg (by rw [hG25, tr_st_j (by decide), tr_st_j (by decide)]) (hG 46 (by decide) (by decide)) (hG 47 (by decide) (by decide)) (hG 49 (by decide) (by decide))
  have had2 : G.1 25 11 = if adN m = true then 1 else 0 := by rw [hG25, tr_st_j (by decide), tr_st_s]
  have hgl := gN_le hok m
  have hgf : gN w m (2 ^ w.1 - 1) = 0 := gN_full m fun i hi => by rw [full_bit]; simp [hi]
  rw [everything_eq hwG.1 hn]
  obtain ⟨N, n1, n2, n3, n4⟩ := down_loop (n := w.1) (M := G) hn (out := mX4_fillBest_l36) (inn := fun s N => mX4_fillBest_l42 (nI s, N)) (fun s l N => TB w.1 nx (adN m) (gN w m) s l N ∧ (∀ c, c ≠ 48 → N.1 c = G.1 c) ∧ N.2 = M.2) (fun s N hs hJ => ⟨N, hJ, by
      unfold mX4_fillBest_l36
      dsimp only
      rw [if_neg (nI_pos (by omega))]⟩) (fun N => by
      unfold mX4_fillBest_l36
      dsimp only
      rw [if_pos (by decide)]) (by
    rintro s l N K hst ⟨t1, t2, t3⟩
    have hl10 := hst.l10 hn
    have hs := hst.1
    have hN0 : N.1 26 0 = nI w.1 := by rw [t2 26 (by decide)]; exact hwG.1
    have hNXN : NX w.1 nx N := hNXG.cg (by rw [t2 25 (by decide)]) (t2 46 (by decide)) (t2 47 (by decide)) (t2 49 (by decide))
    have hb := bestOf_eq (ad := adN m) (g := gN w m) hn hN0 hf hgl hgf hst (hNXN s l hst) (fun s hs => by rw [t2 45 (by decide)]; exact g2 s hs) (by rw [t2 25 (by decide)]; exact had2) (fun x hx hnew => by
      obtain ⟨z1, z2⟩ := St_ins hs hx
      have := t1 (ins s x) x z1 (Or.inl (ins_gt hnew))
      rw [z2] at this
      exact this)
    have c1 : nI l < nI (Ln w.1 s) := (nlt (by omega) (by unfold Ln; split <;> omega)).mpr hst.lt
    refine ⟨tr_st N 48 (s * 10 + l) (nI (bC nx w.1 (adN m) (gN w m) s (ls s l))), ?_, fun s' l' hst' hlt => ?_, fun c hc => by rw [tr_st_ne hc]; exact t2 c hc, t3⟩
    · unfold mX4_fillBest_l42
      dsimp only
      rw [lastsOf_eq (by omega) hN0, if_pos c1, isState_eq (by omega) (by omega), if_pos hst.is, if_neg (by decide), hb]
      dsimp only [Option.bind_some]
      rw [stateOf_eq, tr_wr_nI (by omega) (by decide), Option.bind_some, nadd1]
    · have hl10' := hst'.l10 hn
      by_cases e : s' = s ∧ l' = l
      · rw [e.1, e.2, tr_st_s]
      · rw [tr_st_j (by omega)]
        exact t1 s' l' hst' (by omega)) (by
    rintro s l N K hs h0 hl hb ⟨t1, t2, t3⟩
    have hN0 : N.1 26 0 = nI w.1 := by rw [t2 26 (by decide)]; exact hwG.1
    have c1 : nI l < nI (Ln w.1 s) := by
      unfold Ln
      rw [if_neg h0]
      exact (nlt (by omega) (by omega)).mpr hl
    refine ⟨?_, fun s' l' hst' hlt => t1 s' l' hst' ?_, t2, t3⟩
    · unfold mX4_fillBest_l42
      dsimp only
      have hns : mX4_isState (nI s) (nI l) = 0 := by
        rw [isState_eq (by omega) (by omega), if_neg]
        simp [h0, hb]
      rw [lastsOf_eq (by omega) hN0, if_pos c1, hns, if_pos rfl, nadd1]
    · by_cases e : s' = s ∧ l' = l
      · exfalso
        rcases hst'.is with z | z
        · exact h0 (by omega)
        · rw [e.1, e.2, hb] at z; cases z
      · omega) (by
    rintro s N K hs ⟨t1, t2, t3⟩
    have hN0 : N.1 26 0 = nI w.1 := by rw [t2 26 (by decide)]; exact hwG.1
    have hLn : Ln w.1 s ≤ 10 := by unfold Ln; split <;> omega
    have c1 : ¬ nI (Ln w.1 s) < nI (Ln w.1 s) := by rw [nlt (by omega) (by omega)]; omega
    unfold mX4_fillBest_l42
    dsimp only
    rw [lastsOf_eq (by omega) hN0, if_neg c1]
    rfl) (by
    rintro s N hs ⟨t1, t2, t3⟩
    refine ⟨fun s' l' hst' hlt => t1 s' l' hst' ?_, t2, t3⟩
    have := hst'.lt
    by_cases e : s' = s + 1
    · right
      rw [e] at this
      exact ⟨e, this⟩
    · left
      omega) ⟨fun s' l' hst' hlt => by
      have := hst'.1
      omega, fun _ _ => rfl, g4⟩
  refine ⟨N, n1, fun s l hst => ?_, fun s hs => by rw [n3 45 (by decide)]; exact g2 s hs, by rw [n3 25 (by decide)]; exact had2, ?_, fun k h1 h2 => ?_, fun c h1 h2 h3 => by rw [n3 c h3]; exact hG c h1 h2, n4⟩
  · refine n2 s l hst ?_
    have := hst.lt
    by_cases e : s = 0
    · right
      unfold Ln at this
      rw [if_pos e] at this
      exact ⟨e, this⟩
    · left
      omega
  · rw [n3 25 (by decide), hG25, tr_st_s]
  · rw [n3 25 (by decide), hG25, tr_st_j h2, tr_st_j h1]
