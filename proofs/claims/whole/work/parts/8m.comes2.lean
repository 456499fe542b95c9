theorem nst_A {G : Rl} {n : Nat} (hf : Fresh G n) (hn : n ≤ 10) (Q : Nat → Nat → Bool) {i : Nat} (hi : i < n) : nst G n Q n 0 10 i = sm (2 ^ n) (fun s => sm 10 (fun l => if stb s l = true then (if cnt n s = i + 1 then (if Q s (ls s l) = true then cN G n s l * nm G n s (ls s l) else 0) else 0) else 0)) := by
  rw [nst_all G n Q hi, ws_states (i := i + 1) hn _ _ (pfx_ok hf _)]
  refine sm_congr fun s hs => sm_congr fun l hl => ?_
  by_cases b : stb s l = true
  · rw [if_pos b, if_pos b]
    by_cases c : cnt n s = i + 1
    · rw [if_pos c]
      have h1 : cq (pfx G n (i + 1)) s l = cN G n s l := by unfold cN; rw [c]
      have h2 : (ext G n (n - (i + 1)) s (ls s l)).length = nm G n s (ls s l) := by
        unfold nm lft
        rw [c]
      rw [h1]
      show cN G n s l * (if Q s (ls s l) = true then (ext G n (n - (i + 1)) s (ls s l)).length else 0) = _
      rw [h2]
      by_cases q : Q s (ls s l) = true
      · rw [if_pos q, if_pos q]
      · rw [if_neg q, if_neg q, Nat.mul_zero]
    · rw [if_neg c, cq_no hf c, Nat.zero_mul]
  · rw [if_neg b, if_neg b]
/-- in how many least orders a thing comes right behind a set -/
def tk (G : Rl) (n a s : Nat) : Nat := if s.testBit a = true then 0 else cN G n (ins s a) a * nm G n (ins s a) a
theorem nst_B {G : Rl} {n : Nat} (hf : Fresh G n) (hn : n ≤ 10) (Q : Nat → Nat → Bool) {b : Nat} (hb : b < n) (hQ : ∀ s l, Q s l = true → l = b) {i : Nat} (hi : i < n) : nst G n Q n 0 10 i = sm (2 ^ n) (fun s => if cnt n s = i then (if Q (ins s b) b = true then tk G n b s else 0) else 0) := by
  rw [nst_all G n Q hi]
  show ws _ (fst1 G n (pfx G n i)) = _
  rw [ws_fst1, ws_states (i := i) hn _ _ (pfx_ok hf _)]
  refine sm_congr fun s hs => ?_
  have e1 : ∀ l, sm n (fun x => if G s (ls s l) x = true then (if Q (ins s x) x = true then (ext G n (n - (i + 1)) (ins s x) x).length else 0) else 0) = if G s (ls s l) b = true then (if Q (ins s b) b = true then (ext G n (n - (i + 1)) (ins s b) b).length else 0) else 0 := fun l => by
    have : ∀ x, x < n → (if G s (ls s l) x = true then (if Q (ins s x) x = true then (ext G n (n - (i + 1)) (ins s x) x).length else 0) else 0) = if x = b then (if G s (ls s l) b = true then (if Q (ins s b) b = true then (ext G n (n - (i + 1)) (ins s b) b).length else 0) else 0) else 0 := fun x hx => by
      by_cases e : x = b
      · rw [if_pos e, e]
      · rw [if_neg e]
        by_cases g : G s (ls s l) x = true
        · rw [if_pos g, if_neg (fun q => e (hQ _ _ q))]
        · rw [if_neg g]
    rw [sm_congr this, sm_one _ hb]
  by_cases c : cnt n s = i
  · rw [if_pos c]
    by_cases q : Q (ins s b) b = true
    · rw [if_pos q]
      cases hbit : s.testBit b with
      | true =>
        unfold tk
        rw [if_pos hbit, sm_congr (g := fun _ => 0), sm_0]
        intro l hl
        by_cases st : stb s l = true
        · rw [if_pos st]
          show cq (pfx G n i) s l * sm n _ = 0
          rw [e1, if_neg, Nat.mul_zero]
          intro g
          rw [(hf _ _ _ g).2] at hbit
          cases hbit
        · rw [if_neg st]
      | false =>
        unfold tk
        rw [if_neg (by rw [hbit]; decide), cN_step hf hn hs hb hbit, Nat.mul_comm, ← sm_mul]
        refine sm_congr fun l hl => ?_
        by_cases st : stb s l = true
        · rw [if_pos st, if_pos st]
          show cq (pfx G n i) s l * sm n _ = _
          rw [e1, if_pos q]
          have h1 : cq (pfx G n i) s l = cN G n s l := by unfold cN; rw [c]
          have h2 : (ext G n (n - (i + 1)) (ins s b) b).length = nm G n (ins s b) b := by
            unfold nm lft
            rw [cnt_ins hb hbit, c]
          rw [h1, h2]
          by_cases g : G s (ls s l) b = true
          · rw [if_pos g, if_pos g, Nat.mul_comm]
          · rw [if_neg g, if_neg g, Nat.mul_zero, Nat.mul_zero]
        · rw [if_neg st, if_neg st, Nat.mul_zero]
    · rw [if_neg q, sm_congr (g := fun _ => 0), sm_0]
      intro l hl
      by_cases st : stb s l = true
      · rw [if_pos st]
        show cq (pfx G n i) s l * sm n _ = 0
        rw [e1, if_neg q]
        split <;> rw [Nat.mul_zero]
      · rw [if_neg st]
  · rw [if_neg c, sm_congr (g := fun _ => 0), sm_0]
    intro l hl
    by_cases st : stb s l = true
    · rw [if_pos st, cq_no hf c, Nat.zero_mul]
    · rw [if_neg st]
/-! ===== E: the same, in the class ===== -/
theorem up_loop {n : Nat} {M : tr_M} (hn : n ≤ 10) {out : Int32 × tr_M → Option ((Int32 × tr_M) ⊕ tr_M)} {inn : Nat → tr_M → Int32 × tr_M → Option ((Int32 × tr_M) ⊕ ((Int32 × tr_M) ⊕ tr_M))} (J : Nat → Nat → tr_M → Prop) (ho : ∀ s N, s < 2 ^ n - 1 → J s 0 N → out (nI s, N) = tr_loop (inn s N) (0, N)) (ho2 : ∀ N, J (2 ^ n - 1) 0 N → out (nI (2 ^ n - 1), N) = some (.inr N)) (hst : ∀ s l N K, s < 2 ^ n - 1 → St n s l → J s l N → ∃ P, inn s K (nI l, N) = some (.inl (nI (l + 1), P)) ∧ J s (l + 1) P) (hsk : ∀ s l N K, s < 2 ^ n - 1 → s ≠ 0 → l < n → s.testBit l = false → J s l N → inn s K (nI l, N) = some (.inl (nI (l + 1), N)) ∧ J s (l + 1) N) (he : ∀ s N K, s < 2 ^ n - 1 → J s (Ln n s) N → inn s K (nI (Ln n s), N) = some (.inr (.inl (nI (s + 1), N)))) (hnx : ∀ s N, s < 2 ^ n - 1 → J s (Ln n s) N → J (s + 1) 0 N) (h0 : J 0 0 M) : ∃ N, tr_loop out (0, M) = some N ∧ J (2 ^ n - 1) 0 N := by
  have hpw := pow_lt hn
  have hp0 := Nat.two_pow_pos n
  have inner : ∀ s N, s < 2 ^ n - 1 → J s 0 N → ∃ P, tr_loop (inn s N) (0, N) = some (.inl (nI (s + 1), P)) ∧ J s (Ln n s) P := fun s N hs hJ => by
    obtain ⟨r, e1, P, e2, e3⟩ := tr_loop_inv (step := inn s N) (s0 := (0, N)) (fun l t => ∃ P, t = (nI l, P) ∧ J s l P) (fun r => ∃ P, r = .inl (nI (s + 1), P) ∧ J s (Ln n s) P) (Ln n s) (by unfold Ln; split <;> omega) ⟨N, rfl, hJ⟩ (by
      rintro l t hl ⟨P, rfl, hP⟩
      left
      by_cases c : s = 0
      · unfold Ln at hl
        rw [if_pos c] at hl
        obtain ⟨Q, q1, q2⟩ := hst s l P N hs ⟨by omega, Or.inl ⟨c, by omega⟩⟩ hP
        exact ⟨_, q1, Q, rfl, q2⟩
      · unfold Ln at hl
        rw [if_neg c] at hl
        cases b : s.testBit l with
        | true =>
          obtain ⟨Q, q1, q2⟩ := hst s l P N hs ⟨by omega, Or.inr ⟨hl, b⟩⟩ hP
          exact ⟨_, q1, Q, rfl, q2⟩
        | false =>
          obtain ⟨q1, q2⟩ := hsk s l P N hs c hl b hP
          exact ⟨_, q1, P, rfl, q2⟩) (by
      rintro t ⟨P, rfl, hP⟩
      exact ⟨_, he s P N hs hP, P, rfl, hP⟩)
    exact ⟨P, by rw [e1, e2], e3⟩
  refine tr_loop_inv (step := out) (s0 := (0, M)) (fun i t => ∃ N, t = (nI i, N) ∧ J i 0 N) (fun N => J (2 ^ n - 1) 0 N) (2 ^ n - 1) (by omega) ⟨M, rfl, h0⟩ ?_ ?_
  · rintro i t hi ⟨N, rfl, hJ⟩
    left
    obtain ⟨P, p1, p2⟩ := inner i N hi hJ
    rw [ho i N hi hJ, p1]
    exact ⟨_, rfl, P, rfl, hnx i P hi p2⟩
  · rintro t ⟨N, rfl, hJ⟩
    exact ⟨N, ho2 N hJ, hJ⟩
def Vc (G : Rl) (n S L s x : Nat) : Nat := if del s x < S then cN G n s x else if del s x = S then sm L (fun l => if stb S l = true then (if G S (ls S l) x = true then cN G n S l else 0) else 0) else 0
theorem del_lt_self {s x : Nat} (h : s.testBit x = true) : del s x < s := by
  have h1 : (del s x).testBit x = false := by rw [del_bit]; simp
  have h2 := ins_gt h1
  rw [ins_del h] at h2
  exact h2
theorem comeOn_eq {n : Nat} {G : Rl} {s l c : Nat} {N : tr_M} (hn : n ≤ 10) (hw : N.1 26 0 = nI n) (hG : Fresh G n) (hL : LG n G N) (hst : St n s l) (hc : N.1 51 (s * 10 + l) = nI c) : ∃ P, mX4_comeOnFrom (nI s) (nI l) N = some P ∧ (∀ s' x, St n s' x → P.1 51 (s' * 10 + x) = if s'.testBit x = true ∧ del s' x = s ∧ G s (ls s l) x = true then N.1 51 (s' * 10 + x) + nI c else N.1 51 (s' * 10 + x)) ∧ (∀ b, b ≠ 51 → P.1 b = N.1 b) ∧ P.2 = N.2 := by
  have hpw := pow_lt hn
  have hs := hst.1
  have hl10 := hst.l10 hn
  have hb := nxb_lt G s (ls s l)
  unfold mX4_comeOnFrom
  rw [nextIn_eq hn hL hst, Option.bind_some]
  obtain ⟨P, e1, e2, e3, e4⟩ := tr_loop_inv (step := mX4_comeOnFrom_l10 (nI s) (nI l) (nI (nxb G s (ls s l)))) (s0 := (0, N)) (fun y t => ∃ P, t = (nI y, P) ∧ (∀ s' x, St n s' x → P.1 51 (s' * 10 + x) = if s'.testBit x = true ∧ del s' x = s ∧ G s (ls s l) x = true ∧ x < y then N.1 51 (s' * 10 + x) + nI c else N.1 51 (s' * 10 + x)) ∧ (∀ b, b ≠ 51 → P.1 b = N.1 b) ∧ P.2 = N.2) (fun P => (∀ s' x, St n s' x → P.1 51 (s' * 10 + x) = if s'.testBit x = true ∧ del s' x = s ∧ G s (ls s l) x = true then N.1 51 (s' * 10 + x) + nI c else N.1 51 (s' * 10 + x)) ∧ (∀ b, b ≠ 51 → P.1 b = N.1 b) ∧ P.2 = N.2) n (by omega) ⟨N, rfl, fun s' x _ => by rw [if_neg (by omega)], fun _ _ => rfl, rfl⟩ (by
    rintro y t hy ⟨P, rfl, h1, h2, h3⟩
    left
    have hP0 : P.1 26 0 = nI n := by rw [h2 26 (by decide)]; exact hw
    have c1 : nI y < nI n := (nlt (by omega) (by omega)).mpr hy
    unfold mX4_comeOnFrom_l10
    dsimp only
    rw [hP0, if_pos c1]
    simp (disch := omega) only [bit_eq0]
    rw [nxb_bit]
    cases g : G s (ls s l) y with
    | false =>
      rw [if_pos (by simp), nadd1]
      refine ⟨_, rfl, P, rfl, fun s' x hst' => ?_, h2, h3⟩
      rw [h1 s' x hst']
      by_cases q : s'.testBit x = true ∧ del s' x = s ∧ G s (ls s l) x = true ∧ x < y
      · rw [if_pos q, if_pos ⟨q.1, q.2.1, q.2.2.1, by omega⟩]
      · rw [if_neg q, if_neg]
        rintro ⟨q1, q2, q3, q4⟩
        by_cases e : x = y
        · rw [e, g] at q3; cases q3
        · exact q ⟨q1, q2, q3, by omega⟩
    | true =>
      have hnew := (hG _ _ _ g).2
      have hi := ins_lt hs hy
      have hgt := ins_gt hnew
      obtain ⟨z1, z2⟩ := St_ins hs hy
      have hbit : (ins s y).testBit y = true := by rw [ins_bit]; simp
      have hh1 := h1 (ins s y) y z1
      rw [if_neg (by omega)] at hh1
      have hh2 : P.1 51 (s * 10 + l) = nI c := by
        rw [h1 s l hst, if_neg, hc]
        rintro ⟨q1, q2, -, -⟩
        have := del_lt_self q1
        omega
      rw [if_neg (by simp [show y < 10 by omega]), ins_nI (by omega), stateOf_eq, stateOf_eq, tr_rd_nI (by omega) (by decide), Option.bind_some, tr_rd_nI (by omega) (by decide), Option.bind_some, hh1, hh2, tr_wr_nI (by omega) (by decide), Option.bind_some, nadd1]
      refine ⟨_, rfl, _, rfl, fun s' x hst' => ?_, fun b hb => by rw [tr_st_ne hb]; exact h2 b hb, h3⟩
      have hx10 := hst'.l10 hn
      by_cases e : s' = ins s y ∧ x = y
      · rw [e.1, e.2, tr_st_s, if_pos ⟨hbit, del_ins hnew, g, by omega⟩]
      · rw [tr_st_j (by omega), h1 s' x hst']
        by_cases q : s'.testBit x = true ∧ del s' x = s ∧ G s (ls s l) x = true ∧ x < y
        · rw [if_pos q, if_pos ⟨q.1, q.2.1, q.2.2.1, by omega⟩]
        · rw [if_neg q, if_neg]
          rintro ⟨q1, q2, q3, q4⟩
          by_cases e2 : x = y
          · refine e ⟨?_, e2⟩
            rw [← q2, ← e2, ins_del q1]
          · exact q ⟨q1, q2, q3, by omega⟩) (by
    rintro t ⟨P, rfl, h1, h2, h3⟩
    have hP0 : P.1 26 0 = nI n := by rw [h2 26 (by decide)]; exact hw
    have c1 : ¬ nI n < nI n := by rw [nlt (by omega) (by omega)]; omega
    refine ⟨P, ?_, fun s' x hst' => ?_, h2, h3⟩
    · unfold mX4_comeOnFrom_l10
      dsimp only
      rw [hP0, if_neg c1]
    · rw [h1 s' x hst']
      by_cases q : s'.testBit x = true ∧ del s' x = s ∧ G s (ls s l) x = true
      · rw [if_pos q, if_pos ⟨q.1, q.2.1, q.2.2, (hG _ _ _ q.2.2).1⟩]
      · rw [if_neg q, if_neg (fun z => q ⟨z.1, z.2.1, z.2.2.1⟩)])
  exact ⟨P, e1, e2, e3, e4⟩
