theorem lsI_pre {n : Nat} {f : Nat → Nat} (h : Ord n f) {i : Nat} (hi : i ≤ n) : lsI (pre f i) (lx f i) = if i = 0 then -9 else nI (f (i - 1)) := by
  unfold lsI lx
  cases i with
  | zero => rfl
  | succ i =>
    have : pre f (i + 1) ≠ 0 := fun e => by
      have := (pre_bit f (f i) (i + 1)).mpr ⟨i, by omega, rfl⟩
      rw [e, Nat.zero_testBit] at this
      cases this
    rw [if_neg this, if_neg (by omega), if_neg (by omega)]
/-- the model's question who is on a way -/
def IG (n m : Nat) (G : Rl) (N : tr_M) : Prop := ∀ s l x, St n s l → x < n → mX7_isGood (nI m) (nI s) (lsI s l) (nI x) N = some (if G s (ls s l) x = true then 1 else 0)
theorem onward_eq {n : Nat} {G : Rl} {s x : Nat} {N : tr_M} (hn : n ≤ 10) (h : WT n G N) (hs : s < 2 ^ n) (hx : x < n) : tr_rd 10240 N 17 (mX7_spot (nI s ||| ((1 : Int32) <<< (nI x &&& 31))) (nI x)) = some (nI (nm G n (ins s x) x)) := by
  have hpw := pow_lt hn
  obtain ⟨z1, z2⟩ := St_ins hs hx
  have := h _ _ z1 hx
  rw [z2] at this
  have hi := z1.1
  rw [ins_nI (by omega), spot_eq, tr_rd_nI (by omega) (by decide), this]
theorem sm_up_le (F : Nat → Nat) {a b : Nat} (hab : a ≤ b) : sm a F ≤ sm b F := by
  induction b with
  | zero => rw [show a = 0 by omega]; exact Nat.le_refl _
  | succ b ih =>
    by_cases e : a = b + 1
    · rw [e]; exact Nat.le_refl _
    · have := ih (by omega)
      show _ ≤ sm b _ + _
      omega
theorem mpick_loop {n k m : Nat} {G : Rl} {f : Nat → Nat} {N : tr_M} (hn : n ≤ 10) (hw : N.1 1 10 = nI n) (hG : Fresh G n) (hf : Ord n f) (hL : WT n G N) (hg : ∀ P : tr_M, (∀ c, c ≠ 12 → P.1 c = N.1 c) → IG n m G P) (hk : (ext G n n 0 10)[k]? = some (seg f 0 n)) : tr_loop (mX7_layLeast_l56 (nI m)) (nI k, 0, -9, 0, N) = some (tr_row N 12 (cp (N.1 12) (fun i => nI (f i)) n)) := by
  have hpw := pow_lt hn
  obtain ⟨r, e1, e2⟩ := tr_loop_inv (step := mX7_layLeast_l56 (nI m)) (s0 := (nI k, 0, -9, 0, N)) (fun i t => ∃ left, t = (nI left, nI (pre f i), lsI (pre f i) (lx f i), nI i, tr_row N 12 (cp (N.1 12) (fun i => nI (f i)) i)) ∧ (ext G n (n - i) (pre f i) (la f i))[left]? = some (seg f i (n - i))) (fun r => r = tr_row N 12 (cp (N.1 12) (fun i => nI (f i)) n)) n (by omega) ⟨k, by rw [cp_0, tr_row_id rfl]; rfl, hk⟩ (by
    rintro i t hi ⟨left, rfl, hl⟩
    left
    have hfi := hf.1 i hi
    have hpl := pre_lt hf (show i ≤ n by omega)
    obtain ⟨hst, hls⟩ := St_pre hf hn (show i ≤ n by omega)
    have hlf := lft_pre hf (show i ≤ n by omega)
    obtain ⟨P, hP⟩ : ∃ P, P = tr_row N 12 (cp (N.1 12) (fun i => nI (f i)) i) := ⟨_, rfl⟩
    have hPo : ∀ c, c ≠ 12 → P.1 c = N.1 c := fun c hc => by rw [hP, tr_row_ne hc]
    have hP0 : P.1 1 10 = nI n := by rw [hPo 1 (by decide)]; exact hw
    have hLP : WT n G P := fun s l a b => by rw [hPo 17 (by decide)]; exact hL s l a b
    have hIG := hg P hPo
    rw [show n - i = (n - (i + 1)) + 1 by omega] at hl
    obtain ⟨x, q, x1, x2, x3, x4, x5, x6⟩ := nth_ext hl
    have hseg : seg f i (n - (i + 1) + 1) = f i :: seg f (i + 1) (n - (i + 1)) := rfl
    rw [hseg] at x1
    obtain ⟨xe, qe⟩ := List.cons.inj x1
    subst xe
    have hk1 : lft n (pre f i) = n - (i + 1) + 1 := by omega
    have hlen : (ext G n (n - (i + 1) + 1) (pre f i) (la f i)).length ≤ 3628800 := by
      have : nm G n (pre f i) (la f i) ≤ 3628800 := nm_le hG hn
      unfold nm at this
      rw [hk1] at this
      exact this
    have hleft : left < 3628800 := by
      have := (List.getElem?_eq_some_iff.mp hl).1
      omega
    have inner : tr_loop (mX7_layLeast_l68 (nI m) (nI left, nI (pre f i), lsI (pre f i) (lx f i), nI i, P)) (nI left, 0) = some (nI (left - sm (f i) (wy G n (n - (i + 1)) (pre f i) (la f i))), nI (f i)) := by
      refine tr_loop_seq' (fun y => (nI (left - sm y (wy G n (n - (i + 1)) (pre f i) (la f i))), nI y)) (f i) rfl (by omega) (fun y hy => ?_) ?_
      · unfold mX7_layLeast_l68
        dsimp only
        have hsy : sm (y + 1) (wy G n (n - (i + 1)) (pre f i) (la f i)) = sm y (wy G n (n - (i + 1)) (pre f i) (la f i)) + wy G n (n - (i + 1)) (pre f i) (la f i) y := rfl
        have hmono := sm_up_le (wy G n (n - (i + 1)) (pre f i) (la f i)) (show y + 1 ≤ f i by omega)
        have hwy := wy_nm (l := la f i) hG hk1 (show y < n by omega)
        rw [hIG _ _ y hst (by omega), hls, onward_eq hn hLP hpl (by omega)]
        dsimp only [Option.bind_some]
        cases qg : G (pre f i) (la f i) y with
        | false =>
          rw [qg, if_neg (by decide)] at hwy
          rw [hsy, hwy]
          simp only [Bool.false_eq_true, if_false, if_true]
          dsimp only [Option.bind_some, tr_el]
          rw [nadd1, n00, nsub (Nat.zero_le _)]
          rfl
        | true =>
          rw [qg, if_pos rfl] at hwy
          have hnl := nm_le (s := ins (pre f i) y) (l := y) hG hn
          have c2 : ¬ nI (left - sm y (wy G n (n - (i + 1)) (pre f i) (la f i))) < nI (nm G n (ins (pre f i) y) y) := by rw [nlt (by omega) (by omega)]; omega
          simp only [if_true, if_neg (show ¬ (1 : Int32) = 0 by decide), if_neg c2]
          dsimp only [Option.bind_some, tr_el]
          rw [nsub (by omega), nadd1, hsy, hwy, Nat.sub_sub]
      · unfold mX7_layLeast_l68
        dsimp only
        have hnl := nm_le (s := ins (pre f i) (f i)) (l := f i) hG hn
        have hx5 : left < sm (f i) (wy G n (n - (i + 1)) (pre f i) (la f i)) + nm G n (ins (pre f i) (f i)) (f i) := by
          have := wy_nm (l := la f i) hG hk1 hfi
          unfold wy at this
          rw [if_pos x3, if_pos x3] at this
          rw [← this]
          exact x5
        have c2 : nI (left - sm (f i) (wy G n (n - (i + 1)) (pre f i) (la f i))) < nI (nm G n (ins (pre f i) (f i)) (f i)) := (nlt (by omega) (by omega)).mpr (by omega)
        rw [hIG _ _ (f i) hst hfi, hls, onward_eq hn hLP hpl hfi]
        dsimp only [Option.bind_some]
        simp only [x3, if_true, if_neg (show ¬ (1 : Int32) = 0 by decide), if_pos c2]
        rfl
    rw [← hP]
    refine ⟨_, ?_, left - sm (f i) (wy G n (n - (i + 1)) (pre f i) (la f i)), rfl, ?_⟩
    · unfold mX7_layLeast_l56
      dsimp only
      have c1 : nI i < nI n := (nlt (by omega) (by omega)).mpr hi
      rw [hP0, if_pos c1, inner]
      dsimp only [Option.bind_some]
      rw [tr_wr_nI (by omega) (by decide), Option.bind_some, ins_nI (by omega), nadd1, hP, tr_row_st]
      have hcp := @cp_s (N.1 12) (fun i => nI (f i)) i
      rw [hcp, lsI_pre hf (show i + 1 ≤ n by omega), if_neg (by omega)]
      rfl
    · rw [← qe] at x6
      exact x6) (by
    rintro t ⟨left, rfl, hl⟩
    refine ⟨_, ?_, rfl⟩
    unfold mX7_layLeast_l56
    dsimp only
    have c1 : ¬ nI n < nI n := by rw [nlt (by omega) (by omega)]; omega
    rw [tr_row_ne (by omega), hw, if_neg c1])
  rw [e1, e2]
theorem mindex_loop {n m : Nat} {G : Rl} {f : Nat → Nat} {N : tr_M} (hn : n ≤ 10) (hw : N.1 1 10 = nI n) (hG : Fresh G n) (hf : Ord n f) (hL : WT n G N) (hg : IG n m G N) (hc : ∀ i, i < n → N.1 19 i = nI (f i)) : mX7_rankBySets (nI m) N = some (oix (ix (seg f 0 n) (ext G n n 0 10))) := by
  have hpw := pow_lt hn
  unfold mX7_rankBySets
  obtain ⟨r, e1, e2⟩ := tr_loop_inv (step := mX7_rankBySets_l11 (nI m) N) (s0 := (0, 0, -9, 0)) (fun i t => ∃ idx, t = (nI idx, nI (pre f i), lsI (pre f i) (lx f i), nI i) ∧ ix (seg f 0 n) (ext G n n 0 10) = (ix (seg f i (n - i)) (ext G n (n - i) (pre f i) (la f i))).map (· + idx)) (fun r => r = oix (ix (seg f 0 n) (ext G n n 0 10))) n (by omega) ⟨0, rfl, by
      show ix (seg f 0 n) (ext G n n 0 10) = (ix (seg f 0 n) (ext G n n 0 10)).map (· + 0)
      cases ix (seg f 0 n) (ext G n n 0 10) <;> rfl⟩ (by
    rintro i t hi ⟨idx, rfl, hidx⟩
    have hfi := hf.1 i hi
    have hpl := pre_lt hf (show i ≤ n by omega)
    obtain ⟨hst, hls⟩ := St_pre hf hn (show i ≤ n by omega)
    have hlf := lft_pre hf (show i ≤ n by omega)
    have hk1 : lft n (pre f i) = n - (i + 1) + 1 := by omega
    rw [show n - i = n - (i + 1) + 1 by omega, show seg f i (n - (i + 1) + 1) = f i :: seg f (i + 1) (n - (i + 1)) from rfl, ix_ext hfi] at hidx
    have inner : tr_loop (mX7_rankBySets_l23 (nI m) N (nI idx, nI (pre f i), lsI (pre f i) (lx f i), nI i)) (nI idx, 0) = some (nI (idx + sm (f i) (wy G n (n - (i + 1)) (pre f i) (la f i)))) := by
      refine tr_loop_seq' (fun y => (nI (idx + sm y (wy G n (n - (i + 1)) (pre f i) (la f i))), nI y)) (f i) rfl (by omega) (fun y hy => ?_) ?_
      · unfold mX7_rankBySets_l23
        dsimp only
        have c2 : nI y < nI (f i) := (nlt (by omega) (by omega)).mpr hy
        have hsy : sm (y + 1) (wy G n (n - (i + 1)) (pre f i) (la f i)) = sm y (wy G n (n - (i + 1)) (pre f i) (la f i)) + wy G n (n - (i + 1)) (pre f i) (la f i) y := rfl
        have hwy := wy_nm (l := la f i) hG hk1 (show y < n by omega)
        rw [tr_rd_nI (by omega) (by decide), Option.bind_some, hc i hi, if_pos c2, hg _ _ y hst (by omega), hls, Option.bind_some, onward_eq hn hL hpl (by omega), nadd1]
        cases qy : G (pre f i) (la f i) y with
        | false =>
          rw [qy, if_neg (by decide)] at hwy
          rw [if_pos (by decide), hsy, hwy, n00, nadd]
          rfl
        | true =>
          rw [qy, if_pos rfl] at hwy
          rw [if_pos rfl, if_neg (by decide), Option.bind_some, nadd, hsy, hwy, Nat.add_assoc]
      · unfold mX7_rankBySets_l23
        dsimp only
        have c2 : ¬ nI (f i) < nI (f i) := by rw [nlt (by omega) (by omega)]; omega
        rw [tr_rd_nI (by omega) (by decide), Option.bind_some, hc i hi, if_neg c2]
    unfold mX7_rankBySets_l11
    dsimp only
    have c1 : nI i < nI n := (nlt (by omega) (by omega)).mpr hi
    rw [hw, if_pos c1, inner]
    dsimp only [Option.bind_some]
    rw [tr_rd_nI (by omega) (by decide), Option.bind_some, hc i hi, hg _ _ (f i) hst hfi, hls, Option.bind_some]
    cases qg : G (pre f i) (la f i) (f i) with
    | false =>
      right
      rw [if_pos (by decide)]
      refine ⟨_, rfl, ?_⟩
      rw [qg, if_neg (by decide)] at hidx
      rw [hidx]
      rfl
    | true =>
      left
      rw [if_pos rfl, if_neg (by decide)]
      dsimp only [Option.bind_some]
      rw [ins_nI (by omega), nadd1]
      refine ⟨_, rfl, idx + sm (f i) (wy G n (n - (i + 1)) (pre f i) (la f i)), ?_, ?_⟩
      · rw [lsI_pre hf (show i + 1 ≤ n by omega), if_neg (by omega)]
        rfl
      · rw [hidx, qg, if_pos rfl]
        show Option.map _ (Option.map _ (ix _ (ext G n _ (ins (pre f i) (f i)) (f i)))) = Option.map _ (ix _ (ext G n _ (pre f (i + 1)) (la f (i + 1))))
        rw [show la f (i + 1) = f i by unfold la; rw [if_neg (by omega)]; rfl, show pre f (i + 1) = ins (pre f i) (f i) from rfl]
        cases ix (seg f (i + 1) (n - (i + 1))) (ext G n (n - (i + 1)) (ins (pre f i) (f i)) (f i)) with
        | none => rfl
        | some j =>
          show some (j + sm (f i) _ + idx) = some (j + (idx + sm (f i) _))
          congr 1
          omega) (by
    rintro t ⟨idx, rfl, hidx⟩
    refine ⟨_, ?_, rfl⟩
    unfold mX7_rankBySets_l11
    dsimp only
    have c1 : ¬ nI n < nI n := by rw [nlt (by omega) (by omega)]; omega
    have h0 : ix ([] : List Nat) [[]] = some 0 := by
      unfold ix
      rw [if_pos rfl]
    rw [hw, if_neg c1, hidx, Nat.sub_self, show ix (seg f n 0) (ext G n 0 (pre f n) (la f n)) = some 0 from h0]
    show _ = some (Sum.inr (nI (0 + idx)))
    rw [Nat.zero_add])
  rw [e1, e2]
