/-! ===== E: least orders one by one, in the class ===== -/
def fct : Nat → Nat
  | 0 => 1
  | k + 1 => (k + 1) * fct k
theorem sm_not (s c : Nat) : ∀ n, sm n (fun x => if s.testBit x = true then 0 else c) + c * cnt n s = c * n
  | 0 => rfl
  | n + 1 => by
    have ih := sm_not s c n
    show sm n (fun x => if s.testBit x = true then 0 else c) + (if s.testBit n = true then 0 else c) + c * (cnt n s + (if s.testBit n = true then 1 else 0)) = c * (n + 1)
    by_cases b : s.testBit n = true
    · rw [if_pos b, if_pos b, Nat.mul_add, Nat.mul_add, Nat.mul_one]
      omega
    · rw [if_neg b, if_neg b, Nat.mul_add, Nat.mul_add, Nat.mul_one, Nat.mul_zero]
      omega
theorem sm_mono {f g : Nat → Nat} : ∀ {n : Nat}, (∀ i, i < n → f i ≤ g i) → sm n f ≤ sm n g
  | 0, _ => Nat.le_refl _
  | n + 1, h => by
    have h1 := sm_mono (n := n) (fun i hi => h i (by omega))
    have h2 := h n (by omega)
    show sm n f + f n ≤ sm n g + g n
    omega
theorem ext_fct {nx : Rl} {n : Nat} (hf : Fresh nx n) : ∀ k s l, lft n s = k → (ext nx n k s l).length ≤ fct k
  | 0, s, l, _ => Nat.le_refl _
  | k + 1, s, l, h => by
    rw [ext_num]
    have h1 : sm n (fun x => if nx s l x = true then (ext nx n k (ins s x) x).length else 0) ≤ sm n (fun x => if s.testBit x = true then 0 else fct k) := sm_mono fun x hx => by
      by_cases c : nx s l x = true
      · obtain ⟨-, hnew⟩ := hf s l x c
        rw [if_pos c, if_neg (by rw [hnew]; decide)]
        have := lft_ins hx hnew
        exact ext_fct hf k (ins s x) x (by omega)
      · rw [if_neg c]; exact Nat.zero_le _
    have h2 := sm_not s (fct k) n
    have h3 := cnt_le s n
    have h4 : n = (k + 1) + cnt n s := by
      unfold lft at h
      omega
    have h5 : fct k * n = fct k * (k + 1) + fct k * cnt n s := by
      rw [← Nat.mul_add, ← h4]
    show _ ≤ (k + 1) * fct k
    rw [Nat.mul_comm (k + 1)]
    omega
theorem fct_mono : ∀ {a b : Nat}, a ≤ b → fct a ≤ fct b := by
  intro a b h
  induction b with
  | zero => rw [show a = 0 by omega]; exact Nat.le_refl _
  | succ b ih =>
    by_cases e : a = b + 1
    · rw [e]; exact Nat.le_refl _
    · have := ih (by omega)
      show _ ≤ (b + 1) * fct b
      have : fct b ≤ (b + 1) * fct b := Nat.le_mul_of_pos_left _ (by omega)
      omega
theorem nm_le {G : Rl} {n s l : Nat} (hf : Fresh G n) (hn : n ≤ 10) : nm G n s l ≤ 3628800 := by
  unfold nm
  have h1 := ext_fct hf (lft n s) s l rfl
  have h2 : lft n s ≤ 10 := Nat.le_trans (Nat.sub_le _ _) hn
  have h3 := fct_mono h2
  have h4 : fct 10 = 3628800 := by decide
  omega
/-- the tables of least orders -/
def LG (n : Nat) (G : Rl) (N : tr_M) : Prop := ∀ s l, St n s l → N.1 49 (s * 10 + l) = nI (nxb G s (ls s l)) ∧ N.1 50 (s * 10 + l) = nI (nm G n s (ls s l))
theorem nextIn_eq {n : Nat} {G : Rl} {s l : Nat} {N : tr_M} (hn : n ≤ 10) (h : LG n G N) (hst : St n s l) : mX4_nextInLeast (nI s) (nI l) N = some (nI (nxb G s (ls s l))) := by
  have hpw := pow_lt hn
  have hl := hst.l10 hn
  have hs := hst.1
  unfold mX4_nextInLeast
  rw [stateOf_eq, tr_rd_nI (by omega) (by decide), (h s l hst).1]
  rfl
theorem num_eq {n : Nat} {G : Rl} {s x : Nat} {N : tr_M} (hn : n ≤ 10) (h : LG n G N) (hs : s < 2 ^ n) (hx : x < n) : tr_rd 10240 N 50 (mX4_stateOf (nI s ||| ((1 : Int32) <<< (nI x &&& 31))) (nI x)) = some (nI (nm G n (ins s x) x)) := by
  have hpw := pow_lt hn
  obtain ⟨z1, z2⟩ := St_ins hs hx
  have hi := ins_lt hs hx
  have := (h (ins s x) x z1).2
  rw [z2] at this
  rw [ins_nI (by omega), stateOf_eq, tr_rd_nI (by omega) (by decide), this]
theorem wy_nm {G : Rl} {n k s l : Nat} (hf : Fresh G n) (hk : lft n s = k + 1) {x : Nat} (hx : x < n) : wy G n k s l x = if G s l x = true then nm G n (ins s x) x else 0 := by
  unfold wy nm
  by_cases c : G s l x = true
  · rw [if_pos c, if_pos c]
    have := lft_ins hx (hf s l x c).2
    rw [show lft n (ins s x) = k by omega]
  · rw [if_neg c, if_neg c]
/-- the last one, as the tables count it -/
def lx (f : Nat → Nat) (i : Nat) : Nat := if i = 0 then 0 else f (i - 1)
theorem St_pre {n : Nat} {f : Nat → Nat} (h : Ord n f) (hn : n ≤ 10) {i : Nat} (hi : i ≤ n) : St n (pre f i) (lx f i) ∧ ls (pre f i) (lx f i) = la f i := by
  unfold lx la
  cases i with
  | zero => exact ⟨⟨Nat.two_pow_pos n, Or.inl ⟨rfl, rfl⟩⟩, rfl⟩
  | succ i =>
    have hfi := h.1 i (by omega)
    have hpl := pre_lt h (show i ≤ n by omega)
    have := St_ins hpl hfi
    rw [if_neg (by omega), if_neg (by omega)]
    exact this
theorem lft_pre {n : Nat} {f : Nat → Nat} (h : Ord n f) {i : Nat} (hi : i ≤ n) : lft n (pre f i) = n - i := by
  unfold lft
  rw [pre_cnt h (Nat.le_refl _) hi]
theorem pick_loop {n k p2 : Nat} {G : Rl} {f : Nat → Nat} {N : tr_M} (hn : n ≤ 10) (hw : N.1 26 0 = nI n) (hG : Fresh G n) (hf : Ord n f) (hL : LG n G N) (hp2 : tr_len shC p2 = 10) (hp3 : 58 ≤ p2) (hk : (ext G n n 0 10)[k]? = some (seg f 0 n)) : tr_loop (mX4_pick_l15 p2) (nI k, 0, 0, 0, N) = some (tr_row N p2 (cp (N.1 p2) (fun i => nI (f i)) n)) := by
  have hpw := pow_lt hn
  obtain ⟨r, e1, e2⟩ := tr_loop_inv (step := mX4_pick_l15 p2) (s0 := (nI k, 0, 0, 0, N)) (fun i t => ∃ left, t = (nI left, nI (pre f i), nI (lx f i), nI i, tr_row N p2 (cp (N.1 p2) (fun i => nI (f i)) i)) ∧ (ext G n (n - i) (pre f i) (la f i))[left]? = some (seg f i (n - i))) (fun r => r = tr_row N p2 (cp (N.1 p2) (fun i => nI (f i)) n)) n (by omega) ⟨k, by rw [cp_0, tr_row_id rfl]; rfl, hk⟩ (by
    rintro i t hi ⟨left, rfl, hl⟩
    left
    have hfi := hf.1 i hi
    have hpl := pre_lt hf (show i ≤ n by omega)
    obtain ⟨hst, hls⟩ := St_pre hf hn (show i ≤ n by omega)
    have hlf := lft_pre hf (show i ≤ n by omega)
    have hLn : ∀ P : tr_M, P = tr_row N p2 (cp (N.1 p2) (fun i => nI (f i)) i) → LG n G P := fun P hP s l h => by
      rw [hP, tr_row_ne (by omega), tr_row_ne (by omega)]; exact hL s l h
    obtain ⟨P, hP⟩ : ∃ P, P = tr_row N p2 (cp (N.1 p2) (fun i => nI (f i)) i) := ⟨_, rfl⟩
    have hP0 : P.1 26 0 = nI n := by rw [hP, tr_row_ne (by omega)]; exact hw
    have hLP := hLn P hP
    rw [show n - i = (n - (i + 1)) + 1 by omega] at hl
    obtain ⟨x, q, x1, x2, x3, x4, x5, x6⟩ := nth_ext hl
    have hseg : seg f i (n - (i + 1) + 1) = f i :: seg f (i + 1) (n - (i + 1)) := rfl
    rw [hseg] at x1
    obtain ⟨xe, qe⟩ := List.cons.inj x1
    subst xe
    have hk1 : lft n (pre f i) = n - (i + 1) + 1 := by omega
    have hwl : ∀ y, y < n → wy G n (n - (i + 1)) (pre f i) (la f i) y ≤ 3628800 := fun y hy => by
      rw [wy_nm hG hk1 hy]
      by_cases c : G (pre f i) (la f i) y = true
      · rw [if_pos c]; exact nm_le hG hn
      · rw [if_neg c]; omega
    have hlen : (ext G n (n - (i + 1) + 1) (pre f i) (la f i)).length ≤ 3628800 := by
      have : nm G n (pre f i) (la f i) ≤ 3628800 := nm_le hG hn
      unfold nm at this
      rw [hk1] at this
      exact this
    have hleft : left < 3628800 := by
      have := (List.getElem?_eq_some_iff.mp hl).1
      omega
    have hb := nxb_lt G (pre f i) (la f i)
    have inner : tr_loop (mX4_pick_l40 (nI left, nI (pre f i), nI (lx f i), nI i, P) (nI (nxb G (pre f i) (la f i)))) (nI left, 0) = some (nI (left - sm (f i) (wy G n (n - (i + 1)) (pre f i) (la f i))), nI (f i)) := by
      refine tr_loop_seq' (fun y => (nI (left - sm y (wy G n (n - (i + 1)) (pre f i) (la f i))), nI y)) (f i) rfl (by omega) (fun y hy => ?_) ?_
      · unfold mX4_pick_l40
        dsimp only
        have c1 : nI y < nI n := (nlt (by omega) (by omega)).mpr (by omega)
        have hsy : sm (y + 1) (wy G n (n - (i + 1)) (pre f i) (la f i)) = sm y (wy G n (n - (i + 1)) (pre f i) (la f i)) + wy G n (n - (i + 1)) (pre f i) (la f i) y := rfl
        have hmono : sm (y + 1) (wy G n (n - (i + 1)) (pre f i) (la f i)) ≤ sm (f i) (wy G n (n - (i + 1)) (pre f i) (la f i)) := by
          have : ∀ a b, a ≤ b → sm a (wy G n (n - (i + 1)) (pre f i) (la f i)) ≤ sm b (wy G n (n - (i + 1)) (pre f i) (la f i)) := fun a b hab => by
            induction b with
            | zero => rw [show a = 0 by omega]; exact Nat.le_refl _
            | succ b ih =>
              by_cases e : a = b + 1
              · rw [e]; exact Nat.le_refl _
              · have := ih (by omega)
                show _ ≤ sm b _ + _
                omega
          exact this _ _ (by omega)
        have hwy := wy_nm (l := la f i) hG hk1 (show y < n by omega)
        rw [hP0, if_pos c1]
        simp (disch := omega) only [bit_eq0]
        rw [nxb_bit]
        cases qg : G (pre f i) (la f i) y with
        | false =>
          rw [qg, if_neg (by decide)] at hwy
          rw [if_pos (by simp), nadd1, hsy, hwy]
          rfl
        | true =>
          rw [qg, if_pos rfl] at hwy
          have hnl := nm_le (s := ins (pre f i) y) (l := y) hG hn
          have c2 : ¬ nI (left - sm y (wy G n (n - (i + 1)) (pre f i) (la f i))) < nI (nm G n (ins (pre f i) y) y) := by rw [nlt (by omega) (by omega)]; omega
          rw [if_neg (by simp [show y < 10 by omega]), num_eq hn hLP hpl (by omega), Option.bind_some, if_neg c2, nsub (by omega), nadd1, hsy, hwy, Nat.sub_sub]
      · unfold mX4_pick_l40
        dsimp only
        have c1 : nI (f i) < nI n := (nlt (by omega) (by omega)).mpr hfi
        have hnl := nm_le (s := ins (pre f i) (f i)) (l := f i) hG hn
        have hx5 : left < sm (f i) (wy G n (n - (i + 1)) (pre f i) (la f i)) + nm G n (ins (pre f i) (f i)) (f i) := by
          have := wy_nm (l := la f i) hG hk1 hfi
          unfold wy at this
          rw [if_pos x3, if_pos x3] at this
          rw [← this]
          exact x5
        have c2 : nI (left - sm (f i) (wy G n (n - (i + 1)) (pre f i) (la f i))) < nI (nm G n (ins (pre f i) (f i)) (f i)) := (nlt (by omega) (by omega)).mpr (by omega)
        rw [hP0, if_pos c1]
        simp (disch := omega) only [bit_eq0]
        rw [nxb_bit, x3, if_neg (by simp [show f i < 10 by omega]), num_eq hn hLP hpl hfi, Option.bind_some, if_pos c2]
    rw [← hP]
    refine ⟨_, ?_, left - sm (f i) (wy G n (n - (i + 1)) (pre f i) (la f i)), rfl, ?_⟩
    · unfold mX4_pick_l15
      dsimp only
      have c1 : nI i < nI n := (nlt (by omega) (by omega)).mpr hi
      rw [hP0, if_pos c1, nextIn_eq hn hLP hst, hls]
      dsimp only [Option.bind_some]
      rw [inner]
      dsimp only [Option.bind_some]
      rw [hp2, tr_wr_nI (by omega) (by decide), Option.bind_some, ins_nI (by omega), nadd1, hP, tr_row_st]
      have hcp := @cp_s (N.1 p2) (fun i => nI (f i)) i
      rw [hcp]
      rfl
    · rw [← qe] at x6
      exact x6) (by
    rintro t ⟨left, rfl, hl⟩
    refine ⟨_, ?_, rfl⟩
    unfold mX4_pick_l15
    dsimp only
    have c1 : ¬ nI n < nI n := by rw [nlt (by omega) (by omega)]; omega
    rw [tr_row_ne (by omega), hw, if_neg c1])
  rw [e1, e2]
def oix : Option Nat → Int32
  | none => -9
  | some i => nI i
theorem index_loop {n p1 : Nat} {G : Rl} {f : Nat → Nat} {N : tr_M} (hn : n ≤ 10) (hw : N.1 26 0 = nI n) (hG : Fresh G n) (hf : Ord n f) (hL : LG n G N) (hc : HasF N p1 n f) (hl1 : n ≤ tr_len shC p1) (hl2 : tr_len shC p1 < 2147483648) : tr_loop (mX4_indexOf_l14 p1 N) (0, 0, 0, 0) = some (oix (ix (seg f 0 n) (ext G n n 0 10)), N) := by
  have hpw := pow_lt hn
  obtain ⟨r, e1, e2⟩ := tr_loop_inv (step := mX4_indexOf_l14 p1 N) (s0 := (0, 0, 0, 0)) (fun i t => ∃ idx, t = (nI idx, nI (pre f i), nI (lx f i), nI i) ∧ ix (seg f 0 n) (ext G n n 0 10) = (ix (seg f i (n - i)) (ext G n (n - i) (pre f i) (la f i))).map (· + idx)) (fun r => r = (oix (ix (seg f 0 n) (ext G n n 0 10)), N)) n (by omega) ⟨0, rfl, by
      show ix (seg f 0 n) (ext G n n 0 10) = (ix (seg f 0 n) (ext G n n 0 10)).map (· + 0)
      cases ix (seg f 0 n) (ext G n n 0 10) <;> rfl⟩ (by
    rintro i t hi ⟨idx, rfl, hidx⟩
    have hfi := hf.1 i hi
    have hpl := pre_lt hf (show i ≤ n by omega)
    obtain ⟨hst, hls⟩ := St_pre hf hn (show i ≤ n by omega)
    have hlf := lft_pre hf (show i ≤ n by omega)
    have hk1 : lft n (pre f i) = n - (i + 1) + 1 := by omega
    have hb := nxb_lt G (pre f i) (la f i)
    rw [show n - i = n - (i + 1) + 1 by omega, show seg f i (n - (i + 1) + 1) = f i :: seg f (i + 1) (n - (i + 1)) from rfl, ix_ext hfi] at hidx
    unfold mX4_indexOf_l14
    dsimp only
    have c1 : nI i < nI n := (nlt (by omega) (by omega)).mpr hi
    rw [hw, if_pos c1, nextIn_eq hn hL hst, hls, Option.bind_some, tr_rd_nI (by omega) hl2, Option.bind_some, hc i hi]
    simp (disch := omega) only [bit_eq0]
    rw [nxb_bit]
    cases qg : G (pre f i) (la f i) (f i) with
    | false =>
      right
      rw [if_pos (by simp)]
      refine ⟨_, rfl, ?_⟩
      rw [qg, if_neg (by decide)] at hidx
      rw [hidx]
      rfl
    | true =>
      left
      rw [if_neg (by simp [show f i < 10 by omega])]
      have inner : tr_loop (mX4_indexOf_l57 N (nI idx, nI (pre f i), nI (lx f i), nI i) (nI (nxb G (pre f i) (la f i))) (nI (f i))) (nI idx, 0) = some (nI (idx + sm (f i) (wy G n (n - (i + 1)) (pre f i) (la f i)))) := by
        refine tr_loop_seq' (fun y => (nI (idx + sm y (wy G n (n - (i + 1)) (pre f i) (la f i))), nI y)) (f i) rfl (by omega) (fun y hy => ?_) ?_
        · unfold mX4_indexOf_l57
          dsimp only
          have c2 : nI y < nI (f i) := (nlt (by omega) (by omega)).mpr hy
          have hsy : sm (y + 1) (wy G n (n - (i + 1)) (pre f i) (la f i)) = sm y (wy G n (n - (i + 1)) (pre f i) (la f i)) + wy G n (n - (i + 1)) (pre f i) (la f i) y := rfl
          have hwy := wy_nm (l := la f i) hG hk1 (show y < n by omega)
          rw [if_pos c2]
          simp (disch := omega) only [bit_eq0]
          rw [nxb_bit]
          cases qy : G (pre f i) (la f i) y with
          | false =>
            rw [qy, if_neg (by decide)] at hwy
            rw [if_pos (by simp), nadd1, hsy, hwy]
            rfl
          | true =>
            rw [qy, if_pos rfl] at hwy
            rw [if_neg (by simp [show y < 10 by omega]), num_eq hn hL hpl (by omega), Option.bind_some, nadd, nadd1, hsy, hwy, Nat.add_assoc]
        · unfold mX4_indexOf_l57
          dsimp only
          have c2 : ¬ nI (f i) < nI (f i) := by rw [nlt (by omega) (by omega)]; omega
          rw [if_neg c2]
      rw [inner]
      dsimp only [Option.bind_some]
      rw [ins_nI (by omega), nadd1]
      refine ⟨_, rfl, idx + sm (f i) (wy G n (n - (i + 1)) (pre f i) (la f i)), rfl, ?_⟩
      rw [hidx, qg, if_pos rfl]
      show _ = (ix (seg f (i + 1) (n - (i + 1))) (ext G n (n - (i + 1)) (ins (pre f i) (f i)) (f i))).map (· + (idx + sm (f i) (wy G n (n - (i + 1)) (pre f i) (la f i))))
      cases ix (seg f (i + 1) (n - (i + 1))) (ext G n (n - (i + 1)) (ins (pre f i) (f i)) (f i)) with
      | none => rfl
      | some j =>
        show some (j + sm (f i) _ + idx) = some (j + (idx + sm (f i) _))
        congr 1
        omega) (by
    rintro t ⟨idx, rfl, hidx⟩
    have c1 : ¬ nI n < nI n := by rw [nlt (by omega) (by omega)]; omega
    refine ⟨_, ?_, rfl⟩
    unfold mX4_indexOf_l14
    dsimp only
    have h0 : ix ([] : List Nat) [[]] = some 0 := by
      unfold ix
      rw [if_pos rfl]
    rw [hw, if_neg c1, hidx, Nat.sub_self, show ix (seg f n 0) (ext G n 0 (pre f n) (la f n)) = some 0 from h0]
    show _ = some (Sum.inr (nI (0 + idx), N))
    rw [Nat.zero_add])
  rw [e1, e2]
