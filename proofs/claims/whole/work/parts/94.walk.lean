theorem seg_snoc (f : Nat → Nat) : ∀ k i, seg f i (k + 1) = seg f i k ++ [f (i + k)]
  | 0, i => rfl
  | k + 1, i => by
    show f i :: seg f (i + 1) (k + 1) = (f i :: seg f (i + 1) k) ++ [f (i + (k + 1))]
    rw [seg_snoc f k (i + 1), List.cons_append, show i + 1 + k = i + (k + 1) by omega]
/-- the beginning of an order -/
def PO (n : Nat) (f : Nat → Nat) (i : Nat) : Prop := (∀ j, j < i → f j < n) ∧ ∀ a b, a < i → b < i → f a = f b → a = b
def wput (f : Nat → Nat) (i x : Nat) : Nat → Nat := fun j => if j = i then x else f j
theorem wput_s (f : Nat → Nat) (i x : Nat) : wput f i x i = x := if_pos rfl
theorem wput_o {f : Nat → Nat} {i x j : Nat} (h : j < i) : wput f i x j = f j := if_neg (by omega)
theorem wput_pre (f : Nat → Nat) (i x : Nat) : pre (wput f i x) (i + 1) = ins (pre f i) x := by
  show ins (pre (wput f i x) i) (wput f i x i) = _
  rw [wput_s, pre_congr (fun j hj => wput_o hj)]
theorem wput_seg (f : Nat → Nat) (i x : Nat) : seg (wput f i x) 0 (i + 1) = seg f 0 i ++ [x] := by
  rw [seg_snoc, Nat.zero_add, wput_s, seg_congr (fun j _ hj => wput_o (by omega))]
theorem wput_PO {n : Nat} {f : Nat → Nat} {i x : Nat} (h : PO n f i) (hx : x < n) (hnew : (pre f i).testBit x = false) : PO n (wput f i x) (i + 1) := by
  have hne : ∀ a, a < i → f a ≠ x := fun a ha e => by
    have := (pre_bit f x i).mpr ⟨a, ha, e⟩
    rw [hnew] at this
    cases this
  refine ⟨fun j hj => ?_, fun a b ha hb e => ?_⟩
  · by_cases c : j = i
    · rw [c, wput_s]; exact hx
    · rw [wput_o (by omega)]; exact h.1 j (by omega)
  · by_cases c : a = i
    · by_cases d : b = i
      · omega
      · rw [c, wput_s, wput_o (by omega)] at e
        exact absurd e.symm (hne b (by omega))
    · by_cases d : b = i
      · rw [d, wput_s, wput_o (by omega)] at e
        exact absurd e (hne a (by omega))
      · rw [wput_o (by omega), wput_o (by omega)] at e
        exact h.2 a b (by omega) (by omega) e
theorem PO_ext {n : Nat} {G : Rl} (hG : Fresh G n) : ∀ k i f q, PO n f i → i + k = n → q ∈ ext G n k (pre f i) (la f i) → ∃ g, Ord n g ∧ seg f 0 i ++ q = seg g 0 n ∧ ∀ j, j < i → g j = f j
  | 0, i, f, q, h, hi, hq => by
    have : q = [] := by
      have := ext_len hq
      exact List.eq_nil_of_length_eq_zero this
    have hin : i = n := by omega
    subst hin
    rw [this, List.append_nil]
    exact ⟨f, h, rfl, fun _ _ => rfl⟩
  | k + 1, i, f, q, h, hi, hq => by
    have hl := ext_len hq
    cases q with
    | nil => cases hl
    | cons x q =>
      obtain ⟨h1, h2, h3⟩ := ext_cons.mp hq
      have hnew := (hG _ _ _ h2).2
      have hp := wput_PO h h1 hnew
      obtain ⟨g, g1, g2, g3⟩ := PO_ext hG k (i + 1) (wput f i x) q hp (by omega) (by
        rw [wput_pre, show la (wput f i x) (i + 1) = x by unfold la; rw [if_neg (by omega)]; exact wput_s f i x]
        exact h3)
      refine ⟨g, g1, ?_, fun j hj => ?_⟩
      · rw [← g2, wput_seg, List.append_assoc]
        rfl
      · rw [g3 j (by omega), wput_o hj]
theorem reachAtLeast_eq {w : Wd} {f : Nat → Nat} {i : Nat} {M : tr_M} (hok : WOk w) (hw : CWd w 26 M) (hi : i < 10) (hs : pre f (i + 1) < 1024) (hst : ∀ y, (pre f (i + 1)).testBit y = true → M.1 55 y = nI (sf f y (i + 1))) : mX2_reachAtLeast (nI (pre f (i + 1))) (nI i) M = some (nI (ral w f i)) := by
  have hn := hok.1
  unfold mX2_reachAtLeast ral
  have hb : ∀ y, i + cnt 10 (ndf (tied w y) (pre f (i + 1))) - sf f y (i + 1) ≤ 20 := fun y => by
    have := cnt_le (ndf (tied w y) (pre f (i + 1))) 10
    omega
  have hm : ∀ k, mxf k (fun y => if (pre f (i + 1)).testBit y = true ∧ ndf (tied w y) (pre f (i + 1)) ≠ 0 then i + cnt 10 (ndf (tied w y) (pre f (i + 1))) - sf f y (i + 1) else 0) ≤ 20 := fun k => mxf_le.mpr fun y _ => by
    split
    · exact hb y
    · omega
  refine tr_loop_seq' (fun y => (nI (mxf y (fun y => if (pre f (i + 1)).testBit y = true ∧ ndf (tied w y) (pre f (i + 1)) ≠ 0 then i + cnt 10 (ndf (tied w y) (pre f (i + 1))) - sf f y (i + 1) else 0)), nI y)) w.1 rfl (by omega) (fun y hy => ?_) ?_
  · unfold mX2_reachAtLeast_l5
    dsimp only
    have ht : M.1 38 y = nI (tied w y) := hw.2.2.2.2.1 y (by omega)
    have htl := tied_lt w y
    have hnl := ndf_le (tied w y) (pre f (i + 1))
    have h0 := hm y
    rw [hw.1, if_pos ((nlt (by omega) (by omega)).mpr hy), tr_rd_nI (by omega) (by decide), Option.bind_some, ht, ndf_nI, nadd1]
    simp (disch := omega) only [bit_eq0]
    show _ = some (Sum.inl (nI (max (mxf y _) (if (pre f (i + 1)).testBit y = true ∧ ndf (tied w y) (pre f (i + 1)) ≠ 0 then i + cnt 10 (ndf (tied w y) (pre f (i + 1))) - sf f y (i + 1) else 0)), nI (y + 1)))
    cases b : (pre f (i + 1)).testBit y with
    | false =>
      rw [if_pos rfl, if_neg (by rintro ⟨q, -⟩; cases q), Nat.max_eq_left (Nat.zero_le _)]
    | true =>
      rw [if_neg (by decide), show (0 : Int32) = nI 0 from rfl]
      simp (disch := omega) only [neq]
      by_cases z : ndf (tied w y) (pre f (i + 1)) = 0
      · rw [if_pos z, if_neg (fun q => q.2 z), Nat.max_eq_left (Nat.zero_le _)]
      · have hsy : sf f y (i + 1) < i + 1 := (sf_get ((pre_bit f y (i + 1)).mp b)).2
        have hby := hb y
        rw [if_neg z, if_pos ⟨trivial, z⟩, bitCount_eq (by omega)]
        show Option.bind (some (nI (cnt 10 (ndf (tied w y) (pre f (i + 1)))))) _ = _
        rw [Option.bind_some, tr_rd_nI (by omega) (by decide), Option.bind_some, hst y b, nadd, nsub (by omega), nmax _ _ (by omega) (by omega)]
  · unfold mX2_reachAtLeast_l5
    dsimp only
    rw [hw.1, if_neg (by rw [nlt (by omega) (by omega)]; omega)]
def KW (M N : tr_M) : Prop := (∀ c, c ≠ 24 → c ≠ 54 → c ≠ 55 → N.1 c = M.1 c) ∧ (∀ k, k ≠ 3 → k ≠ 4 → N.1 24 k = M.1 24 k) ∧ N.2 = M.2
theorem KW.rf {M : tr_M} : KW M M := ⟨fun _ _ _ _ => rfl, fun _ _ _ => rfl, rfl⟩
theorem KW.tr {M N P : tr_M} (h : KW M N) (g : KW N P) : KW M P := ⟨fun c a b d => (g.1 c a b d).trans (h.1 c a b d), fun k a b => (g.2.1 k a b).trans (h.2.1 k a b), g.2.2.trans h.2.2⟩
theorem KW.st {M : tr_M} {x : Nat} {v : Int32} : KW M (tr_st M 55 x v) := ⟨fun c _ _ h => tr_st_ne h, fun k _ _ => by rw [tr_st_ne (by decide)], rfl⟩
theorem PO_lt {n : Nat} {f : Nat → Nat} {i : Nat} (h : PO n f i) : pre f i < 2 ^ n := pre_lt' h.1
theorem PO_St {n : Nat} {f : Nat → Nat} {i : Nat} (h : PO n f i) : St n (pre f i) (lx f i) ∧ ls (pre f i) (lx f i) = la f i := by
  unfold lx la
  cases i with
  | zero => exact ⟨⟨Nat.two_pow_pos n, Or.inl ⟨rfl, rfl⟩⟩, rfl⟩
  | succ i =>
    have := St_ins (n := n) (s := pre f i) (x := f i) (pre_lt' fun j hj => h.1 j (by omega)) (h.1 i (by omega))
    rw [if_neg (by omega), if_neg (by omega)]
    exact this
theorem pk_small {n : Nat} {f : Nat → Nat} {i : Nat} (h : PO n f i) (h8 : n ≤ 8) (hi : i ≤ 8) : pk 0 (seg f 0 i) < 16777216 := by
  have := pck_lt 0 (seg f 0 i) (fun x hx => by
    obtain ⟨j, hj⟩ := List.mem_iff_getElem?.mp hx
    have hl := (List.getElem?_eq_some_iff.mp hj).1
    rw [seg_len] at hl
    have e : (seg f 0 i).getD j 0 = x := by rw [List.getD_eq_getElem?_getD, hj]; rfl
    rw [seg_get f hl, Nat.zero_add] at e
    have := h.1 j hl
    omega)
  rw [seg_len, Nat.zero_add, Nat.one_mul] at this
  have h2 : 8 ^ i ≤ 8 ^ 8 := Nat.pow_le_pow_right (by decide) hi
  have h3 : 8 ^ 8 = 16777216 := by decide
  omega
