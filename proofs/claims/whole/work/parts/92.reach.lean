/-! ===== E: the walk ===== -/
theorem sm_ord {n : Nat} {f : Nat → Nat} (hf : Ord n f) (F : Nat → Nat) : ∀ i, i ≤ n → sm i (fun q => F (f q)) = sm n (fun b => if (pre f i).testBit b = true then F b else 0)
  | 0, _ => by
    show 0 = _
    rw [sm_congr (g := fun _ => 0) (fun b _ => by show (if (0 : Nat).testBit b = true then _ else _) = _; rw [Nat.zero_testBit]; rfl), sm_0]
  | i + 1, h => by
    have ih := sm_ord hf F i (by omega)
    have hfi := hf.1 i (by omega)
    have hnew := pre_new hf (show i < n by omega)
    have e := sm_up (f := fun b => if (pre f i).testBit b = true then F b else 0) (b := f i) (v := F (f i)) hfi
    rw [if_neg (by rw [hnew]; decide), Nat.add_zero] at e
    show sm i (fun q => F (f q)) + F (f i) = _
    rw [ih, ← e]
    refine sm_congr fun b hb => ?_
    show _ = if (ins (pre f i) (f i)).testBit b = true then F b else 0
    rw [ins_bit]
    by_cases c : b = f i
    · rw [if_pos c, c]
      simp
    · rw [if_neg c]
      have : ¬ f i = b := fun e => c e.symm
      simp [this]
theorem sm_perm {n : Nat} {f : Nat → Nat} (hf : Ord n f) (F : Nat → Nat) : sm n (fun q => F (f q)) = sm n F := by
  rw [sm_ord hf F n (Nat.le_refl n), pre_full hf]
  refine sm_congr fun b hb => ?_
  rw [full_bit, if_pos (by simp [hb])]
theorem sm_range (j c : Nat) : ∀ n, sm n (fun q => if j < q ∧ q < j + c then 1 else 0) ≤ min n (j + c) - (j + 1)
  | 0 => Nat.zero_le _
  | n + 1 => by
    have ih := sm_range j c n
    show sm n _ + (if j < n ∧ n < j + c then 1 else 0) ≤ _
    by_cases d : j < n ∧ n < j + c
    · rw [if_pos d]
      omega
    · rw [if_neg d]
      omega
theorem sf_pre {f : Nat → Nat} {y : Nat} {k : Nat} : ∀ {n : Nat}, k ≤ n → sf f y n < k → sf f y k = sf f y n
  | 0, h, h2 => by omega
  | n + 1, h, h2 => by
    by_cases e : k = n + 1
    · rw [e]
    · unfold sf at h2 ⊢
      by_cases c : f n = y
      · rw [if_pos c] at h2; omega
      · rw [if_neg c] at h2
        have := sf_pre (n := n) (by omega) h2
        rw [if_neg c, ← this]
        cases k with
        | zero => omega
        | succ k => rfl
/-- how long a tie across the gap behind place j gets at least -/
def ral (w : Wd) (f : Nat → Nat) (j : Nat) : Nat := mxf w.1 (fun y => if (pre f (j + 1)).testBit y = true ∧ ndf (tied w y) (pre f (j + 1)) ≠ 0 then j + cnt 10 (ndf (tied w y) (pre f (j + 1))) - sf f y (j + 1) else 0)
theorem mxf_ge {f : Nat → Nat} {n i : Nat} (hi : i < n) : f i ≤ mxf n f := mxf_le.mp (Nat.le_refl _) i hi
theorem ral_le {w : Wd} (hok : WOk w) {f : Nat → Nat} (hf : Ord w.1 f) {j : Nat} (hj : j < w.1) : ral w f j ≤ longN w f := by
  have hn := hok.1
  unfold ral
  rw [mxf_le]
  intro y hy
  by_cases c : (pre f (j + 1)).testBit y = true ∧ ndf (tied w y) (pre f (j + 1)) ≠ 0
  · rw [if_pos c]
    obtain ⟨c1, c2⟩ := c
    have hsy : sf f y w.1 < j + 1 := by
      rw [pre_sf hf hy (show j + 1 ≤ w.1 by omega)] at c1
      exact of_decide_eq_true c1
    rw [sf_pre (show j + 1 ≤ w.1 by omega) hsy]
    generalize hW : ndf (tied w y) (pre f (j + 1)) = W at c2 ⊢
    have hWb : ∀ b, W.testBit b = true → b < w.1 ∧ 0 < w.2.1 y b ∧ (pre f (j + 1)).testBit b = false := fun b hb => by
      rw [← hW, ndf_bit, tied_bit] at hb
      simp only [Bool.and_eq_true, decide_eq_true_eq, Bool.not_eq_true'] at hb
      refine ⟨?_, hb.1.2, hb.2⟩
      refine Nat.lt_of_not_le fun h => ?_
      have := hb.1.2
      rw [hok.2.2.1 y b, hok.2.2.2.1 b y (Or.inl h)] at this
      omega
    have hc10 : cnt 10 W = cnt w.1 W := cnt_10 hn fun b hb => by
      cases h : W.testBit b with
      | false => rfl
      | true => have := (hWb b h).1; omega
    have ex : ∃ b, W.testBit b = true ∧ j + cnt 10 W ≤ sf f b w.1 := by
      refine Classical.byContradiction fun hno => ?_
      have hall : ∀ b, W.testBit b = true → sf f b w.1 < j + cnt 10 W := fun b hb => Nat.lt_of_not_le fun h => hno ⟨b, hb, h⟩
      have h1 : cnt 10 W ≤ sm w.1 (fun q => if j < q ∧ q < j + cnt 10 W then 1 else 0) := by
        conv => lhs; rw [hc10, cnt_sm, ← sm_perm hf]
        refine sm_mono fun q hq => ?_
        by_cases d : W.testBit (f q) = true
        · rw [if_pos d]
          have hb := hWb _ d
          have hq2 := (sf_iff hf hb.1 hq).mp rfl
          have hlt := hall _ d
          rw [if_pos]
          · exact Nat.le_refl _
          · refine ⟨Nat.lt_of_not_le fun h => ?_, by omega⟩
            have := (pre_bit f (f q) (j + 1)).mpr ⟨q, by omega, rfl⟩
            rw [hb.2.2] at this
            cases this
        · rw [if_neg d]; exact Nat.zero_le _
      have h2 := sm_range j (cnt 10 W) w.1
      have h3 : 0 < cnt 10 W := by
        rw [hc10, cnt_sm]
        refine Nat.pos_of_ne_zero fun z => c2 (Nat.eq_of_testBit_eq fun b => ?_)
        rw [Nat.zero_testBit]
        cases h : W.testBit b with
        | false => rfl
        | true =>
          have := sm_eq0 z b (hWb b h).1
          rw [if_pos h] at this
          omega
      omega
    obtain ⟨b, hb1, hb2⟩ := ex
    obtain ⟨g1, g2, g3⟩ := hWb b hb1
    rw [long_iff hok hf]
    refine Nat.le_trans ?_ (mxf_ge (f := fun a => mxf w.1 (fun b => if 0 < w.2.1 a b then sf f a w.1 - sf f b w.1 else 0)) g1)
    refine Nat.le_trans ?_ (mxf_ge (f := fun y => if 0 < w.2.1 b y then sf f b w.1 - sf f y w.1 else 0) hy)
    show _ ≤ if 0 < w.2.1 b y then sf f b w.1 - sf f y w.1 else 0
    rw [if_pos (by rw [hok.2.2.1]; exact g2)]
    omega
  · rw [if_neg c]; exact Nat.zero_le _
theorem long_le {w : Wd} (hok : WOk w) {f : Nat → Nat} (hf : Ord w.1 f) : longN w f ≤ mxf w.1 (ral w f) := by
  have hn := hok.1
  unfold longN
  rw [mxf_le]
  intro i hi
  rw [mxf_le]
  intro j hj
  by_cases c : 0 < w.2.1 (f i) (f j)
  · rw [if_pos c]
    by_cases d : i < j
    · refine Nat.le_trans ?_ (mxf_ge (f := ral w f) (show j - 1 < w.1 by omega))
      have hfi := hf.1 i hi
      have hfj := hf.1 j hj
      unfold ral
      refine Nat.le_trans ?_ (mxf_ge hfi)
      rw [show j - 1 + 1 = j by omega]
      have hnew := pre_new hf hj
      have hb : (ndf (tied w (f i)) (pre f j)).testBit (f j) = true := by
        rw [ndf_bit, tied_bit, hnew]
        simp [c, show f j < 10 by omega]
      have hin : (pre f j).testBit (f i) = true := (pre_bit f (f i) j).mpr ⟨i, d, rfl⟩
      have hsi := (sf_iff hf hfi hi).mp rfl
      rw [if_pos ⟨hin, fun z => by rw [z, Nat.zero_testBit] at hb; cases hb⟩, sf_pre (show j ≤ w.1 by omega) (by omega), ← hsi]
      have h3 : 0 < cnt 10 (ndf (tied w (f i)) (pre f j)) := by
        rw [cnt_sm]
        refine Nat.pos_of_ne_zero fun z => ?_
        have := sm_eq0 z (f j) (by omega)
        rw [if_pos hb] at this
        omega
      omega
    · omega
  · rw [if_neg c]; exact Nat.zero_le _
theorem long_ral {w : Wd} (hok : WOk w) {f : Nat → Nat} (hf : Ord w.1 f) : mxf w.1 (ral w f) = longN w f := Nat.le_antisymm (mxf_le.mpr fun j hj => ral_le hok hf hj) (long_le hok hf)
theorem ral_cg {w : Wd} {f g : Nat → Nat} {j : Nat} (h : ∀ i, i ≤ j → f i = g i) : ral w f j = ral w g j := by
  unfold ral
  rw [pre_congr (f := f) (g := g) (fun i hi => h i (by omega))]
  refine mxf_congr fun y hy => ?_
  rw [sf_cg (fun i hi => h i (by omega))]
