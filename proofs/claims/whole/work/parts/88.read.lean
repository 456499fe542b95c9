/-! ===== texts read as worlds: signs ===== -/
def KB (M N : tr_M) : Prop := (∀ c, c < 4 ∨ 23 < c → N.1 c = M.1 c) ∧ N.2 = M.2
def KMB (M N : tr_M) : Prop := (∀ c, c ≠ 1 → c ≠ 10 → c ≠ 11 → N.1 c = M.1 c) ∧ (∀ k, k < 14 ∨ 17 < k → N.1 1 k = M.1 1 k) ∧ N.2 = M.2
theorem KB.rf {M : tr_M} : KB M M := ⟨fun _ _ => rfl, rfl⟩
theorem KMB.rf {M : tr_M} : KMB M M := ⟨fun _ _ _ _ => rfl, fun _ _ => rfl, rfl⟩
theorem KB.tr {M N P : tr_M} (h : KB M N) (g : KB N P) : KB M P := ⟨fun c hc => (g.1 c hc).trans (h.1 c hc), g.2.trans h.2⟩
theorem KMB.tr {M N P : tr_M} (h : KMB M N) (g : KMB N P) : KMB M P := ⟨fun c a b d => (g.1 c a b d).trans (h.1 c a b d), fun k hk => (g.2.1 k hk).trans (h.2.1 k hk), g.2.2.trans h.2.2⟩
theorem KB.st {M : tr_M} {a k : Nat} {v : Int32} (h : 4 ≤ a ∧ a ≤ 23) : KB M (tr_st M a k v) := ⟨fun c hc => tr_st_ne (by omega), rfl⟩
theorem KMB.st {M : tr_M} {k : Nat} {v : Int32} (h : 14 ≤ k ∧ k ≤ 17) : KMB M (tr_st M 1 k v) := ⟨fun c h1 _ _ => tr_st_ne h1, fun j hj => tr_st_j (by omega), rfl⟩
theorem KMB.st2 {M : tr_M} {a k : Nat} {v : Int32} (h : a = 10 ∨ a = 11) : KMB M (tr_st M a k v) := ⟨fun c _ h1 h2 => tr_st_ne (by omega), fun j hj => by rw [tr_st_ne (by omega)], rfl⟩
/-- a text on both sides -/
def TX (t s : Nat) (b : Nat → Int32) (M1 M2 : tr_M) : Prop := t < 4 ∧ s ≤ 120 ∧ M1.1 (74 + 2 * t) 1 = nI s ∧ (∀ i, i < s → M1.1 (74 + 2 * t + 1) i = b i) ∧ M2.1 6 t = nI s ∧ ∀ i, i < s → M2.1 7 (120 * t + i) = b i
theorem TX.kb {t s : Nat} {b : Nat → Int32} {M1 M2 N1 N2 : tr_M} (h : TX t s b M1 M2) (h1 : KB M1 N1) (h2 : KMB M2 N2) : TX t s b N1 N2 := by
  obtain ⟨a1, a2, a3, a4, a5, a6⟩ := h
  refine ⟨a1, a2, ?_, fun i hi => ?_, ?_, fun i hi => ?_⟩
  · rw [h1.1 _ (by omega)]; exact a3
  · rw [h1.1 _ (by omega)]; exact a4 i hi
  · rw [h2.1 6 (by decide) (by decide) (by decide)]; exact a5
  · rw [h2.1 7 (by decide) (by decide) (by decide)]; exact a6 i hi
def CR (t p : Nat) (N : tr_M) : Prop := N.1 4 1 = nI (74 + 2 * t) ∧ N.1 4 2 = nI p
theorem isL_text {t : Nat} (h : t < 4) : tr_isL (74 + 2 * t) = true := by
  unfold tr_isL
  rw [decide_eq_true_eq]
  omega
theorem sign_eq {t s p : Nat} {b : Nat → Int32} {N1 N2 : tr_M} (h : TX t s b N1 N2) (hc : CR t p N1) (hp : p ≤ 200) : mX3_sign N1 = some (if p < s then b p else -9) := by
  obtain ⟨a1, a2, a3, a4, a5, a6⟩ := h
  unfold mX3_sign
  rw [hc.1, nI_clamp (by omega), isL_text a1, hc.2, a3]
  simp (disch := omega) only [tr_gd, if_true, Option.bind_some, nlt]
  by_cases c : p < s
  · rw [if_pos c, if_pos c, len_text a1, tr_rd_nI (by omega) (by decide), a4 p c]
    rfl
  · rw [if_neg c, if_neg c]
theorem byte_eq {t s p : Nat} {b : Nat → Int32} {N1 N2 : tr_M} (h : TX t s b N1 N2) (hp : p ≤ 200) : mX7_byteAt (nI t) (nI p) N2 = some (if p < s then b p else 0) := by
  obtain ⟨a1, a2, a3, a4, a5, a6⟩ := h
  unfold mX7_byteAt
  rw [tr_rd_nI a1 (by decide), Option.bind_some, a5]
  simp (disch := omega) only [nlt]
  by_cases c : p < s
  · rw [if_pos c, if_pos c, show (120 : Int32) * nI t + nI p = nI (120 * t + p) by rw [show (120 : Int32) = nI 120 from rfl, nmul, nadd], tr_rd_nI (by omega) (by decide), a6 p c]
    rfl
  · rw [if_neg c, if_neg c]
theorem sub_nI {c : Int32} {k a : Nat} (h : c - nI a = nI k) : c = nI (a + k) := by
  rw [← nadd, Int32.add_comm, ← h, Int32.sub_add_cancel]
theorem fig_no {c : Int32} (h : ¬ ∃ v, v ≤ 9 ∧ c = nI (48 + v)) : (c < 48 ∨ 57 < c) ∧ mX7_in (c - 48) 0 9 = 0 := by
  constructor
  · rcases n_cases c with hneg | ⟨k, hk, rfl⟩
    · exact Or.inl (n_lt_neg hneg (k := 48) (by decide)).1
    · rw [show (48 : Int32) = nI 48 from rfl, show (57 : Int32) = nI 57 from rfl, nlt hk (by decide), nlt (by decide) hk]
      by_cases z : k < 48
      · exact Or.inl z
      · by_cases y : 57 < k
        · exact Or.inr y
        · exact absurd ⟨k - 48, by omega, by rw [show 48 + (k - 48) = k by omega]⟩ h
  · unfold mX7_in
    rcases n_cases (c - 48) with hneg | ⟨k, hk, ek⟩
    · rw [if_pos hneg]
    · rw [ek, if_neg (nI_pos hk), if_pos]
      rw [show (9 : Int32) = nI 9 from rfl, nlt (by decide) hk]
      exact Nat.lt_of_not_le fun z => h ⟨k, z, sub_nI (a := 48) ek⟩
theorem fig_yes {v : Nat} (h : v ≤ 9) : ¬ nI (48 + v) < 48 ∧ ¬ 57 < nI (48 + v) ∧ nI (48 + v) - 48 = nI v ∧ mX7_in (nI v) 0 9 = 1 := by
  refine ⟨?_, ?_, ?_, ?_⟩
  · rw [show (48 : Int32) = nI 48 from rfl, nlt (by omega) (by decide)]; omega
  · rw [show (57 : Int32) = nI 57 from rfl, nlt (by decide) (by omega)]; omega
  · rw [show (48 : Int32) = nI 48 from rfl, nsub (by omega), Nat.add_sub_cancel_left]
  · unfold mX7_in
    rw [if_neg (nI_pos (by omega)), if_neg]
    rw [show (9 : Int32) = nI 9 from rfl, nlt (by decide) (by omega)]
    omega
/-- a figure comes, on both sides, or not -/
theorem fig_both {t s p : Nat} {b : Nat → Int32} {N1 N2 : tr_M} (h : TX t s b N1 N2) (hc : CR t p N1) (hm : N2.1 1 14 = nI p) (hp : p ≤ 200) : (∃ v, v ≤ 9 ∧ p < s ∧ mX3_isFigure N1 = some 1 ∧ mX3_takeFigure N1 = some (nI v, tr_st N1 4 2 (nI (p + 1))) ∧ mX7_figure (nI t) N2 = some (1, tr_st (tr_st N2 1 15 (nI v)) 1 14 (nI (p + 1))) ∧ b p = nI (48 + v)) ∨ (mX3_isFigure N1 = some 0 ∧ (∃ x, mX7_figure (nI t) N2 = some (0, tr_st (tr_st N2 1 15 x) 1 14 (nI p))) ∧ (p < s → ¬ ∃ v, v ≤ 9 ∧ b p = nI (48 + v))) := by
  have e1 := sign_eq h hc hp
  have e2 := byte_eq h hp
  unfold mX3_isFigure mX3_takeFigure mX7_figure
  rw [hm, e1, e2]
  simp only [Option.bind_some]
  by_cases c : p < s
  · rw [if_pos c, if_pos c]
    by_cases q : ∃ v, v ≤ 9 ∧ b p = nI (48 + v)
    · left
      obtain ⟨v, hv, ev⟩ := q
      obtain ⟨f1, f2, f3, f4⟩ := fig_yes hv
      refine ⟨v, hv, c, ?_, ?_, ?_, ev⟩
      · rw [ev, if_neg f1, if_neg f2]
      · rw [ev, f3, hc.2, nadd1]
      · rw [ev, f3, tr_st_s, f4, if_neg (by decide), tr_st_j (by decide), hm, nadd1]
        rfl
    · right
      obtain ⟨f1, f2⟩ := fig_no q
      refine ⟨?_, ⟨b p - 48, ?_⟩, fun _ => q⟩
      · by_cases z : b p < 48
        · rw [if_pos z]
        · rw [if_neg z, if_pos (f1.resolve_left z)]
      · rw [tr_st_s, f2, if_pos rfl, tr_st_j (by decide), hm, n00, nadd]
        rfl
  · right
    rw [if_neg c, if_neg c]
    refine ⟨by rw [if_pos (by decide)], ⟨0 - 48, ?_⟩, fun z => absurd z c⟩
    rw [tr_st_s, if_pos (show mX7_in (0 - 48) 0 9 = 0 by decide), tr_st_j (by decide), hm, n00, nadd]
    rfl
/-- a thing comes, on both sides, or not -/
theorem thg_both {t s p n : Nat} {b : Nat → Int32} {N1 N2 : tr_M} (h : TX t s b N1 N2) (hc : CR t p N1) (hm : N2.1 1 14 = nI p) (hp : p ≤ 200) (hn : n ≤ 10) (hw : N1.1 5 0 = nI n) (hw2 : N2.1 1 16 = nI n) (e1 e2 f1 f2 : Int32) (he1 : ∀ v, v < n → (nI v = e1 ↔ nI v = f1)) (he2 : ∀ v, v < n → (nI v = e2 ↔ nI v = f2)) : (∃ v, v < n ∧ p < s ∧ nI v ≠ e1 ∧ nI v ≠ e2 ∧ mX3_isThingBut e1 e2 N1 = some 1 ∧ mX3_takeThing N1 = some (nI v, tr_st N1 4 2 (nI (p + 1))) ∧ mX7_thing (nI t) f1 f2 N2 = some (1, tr_st (tr_st N2 1 15 (nI v)) 1 14 (nI (p + 1))) ∧ b p = nI (65 + v)) ∨ (mX3_isThingBut e1 e2 N1 = some 0 ∧ (∃ x, mX7_thing (nI t) f1 f2 N2 = some (0, tr_st (tr_st N2 1 15 x) 1 14 (nI p))) ∧ (p < s → ¬ ∃ v, v < n ∧ b p = nI (65 + v) ∧ nI v ≠ e1 ∧ nI v ≠ e2)) := by
  have g1 := sign_eq h hc hp
  have g2 := byte_eq h hp
  unfold mX3_isThingBut mX3_takeThing mX7_thing
  rw [hm, g1, g2]
  simp only [Option.bind_some]
  have key : ∀ c : Int32, (∃ v, v < n ∧ c = nI (65 + v) ∧ c - 65 = nI v ∧ mX5_isThing 5 (c - 65) N1 = 1 ∧ mX7_in (c - 65) 0 (nI n - 1) = 1) ∨ ((¬ ∃ v, v < n ∧ c = nI (65 + v)) ∧ mX5_isThing 5 (c - 65) N1 = 0 ∧ mX7_in (c - 65) 0 (nI n - 1) = 0) := fun c => by
    rcases in_cases (c - 65) (show n < 1000 by omega) with ⟨i1, i2⟩ | ⟨v, hv, i3, i1⟩
    · right
      refine ⟨fun ⟨v, hv, ev⟩ => ?_, isThing_c hn hw i2, i1⟩
      have : c - 65 = nI v := by rw [ev, show (65 : Int32) = nI 65 from rfl, nsub (by omega), Nat.add_sub_cancel_left]
      rw [this] at i2
      rcases i2 with i2 | i2
      · exact nI_pos (by omega) i2
      · rw [nlt (by omega) (by omega)] at i2; exact i2 hv
    · left
      refine ⟨v, hv, sub_nI (a := 65) i3, i3, ?_, i1⟩
      rw [i3]; exact isThing_c1 hn hw hv
  have hM16 : ∀ x, (tr_st N2 1 15 x).1 1 16 = nI n := fun x => by rw [tr_st_j (by decide)]; exact hw2
  by_cases c : p < s
  · rw [if_pos c, if_pos c]
    rcases key (b p) with ⟨v, hv, ev, k1, k2, k3⟩ | ⟨k0, k2, k3⟩
    · rw [k2, k1]
      simp only [if_neg (show ¬ (1 : Int32) = 0 by decide), tr_st_s, hM16]
      rw [k1] at k3
      rw [k3]
      simp only [if_neg (show ¬ (1 : Int32) = 0 by decide)]
      have hbp : ∀ u, u < n → b p = nI (65 + u) → u = v := fun u hu eu => by
        rw [ev, neq (by omega) (by omega)] at eu
        omega
      by_cases z1 : nI v = e1
      · right
        simp only [if_pos z1, if_pos ((he1 v hv).mp z1), Option.bind_some, if_true]
        refine ⟨trivial, ⟨nI v, ?_⟩, fun _ ⟨u, hu, eu, w1, w2⟩ => ?_⟩
        · rw [tr_st_j (by decide), hm, n00, nadd]
          rfl
        · rw [hbp u hu eu] at w1; exact w1 z1
      · by_cases z2 : nI v = e2
        · right
          simp only [if_neg z1, if_neg (fun y => z1 ((he1 v hv).mpr y)), if_pos z2, if_pos ((he2 v hv).mp z2), Option.bind_some, if_true]
          refine ⟨trivial, ⟨nI v, ?_⟩, fun _ ⟨u, hu, eu, w1, w2⟩ => ?_⟩
          · rw [tr_st_j (by decide), hm, n00, nadd]
            rfl
          · rw [hbp u hu eu] at w2; exact w2 z2
        · left
          simp only [if_neg z1, if_neg (fun y => z1 ((he1 v hv).mpr y)), if_neg z2, if_neg (fun y => z2 ((he2 v hv).mpr y)), Option.bind_some, if_neg (show ¬ (1 : Int32) = 0 by decide)]
          refine ⟨v, hv, c, z1, z2, trivial, ?_, ?_, ev⟩
          · rw [hc.2, nadd1]
          · rw [tr_st_j (by decide), hm, nadd1]
            rfl
    · right
      rw [k2]
      simp only [if_true, tr_st_s, hM16]
      rw [k3]
      simp only [if_true, Option.bind_some]
      refine ⟨trivial, ⟨b p - 65, ?_⟩, fun _ ⟨u, hu, eu, w1, w2⟩ => k0 ⟨u, hu, eu⟩⟩
      rw [tr_st_j (by decide), hm, n00, nadd]
      rfl
  · right
    rw [if_neg c, if_neg c]
    have m9 : mX5_isThing 5 (-9 - 65) N1 = 0 := isThing_c hn hw (Or.inl (by decide))
    have m0 : mX7_in (0 - 65) 0 (nI n - 1) = 0 := by
      unfold mX7_in
      rw [if_pos (by decide)]
    rw [m9]
    simp only [if_true, tr_st_s, hM16]
    rw [m0]
    simp only [if_true, Option.bind_some]
    refine ⟨trivial, ⟨0 - 65, ?_⟩, fun z => absurd z c⟩
    rw [tr_st_j (by decide), hm, n00, nadd]
    rfl
theorem kind_tab (c : Int32) : (mX3_kindOf c = 0 ∧ mX7_kindOf c = -9) ∨ ∃ k, 1 ≤ k ∧ k ≤ 6 ∧ mX3_kindOf c = nI k ∧ mX7_kindOf c = nI k ∧ (c = 33 ∨ c = 43 ∨ c = 60 ∨ c = 63 ∨ c = 64 ∨ c = 94) := by
  unfold mX3_kindOf mX7_kindOf
  by_cases c1 : c = 33
  · right; simp only [if_pos c1]; exact ⟨5, by decide, by decide, rfl, rfl, Or.inl c1⟩
  · by_cases c2 : c = 43
    · right; simp only [if_neg c1, if_pos c2]; exact ⟨2, by decide, by decide, rfl, rfl, Or.inr (Or.inl c2)⟩
    · by_cases c3 : c = 60
      · right; simp only [if_neg c1, if_neg c2, if_pos c3]; exact ⟨1, by decide, by decide, rfl, rfl, Or.inr (Or.inr (Or.inl c3))⟩
      · by_cases c4 : c = 63
        · right; simp only [if_neg c1, if_neg c2, if_neg c3, if_pos c4]; exact ⟨6, by decide, by decide, rfl, rfl, Or.inr (Or.inr (Or.inr (Or.inl c4)))⟩
        · by_cases c5 : c = 64
          · right; simp only [if_neg c1, if_neg c2, if_neg c3, if_neg c4, if_pos c5]; exact ⟨3, by decide, by decide, rfl, rfl, Or.inr (Or.inr (Or.inr (Or.inr (Or.inl c5))))⟩
          · by_cases c6 : c = 94
            · right; simp only [if_neg c1, if_neg c2, if_neg c3, if_neg c4, if_neg c5, if_pos c6]; exact ⟨4, by decide, by decide, rfl, rfl, Or.inr (Or.inr (Or.inr (Or.inr (Or.inr c6))))⟩
            · left; simp only [if_neg c1, if_neg c2, if_neg c3, if_neg c4, if_neg c5, if_neg c6]; exact ⟨trivial, trivial⟩
