/-! ===== must: what an order breaks ===== -/
theorem sm_shift (F : Nat → Nat) : ∀ k, sm (k + 1) F = F 0 + sm k (fun j => F (j + 1))
  | 0 => by
    show 0 + F 0 = F 0 + 0
    omega
  | k + 1 => by
    show sm (k + 1) F + F (k + 1) = F 0 + (sm k (fun j => F (j + 1)) + F (k + 1))
    rw [sm_shift F k]
    omega
theorem tc_seg (w : Wd) (f : Nat → Nat) : ∀ k i, tc w (pre f i) (la f i) (seg f i k) = sm k (fun j => sV w (pre f (i + j)) (la f (i + j)) (f (i + j)))
  | 0, _ => rfl
  | k + 1, i => by
    rw [sm_shift]
    show sV w (pre f i) (la f i) (f i) + tc w (ins (pre f i) (f i)) (f i) (seg f (i + 1) k) = _
    have h1 : ins (pre f i) (f i) = pre f (i + 1) := rfl
    have h2 : f i = la f (i + 1) := by
      unfold la
      rw [if_neg (by omega), Nat.add_sub_cancel]
    have ih := tc_seg w f k (i + 1)
    rw [← h1, ← h2] at ih
    rw [ih, Nat.add_zero]
    congr 1
    refine sm_congr fun j _ => ?_
    rw [show i + 1 + j = i + (j + 1) by omega]
theorem vio_one {n : Nat} {f : Nat → Nat} (h : Ord n f) (hn : n ≤ 10) {r : Nat × Nat × Nat × Nat} (hr : ruleOk n r) {i j : Nat} (hi : i < n) (hj : j < n) (h1 : stC r (pre f i) (la f i) (f i) = false) (h2 : stC r (pre f j) (la f j) (f j) = false) : i = j := by
  obtain ⟨kd, x, y, z⟩ := r
  unfold ruleOk at hr
  unfold stC at h1 h2
  dsimp only at hr h1 h2
  have at1 : ∀ u, f i = u → f j = u → i = j := fun u a b => h.2 i j hi hj (a.trans b.symm)
  by_cases c1 : kd = 1
  · simp only [if_pos c1, Bool.not_eq_false', Bool.and_eq_true, decide_eq_true_eq] at h1 h2
    exact at1 y h1.1 h2.1
  by_cases c2 : kd = 2
  · simp only [if_neg c1, if_pos c2, Bool.not_eq_false', Bool.and_eq_true, decide_eq_true_eq] at h1 h2
    exact at1 y h1.1 h2.1
  by_cases c3 : kd = 3
  · simp only [if_neg c1, if_neg c2, if_pos c3, Bool.not_eq_false', Bool.and_eq_true, decide_eq_true_eq] at h1 h2
    exact at1 x h1.1 h2.1
  by_cases c4 : kd = 4
  · simp only [if_neg c1, if_neg c2, if_neg c3, if_pos c4, Bool.not_eq_false', Bool.and_eq_true, decide_eq_true_eq] at h1 h2
    exact at1 x h1.1 h2.1
  by_cases c5 : kd = 5
  · have hx : x < n := by omega
    have hy : y < n := by omega
    simp only [if_neg c1, if_neg c2, if_neg c3, if_neg c4, if_pos c5] at h1 h2
    have g : ∀ {i : Nat}, i < n → (!(decide (la f i = x) && decide (f i = y)) && !(decide (la f i = y) && decide (f i = x))) = false → (la f i = x ∧ f i = y) ∨ (la f i = y ∧ f i = x) := fun {i} _ q => by
      by_cases a1 : la f i = x ∧ f i = y
      · exact Or.inl a1
      · by_cases a2 : la f i = y ∧ f i = x
        · exact Or.inr a2
        · exfalso
          have b1 : (decide (la f i = x) && decide (f i = y)) = false := by
            rw [Bool.eq_false_iff]
            intro e
            rw [Bool.and_eq_true] at e
            exact a1 ⟨of_decide_eq_true e.1, of_decide_eq_true e.2⟩
          have b2 : (decide (la f i = y) && decide (f i = x)) = false := by
            rw [Bool.eq_false_iff]
            intro e
            rw [Bool.and_eq_true] at e
            exact a2 ⟨of_decide_eq_true e.1, of_decide_eq_true e.2⟩
          rw [b1, b2] at q
          cases q
    rcases g hi h1 with ⟨a1, a2⟩ | ⟨a1, a2⟩ <;> rcases g hj h2 with ⟨b1, b2⟩ | ⟨b1, b2⟩
    · exact at1 y a2 b2
    · have e1 := (la_iff h hn hx (Nat.le_of_lt hi)).mp a1
      have e2 := (sf_iff h hy hi).mp a2
      have e3 := (la_iff h hn hy (Nat.le_of_lt hj)).mp b1
      have e4 := (sf_iff h hx hj).mp b2
      omega
    · have e1 := (la_iff h hn hy (Nat.le_of_lt hi)).mp a1
      have e2 := (sf_iff h hx hi).mp a2
      have e3 := (la_iff h hn hx (Nat.le_of_lt hj)).mp b1
      have e4 := (sf_iff h hy hj).mp b2
      omega
    · exact at1 x a2 b2
  by_cases c6 : kd = 6
  · simp only [if_neg c1, if_neg c2, if_neg c3, if_neg c4, if_neg c5, if_pos c6, Bool.not_eq_false', Bool.and_eq_true, decide_eq_true_eq] at h1 h2
    exact at1 x h1.1 h2.1
  · simp only [if_neg c1, if_neg c2, if_neg c3, if_neg c4, if_neg c5, if_neg c6] at h1
    cases h1
/-- a rule is broken by one step, if at all -/
theorem vio_sm {n : Nat} {f : Nat → Nat} (h : Ord n f) (hn : n ≤ 10) {r : Nat × Nat × Nat × Nat} (hr : ruleOk n r) (c : Nat) : sm n (fun i => if (!stC r (pre f i) (la f i) (f i)) = true then c else 0) = if kept n r f = true then 0 else c := by
  by_cases k : kept n r f = true
  · rw [if_pos k]
    have := (kept_C h hn hr).mpr k
    rw [sm_congr (g := fun _ => 0) fun i hi => by rw [this i hi]; rfl]
    exact sm_0 n
  · rw [if_neg k]
    have : ∃ i, i < n ∧ stC r (pre f i) (la f i) (f i) = false := Classical.byContradiction fun e => k ((kept_C h hn hr).mp fun i hi => by
      cases q : stC r (pre f i) (la f i) (f i) with
      | true => rfl
      | false => exact absurd ⟨i, hi, q⟩ e)
    obtain ⟨i0, hi0, h0⟩ := this
    rw [sm_congr (g := fun i => if i = i0 then c else 0) fun i hi => ?_]
    · exact sm_one c hi0
    · by_cases e : i = i0
      · subst e
        simp [h0]
      · cases q : stC r (pre f i) (la f i) (f i) with
        | true => rw [if_neg e]; rfl
        | false => exact absurd (vio_one h hn hr hi hi0 q h0) e
/-- the rules that an order breaks -/
def bk (w : Wd) (f : Nat → Nat) (k : Nat) : Bool := !w.2.2.2.2 k && !kept w.1 (w.2.2.2.1 k) f
def br (w : Wd) (f : Nat → Nat) : Nat := mkb w.2.2.1 (bk w f)
theorem mkb_add (F : Nat → Bool) (n : Nat) : mkb (n + 1) F = mkb n F + if F n = true then 2 ^ n else 0 := by
  show mkb n F ||| (if F n = true then 2 ^ n else 0) = _
  by_cases c : F n = true
  · rw [if_pos c]
    have := Nat.two_pow_add_eq_or_of_lt (mkb_lt F n) 1
    rw [Nat.mul_one] at this
    rw [Nat.or_comm, ← this, Nat.add_comm]
  · rw [if_neg c, Nat.or_zero, Nat.add_zero]
theorem cK_sm (F : Nat → Bool) : ∀ n, sm n (fun k => if F k = true then cK k else 0) = 256 * sm n (fun k => if F k = true then 1 else 0) + mkb n F
  | 0 => rfl
  | n + 1 => by
    rw [mkb_add]
    show sm n _ + (if F n = true then cK n else 0) = 256 * (sm n _ + if F n = true then 1 else 0) + _
    rw [cK_sm F n]
    by_cases c : F n = true
    · simp only [if_pos c, cK]
      omega
    · simp only [if_neg c]
      omega
theorem cnt_mkb {F : Nat → Bool} {n : Nat} (hn : n ≤ 8) : cnt 8 (mkb n F) = sm n (fun k => if F k = true then 1 else 0) := by
  rw [cnt_sm, sm_zero (n := n) (fun i hi => ?_) hn]
  · refine sm_congr fun i hi => ?_
    rw [mkb_bit]
    simp [hi]
  · rw [mkb_bit]
    simp [show ¬ i < n by omega]
theorem tc_br {w : Wd} (hok : WOk w) {f : Nat → Nat} (hf : Ord w.1 f) : tc w 0 10 (seg f 0 w.1) = 256 * cnt 8 (br w f) + br w f := by
  have h8 := hok.2.2.2.2.1
  have h0 := tc_seg w f w.1 0
  have e0 : tc w 0 10 (seg f 0 w.1) = tc w (pre f 0) (la f 0) (seg f 0 w.1) := rfl
  rw [e0, h0]
  unfold sV
  rw [sm_swap]
  unfold br
  rw [cnt_mkb h8, ← cK_sm]
  refine sm_congr fun k hk => ?_
  unfold vio bk
  cases ho : w.2.2.2.2 k with
  | true =>
    simp only [Bool.not_true, Bool.false_and]
    exact sm_0 w.1
  | false =>
    simp only [Bool.not_false, Bool.true_and, Nat.zero_add]
    rw [vio_sm hf hok.1 (hok.2.2.2.2.2.1 k hk) (cK k)]
    cases kept w.1 (w.2.2.2.1 k) f <;> rfl
theorem br_lt {w : Wd} (hok : WOk w) (f : Nat → Nat) : br w f < 256 := Nat.lt_of_lt_of_le (mkb_lt _ _) (show 2 ^ w.2.2.1 ≤ 2 ^ 8 from Nat.pow_le_pow_right (by decide) hok.2.2.2.2.1)
theorem br_bit (w : Wd) (f : Nat → Nat) (k : Nat) : (br w f).testBit k = (decide (k < w.2.2.1) && bk w f k) := mkb_bit _ _ _
theorem Ord_id (n : Nat) : Ord n (fun i => i) := ⟨fun _ hi => hi, fun _ _ _ _ e => e⟩
/-- the order that breaks least -/
theorem tb_get {w : Wd} (hok : WOk w) : ∃ f, Ord w.1 f ∧ tb w 0 10 = 256 * cnt 8 (br w f) + br w f ∧ ∀ g, Ord w.1 g → 256 * cnt 8 (br w f) + br w f ≤ 256 * cnt 8 (br w g) + br w g := by
  have hTP : TP = 268435456 := rfl
  have e : tb w 0 10 = lm TP ((Pm w.1).map (tc w 0 10)) := by
    unfold tb
    rw [lft_0]
    rfl
  have hle : ∀ g, Ord w.1 g → tb w 0 10 ≤ 256 * cnt 8 (br w g) + br w g := fun g hg => by
    rw [e, ← tc_br hok hg]
    exact lm_min (List.mem_map.mpr ⟨_, seg_Pm hg, rfl⟩)
  have hlt : lm TP ((Pm w.1).map (tc w 0 10)) < TP := by
    have h1 := hle _ (Ord_id w.1)
    have h2 := br_lt hok (fun i => i)
    have h3 := cnt_le (br w (fun i => i)) 8
    rw [← e]
    omega
  obtain ⟨p, hp, he⟩ := List.mem_map.mp (lm_mem hlt)
  obtain ⟨h1, h2⟩ := mem_Pm.mp hp
  have hps : p = seg (fn p) 0 w.1 := by
    have := seg_fn p
    rw [h1] at this
    exact this.symm
  rw [hps, tc_br hok h2, ← e] at he
  exact ⟨fn p, h2, he.symm, fun g hg => by rw [he]; exact hle g hg⟩
/-- rules off besides -/
def wS (w : Wd) (S : Nat) : Wd := wdOff w (fun k => decide (k < w.2.2.1) && (w.2.2.2.2 k || S.testBit k))
theorem wS_ok {w : Wd} (hok : WOk w) (S : Nat) : WOk (wS w S) := wdOff_ok hok fun k hk => by simp [show ¬ k < w.2.2.1 by omega]
theorem wS_Al {w : Wd} {S : Nat} : Al (wS w S) none ≠ [] ↔ ∃ f, Ord w.1 f ∧ ∀ k, (br w f).testBit k = true → S.testBit k = true := by
  constructor
  · intro h
    obtain ⟨p, hp⟩ := List.exists_mem_of_ne_nil _ h
    obtain ⟨hp1, hp2⟩ := List.mem_filter.mp hp
    refine ⟨fn p, (mem_Pm.mp hp1).2, fun k hk => ?_⟩
    rw [br_bit, Bool.and_eq_true] at hk
    have hkn := of_decide_eq_true hk.1
    have hkb := hk.2
    unfold bk at hkb
    unfold okf at hp2
    rw [Bool.and_eq_true] at hp2
    have := al_iff.mp hp2.1 k hkn
    have h3 : ((decide (k < w.2.2.1) && (w.2.2.2.2 k || S.testBit k)) || kept w.1 (w.2.2.2.1 k) (fn p)) = true := this
    rw [hk.1] at h3
    cases h4 : w.2.2.2.2 k <;> cases h5 : kept w.1 (w.2.2.2.1 k) (fn p) <;> rw [h4, h5] at hkb h3
    · simpa using h3
    · cases hkb
    · cases hkb
    · cases hkb
  · rintro ⟨f, hf, hb⟩ e
    have hm : seg f 0 w.1 ∈ Al (wS w S) none := by
      refine List.mem_filter.mpr ⟨seg_Pm hf, ?_⟩
      have e2 := okf_seg (wS w S) none f
      have e3 : okf (wS w S) none (fn (seg f 0 w.1)) = okf (wS w S) none f := e2
      rw [e3]
      unfold okf
      rw [Bool.and_eq_true]
      refine ⟨al_iff.mpr fun k hk => ?_, rfl⟩
      have hk' : k < w.2.2.1 := hk
      show ((decide (k < w.2.2.1) && (w.2.2.2.2 k || S.testBit k)) || kept w.1 (w.2.2.2.1 k) f) = true
      have := hb k
      rw [br_bit, decide_eq_true hk'] at this
      rw [decide_eq_true hk']
      unfold bk at this
      cases h4 : w.2.2.2.2 k <;> cases h5 : kept w.1 (w.2.2.2.1 k) f <;> rw [h4, h5] at this
      · rw [this rfl]; rfl
      · simp
      · rfl
      · rfl
    rw [e] at hm
    cases hm
theorem cnt_subs {a b : Nat} : ∀ n, (∀ k, k < n → a.testBit k = true → b.testBit k = true) → cnt n a ≤ cnt n b ∧ (cnt n a = cnt n b → ∀ k, k < n → a.testBit k = b.testBit k)
  | 0, _ => ⟨by rw [cnt_sm, cnt_sm]; exact Nat.le_refl _, fun _ k hk => by omega⟩
  | n + 1, h => by
    obtain ⟨h1, h2⟩ := cnt_subs n fun k hk => h k (by omega)
    have hn := h n (by omega)
    rw [cnt_sm, cnt_sm] at h1 h2 ⊢
    have e : ∀ s : Nat, sm (n + 1) (fun i => if s.testBit i = true then 1 else 0) = sm n (fun i => if s.testBit i = true then 1 else 0) + if s.testBit n = true then 1 else 0 := fun s => rfl
    rw [e, e]
    cases ha : a.testBit n with
    | true =>
      rw [hn ha, if_pos rfl]
      refine ⟨by omega, fun q k hk => ?_⟩
      by_cases c : k = n
      · rw [c, ha, hn ha]
      · exact h2 (by omega) k (by omega)
    | false =>
      cases hb : b.testBit n with
      | true =>
        simp only [if_true, if_neg (show ¬ false = true by decide)]
        exact ⟨by omega, fun q => by omega⟩
      | false =>
        refine ⟨by simpa using h1, fun q k hk => ?_⟩
        by_cases c : k = n
        · rw [c, ha, hb]
        · exact h2 (by simpa using q) k (by omega)
/-- the first set, by number, then by bits, without which an order is allowed -/
theorem must_set {w : Wd} (hok : WOk w) : ∃ b, b < 2 ^ w.2.2.1 ∧ tb w 0 10 = 256 * cnt 8 b + b ∧ (∀ k, b.testBit k = true → w.2.2.2.2 k = false) ∧ Al (wS w b) none ≠ [] ∧ ∀ S, S < 256 → Al (wS w S) none ≠ [] → cnt 8 b ≤ cnt 8 S ∧ (cnt 8 b = cnt 8 S → b ≤ S) := by
  obtain ⟨f, hf, h1, h2⟩ := tb_get hok
  have hlt := br_lt hok f
  refine ⟨br w f, mkb_lt _ _, h1, fun k hk => ?_, wS_Al.mpr ⟨f, hf, fun _ h => h⟩, fun S hS hA => ?_⟩
  · rw [br_bit, Bool.and_eq_true] at hk
    have := hk.2
    unfold bk at this
    rw [Bool.and_eq_true] at this
    simpa using this.1
  · obtain ⟨g, hg, hb⟩ := wS_Al.mp hA
    have h3 := h2 g hg
    have hltg := br_lt hok g
    obtain ⟨c1, c2⟩ := cnt_subs (a := br w g) (b := S) 8 fun k _ => hb k
    refine ⟨by omega, fun q => ?_⟩
    have h4 : cnt 8 (br w g) = cnt 8 S := by omega
    have h5 := c2 h4
    have h6 : br w g = S := Nat.eq_of_testBit_eq fun i => by
      by_cases hi : i < 8
      · exact h5 i hi
      · have z1 := Nat.testBit_lt_two_pow (Nat.lt_of_lt_of_le (show br w g < 2 ^ 8 from hltg) (Nat.pow_le_pow_right (by decide) (show 8 ≤ i by omega)))
        have z2 := Nat.testBit_lt_two_pow (Nat.lt_of_lt_of_le (show S < 2 ^ 8 from hS) (Nat.pow_le_pow_right (by decide) (show 8 ≤ i by omega)))
        rw [z1, z2]
    rw [h6] at h3
    omega
