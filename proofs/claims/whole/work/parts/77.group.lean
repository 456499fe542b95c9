/-! ===== bounds: groups ===== -/
def Cl (w : Wd) (G : Nat) : Prop := ∀ x y, x < w.1 → y < w.1 → G.testBit x = true → 0 < w.2.1 x y → G.testBit y = true
def Sub (n : Nat) (G H : Nat) : Prop := ∀ y, y < n → G.testBit y = true → H.testBit y = true
def rch (w : Wd) (G : Nat) : Nat → Nat
  | 0 => G
  | b + 1 => if G.testBit b = true then rch w G b ||| tied w b else rch w G b
theorem rch_bit (w : Wd) (G y : Nat) : ∀ b, (rch w G b).testBit y = true ↔ G.testBit y = true ∨ ∃ x, x < b ∧ G.testBit x = true ∧ (tied w x).testBit y = true
  | 0 => ⟨Or.inl, fun h => h.elim id fun ⟨x, hx, _⟩ => by omega⟩
  | b + 1 => by
    show (if G.testBit b = true then rch w G b ||| tied w b else rch w G b).testBit y = true ↔ _
    by_cases c : G.testBit b = true
    · rw [if_pos c, Nat.testBit_or, Bool.or_eq_true, rch_bit w G y b]
      constructor
      · rintro ((h | ⟨x, h1, h2⟩) | h)
        · exact Or.inl h
        · exact Or.inr ⟨x, by omega, h2⟩
        · exact Or.inr ⟨b, by omega, c, h⟩
      · rintro (h | ⟨x, h1, h2, h3⟩)
        · exact Or.inl (Or.inl h)
        · by_cases e : x = b
          · subst e; exact Or.inr h3
          · exact Or.inl (Or.inr ⟨x, by omega, h2, h3⟩)
    · rw [if_neg c, rch_bit w G y b]
      constructor
      · rintro (h | ⟨x, h1, h2⟩)
        · exact Or.inl h
        · exact Or.inr ⟨x, by omega, h2⟩
      · rintro (h | ⟨x, h1, h2, h3⟩)
        · exact Or.inl h
        · by_cases e : x = b
          · subst e; exact absurd h2 c
          · exact Or.inr ⟨x, by omega, h2, h3⟩
theorem or_lt10 {a b : Nat} (ha : a < 1024) (hb : b < 1024) : a ||| b < 1024 := Nat.or_lt_two_pow (n := 10) ha hb
theorem rch_lt {w : Wd} {G : Nat} (h : G < 1024) : ∀ b, rch w G b < 1024
  | 0 => h
  | b + 1 => by
    show (if G.testBit b = true then rch w G b ||| tied w b else rch w G b) < 1024
    split
    · exact or_lt10 (rch_lt h b) (tied_lt w b)
    · exact rch_lt h b
def grp (w : Wd) (a : Nat) : Nat → Nat
  | 0 => 2 ^ a
  | i + 1 => rch w (grp w a i) w.1
theorem grp_lt {w : Wd} {a : Nat} (ha : a < 10) : ∀ i, grp w a i < 1024
  | 0 => Nat.pow_lt_pow_right (a := 2) (n := 10) (by decide) ha
  | i + 1 => rch_lt (grp_lt ha i) w.1
theorem cnt_sub {s t : Nat} : ∀ {n : Nat}, Sub n s t → cnt n s ≤ cnt n t
  | 0, _ => Nat.le_refl _
  | n + 1, h => by
    have ih := cnt_sub (n := n) (fun y hy q => h y (by omega) q)
    show cnt n s + (if s.testBit n = true then 1 else 0) ≤ cnt n t + (if t.testBit n = true then 1 else 0)
    by_cases c : s.testBit n = true
    · rw [if_pos c, if_pos (h n (by omega) c)]; omega
    · rw [if_neg c]; omega
theorem cnt_more {n s t y : Nat} (h : Sub n s t) (hy : y < n) (h1 : s.testBit y = false) (h2 : t.testBit y = true) : cnt n s + 1 ≤ cnt n t := by
  rw [← cnt_ins hy h1]
  refine cnt_sub fun z hz q => ?_
  rw [ins_bit, Bool.or_eq_true, decide_eq_true_eq] at q
  rcases q with q | q
  · exact h z hz q
  · rw [← q]; exact h2
theorem rch_sub (w : Wd) (G n b : Nat) : Sub n G (rch w G b) := fun y _ h => (rch_bit w G y b).mpr (Or.inl h)
theorem rch_cl {w : Wd} (hok : WOk w) {G C : Nat} (h : Sub w.1 G C) (hc : Cl w C) : Sub w.1 (rch w G w.1) C := fun y hy q => by
  rcases (rch_bit w G y w.1).mp q with q | ⟨x, h1, h2, h3⟩
  · exact h y hy q
  · rw [tied_bit, Bool.and_eq_true, decide_eq_true_eq, decide_eq_true_eq] at h3
    exact hc x y h1 hy (h x h1 h2) h3.2
theorem grp_a {w : Wd} {a : Nat} : ∀ i, (grp w a i).testBit a = true
  | 0 => Nat.testBit_two_pow_self
  | i + 1 => (rch_bit w _ a w.1).mpr (Or.inl (grp_a i))
theorem grp_min {w : Wd} (hok : WOk w) {a C : Nat} (ha : C.testBit a = true) (hc : Cl w C) : ∀ i, Sub w.1 (grp w a i) C
  | 0 => fun y _ q => by
    have q : (2 ^ a).testBit y = true := q
    rw [Nat.testBit_two_pow, decide_eq_true_eq] at q
    rw [← q]; exact ha
  | i + 1 => rch_cl hok (grp_min hok ha hc i) hc
theorem grp_cl {w : Wd} (hok : WOk w) {a : Nat} (ha : a < w.1) : ∀ i, Cl w (grp w a i) ∨ i + 1 ≤ cnt w.1 (grp w a i)
  | 0 => Or.inr (by
    have h : cnt w.1 (ins 0 a) = cnt w.1 0 + 1 := cnt_ins ha (Nat.zero_testBit a)
    have e : ins 0 a = 2 ^ a := Nat.zero_or _
    show 0 + 1 ≤ cnt w.1 (2 ^ a)
    rw [← e, h]
    omega)
  | i + 1 => by
    have hok10 := hok.1
    rcases grp_cl hok ha i with h | h
    · left
      intro x y hx hy q hW
      have hsub := rch_cl hok (G := grp w a i) (C := grp w a i) (fun _ _ q => q) h
      exact rch_sub w _ w.1 w.1 y hy (h x y hx hy (hsub x hx q) hW)
    · by_cases c : Cl w (grp w a i)
      · left
        intro x y hx hy q hW
        have hsub := rch_cl hok (G := grp w a i) (C := grp w a i) (fun _ _ q => q) c
        exact rch_sub w _ w.1 w.1 y hy (c x y hx hy (hsub x hx q) hW)
      · right
        have : ∃ x y, x < w.1 ∧ y < w.1 ∧ (grp w a i).testBit x = true ∧ 0 < w.2.1 x y ∧ (grp w a i).testBit y = false := by
          refine Classical.byContradiction fun e => c fun x y hx hy q hW => ?_
          cases d : (grp w a i).testBit y with
          | true => rfl
          | false => exact absurd ⟨x, y, hx, hy, q, hW, d⟩ e
        obtain ⟨x, y, hx, hy, q1, q2, q3⟩ := this
        have := cnt_more (t := grp w a (i + 1)) (rch_sub w (grp w a i) w.1 w.1) hy q3 ((rch_bit w (grp w a i) y w.1).mpr (Or.inr ⟨x, hx, q1, by rw [tied_bit]; simp [q2, show y < 10 by omega]⟩))
        omega
theorem grp_closed {w : Wd} (hok : WOk w) {a : Nat} (ha : a < w.1) : Cl w (grp w a w.1) := by
  rcases grp_cl hok ha w.1 with h | h
  · exact h
  · have := cnt_le (grp w a w.1) w.1
    omega
/-- how many groups: from a thing on, of those that are left -/
def ncg (w : Wd) : Nat → Nat → Nat → Nat
  | 0, _, _ => 0
  | k + 1, i, L => if L.testBit i = true then 1 + ncg w k (i + 1) (ndf L (grp w i w.1)) else ncg w k (i + 1) L
theorem groupOf_eq {w : Wd} {o a : Nat} {M : tr_M} (hok : WOk w) (hw : CWd w o M) (ha : a < 10) : mX5_groupOf o (nI a) M = some (nI (grp w a w.1)) := by
  have hn := hok.1
  unfold mX5_groupOf
  rw [sh1 (by omega)]
  refine tr_loop_seq' (fun i => (nI (grp w a i), nI i)) w.1 rfl (by omega) (fun i hi => ?_) ?_
  · unfold mX5_groupOf_l6
    simp (disch := omega) only [hw.1, nlt, hi, if_true]
    have hg := grp_lt (w := w) ha i
    refine tr_loop_seq' (fun b => (nI (rch w (grp w a i) b), nI b)) w.1 rfl (by omega) (fun b hb => ?_) ?_
    · unfold mX5_groupOf_l20
      simp (disch := omega) only [hw.1, nlt, hb, if_true, bit_eq0, tr_rd_nI, hw.2.2.2.2.1, Option.bind_some, or_nI, nadd1]
      show _ = some (Sum.inl (nI (if (grp w a i).testBit b = true then rch w (grp w a i) b ||| tied w b else rch w (grp w a i) b), nI (b + 1)))
      cases (grp w a i).testBit b <;> rfl
    · unfold mX5_groupOf_l20
      simp (disch := omega) only [hw.1, nlt, Nat.lt_irrefl, if_false, nadd1]
      rfl
  · unfold mX5_groupOf_l6
    simp (disch := omega) only [hw.1, nlt, Nat.lt_irrefl, if_false]
theorem groupsC {w : Wd} {o : Nat} {M : tr_M} (hok : WOk w) (hw : CWd w o M) : mX5_groups o M = some (nI (ncg w w.1 0 (2 ^ w.1 - 1))) := by
  have hn := hok.1
  unfold mX5_groups
  rw [everything_eq hw.1 hn]
  have hp := pow_lt hn
  have hp0 := Nat.two_pow_pos w.1
  obtain ⟨r, h1, h2⟩ := tr_loop_inv (step := mX5_groups_l9 o M) (s0 := (nI (2 ^ w.1 - 1), 0, 0)) (fun i s => ∃ L c, s = (nI L, nI c, nI i) ∧ L < 1024 ∧ c + ncg w (w.1 - i) i L = ncg w w.1 0 (2 ^ w.1 - 1)) (fun r => r = nI (ncg w w.1 0 (2 ^ w.1 - 1))) w.1 (by omega) ⟨2 ^ w.1 - 1, 0, rfl, by omega, by rw [Nat.zero_add]; rfl⟩ (by
    rintro i s hi ⟨L, c, rfl, hL, hc⟩
    left
    rw [show w.1 - i = w.1 - (i + 1) + 1 by omega] at hc
    have hc : c + (if L.testBit i = true then 1 + ncg w (w.1 - (i + 1)) (i + 1) (ndf L (grp w i w.1)) else ncg w (w.1 - (i + 1)) (i + 1) L) = _ := hc
    unfold mX5_groups_l9
    simp (disch := omega) only [hw.1, nlt, hi, if_true, bit_eq0, groupOf_eq hok hw, Option.bind_some, ndf_nI, nadd1]
    cases q : L.testBit i with
    | true =>
      rw [q, if_pos rfl] at hc
      simp only [Bool.true_eq_false, if_false]
      refine ⟨_, rfl, ndf L (grp w i w.1), c + 1, rfl, ?_, by omega⟩
      have := ndf_le L (grp w i w.1)
      omega
    | false =>
      rw [q, if_neg (by decide)] at hc
      simp only [if_true]
      exact ⟨_, rfl, L, c, rfl, hL, hc⟩) (by
    rintro s ⟨L, c, rfl, hL, hc⟩
    rw [Nat.sub_self] at hc
    have hc : c + 0 = _ := hc
    refine ⟨nI c, ?_, by rw [← hc]; rfl⟩
    unfold mX5_groups_l9
    simp (disch := omega) only [hw.1, nlt, Nat.lt_irrefl, if_false])
  rw [h1, h2]
/-- one pass of the model -/
theorem passM {w : Wd} {G : Nat} {M : tr_M} (hok : WOk w) (hm : MWd w M) (hG : G < 2 ^ w.1) : ∃ H, tr_loop (mX7_groups_l30 M) (nI G, 0) = some (nI H) ∧ H < 2 ^ w.1 ∧ Sub w.1 G H ∧ (∀ C, Sub w.1 G C → Cl w C → Sub w.1 H C) ∧ (H = G → Cl w G) := by
  have hn := hok.1
  have hp := pow_lt hn
  have inner : ∀ a H, a < w.1 → H < 2 ^ w.1 → Sub w.1 G H → (∀ C, Sub w.1 G C → Cl w C → Sub w.1 H C) → ∃ H', tr_loop (mX7_groups_l42 M (nI H, nI a)) (nI H, 0) = some (.inl (nI H', nI (a + 1))) ∧ H' < 2 ^ w.1 ∧ Sub w.1 G H' ∧ Sub w.1 H H' ∧ (∀ C, Sub w.1 G C → Cl w C → Sub w.1 H' C) ∧ (∀ y, y < w.1 → G.testBit a = true → 0 < w.2.1 a y → H'.testBit y = true) := fun a H ha hH h1 h2 => by
    obtain ⟨r, e1, H', e2, e3, e4, e5, e6, e7⟩ := tr_loop_inv (step := mX7_groups_l42 M (nI H, nI a)) (s0 := (nI H, 0)) (fun b s => ∃ H', s = (nI H', nI b) ∧ H' < 2 ^ w.1 ∧ Sub w.1 G H' ∧ Sub w.1 H H' ∧ (∀ C, Sub w.1 G C → Cl w C → Sub w.1 H' C) ∧ (∀ y, y < b → G.testBit a = true → 0 < w.2.1 a y → H'.testBit y = true)) (fun r => ∃ H', r = .inl (nI H', nI (a + 1)) ∧ H' < 2 ^ w.1 ∧ Sub w.1 G H' ∧ Sub w.1 H H' ∧ (∀ C, Sub w.1 G C → Cl w C → Sub w.1 H' C) ∧ (∀ y, y < w.1 → G.testBit a = true → 0 < w.2.1 a y → H'.testBit y = true)) w.1 (by omega) ⟨H, rfl, hH, h1, fun _ _ q => q, h2, fun y hy => by omega⟩ (by
      rintro b s hb ⟨H', rfl, g1, g2, g3, g4, g5⟩
      left
      have h9 := hok.2.1 a b
      unfold mX7_groups_l42
      simp (disch := omega) only [hm.1, nlt, hb, if_true, has_eq, b0, weight_eq, hm.2.2.1, Option.bind_some, n0lt, or0, ins_nI, nadd1]
      cases q : H'.testBit a with
      | false =>
        simp only [if_true]
        refine ⟨_, rfl, H', rfl, g1, g2, g3, g4, fun y hy qa qw => ?_⟩
        by_cases e : y = b
        · have := g2 a ha qa
          rw [q] at this; cases this
        · exact g5 y (by omega) qa qw
      | true =>
        simp only [Bool.true_eq_false, if_false]
        by_cases d : 0 < w.2.1 a b
        · rw [if_pos d]
          refine ⟨_, rfl, ins H' b, rfl, ins_lt g1 hb, fun y hy z => by rw [ins_bit, g2 y hy z]; rfl, fun y hy z => by rw [ins_bit, g3 y hy z]; rfl, fun C c1 c2 y hy z => ?_, fun y hy qa qw => ?_⟩
          · rw [ins_bit, Bool.or_eq_true, decide_eq_true_eq] at z
            rcases z with z | z
            · exact g4 C c1 c2 y hy z
            · rw [← z]; exact c2 a b ha hb (g4 C c1 c2 a ha q) d
          · rw [ins_bit]
            by_cases e : y = b
            · subst e; simp
            · rw [g5 y (by omega) qa qw]; rfl
        · rw [if_neg d]
          refine ⟨_, rfl, H', rfl, g1, g2, g3, g4, fun y hy qa qw => ?_⟩
          by_cases e : y = b
          · subst e; exact absurd qw d
          · exact g5 y (by omega) qa qw) (by
      rintro s ⟨H', rfl, g1, g2, g3, g4, g5⟩
      refine ⟨_, ?_, H', rfl, g1, g2, g3, g4, g5⟩
      unfold mX7_groups_l42
      simp (disch := omega) only [hm.1, nlt, Nat.lt_irrefl, if_false, nadd1])
    exact ⟨H', by rw [e1, e2], e3, e4, e5, e6, e7⟩
  obtain ⟨r, e1, H, e2, e3, e4, e5, e6⟩ := tr_loop_inv (step := mX7_groups_l30 M) (s0 := (nI G, 0)) (fun a s => ∃ H, s = (nI H, nI a) ∧ H < 2 ^ w.1 ∧ Sub w.1 G H ∧ (∀ C, Sub w.1 G C → Cl w C → Sub w.1 H C) ∧ (∀ x y, x < a → y < w.1 → G.testBit x = true → 0 < w.2.1 x y → H.testBit y = true)) (fun r => ∃ H, r = nI H ∧ H < 2 ^ w.1 ∧ Sub w.1 G H ∧ (∀ C, Sub w.1 G C → Cl w C → Sub w.1 H C) ∧ (∀ x y, x < w.1 → y < w.1 → G.testBit x = true → 0 < w.2.1 x y → H.testBit y = true)) w.1 (by omega) ⟨G, rfl, hG, fun _ _ q => q, fun C c _ => c, fun x y hx => by omega⟩ (by
    rintro a s ha ⟨H, rfl, g1, g2, g3, g4⟩
    left
    obtain ⟨H', k1, k2, k3, k4, k5, k6⟩ := inner a H ha g1 g2 g3
    refine ⟨_, ?_, H', rfl, k2, k3, k5, fun x y hx hy qx qw => ?_⟩
    · unfold mX7_groups_l30
      simp (disch := omega) only [hm.1, nlt, ha, if_true]
      exact k1
    · by_cases e : x = a
      · subst e; exact k6 y hy qx qw
      · exact k4 y hy (g4 x y (by omega) hy qx qw)) (by
    rintro s ⟨H, rfl, g1, g2, g3, g4⟩
    refine ⟨_, ?_, H, rfl, g1, g2, g3, g4⟩
    unfold mX7_groups_l30
    simp (disch := omega) only [hm.1, nlt, Nat.lt_irrefl, if_false])
  refine ⟨H, by rw [e1, e2], e3, e4, e5, fun e => ?_⟩
  intro x y hx hy qx qw
  rw [← e]
  rw [e] at e6
  rw [e]
  exact e6 x y hx hy qx qw
