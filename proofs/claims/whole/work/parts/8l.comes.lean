/-! ===== E: in how many ways a state is come to ===== -/
def stb (s l : Nat) : Bool := (decide (s = 0) && decide (l = 0)) || s.testBit l
theorem stb_St {n s l : Nat} (hs : s < 2 ^ n) : stb s l = true ↔ St n s l := by
  unfold stb
  rw [Bool.or_eq_true, Bool.and_eq_true, decide_eq_true_eq, decide_eq_true_eq]
  constructor
  · rintro (h | h)
    · exact ⟨hs, Or.inl h⟩
    · refine ⟨hs, Or.inr ⟨?_, h⟩⟩
      refine Nat.lt_of_not_le fun q => ?_
      rw [Nat.testBit_lt_two_pow (Nat.lt_of_lt_of_le hs (Nat.pow_le_pow_right (by decide) q))] at h
      cases h
  · rintro ⟨_, h | h⟩
    · exact Or.inl h
    · exact Or.inr h.2
/-- how often a state stands in a list -/
def cq (L : List (Nat × Nat)) (s l : Nat) : Nat := ws (fun a => if a.1 = s ∧ a.2 = ls s l then 1 else 0) L
def OkS (n i : Nat) (a : Nat × Nat) : Prop := ∃ s l, St n s l ∧ a = (s, ls s l) ∧ cnt n s = i
theorem ws_zero {α : Type} {F : α → Nat} {L : List α} (h : ∀ a, a ∈ L → F a = 0) : ws F L = 0 := by
  rw [ws_congr (G := fun _ => 0) h]
  induction L with
  | nil => rfl
  | cons a L ih =>
    show 0 + ws (fun _ => 0) L = 0
    rw [ih (fun b hb => h b (List.mem_cons_of_mem _ hb))]
theorem sm_sw (f : Nat → Nat → Nat) (n : Nat) : ∀ m, sm m (fun x => sm n (fun y => f x y)) = sm m (fun x => sm n (f x)) := fun m => rfl
theorem ws_states {n i : Nat} (hn : n ≤ 10) (F : Nat × Nat → Nat) : ∀ L, (∀ a, a ∈ L → OkS n i a) → ws F L = sm (2 ^ n) (fun s => sm 10 (fun l => if stb s l = true then cq L s l * F (s, ls s l) else 0))
  | [], _ => by
    symm
    rw [sm_congr (g := fun _ => 0), sm_0]
    · rfl
    · intro s hs
      rw [sm_congr (g := fun _ => 0), sm_0]
      intro l hl
      show (if stb s l = true then 0 * F (s, ls s l) else 0) = 0
      split
      · exact Nat.zero_mul _
      · rfl
  | a :: L, h => by
    have ih := ws_states hn F L fun b hb => h b (List.mem_cons_of_mem _ hb)
    obtain ⟨s0, l0, hst, ha, -⟩ := h a List.mem_cons_self
    show F a + ws F L = _
    rw [ih]
    have e1 : ∀ s l, s < 2 ^ n → l < 10 → (if stb s l = true then cq (a :: L) s l * F (s, ls s l) else 0) = (if s = s0 then (if l = l0 then F a else 0) else 0) + (if stb s l = true then cq L s l * F (s, ls s l) else 0) := fun s l hs hl => by
      have hcq : cq (a :: L) s l = (if a.1 = s ∧ a.2 = ls s l then 1 else 0) + cq L s l := rfl
      by_cases b : stb s l = true
      · rw [if_pos b, if_pos b, hcq, Nat.add_mul]
        congr 1
        have hst2 := (stb_St hs).mp b
        by_cases e : s = s0 ∧ l = l0
        · rw [if_pos e.1, if_pos e.2, if_pos, Nat.one_mul]
          · rw [ha, e.1, e.2]
          · rw [ha, e.1, e.2]; exact ⟨rfl, rfl⟩
        · have hne : ¬ (a.1 = s ∧ a.2 = ls s l) := fun ⟨z1, z2⟩ => by
            rw [ha] at z1 z2
            have z1 : s0 = s := z1
            have z2 : ls s0 l0 = ls s l := z2
            subst z1
            refine e ⟨rfl, ?_⟩
            unfold ls at z2
            by_cases c : s0 = 0
            · rcases hst.2 with y | y
              · rcases hst2.2 with y2 | y2
                · omega
                · rw [c, Nat.zero_testBit] at y2; cases y2.2
              · rw [c, Nat.zero_testBit] at y; cases y.2
            · rw [if_neg c, if_neg c] at z2
              exact z2.symm
          rw [if_neg hne, Nat.zero_mul]
          by_cases e1 : s = s0
          · rw [if_pos e1, if_neg (fun e2 => e ⟨e1, e2⟩)]
          · rw [if_neg e1]
      · rw [if_neg b, if_neg b]
        by_cases e1 : s = s0
        · by_cases e2 : l = l0
          · exfalso
            rw [e1, e2] at b
            exact b ((stb_St hst.1).mpr hst)
          · rw [if_pos e1, if_neg e2]
        · rw [if_neg e1]
    have e2 : sm (2 ^ n) (fun s => sm 10 (fun l => if stb s l = true then cq (a :: L) s l * F (s, ls s l) else 0)) = sm (2 ^ n) (fun s => (if s = s0 then F a else 0) + sm 10 (fun l => if stb s l = true then cq L s l * F (s, ls s l) else 0)) := sm_congr fun s hs => by
      rw [sm_congr (fun l hl => e1 s l hs hl), sm_add]
      congr 1
      by_cases e : s = s0
      · rw [if_pos e, sm_congr (g := fun l => if l = l0 then F a else 0) (fun l _ => by rw [if_pos e]), sm_one (F a) (hst.l10 hn)]
      · rw [if_neg e, sm_congr (g := fun _ => 0) (fun l _ => by rw [if_neg e]), sm_0]
    rw [e2, sm_add, sm_one (F a) hst.1]
theorem fst1_mem {G : Rl} {n : Nat} {b : Nat × Nat} : ∀ {L : List (Nat × Nat)}, b ∈ fst1 G n L → ∃ a x, a ∈ L ∧ x < n ∧ G a.1 a.2 x = true ∧ b = (ins a.1 x, x)
  | [], h => by cases h
  | a :: L, h => by
    have h : b ∈ fm n (fun x => if G a.1 a.2 x = true then [(ins a.1 x, x)] else []) ++ fst1 G n L := h
    rcases List.mem_append.mp h with h | h
    · obtain ⟨x, hx, hb⟩ := fm_mem.mp h
      by_cases c : G a.1 a.2 x = true
      · rw [if_pos c] at hb
        exact ⟨a, x, List.mem_cons_self, hx, c, List.mem_singleton.mp hb⟩
      · rw [if_neg c] at hb; cases hb
    · obtain ⟨a', x, h1, h2⟩ := fst1_mem h
      exact ⟨a', x, List.mem_cons_of_mem _ h1, h2⟩
theorem pfx_ok {G : Rl} {n : Nat} (hf : Fresh G n) : ∀ i a, a ∈ pfx G n i → OkS n i a
  | 0, a, h => by
    have h : a ∈ [(0, 10)] := h
    rw [List.mem_singleton.mp h]
    exact ⟨0, 0, ⟨Nat.two_pow_pos n, Or.inl ⟨rfl, rfl⟩⟩, rfl, cnt_0 n⟩
  | i + 1, b, h => by
    obtain ⟨a, x, h1, h2, h3, h4⟩ := fst1_mem h
    obtain ⟨s, l, g1, g2, g3⟩ := pfx_ok hf i a h1
    rw [g2] at h3 h4
    obtain ⟨z1, z2⟩ := St_ins g1.1 h2
    refine ⟨ins s x, x, z1, ?_, ?_⟩
    · rw [h4, z2]
    · rw [cnt_ins h2 (hf _ _ _ h3).2, g3]
/-- in how many ways least orders come to a state -/
def cN (G : Rl) (n s l : Nat) : Nat := cq (pfx G n (cnt n s)) s l
theorem cN_0 (G : Rl) (n : Nat) : cN G n 0 0 = 1 := by
  unfold cN
  rw [cnt_0]
  rfl
theorem cq_no {G : Rl} {n i s l : Nat} (hf : Fresh G n) (h : cnt n s ≠ i) : cq (pfx G n i) s l = 0 := by
  unfold cq
  refine ws_zero fun a ha => ?_
  obtain ⟨s', l', g1, g2, g3⟩ := pfx_ok hf i a ha
  rw [if_neg]
  rintro ⟨z1, z2⟩
  rw [g2] at z1
  have z1 : s' = s := z1
  rw [z1] at g3
  exact h g3
theorem del_ins {s x : Nat} (h : s.testBit x = false) : del (ins s x) x = s := by
  refine Nat.eq_of_testBit_eq fun i => ?_
  rw [del_bit, ins_bit]
  by_cases c : x = i
  · subst c; simp [h]
  · simp [c]
theorem ins_del {s x : Nat} (h : s.testBit x = true) : ins (del s x) x = s := by
  refine Nat.eq_of_testBit_eq fun i => ?_
  rw [ins_bit, del_bit]
  by_cases c : x = i
  · subst c; simp [h]
  · simp [c]
/-- a state is come to from those one step ahead of it -/
theorem cN_step {G : Rl} {n s x : Nat} (hf : Fresh G n) (hn : n ≤ 10) (hs : s < 2 ^ n) (hx : x < n) (hnew : s.testBit x = false) : cN G n (ins s x) x = sm 10 (fun l => if stb s l = true then (if G s (ls s l) x = true then cN G n s l else 0) else 0) := by
  have hi := ins_lt hs hx
  have z2 := (St_ins hs hx).2
  unfold cN
  rw [cnt_ins hx hnew]
  show ws _ (fst1 G n (pfx G n (cnt n s))) = _
  rw [ws_fst1, ws_states (i := cnt n s) hn _ _ (pfx_ok hf _)]
  have key : ∀ s' l', s' < 2 ^ n → l' < 10 → stb s' l' = true → cq (pfx G n (cnt n s)) s' l' * sm n (fun y => if G s' (ls s' l') y = true then (if ins s' y = ins s x ∧ y = ls (ins s x) x then 1 else 0) else 0) = if s' = s then (if G s (ls s l') x = true then cq (pfx G n (cnt n s)) s l' else 0) else 0 := fun s' l' hs' hl' hb => by
    have e1 : sm n (fun y => if G s' (ls s' l') y = true then (if ins s' y = ins s x ∧ y = ls (ins s x) x then 1 else 0) else 0) = if s' = s ∧ G s (ls s l') x = true then 1 else 0 := by
      by_cases c : s' = s ∧ G s (ls s l') x = true
      · obtain ⟨rfl, c2⟩ := c
        rw [if_pos ⟨rfl, c2⟩, sm_congr (g := fun y => if y = x then 1 else 0), sm_one 1 hx]
        intro y hy
        by_cases e : y = x
        · subst e
          rw [if_pos rfl, if_pos c2, if_pos ⟨rfl, z2.symm⟩]
        · rw [if_neg e]
          by_cases g : G s' (ls s' l') y = true
          · rw [if_pos g, if_neg (fun q => e (by rw [q.2, z2]))]
          · rw [if_neg g]
      · rw [if_neg c, sm_congr (g := fun _ => 0), sm_0]
        intro y hy
        by_cases g : G s' (ls s' l') y = true
        · rw [if_pos g, if_neg]
          rintro ⟨q1, q2⟩
          rw [z2] at q2
          subst q2
          have hy2 := (hf _ _ _ g).2
          have : s' = s := by rw [← del_ins hy2, q1, del_ins hnew]
          subst this
          exact c ⟨rfl, g⟩
        · rw [if_neg g]
    rw [e1]
    by_cases c : s' = s
    · subst c
      by_cases c2 : G s' (ls s' l') x = true
      · rw [if_pos ⟨rfl, c2⟩, if_pos rfl, if_pos c2, Nat.mul_one]
      · rw [if_neg (fun q => c2 q.2), if_pos rfl, if_neg c2, Nat.mul_zero]
    · rw [if_neg (fun q => c q.1), if_neg c, Nat.mul_zero]
  have e2 : ∀ s', s' < 2 ^ n → sm 10 (fun l' => if stb s' l' = true then cq (pfx G n (cnt n s)) s' l' * sm n (fun y => if G s' (ls s' l') y = true then (if ins s' y = ins s x ∧ y = ls (ins s x) x then 1 else 0) else 0) else 0) = if s' = s then sm 10 (fun l => if stb s l = true then (if G s (ls s l) x = true then cq (pfx G n (cnt n s)) s l else 0) else 0) else 0 := fun s' hs' => by
    by_cases c : s' = s
    · rw [if_pos c]
      refine sm_congr fun l' hl' => ?_
      by_cases b : stb s' l' = true
      · rw [if_pos b, key s' l' hs' hl' b, if_pos c, if_pos (show stb s l' = true by rw [← c]; exact b)]
      · rw [if_neg b, if_neg (by rw [← c]; exact b)]
    · rw [if_neg c, sm_congr (g := fun _ => 0), sm_0]
      intro l' hl'
      by_cases b : stb s' l' = true
      · rw [if_pos b, key s' l' hs' hl' b, if_neg c]
      · rw [if_neg b]
  rw [sm_congr e2, sm_one _ hs]
theorem cN_le {G : Rl} {n : Nat} (hf : Fresh G n) (hn : n ≤ 10) : ∀ i s l, St n s l → cnt n s = i → cN G n s l ≤ fct i
  | 0, s, l, hst, hc => by
    have hs0 : s = 0 := by
      refine Nat.eq_of_testBit_eq fun j => ?_
      rw [Nat.zero_testBit]
      by_cases hj : j < n
      · cases b : s.testBit j with
        | false => rfl
        | true =>
          have := cnt_more (s := 0) (t := s) (fun y _ q => by rw [Nat.zero_testBit] at q; cases q) hj (Nat.zero_testBit j) b
          rw [cnt_0] at this
          omega
      · exact Nat.testBit_lt_two_pow (Nat.lt_of_lt_of_le hst.1 (Nat.pow_le_pow_right (by decide) (by omega)))
    subst hs0
    rcases hst.2 with h | h
    · rw [h.2, cN_0]
      exact Nat.le_refl _
    · rw [Nat.zero_testBit] at h; cases h.2
  | i + 1, s, l, hst, hc => by
    have hln : l < n ∧ s.testBit l = true := by
      rcases hst.2 with h | h
      · rw [h.1, cnt_0] at hc; omega
      · exact h
    have hdn : (del s l).testBit l = false := by rw [del_bit]; simp
    have hds : del s l < 2 ^ n := del_lt hst.1
    have hcd := cnt_del hln.1 hln.2
    have e := cN_step hf hn hds hln.1 hdn
    rw [ins_del hln.2] at e
    rw [e]
    by_cases z : i = 0
    · subst z
      have hd0 : del s l = 0 := by
        refine Nat.eq_of_testBit_eq fun j => ?_
        rw [Nat.zero_testBit]
        by_cases hj : j < n
        · cases b : (del s l).testBit j with
          | false => rfl
          | true =>
            have := cnt_more (s := 0) (t := del s l) (fun y _ q => by rw [Nat.zero_testBit] at q; cases q) hj (Nat.zero_testBit j) b
            rw [cnt_0] at this
            omega
        · exact Nat.testBit_lt_two_pow (Nat.lt_of_lt_of_le hds (Nat.pow_le_pow_right (by decide) (by omega)))
      rw [hd0]
      have h1 : sm 10 (fun l' => if stb 0 l' = true then (if G 0 (ls 0 l') l = true then cN G n 0 l' else 0) else 0) ≤ sm 10 (fun l' => if l' = 0 then 1 else 0) := sm_mono fun l' hl' => by
        by_cases c : l' = 0
        · subst c
          rw [if_pos rfl, if_pos (by decide), cN_0]
          split <;> omega
        · rw [if_neg c, if_neg]
          · exact Nat.le_refl _
          · unfold stb
            rw [Nat.zero_testBit]
            simp [c]
      rw [sm_one 1 (by decide)] at h1
      exact h1
    · have h1 : sm 10 (fun l' => if stb (del s l) l' = true then (if G (del s l) (ls (del s l) l') l = true then cN G n (del s l) l' else 0) else 0) ≤ sm 10 (fun l' => if (del s l).testBit l' = true then fct i else 0) := sm_mono fun l' hl' => by
        by_cases c : stb (del s l) l' = true
        · have hst' := (stb_St hds).mp c
          have hb : (del s l).testBit l' = true := by
            rcases hst'.2 with h | h
            · exfalso
              rw [h.1, cnt_0] at hcd
              omega
            · exact h.2
          rw [if_pos c, if_pos hb]
          have := cN_le hf hn i (del s l) l' hst' (by omega)
          split <;> omega
        · rw [if_neg c]; exact Nat.zero_le _
      have h2 : sm 10 (fun l' => if (del s l).testBit l' = true then fct i else 0) = fct i * cnt 10 (del s l) := by
        rw [cnt_sm, ← sm_mul]
        refine sm_congr fun l' _ => ?_
        split
        · rw [Nat.mul_one]
        · rw [Nat.mul_zero]
      have h3 : cnt 10 (del s l) = i := by
        rw [cnt_10 hn (fun y hy => Nat.testBit_lt_two_pow (Nat.lt_of_lt_of_le hds (Nat.pow_le_pow_right (by decide) hy)))]
        omega
      rw [h3] at h2
      show _ ≤ (i + 1) * fct i
      have : fct i * i ≤ (i + 1) * fct i := by
        rw [Nat.mul_comm (fct i)]
        exact Nat.mul_le_mul_right _ (by omega)
      omega
