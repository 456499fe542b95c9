/-! ===== reading: heads, blanks, the whole text ===== -/
def w0 (n : Nat) : Wd := (n, fun _ _ => 0, 0, fun _ => (0, 0, 0, 0), fun _ => false)
theorem w0_ok {n : Nat} (h : n ≤ 10) : WOk (w0 n) := ⟨h, fun _ _ => Nat.zero_le _, fun _ _ => rfl, fun _ _ _ => rfl, Nat.zero_le _, fun k hk => absurd hk (Nat.not_lt_zero k), fun _ _ => rfl⟩
theorem tr_st_id {M : tr_M} {a k : Nat} {v : Int32} (h : M.1 a k = v) : tr_st M a k v = M := by
  refine Prod.ext (funext fun b => funext fun j => ?_) rfl
  rw [tr_st_1]
  by_cases z : b = a ∧ j = k
  · rw [if_pos z, z.1, z.2, h]
  · rw [if_neg z]
theorem clear_wd {o n : Nat} {M : tr_M} (hlen : ∀ a, a < 10 → tr_len shC (o + 2 + a) = 10) : ∃ N, mX5_clear o (nI n) M = some N ∧ CWd (w0 n) o N ∧ (∀ c, c ≠ o → (c < o + 2 ∨ o + 13 < c) → N.1 c = M.1 c) ∧ N.2 = M.2 := by
  unfold mX5_clear
  simp only [Option.bind_some]
  obtain ⟨N, e1, e2, e3, e4, e5, e6⟩ := tr_loop_inv (step := mX5_clear_l17 o) (s0 := (0, tr_st (tr_st (tr_st M o 0 (nI n)) o 1 0) o 2 0)) (fun a s => ∃ N, s = (nI a, N) ∧ N.1 o = (tr_st (tr_st (tr_st M o 0 (nI n)) o 1 0) o 2 0).1 o ∧ (∀ x, x < a → (∀ y, y < 10 → N.1 (o + 2 + x) y = 0) ∧ N.1 (o + 12) x = 0 ∧ N.1 (o + 13) x = 0) ∧ (∀ c, c ≠ o → (c < o + 2 ∨ o + 13 < c) → N.1 c = M.1 c) ∧ N.2 = M.2) (fun N => N.1 o = (tr_st (tr_st (tr_st M o 0 (nI n)) o 1 0) o 2 0).1 o ∧ (∀ x, x < 10 → (∀ y, y < 10 → N.1 (o + 2 + x) y = 0) ∧ N.1 (o + 12) x = 0 ∧ N.1 (o + 13) x = 0) ∧ (∀ c, c ≠ o → (c < o + 2 ∨ o + 13 < c) → N.1 c = M.1 c) ∧ N.2 = M.2 ∧ True) 10 (by decide) ⟨_, rfl, rfl, fun x hx => by omega, fun c h1 _ => by rw [tr_st_ne h1, tr_st_ne h1, tr_st_ne h1], rfl⟩ (by
    rintro a s ha ⟨N, rfl, h1, h2, h3, h4⟩
    left
    have hla := hlen a ha
    unfold mX5_clear_l17
    dsimp only
    have c1 : nI a < (10 : Int32) := by rw [show (10 : Int32) = nI 10 from rfl]; exact (nlt (by omega) (by decide)).mpr ha
    rw [if_pos c1, tr_ra_nI ha (by decide)]
    simp only [Option.bind_some]
    rw [fillAll_eq (by omega) (by omega), hla]
    simp only [Option.bind_some]
    rw [tr_wr_nI ha (by decide)]
    simp only [Option.bind_some]
    rw [tr_wr_nI ha (by decide)]
    simp only [Option.bind_some, nadd1]
    refine ⟨_, rfl, _, rfl, ?_, fun x hx => ?_, fun c q1 q2 => ?_, h4⟩
    · rw [tr_st_ne (by omega), tr_st_ne (by omega), tr_row_ne (by omega)]; exact h1
    · by_cases e : x = a
      · subst e
        refine ⟨fun y hy => ?_, ?_, ?_⟩
        · rw [tr_st_ne (by omega), tr_st_ne (by omega), tr_row_s, fl_in (by omega) (by omega)]
        · rw [tr_st_ne (by omega), tr_st_s]
        · rw [tr_st_s]
      · obtain ⟨g1, g2, g3⟩ := h2 x (by omega)
        refine ⟨fun y hy => ?_, ?_, ?_⟩
        · rw [tr_st_ne (by omega), tr_st_ne (by omega), tr_row_ne (by omega)]; exact g1 y hy
        · rw [tr_st_ne (by omega), tr_st_j e, tr_row_ne (by omega)]; exact g2
        · rw [tr_st_j e, tr_st_ne (by omega), tr_row_ne (by omega)]; exact g3
    · rw [tr_st_ne (by omega), tr_st_ne (by omega), tr_row_ne (by omega)]; exact h3 c q1 q2) (by
    rintro s ⟨N, rfl, h1, h2, h3, h4⟩
    refine ⟨N, ?_, h1, h2, h3, h4, trivial⟩
    unfold mX5_clear_l17
    dsimp only
    rw [if_neg (show ¬ nI 10 < (10 : Int32) by decide)])
  refine ⟨N, e1, ⟨?_, ?_, ?_, fun a b ha hb => ?_, fun a ha => ?_, fun a ha => ?_, fun k hk => absurd hk (Nat.not_lt_zero k)⟩, e4, e5⟩
  · rw [e2, tr_st_j (by decide), tr_st_j (by decide), tr_st_s]; rfl
  · rw [e2, tr_st_j (by decide), tr_st_s]; rfl
  · have : obits (w0 n) = 0 := by
      show mkb 8 (fun _ => false) = 0
      decide
    rw [e2, tr_st_s, this]; rfl
  · rw [(e3 a ha).1 b hb]; rfl
  · rw [(e3 a ha).2.1]
    have : tied (w0 n) a = 0 := by
      show mkb 10 (fun b => decide (0 < 0)) = 0
      decide
    rw [this]; rfl
  · rw [(e3 a ha).2.2]; rfl
theorem len5 : ∀ a, a < 10 → tr_len shC (5 + 2 + a) = 10 := fun a ha => by
  have : ∀ a : Fin 10, tr_len shC (5 + 2 + a.1) = 10 := by decide +kernel
  exact this ⟨a, ha⟩
theorem len26 : ∀ a, a < 10 → tr_len shC (26 + 2 + a) = 10 := fun a ha => by
  have : ∀ a : Fin 10, tr_len shC (26 + 2 + a.1) = 10 := by decide +kernel
  exact this ⟨a, ha⟩
/-- blanks -/
theorem blanks {s : Nat} {b : Nat → Int32} : ∀ {d p : Nat}, p + d = s → ∃ p1, p ≤ p1 ∧ p1 ≤ s ∧ (∀ j, p ≤ j → j < p1 → b j = 32) ∧ (p1 < s → b p1 ≠ 32)
  | 0, p, h => ⟨p, Nat.le_refl _, by omega, fun j h1 h2 => by omega, fun h => by omega⟩
  | d + 1, p, h => by
    by_cases c : b p = 32
    · obtain ⟨p1, h1, h2, h3, h4⟩ := blanks (b := b) (d := d) (p := p + 1) (show p + 1 + d = s by omega)
      refine ⟨p1, by omega, h2, fun j a1 a2 => ?_, h4⟩
      by_cases e : j = p
      · rw [e]; exact c
      · exact h3 j (by omega) a2
    · exact ⟨p, Nat.le_refl _, by omega, fun j h1 h2 => by omega, fun _ => c⟩
theorem skip_eq {t s p p1 : Nat} {b : Nat → Int32} {N1 N2 : tr_M} (h : TX t s b N1 N2) (hc : CR t p N1) (h1 : p ≤ p1) (h2 : p1 ≤ s) (h3 : ∀ j, p ≤ j → j < p1 → b j = 32) (h4 : p1 < s → b p1 ≠ 32) : mX3_skipBlanks N1 = some (tr_st N1 4 2 (nI p1)) := by
  have hs := h.2.1
  have hsig : ∀ q, q ≤ 200 → mX3_sign (tr_st N1 4 2 (nI q)) = some (if q < s then b q else -9) := fun q hq => sign_eq (h.kb (KB.st (by omega)) KMB.rf) ⟨by rw [tr_st_j (by decide)]; exact hc.1, tr_st_s⟩ hq
  unfold mX3_skipBlanks
  refine tr_loop_seq' (fun d => (nI d, tr_st N1 4 2 (nI (p + d)))) (p1 - p) ?_ (by omega) (fun d hd => ?_) ?_
  · show (nI 0, tr_st N1 4 2 (nI (p + 0))) = _
    rw [Nat.add_zero, tr_st_id hc.2]
    rfl
  · unfold mX3_skipBlanks_l2
    dsimp only
    have c1 : nI d < (120 : Int32) := by rw [show (120 : Int32) = nI 120 from rfl]; exact (nlt (by omega) (by decide)).mpr (by omega)
    rw [if_pos c1, hsig (p + d) (by omega), if_pos (by omega), h3 (p + d) (by omega) (by omega), Option.bind_some, if_pos rfl, Option.bind_some, tr_st_s, nadd1, nadd1, show p + (d + 1) = p + d + 1 by omega]
    congr 3
    refine Prod.ext (funext fun x => funext fun y => ?_) rfl
    rw [tr_st_1, tr_st_1, tr_st_1]
    by_cases z : x = 4 ∧ y = 2
    · rw [if_pos z, if_pos z]
    · rw [if_neg z, if_neg z, if_neg z]
  · unfold mX3_skipBlanks_l2
    dsimp only
    rw [show p + (p1 - p) = p1 by omega]
    by_cases c : p1 - p < 120
    · have c1 : nI (p1 - p) < (120 : Int32) := by rw [show (120 : Int32) = nI 120 from rfl]; exact (nlt (by omega) (by decide)).mpr c
      rw [if_pos c1, hsig p1 (by omega), Option.bind_some]
      by_cases d : p1 < s
      · rw [if_pos d, if_neg (h4 d)]
      · rw [if_neg d, if_neg (by decide)]
    · have c1 : ¬ nI (p1 - p) < (120 : Int32) := by rw [show (120 : Int32) = nI 120 from rfl, nlt (by omega) (by decide)]; omega
      rw [if_neg c1]
theorem skipM {t s p : Nat} {b : Nat → Int32} {N1 N2 : tr_M} (h : TX t s b N1 N2) (hm : N2.1 1 14 = nI p) : ∀ k m, p + k ≤ s → (∀ j, p ≤ j → j < p + k → b j = 32) → tr_it (mX7_faultOf_l36 (nI t)) (k + m) N2 = tr_it (mX7_faultOf_l36 (nI t)) m (tr_st N2 1 14 (nI (p + k))) := by
  have hs := h.2.1
  intro k
  induction k with
  | zero =>
    intro m _ _
    rw [Nat.zero_add, Nat.add_zero, tr_st_id hm]
  | succ k ih =>
    intro m hk hb
    rw [show k + 1 + m = k + (m + 1) by omega, ih (m + 1) (by omega) (fun j a1 a2 => hb j a1 (by omega))]
    have hT := h.kb KB.rf (KMB.st (M := N2) (k := 14) (v := nI (p + k)) (by omega))
    refine tr_it_l ?_
    unfold mX7_faultOf_l36
    have c1 : nI (p + k) < nI s := (nlt (by omega) (by omega)).mpr (by omega)
    rw [tr_rd_nI h.1 (by decide), Option.bind_some, hT.2.2.2.2.1, tr_st_s, if_pos c1, byte_eq hT (by omega), Option.bind_some, if_pos (show p + k < s by omega), hb (p + k) (by omega) (by omega), if_pos rfl, Option.bind_some, nadd1]
    congr 2
    refine Prod.ext (funext fun x => funext fun y => ?_) rfl
    rw [tr_st_1, tr_st_1, tr_st_1]
    by_cases z : x = 1 ∧ y = 14
    · rw [if_pos z, if_pos z]
      rfl
    · rw [if_neg z, if_neg z, if_neg z]
theorem in_fig {c : Int32} : (∃ v, v ≤ 9 ∧ c = nI (48 + v) ∧ mX7_in c 48 57 = 1) ∨ ((¬ ∃ v, v ≤ 9 ∧ c = nI (48 + v)) ∧ mX7_in c 48 57 = 0) := by
  by_cases q : ∃ v, v ≤ 9 ∧ c = nI (48 + v)
  · left
    obtain ⟨v, hv, ev⟩ := q
    obtain ⟨f1, f2, -, -⟩ := fig_yes hv
    refine ⟨v, hv, ev, ?_⟩
    unfold mX7_in
    rw [ev, if_neg f1, if_neg f2]
  · right
    refine ⟨q, ?_⟩
    obtain ⟨f1, -⟩ := fig_no q
    unfold mX7_in
    by_cases z : c < 48
    · rw [if_pos z]
    · rw [if_neg z, if_pos (f1.resolve_left z)]
/-- the model's figures of a head -/
theorem cntStep {t s p v many : Nat} {b : Nat → Int32} {N1 N2 : tr_M} (h : TX t s b N1 N2) (hm : N2.1 1 14 = nI p) (hp : p ≤ 200) (hmany : many < 2) : (∀ u, u ≤ 9 → p < s → b p = nI (48 + u) → mX7_readsCount_l30 (nI t) (nI many, nI v, N2) = some (.inl (nI (many + 1), nI (10 * v + u), tr_st N2 1 14 (nI (p + 1))))) ∧ ((p < s → ¬ ∃ u, u ≤ 9 ∧ b p = nI (48 + u)) → mX7_readsCount_l30 (nI t) (nI many, nI v, N2) = some (.inr (nI many, nI v, N2))) := by
  have c1 : nI many < (2 : Int32) := by rw [show (2 : Int32) = nI 2 from rfl]; exact (nlt (by omega) (by decide)).mpr hmany
  unfold mX7_readsCount_l30
  dsimp only
  rw [if_pos c1, hm, byte_eq h hp]
  simp only [Option.bind_some]
  constructor
  · intro u hu hlt eb
    rw [if_pos hlt, eb]
    have hin : mX7_in (nI (48 + u)) 48 57 = 1 := by
      obtain ⟨f1, f2, -, -⟩ := fig_yes hu
      unfold mX7_in
      rw [if_neg f1, if_neg f2]
    rw [hin, if_neg (by decide), nadd1, nadd1]
    have : (10 : Int32) * nI v + nI (48 + u) - 48 = nI (10 * v + u) := by
      rw [show (10 : Int32) = nI 10 from rfl, nmul, nadd, show (48 : Int32) = nI 48 from rfl, nsub (by omega)]
      congr 1
      omega
    rw [this]
  · intro hno
    by_cases c : p < s
    · rw [if_pos c]
      rcases in_fig (c := b p) with ⟨v', hv', ev', -⟩ | ⟨-, q⟩
      · exact absurd ⟨v', hv', ev'⟩ (hno c)
      · rw [q, if_pos rfl]
    · rw [if_neg c, if_pos (show mX7_in 0 48 57 = 0 by decide)]
theorem MR0_st {M : tr_M} {v : Int32} (h : MR (w0 0) M) : MR (w0 0) (tr_st M 1 14 v) := h.st (Or.inl rfl)
