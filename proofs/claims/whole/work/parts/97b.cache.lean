theorem KW.ks {M N : tr_M} (h : KW M N) : KS M N := ⟨fun c hc => h.1 c (by omega) (by omega) (by omega), fun k _ => by rw [h.1 25 (by decide) (by decide) (by decide)], h.2.2⟩
def KL (M N : tr_M) : Prop := (∀ c, c ≠ 1 → c < 24 ∨ 61 < c ∨ (25 < c ∧ c < 44) ∨ c = 57 → N.1 c = M.1 c) ∧ (∀ k, k ≠ 15 → k ≠ 16 → N.1 1 k = M.1 1 k) ∧ (∀ k, 12 < k → N.1 25 k = M.1 25 k) ∧ N.2 = M.2
theorem KL.rf {M : tr_M} : KL M M := ⟨fun _ _ _ => rfl, fun _ _ _ => rfl, fun _ _ => rfl, rfl⟩
theorem KL.tr {M N P : tr_M} (h : KL M N) (g : KL N P) : KL M P := ⟨fun c a b => (g.1 c a b).trans (h.1 c a b), fun k a b => (g.2.1 k a b).trans (h.2.1 k a b), fun k a => (g.2.2.1 k a).trans (h.2.2.1 k a), g.2.2.2.trans h.2.2.2⟩
theorem KS.kl {M N : tr_M} (h : KS M N) : KL M N := ⟨fun c _ hc => h.1 c hc, fun k _ _ => by rw [h.1 1 (by decide)], h.2.1, h.2.2⟩
theorem KL.st {M : tr_M} {k : Nat} {v : Int32} (hk : k = 15 ∨ k = 16) : KL M (tr_st M 1 k v) := ⟨fun c c1 _ => tr_st_ne c1, fun j j1 j2 => tr_st_j (by omega), fun j _ => by rw [tr_st_ne (by decide)], rfl⟩
theorem CWd.kl {w : Wd} {M N : tr_M} (h : CWd w 26 M) (hs : KL M N) : CWd w 26 N := h.congr fun b h1 h2 => hs.1 b (by omega) (by omega)
theorem PinM.kl {pin : Option (Nat × Nat)} {M N : tr_M} (h : PinM pin M) (hs : KL M N) : PinM pin N := by
  cases pin with
  | none => show N.1 25 13 = -9; rw [hs.2.2.1 13 (by decide)]; exact h
  | some p =>
    obtain ⟨h1, h2, h3⟩ := h
    exact ⟨by rw [hs.2.2.1 13 (by decide)]; exact h1, by rw [hs.2.2.1 14 (by decide)]; exact h2, h3⟩
theorem ITF.kl {M1 M2 N1 : tr_M} (h : ITF M1 M2) (h1 : KL M1 N1) : ITF N1 M2 := h.congr (fun c _ _ _ _ _ => h1.1 c (by omega) (by omega)) (fun k _ => h1.2.1 k (by omega) (by omega)) h1.2.2.2 (fun _ _ _ _ => rfl) (fun _ _ => rfl) (fun _ _ => rfl)
/-- which object holds the least orders of a measure; that it holds them -/
def rf (m : Nat) : Nat := if m = 4 then 24 else 25
def Lst (w : Wd) (pin : Option (Nat × Nat)) (m : Nat) (N : tr_M) : Prop := if m = 4 then w.1 ≤ 8 ∧ WK w (LQ w pin) (LM w pin) N else SR w (nxW stC w pin) m N
/-- the cache is sound -/
def Cch (w : Wd) (pin : Option (Nat × Nat)) (M : tr_M) : Prop := M.1 1 15 = -9 ∨ ∃ m, m ≤ 5 ∧ M.1 1 15 = nI m ∧ ((M.1 1 16 = nI 0 ∧ Al w pin = []) ∨ (Al w pin ≠ [] ∧ M.1 1 16 = nI (rf m) ∧ Lst w pin m M))
theorem Lst.cg {w : Wd} {pin : Option (Nat × Nat)} {m : Nat} {M N : tr_M} (h : Lst w pin m M) (hN : ∀ c, 24 ≤ c → c ≤ 54 → c ≠ 44 → N.1 c = M.1 c) : Lst w pin m N := by
  unfold Lst at h ⊢
  by_cases c : m = 4
  · rw [if_pos c] at h ⊢
    exact ⟨h.1, h.2.ks (hN 24 (by decide) (by decide) (by decide)) (hN 54 (by decide) (by decide) (by decide))⟩
  · rw [if_neg c] at h ⊢
    exact h.cg fun c hc => hN c (by omega) (by omega) (by omega)
def Cc (w : Wd) (pin : Option (Nat × Nat)) (m : Nat) (N : tr_M) : Prop := N.1 1 15 = nI m ∧ N.1 1 16 = nI (rf m) ∧ Lst w pin m N
theorem Cc.cch {w : Wd} {pin : Option (Nat × Nat)} {m : Nat} {N : tr_M} (h : Cc w pin m N) (hm : m ≤ 5) (hne : Al w pin ≠ []) : Cch w pin N := Or.inr ⟨m, hm, h.1, Or.inr ⟨hne, h.2.1, h.2.2⟩⟩
theorem walked_eq {w : Wd} {pin : Option (Nat × Nat)} {M : tr_M} (hok : WOk w) (h8 : w.1 ≤ 8) (hpo : pinOk w.1 pin) (hw : CWd w 26 M) (hS : SR w (nxW stC w pin) 5 M) : ∃ N, mX6_walked M = some (24, N) ∧ KS M N ∧ WK w (LQ w pin) (LM w pin) N := by
  obtain ⟨F, f1, f2, f3, f4, f5, -, f6⟩ := hS.fill hok hw
  obtain ⟨N, n1, n2, n3⟩ := go_eq hok h8 (Gd_fresh (m := 5) hS.2.2.1) (hw.ks f6) f4
  have hne : Al w pin ≠ [] := by
    have := hS.2.1
    rw [ms_C hok hpo] at this
    exact (VS_lt hok hpo 5).mp this
  have e : ext (Gd w (nxW stC w pin) 5) w.1 w.1 0 10 = Al w pin := (EL_C hok hpo 5).trans (LS_5 w pin)
  rw [e] at n2
  unfold mX6_walked
  rw [f1, Option.bind_some, n1, Option.bind_some]
  exact ⟨N, rfl, f6.tr n3.ks, n2.wk hok h8 hne⟩
def spent (w : Wd) (m : Nat) : Prop := m = 4 ∧ 8 < w.1
theorem isSpent_eq {w : Wd} {m : Nat} {M : tr_M} (hok : WOk w) (hw : M.1 26 0 = nI w.1) (hm : m ≤ 5) : (spent w m ∧ mX6_isSpent (nI m) M = 1) ∨ (¬ spent w m ∧ mX6_isSpent (nI m) M = 0) := by
  have hn := hok.1
  unfold mX6_isSpent spent
  rw [hw, show (4 : Int32) = nI 4 from rfl, show (8 : Int32) = nI 8 from rfl]
  simp (disch := omega) only [neq, nlt]
  by_cases c : m = 4 <;> by_cases d : 8 < w.1 <;> simp [c, d]
theorem leastsOf_eq {w : Wd} {pin : Option (Nat × Nat)} {m : Nat} {M : tr_M} (hok : WOk w) (hw : CWd w 26 M) (hp : PinM pin M) (hpo : pinOk w.1 pin) (hc : Cch w pin M) (hm : m ≤ 5) : ∃ q N, mX6_leastsOf (nI m) M = some (q, N) ∧ KL M N ∧ Cch w pin N ∧ ((q = 0 ∧ (spent w m ∨ Al w pin = [])) ∨ (¬ spent w m ∧ Al w pin ≠ [] ∧ q = rf m ∧ Cc w pin m N)) := by
  unfold mX6_leastsOf
  rcases isSpent_eq hok hw.1 hm with ⟨s1, s2⟩ | ⟨s1, s2⟩
  · rw [s2, if_neg (by decide)]
    exact ⟨0, M, rfl, KL.rf, hc, Or.inl ⟨rfl, Or.inl s1⟩⟩
  · rw [s2, if_pos rfl]
    have hrf : rf m < 1000 ∧ rf m ≠ 0 := by unfold rf; split <;> omega
    by_cases c : M.1 1 15 = nI m
    · rw [if_pos c]
      rcases hc with h | ⟨m', h1, h2, h3⟩
      · exfalso
        rw [h] at c
        exact n9_ne (by omega) c
      · have : m' = m := by
          rw [c] at h2
          exact ((neq (by omega) (by omega)).mp h2).symm
        subst this
        rcases h3 with ⟨h3, h4⟩ | ⟨h3, h4, h5⟩
        · rw [h3, nI_clamp (by decide)]
          exact ⟨0, M, rfl, KL.rf, Or.inr ⟨m', h1, h2, Or.inl ⟨h3, h4⟩⟩, Or.inl ⟨rfl, Or.inr h4⟩⟩
        · rw [h4, nI_clamp (by omega)]
          exact ⟨_, M, rfl, KL.rf, Or.inr ⟨m', h1, h2, Or.inr ⟨h3, h4, h5⟩⟩, Or.inr ⟨s1, h3, rfl, h2, h4, h5⟩⟩
    · rw [if_neg c]
      have e0 : (if nI m = (4 : Int32) then some (5 : Int32) else some (nI m)) = some (nI (if m = 4 then 5 else m)) := by
        rw [show (4 : Int32) = nI 4 from rfl]
        simp (disch := omega) only [neq]
        split <;> rfl
      rw [e0, Option.bind_some]
      obtain ⟨S, k1, k2⟩ := solve_eq (m := if m = 4 then 5 else m) hok hw hp (by split <;> omega)
      have fin : ∀ (q : Nat) (P : tr_M), q < 2147483648 → KS M P → ((q = 0 ∧ Al w pin = []) ∨ (Al w pin ≠ [] ∧ q = rf m ∧ Lst w pin m P)) → ∃ q' N, (Option.bind (tr_gd (decide (q < 2147483648))) fun _ => Option.bind (some (tr_st P 1 16 (nI q))) fun M9 => Option.bind (some (tr_st M9 1 15 (nI m))) fun M12 => some ((M12.1 1 16).toNatClampNeg, M12)) = some (q', N) ∧ KL M N ∧ Cch w pin N ∧ ((q' = 0 ∧ (spent w m ∨ Al w pin = [])) ∨ (¬ spent w m ∧ Al w pin ≠ [] ∧ q' = rf m ∧ Cc w pin m N)) := fun q P hq kP hh => by
        rw [show decide (q < 2147483648) = true from decide_eq_true hq]
        show ∃ q' N, some (((tr_st (tr_st P 1 16 (nI q)) 1 15 (nI m)).1 1 16).toNatClampNeg, tr_st (tr_st P 1 16 (nI q)) 1 15 (nI m)) = some (q', N) ∧ _
        have e16 : (tr_st (tr_st P 1 16 (nI q)) 1 15 (nI m)).1 1 16 = nI q := by rw [tr_st_j (by decide), tr_st_s]
        have hLs : Lst w pin m P → Lst w pin m (tr_st (tr_st P 1 16 (nI q)) 1 15 (nI m)) := fun h => h.cg fun c c1 c2 _ => by rw [tr_st_ne (by omega), tr_st_ne (by omega)]
        rw [e16, nI_clamp hq]
        refine ⟨q, _, rfl, (kP.kl.tr (KL.st (Or.inr rfl))).tr (KL.st (Or.inl rfl)), Or.inr ⟨m, hm, tr_st_s, ?_⟩, ?_⟩
        · rw [e16]
          rcases hh with ⟨a, b⟩ | ⟨a, b, c⟩
          · exact Or.inl ⟨by rw [a], b⟩
          · exact Or.inr ⟨a, by rw [b], hLs c⟩
        · rcases hh with ⟨a, b⟩ | ⟨a, b, c⟩
          · exact Or.inl ⟨a, Or.inr b⟩
          · exact Or.inr ⟨s1, a, b, tr_st_s, by rw [e16, b], hLs c⟩
      rcases k2 with ⟨k2, k3⟩ | ⟨k2, k3⟩
      · rw [k2, Option.bind_some]
        dsimp only
        rw [if_neg (show ¬ (1 : Int32) = 0 by decide)]
        have hne : Al w pin ≠ [] := by
          have := k3.2.1
          rw [ms_C hok hpo] at this
          exact (VS_lt hok hpo _).mp this
        by_cases c4 : m = 4
        · rw [if_pos c4] at k3
          have h8 : w.1 ≤ 8 := Nat.le_of_not_lt fun h => s1 ⟨c4, h⟩
          obtain ⟨N, n1, n2, n3⟩ := walked_eq hok h8 hpo (hw.ks k1) k3
          rw [if_pos (by rw [c4]; rfl), n1, Option.bind_some, Option.bind_some]
          exact fin 24 N (by decide) (k1.tr n2) (Or.inr ⟨hne, by unfold rf; rw [if_pos c4], by unfold Lst; rw [if_pos c4]; exact ⟨h8, n3⟩⟩)
        · rw [if_neg c4] at k3
          rw [if_neg (by rw [show (4 : Int32) = nI 4 from rfl, neq (by omega) (by decide)]; exact c4), Option.bind_some]
          exact fin 25 S (by decide) k1 (Or.inr ⟨hne, by unfold rf; rw [if_neg c4], by unfold Lst; rw [if_neg c4]; exact k3⟩)
      · rw [k2, Option.bind_some]
        dsimp only
        rw [if_pos rfl, Option.bind_some]
        rw [ms_C hok hpo, VS_lt hok hpo] at k3
        exact fin 0 S (by decide) k1 (Or.inl ⟨rfl, Classical.not_not.mp k3⟩)
