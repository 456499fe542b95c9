theorem shl3 {P : Nat} (h : P * 8 < 4294967296) : (nI P : Int32) <<< ((3 : Int32) &&& 31) = nI (P * 8) := pk_shlN _ 3 (by decide) h
def pk (a : Nat) : List Nat → Nat
  | [] => a
  | x :: q => pk (a * 8 + x) q
theorem or8 {P x : Nat} (hx : x < 8) : P * 8 ||| x = P * 8 + x := by
  have := Nat.two_pow_add_eq_or_of_lt (i := 3) (show x < 2 ^ 3 from hx) P
  rw [Nat.mul_comm P 8]
  exact this.symm
theorem pack_nI {P x : Nat} (hx : x < 8) (h : P * 8 < 4294967296) : ((nI P : Int32) <<< ((3 : Int32) &&& 31)) ||| nI x = nI (P * 8 + x) := by
  rw [shl3 h, or_nI, or8 hx]
theorem pk_app (a : Nat) : ∀ u v, pk a (u ++ v) = pk (pk a u) v := fun u v => by
  induction u generalizing a with
  | nil => rfl
  | cons x u ih => exact ih (a * 8 + x)
theorem pck_lt (a : Nat) : ∀ u : List Nat, (∀ x, x ∈ u → x < 8) → pk a u < (a + 1) * 8 ^ u.length
  | [], _ => by show a < (a + 1) * 1; omega
  | x :: u, h => by
    have ih := pck_lt (a * 8 + x) u (fun y hy => h y (List.mem_cons_of_mem _ hy))
    have hx := h x List.mem_cons_self
    show pk (a * 8 + x) u < (a + 1) * 8 ^ (u.length + 1)
    rw [Nat.pow_succ, Nat.mul_comm (8 ^ u.length) 8, ← Nat.mul_assoc]
    refine Nat.lt_of_lt_of_le ih (Nat.mul_le_mul_right _ (by omega))
/-- the orders of the least among A -/
def fll (w : Wd) (A : List (List Nat)) : List (List Nat) := A.filter (fun p => decide (lgv w p = lm TP (A.map (lgv w))))
/-- what the walk holds when it has seen A -/
def WS (w : Wd) (A : List (List Nat)) (M : tr_M) : Prop := M.1 24 4 = nI (lm TP (A.map (lgv w))) ∧ M.1 24 3 = nI (fll w A).length ∧ ∀ k p, (fll w A)[k]? = some p → M.1 54 k = nI (pk 0 p)
theorem WS.cg {w : Wd} {A : List (List Nat)} {M N : tr_M} (h : WS w A M) (h3 : N.1 24 3 = M.1 24 3) (h4 : N.1 24 4 = M.1 24 4) (h54 : N.1 54 = M.1 54) : WS w A N := by
  unfold WS
  rw [h3, h4, h54]
  exact h
theorem fll_skip {w : Wd} {A S : List (List Nat)} (h : ∀ p, p ∈ S → lm TP (A.map (lgv w)) < lgv w p) : lm TP ((A ++ S).map (lgv w)) = lm TP (A.map (lgv w)) ∧ fll w (A ++ S) = fll w A := by
  have e : lm TP ((A ++ S).map (lgv w)) = lm TP (A.map (lgv w)) := by
    rw [List.map_append, lm_append]
    refine Nat.min_eq_left ?_
    have : ∀ L : List (List Nat), (∀ p, p ∈ L → lm TP (A.map (lgv w)) < lgv w p) → lm TP (A.map (lgv w)) ≤ lm TP (L.map (lgv w)) := fun L => by
      induction L with
      | nil => exact fun _ => lm_le _ _
      | cons q L ih =>
        intro hL
        show _ ≤ min (lgv w q) (lm TP (L.map (lgv w)))
        have h1 := hL q List.mem_cons_self
        have h2 := ih (fun p hp => hL p (List.mem_cons_of_mem _ hp))
        omega
    exact this S h
  refine ⟨e, ?_⟩
  unfold fll
  rw [e, List.filter_append]
  have : S.filter (fun p => decide (lgv w p = lm TP (A.map (lgv w)))) = [] := by
    rw [List.filter_eq_nil_iff]
    intro p hp
    have := h p hp
    simp only [decide_eq_true_eq]
    omega
  rw [this, List.append_nil]
theorem WS.skip {w : Wd} {A S : List (List Nat)} {M : tr_M} (hw : WS w A M) (h : ∀ p, p ∈ S → lm TP (A.map (lgv w)) < lgv w p) : WS w (A ++ S) M := by
  obtain ⟨e1, e2⟩ := fll_skip h
  unfold WS
  rw [e1, e2]
  exact hw
theorem fll_len (w : Wd) (A : List (List Nat)) : (fll w A).length ≤ A.length := List.length_filter_le _ _
theorem keepW_eq {w : Wd} {A : List (List Nat)} {p : List Nat} {M : tr_M} (hA : WS w A M) (hl : A.length < 40320) (hp : lgv w p < 1000) : ∃ N, mX2_keep (nI (lgv w p)) (nI (pk 0 p)) M = some N ∧ WS w (A ++ [p]) N ∧ (∀ c, c ≠ 24 → c ≠ 54 → N.1 c = M.1 c) ∧ (∀ k, k ≠ 3 → k ≠ 4 → N.1 24 k = M.1 24 k) ∧ N.2 = M.2 := by
  obtain ⟨h4, h3, h54⟩ := hA
  have hle := lm_le TP (A.map (lgv w))
  have hTP : TP = 268435456 := rfl
  have hfl := fll_len w A
  unfold mX2_keep
  have emap : lm TP ((A ++ [p]).map (lgv w)) = min (lm TP (A.map (lgv w))) (lgv w p) := by
    rw [List.map_append, lm_append]
    show min _ (min (lgv w p) TP) = _
    omega
  rw [h4]
  simp (disch := omega) only [nlt]
  by_cases c : lgv w p < lm TP (A.map (lgv w))
  · rw [if_pos c, Option.bind_some, Option.bind_some, Option.bind_some, tr_st_j (by decide), tr_st_s, if_pos rfl, tr_st_s, if_pos (by decide), n00, tr_wr_nI (by decide) (by decide), Option.bind_some, Option.bind_some]
    have e2 : fll w (A ++ [p]) = [p] := by
      unfold fll
      rw [emap, Nat.min_eq_right (by omega), List.filter_append]
      have : A.filter (fun q => decide (lgv w q = lgv w p)) = [] := by
        rw [List.filter_eq_nil_iff]
        intro q hq
        have : lm TP (A.map (lgv w)) ≤ lgv w q := lm_min (List.mem_map.mpr ⟨q, hq, rfl⟩)
        simp only [decide_eq_true_eq]
        omega
      rw [this, List.filter_cons_of_pos (by simp)]
      rfl
    refine ⟨_, rfl, ⟨?_, ?_, fun k q hk => ?_⟩, fun c c1 c2 => ?_, fun k k1 k2 => ?_, rfl⟩
    · rw [emap, Nat.min_eq_right (by omega), tr_st_j (by decide), tr_st_ne (by decide), tr_st_j (by decide), tr_st_s]
    · rw [e2, tr_st_s, tr_st_ne (by decide), tr_st_s]
      rfl
    · rw [e2] at hk
      cases k with
      | zero =>
        cases hk
        rw [tr_st_ne (by decide), tr_st_s]
      | succ k => cases hk
    · rw [tr_st_ne c1, tr_st_ne c2, tr_st_ne c1, tr_st_ne c1]
    · rw [tr_st_j k1, tr_st_ne (by decide), tr_st_j k1, tr_st_j k2]
  · rw [if_neg c, Option.bind_some, h4, h3]
    simp (disch := omega) only [neq, show (40320 : Int32) = nI 40320 from rfl, nlt]
    by_cases d : lgv w p = lm TP (A.map (lgv w))
    · rw [if_pos d, if_pos (by omega), tr_wr_nI (by omega) (by decide), Option.bind_some, Option.bind_some, tr_st_ne (show 24 ≠ 54 by decide), h3, nadd1]
      have e2 : fll w (A ++ [p]) = fll w A ++ [p] := by
        unfold fll
        rw [emap, Nat.min_eq_left (by omega), List.filter_append, List.filter_cons_of_pos (by simpa using d)]
        rfl
      refine ⟨_, rfl, ⟨?_, ?_, fun k q hk => ?_⟩, fun c c1 c2 => ?_, fun k k1 k2 => ?_, rfl⟩
      · rw [emap, Nat.min_eq_left (by omega), tr_st_j (by decide), tr_st_ne (by decide)]
        exact h4
      · rw [e2, tr_st_s, List.length_append]
        rfl
      · rw [e2] at hk
        rw [tr_st_ne (by decide)]
        by_cases z : k = (fll w A).length
        · rw [z] at hk ⊢
          rw [List.getElem?_concat_length] at hk
          cases hk
          exact tr_st_s
        · rw [tr_st_j z]
          refine h54 k q ?_
          have := (List.getElem?_eq_some_iff.mp hk).1
          rw [List.length_append] at this
          rw [List.getElem?_append_left (by
            have : [p].length = 1 := rfl
            omega)] at hk
          exact hk
      · rw [tr_st_ne c1, tr_st_ne c2]
      · rw [tr_st_j k1, tr_st_ne (by decide)]
    · rw [if_neg d]
      refine ⟨M, rfl, ?_, fun _ _ _ => rfl, fun _ _ _ => rfl, rfl⟩
      exact WS.skip ⟨h4, h3, h54⟩ (fun q hq => by
        rw [List.mem_singleton.mp hq]
        omega)
