/-! ===== E: both sides ===== -/
def cst (w : Wd) (m : Nat) (p : List Nat) : Nat := cost (adN m) (gN w m) 0 p
/-- the least value of a measure but LONG; the orders that have it -/
def VS (w : Wd) (pin : Option (Nat × Nat)) (m : Nat) : Nat := lm NV ((Al w pin).map (cst w m))
def LSt (w : Wd) (pin : Option (Nat × Nat)) (m : Nat) : List (List Nat) := (Al w pin).filter (fun p => decide (cst w m p = VS w pin m))
theorem ms_C {w : Wd} (hok : WOk w) {pin : Option (Nat × Nat)} (hp : pinOk w.1 pin) (m : Nat) : ms (nxW stC w pin) w.1 (adN m) (gN w m) 0 10 = VS w pin m := by
  rw [ms_eq (lft_0 w.1)]
  unfold mv
  rw [nxC_ok hok hp]
  rfl
theorem ms_M {w : Wd} (hok : WOk w) {pin : Option (Nat × Nat)} (hp : pinOk w.1 pin) (m : Nat) : ms (nxW stM w pin) w.1 (adN m) (gN w m) 0 10 = VS w pin m := by
  rw [ms_eq (lft_0 w.1)]
  unfold mv
  rw [nxM_ok hok hp]
  rfl
theorem EL_C {w : Wd} (hok : WOk w) {pin : Option (Nat × Nat)} (hp : pinOk w.1 pin) (m : Nat) : EL w (nxW stC w pin) m = LSt w pin m := by
  unfold EL Gd
  rw [ext_least (nxW_fresh _ _ _) hok.1 (gN_le hok m), ms_C hok hp, nxC_ok hok hp]
  rfl
theorem EL_M {w : Wd} (hok : WOk w) {pin : Option (Nat × Nat)} (hp : pinOk w.1 pin) (m : Nat) : EL w (nxW stM w pin) m = LSt w pin m := by
  unfold EL Gd
  rw [ext_least (nxW_fresh _ _ _) hok.1 (gN_le hok m), ms_M hok hp, nxM_ok hok hp]
  rfl
theorem sm_swap (F : Nat → Nat → Nat) (m : Nat) : ∀ n, sm n (fun i => sm m (fun s => F i s)) = sm m (fun s => sm n (fun i => F i s))
  | 0 => by
    show 0 = sm m (fun _ => 0)
    rw [sm_0]
  | n + 1 => by
    show sm n (fun i => sm m (fun s => F i s)) + sm m (fun s => F n s) = sm m (fun s => sm n (fun i => F i s) + F n s)
    rw [sm_swap F m n, sm_add]
theorem ahd_nst {G : Rl} {n a b : Nat} (hf : Fresh G n) (hn : n ≤ 10) (hb : b < n) (hab : a ≠ b) : ahd G n a b = sm n (fun i => nst G n (fun s l => decide (l = b) && s.testBit a) n 0 10 i) := by
  rw [sm_congr (fun i hi => nst_B hf hn (fun s l => decide (l = b) && s.testBit a) hb (fun s l h => by
    rw [Bool.and_eq_true] at h
    exact of_decide_eq_true h.1) hi), sm_swap]
  unfold ahd
  refine sm_congr fun s hs => ?_
  have hbit : (ins s b).testBit a = s.testBit a := by
    rw [ins_bit]
    simp [show ¬ b = a from fun e => hab e.symm]
  rw [hbit]
  by_cases c : cnt n s < n
  · rw [sm_congr (g := fun i => if i = cnt n s then (if s.testBit a = true then tk G n b s else 0) else 0) (fun i hi => ?_), sm_one _ c]
    by_cases e : cnt n s = i
    · rw [if_pos e, if_pos e.symm]
      simp
    · rw [if_neg e, if_neg (fun y => e y.symm)]
  · have hfull := cnt_full (show cnt n s = n by have := cnt_le s n; omega) b hb
    have ht : tk G n b s = 0 := by unfold tk; rw [if_pos hfull]
    rw [ht, sm_congr (g := fun _ => 0) (fun i hi => by split <;> (try split) <;> rfl), sm_0]
    split <;> rfl
theorem spr_ext {G H : Rl} {n a : Nat} (hG : Fresh G n) (hH : Fresh H n) (hn : n ≤ 10) (ha : a < n) (h : ext G n n 0 10 = ext H n n 0 10) (i : Nat) : spr G n a i = spr H n a i := by
  by_cases c : i < n
  · rw [← spr_nst hG hn ha c, ← spr_nst hH hn ha c]
    unfold nst
    rw [h]
  · rw [spr_0 ha (by omega), spr_0 ha (by omega)]
theorem ahd_ext {G H : Rl} {n a b : Nat} (hG : Fresh G n) (hH : Fresh H n) (hn : n ≤ 10) (hb : b < n) (hab : a ≠ b) (h : ext G n n 0 10 = ext H n n 0 10) : ahd G n a b = ahd H n a b := by
  rw [ahd_nst hG hn hb hab, ahd_nst hH hn hb hab]
  unfold nst
  rw [h]
theorem spr_le {G : Rl} {n a : Nat} (hG : Fresh G n) (hn : n ≤ 10) (ha : a < n) (i : Nat) : spr G n a i ≤ (ext G n n 0 10).length := by
  by_cases c : i < n
  · rw [← spr_nst hG hn ha c]
    exact List.length_filter_le _ _
  · rw [spr_0 ha (by omega)]
    exact Nat.zero_le _
theorem cst_5 (w : Wd) : ∀ (p : List Nat) (s : Nat), cost (adN 5) (gN w 5) s p = 0
  | [], _ => rfl
  | x :: p, s => by
    show comb (adN 5) (gN w 5 (ins s x)) (cost (adN 5) (gN w 5) (ins s x) p) = 0
    rw [cst_5 w p]
    rfl
theorem VS_lt {w : Wd} (hok : WOk w) {pin : Option (Nat × Nat)} (hp : pinOk w.1 pin) (m : Nat) : VS w pin m < NV ↔ Al w pin ≠ [] := by
  rw [← ms_C hok hp, ms_eq (lft_0 w.1), mv_iff (gN_le hok m) hok.1, nxC_ok hok hp]
theorem VS_5 {w : Wd} {pin : Option (Nat × Nat)} (h : Al w pin ≠ []) : VS w pin 5 = 0 := by
  unfold VS
  cases e : Al w pin with
  | nil => exact absurd e h
  | cons p L =>
    show min (cst w 5 p) _ = 0
    unfold cst
    rw [cst_5]
    exact Nat.zero_min _
theorem LS_5 (w : Wd) (pin : Option (Nat × Nat)) : LSt w pin 5 = Al w pin := by
  unfold LSt
  refine List.filter_eq_self.mpr fun p hp => ?_
  have hne : Al w pin ≠ [] := fun e => by rw [e] at hp; cases hp
  rw [VS_5 hne]
  unfold cst
  rw [cst_5]
  rfl
theorem LM_lt {w : Wd} (hok : WOk w) {pin : Option (Nat × Nat)} : LM w pin < NV ↔ Al w pin ≠ [] := by
  unfold LM
  cases e : Al w pin with
  | nil => exact ⟨fun h => absurd h (Nat.lt_irrefl _), fun h => absurd rfl h⟩
  | cons p L =>
    refine ⟨fun _ h => (by cases h), fun _ => ?_⟩
    show min (lgv w p) _ < NV
    have := lgv_lt hok (p := p)
    omega
