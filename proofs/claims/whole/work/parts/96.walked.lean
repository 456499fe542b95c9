theorem go_eq {w : Wd} {G : Rl} {M : tr_M} (hok : WOk w) (h8 : w.1 ≤ 8) (hG : Fresh G w.1) (hw : CWd w 26 M) (hL : LG w.1 G M) : ∃ N, mX2_go M = some N ∧ WS w (ext G w.1 w.1 0 10) N ∧ KW M N := by
  unfold mX2_go
  rw [Option.bind_some, Option.bind_some]
  generalize hD : tr_st (tr_st M 24 3 0) 24 4 268435456 = D
  have kD : KW M D := by
    rw [← hD]
    exact ⟨fun c c1 _ _ => by rw [tr_st_ne c1, tr_st_ne c1], fun k k1 k2 => by rw [tr_st_j k2, tr_st_j k1], rfl⟩
  have hlen : (ext G w.1 w.1 0 10).length ≤ 40320 := by
    have h1 := ext_fct hG w.1 0 10 (lft_0 w.1)
    have h2 := fct_mono h8
    have h3 : fct 8 = 40320 := by decide
    omega
  obtain ⟨N, n1, n2, n3, n4⟩ := walk_step hok h8 hG w.1 12 0 (fun i => i) D [] (by omega) (Nat.zero_add _) ⟨fun j hj => by omega, fun a b ha _ _ => by omega⟩ (hw.kw kD) (hL.kw kD) (fun j hj => by omega) ⟨by rw [← hD, tr_st_s]; rfl, by rw [← hD, tr_st_j (by decide), tr_st_s]; rfl, fun k p hk => by cases hk⟩ (by
    show 0 + (ext G w.1 w.1 0 10).length ≤ _
    omega)
  have n1' : mX2_step 12 0 0 0 0 0 D = some N := n1
  rw [n1', Option.bind_some]
  refine ⟨N, rfl, ?_, kD.tr n4⟩
  have n2' : WS w ([] ++ (ext G w.1 w.1 0 10).map (fun p => [] ++ p)) N := n2
  rw [List.nil_append, show (fun p : List Nat => [] ++ p) = id from rfl, List.map_id] at n2'
  exact n2'
/-- the walk holds the list L with the least v -/
def WK (w : Wd) (L : List (List Nat)) (v : Nat) (N : tr_M) : Prop := N.1 24 4 = nI v ∧ N.1 24 3 = nI L.length ∧ (∀ k p, L[k]? = some p → N.1 54 k = nI (pk 0 p)) ∧ L.length ≤ 40320 ∧ ∀ p, p ∈ L → ∃ f, Ord w.1 f ∧ p = seg f 0 w.1
theorem WK.cg {w : Wd} {L : List (List Nat)} {v : Nat} {M N : tr_M} (h : WK w L v M) (h24 : N.1 24 3 = M.1 24 3) (h4 : N.1 24 4 = M.1 24 4) (h54 : N.1 54 = M.1 54) : WK w L v N := by
  unfold WK
  rw [h24, h4, h54]
  exact h
theorem lm_TN {L : List Nat} : L ≠ [] → (∀ x, x ∈ L → x < NV) → lm TP L = lm NV L := by
  induction L with
  | nil => intro h; exact absurd rfl h
  | cons x L ih =>
    intro _ h
    have hx := h x List.mem_cons_self
    have hTP : TP = 268435456 := rfl
    have hNV : NV = 1000000 := rfl
    show min x (lm TP L) = min x (lm NV L)
    by_cases c : L = []
    · rw [c]
      show min x TP = min x NV
      omega
    · rw [ih c (fun y hy => h y (List.mem_cons_of_mem _ hy))]
theorem mem_Al {w : Wd} {pin : Option (Nat × Nat)} {p : List Nat} (h : p ∈ Al w pin) : ∃ f, Ord w.1 f ∧ p = seg f 0 w.1 := by
  unfold Al at h
  have h1 := mem_Pm.mp (List.mem_filter.mp h).1
  refine ⟨fn p, h1.2, ?_⟩
  have := seg_fn p
  rw [h1.1] at this
  exact this.symm
theorem lgv_lt {w : Wd} (hok : WOk w) {p : List Nat} : lgv w p < NV := by
  have h1 := longN_le w (fn p)
  have h2 := hok.1
  have hNV : NV = 1000000 := rfl
  unfold lgv
  omega
theorem WS.wk {w : Wd} {pin : Option (Nat × Nat)} {M : tr_M} (hok : WOk w) (h8 : w.1 ≤ 8) (hne : Al w pin ≠ []) (h : WS w (Al w pin) M) : WK w (LQ w pin) (LM w pin) M := by
  have e : lm TP ((Al w pin).map (lgv w)) = LM w pin := lm_TN (fun z => hne (List.map_eq_nil_iff.mp z)) (fun x hx => by
    obtain ⟨p, -, rfl⟩ := List.mem_map.mp hx
    exact lgv_lt hok)
  have e2 : fll w (Al w pin) = LQ w pin := by
    unfold fll LQ
    rw [e]
  unfold WS at h
  rw [e, e2] at h
  refine ⟨h.1, h.2.1, h.2.2, ?_, fun p hp => mem_Al (List.mem_filter.mp hp).1⟩
  have h1 : (LQ w pin).length ≤ (Pm w.1).length := Nat.le_trans (List.length_filter_le _ _) (List.length_filter_le _ _)
  rw [Pm_len] at h1
  have h2 := fct_mono h8
  have h3 : fct 8 = 40320 := by decide
  omega
theorem unpack_eq {w : Wd} {k : Nat} {f : Nat → Nat} {L : List (List Nat)} {v : Nat} {M : tr_M} (hok : WOk w) (h8 : w.1 ≤ 8) (hw : CWd w 26 M) (hK : WK w L v M) (hf : Ord w.1 f) (hk : L[k]? = some (seg f 0 w.1)) : ∃ N, mX2_unpack (nI k) M = some N ∧ HasF N 56 w.1 f ∧ (∀ c, c ≠ 56 → N.1 c = M.1 c) ∧ N.2 = M.2 := by
  have hkl := (List.getElem?_eq_some_iff.mp hk).1
  have hl := hK.2.2.2.1
  unfold mX2_unpack
  rw [tr_rd_nI (by omega) (by decide), Option.bind_some, hK.2.2.1 k _ hk, hw.1]
  obtain ⟨N, e1, e2, e3, e4⟩ := tr_loop_inv (step := mX2_unpack_l17) (s0 := (nI (pk 0 (seg f 0 w.1)), nI w.1 - 1, M)) (fun t s => ∃ N, s = (nI (pk 0 (seg f 0 (w.1 - t))), (if t < w.1 then nI (w.1 - 1 - t) else -1), N) ∧ (∀ i, w.1 - t ≤ i → i < w.1 → N.1 56 i = nI (f i)) ∧ (∀ c, c ≠ 56 → N.1 c = M.1 c) ∧ N.2 = M.2) (fun N => HasF N 56 w.1 f ∧ (∀ c, c ≠ 56 → N.1 c = M.1 c) ∧ N.2 = M.2) w.1 (by omega) ⟨M, by
      by_cases z : 0 < w.1
      · rw [if_pos z, Nat.sub_zero, show (nI w.1 : Int32) - 1 = nI (w.1 - 1) from nsub (b := 1) (by omega)]
        rfl
      · rw [if_neg z, show w.1 = 0 by omega]
        rfl, fun i h1 h2 => by omega, fun _ _ => rfl, rfl⟩ (by
    rintro t s ht ⟨N, rfl, t1, t2, t3⟩
    left
    have hps := pk_small (i := w.1 - t) (f := f) ⟨fun j hj => hf.1 j (by omega), fun a b ha hb => hf.2 a b (by omega) (by omega)⟩ h8 (by omega)
    have hfi := hf.1 (w.1 - 1 - t) (by omega)
    have e : pk 0 (seg f 0 (w.1 - t)) = pk 0 (seg f 0 (w.1 - (t + 1))) * 8 + f (w.1 - 1 - t) := by
      rw [show w.1 - t = w.1 - (t + 1) + 1 by omega, seg_snoc, pk_app, Nat.zero_add, show w.1 - (t + 1) = w.1 - 1 - t by omega]
      rfl
    unfold mX2_unpack_l17
    dsimp only
    rw [if_pos ht, if_neg (nI_pos (by omega)), tr_wr_nI (by omega) (by decide), Option.bind_some, Option.bind_some, show (7 : Int32) = 7 from rfl, pk_andN (m := 7) (by omega) 3 (by decide), show (3 : Int32) = nI 3 from rfl, shr_nI (by omega) (by decide), e]
    refine ⟨_, rfl, tr_st N 56 (w.1 - 1 - t) (nI (f (w.1 - 1 - t))), ?_, fun i h1 h2 => ?_, fun c hc => (tr_st_ne hc).trans (t2 c hc), t3⟩
    · rw [show (pk 0 (seg f 0 (w.1 - (t + 1))) * 8 + f (w.1 - 1 - t)) / 2 ^ 3 = pk 0 (seg f 0 (w.1 - (t + 1))) by
        show (_ * 8 + _) / 8 = _
        omega, show (pk 0 (seg f 0 (w.1 - (t + 1))) * 8 + f (w.1 - 1 - t)) % 2 ^ 3 = f (w.1 - 1 - t) by
        show (_ * 8 + _) % 8 = _
        omega]
      by_cases z : t + 1 < w.1
      · rw [if_pos z, nsub1 (by omega), show w.1 - 1 - t - 1 = w.1 - 1 - (t + 1) by omega]
      · rw [if_neg z, show w.1 - 1 - t = 0 by omega]
        rfl
    · by_cases z : i = w.1 - 1 - t
      · rw [z, tr_st_s]
      · rw [tr_st_j z]
        exact t1 i (by omega) h2) (by
    rintro s ⟨N, rfl, t1, t2, t3⟩
    unfold mX2_unpack_l17
    dsimp only
    rw [if_neg (Nat.lt_irrefl _), if_pos (by decide)]
    exact ⟨N, rfl, fun i hi => t1 i (by omega) hi, t2, t3⟩)
  exact ⟨N, e1, e2, e3, e4⟩
