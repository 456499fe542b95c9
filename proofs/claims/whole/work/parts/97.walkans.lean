theorem WK.ks {w : Wd} {L : List (List Nat)} {v : Nat} {M N : tr_M} (h : WK w L v M) (h24 : N.1 24 = M.1 24) (h54 : N.1 54 = M.1 54) : WK w L v N := h.cg (by rw [h24]) (by rw [h24]) h54
theorem pickW_eq {w : Wd} {k : Nat} {f : Nat → Nat} {L : List (List Nat)} {v : Nat} {M : tr_M} (hok : WOk w) (h8 : w.1 ≤ 8) (hw : CWd w 26 M) (hK : WK w L v M) (hf : Ord w.1 f) (hk : L[k]? = some (seg f 0 w.1)) : ∃ N, mX2_pick (nI k) 59 M = some N ∧ HasF N 59 w.1 f ∧ (∀ c, c ≠ 56 → c ≠ 59 → N.1 c = M.1 c) ∧ N.2 = M.2 := by
  obtain ⟨N, n1, n2, n3, n4⟩ := unpack_eq hok h8 hw hK hf hk
  unfold mX2_pick
  have hN0 : N.1 26 0 = nI w.1 := by rw [n3 26 (by decide)]; exact hw.1
  rw [n1, Option.bind_some, hN0, n00, show tr_len shC 56 = 10 from rfl, show tr_len shC 59 = 10 from rfl, tr_cpy_nI (by omega) (by omega) (by decide) (by decide) (by decide) (by decide), Option.bind_some]
  refine ⟨_, rfl, fun i hi => ?_, fun c c1 c2 => by rw [tr_row_ne c2, n3 c c1], n4⟩
  rw [tr_row_s]
  unfold va_cpy
  rw [if_pos (by omega), Nat.sub_zero, Nat.zero_add]
  exact n2 i hi
theorem pk_inj : ∀ {u v : List Nat} {a b : Nat}, u.length = v.length → (∀ x, x ∈ u → x < 8) → (∀ x, x ∈ v → x < 8) → pk a u = pk b v → a = b ∧ u = v
  | [], [], a, b, _, _, _, h => ⟨h, rfl⟩
  | [], _ :: _, _, _, h, _, _, _ => by cases h
  | _ :: _, [], _, _, h, _, _, _ => by cases h
  | x :: u, y :: v, a, b, hl, hu, hv, h => by
    obtain ⟨h1, h2⟩ := pk_inj (u := u) (v := v) (a := a * 8 + x) (b := b * 8 + y) (Nat.succ.inj hl) (fun z hz => hu z (List.mem_cons_of_mem _ hz)) (fun z hz => hv z (List.mem_cons_of_mem _ hz)) h
    have hx := hu x List.mem_cons_self
    have hy := hv y List.mem_cons_self
    rw [h2, show x = y by omega]
    exact ⟨by omega, rfl⟩
theorem seg_mem {f : Nat → Nat} {n x : Nat} (hx : x ∈ seg f 0 n) : ∃ j, j < n ∧ f j = x := by
  obtain ⟨j, hj⟩ := List.mem_iff_getElem?.mp hx
  have hl := (List.getElem?_eq_some_iff.mp hj).1
  rw [seg_len] at hl
  have e : (seg f 0 n).getD j 0 = x := by rw [List.getD_eq_getElem?_getD, hj]; rfl
  rw [seg_get f hl, Nat.zero_add] at e
  exact ⟨j, hl, e⟩
theorem seg_lt8 {w : Wd} {f : Nat → Nat} (hf : Ord w.1 f) (h8 : w.1 ≤ 8) : ∀ x, x ∈ seg f 0 w.1 → x < 8 := fun x hx => by
  obtain ⟨j, hj, rfl⟩ := seg_mem hx
  have := hf.1 j hj
  omega
theorem ix_at {p : List Nat} : ∀ {L : List (List Nat)} {k : Nat}, p ∉ L.take k → L[k]? = some p → ix p L = some k
  | [], k, _, h => by cases h
  | q :: L, 0, _, h => by
    cases h
    unfold ix
    rw [if_pos rfl]
  | q :: L, k + 1, h1, h => by
    rw [List.take_succ_cons, List.mem_cons] at h1
    rw [List.getElem?_cons_succ] at h
    unfold ix
    rw [if_neg (fun e => h1 (Or.inl e.symm)), ix_at (fun e => h1 (Or.inr e)) h]
    rfl
theorem indexW_eq {w : Wd} {p : Nat} {g : Nat → Nat} {L : List (List Nat)} {v : Nat} {M : tr_M} (hok : WOk w) (h8 : w.1 ≤ 8) (hw : CWd w 26 M) (hK : WK w L v M) (hg : Ord w.1 g) (hc : HasF M p w.1 g) (hl1 : w.1 ≤ tr_len shC p) (hl2 : tr_len shC p < 2147483648) : mX2_indexOf p M = some (oix (ix (seg g 0 w.1) L)) := by
  have hPO : ∀ i, i ≤ w.1 → PO w.1 g i := fun i hi => ⟨fun j hj => hg.1 j (by omega), fun a b ha hb => hg.2 a b (by omega) (by omega)⟩
  have e1 : tr_loop (mX2_indexOf_l4 p M) (0, 0) = some (nI (pk 0 (seg g 0 w.1))) := by
    refine tr_loop_seq' (fun i => (nI (pk 0 (seg g 0 i)), nI i)) w.1 rfl (by omega) (fun i hi => ?_) ?_
    · have hps := pk_small (hPO i (by omega)) h8 (by omega)
      have hgi := hg.1 i hi
      unfold mX2_indexOf_l4
      dsimp only
      rw [hw.1, if_pos ((nlt (by omega) (by omega)).mpr hi), tr_rd_nI (by omega) hl2, Option.bind_some, hc i hi, pack_nI (by omega) (by omega), nadd1, seg_snoc, pk_app, Nat.zero_add]
      rfl
    · unfold mX2_indexOf_l4
      dsimp only
      rw [hw.1, if_neg (by rw [nlt (by omega) (by omega)]; omega)]
  unfold mX2_indexOf
  rw [e1]
  dsimp only [Option.bind_some]
  obtain ⟨h4, h3, h54, hlen, hall⟩ := hK
  have hps := pk_small (hPO w.1 (Nat.le_refl _)) h8 (by omega)
  obtain ⟨r, r1, r2⟩ := tr_loop_inv (step := mX2_indexOf_l31 M (nI (pk 0 (seg g 0 w.1)))) (s0 := 0) (fun k s => s = nI k ∧ seg g 0 w.1 ∉ L.take k) (fun r => r = oix (ix (seg g 0 w.1) L)) L.length (by omega) ⟨rfl, fun h => by cases h⟩ (by
    rintro k s hk ⟨rfl, t1⟩
    have hq : L[k]? = some L[k] := List.getElem?_eq_getElem hk
    obtain ⟨f, f1, f2⟩ := hall _ (List.getElem_mem hk)
    rw [f2] at hq
    have hpf := pk_small (f := f) (i := w.1) f1 h8 (by omega)
    unfold mX2_indexOf_l31
    rw [h3, if_pos ((nlt (by omega) (by omega)).mpr hk), tr_rd_nI (by omega) (by decide), Option.bind_some, h54 k _ hq, nadd1]
    simp (disch := omega) only [neq]
    by_cases c : pk 0 (seg f 0 w.1) = pk 0 (seg g 0 w.1)
    · right
      obtain ⟨-, e⟩ := pk_inj (by rw [seg_len, seg_len]) (seg_lt8 f1 h8) (seg_lt8 hg h8) c
      rw [e] at hq
      rw [if_pos c]
      exact ⟨_, rfl, by rw [ix_at t1 hq]; rfl⟩
    · left
      rw [if_neg c]
      refine ⟨_, rfl, rfl, ?_⟩
      rw [take_next hq, List.mem_append, List.mem_singleton]
      rintro (x | x)
      · exact t1 x
      · exact c (by rw [x])) (by
    rintro s ⟨rfl, t1⟩
    rw [List.take_length] at t1
    unfold mX2_indexOf_l31
    rw [h3, if_neg (by rw [nlt (by omega) (by omega)]; omega)]
    exact ⟨_, rfl, by rw [ix_none t1]; rfl⟩)
  rw [r1, r2]
theorem seatW_eq {w : Wd} {k : Nat} {f : Nat → Nat} {L : List (List Nat)} {v : Nat} {M : tr_M} (hok : WOk w) (h8 : w.1 ≤ 8) (hw : CWd w 26 M) (hK : WK w L v M) (hf : Ord w.1 f) (hk : L[k]? = some (seg f 0 w.1)) : ∃ N P, mX2_unpack (nI k) M = some N ∧ mX5_seatsOf 26 56 55 N = some P ∧ (∀ y, y < w.1 → P.1 55 y = nI (sf f y w.1)) ∧ (∀ c, c ≠ 55 → c ≠ 56 → P.1 c = M.1 c) ∧ P.2 = M.2 := by
  obtain ⟨N, n1, n2, n3, n4⟩ := unpack_eq hok h8 hw hK hf hk
  have hN0 : N.1 26 0 = nI w.1 := by rw [n3 26 (by decide)]; exact hw.1
  have hn := hok.1
  have hs := seatsOf_eq (d := 55) hok hN0 hf n2 (show w.1 ≤ 10 from hn) (by decide) rfl (by decide) (by decide)
  refine ⟨N, _, n1, hs, fun y hy => ?_, fun c c1 c2 => by rw [tr_row_ne c1, n3 c c2], n4⟩
  rw [tr_row_s, sa_ord hf hy]
theorem spreadW_eq {w : Wd} {a : Nat} {L : List (List Nat)} {v : Nat} {M : tr_M} (hok : WOk w) (h8 : w.1 ≤ 8) (hw : CWd w 26 M) (hK : WK w L v M) (ha : a < w.1) : ∃ N, mX2_spreadOf (nI a) 61 M = some N ∧ (∀ i, i < 10 → N.1 61 i = nI (lsp w.1 a i L)) ∧ (∀ c, c ≠ 55 → c ≠ 56 → c ≠ 61 → N.1 c = M.1 c) ∧ N.2 = M.2 := by
  unfold mX2_spreadOf
  rw [fillAll_eq (by decide) (by decide), Option.bind_some]
  have hlen := hK.2.2.2.1
  have hL61 : tr_len shC 61 = 10 := rfl
  obtain ⟨N, e1, e2, e3, e4⟩ := tr_loop_inv (step := mX2_spreadOf_l7 (nI a) 61) (s0 := (0, tr_row M 61 (fl (M.1 61) 0 (tr_len shC 61) 0))) (fun k s => ∃ N, s = (nI k, N) ∧ (∀ i, i < 10 → N.1 61 i = nI (lsp w.1 a i (L.take k))) ∧ (∀ c, c ≠ 55 → c ≠ 56 → c ≠ 61 → N.1 c = M.1 c) ∧ N.2 = M.2) (fun N => (∀ i, i < 10 → N.1 61 i = nI (lsp w.1 a i L)) ∧ (∀ c, c ≠ 55 → c ≠ 56 → c ≠ 61 → N.1 c = M.1 c) ∧ N.2 = M.2) L.length (by omega) ⟨_, rfl, fun i hi => by
      rw [tr_row_s]
      exact fl_in (Nat.zero_le _) (by rw [hL61]; omega), fun c _ _ c3 => tr_row_ne c3, rfl⟩ (by
    rintro k s hk ⟨N, rfl, t1, t2, t3⟩
    left
    have hq : L[k]? = some L[k] := List.getElem?_eq_getElem hk
    obtain ⟨f, f1, f2⟩ := hK.2.2.2.2 _ (List.getElem_mem hk)
    rw [f2] at hq
    have hwN : CWd w 26 N := hw.congr fun b h1 h2 => t2 b (by omega) (by omega) (by omega)
    have hKN : WK w L v N := hK.ks (t2 24 (by decide) (by decide) (by decide)) (t2 54 (by decide) (by decide) (by decide))
    obtain ⟨U, P, u1, u2, u3, u4, u5⟩ := seatW_eq hok h8 hwN hKN f1 hq
    obtain ⟨-, hsa⟩ := sf_ord f1 ha
    have hn := hok.1
    unfold mX2_spreadOf_l7
    dsimp only
    rw [hKN.2.1, if_pos ((nlt (by omega) (by omega)).mpr hk), u1, Option.bind_some, u2, Option.bind_some, tr_rd_nI (by omega) (by decide), Option.bind_some, u3 a ha, hL61, tr_rd_nI (by omega) (by decide), Option.bind_some, tr_wr_nI (by omega) (by decide), Option.bind_some, nadd1, u4 61 (by decide) (by decide), t1 _ (by omega), nadd1]
    refine ⟨_, rfl, _, rfl, fun i hi => ?_, fun c c1 c2 c3 => by rw [tr_st_ne c3, u4 c c1 c2]; exact t2 c c1 c2 c3, u5.trans t3⟩
    rw [take_next hq, lsp_add, lsp_one]
    by_cases q : sf f a w.1 = i
    · rw [if_pos q, q, tr_st_s]
    · rw [if_neg q, tr_st_j (fun y => q y.symm), u4 61 (by decide) (by decide), Nat.add_zero]
      exact t1 i hi) (by
    rintro s ⟨N, rfl, t1, t2, t3⟩
    have hKN : WK w L v N := hK.ks (t2 24 (by decide) (by decide) (by decide)) (t2 54 (by decide) (by decide) (by decide))
    rw [List.take_length] at t1
    unfold mX2_spreadOf_l7
    dsimp only
    rw [hKN.2.1, if_neg (by rw [nlt (by omega) (by omega)]; omega)]
    exact ⟨N, rfl, t1, t2, t3⟩)
  exact ⟨N, e1, e2, e3, e4⟩
theorem aheadW_eq {w : Wd} {a b : Nat} {L : List (List Nat)} {v : Nat} {M : tr_M} (hok : WOk w) (h8 : w.1 ≤ 8) (hw : CWd w 26 M) (hK : WK w L v M) (ha : a < w.1) (hb : b < w.1) : ∃ N, mX2_numberAhead (nI a) (nI b) M = some (nI (lah w.1 a b L), N) ∧ (∀ c, c ≠ 55 → c ≠ 56 → N.1 c = M.1 c) ∧ N.2 = M.2 := by
  unfold mX2_numberAhead
  have hlen := hK.2.2.2.1
  obtain ⟨r, e1, N, e2, e3, e4⟩ := tr_loop_inv (step := mX2_numberAhead_l5 (nI a) (nI b)) (s0 := (0, 0, M)) (fun k s => ∃ N, s = (nI (lah w.1 a b (L.take k)), nI k, N) ∧ (∀ c, c ≠ 55 → c ≠ 56 → N.1 c = M.1 c) ∧ N.2 = M.2) (fun r => ∃ N, r = (nI (lah w.1 a b L), N) ∧ (∀ c, c ≠ 55 → c ≠ 56 → N.1 c = M.1 c) ∧ N.2 = M.2) L.length (by omega) ⟨M, rfl, fun _ _ _ => rfl, rfl⟩ (by
    rintro k s hk ⟨N, rfl, t2, t3⟩
    left
    have hq : L[k]? = some L[k] := List.getElem?_eq_getElem hk
    obtain ⟨f, f1, f2⟩ := hK.2.2.2.2 _ (List.getElem_mem hk)
    rw [f2] at hq
    have hwN : CWd w 26 N := hw.congr fun b h1 h2 => t2 b (by omega) (by omega)
    have hKN : WK w L v N := hK.ks (t2 24 (by decide) (by decide)) (t2 54 (by decide) (by decide))
    obtain ⟨U, P, u1, u2, u3, u4, u5⟩ := seatW_eq hok h8 hwN hKN f1 hq
    obtain ⟨-, hsa⟩ := sf_ord f1 ha
    obtain ⟨-, hsb⟩ := sf_ord f1 hb
    have hn := hok.1
    unfold mX2_numberAhead_l5
    dsimp only
    rw [hKN.2.1, if_pos ((nlt (by omega) (by omega)).mpr hk), u1, Option.bind_some, u2, Option.bind_some, tr_rd_nI (by omega) (by decide), Option.bind_some, tr_rd_nI (by omega) (by decide), Option.bind_some, u3 a ha, u3 b hb, nadd1, nadd1]
    simp (disch := omega) only [nlt]
    rw [take_next hq, lah_add, lah_one]
    by_cases q : sf f a w.1 < sf f b w.1
    · rw [if_pos q, if_pos q]
      exact ⟨_, rfl, P, rfl, fun c c1 c2 => (u4 c c1 c2).trans (t2 c c1 c2), u5.trans t3⟩
    · rw [if_neg q, if_neg q]
      exact ⟨_, rfl, P, rfl, fun c c1 c2 => (u4 c c1 c2).trans (t2 c c1 c2), u5.trans t3⟩) (by
    rintro s ⟨N, rfl, t2, t3⟩
    have hKN : WK w L v N := hK.ks (t2 24 (by decide) (by decide)) (t2 54 (by decide) (by decide))
    unfold mX2_numberAhead_l5
    dsimp only
    rw [hKN.2.1, if_neg (by rw [nlt (by omega) (by omega)]; omega), List.take_length]
    exact ⟨_, rfl, N, rfl, t2, t3⟩)
  exact ⟨N, by rw [e1, e2], e3, e4⟩
