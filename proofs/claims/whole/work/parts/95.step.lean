theorem LG.kw {n : Nat} {G : Rl} {M N : tr_M} (h : LG n G M) (hk : KW M N) : LG n G N := h.cg (hk.1 49 (by decide) (by decide) (by decide)) (hk.1 50 (by decide) (by decide) (by decide))
theorem CWd.kw {w : Wd} {M N : tr_M} (h : CWd w 26 M) (hk : KW M N) : CWd w 26 N := h.congr fun b h1 h2 => hk.1 b (by omega) (by omega) (by omega)
/-- the walk goes through all that the search has left, and keeps the least of them -/
theorem walk_step {w : Wd} {G : Rl} (hok : WOk w) (h8 : w.1 ≤ 8) (hG : Fresh G w.1) : ∀ k d i f M A, k < d → i + k = w.1 → PO w.1 f i → CWd w 26 M → LG w.1 G M → (∀ j, j < i → M.1 55 (f j) = nI j) → WS w A M → A.length + (ext G w.1 k (pre f i) (la f i)).length ≤ 40320 → ∃ N, mX2_step d (nI i) (nI (pre f i)) (nI (lx f i)) (nI (mxf i (ral w f))) (nI (pk 0 (seg f 0 i))) M = some N ∧ WS w (A ++ (ext G w.1 k (pre f i) (la f i)).map (seg f 0 i ++ ·)) N ∧ (∀ j, j < i → N.1 55 (f j) = nI j) ∧ KW M N := by
  intro k
  induction k with
  | zero =>
    intro d i f M A hd hi hf hw hL hse hA hlen
    have hin : i = w.1 := by omega
    subst hin
    cases d with
    | zero => omega
    | succ d =>
      have e : ext G w.1 0 (pre f w.1) (la f w.1) = [[]] := rfl
      rw [e] at hlen ⊢
      have hlg : lgv w (seg f 0 w.1) = mxf w.1 (ral w f) := by rw [lgv_seg, long_ral hok hf]
      have hlo := longN_le w f
      have h1 : ([[]] : List (List Nat)).length = 1 := rfl
      obtain ⟨N, n1, n2, n3, n4, n5⟩ := keepW_eq (p := seg f 0 w.1) hA (by rw [h1] at hlen; omega) (by rw [lgv_seg]; omega)
      rw [hlg] at n1
      refine ⟨N, ?_, ?_, fun j hj => by rw [n3 55 (by decide) (by decide)]; exact hse j hj, fun c a b _ => n3 c a b, n4, n5⟩
      · unfold mX2_step
        rw [hw.1, if_neg (by rw [nlt (by omega) (by omega)]; omega)]
        show Option.bind (mX2_keep _ _ M) _ = _
        rw [n1]
        rfl
      · show WS w (A ++ [seg f 0 w.1 ++ []]) N
        rw [List.append_nil]
        exact n2
  | succ k ih =>
    intro d i f M A hd hi hf hw hL hse hA hlen
    cases d with
    | zero => omega
    | succ d =>
      have hn := hok.1
      have hpl := PO_lt hf
      have hpw := pow_lt hn
      obtain ⟨hst, hls⟩ := PO_St hf
      have hb := nxb_lt G (pre f i) (la f i)
      have hps := pk_small hf h8 (by omega)
      generalize hg : (fun x => if G (pre f i) (la f i) x = true then (ext G w.1 k (ins (pre f i) x) x).map (List.cons x) else []) = g
      have hext : ext G w.1 (k + 1) (pre f i) (la f i) = fm w.1 g := by rw [← hg]; rfl
      have hgx : ∀ x, g x = if G (pre f i) (la f i) x = true then (ext G w.1 k (ins (pre f i) x) x).map (List.cons x) else [] := fun x => by rw [← hg]
      have hflen : ∀ a b, a ≤ b → (fm a g).length ≤ (fm b g).length := fun a b hab => by
        rw [fm_len, fm_len]
        exact sm_up_le _ hab
      rw [hext] at hlen ⊢
      obtain ⟨r, e1, N, e2, e3, e4, e5⟩ := tr_loop_inv (step := mX2_step_l40 (nI i) (nI (pre f i)) (nI (mxf i (ral w f))) (nI (pk 0 (seg f 0 i))) (mX2_step d) (nI (nxb G (pre f i) (la f i)))) (s0 := (0, M)) (fun x t => ∃ N, t = (nI x, N) ∧ WS w (A ++ (fm x g).map (seg f 0 i ++ ·)) N ∧ (∀ j, j < i → N.1 55 (f j) = nI j) ∧ KW M N) (fun r => ∃ N, r = .inr N ∧ WS w (A ++ (fm w.1 g).map (seg f 0 i ++ ·)) N ∧ (∀ j, j < i → N.1 55 (f j) = nI j) ∧ KW M N) w.1 (by omega) ⟨M, rfl, by show WS w (A ++ []) M; rw [List.append_nil]; exact hA, hse, KW.rf⟩ (by
        rintro x t hx ⟨N, rfl, t1, t2, t3⟩
        left
        have hwN := hw.kw t3
        unfold mX2_step_l40
        dsimp only
        rw [hwN.1, if_pos ((nlt (by omega) (by omega)).mpr hx), nadd1]
        simp (disch := omega) only [bit_eq0]
        rw [nxb_bit]
        have hfm : fm (x + 1) g = fm x g ++ g x := rfl
        cases q : G (pre f i) (la f i) x with
        | false =>
          rw [if_pos (by simp)]
          refine ⟨_, rfl, N, rfl, ?_, t2, t3⟩
          rw [hfm, hgx, q, if_neg (by decide), List.append_nil]
          exact t1
        | true =>
          have hnew := (hG _ _ _ q).2
          have hp' := wput_PO hf hx hnew
          have hgq : g x = (ext G w.1 k (ins (pre f i) x) x).map (List.cons x) := by rw [hgx, q, if_pos rfl]
          have hne : ∀ j, j < i → f j ≠ x := fun j hj e => by
            have := (pre_bit f x i).mpr ⟨j, hj, e⟩
            rw [hnew] at this
            cases this
          rw [if_neg (by simp [show x < 10 by omega]), tr_wr_nI (by omega) (by decide), Option.bind_some, ins_nI (by omega), ← wput_pre]
          generalize hN5 : tr_st N 55 x (nI i) = N5
          have k5 : KW N N5 := by rw [← hN5]; exact KW.st
          have hw5 := hwN.kw k5
          have hse5 : ∀ j, j < i + 1 → N5.1 55 (wput f i x j) = nI j := fun j hj => by
            by_cases c : j = i
            · rw [c, wput_s, ← hN5, tr_st_s]
            · rw [wput_o (by omega), ← hN5, tr_st_j (hne j (by omega))]
              exact t2 j (by omega)
          have hseo : ∀ j, j < i → N5.1 55 (f j) = nI j := fun j hj => by
            have := hse5 j (by omega)
            rw [wput_o hj] at this
            exact this
          have hpl' := PO_lt hp'
          have hral := reachAtLeast_eq (f := wput f i x) hok hw5 (show i < 10 by omega) (by omega) (fun y hy => by
            obtain ⟨j, j1, j2⟩ := (pre_bit _ y (i + 1)).mp hy
            obtain ⟨s1, s2⟩ := sf_get ⟨j, j1, j2⟩
            have := hp'.2 _ _ s2 j1 (s1.trans j2.symm)
            rw [this, ← j2]
            exact hse5 j j1)
          rw [hral, Option.bind_some]
          have hWS5 : WS w (A ++ (fm x g).map (seg f 0 i ++ ·)) N5 := t1.cg (by rw [← hN5, tr_st_ne (by decide)]) (by rw [← hN5, tr_st_ne (by decide)]) (by rw [← hN5, tr_st_ne (by decide)])
          have hmx : max (mxf i (ral w f)) (ral w (wput f i x) i) = mxf (i + 1) (ral w (wput f i x)) := by
            rw [mxf_s]
            congr 1
            exact mxf_congr fun j hj => ral_cg fun t ht => (wput_o (by omega)).symm
          have hla : la (wput f i x) (i + 1) = x := by unfold la; rw [if_neg (by omega)]; exact wput_s f i x
          have hlx : lx (wput f i x) (i + 1) = x := by unfold lx; rw [if_neg (by omega)]; exact wput_s f i x
          have hlow : ∀ p, p ∈ (g x).map (seg f 0 i ++ ·) → mxf (i + 1) (ral w (wput f i x)) ≤ lgv w p := fun p hp => by
            obtain ⟨q1, hq1, rfl⟩ := List.mem_map.mp hp
            rw [hgq] at hq1
            obtain ⟨q2, hq2, rfl⟩ := List.mem_map.mp hq1
            obtain ⟨o, o1, o2, o3⟩ := PO_ext hG k (i + 1) (wput f i x) q2 hp' (by omega) (by rw [wput_pre, hla]; exact hq2)
            rw [wput_seg, List.append_assoc] at o2
            have o2' : seg f 0 i ++ x :: q2 = seg o 0 w.1 := o2
            rw [o2', lgv_seg, mxf_le]
            intro j hj
            rw [ral_cg (g := o) (fun t ht => (o3 t (by omega)).symm)]
            exact ral_le hok o1 (by omega)
          have hr1 : mxf i (ral w f) < 2147483648 ∧ ral w (wput f i x) i < 2147483648 := by
            have hb : ∀ f j, j < 10 → ral w f j ≤ 30 := fun f j hj => mxf_le.mpr fun y _ => by
              have := cnt_le (ndf (tied w y) (pre f (j + 1))) 10
              split <;> omega
            have h1 : mxf i (ral w f) ≤ 30 := mxf_le.mpr fun j hj => hb f j (by omega)
            have h2 := hb (wput f i x) i (by omega)
            omega
          have hbest := lm_le TP ((A ++ (fm x g).map (seg f 0 i ++ ·)).map (lgv w))
          have hTP : TP = 268435456 := rfl
          have hmr : mxf (i + 1) (ral w (wput f i x)) < 2147483648 := by rw [← hmx]; omega
          rw [hWS5.1, nmax _ _ hr1.1 hr1.2, hmx]
          simp (disch := omega) only [nlt]
          by_cases c : lm TP ((A ++ (fm x g).map (seg f 0 i ++ ·)).map (lgv w)) < mxf (i + 1) (ral w (wput f i x))
          · rw [if_pos c]
            refine ⟨_, rfl, N5, rfl, ?_, hseo, t3.tr k5⟩
            rw [hfm, List.map_append, ← List.append_assoc]
            exact hWS5.skip fun p hp => Nat.lt_of_lt_of_le c (hlow p hp)
          · rw [if_neg c]
            have hl2 := hflen (x + 1) w.1 (by omega)
            rw [hfm, List.length_append, hgq, List.length_map] at hl2
            obtain ⟨P, p1, p2, p3, p4⟩ := ih d (i + 1) (wput f i x) N5 (A ++ (fm x g).map (seg f 0 i ++ ·)) (by omega) (by omega) hp' hw5 ((hL.kw t3).kw k5) hse5 hWS5 (by
              rw [wput_pre, hla, List.length_append, List.length_map]
              omega)
            rw [hlx, wput_seg, pk_app] at p1
            rw [nadd1, pack_nI (by omega) (by omega)]
            have p1' : mX2_step d (nI (i + 1)) (nI (pre (wput f i x) (i + 1))) (nI x) (nI (mxf (i + 1) (ral w (wput f i x)))) (nI (pk 0 (seg f 0 i) * 8 + x)) N5 = some P := p1
            rw [p1', Option.bind_some]
            refine ⟨_, rfl, P, rfl, ?_, fun j hj => ?_, (t3.tr k5).tr p4⟩
            · rw [wput_pre, hla, wput_seg] at p2
              rw [hfm, hgq, List.map_append, ← List.append_assoc, List.map_map]
              have : ((fun y => seg f 0 i ++ y) ∘ List.cons x) = fun y => seg f 0 i ++ [x] ++ y := by
                funext y
                show seg f 0 i ++ x :: y = _
                rw [List.append_assoc]
                rfl
              rw [this]
              exact p2
            · have := p3 j (by omega)
              rw [wput_o hj] at this
              exact this) (by
        rintro t ⟨N, rfl, t1, t2, t3⟩
        have hwN := hw.kw t3
        unfold mX2_step_l40
        dsimp only
        rw [hwN.1, if_neg (by rw [nlt (by omega) (by omega)]; omega)]
        exact ⟨_, rfl, N, rfl, t1, t2, t3⟩)
      refine ⟨N, ?_, e3, e4, e5⟩
      unfold mX2_step
      rw [hw.1, if_pos ((nlt (by omega) (by omega)).mpr (by omega)), show (8 : Int32) = nI 8 from rfl, if_pos ((nlt (by omega) (by decide)).mpr (by omega)), nextIn_eq hn hL hst, hls, Option.bind_some, e1, e2]
      rfl
