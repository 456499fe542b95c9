/-! ===== image ===== -/
def tp (n a : Nat) : Nat := sm a (fun i => n - 1 - i)
theorem tp_tab : ∀ n : Fin 11, tp n.1 n.1 = n.1 * (n.1 - 1) / 2 ∧ tp n.1 n.1 ≤ 45 := by decide +kernel
theorem tp_mono (n : Nat) {a b : Nat} (h : a ≤ b) : tp n a ≤ tp n b := by
  induction b with
  | zero => rw [show a = 0 by omega]; exact Nat.le_refl _
  | succ b ih =>
    by_cases e : a = b + 1
    · rw [e]; exact Nat.le_refl _
    · have := ih (by omega)
      show _ ≤ tp n b + (n - 1 - b)
      omega
theorem tp_s (n a : Nat) : tp n (a + 1) = tp n a + (n - 1 - a) := rfl
theorem nsub1' {n : Nat} (hn : n ≤ 10) : nI n * (nI n - 1) / 2 = nI (tp n n) := by
  have : ∀ n : Fin 11, nI n.1 * (nI n.1 - 1) / 2 = nI (tp n.1 n.1) := by decide +kernel
  exact this ⟨n, by omega⟩
/-- two loops over all pairs, side by side -/
theorem pairs_both {ρ₁ ρ₂ : Type} {n : Nat} (hn : n ≤ 10) {st1 : Int32 × Int32 × tr_M → Option ((Int32 × Int32 × tr_M) ⊕ ρ₁)} {st2 : Int32 × Int32 × tr_M → Option ((Int32 × Int32 × tr_M) ⊕ ρ₂)} {in1 : Int32 × Int32 × tr_M → Int32 × Int32 × tr_M → Option ((Int32 × Int32 × tr_M) ⊕ ((Int32 × Int32 × tr_M) ⊕ ρ₁))} {in2 : Int32 × Int32 × tr_M → Int32 × Int32 × tr_M → Option ((Int32 × Int32 × tr_M) ⊕ ((Int32 × Int32 × tr_M) ⊕ ρ₂))} {o1 o2 : Nat} {M1 M2 : tr_M} (R : Nat → tr_M → tr_M → Prop) (Q : ρ₁ → ρ₂ → Prop) (h0 : R 0 M1 M2) (hin : ∀ a b c N1 N2 K1 K2, a < b → b < n → c < tp n n → R c N1 N2 → ∃ P1 P2, in1 (nI (o1 + tp n a), nI a, K1) (nI (o1 + c), nI b, N1) = some (.inl (nI (o1 + c + 1), nI (b + 1), P1)) ∧ in2 (nI (o2 + tp n a), nI a, K2) (nI (o2 + c), nI b, N2) = some (.inl (nI (o2 + c + 1), nI (b + 1), P2)) ∧ R (c + 1) P1 P2) (hend : ∀ a c N1 N2 K1 K2, a < n → R c N1 N2 → in1 (nI (o1 + tp n a), nI a, K1) (nI (o1 + c), nI n, N1) = some (.inr (.inl (nI (o1 + c), nI (a + 1), N1))) ∧ in2 (nI (o2 + tp n a), nI a, K2) (nI (o2 + c), nI n, N2) = some (.inr (.inl (nI (o2 + c), nI (a + 1), N2)))) (hst : ∀ a c N1 N2, a < n → R c N1 N2 → st1 (nI (o1 + c), nI a, N1) = tr_loop (in1 (nI (o1 + c), nI a, N1)) (nI (o1 + c), nI a + 1, N1) ∧ st2 (nI (o2 + c), nI a, N2) = tr_loop (in2 (nI (o2 + c), nI a, N2)) (nI (o2 + c), nI a + 1, N2)) (he : ∀ N1 N2, R (tp n n) N1 N2 → ∃ r q, st1 (nI (o1 + tp n n), nI n, N1) = some (.inr r) ∧ st2 (nI (o2 + tp n n), nI n, N2) = some (.inr q) ∧ Q r q) : ∃ r q, tr_loop st1 (nI o1, 0, M1) = some r ∧ tr_loop st2 (nI o2, 0, M2) = some q ∧ Q r q := by
  refine loops_both (fun a s t => ∃ N1 N2, s = (nI (o1 + tp n a), nI a, N1) ∧ t = (nI (o2 + tp n a), nI a, N2) ∧ R (tp n a) N1 N2) Q n (by omega) ⟨M1, M2, rfl, rfl, h0⟩ ?_ ?_
  · rintro a s t ha ⟨N1, N2, rfl, rfl, hR⟩
    left
    obtain ⟨s1, s2⟩ := hst a (tp n a) N1 N2 ha hR
    rw [s1, s2]
    have hm := tp_mono n (show a + 1 ≤ n by omega)
    rw [tp_s] at hm
    obtain ⟨r, q, e1, e2, P1, P2, e3, e4, e5⟩ := loops_both (st1 := in1 (nI (o1 + tp n a), nI a, N1)) (st2 := in2 (nI (o2 + tp n a), nI a, N2)) (a := (nI (o1 + tp n a), nI a + 1, N1)) (b := (nI (o2 + tp n a), nI a + 1, N2)) (fun i s t => ∃ P1 P2, s = (nI (o1 + (tp n a + i)), nI (a + 1 + i), P1) ∧ t = (nI (o2 + (tp n a + i)), nI (a + 1 + i), P2) ∧ R (tp n a + i) P1 P2) (fun r q => ∃ P1 P2, r = .inl (nI (o1 + tp n (a + 1)), nI (a + 1), P1) ∧ q = .inl (nI (o2 + tp n (a + 1)), nI (a + 1), P2) ∧ R (tp n (a + 1)) P1 P2) (n - 1 - a) (by omega) ⟨N1, N2, by rw [nadd1]; rfl, by rw [nadd1]; rfl, hR⟩ (by
      rintro i s t hi ⟨P1, P2, rfl, rfl, hP⟩
      left
      obtain ⟨Q1, Q2, g1, g2, g3⟩ := hin a (a + 1 + i) (tp n a + i) P1 P2 N1 N2 (by omega) (by omega) (by omega) hP
      exact ⟨_, _, g1, g2, Q1, Q2, rfl, rfl, g3⟩) (by
      rintro s t ⟨P1, P2, rfl, rfl, hP⟩
      rw [show a + 1 + (n - 1 - a) = n by omega]
      obtain ⟨g1, g2⟩ := hend a (tp n a + (n - 1 - a)) P1 P2 N1 N2 ha hP
      exact ⟨_, _, g1, g2, P1, P2, rfl, rfl, hP⟩)
    subst e3 e4
    exact ⟨_, _, e1, e2, P1, P2, rfl, rfl, e5⟩
  · rintro s t ⟨N1, N2, rfl, rfl, hR⟩
    exact he N1 N2 hR
theorem offBits_eq {w : Wd} {M : tr_M} (hok : WOk w) (hm : MWd w M) : mX7_offBits M = some (nI (obits w)) := by
  have h8 := hok.2.2.2.2.1
  unfold mX7_offBits
  have hob : obits w = mkb w.2.2.1 w.2.2.2.2 := by
    refine Nat.eq_of_testBit_eq fun i => ?_
    rw [obits_bit, mkb_bit]
    by_cases c : i < w.2.2.1
    · simp [c, show i < 8 by omega]
    · rw [hok.2.2.2.2.2.2 i (by omega)]; simp
  rw [hob]
  refine tr_loop_seq' (fun k => (nI (mkb k w.2.2.2.2), nI k)) w.2.2.1 rfl (by omega) (fun k hk => ?_) ?_
  · unfold mX7_offBits_l4
    simp (disch := omega) only [hm.2.1, nlt, hk, if_true, ruleAt4 hok hm hk, Option.bind_some, nadd1]
    show _ = some (Sum.inl (nI (mkb k w.2.2.2.2 ||| (if w.2.2.2.2 k = true then 2 ^ k else 0)), nI (k + 1)))
    unfold offF
    cases w.2.2.2.2 k with
    | true =>
      rw [if_pos rfl, if_pos rfl, show nI 1 = (1 : Int32) from rfl, sh1 (by omega), or_nI]
    | false =>
      have e : nI 0 <<< (nI k &&& 31) = nI 0 := by
        have : ∀ k : Fin 8, nI 0 <<< (nI k.1 &&& 31) = nI 0 := by decide +kernel
        exact this ⟨k, by omega⟩
      rw [if_neg (by decide), if_neg (by decide), e, or_nI]
  · unfold mX7_offBits_l4
    simp (disch := omega) only [hm.2.1, nlt, Nat.lt_irrefl, if_false]
theorem r_image {w : Wd} {M1 M2 : tr_M} (h : ITF M1 M2) (hw : IWd w M1 M2) (p1 : Int32) : Res2 (mX6_image p1 M1) (mX7_image p1 M2) M1 M2 := by
  have hn := hw.1.1
  have ht := (tp_tab ⟨w.1, by omega⟩).2
  have ht : tp w.1 w.1 ≤ 45 := ht
  unfold mX6_image mX7_image
  rcases isRow_cases p1 with ⟨d1, d2⟩ | ⟨r, hr, rfl, d1, d2⟩
  · rw [d1, d2]; exact (Res.same h).to2
  have hl := len_row hr
  have hsz : mX6_imageSize M1 = nI (tp w.1 w.1 + 1) := by
    unfold mX6_imageSize
    rw [hw.2.1.1, nsub1' hn, nadd1]
  simp only [d1, d2, Option.bind_some, if_neg (show ¬ (1 : Int32) = 0 by decide), tr_ra_nI hr (show 6 < 2147483648 by decide), hsz, hw.2.2.1, nsub1' hn, nadd1]
  rw [make_eq hl (by decide) (by omega) (by decide), clear_eq hr]
  simp only [Option.bind_some]
  obtain ⟨k1, k2, k3⟩ := made_row h hr (show tp w.1 w.1 + 1 ≤ 60 by omega) (g1 := fl (M1.1 (62 + 2 * r + 1)) 0 (tp w.1 w.1 + 1) 0) (g2 := fl (M2.1 4) (60 * r) 60 0) (fun i hi => by rw [fl_in (by omega) (by omega), fl_in (by omega) (by omega)]) (fun j hj => fl_out hj) (v1 := nI (tp w.1 w.1 + 1)) (v2 := nI (tp w.1 w.1 + 1)) rfl rfl
  generalize hA1 : tr_row (tr_st M1 (62 + 2 * r) 1 (nI (tp w.1 w.1 + 1))) (62 + 2 * r + 1) (fl (M1.1 (62 + 2 * r + 1)) 0 (tp w.1 w.1 + 1) 0) = A1 at *
  generalize hA2 : tr_row (tr_st M2 3 r (nI (tp w.1 w.1 + 1))) 4 (fl (M2.1 4) (60 * r) 60 0) = A2 at *
  have hc1 : CWd w 26 A1 := hw.2.1.congr fun b h1 h2 => by rw [← hA1, tr_row_ne (by omega), tr_st_ne (by omega)]
  have hm2 : MWd w A2 := hw.2.2.congr k3.2.2.1 k3.2.2.2.1 k3.1 k3.2.1
  -- what stays as it is while the weights are laid
  obtain ⟨q1, q2, e1, e2, B1, B2, e3, e4, e5⟩ := pairs_both (n := w.1) hn (st1 := mX6_image_l30 (nI r)) (st2 := mX7_image_l39) (in1 := mX6_image_l48 (nI r)) (in2 := mX7_image_l54) (o1 := 0) (o2 := 60 * r) (M1 := A1) (M2 := A2) (fun c N1 N2 => ITF N1 N2 ∧ KC A1 N1 ∧ KM A2 N2 ∧ (∀ b, b ≠ 62 + 2 * r + 1 → N1.1 b = A1.1 b)) (fun q1 q2 => ∃ N1 N2, q1 = (nI (tp w.1 w.1), N1) ∧ q2 = (nI (60 * r + tp w.1 w.1), N2) ∧ ITF N1 N2 ∧ KC A1 N1 ∧ KM A2 N2 ∧ (∀ b, b ≠ 62 + 2 * r + 1 → N1.1 b = A1.1 b)) ⟨k1, KC.rf, KM.rf, fun _ _ => rfl⟩ (by
    rintro a b c N1 N2 K1 K2 hab hb hc ⟨g1, g2, g3, g4⟩
    have hcN : CWd w 26 N1 := hc1.congr fun b h1 h2 => g4 b (by omega)
    have hmN : MWd w N2 := hm2.congr g3.2.2.1 g3.2.2.2.1 g3.1 g3.2.1
    obtain ⟨s1, s2, s3⟩ := set_row g1 hr (show c < 60 by omega) (nI (w.2.1 a b))
    refine ⟨_, _, ?_, ?_, s1, g2.tr s2, g3.tr s3, fun x hx => by rw [tr_st_ne hx]; exact g4 x hx⟩
    · unfold mX6_image_l48
      dsimp only
      have c1 : nI b < nI w.1 := (nlt (by omega) (by omega)).mpr hb
      rw [hcN.1, if_pos c1, tr_ra_nI hr (by decide), Option.bind_some, tr_ra_nI (show a < 10 by omega) (by decide), Option.bind_some, tr_rd_nI (show b < 10 by omega) (by decide), Option.bind_some, hl, Nat.zero_add, tr_wr_nI (by omega) (by decide), Option.bind_some, nadd1, nadd1]
      have hwt := hcN.2.2.2.1 a b (by omega) (by omega)
      rw [show 26 + 2 + a = 28 + a by omega] at hwt
      rw [hwt]
    · unfold mX7_image_l54
      dsimp only
      have c1 : nI b < nI w.1 := (nlt (by omega) (by omega)).mpr hb
      rw [hmN.1, if_pos c1, weight_eq (by omega) (by omega), Option.bind_some, tr_wr_nI (by omega) (by decide), Option.bind_some, nadd1, nadd1, hmN.2.2.1 a b (by omega) (by omega)]) (by
    rintro a c N1 N2 K1 K2 ha ⟨g1, g2, g3, g4⟩
    have hcN : CWd w 26 N1 := hc1.congr fun b h1 h2 => g4 b (by omega)
    have hmN : MWd w N2 := hm2.congr g3.2.2.1 g3.2.2.2.1 g3.1 g3.2.1
    have c1 : ¬ nI w.1 < nI w.1 := by rw [nlt (by omega) (by omega)]; omega
    unfold mX6_image_l48 mX7_image_l54
    dsimp only
    rw [hcN.1, hmN.1, if_neg c1, if_neg c1, nadd1]
    exact ⟨rfl, rfl⟩) (by
    rintro a c N1 N2 ha ⟨g1, g2, g3, g4⟩
    have hcN : CWd w 26 N1 := hc1.congr fun b h1 h2 => g4 b (by omega)
    have hmN : MWd w N2 := hm2.congr g3.2.2.1 g3.2.2.2.1 g3.1 g3.2.1
    have c1 : nI a < nI w.1 := (nlt (by omega) (by omega)).mpr ha
    unfold mX6_image_l30 mX7_image_l39
    dsimp only
    rw [hcN.1, hmN.1, if_pos c1, if_pos c1]
    exact ⟨rfl, rfl⟩) (by
    rintro N1 N2 ⟨g1, g2, g3, g4⟩
    have hcN : CWd w 26 N1 := hc1.congr fun b h1 h2 => g4 b (by omega)
    have hmN : MWd w N2 := hm2.congr g3.2.2.1 g3.2.2.2.1 g3.1 g3.2.1
    have c1 : ¬ nI w.1 < nI w.1 := by rw [nlt (by omega) (by omega)]; omega
    refine ⟨(nI (tp w.1 w.1), N1), (nI (60 * r + tp w.1 w.1), N2), ?_, ?_, N1, N2, rfl, rfl, g1, g2, g3, g4⟩
    · unfold mX6_image_l30
      dsimp only
      rw [hcN.1, if_neg c1, Nat.zero_add]
    · unfold mX7_image_l39
      dsimp only
      rw [hmN.1, if_neg c1])
  obtain ⟨e5, e6, e7, e8⟩ := e5
  subst e3 e4
  have hcB : CWd w 26 B1 := hc1.congr fun b h1 h2 => e8 b (by omega)
  have hmB : MWd w B2 := hm2.congr e7.2.2.1 e7.2.2.2.1 e7.1 e7.2.1
  rw [show (60 : Int32) * nI r = nI (60 * r) from nmul 60 r]
  rw [show tr_loop (mX6_image_l30 (nI r)) (0, 0, A1) = _ from e1, e2]
  dsimp only [Option.bind_some]
  rw [offBits_eq hw.1 hmB, hcB.2.2.1]
  simp only [Option.bind_some]
  rw [hl, tr_wr_nI (by omega) (by decide), tr_wr_nI (by omega) (by decide)]
  obtain ⟨s1, s2, s3⟩ := set_row e5 hr (show tp w.1 w.1 < 60 by omega) (nI (obits w))
  exact ⟨_, _, _, rfl, rfl, s1, (k2.tr (e6.tr s2)).to2, k3.tr (e7.tr s3)⟩
