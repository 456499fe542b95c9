def pure_inv (M1 M2 : tr_M) : Prop := ∃ w, InvE w M1 M2
theorem pi_e {ρ : Type} {w : Wd} {a b : Option (ρ × tr_M)} (h : ResE w a b) : ∃ (r : ρ) (N1 N2 : tr_M), a = some (r, N1) ∧ b = some (r, N2) ∧ pure_inv N1 N2 := by
  obtain ⟨r, N1, N2, e1, e2, e3⟩ := h
  exact ⟨r, N1, N2, e1, e2, w, e3⟩
theorem pi_2 {ρ : Type} {w : Wd} {M1 M2 : tr_M} {a b : Option (ρ × tr_M)} (hI : InvE w M1 M2) (h : Res2 a b M1 M2) : ∃ (r : ρ) (N1 N2 : tr_M), a = some (r, N1) ∧ b = some (r, N2) ∧ pure_inv N1 N2 := pi_e (hI.res2 h)
theorem pi_1 {ρ : Type} {w : Wd} {M1 M2 : tr_M} {a b : Option (ρ × tr_M)} (hI : InvE w M1 M2) (h : Res a b M1 M2) : ∃ (r : ρ) (N1 N2 : tr_M), a = some (r, N1) ∧ b = some (r, N2) ∧ pure_inv N1 N2 := pi_2 hI h.to2
theorem pi_w {ρ : Type} {w : Wd} {M1 M2 : tr_M} {a b : Option (ρ × tr_M)} (hI : InvE w M1 M2) (h : ResW a b M1 M2) : ∃ (r : ρ) (N1 N2 : tr_M), a = some (r, N1) ∧ b = some (r, N2) ∧ pure_inv N1 N2 := by
  obtain ⟨r, N1, N2, e1, e2, e3, ⟨w', e4⟩, e5, e6, e7⟩ := h
  refine ⟨r, N1, N2, e1, e2, w', e3, e4, Or.inl e5, ?_, ?_⟩
  · show N1.1 25 13 = -9
    rw [e6]
    exact hI.2.2.2.1
  · show N2.1 1 27 = -9
    rw [e7]
    exact hI.2.2.2.2
theorem InvE.dm {w : Wd} {M1 M2 : tr_M} (h : InvE w M1 M2) (v : Int64) : InvE w M1 (DM M2 v) := by
  obtain ⟨h1, ⟨hok, hw, hm⟩, h3, h4, h5⟩ := h
  exact ⟨h1.congr (fun _ _ _ _ _ _ => rfl) (fun _ _ => rfl) rfl (fun _ _ _ _ => rfl) (fun _ _ => rfl) (fun k hk => by show (tr_sl M2 1 37 v).2 1 k = M2.2 1 k; rw [tr_sl_2, if_neg (by omega)]), ⟨hok, hw, hm.congr rfl rfl rfl rfl⟩, h3, h4, h5⟩
theorem s_row : sm_row pure_inv := fun M1 M2 p1 p2 ⟨w, h⟩ => pi_1 h (r_row h.1 p1 p2)
theorem s_lay : sm_lay pure_inv := fun M1 M2 p1 p2 p3 ⟨w, h⟩ => pi_1 h (r_lay h.1 p1 p2 p3)
theorem s_at : sm_at pure_inv := fun M1 M2 p1 p2 ⟨w, h⟩ => pi_1 h (r_at h.1 p1 p2)
theorem s_tear : sm_tear pure_inv := fun M1 M2 p1 ⟨w, h⟩ => pi_1 h (r_tear h.1 p1)
theorem s_copy : sm_copy pure_inv := fun M1 M2 p1 p2 p3 p4 p5 ⟨w, h⟩ => pi_1 h (r_copy h.1 p1 p2 p3 p4 p5)
theorem s_mean : sm_mean pure_inv := fun M1 M2 p1 ⟨w, h⟩ => pi_1 h (r_mean h.1 p1)
theorem s_text : sm_text pure_inv := fun M1 M2 p1 p2 ⟨w, h⟩ => pi_1 h (r_text h.1 p1 p2)
theorem s_put : sm_put pure_inv := fun M1 M2 p1 p2 p3 ⟨w, h⟩ => pi_1 h (r_put h.1 p1 p2 p3)
theorem s_fault : sm_fault pure_inv := fun M1 M2 p1 ⟨w, h⟩ => pi_2 h (r_fault h.1 h.2.1 p1)
theorem s_world : sm_world pure_inv := fun M1 M2 p1 ⟨w, h⟩ => (r_world h.1 h.2.1 p1).elim (pi_2 h) (pi_w h)
theorem s_tie : sm_tie pure_inv := fun M1 M2 p1 p2 p3 ⟨w, h⟩ => (r_tie h.1 h.2.1 p1 p2 p3).elim (pi_1 h) (pi_w h)
theorem s_rule : sm_rule pure_inv := fun M1 M2 p1 p2 p3 p4 ⟨w, h⟩ => (r_rule h.1 h.2.1 p1 p2 p3 p4).elim (pi_1 h) (pi_w h)
theorem s_off : sm_off pure_inv := fun M1 M2 p1 p2 ⟨w, h⟩ => (r_off h.1 h.2.1 p1 p2).elim (pi_1 h) (pi_w h)
theorem s_back : sm_back pure_inv := fun M1 M2 p1 ⟨w, h⟩ => (r_back h.1 h.2.1 p1).elim (pi_1 h) (pi_w h)
theorem s_told : sm_told pure_inv := fun M1 M2 p1 p2 ⟨w, h⟩ => pi_1 h (r_told h.1 h.2.1 p1 p2)
theorem s_mark : sm_mark pure_inv := fun M1 M2 p1 p2 ⟨w, h⟩ => pi_1 h (r_mark h.1 h.2.1 p1 p2)
theorem s_measure : sm_measure pure_inv := fun M1 M2 p1 p2 ⟨w, h⟩ => pi_2 h (r_measure h.1 h.2.1 p1 p2)
theorem s_breaks : sm_breaks pure_inv := fun M1 M2 p1 ⟨w, h⟩ => pi_2 h (r_breaks h.1 h.2.1 p1)
theorem s_gap : sm_gap pure_inv := fun M1 M2 p1 p2 ⟨w, h⟩ => pi_2 h (r_gap h.1 h.2.1 p1 p2)
theorem s_least : sm_least pure_inv := fun M1 M2 p1 ⟨w, h⟩ => pi_e (r_least h p1)
theorem s_first : sm_first pure_inv := fun M1 M2 p1 p2 ⟨w, h⟩ => pi_e (r_first h p1 p2)
theorem s_ways : sm_ways pure_inv := fun M1 M2 p1 ⟨w, h⟩ => pi_e (r_ways h p1)
theorem s_rank : sm_rank pure_inv := fun M1 M2 p1 p2 ⟨w, h⟩ => pi_e (r_rank h p1 p2)
theorem s_order : sm_order pure_inv := fun M1 M2 p1 p2 p3 ⟨w, h⟩ => pi_e (r_order h p1 p2 p3)
theorem s_all : sm_all pure_inv := fun M1 M2 ⟨w, h⟩ => pi_e (r_all h)
theorem s_bound : sm_bound pure_inv := fun M1 M2 p1 ⟨w, h⟩ => pi_2 h (r_bound h.1 h.2.1 p1)
theorem s_costs : sm_costs pure_inv := fun M1 M2 p1 p2 p3 ⟨w, h⟩ => pi_e (r_costs h p1 p2 p3)
theorem s_bars : sm_bars pure_inv := fun M1 M2 p1 p2 ⟨w, h⟩ => pi_e (r_bars h p1 p2)
theorem s_where : sm_where pure_inv := fun M1 M2 p1 p2 p3 ⟨w, h⟩ => pi_e (r_where h p1 p2 p3)
theorem s_places : sm_places pure_inv := fun M1 M2 p1 p2 ⟨w, h⟩ => pi_e (r_places h p1 p2)
theorem s_middle : sm_middle pure_inv := fun M1 M2 p1 p2 ⟨w, h⟩ => pi_e (r_middle h p1 p2)
theorem s_leads : sm_leads pure_inv := fun M1 M2 p1 p2 p3 ⟨w, h⟩ => pi_e (r_leads h p1 p2 p3)
theorem s_both : sm_both pure_inv := fun M1 M2 p1 p2 ⟨w, h⟩ => pi_e (r_both h p1 p2)
theorem s_must : sm_must pure_inv := fun M1 M2 ⟨w, h⟩ => pi_e (r_must h)
theorem s_swaps : sm_swaps pure_inv := fun M1 M2 p1 p2 ⟨w, h⟩ => pi_2 h (r_swaps h.1 h.2.1 p1 p2)
theorem s_moves : sm_moves pure_inv := fun M1 M2 p1 p2 ⟨w, h⟩ => pi_2 h (r_moves h.1 h.2.1 p1 p2)
theorem s_apart : sm_apart pure_inv := fun M1 M2 p1 p2 ⟨w, h⟩ => pi_2 h (r_apart h.1 h.2.1 p1 p2)
theorem s_draw : sm_draw pure_inv := fun M1 M2 p1 p2 ⟨w, h⟩ => pi_2 h (r_draw h.1 h.2.1 p1 p2)
theorem s_lots : sm_lots pure_inv := fun M1 M2 p1 p2 p3 ⟨w, h⟩ => pi_2 h (r_lots h.1 h.2.1 p1 p2 p3)
theorem s_average : sm_average pure_inv := fun M1 M2 ⟨w, h⟩ => pi_2 h (r_average h.1 h.2.1)
theorem s_image : sm_image pure_inv := fun M1 M2 p1 ⟨w, h⟩ => pi_2 h (r_image h.1 h.2.1 p1)
theorem s_on : sm_on pure_inv := fun M1 M2 p1 ⟨w, h⟩ => (r_on h.1 h.2.1 p1).elim (pi_1 h) (pi_w h)
theorem s_asked : sm_asked pure_inv := fun M1 M2 ⟨w, h⟩ => ⟨mX6_asked M1, M1, M2, rfl, congrArg some (congrArg (fun v => (v, M2)) (r_asked h.1).symm), w, h⟩
theorem s_upper : sm_upper pure_inv := fun M1 M2 ⟨w, h⟩ => ⟨mX6_upper M1, M1, M2, rfl, congrArg some (congrArg (fun v => (v, M2)) (r_upper h.1).symm), w, h⟩
theorem s_lower : sm_lower pure_inv := fun M1 M2 ⟨w, h⟩ => ⟨mX6_lower M1, M1, M2, rfl, congrArg some (congrArg (fun v => (v, M2)) (r_lower h.1).symm), w, h⟩
theorem s_count : sm_count pure_inv := fun M1 M2 p1 ⟨w, h⟩ => by
  obtain ⟨v, e1, e2⟩ := r_count h.1 h.2.1 p1
  refine ⟨v, M1, M2, ?_, ?_, w, h⟩
  · unfold wX6_count
    rw [e1]
    rfl
  · unfold wX7_count
    rw [e2]
    rfl
theorem s_finding : sm_finding pure_inv := fun M1 M2 ⟨w, h⟩ => ⟨mX6_finding M1, M1, M2, rfl, congrArg some (congrArg (fun v => (v, M2)) (r_finding h.1).symm), w, h⟩
theorem s_findings : sm_findings pure_inv := fun M1 M2 p1 ⟨w, h⟩ => by
  obtain ⟨v, e1, e2⟩ := r_findings h.1 p1
  refine ⟨v, M1, M2, ?_, ?_, w, h⟩
  · unfold wX6_findings
    rw [e1]
    rfl
  · unfold wX7_findings
    rw [e2]
    rfl
theorem s_digest : sm_digest pure_inv := fun M1 M2 ⟨w, h⟩ => by
  obtain ⟨v, e1, e2⟩ := r_digest h.1 h.2.1
  refine ⟨v, M1, DM M2 v, ?_, e2, w, h.dm v⟩
  unfold wX6_digest
  rw [e1]
  rfl
theorem pure_same : tr_same pure_inv := ⟨s_row, s_lay, s_at, s_tear, s_copy, s_mean, s_text, s_put, s_fault, s_world, s_tie, s_rule, s_off, s_back, s_told, s_mark, s_measure, s_breaks, s_gap, s_least, s_first, s_ways, s_rank, s_order, s_all, s_bound, s_costs, s_bars, s_where, s_places, s_middle, s_leads, s_both, s_must, s_swaps, s_moves, s_apart, s_draw, s_lots, s_average, s_image, s_on, s_asked, s_upper, s_lower, s_count, s_finding, s_findings, s_digest⟩
def wd0 : Wd := (0, fun _ _ => 0, 0, fun _ => (0, 0, 0, 0), fun _ => false)
theorem wd0_rows : ∀ r : Fin 6, tr_C0.1 (62 + 2 * r.1) 1 = -1 ∧ tr_M0.1 3 r.1 = -1 := by decide +kernel
theorem wd0_texts : ∀ t : Fin 4, tr_C0.1 (74 + 2 * t.1) 1 = -1 ∧ tr_M0.1 6 t.1 = -1 := by decide +kernel
theorem wd0_found : tr_C0.1 1 11 = tr_M0.1 1 0 ∧ (∀ f : Fin 6, tr_C0.1 57 f.1 = tr_M0.1 2 f.1) ∧ tr_C0.1 1 12 = tr_M0.1 1 2 ∧ tr_C0.2 1 13 = tr_M0.2 1 3 ∧ tr_C0.2 1 14 = tr_M0.2 1 4 := by decide +kernel
theorem wd0_cls : tr_C0.1 26 0 = nI 0 ∧ tr_C0.1 26 1 = nI 0 ∧ tr_C0.1 26 2 = nI 0 ∧ (∀ a b : Fin 10, tr_C0.1 (26 + 2 + a.1) b.1 = nI 0) ∧ (∀ a : Fin 10, tr_C0.1 (26 + 12) a.1 = nI 0) ∧ (∀ a : Fin 10, tr_C0.1 (26 + 13) a.1 = nI 0) ∧ tr_C0.1 1 15 = -9 ∧ tr_C0.1 25 13 = -9 := by decide +kernel
theorem wd0_mod : tr_M0.1 1 10 = nI 0 ∧ tr_M0.1 1 12 = nI 0 ∧ (∀ a b : Fin 10, tr_M0.1 8 (10 * a.1 + b.1) = nI 0) ∧ tr_M0.1 1 27 = -9 := by decide +kernel
theorem pure_start : pure_inv tr_C0 tr_M0 := by
  obtain ⟨f1, f2, f3, f4, f5⟩ := wd0_found
  obtain ⟨c1, c2, c3, c4, c5, c6, c7, c8⟩ := wd0_cls
  obtain ⟨m1, m2, m3, m4⟩ := wd0_mod
  refine ⟨wd0, ⟨fun r hr => Or.inl (wd0_rows ⟨r, hr⟩), fun t ht => Or.inl (wd0_texts ⟨t, ht⟩), f1, fun f hf => f2 ⟨f, hf⟩, f3, f4, f5⟩, ⟨⟨by decide, fun _ _ => Nat.zero_le 9, fun _ _ => rfl, fun _ _ _ => rfl, by decide, fun k hk => absurd hk (Nat.not_lt_zero k), fun _ _ => rfl⟩, ⟨c1, c2, ?_, fun a b ha hb => c4 ⟨a, ha⟩ ⟨b, hb⟩, fun a ha => ?_, fun a ha => ?_, fun k hk => absurd hk (Nat.not_lt_zero k)⟩, ⟨m1, m2, fun a b ha hb => m3 ⟨a, ha⟩ ⟨b, hb⟩, fun k hk => absurd hk (Nat.not_lt_zero k)⟩⟩, Or.inl c7, c8, m4⟩
  · rw [show obits wd0 = 0 by decide]
    exact c3
  · rw [show tied wd0 a = 0 from show mkb 10 (fun _ => decide (0 < 0)) = 0 by decide]
    exact c5 ⟨a, ha⟩
  · rw [show load wd0 a = 0 from show sm 10 (fun _ => 0) = 0 by decide]
    exact c6 ⟨a, ha⟩
