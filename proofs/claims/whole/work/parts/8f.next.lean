/-! ===== E: who may come next, in the class ===== -/
def pinv (pin : Option (Nat × Nat)) (s : Nat) : Int32 := match pin with | none => 0 | some (t, q) => if cnt 10 s = q then nI (2 ^ t) ^^^ (-1) else nI (2 ^ t)
def PinM (pin : Option (Nat × Nat)) (M : tr_M) : Prop := match pin with | none => M.1 25 13 = -9 | some (t, q) => M.1 25 13 = nI t ∧ M.1 25 14 = nI q ∧ t < 10 ∧ q < 10
theorem pinnedOut_eq {pin : Option (Nat × Nat)} {s : Nat} {M : tr_M} (h : PinM pin M) (hs : s < 1024) : mX4_pinnedOut (nI s) M = some (pinv pin s) := by
  unfold mX4_pinnedOut
  cases pin with
  | none =>
    have h : M.1 25 13 = -9 := h
    rw [if_pos h]
    rfl
  | some tq =>
    obtain ⟨t, q⟩ := tq
    obtain ⟨h1, h2, h3, h4⟩ := h
    have hcl := cnt_le s 10
    rw [h1, if_neg (ne9 (by omega)), bitCount_eq hs, Option.bind_some, h2, sh1 (by omega)]
    show _ = some (if cnt 10 s = q then nI (2 ^ t) ^^^ (-1) else nI (2 ^ t))
    by_cases c : cnt 10 s = q
    · rw [if_pos (by rw [c]), if_pos c]
    · rw [if_neg (by rw [neq (by omega) (by omega)]; exact c), if_neg c]
theorem bt_pinv {n : Nat} {pin : Option (Nat × Nat)} {s i : Nat} (hi : i < 32) : bt (pinv pin s) i = !pinb pin (cnt 10 s) i := by
  cases pin with
  | none =>
    show bt 0 i = false
    rw [n00, bt_nI hi, Nat.zero_testBit]
  | some tq =>
    obtain ⟨t, q⟩ := tq
    show bt (if cnt 10 s = q then nI (2 ^ t) ^^^ (-1) else nI (2 ^ t)) i = !(decide (cnt 10 s = q) == decide (i = t))
    have sy : decide (t = i) = decide (i = t) := by rw [decide_eq_decide]; exact eq_comm
    by_cases c : cnt 10 s = q
    · rw [if_pos c, bt_not hi, bt_nI hi, pow_bit, sy]
      simp [c]
    · rw [if_neg c, bt_nI hi, pow_bit, sy]
      simp [c]
def fitv (w : Wd) (pin : Option (Nat × Nat)) (s : Nat) : Int32 := nI (2 ^ w.1 - 1) &&& (orl (fun k => nI (bBk w k s)) w.2.2.1 (nI s ||| pinv pin s) ^^^ (-1))
def folv (w : Wd) (l : Nat) : Int32 := orl (fun k => nI (bNk w k l)) w.2.2.1 0 ^^^ (-1)
theorem al_and (f g : Nat → Bool) : ∀ n, al n (fun k => f k && g k) = (al n f && al n g)
  | 0 => rfl
  | n + 1 => by
    show (al n (fun k => f k && g k) && (f n && g n)) = ((al n f && f n) && (al n g && g n))
    rw [al_and f g n]
    cases al n f <;> cases al n g <;> cases f n <;> cases g n <;> rfl
/-- as a number: those who may come next -/
def nxb (nx : Rl) (s l : Nat) : Nat := mkb 10 (nx s l)
theorem nxb_bit (nx : Rl) (s l x : Nat) : (nxb nx s l).testBit x = (decide (x < 10) && nx s l x) := mkb_bit _ 10 x
theorem nxb_lt (nx : Rl) (s l : Nat) : nxb nx s l < 1024 := mkb_lt _ 10
theorem next_bits {w : Wd} (hok : WOk w) (pin : Option (Nat × Nat)) (s l : Nat) : fitv w pin s &&& folv w l = nI (nxb (nxW stC w pin) s l) := by
  have hn := hok.1
  apply bt_ext
  intro i hi
  unfold fitv folv
  rw [bt_and, bt_and, bt_not hi, bt_not hi, bt_orl, bt_orl, bt_or, bt_pinv (n := w.1) hi, bt_nI hi, bt_nI hi, bt_nI hi, full_bit, nxb_bit, n00, bt_nI hi, Nat.zero_testBit]
  unfold nxW
  have e : al w.2.2.1 (fun k => w.2.2.2.2 k || stC (w.2.2.2.1 k) s l i) = (al w.2.2.1 (fun k => !bt (nI (bBk w k s)) i) && al w.2.2.1 (fun k => !bt (nI (bNk w k l)) i)) := by
    rw [← al_and]
    refine al_congr fun k hk => ?_
    rw [bt_nI hi, bt_nI hi]
    unfold bBk bNk
    cases w.2.2.2.2 k with
    | true => simp
    | false =>
      rw [stC_bits (hok.2.2.2.2.2.1 k hk)]
      simp
  rw [e]
  by_cases c : i < w.1
  · simp only [c, decide_true, show i < 10 by omega, Bool.true_and]
    cases s.testBit i <;> cases pinb pin (cnt 10 s) i <;> cases al w.2.2.1 (fun k => !bt (nI (bBk w k s)) i) <;> cases al w.2.2.1 (fun k => !bt (nI (bNk w k l)) i) <;> rfl
  · simp [c]
/-- the tables of who may come next -/
theorem fillFitting_eq {w : Wd} {pin : Option (Nat × Nat)} {M : tr_M} (hok : WOk w) (hw : CWd w 26 M) (hp : PinM pin M) : ∃ N, mX4_fillFitting M = some N ∧ (∀ s, s < 2 ^ w.1 → N.1 46 s = fitv w pin s) ∧ (∀ l, l ≤ 10 → N.1 47 l = folv w l) ∧ (∀ c, c ≠ 46 → c ≠ 47 → N.1 c = M.1 c) ∧ N.2 = M.2 := by
  have hn := hok.1
  have h8 := hok.2.2.2.2.1
  have hpw := pow_lt hn
  have hp0 := Nat.two_pow_pos w.1
  unfold mX4_fillFitting
  obtain ⟨A, a1, a2, a3, a4⟩ := tr_loop_inv (step := mX4_fillFitting_l2) (s0 := (0, M)) (fun s t => ∃ N, t = (nI s, N) ∧ (∀ q, q < s → N.1 46 q = fitv w pin q) ∧ (∀ c, c ≠ 46 → N.1 c = M.1 c) ∧ N.2 = M.2) (fun N => (∀ q, q < 2 ^ w.1 → N.1 46 q = fitv w pin q) ∧ (∀ c, c ≠ 46 → N.1 c = M.1 c) ∧ N.2 = M.2) (2 ^ w.1) (by omega) ⟨M, rfl, fun q hq => by omega, fun _ _ => rfl, rfl⟩ (by
    rintro s t hs ⟨N, rfl, g1, g2, g3⟩
    left
    have hwN : CWd w 26 N := hw.congr fun b h1 h2 => g2 b (by omega)
    have hpN : PinM pin N := by
      cases pin with
      | none =>
        show N.1 25 13 = -9
        rw [g2 25 (by decide)]; exact hp
      | some tq =>
        obtain ⟨t, q⟩ := tq
        show N.1 25 13 = nI t ∧ N.1 25 14 = nI q ∧ t < 10 ∧ q < 10
        rw [g2 25 (by decide)]; exact hp
    have c1 : ¬ nI (2 ^ w.1 - 1) < nI s := by rw [nlt (by omega) (by omega)]; omega
    have el : tr_loop (mX4_fillFitting_l23 (nI s, N)) (nI s ||| pinv pin s, 0) = some (orl (fun k => nI (bBk w k s)) w.2.2.1 (nI s ||| pinv pin s)) := by
      refine tr_loop_seq' (fun k => (orl (fun k => nI (bBk w k s)) k (nI s ||| pinv pin s), nI k)) w.2.2.1 rfl (by omega) (fun k hk => ?_) ?_
      · unfold mX4_fillFitting_l23
        dsimp only
        have c2 : nI k < nI w.2.2.1 := (nlt (by omega) (by omega)).mpr hk
        rw [hwN.2.1, if_pos c2, barredBehind_eq hok hwN hk (by omega), Option.bind_some, nadd1]
        rfl
      · unfold mX4_fillFitting_l23
        dsimp only
        have c2 : ¬ nI w.2.2.1 < nI w.2.2.1 := by rw [nlt (by omega) (by omega)]; omega
        rw [hwN.2.1, if_neg c2]
    refine ⟨_, ?_, tr_st N 46 s (fitv w pin s), rfl, fun q hq => ?_, fun c hc => by rw [tr_st_ne hc]; exact g2 c hc, g3⟩
    · unfold mX4_fillFitting_l2
      dsimp only
      rw [everything_eq hwN.1 hn, if_neg c1, pinnedOut_eq hpN (by omega)]
      dsimp only [Option.bind_some]
      rw [el]
      dsimp only [Option.bind_some]
      rw [tr_wr_nI (by omega) (by decide), Option.bind_some, nadd1]
      rfl
    · by_cases e : q = s
      · rw [e, tr_st_s]
      · rw [tr_st_j e]; exact g1 q (by omega)) (by
    rintro t ⟨N, rfl, g1, g2, g3⟩
    have hwN : CWd w 26 N := hw.congr fun b h1 h2 => g2 b (by omega)
    have c1 : nI (2 ^ w.1 - 1) < nI (2 ^ w.1) := (nlt (by omega) (by omega)).mpr (by omega)
    refine ⟨N, ?_, g1, g2, g3⟩
    unfold mX4_fillFitting_l2
    dsimp only
    rw [everything_eq hwN.1 hn, if_pos c1])
  rw [show tr_loop mX4_fillFitting_l2 (0, M) = some A from a1]
  dsimp only [Option.bind_some]
  obtain ⟨B, b1, b2, b3, b4⟩ := tr_loop_inv (step := mX4_fillFitting_l77) (s0 := (0, A)) (fun l t => ∃ N, t = (nI l, N) ∧ (∀ q, q < l → N.1 47 q = folv w q) ∧ (∀ c, c ≠ 47 → N.1 c = A.1 c) ∧ N.2 = M.2) (fun N => (∀ q, q ≤ 10 → N.1 47 q = folv w q) ∧ (∀ c, c ≠ 47 → N.1 c = A.1 c) ∧ N.2 = M.2) 11 (by omega) ⟨A, rfl, fun q hq => by omega, fun _ _ => rfl, a4⟩ (by
    rintro l t hl ⟨N, rfl, g1, g2, g3⟩
    left
    have hwN : CWd w 26 N := hw.congr fun b h1 h2 => by rw [g2 b (by omega), a3 b (by omega)]
    have c1 : ¬ (10 : Int32) < nI l := by rw [show (10 : Int32) = nI 10 from rfl, nlt (by decide) (by omega)]; omega
    have el : tr_loop (mX4_fillFitting_l87 (nI l, N)) (0, 0) = some (orl (fun k => nI (bNk w k l)) w.2.2.1 0) := by
      refine tr_loop_seq' (fun k => (orl (fun k => nI (bNk w k l)) k 0, nI k)) w.2.2.1 rfl (by omega) (fun k hk => ?_) ?_
      · unfold mX4_fillFitting_l87
        dsimp only
        have c2 : nI k < nI w.2.2.1 := (nlt (by omega) (by omega)).mpr hk
        rw [hwN.2.1, if_pos c2, barredNextTo_eq hok hwN hk (by omega), Option.bind_some, nadd1]
        rfl
      · unfold mX4_fillFitting_l87
        dsimp only
        have c2 : ¬ nI w.2.2.1 < nI w.2.2.1 := by rw [nlt (by omega) (by omega)]; omega
        rw [hwN.2.1, if_neg c2]
    refine ⟨_, ?_, tr_st N 47 l (folv w l), rfl, fun q hq => ?_, fun c hc => by rw [tr_st_ne hc]; exact g2 c hc, g3⟩
    · unfold mX4_fillFitting_l77
      dsimp only
      rw [if_neg c1, el]
      dsimp only [Option.bind_some]
      rw [tr_wr_nI (by omega) (by decide), Option.bind_some, nadd1]
      rfl
    · by_cases e : q = l
      · rw [e, tr_st_s]
      · rw [tr_st_j e]; exact g1 q (by omega)) (by
    rintro t ⟨N, rfl, g1, g2, g3⟩
    refine ⟨N, ?_, fun q hq => g1 q (by omega), g2, g3⟩
    unfold mX4_fillFitting_l77
    dsimp only
    rw [if_pos (show (10 : Int32) < nI 11 by decide)])
  exact ⟨B, b1, fun s hs => by rw [b3 46 (by decide)]; exact a2 s hs, b2, fun c h1 h2 => by rw [b3 c h2, a3 c h1], b4⟩
/-- the states of the tables -/
def St (n s l : Nat) : Prop := s < 2 ^ n ∧ ((s = 0 ∧ l = 0) ∨ (l < n ∧ s.testBit l = true))
def ls (s l : Nat) : Nat := if s = 0 then 10 else l
/-- who may come next, as the class's search reads it -/
def NX (n : Nat) (nx : Rl) (M : tr_M) : Prop := ∀ s l, St n s l → mX4_nextOf (nI s) (nI l) M = some (nI (nxb nx s (ls s l)))
theorem nx_free {w : Wd} {pin : Option (Nat × Nat)} {M : tr_M} (hok : WOk w) (h10 : M.1 25 10 = 0) (h46 : ∀ s, s < 2 ^ w.1 → M.1 46 s = fitv w pin s) (h47 : ∀ l, l ≤ 10 → M.1 47 l = folv w l) : NX w.1 (nxW stC w pin) M := by
  intro s l hst
  have hn := hok.1
  have hpw := pow_lt hn
  have hs := hst.1
  unfold mX4_nextOf
  rw [if_pos h10, tr_rd_nI (show s < 1024 by omega) (by decide), Option.bind_some, h46 s hs]
  unfold ls
  by_cases c : s = 0
  · rw [if_pos (by rw [c]; rfl), if_pos c, show (10 : Int32) = nI 10 from rfl, tr_rd_nI (by decide) (by decide), Option.bind_some, h47 10 (by omega), next_bits hok]
  · have hl : l < w.1 := by
      rcases hst.2 with z | z
      · exact absurd z.1 c
      · exact z.1
    rw [if_neg (by rw [n00, neq (by omega) (by decide)]; exact c), if_neg c, tr_rd_nI (by omega) (by decide), Option.bind_some, h47 l (by omega), next_bits hok]
