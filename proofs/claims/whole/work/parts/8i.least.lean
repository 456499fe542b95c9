/-! ===== E: who comes next in least orders, in how many ways; in the class ===== -/
theorem nextOf_cg {s l : Nat} {M N : tr_M} (hs : s < 1024) (hl : l < 10) (h10 : N.1 25 10 = M.1 25 10) (h46 : N.1 46 = M.1 46) (h47 : N.1 47 = M.1 47) (h49 : N.1 49 (s * 10 + l) = M.1 49 (s * 10 + l)) : mX4_nextOf (nI s) (nI l) N = mX4_nextOf (nI s) (nI l) M := by
  unfold mX4_nextOf
  rw [stateOf_eq, tr_rd_nI (M := N) (a := 49) (show s * 10 + l < 10240 by omega) (by decide), tr_rd_nI (M := M) (a := 49) (show s * 10 + l < 10240 by omega) (by decide), h49, h10]
  unfold tr_rd
  rw [h46, h47]
theorem nxb_n {nx : Rl} {n : Nat} (hf : Fresh nx n) (hn : n ≤ 10) (s l : Nat) : nxb nx s l = mkb n (nx s l) := by
  refine Nat.eq_of_testBit_eq fun i => ?_
  rw [nxb_bit, mkb_bit]
  by_cases c : i < n
  · simp [c, show i < 10 by omega]
  · cases q : nx s l i with
    | true => exact absurd (hf s l i q).1 c
    | false => simp
theorem goesOn_eq {n : Nat} {nx : Rl} {ad : Bool} {g : Nat → Nat} {s l x : Nat} {M : tr_M} (hn : n ≤ 10) (hf : Fresh nx n) (hg : ∀ s, g s ≤ 1000) (hg0 : g 0 = 0) (hst : St n s l) (hx : nx s (ls s l) x = true) (hT : ∀ s l, St n s l → M.1 48 (s * 10 + l) = nI (bC nx n ad g s (ls s l))) (hGC : ∀ s, s < 2 ^ n → M.1 45 s = nI (g s)) (had : M.1 25 11 = if ad = true then 1 else 0) (hB : ms nx n ad g 0 10 < NV) : mX4_goesOnLeast (nI s) (nI l) (nI x) M = some (if gd nx n ad g (ms nx n ad g 0 10) s (ls s l) x = true then 1 else 0) := by
  have hpw := pow_lt hn
  have hp0 := Nat.two_pow_pos n
  have hs := hst.1
  have hl10 := hst.l10 hn
  have hTP : (TP : Nat) = 268435456 := rfl
  have hNV : (NV : Nat) = 1000000 := rfl
  obtain ⟨hxn, hnew⟩ := hf s _ x hx
  obtain ⟨z1, z2⟩ := St_ins hs hxn
  have hi := ins_lt hs hxn
  have h1 := hT (ins s x) x z1
  rw [z2] at h1
  have hbc := bC_le (nx := nx) (ad := ad) hn hg (ins s x) x
  unfold mX4_goesOnLeast gd
  rw [ins_nI (by omega), stateOf_eq, tr_rd_nI (by omega) (by decide), Option.bind_some, h1, hx, Bool.true_and, had]
  by_cases d : ms nx n ad g (ins s x) x < NV
  · have c1 : nI (bC nx n ad g (ins s x) x) < (268435456 : Int32) := by
      rw [show (268435456 : Int32) = nI TP from rfl]
      exact (nlt (by omega) (by omega)).mpr ((bC_lt hn hg _ _).mpr d)
    have hbx : bC nx n ad g (ins s x) x = comb ad (g (ins s x)) (ms nx n ad g (ins s x) x) := if_pos d
    have hcb := comb_bd (t := ins s x) hn hg d
    have hms := ms_bd hn hg d
    have hgx := hg (ins s x)
    rw [if_pos c1, hbx]
    simp only [d, decide_true, Bool.true_and]
    cases ad with
    | false =>
      have h00 : M.1 48 0 = nI (ms nx n false g 0 10) := by
        have := hT 0 0 ⟨hp0, Or.inl ⟨rfl, rfl⟩⟩
        rw [show ls 0 0 = 10 from rfl, show bC nx n false g 0 10 = comb false (g 0) (ms nx n false g 0 10) from if_pos hB, hg0, comb_0l] at this
        exact this
      have hB2 := ms_bd hn hg hB
      rw [if_pos (by decide), n00, tr_rd_nI (by decide) (by decide), Option.bind_some, h00]
      simp (disch := omega) only [nlt]
      show (if ms nx n false g 0 10 < max (g (ins s x)) (ms nx n false g (ins s x) x) then some (nI 0) else some 1) = _
      simp only [Bool.false_eq_true, if_false]
      by_cases c : ms nx n false g 0 10 < max (g (ins s x)) (ms nx n false g (ins s x) x)
      · rw [if_pos c, if_neg]
        simp only [Bool.and_eq_true, decide_eq_true_eq]
        omega
      · rw [if_neg c, if_pos]
        simp only [Bool.and_eq_true, decide_eq_true_eq]
        omega
    | true =>
      have hle := ms_le hf hn hg hx d
      have hle : ms nx n true g s (ls s l) ≤ g (ins s x) + ms nx n true g (ins s x) x := hle
      have hsl : ms nx n true g s (ls s l) < NV := by omega
      have h2 := hT s l hst
      rw [show bC nx n true g s (ls s l) = comb true (g s) (ms nx n true g s (ls s l)) from if_pos hsl] at h2
      have hgs := hg s
      rw [if_neg (by decide), tr_rd_nI (show s < 1024 by omega) (by decide), Option.bind_some, stateOf_eq, tr_rd_nI (by omega) (by decide), Option.bind_some, h2, hGC s hs, nadd]
      show (if nI (g (ins s x) + ms nx n true g (ins s x) x + g s) = nI (g s + ms nx n true g s (ls s l)) then some (1 : Int32) else some 0) = _
      simp (disch := omega) only [neq, if_true]
      by_cases c : g (ins s x) + ms nx n true g (ins s x) x = ms nx n true g s (ls s l)
      · rw [if_pos (by omega), if_pos (by rw [decide_eq_true_eq]; exact c)]
      · rw [if_neg (by omega), if_neg (by rw [decide_eq_true_eq]; exact c)]
  · have c1 : ¬ nI (bC nx n ad g (ins s x) x) < (268435456 : Int32) := by
      rw [show (268435456 : Int32) = nI TP from rfl, nlt (by omega) (by omega)]
      exact fun z => d ((bC_lt hn hg _ _).mp z)
    rw [if_neg c1]
    simp [d]
/-- how many least ways go on from a state -/
def nm (G : Rl) (n s l : Nat) : Nat := (ext G n (lft n s) s l).length
theorem nm_full {G : Rl} {n s l : Nat} (h : s = 2 ^ n - 1) : nm G n s l = 1 := by
  unfold nm
  rw [lft_full h]
  rfl
theorem nm_sum {G : Rl} {n s l : Nat} (hf : Fresh G n) (hs : s < 2 ^ n) (h : s ≠ 2 ^ n - 1) : nm G n s l = sm n (fun x => if G s l x = true then nm G n (ins s x) x else 0) := by
  unfold nm
  obtain ⟨k, hk⟩ : ∃ k, lft n s = k + 1 := ⟨lft n s - 1, by have := lft_pos hs h; omega⟩
  rw [hk, ext_num]
  refine sm_congr fun x hx => ?_
  by_cases c : G s l x = true
  · rw [if_pos c, if_pos c]
    have := lft_ins hx (hf s l x c).2
    rw [show lft n (ins s x) = k by omega]
  · rw [if_neg c, if_neg c]
theorem leastFrom_eq {n : Nat} {nx : Rl} {ad : Bool} {g : Nat → Nat} {s l : Nat} {M : tr_M} (hn : n ≤ 10) (hw : M.1 26 0 = nI n) (hf : Fresh nx n) (hg : ∀ s, g s ≤ 1000) (hg0 : g 0 = 0) (hst : St n s l) (hNX : mX4_nextOf (nI s) (nI l) M = some (nI (nxb nx s (ls s l)))) (hT : ∀ s l, St n s l → M.1 48 (s * 10 + l) = nI (bC nx n ad g s (ls s l))) (hGC : ∀ s, s < 2 ^ n → M.1 45 s = nI (g s)) (had : M.1 25 11 = if ad = true then 1 else 0) (hB : ms nx n ad g 0 10 < NV) (hN : ∀ x, x < n → s.testBit x = false → M.1 50 (ins s x * 10 + x) = nI (nm (gd nx n ad g (ms nx n ad g 0 10)) n (ins s x) x)) : mX4_fillLeastFrom (nI s) (nI l) M = some (tr_st (tr_st M 49 (s * 10 + l) (nI (nxb (gd nx n ad g (ms nx n ad g 0 10)) s (ls s l)))) 50 (s * 10 + l) (nI (nm (gd nx n ad g (ms nx n ad g 0 10)) n s (ls s l)))) := by
  have hpw := pow_lt hn
  have hp0 := Nat.two_pow_pos n
  have hs := hst.1
  have hl10 := hst.l10 hn
  have hG := gd_fresh (ad := ad) (g := g) (B := ms nx n ad g 0 10) hf
  generalize hGd : gd nx n ad g (ms nx n ad g 0 10) = G at *
  have hb := nxb_lt nx s (ls s l)
  unfold mX4_fillLeastFrom
  rw [hNX, everything_eq hw hn]
  simp (disch := omega) only [Option.bind_some, neq, if_some]
  have el : tr_loop (mX4_fillLeastFrom_l38 (nI s) (nI l) M (nI (nxb nx s (ls s l)))) (0, (if s = 2 ^ n - 1 then 1 else 0), 0) = some (nI (mkb n (G s (ls s l))), nI ((if s = 2 ^ n - 1 then 1 else 0) + sm n (fun x => if G s (ls s l) x = true then nm G n (ins s x) x else 0))) := by
    refine tr_loop_seq' (fun x => (nI (mkb x (G s (ls s l))), nI ((if s = 2 ^ n - 1 then 1 else 0) + sm x (fun x => if G s (ls s l) x = true then nm G n (ins s x) x else 0)), nI x)) n ?_ (by omega) (fun x hx => ?_) ?_
    · show (nI 0, nI ((if s = 2 ^ n - 1 then 1 else 0) + 0), nI 0) = _
      by_cases c : s = 2 ^ n - 1
      · rw [if_pos c, if_pos c]; rfl
      · rw [if_neg c, if_neg c]; rfl
    · unfold mX4_fillLeastFrom_l38
      dsimp only
      have c1 : nI x < nI n := (nlt (by omega) (by omega)).mpr hx
      have hmk : mkb (x + 1) (G s (ls s l)) = mkb x (G s (ls s l)) ||| (if G s (ls s l) x = true then 2 ^ x else 0) := rfl
      have hsm : sm (x + 1) (fun x => if G s (ls s l) x = true then nm G n (ins s x) x else 0) = sm x (fun x => if G s (ls s l) x = true then nm G n (ins s x) x else 0) + (if G s (ls s l) x = true then nm G n (ins s x) x else 0) := rfl
      rw [hw, if_pos c1, hmk, hsm]
      simp (disch := omega) only [bit_eq0]
      rw [nxb_bit]
      cases q : nx s (ls s l) x with
      | false =>
        have hGx : ¬ G s (ls s l) x = true := fun z => by
          rw [← hGd] at z
          unfold gd at z
          rw [q] at z
          simp at z
        rw [if_pos (by simp), if_neg hGx, if_neg hGx, Nat.or_zero, Nat.add_zero, nadd1]
      | true =>
        have hgo := goesOn_eq hn hf hg hg0 hst q hT hGC had hB
        rw [hGd] at hgo
        rw [if_neg (by simp [show x < 10 by omega]), hgo, Option.bind_some]
        cases qg : G s (ls s l) x with
        | false =>
          rw [if_pos (by decide), if_neg (show ¬ false = true by decide), if_neg (show ¬ false = true by decide), Nat.or_zero, Nat.add_zero, nadd1]
        | true =>
          obtain ⟨-, hnew⟩ := hf s _ x q
          have hi := ins_lt hs hx
          rw [if_neg (by decide), if_pos rfl, if_pos rfl, sh1 (by omega), or_nI, Option.bind_some, or_nI, stateOf_eq]
          rw [show s ||| 2 ^ x = ins s x from rfl, tr_rd_nI (by omega) (by decide), Option.bind_some, hN x hx hnew, nadd, nadd1, Nat.add_assoc]
    · unfold mX4_fillLeastFrom_l38
      dsimp only
      have c1 : ¬ nI n < nI n := by rw [nlt (by omega) (by omega)]; omega
      rw [hw, if_neg c1]
  rw [el]
  dsimp only [Option.bind_some]
  rw [stateOf_eq, tr_wr_nI (by omega) (by decide), Option.bind_some, tr_wr_nI (by omega) (by decide), ← nxb_n hG hn]
  have hcount : (if s = 2 ^ n - 1 then 1 else 0) + sm n (fun x => if G s (ls s l) x = true then nm G n (ins s x) x else 0) = nm G n s (ls s l) := by
    by_cases c : s = 2 ^ n - 1
    · rw [if_pos c, nm_full c, sm_congr (g := fun _ => 0), sm_0]
      intro x hx
      rw [if_neg]
      intro z
      have := (hG s _ x z).2
      rw [c, full_bit] at this
      simp [hx] at this
    · rw [if_neg c, Nat.zero_add, nm_sum hG hs c]
  rw [hcount]
  rfl
