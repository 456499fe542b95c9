theorem mdown_loop {n : Nat} {M : tr_M} (hn : n ≤ 10) {out : Int32 × tr_M → Option ((Int32 × tr_M) ⊕ tr_M)} {inn : Nat → tr_M → Int32 × tr_M → Option ((Int32 × tr_M) ⊕ ((Int32 × tr_M) ⊕ tr_M))} (J : Nat → Nat → tr_M → Prop) (ho : ∀ s N, s < 2 ^ n → J s 0 N → out (nI s, N) = tr_loop (inn s N) (0, N)) (ho2 : ∀ N, out (-1, N) = some (.inr N)) (hst : ∀ s l N K, s < 2 ^ n → l < n → J s l N → ∃ P, inn s K (nI l, N) = some (.inl (nI (l + 1), P)) ∧ J s (l + 1) P) (he : ∀ s N K, s < 2 ^ n → J s n N → inn s K (nI n, N) = some (.inr (.inl (nI s + (-1), N)))) (hnx : ∀ s N, s + 1 < 2 ^ n → J (s + 1) n N → J s 0 N) (h0 : J (2 ^ n - 1) 0 M) : ∃ N, tr_loop out (nI (2 ^ n - 1), M) = some N ∧ J 0 n N := by
  have hpw := pow_lt hn
  have hp0 := Nat.two_pow_pos n
  have inner : ∀ s N, s < 2 ^ n → J s 0 N → ∃ P, tr_loop (inn s N) (0, N) = some (.inl (nI s + (-1), P)) ∧ J s n P := fun s N hs hJ => by
    obtain ⟨r, e1, P, e2, e3⟩ := tr_loop_inv (step := inn s N) (s0 := (0, N)) (fun l t => ∃ P, t = (nI l, P) ∧ J s l P) (fun r => ∃ P, r = .inl (nI s + (-1), P) ∧ J s n P) n (by omega) ⟨N, rfl, hJ⟩ (by
      rintro l t hl ⟨P, rfl, hP⟩
      left
      obtain ⟨Q, q1, q2⟩ := hst s l P N hs hl hP
      exact ⟨_, q1, Q, rfl, q2⟩) (by
      rintro t ⟨P, rfl, hP⟩
      exact ⟨_, he s P N hs hP, P, rfl, hP⟩)
    exact ⟨P, by rw [e1, e2], e3⟩
  refine tr_loop_inv (step := out) (s0 := (nI (2 ^ n - 1), M)) (fun i t => ∃ N, (i < 2 ^ n ∧ t = (nI (2 ^ n - 1 - i), N) ∧ J (2 ^ n - 1 - i) 0 N) ∨ (i = 2 ^ n ∧ t = (-1, N) ∧ J 0 n N)) (fun N => J 0 n N) (2 ^ n) (by omega) ⟨M, Or.inl ⟨hp0, rfl, h0⟩⟩ ?_ ?_
  · rintro i t hi ⟨N, ⟨_, rfl, hJ⟩ | ⟨e, _, _⟩⟩
    · left
      have h1 := ho (2 ^ n - 1 - i) N (by omega) hJ
      obtain ⟨P, p1, p2⟩ := inner (2 ^ n - 1 - i) N (by omega) hJ
      rw [h1, p1]
      refine ⟨_, rfl, P, ?_⟩
      by_cases c : i + 1 < 2 ^ n
      · left
        refine ⟨c, ?_, ?_⟩
        · rw [nsub1 (by omega), show 2 ^ n - 1 - i - 1 = 2 ^ n - 1 - (i + 1) by omega]
        · refine hnx (2 ^ n - 1 - (i + 1)) P (by omega) ?_
          rw [show 2 ^ n - 1 - (i + 1) + 1 = 2 ^ n - 1 - i by omega]
          exact p2
      · right
        rw [show 2 ^ n - 1 - i = 0 by omega] at p2 ⊢
        exact ⟨by omega, rfl, p2⟩
    · omega
  · rintro t ⟨N, ⟨hi, _, _⟩ | ⟨_, rfl, hJ⟩⟩
    · omega
    · exact ⟨N, ho2 N, hJ⟩
/-- what the model's searches write -/
def KX (M N : tr_M) : Prop := (∀ c, c ≠ 1 → c ≠ 5 → c < 12 ∨ c = 19 ∨ 24 < c → N.1 c = M.1 c) ∧ (∀ k, k < 29 ∨ 30 < k → N.1 1 k = M.1 1 k) ∧ N.2 = M.2
theorem KX.rf {M : tr_M} : KX M M := ⟨fun _ _ _ _ => rfl, fun _ _ => rfl, rfl⟩
theorem KX.tr {M N P : tr_M} (h : KX M N) (g : KX N P) : KX M P := ⟨fun c a b d => (g.1 c a b d).trans (h.1 c a b d), fun k hk => (g.2.1 k hk).trans (h.2.1 k hk), g.2.2.trans h.2.2⟩
theorem KX.cell {M N : tr_M} {a : Nat} (ha : 12 ≤ a) (hb : a ≤ 24) (h : ∀ c, c ≠ a → N.1 c = M.1 c) (h2 : N.2 = M.2) (h19 : a ≠ 19 := by decide) : KX M N := ⟨fun c _ _ _ => h c (by omega), fun k _ => by rw [h 1 (by omega)], h2⟩
theorem KX.fld {M : tr_M} {k : Nat} {v : Int32} (hk : k = 29 ∨ k = 30) : KX M (tr_st M 1 k v) := ⟨fun c h _ _ => tr_st_ne h, fun j hj => tr_st_j (by omega), rfl⟩
theorem MWd.kx {w : Wd} {M N : tr_M} (h : MWd w M) (hs : KX M N) : MWd w N := h.congr (hs.2.1 10 (by omega)) (hs.2.1 12 (by omega)) (hs.1 8 (by omega) (by omega) (by omega)) (hs.1 9 (by omega) (by omega) (by omega))
theorem PinX.kx {pin : Option (Nat × Nat)} {M N : tr_M} (h : PinX pin M) (hs : KX M N) : PinX pin N := by
  cases pin with
  | none => show N.1 1 27 = -9; rw [hs.2.1 27 (by decide)]; exact h
  | some p =>
    obtain ⟨h1, h2, h3⟩ := h
    exact ⟨by rw [hs.2.1 27 (by decide)]; exact h1, by rw [hs.2.1 28 (by decide)]; exact h2, h3⟩
theorem ITF.kx {M1 M2 N2 : tr_M} (h : ITF M1 M2) (h2 : KX M2 N2) : ITF M1 N2 := h.congr (fun c _ _ _ _ _ => rfl) (fun k _ => rfl) rfl (fun c h3 h4 h5 => h2.1 c h4 h5 (by omega)) (fun k hk => h2.2.1 k (by omega)) (fun k _ => by rw [h2.2.2])
theorem spot_eq (s l : Nat) : mX7_spot (nI s) (nI l) = nI (s * 10 + l) := by
  unfold mX7_spot
  rw [show (10 : Int32) = nI 10 from rfl, nmul, nadd, Nat.mul_comm]
theorem layEdges_eq {w : Wd} {m p : Nat} {M : tr_M} (hok : WOk w) (hm : MWd w M) (h4 : m < 4) (hp : p = 14 ∨ p = 15) : ∃ N, mX7_layEdges (nI m) p M = some N ∧ (∀ s, s < 2 ^ w.1 → N.1 p s = nI (gN w m s)) ∧ (∀ c, c ≠ p → N.1 c = M.1 c) ∧ N.2 = M.2 := by
  have hn := hok.1
  have hpw := pow_lt hn
  have hp0 := Nat.two_pow_pos w.1
  have hlen : tr_len shM p = 1024 := by rcases hp with rfl | rfl <;> rfl
  unfold mX7_layEdges
  obtain ⟨N, e, h1, h2, h3⟩ := tr_loop_inv (step := mX7_layEdges_l2 (nI m) p) (s0 := (0, M)) (fun k t => t.1 = nI k ∧ (∀ s, s < k → t.2.1 p s = nI (gN w m s)) ∧ (∀ c, c ≠ p → t.2.1 c = M.1 c) ∧ t.2.2 = M.2) (fun N => (∀ s, s < 2 ^ w.1 → N.1 p s = nI (gN w m s)) ∧ (∀ c, c ≠ p → N.1 c = M.1 c) ∧ N.2 = M.2) (2 ^ w.1) (by omega) ⟨rfl, fun s hs => absurd hs (by omega), fun _ _ => rfl, rfl⟩ (by
      rintro k ⟨-, N⟩ hk ⟨rfl, t1, t2, t3⟩
      left
      dsimp only at t1 t2 t3
      have hmN : MWd w N := hm.congr (by rw [t2 1 (by omega)]) (by rw [t2 1 (by omega)]) (t2 8 (by omega)) (t2 9 (by omega))
      unfold mX7_layEdges_l2
      dsimp only
      rw [full_eq hmN.1 hn, hlen]
      simp (disch := omega) only [nlt, neq, show ¬ 2 ^ w.1 - 1 < k by omega, if_false, tr_wr_nI, Option.bind_some, nadd1, edgeOf_eq hok hmN (show k < 1024 by omega) h4]
      have key : ∀ v, v = nI (gN w m k) → ∃ s' : Int32 × tr_M, some (Sum.inl (nI (k + 1), tr_st N p k v)) = some (Sum.inl s' : (Int32 × tr_M) ⊕ tr_M) ∧ s'.1 = nI (k + 1) ∧ (∀ s, s < k + 1 → s'.2.1 p s = nI (gN w m s)) ∧ (∀ c, c ≠ p → s'.2.1 c = M.1 c) ∧ s'.2.2 = M.2 := fun v hv => by
        refine ⟨_, rfl, rfl, fun s hs => ?_, fun c hc => (tr_st_ne hc).trans (t2 c hc), t3⟩
        by_cases q : s = k
        · rw [q]; exact tr_st_s.trans hv
        · exact (tr_st_j q).trans (t1 s (by omega))
      by_cases c : k = 2 ^ w.1 - 1
      · rw [if_pos c]
        refine key 0 ?_
        rw [gN_full]
        · rfl
        · intro i hi
          rw [c, full_bit]
          simp [hi]
      · rw [if_neg c]
        exact key _ rfl) (by
      rintro ⟨-, N⟩ ⟨rfl, t1, t2, t3⟩
      dsimp only at t1 t2 t3
      have hmN : M.1 1 10 = N.1 1 10 := by rw [t2 1 (by omega)]
      unfold mX7_layEdges_l2
      dsimp only
      rw [full_eq (hmN.symm.trans hm.1) hn]
      simp (disch := omega) only [nlt, show 2 ^ w.1 - 1 < 2 ^ w.1 by omega, if_true]
      exact ⟨N, rfl, t1, t2, t3⟩)
  exact ⟨N, e, h1, h2, h3⟩
/-- the table of what is least, at the places that it has laid -/
def BTat (w : Wd) (nx : Rl) (m s l : Nat) (N : tr_M) : Prop := ∀ s' l', St w.1 s' l' → l' < w.1 → (s < s' ∨ (s' = s ∧ l' < l)) → N.1 16 (s' * 10 + l') = nI (ms nx w.1 (adN m) (gN w m) s' (ls s' l'))
theorem ms_NV {nx : Rl} {n : Nat} {ad : Bool} {g : Nat → Nat} (s l : Nat) : ms nx n ad g s l ≤ NV := lm_le _ _
theorem bestFrom_eq {w : Wd} {pin : Option (Nat × Nat)} {m s l : Nat} {M : tr_M} (hok : WOk w) (hm : MWd w M) (hp : PinX pin M) (h4 : m < 4) (hst : St w.1 s l) (hs : s ≠ 2 ^ w.1 - 1) (hl : l < 10) (h14 : ∀ s, s < 2 ^ w.1 → M.1 14 s = nI (gN w m s)) (hB : BTat w (nxW stM w pin) m s 0 M) : mX7_bestFrom (nI m) (nI s) (lsI s l) M = some (nI (ms (nxW stM w pin) w.1 (adN m) (gN w m) s (ls s l))) := by
  have hn := hok.1
  have hpw := pow_lt hn
  have hs2 := hst.1
  have hf := nxW_fresh stM w pin
  unfold mX7_bestFrom
  rw [ms_succ hf hn (gN_le hok m) (lft_pos hst.1 hs)]
  refine tr_loop_seq' (fun x => (nI (mnf NV x (fun x => if nxW stM w pin s (ls s l) x = true then (if ms (nxW stM w pin) w.1 (adN m) (gN w m) (ins s x) x < NV then comb (adN m) (gN w m (ins s x)) (ms (nxW stM w pin) w.1 (adN m) (gN w m) (ins s x) x) else NV) else NV)), nI x)) w.1 rfl (by omega) (fun x hx => ?_) ?_
  · unfold mX7_bestFrom_l7
    dsimp only
    rw [hm.1, if_pos ((nlt (by omega) (by omega)).mpr hx), mayCome_eq hok hm hp (by omega) hl hx, Option.bind_some]
    have hmn : ∀ k, mnf NV k (fun x => if nxW stM w pin s (ls s l) x = true then (if ms (nxW stM w pin) w.1 (adN m) (gN w m) (ins s x) x < NV then comb (adN m) (gN w m (ins s x)) (ms (nxW stM w pin) w.1 (adN m) (gN w m) (ins s x) x) else NV) else NV) ≤ NV := fun k => mnf_top
    have hNV : NV = 1000000 := rfl
    have h0 := hmn x
    by_cases c : nxW stM w pin s (ls s l) x = true
    · have hfr := (hf _ _ _ c).2
      obtain ⟨z1, z2⟩ := St_ins hst.1 hx
      have hb : M.1 16 (ins s x * 10 + x) = nI (ms (nxW stM w pin) w.1 (adN m) (gN w m) (ins s x) x) := by
        have := hB (ins s x) x z1 hx (Or.inl (ins_gt hfr))
        rw [z2] at this
        exact this
      have hi := z1.1
      have hms := ms_NV (nx := nxW stM w pin) (n := w.1) (ad := adN m) (g := gN w m) (ins s x) x
      have hg := gN_le hok m (ins s x)
      rw [if_pos c, if_neg (by decide), ins_nI (by omega), spot_eq, tr_rd_nI (by omega) (by decide), Option.bind_some, hb]
      show _ = some (Sum.inl (nI (min (mnf NV x _) (if nxW stM w pin s (ls s l) x = true then _ else NV)), nI (x + 1)))
      rw [if_pos c, show (1000000 : Int32) = nI NV from rfl]
      simp (disch := omega) only [nlt, tr_rd_nI, Option.bind_some, h14 _ hi]
      by_cases d : ms (nxW stM w pin) w.1 (adN m) (gN w m) (ins s x) x < NV
      · rw [if_pos d, if_pos d]
        have hc := ncomb_m (m := m) (a := gN w m (ins s x)) (b := ms (nxW stM w pin) w.1 (adN m) (gN w m) (ins s x) x) (by omega) (by omega) (by omega)
        have hcl := comb_le (ad := adN m) (a := gN w m (ins s x)) (b := ms (nxW stM w pin) w.1 (adN m) (gN w m) (ins s x) x)
        have e2 : (if mX7_isSum (nI m) = 0 then some (mX7_greater (nI (gN w m (ins s x))) (nI (ms (nxW stM w pin) w.1 (adN m) (gN w m) (ins s x) x))) else some (nI (gN w m (ins s x)) + nI (ms (nxW stM w pin) w.1 (adN m) (gN w m) (ins s x) x))) = some (nI (comb (adN m) (gN w m (ins s x)) (ms (nxW stM w pin) w.1 (adN m) (gN w m) (ins s x) x))) := by
          rw [← hc]; split <;> rfl
        rw [e2, Option.bind_some, nlesser _ _ (by omega) (by omega), nadd1]
      · rw [if_neg d, if_neg d, Option.bind_some, nlesser _ _ (by omega) (by omega), nadd1]
    · rw [if_neg c, if_pos rfl, nadd1]
      show _ = some (Sum.inl (nI (min (mnf NV x _) (if nxW stM w pin s (ls s l) x = true then _ else NV)), nI (x + 1)))
      rw [if_neg c, Nat.min_eq_left h0]
  · unfold mX7_bestFrom_l7
    dsimp only
    rw [hm.1, if_neg (by rw [nlt (by omega) (by omega)]; omega)]
