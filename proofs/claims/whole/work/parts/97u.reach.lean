/-! ===== must: whether any order is allowed, in the model ===== -/
def Rc (nx : Rl) : Nat → Nat → Nat → Prop
  | 0, s, l => s = 0 ∧ l = 0
  | i + 1, s, l => ∃ s0 l0, Rc nx i s0 l0 ∧ nx s0 (ls s0 l0) l = true ∧ s = ins s0 l
theorem Rc_st {nx : Rl} {n : Nat} (hf : Fresh nx n) : ∀ {i s l : Nat}, Rc nx i s l → St n s l ∧ cnt n s = i
  | 0, s, l, h => by
    obtain ⟨rfl, rfl⟩ := h
    exact ⟨⟨Nat.two_pow_pos n, Or.inl ⟨rfl, rfl⟩⟩, cnt_0 n⟩
  | i + 1, s, l, h => by
    obtain ⟨s0, l0, h1, h2, rfl⟩ := h
    obtain ⟨a1, a2⟩ := Rc_st hf h1
    obtain ⟨b1, b2⟩ := hf _ _ _ h2
    exact ⟨(St_ins a1.1 b1).1, by rw [cnt_ins b1 b2, a2]⟩
theorem ins_ne0 (s x : Nat) : ins s x ≠ 0 := fun e => by
  have h : (ins s x).testBit x = true := by rw [ins_bit]; simp
  rw [e, Nat.zero_testBit] at h
  cases h
theorem Rc_ls {nx : Rl} {n : Nat} (hf : Fresh nx n) {i s l : Nat} (h : Rc nx (i + 1) s l) : ls s l = l := by
  obtain ⟨s0, l0, -, -, rfl⟩ := h
  unfold ls
  rw [if_neg (ins_ne0 s0 l)]
theorem Rc_ext {nx : Rl} {n : Nat} (hf : Fresh nx n) : ∀ {i s l k : Nat}, Rc nx i s l → i + k = n → ext nx n k s (ls s l) ≠ [] → ext nx n n 0 10 ≠ []
  | 0, s, l, k, h, hk, he => by
    obtain ⟨rfl, rfl⟩ := h
    rw [show k = n by omega] at he
    exact he
  | i + 1, s, l, k, h, hk, he => by
    have hl := Rc_ls hf h
    rw [hl] at he
    obtain ⟨s0, l0, h1, h2, rfl⟩ := h
    obtain ⟨q, hq⟩ := List.exists_mem_of_ne_nil _ he
    refine Rc_ext hf (k := k + 1) h1 (by omega) fun e => ?_
    have : (l :: q) ∈ ext nx n (k + 1) s0 (ls s0 l0) := ext_cons.mpr ⟨(hf _ _ _ h2).1, h2, hq⟩
    rw [e] at this
    cases this
theorem Rc_of {nx : Rl} {n : Nat} (hf : Fresh nx n) : ∀ {k i s l : Nat} {p : List Nat}, Rc nx i s l → p ∈ ext nx n k s (ls s l) → ∃ s' l', Rc nx (i + k) s' l'
  | 0, i, s, l, p, h, _ => ⟨s, l, h⟩
  | k + 1, i, s, l, p, h, hp => by
    have hlen := ext_len hp
    cases p with
    | nil => cases hlen
    | cons x q =>
      obtain ⟨h1, h2, h3⟩ := ext_cons.mp hp
      have hR : Rc nx (i + 1) (ins s x) x := ⟨s, l, h, h2, rfl⟩
      obtain ⟨s', l', h4⟩ := Rc_of hf (k := k) hR (by rw [Rc_ls hf hR]; exact h3)
      exact ⟨s', l', by rw [show i + (k + 1) = i + 1 + k by omega]; exact h4⟩
/-- an order stands iff all things can have come -/
theorem Rc_full {nx : Rl} {n : Nat} (hf : Fresh nx n) : ext nx n n 0 10 ≠ [] ↔ ∃ l i, Rc nx i (2 ^ n - 1) l := by
  constructor
  · intro h
    obtain ⟨p, hp⟩ := List.exists_mem_of_ne_nil _ h
    obtain ⟨s, l, h1⟩ := Rc_of hf (i := 0) (s := 0) (l := 0) ⟨rfl, rfl⟩ hp
    obtain ⟨a1, a2⟩ := Rc_st hf h1
    rw [Nat.zero_add] at a2
    have := (full_cnt a1.1).mp a2
    exact ⟨l, _, by rw [← this]; exact h1⟩
  · rintro ⟨l, i, h⟩
    obtain ⟨a1, a2⟩ := Rc_st hf h
    have h2 := (full_cnt a1.1).mpr rfl
    exact Rc_ext hf (k := 0) h (by omega) (fun e => by cases e)
theorem nar1 : vp_nar .boolean (1 : Int32) = 1 := rfl
theorem nar0 : vp_nar .boolean (0 : Int32) = 0 := rfl
/-- the marks of those that have come, when the places ahead of (s, l) are done -/
def RJ (nx : Rl) (n s l : Nat) (N : tr_M) : Prop := (∀ s' l', s' < 2 ^ n → l' < n → N.1 24 (s' * 10 + l') = 0 ∨ (N.1 24 (s' * 10 + l') = 1 ∧ ∃ i, Rc nx i s' l')) ∧ N.1 24 0 = 1 ∧ ∀ i s0 l0 x, Rc nx i s0 l0 → l0 < n → (s0 < s ∨ (s0 = s ∧ l0 < l)) → nx s0 (ls s0 l0) x = true → N.1 24 (ins s0 x * 10 + x) = 1
theorem RJ.come {nx : Rl} {n s l : Nat} {N : tr_M} (hf : Fresh nx n) (h : RJ nx n s l N) {i : Nat} (hr : Rc nx i s l) (hn : n ≠ 0) : N.1 24 (s * 10 + l) = 1 := by
  cases i with
  | zero =>
    obtain ⟨rfl, rfl⟩ := hr
    exact h.2.1
  | succ i =>
    obtain ⟨s0, l0, h1, h2, rfl⟩ := hr
    have hs := (Rc_st hf h1).1
    have gt := ins_gt (hf _ _ _ h2).2
    refine h.2.2 i s0 l0 l h1 ?_ (Or.inl gt) h2
    rcases hs.2 with y | y
    · omega
    · exact y.1
theorem anyMarks_eq {n : Nat} {M : tr_M} (hn : n ≤ 10) (h0 : n ≠ 0) (hw : M.1 1 10 = nI n) : ∃ N, tr_loop mX7_isAnyAllowed_l15 (0, M) = some N ∧ (∀ j, j < 10 * 2 ^ n → N.1 24 j = if j = 0 then 1 else 0) ∧ (∀ c, c ≠ 24 → N.1 c = M.1 c) ∧ N.2 = M.2 := by
  have hpw := pow_lt hn
  have hp0 := Nat.two_pow_pos n
  refine tr_loop_inv (step := mX7_isAnyAllowed_l15) (s0 := (0, M)) (fun k t => ∃ N, t = (nI k, N) ∧ (∀ j, j < k → N.1 24 j = if j = 0 then 1 else 0) ∧ (∀ c, c ≠ 24 → N.1 c = M.1 c) ∧ N.2 = M.2) (fun N => (∀ j, j < 10 * 2 ^ n → N.1 24 j = if j = 0 then 1 else 0) ∧ (∀ c, c ≠ 24 → N.1 c = M.1 c) ∧ N.2 = M.2) (10 * 2 ^ n) (by omega) ⟨M, rfl, fun j hj => by omega, fun _ _ => rfl, rfl⟩ ?_ ?_
  · rintro k t hk ⟨N, rfl, t1, t2, t3⟩
    left
    have hwN : N.1 1 10 = nI n := by rw [t2 1 (by decide)]; exact hw
    have fin : ∀ v : Int32, v = (if k = 0 then 1 else 0) → ∃ s', some (Sum.inl (nI k + 1, tr_st N 24 k v) : (Int32 × tr_M) ⊕ tr_M) = some (Sum.inl s') ∧ ∃ N, s' = (nI (k + 1), N) ∧ (∀ j, j < k + 1 → N.1 24 j = if j = 0 then 1 else 0) ∧ (∀ c, c ≠ 24 → N.1 c = M.1 c) ∧ N.2 = M.2 := fun v hv => by
      refine ⟨_, rfl, _, Prod.ext (nadd1 _) rfl, fun j hj => ?_, fun c hc => by rw [tr_st_ne hc, t2 c hc], t3⟩
      by_cases e : j = k
      · rw [e, tr_st_s, hv]
      · rw [tr_st_j e]
        exact t1 j (by omega)
    unfold mX7_isAnyAllowed_l15
    dsimp only
    rw [full_eq hwN hn, hwN, show (10 : Int32) = nI 10 from rfl, nadd1, nmul, if_pos ((nlt (by omega) (by omega)).mpr (by omega)), nar1, nar0]
    have w24 : ∀ v, tr_wr 10240 N 24 (nI k) v = some (tr_st N 24 k v) := fun v => tr_wr_nI (by omega) (by decide)
    by_cases z : k = 0
    · rw [if_pos (by rw [z]; rfl), if_pos ((n0lt (by omega)).mpr (by omega)), w24, Option.bind_some]
      exact fin 1 (by rw [if_pos z])
    · rw [if_neg (by rw [neq0 (by omega)]; exact z), w24, Option.bind_some]
      exact fin 0 (by rw [if_neg z])
  · rintro t ⟨N, rfl, t1, t2, t3⟩
    have hwN : N.1 1 10 = nI n := by rw [t2 1 (by decide)]; exact hw
    unfold mX7_isAnyAllowed_l15
    dsimp only
    rw [full_eq hwN hn, show (10 : Int32) = nI 10 from rfl, nadd1, nmul, if_neg (by rw [nlt (by omega) (by omega), show 2 ^ n - 1 + 1 = 2 ^ n by omega]; omega)]
    exact ⟨N, rfl, t1, t2, t3⟩
/-- from one place on -/
theorem anyFrom_eq {w : Wd} {s l i : Nat} {M N : tr_M} {a : Int32 × Int32 × tr_M} {b : Int32 × Int32 × tr_M} {v : Int32} (hok : WOk w) (hm : MWd w M) (hp : PinX none M) (hs : s < 2 ^ w.1) (hl : l < w.1) (ha : a.2.1 = nI s) (hb : b.2.1 = nI l) (hfr : ∀ c, c ≠ 24 → N.1 c = M.1 c) (h2 : N.2 = M.2) (hR : Rc (nxW stM w none) i s l) (hJ : RJ (nxW stM w none) w.1 s l N) : ∃ P, tr_loop (mX7_isAnyAllowed_l117 a b v) (0, N) = some (.inl (v, nI (l + 1), P)) ∧ RJ (nxW stM w none) w.1 s (l + 1) P ∧ (∀ c, c ≠ 24 → P.1 c = M.1 c) ∧ P.2 = M.2 := by
  have hn := hok.1
  have hpw := pow_lt hn
  have hf := nxW_fresh stM w none
  have hst := (Rc_st hf hR).1
  obtain ⟨r, e1, P, rfl, e3⟩ := tr_loop_inv (step := mX7_isAnyAllowed_l117 a b v) (s0 := (0, N)) (fun x t => ∃ P, t = (nI x, P) ∧ RJ (nxW stM w none) w.1 s l P ∧ (∀ y, y < x → nxW stM w none s (ls s l) y = true → P.1 24 (ins s y * 10 + y) = 1) ∧ (∀ c, c ≠ 24 → P.1 c = M.1 c) ∧ P.2 = M.2) (fun r => ∃ P, r = .inl (v, nI (l + 1), P) ∧ RJ (nxW stM w none) w.1 s (l + 1) P ∧ (∀ c, c ≠ 24 → P.1 c = M.1 c) ∧ P.2 = M.2) w.1 (by omega) ⟨N, rfl, hJ, fun y hy => by omega, hfr, h2⟩ (by
    rintro x t hx ⟨P, rfl, t1, t2, t3, t4⟩
    left
    have kP : KX M P := KX.cell (a := 24) (by decide) (by decide) t3 t4
    have hmP := hm.kx kP
    have hi := ins_lt hs hx
    have e6 : (if nI s = 0 then some (-9 : Int32) else some (nI l)) = some (lsI s l) := by
      unfold lsI
      by_cases z : s = 0
      · rw [if_pos z, if_pos (by rw [z]; rfl)]
      · rw [if_neg z, if_neg (by rw [neq0 (by omega)]; exact z)]
    have r24 : tr_rd 10240 P 24 (nI (ins s x * 10 + x)) = some (P.1 24 (ins s x * 10 + x)) := tr_rd_nI (by omega) (by decide)
    have w24 : ∀ v, tr_wr 10240 P 24 (nI (ins s x * 10 + x)) v = some (tr_st P 24 (ins s x * 10 + x) v) := fun v => tr_wr_nI (by omega) (by decide)
    have fin : ∀ u : Int32, (u = 0 ∧ P.1 24 (ins s x * 10 + x) = 0 ∧ nxW stM w none s (ls s l) x = false) ∨ (u = 1 ∧ ∃ i, Rc (nxW stM w none) i (ins s x) x) → ∃ s', some (Sum.inl (nI x + 1, tr_st P 24 (ins s x * 10 + x) u) : (Int32 × tr_M) ⊕ ((Int32 × Int32 × tr_M) ⊕ ((Int32 × Int32 × tr_M) ⊕ (Int32 × tr_M)))) = some (Sum.inl s') ∧ ∃ P, s' = (nI (x + 1), P) ∧ RJ (nxW stM w none) w.1 s l P ∧ (∀ y, y < x + 1 → nxW stM w none s (ls s l) y = true → P.1 24 (ins s y * 10 + y) = 1) ∧ (∀ c, c ≠ 24 → P.1 c = M.1 c) ∧ P.2 = M.2 := fun u hu => by
      have up : ∀ j, P.1 24 j = 1 → (tr_st P 24 (ins s x * 10 + x) u).1 24 j = 1 := fun j hj => by
        by_cases e : j = ins s x * 10 + x
        · rw [e, tr_st_s]
          rcases hu with ⟨-, u2, -⟩ | ⟨u1, -⟩
          · rw [e] at hj
            rw [hj] at u2
            exact absurd u2 (by decide)
          · exact u1
        · rw [tr_st_j e]
          exact hj
      refine ⟨_, rfl, _, Prod.ext (nadd1 _) rfl, ⟨fun s' l' hs' hl' => ?_, up 0 t1.2.1, fun i s0 l0 y g1 g2 g3 g4 => up _ (t1.2.2 i s0 l0 y g1 g2 g3 g4)⟩, fun y hy hyn => ?_, fun c hc => by rw [tr_st_ne hc, t3 c hc], t4⟩
      · by_cases e : s' * 10 + l' = ins s x * 10 + x
        · have e1 : s' = ins s x := by omega
          have e2 : l' = x := by omega
          rw [e, tr_st_s, e1, e2]
          rcases hu with ⟨u1, -⟩ | ⟨u1, u2⟩
          · exact Or.inl u1
          · exact Or.inr ⟨u1, u2⟩
        · rw [tr_st_j e]
          exact t1.1 s' l' hs' hl'
      · by_cases e : y = x
        · rw [e] at hyn ⊢
          rw [tr_st_s]
          rcases hu with ⟨-, -, u3⟩ | ⟨u1, -⟩
          · rw [u3] at hyn
            cases hyn
          · exact u1
        · exact up _ (t2 y (by omega) hyn)
    unfold mX7_isAnyAllowed_l117
    dsimp only
    rw [hmP.1, if_pos ((nlt (by omega) (by omega)).mpr hx), ha, hb, ins_nI (by omega), spot_eq, Option.bind_some, r24, Option.bind_some, nar0, nar1]
    rcases t1.1 (ins s x) x hi hx with z | ⟨z, z2⟩
    · rw [if_pos z, e6, Option.bind_some, mayCome_eq (pin := none) hok hmP (hp.kx kP) (by omega) (by omega) hx, Option.bind_some]
      by_cases c : nxW stM w none s (ls s l) x = true
      · rw [if_pos c, if_neg (show ¬ (1 : Int32) = 0 by decide), w24, Option.bind_some]
        exact fin 1 (Or.inr ⟨rfl, i + 1, s, l, hR, c, rfl⟩)
      · rw [if_neg c, if_pos rfl, w24, Option.bind_some]
        refine fin 0 (Or.inl ⟨rfl, z, ?_⟩)
        cases h : nxW stM w none s (ls s l) x with
        | true => exact absurd h c
        | false => rfl
    · rw [if_neg (by rw [z]; decide), w24, Option.bind_some]
      exact fin 1 (Or.inr ⟨rfl, z2⟩)) (by
    rintro t ⟨P, rfl, t1, t2, t3, t4⟩
    have kP : KX M P := KX.cell (a := 24) (by decide) (by decide) t3 t4
    unfold mX7_isAnyAllowed_l117
    dsimp only
    rw [(hm.kx kP).1, if_neg (by rw [nlt (by omega) (by omega)]; omega), hb, nadd1]
    refine ⟨_, rfl, P, rfl, ⟨t1.1, t1.2.1, fun i s0 l0 x g1 g2 g3 g4 => ?_⟩, t3, t4⟩
    by_cases e : s0 = s ∧ l0 = l
    · obtain ⟨rfl, rfl⟩ := e
      exact t2 x (hf _ _ _ g4).1 g4
    · exact t1.2.2 i s0 l0 x g1 g2 (by omega) g4)
  exact ⟨P, e1, e3⟩
theorem anyAllowed_eq {w : Wd} {M : tr_M} (hok : WOk w) (hm : MWd w M) (hp : PinX none M) : ∃ N, mX7_isAnyAllowed M = some (if Al w none = [] then 0 else 1, N) ∧ (∀ c, c ≠ 24 → N.1 c = M.1 c) ∧ N.2 = M.2 := by
  have hn := hok.1
  have hpw := pow_lt hn
  have hp0 := Nat.two_pow_pos w.1
  have hf := nxW_fresh stM w none
  have hext := nxM_ok (pin := none) hok trivial
  unfold mX7_isAnyAllowed
  rw [hm.1]
  by_cases z : w.1 = 0
  · have hne : Al w none ≠ [] := by
      rw [← hext, z]
      intro e
      cases e
    rw [if_pos (by rw [z]; rfl), Option.bind_some, if_neg hne]
    -- the marks are laid, none is looked at
    obtain ⟨N, n1, n2, n3⟩ := tr_loop_inv (step := mX7_isAnyAllowed_l15) (s0 := (0, M)) (fun k t => ∃ N, t = (nI k, N) ∧ (∀ c, c ≠ 24 → N.1 c = M.1 c) ∧ N.2 = M.2) (fun N => (∀ c, c ≠ 24 → N.1 c = M.1 c) ∧ N.2 = M.2) 10 (by omega) ⟨M, rfl, fun _ _ => rfl, rfl⟩ (by
      rintro k t hk ⟨N, rfl, t2, t3⟩
      left
      have hwN : N.1 1 10 = nI w.1 := by rw [t2 1 (by decide)]; exact hm.1
      unfold mX7_isAnyAllowed_l15
      dsimp only
      have w24 : ∀ v, tr_wr 10240 N 24 (nI k) v = some (tr_st N 24 k v) := fun v => tr_wr_nI (by omega) (by decide)
      rw [full_eq hwN hn, hwN, z, show (10 : Int32) = nI 10 from rfl, nadd1, nmul, if_pos ((nlt (by omega) (by omega)).mpr (by omega)), w24, w24]
      by_cases q : k = 0
      · rw [if_pos (by rw [q]; rfl), if_neg (by decide), Option.bind_some]
        exact ⟨_, rfl, _, Prod.ext (nadd1 _) rfl, fun c hc => by rw [tr_st_ne hc, t2 c hc], t3⟩
      · rw [if_neg (by rw [neq0 (by omega)]; exact q), Option.bind_some]
        exact ⟨_, rfl, _, Prod.ext (nadd1 _) rfl, fun c hc => by rw [tr_st_ne hc, t2 c hc], t3⟩) (by
      rintro t ⟨N, rfl, t2, t3⟩
      have hwN : N.1 1 10 = nI w.1 := by rw [t2 1 (by decide)]; exact hm.1
      unfold mX7_isAnyAllowed_l15
      dsimp only
      rw [full_eq hwN hn, z, show (10 : Int32) = nI 10 from rfl, nadd1, nmul, if_neg (by decide)]
      exact ⟨N, rfl, t2, t3⟩)
    have hwN : N.1 1 10 = nI w.1 := by rw [n2 1 (by decide)]; exact hm.1
    rw [n1, Option.bind_some]
    refine ⟨N, ?_, n2, n3⟩
    have e1 : mX7_isAnyAllowed_l58 (1, 0, N) = some (.inr (1, N)) := by
      unfold mX7_isAnyAllowed_l58
      dsimp only
      rw [full_eq hwN hn, hwN, z, if_neg (by decide), if_neg (by decide)]
      rfl
    exact tr_loop_of (n := 1) (tr_it_r e1) (by decide)
  · rw [if_neg (by rw [neq0 (by omega)]; exact z), Option.bind_some]
    obtain ⟨N, n1, n2, n3, n4⟩ := anyMarks_eq hn z hm.1
    rw [n1, Option.bind_some]
    have hJ0 : RJ (nxW stM w none) w.1 0 0 N := by
      refine ⟨fun s' l' hs' hl' => ?_, ?_, fun i s0 l0 x g1 g2 g3 g4 => by omega⟩
      · rw [n2 (s' * 10 + l') (by omega)]
        by_cases e : s' * 10 + l' = 0
        · right
          rw [if_pos e]
          exact ⟨rfl, 0, by omega, by omega⟩
        · left
          rw [if_neg e]
      · rw [n2 0 (by omega), if_pos rfl]
    -- whether all have come, by the places that are done
    have key : ∃ r, tr_loop mX7_isAnyAllowed_l58 (0, 0, N) = some r ∧ ∃ P, r = ((if Al w none = [] then 0 else 1), P) ∧ (∀ c, c ≠ 24 → P.1 c = M.1 c) ∧ P.2 = M.2 := by
      refine tr_loop_inv (step := mX7_isAnyAllowed_l58) (s0 := (0, 0, N)) (fun s t => ∃ P v, t = (v, nI s, P) ∧ RJ (nxW stM w none) w.1 s 0 P ∧ (∀ c, c ≠ 24 → P.1 c = M.1 c) ∧ P.2 = M.2 ∧ ((v = 0 ∧ ¬ (2 ^ w.1 - 1 < s ∧ ∃ l i, Rc (nxW stM w none) i (2 ^ w.1 - 1) l)) ∨ (v = 1 ∧ ∃ l i, Rc (nxW stM w none) i (2 ^ w.1 - 1) l))) (fun r => ∃ P, r = ((if Al w none = [] then 0 else 1), P) ∧ (∀ c, c ≠ 24 → P.1 c = M.1 c) ∧ P.2 = M.2) (2 ^ w.1) (by omega) ⟨N, 0, rfl, hJ0, n3, n4, Or.inl ⟨rfl, fun h => by omega⟩⟩ ?_ ?_
      · rintro s t hs ⟨P, v, rfl, t1, t2, t3, t4⟩
        left
        have hwP : P.1 1 10 = nI w.1 := by rw [t2 1 (by decide)]; exact hm.1
        have hstep : mX7_isAnyAllowed_l58 (v, nI s, P) = tr_loop (mX7_isAnyAllowed_l75 (v, nI s, P)) (v, 0, P) := by
          conv => lhs; unfold mX7_isAnyAllowed_l58
          dsimp only
          rw [full_eq hwP hn, hwP, if_neg (by rw [nlt (by omega) (by omega)]; omega), if_pos ((n0lt (by omega)).mpr (by omega))]
        rw [hstep]
        obtain ⟨r, r1, Q, u, rfl, r3, r4, r5, r6⟩ := tr_loop_inv (step := mX7_isAnyAllowed_l75 (v, nI s, P)) (s0 := (v, 0, P)) (fun l t => ∃ Q u, t = (u, nI l, Q) ∧ RJ (nxW stM w none) w.1 s l Q ∧ (∀ c, c ≠ 24 → Q.1 c = M.1 c) ∧ Q.2 = M.2 ∧ ((u = 0 ∧ ¬ (∃ l', (2 ^ w.1 - 1 < s ∨ (s = 2 ^ w.1 - 1 ∧ l' < l)) ∧ ∃ i, Rc (nxW stM w none) i (2 ^ w.1 - 1) l')) ∨ (u = 1 ∧ ∃ l i, Rc (nxW stM w none) i (2 ^ w.1 - 1) l))) (fun r => ∃ Q u, r = .inl (u, nI (s + 1), Q) ∧ RJ (nxW stM w none) w.1 (s + 1) 0 Q ∧ (∀ c, c ≠ 24 → Q.1 c = M.1 c) ∧ Q.2 = M.2 ∧ ((u = 0 ∧ ¬ (2 ^ w.1 - 1 < s + 1 ∧ ∃ l i, Rc (nxW stM w none) i (2 ^ w.1 - 1) l)) ∨ (u = 1 ∧ ∃ l i, Rc (nxW stM w none) i (2 ^ w.1 - 1) l))) w.1 (by omega) ⟨P, v, rfl, t1, t2, t3, by
            rcases t4 with ⟨a, b⟩ | a
            · exact Or.inl ⟨a, fun ⟨l', c, d⟩ => b ⟨by omega, l', d⟩⟩
            · exact Or.inr a⟩ (by
          rintro l t hl ⟨Q, u, rfl, t1, t2, t3, t4⟩
          left
          have hwQ : Q.1 1 10 = nI w.1 := by rw [t2 1 (by decide)]; exact hm.1
          unfold mX7_isAnyAllowed_l75
          dsimp only
          rw [hwQ, if_pos ((nlt (by omega) (by omega)).mpr hl), spot_eq, tr_rd_nI (by omega) (by decide), Option.bind_some]
          rcases t1.1 s l hs hl with y | ⟨y, i, hR⟩
          · rw [if_pos y, nadd1]
            have no : ∀ i, ¬ Rc (nxW stM w none) i s l := fun i hR => by
              have := t1.come hf hR z
              rw [y] at this
              exact absurd this (by decide)
            refine ⟨_, rfl, Q, u, rfl, ⟨t1.1, t1.2.1, fun i s0 l0 x g1 g2 g3 g4 => ?_⟩, t2, t3, ?_⟩
            · by_cases e : s0 = s ∧ l0 = l
              · obtain ⟨rfl, rfl⟩ := e
                exact absurd g1 (no i)
              · exact t1.2.2 i s0 l0 x g1 g2 (by omega) g4
            · rcases t4 with ⟨a, b⟩ | a
              · refine Or.inl ⟨a, fun ⟨l', c, i, d⟩ => ?_⟩
                by_cases e : s = 2 ^ w.1 - 1 ∧ l' = l
                · obtain ⟨e1, e2⟩ := e
                  rw [← e1, e2] at d
                  exact no i d
                · exact b ⟨l', by omega, i, d⟩
              · exact Or.inr a
          · rw [if_neg (by rw [y]; decide), full_eq hwQ hn]
            have hv : ∃ v22, (if u = 0 then (if nI s = nI (2 ^ w.1 - 1) then some (1 : Int32) else some 0) else some 1) = some v22 ∧ ((v22 = 0 ∧ ¬ (∃ l', (2 ^ w.1 - 1 < s ∨ (s = 2 ^ w.1 - 1 ∧ l' < l + 1)) ∧ ∃ i, Rc (nxW stM w none) i (2 ^ w.1 - 1) l')) ∨ (v22 = 1 ∧ ∃ l i, Rc (nxW stM w none) i (2 ^ w.1 - 1) l)) := by
              rcases t4 with ⟨rfl, b⟩ | ⟨rfl, b⟩
              · rw [if_pos rfl]
                by_cases e : s = 2 ^ w.1 - 1
                · rw [if_pos (by rw [e])]
                  refine ⟨1, rfl, Or.inr ⟨rfl, l, i, ?_⟩⟩
                  rw [← e]
                  exact hR
                · rw [if_neg (by rw [neq (by omega) (by omega)]; exact e)]
                  exact ⟨0, rfl, Or.inl ⟨rfl, fun ⟨l', c, d⟩ => b ⟨l', by omega, d⟩⟩⟩
              · rw [if_neg (by decide)]
                exact ⟨1, rfl, Or.inr ⟨rfl, b⟩⟩
            obtain ⟨v22, v1, v2⟩ := hv
            rw [v1, Option.bind_some]
            obtain ⟨T, c1, c2, c3, c4⟩ := anyFrom_eq (a := (v, nI s, P)) (b := (u, nI l, Q)) (v := v22) hok hm hp hs hl rfl rfl t2 t3 hR t1
            rw [c1]
            exact ⟨_, rfl, T, v22, rfl, c2, c3, c4, v2⟩) (by
          rintro t ⟨Q, u, rfl, t1, t2, t3, t4⟩
          have hwQ : Q.1 1 10 = nI w.1 := by rw [t2 1 (by decide)]; exact hm.1
          unfold mX7_isAnyAllowed_l75
          dsimp only
          rw [hwQ, if_neg (by rw [nlt (by omega) (by omega)]; omega), nadd1]
          refine ⟨_, rfl, Q, u, rfl, ⟨t1.1, t1.2.1, fun i s0 l0 x g1 g2 g3 g4 => t1.2.2 i s0 l0 x g1 g2 (by omega) g4⟩, t2, t3, ?_⟩
          rcases t4 with ⟨a, b⟩ | a
          · refine Or.inl ⟨a, fun ⟨c, l', i, d⟩ => b ⟨l', ?_, i, d⟩⟩
            have hl' : l' < w.1 := by
              rcases (Rc_st hf d).1.2 with y | y
              · omega
              · exact y.1
            omega
          · exact Or.inr a)
        rw [r1]
        exact ⟨_, rfl, Q, u, rfl, r3, r4, r5, r6⟩
      · rintro t ⟨P, v, rfl, t1, t2, t3, t4⟩
        have hwP : P.1 1 10 = nI w.1 := by rw [t2 1 (by decide)]; exact hm.1
        unfold mX7_isAnyAllowed_l58
        dsimp only
        rw [full_eq hwP hn, if_pos ((nlt (by omega) (by omega)).mpr (by omega))]
        rcases t4 with ⟨rfl, b⟩ | ⟨rfl, b⟩
        · have : Al w none = [] := Classical.byContradiction fun e => by
            rw [← hext] at e
            exact b ⟨by omega, (Rc_full hf).mp e⟩
          rw [if_pos this]
          exact ⟨_, rfl, P, rfl, t2, t3⟩
        · have : Al w none ≠ [] := by
            rw [← hext]
            exact (Rc_full hf).mpr b
          rw [if_neg this]
          exact ⟨_, rfl, P, rfl, t2, t3⟩
    obtain ⟨r, r1, P, rfl, r3, r4⟩ := key
    exact ⟨P, r1, r3, r4⟩
