theorem cl_L_7 : Cond.classLink RL 7 RX6 ∈ tr_tbl := tr_in 142 (by decide +kernel) rfl
theorem cl_L_10 : Cond.classLink RL 10 RX7 ∈ tr_tbl := tr_in 1140 (by decide +kernel) rfl
theorem ml_L_9 : Cond.methodLink RL 9 yX6_init ∈ tr_tbl := tr_in 144 (by decide +kernel) rfl
theorem ml_L_12 : Cond.methodLink RL 12 yX7_init ∈ tr_tbl := tr_in 1142 (by decide +kernel) rfl
theorem ww_ao : Cond.arrayOver (.object RX1) ∈ lw_tbl := List.mem_of_getElem? (i := 151) (by decide +kernel)
theorem ww_aoa : Cond.arrayOver (.array .int) ∈ lw_tbl := List.mem_of_getElem? (i := 165) (by decide +kernel)
theorem ww_nt_X6_20 : Cond.methodLinkNest RX6 20 yX3_init RX6 ∈ lw_tbl := List.mem_of_getElem? (i := 154) (by decide +kernel)
theorem ww_nt_X6_27 : Cond.methodLinkNest RX6 27 yX2_init RX6 ∈ lw_tbl := List.mem_of_getElem? (i := 223) (by decide +kernel)
theorem ww_nt_X2_3 : Cond.methodLinkNest RX2 3 yX0_init RX6 ∈ lw_tbl := List.mem_of_getElem? (i := 226) (by decide +kernel)
theorem ww_nt_X2_11 : Cond.methodLinkNest RX2 11 yX4_init RX6 ∈ lw_tbl := List.mem_of_getElem? (i := 232) (by decide +kernel)
theorem ww_nt_X3_11 : Cond.methodLinkNest RX3 11 yX5_init RX6 ∈ lw_tbl := List.mem_of_getElem? (i := 160) (by decide +kernel)
theorem ww_nt_X4_3 : Cond.methodLinkNest RX4 3 yX0_init RX6 ∈ lw_tbl := List.mem_of_getElem? (i := 235) (by decide +kernel)
theorem ww_nt_X4_11 : Cond.methodLinkNest RX4 11 yX5_init RX6 ∈ lw_tbl := List.mem_of_getElem? (i := 237) (by decide +kernel)
theorem ww_d_value : Cond.declares ⟨RX0, "value", "()I"⟩ ∈ lw_tbl := List.mem_of_getElem? (i := 789) (by decide +kernel)
theorem ww_d_pick : Cond.declares ⟨RX0, "pick", "(I[I)V"⟩ ∈ lw_tbl := List.mem_of_getElem? (i := 802) (by decide +kernel)
theorem ww_d_number : Cond.declares ⟨RX0, "number", "()I"⟩ ∈ lw_tbl := List.mem_of_getElem? (i := 826) (by decide +kernel)
theorem ww_d_indexOf : Cond.declares ⟨RX0, "indexOf", "([I)I"⟩ ∈ lw_tbl := List.mem_of_getElem? (i := 839) (by decide +kernel)
theorem ww_d_spreadOf : Cond.declares ⟨RX0, "spreadOf", "(I[I)V"⟩ ∈ lw_tbl := List.mem_of_getElem? (i := 919) (by decide +kernel)
theorem ww_d_numberAhead : Cond.declares ⟨RX0, "numberAhead", "(II)I"⟩ ∈ lw_tbl := List.mem_of_getElem? (i := 956) (by decide +kernel)

/-! ===== what stands behind the constructors, as a memory ===== -/
def tr_okV (k : Nat) (v : Value) : Bool := match v with
  | .int _ => k == 0 || k == 3
  | .long _ => k == 1
  | .ref a => (k == 2 && decide (a < 1000)) || (decide (4 < k) && a + 4 == k)
  | _ => false
def tr_okF : List Nat → List Value → Bool
  | [], [] => true
  | k :: ks, v :: vs => tr_okV k v && tr_okF ks vs
  | _, _ => false
def tr_okS : tr_S → tr_K → Bool
  | .inl (t, n), .inl (t', n', _) => t == t' && n == n'
  | .inr (.inl (t, n, f)), .inr (.inl (t', n', g)) => t == t' && (n == n' && (List.range n).all (fun i => g i == f i && f i != 0))
  | .inr (.inr (ci, ks)), .inr (.inr (ci', vs)) => ci == ci' && tr_okF ks vs
  | _, _ => false
def tr_kI (vs : List Value) (k : Nat) : Int32 := match vs[k]? with
  | some (.int v) => v
  | some (.ref a) => nI a
  | _ => 0
def tr_kJ (vs : List Value) (k : Nat) : Int64 := match vs[k]? with
  | some (.long v) => v
  | _ => 0
def tr_kM (f : Nat → tr_K) : tr_M := (fun a k => match f a with
  | .inl (_, _, g) => g k
  | .inr (.inl _) => 0
  | .inr (.inr (_, vs)) => tr_kI vs k, fun a k => match f a with
  | .inr (.inr (_, vs)) => tr_kJ vs k
  | _ => 0)
theorem tr_kF {B a : Nat} {M : tr_M} {all : List Value} (hI : ∀ k, M.1 a k = tr_kI all k) (hJ : ∀ k, M.2 a k = tr_kJ all k) : ∀ (ks : List Nat) (vs : List Value) (j : Nat), tr_okF ks vs = true → (∀ i, vs[i]? = all[j + i]?) → vs.map (tr_v B) = tr_fs B M a j ks
  | [], [], _, _, _ => rfl
  | [], _ :: _, _, h, _ => by cases h
  | _ :: _, [], _, h, _ => by cases h
  | k :: ks, v :: vs, j, h, hv => by
    have h : (tr_okV k v && tr_okF ks vs) = true := h
    rw [Bool.and_eq_true] at h
    have ih := tr_kF (B := B) hI hJ ks vs (j + 1) h.2 (fun i => by
      have := hv (i + 1)
      rw [show j + 1 + i = j + (i + 1) by omega, ← this]
      rfl)
    rw [List.map_cons, tr_fs, ih]
    congr 1
    have h0 : all[j]? = some v := by
      have := hv 0
      exact this.symm
    have e1 : tr_kI all j = match (some v : Option Value) with
      | some (.int v) => v
      | some (.ref a) => nI a
      | _ => 0 := by unfold tr_kI; rw [h0]
    have e2 : tr_kJ all j = match (some v : Option Value) with
      | some (.long v) => v
      | _ => 0 := by unfold tr_kJ; rw [h0]
    have hk := h.1
    revert e1 e2 hk
    cases v with
    | int x =>
      intro e1 _ hk
      have hk : (k == 0 || k == 3) = true := hk
      rw [Bool.or_eq_true, beq_iff_eq, beq_iff_eq] at hk
      rcases hk with rfl | rfl
      · show Value.int x = .int (M.1 a j); rw [hI, e1]
      · show Value.int x = .int (M.1 a j); rw [hI, e1]
    | long x =>
      intro _ e2 hk
      have hk : (k == 1) = true := hk
      rw [beq_iff_eq] at hk
      subst hk
      show Value.long x = .long (M.2 a j); rw [hJ, e2]
    | ref x =>
      intro e1 _ hk
      have hk : ((k == 2 && decide (x < 1000)) || (decide (4 < k) && x + 4 == k)) = true := hk
      rw [Bool.or_eq_true, Bool.and_eq_true, Bool.and_eq_true, beq_iff_eq, beq_iff_eq, decide_eq_true_eq, decide_eq_true_eq] at hk
      rcases hk with ⟨rfl, hx⟩ | ⟨hx, rfl⟩
      · show tr_v B (.ref x) = tr_v B (.ref (M.1 a j).toNatClampNeg)
        rw [hI, e1]
        show tr_v B (.ref x) = tr_v B (.ref (nI x).toNatClampNeg)
        rw [nI_clamp (by have : (1000 : Nat) < 2 ^ 31 := by decide
                         exact Nat.lt_trans hx this)]
      · show tr_v B (.ref x) = .ref (B + x)
        exact tr_v_ref (by
          have : 4 < x + 4 := hx
          exact Nat.lt_of_add_lt_add_right (n := 4) (by rw [Nat.zero_add]; exact this))
    | _ => intro _ _ hk; cases hk
theorem tr_k_at {G : va_G} {cl : List vw_C} {B a : Nat} {D : Nat → ClassId} {sh : Nat → tr_S} {f : Nat → tr_K} {H : Heap} (hok : tr_okS (sh a) (f a) = true) (h : va_at G cl (B + a, tr_kc B D (f a)) H) : va_at G cl (B + a, tr_c B D sh (tr_kM f) a) H := by
  unfold tr_c
  cases hs : sh a with
  | inl q =>
    obtain ⟨t, n⟩ := q
    rw [hs] at hok
    cases hf : f a with
    | inl x =>
      obtain ⟨t', n', g⟩ := x
      rw [hf] at hok h
      simp only [tr_okS, Bool.and_eq_true, beq_iff_eq] at hok
      obtain ⟨rfl, rfl⟩ := hok
      have e : (tr_kM f).1 a = g := funext fun k => by show (match f a with | .inl (_, _, g) => g k | .inr (.inl _) => 0 | .inr (.inr (_, vs)) => tr_kI vs k) = g k; rw [hf]
      show va_at G cl (B + a, .inl (D t, n, .inl ((tr_kM f).1 a))) H
      rw [e]
      exact h
    | inr x => rw [hf] at hok; rcases x with x | x <;> cases hok
  | inr q =>
    rw [hs] at hok
    rcases q with q | q
    · obtain ⟨t, n, r⟩ := q
      cases hf : f a with
      | inl x => rw [hf] at hok; cases hok
      | inr x =>
        rcases x with x | x
        · obtain ⟨t', n', g⟩ := x
          rw [hf] at hok h
          simp only [tr_okS, Bool.and_eq_true, beq_iff_eq, List.all_eq_true, List.mem_range, bne_iff_ne] at hok
          obtain ⟨rfl, rfl, hg⟩ := hok
          have h1 : H[B + a]? = some (vp_cell (D t) (n, .inr (.inr (.inr (.inr fun i => tr_rf B (g i)))))) := h
          show H[B + a]? = some (vp_cell (D t) (n, .inr (.inr (.inr (.inr fun i => some (B + r i))))))
          rw [h1, vp_cell_q, vp_cell_q]
          congr 1
          unfold arrV
          congr 1
          apply Array.ext
          · simp
          · intro i hi1 hi2
            simp only [Array.getElem_ofFn]
            have hin : i < n := by simpa using hi1
            obtain ⟨e1, e2⟩ := hg i hin
            rw [e1]
            show va_rf (tr_rf B (r i)) = .ref (B + r i)
            rw [tr_rf_v, tr_v_ref (Nat.pos_of_ne_zero e2)]
        · rw [hf] at hok; cases hok
    · obtain ⟨ci, ks⟩ := q
      cases hf : f a with
      | inl x => rw [hf] at hok; cases hok
      | inr x =>
        rcases x with x | x
        · rw [hf] at hok; cases hok
        · obtain ⟨ci', vs⟩ := x
          rw [hf] at hok h
          simp only [tr_okS, Bool.and_eq_true, beq_iff_eq] at hok
          obtain ⟨rfl, hok⟩ := hok
          have hI : ∀ k, (tr_kM f).1 a k = tr_kI vs k := fun k => by show (match f a with | .inl (_, _, g) => g k | .inr (.inl _) => 0 | .inr (.inr (_, vs)) => tr_kI vs k) = tr_kI vs k; rw [hf]
          have hJ : ∀ k, (tr_kM f).2 a k = tr_kJ vs k := fun k => by show (match f a with | .inr (.inr (_, vs)) => tr_kJ vs k | _ => 0) = tr_kJ vs k; rw [hf]
          have := tr_kF (B := B) hI hJ ks vs 0 hok (fun i => by rw [Nat.zero_add])
          show va_at G cl (B + a, .inr (ci, tr_fs B (tr_kM f) a 0 ks)) H
          rw [← this]
          exact h
theorem tr_k_P {G : va_G} {cl : List vw_C} {B N : Nat} {D : Nat → ClassId} {sh : Nat → tr_S} {f : Nat → tr_K} {H : Heap} (hok : (List.range N).all (fun k => tr_okS (sh (k + 1)) (f (k + 1))) = true) (h : va_P G cl (tr_w B D N f) H) : va_P G cl (tr_ws B D sh N (tr_kM f)) H := by
  intro k q hk
  obtain ⟨h1, rfl⟩ := tr_ws_of hk
  have hk1 := List.all_eq_true.mp hok k (List.mem_range.mpr h1)
  have hat := h k _ (by have := tr_w_at (B := B) (D := D) (n := N) (f := f) (a := k + 1) (by omega) (by omega); simpa using this)
  exact tr_k_at hk1 hat
def tr_f0 : Nat → tr_K := fun _ => .inl (0, 0, fun _ => 0)
def tr_fC : Nat → tr_K := fX6_1 (tr_up tr_f0 1 (.inr (.inr (5, [.ref 0, .ref 0, .ref 0, .ref 0, .ref 0, .ref 0, .ref 0, .ref 0, .ref 0, .ref 0, .ref 0, .int 0, .int 0, .long 0, .long 0, .int 0, .ref 0]))))
def tr_fM : Nat → tr_K := fX7_1 (tr_up tr_f0 1 (.inr (.inr (6, [.int 0, .ref 0, .int 0, .long 0, .long 0, .ref 0, .ref 0, .ref 0, .ref 0, .ref 0, .int 0, .ref 0, .int 0, .ref 0, .int 0, .int 0, .int 0, .int 0, .ref 0, .ref 0, .ref 0, .ref 0, .ref 0, .ref 0, .ref 0, .ref 0, .ref 0, .int 0, .int 0, .int 0, .int 0, .ref 0, .ref 0, .ref 0, .ref 0, .ref 0, .ref 0, .long 0]))))
/-- the memories behind the two constructors -/
def tr_C0 : tr_M := tr_kM tr_fC
def tr_M0 : tr_M := tr_kM tr_fM
theorem tr_okC : (List.range 81).all (fun k => tr_okS (shC (k + 1)) (tr_fC (k + 1))) = true := by decide +kernel
theorem tr_okM : (List.range 24).all (fun k => tr_okS (shM (k + 1)) (tr_fM (k + 1))) = true := by decide +kernel

theorem law_after {dC : Nat → ClassId} {dI : Nat → Nat → Nat} {B n : Nat} {D : Nat → ClassId} {f : Nat → tr_K} {p : Program} {l : Launch} {e : Env} {R : Room} {s : State} {m : MethodId} {args a1 : Array Value} {below : List Frame} {meth : Method} {c : Code} {H : Heap} {locs : List Loc} {cells slots mc ms pc : Nat} {ls : Array Slot} {st0 rest : List Value} {Q : State → Prop} {Qc : Array Value → State → Outcome → State → Prop}
    (hr : va_Run p l e R s m args below meth c H locs cells slots mc ms (F0 m pc ls st0) rest (Qc a1) (fun q => B < q)) (hQ : Qc = tr_UQ dC dI B D n f)
    (kk : ∀ (T : Heap) (L : List Loc), va_P (dC, dI) vwCl (tr_w B D n f) T → T.size = B + n + 1 → H.size ≤ T.size → (∀ q : Nat, q < H.size → ¬ B < q → T[q]? = H[q]?) → (∀ q ∈ L, q ∈ locs ∨ B < q.base) → True → W p l e R s m args below meth c T L (cells + mc) (slots + ms) Q (F0 m (pc + 3) ls rest)) : W p l e R s m args below meth c H locs cells slots Q (F0 m pc ls st0) := by
  intro T0 hT Xs
  subst hQ
  obtain ⟨v0, st₀, t, T', L0, h0, X', hL, e1, e2, ⟨hv0, hP', hz1, hz, hk⟩, stp⟩ := hr T0 hT Xs
  have hv0 : v0 = none := by
    cases hv0
    rfl
  subst hv0
  rw [h0] at hz hk
  rw [← e1] at hP' hz1 hz hk
  obtain ⟨t2, a2, b2⟩ := kk T'.heap (locs ++ L0) hP' hz1 hz hk (fun q hq => by
    rcases List.mem_append.mp hq with h | h
    · exact Or.inl h
    · exact Or.inr (hL q h)) trivial T' rfl X'
  exact ⟨t2, stp t2 a2, b2⟩
set_option maxRecDepth 100000 in
set_option maxHeartbeats 4000000 in
/-- from the entry to the loop, if both sides are tied from the start on -/
theorem law_start {Inv : tr_M → tr_M → Prop} (hs : tr_same Inv) (h0 : Inv tr_C0 tr_M0) {p : Program} {e : Env} {s : State} {m : MethodId} {below : List Frame} {meth : Method} {c : Code} (l : Launch) {b L : Nat} {xs : Nat → Int32} (hL : L ≤ 3072) (C0 : lw_At p s m meth c b L xs) : W p l e room_1 s m #[Value.ref b] below meth c s.heap [] 0 0 (lw_Z below #[Value.ref b] s) (entryFrame m ([Value.ref b] : List Value).toArray 4) := by
  obtain ⟨hx, hb, hr, hml, hown0, hts0, hX, hbl, hlk, hgv⟩ := id C0
  have hown : s.vm.findClass RL = some m.cls := hown0
  have hts : ∀ w ∈ tr_tbl, w.before #[Value.ref b] s = true := fun w hw => hts0 w (List.mem_filter.mp hw).1
  obtain ⟨B, hB⟩ : ∃ B, s.heap.size = B + 1 := ⟨s.heap.size - 1, by omega⟩
  -- the classes

  obtain ⟨c0, iS0, hKn0⟩ := u_known (C := RX1) (T := TX1) (N := 2) hts uw_X1 (hts _ ia_X1)
  obtain ⟨c1, iS1, hKn1⟩ := u_known (C := RX2) (T := TX2) (N := 9) hts uw_X2 (hts _ ia_X2)
  obtain ⟨c2, iS2, hKn2⟩ := u_known (C := RX3) (T := TX3) (N := 3) hts uw_X3 (hts _ ia_X3)
  obtain ⟨c3, iS3, hKn3⟩ := u_known (C := RX4) (T := TX4) (N := 15) hts uw_X4 (hts _ ia_X4)
  obtain ⟨c4, iS4, hKn4⟩ := u_known (C := RX5) (T := TX5) (N := 11) hts uw_X5 (hts _ ia_X5)
  obtain ⟨c5, iS5, hKn5⟩ := u_known (C := RX6) (T := TX6) (N := 17) hts uw_X6 (hts _ ia_X6)
  obtain ⟨c6, iS6, hKn6⟩ := u_known (C := RX7) (T := TX7) (N := 38) hts uw_X7 (hts _ ia_X7)
  obtain ⟨dC, dI, hKc⟩ : ∃ (dC : Nat → ClassId) (dI : Nat → Nat → Nat), ∀ (k : Nat) (q : vw_C), vwCl[k]? = some q → u_Kn s q.1 q.2.1 q.2.2 (dC k) (dI k) := by
    refine ⟨fun k => if k = 0 then c0 else if k = 1 then c1 else if k = 2 then c2 else if k = 3 then c3 else if k = 4 then c4 else if k = 5 then c5 else c6, fun k => if k = 0 then iS0 else if k = 1 then iS1 else if k = 2 then iS2 else if k = 3 then iS3 else if k = 4 then iS4 else if k = 5 then iS5 else iS6, ?_⟩
    intro k q hq
    match k, hq with
    | 0, hq => cases hq; exact hKn0
    | 1, hq => cases hq; exact hKn1
    | 2, hq => cases hq; exact hKn2
    | 3, hq => cases hq; exact hKn3
    | 4, hq => cases hq; exact hKn4
    | 5, hq => cases hq; exact hKn5
    | 6, hq => cases hq; exact hKn6
    | k + 7, hq => simp [vwCl] at hq
  obtain ⟨a0, k0, m0, f0, g0, z0⟩ := Cond.arrayClass_spec (hts _ w_ac_int)
  obtain ⟨a1, k1, m1, f1, g1, z1⟩ := Cond.arrayClass_spec (hts _ w_ac_byte)
  obtain ⟨a2, k2, m2, f2, g2, z2⟩ := Cond.arrayClass_spec (hts _ w_ac_boolean)
  obtain ⟨m3, a3, k3, n3, -, g3, z3, f3⟩ := Cond.arrayOver_spec (hts0 _ ww_ao)
  obtain ⟨m4, a4, k4, n4, g4, z4, f4⟩ := Cond.arrayOver_specA (hts0 _ ww_aoa)
  obtain ⟨D, hD0, hD1, hD2, hD3, hD4⟩ : ∃ D : Nat → ClassId, D 0 = a0 ∧ D 1 = a1 ∧ D 2 = a2 ∧ D 3 = a3 ∧ D 4 = a4 := ⟨fun k => if k = 0 then a0 else if k = 1 then a1 else if k = 2 then a2 else if k = 3 then a3 else a4, rfl, rfl, rfl, rfl, rfl⟩
  have hK : va_K (dC, dI) vwCl (tr_tys D) s := by
    refine ⟨hKc, fun k q hq => ?_⟩
    match k, hq with
    | 0, hq => cases hq; rw [hD0]; exact ⟨fun n z => ⟨fun k h => (by cases h), k0, g0, m0, z0⟩, f0⟩
    | 1, hq => cases hq; rw [hD1]; exact ⟨fun n z => ⟨fun k h => (by cases h), k1, g1, m1, z1⟩, f1⟩
    | 2, hq => cases hq; rw [hD2]; exact ⟨fun n z => ⟨fun k h => (by cases h), k2, g2, m2, z2⟩, f2⟩
    | 3, hq => cases hq; rw [hD3]; exact ⟨fun n z => ⟨fun k h => (by cases h), k3, g3, m3, z3⟩, ⟨k3, m3, g3, z3, n3, f3⟩⟩
    | 4, hq => cases hq; rw [hD4]; exact ⟨fun n z => ⟨fun k h => (by cases h), k4, g4, m4, z4⟩, f4⟩
    | k + 5, hq => simp [tr_tys] at hq
  have hAb : ∀ x ∈ tr_abs, va_Nw (.declares x) s := by
    intro x hx
    simp only [tr_abs, List.mem_cons, List.not_mem_nil, or_false] at hx
    rcases hx with rfl | rfl | rfl | rfl | rfl | rfl
    · exact va_Nw.of rfl (hts0 _ ww_d_value)
    · exact va_Nw.of rfl (hts0 _ ww_d_number)
    · exact va_Nw.of rfl (hts0 _ ww_d_pick)
    · exact va_Nw.of rfl (hts0 _ ww_d_indexOf)
    · exact va_Nw.of rfl (hts0 _ ww_d_spreadOf)
    · exact va_Nw.of rfl (hts0 _ ww_d_numberAhead)
  have hUK : tr_UK dC dI D s := by
    refine ⟨hK, va_AO.of (hts0 _ ww_ao), va_AOA.of (hts0 _ ww_aoa), fun q hq => ?_⟩
    simp only [tr_nest, List.mem_cons, List.not_mem_nil, or_false] at hq
    rcases hq with rfl | rfl | rfl | rfl | rfl | rfl | rfl
    · exact va_Nw.of rfl (hts0 _ ww_nt_X6_20)
    · exact va_Nw.of rfl (hts0 _ ww_nt_X6_27)
    · exact va_Nw.of rfl (hts0 _ ww_nt_X2_3)
    · exact va_Nw.of rfl (hts0 _ ww_nt_X2_11)
    · exact va_Nw.of rfl (hts0 _ ww_nt_X3_11)
    · exact va_Nw.of rfl (hts0 _ ww_nt_X4_3)
    · exact va_Nw.of rfl (hts0 _ ww_nt_X4_11)
  have hl := lv_entry ([.ref b]) (n := 4) (Nat.le_of_ble_eq_true rfl)
  rw [lg_entry_eq]
  generalize (lg_sl ([.ref b]) ++ List.replicate (4 - (lg_sl ([.ref b])).length) Slot.unset).toArray = ls at hl ⊢
  have hl : lv_has ls 4 [(0, .ref b)] := hl
  have hG1 : ∀ (y : MethodName) (bs : ByteArray) (k : Nat), Cond.code y bs k none ∈ tr_tbl → GoodIn tr_tbl (Cond.code y bs k none :: tr_tbl) := fun y bs k h => tr_goodIn fun w hw => (List.mem_cons.mp hw).elim (fun e => e ▸ h) id
  -- new TiedRow
  refine W.newcK hx hb hown (hts _ cl_L_7) (hts _ ia_X6) (hts _ in_X6) rfl dL_law_0 (Nat.le_of_ble_eq_true rfl) (Nat.le_of_ble_eq_true rfl) (hKc 5 _ rfl).2.1 rfl fun H1 kC hkC e1 z1' o1 => ?_
  have hP1 : va_P (dC, dI) vwCl (tr_w B D 1 (tr_up tr_f0 1 (.inr (.inr (5, [.ref 0, .ref 0, .ref 0, .ref 0, .ref 0, .ref 0, .ref 0, .ref 0, .ref 0, .ref 0, .ref 0, .int 0, .int 0, .long 0, .long 0, .int 0, .ref 0]))))) H1 := by
    intro k q hq
    obtain ⟨hk, rfl⟩ := tr_w_of hq
    have : k = 0 := by omega
    subst this
    rw [hB] at e1
    exact ⟨_, rfl, (u_born tyX6 hts uw_X6 (hKc 5 _ rfl) hkC e1 tyX6_ok).to (bl_X6 B)⟩
  have hsz1 : H1.size = B + 1 + 1 := by omega
  have hS1 : va_S (fun q => B < q) s.heap H1 [] := ⟨by omega, fun q h1 _ => o1 q h1, fun _ h => by cases h⟩
  rw [hB]
  show W p l e room_1 s m #[Value.ref b] below meth c H1 [] 1 17 (lw_Z below #[Value.ref b] s) (F0 m 3 ls [.ref (B + 1)])
  refine lv_dup hx hb dL_law_3 rfl ?_
  have hrun1 := va_runI (e := e) (below := below) (meth := meth) (locs := []) (H := H1) (cells := 1) (slots := 17) (R := room_1) (As := []) (rest := [.ref (B + 1)]) (b := B + 1) (g := F0 m 4 ls [.ref (B + 1), .ref (B + 1)]) ⟨hx, hb, hml, hown, hts⟩ (J_X6_1 (tr_up tr_f0 1 (.inr (.inr (5, [.ref 0, .ref 0, .ref 0, .ref 0, .ref 0, .ref 0, .ref 0, .ref 0, .ref 0, .ref 0, .ref 0, .int 0, .int 0, .long 0, .long 0, .int 0, .ref 0])))) rfl l dC dI B D) (cwI 0 hts (hG1 _ _ _ cw_X6_init) rfl rfl rfl (hts _ in_X6) (hts _ ml_L_9) (hts _ im_X6_init) rfl ⟨by decide +kernel, by decide +kernel, by decide +kernel⟩ ⟨Nat.le_of_ble_eq_true rfl, Nat.le_of_ble_eq_true rfl⟩) ⟨tr_ublind, fun U hU hWm => ⟨rfl, by rw [hU]; exact hP1, by rw [hU]; exact hsz1, tr_UK.moved hWm hUK⟩⟩ rfl rfl hl.1 rfl (lv_room (Nat.le_of_ble_eq_true rfl)) dL_law_4 ⟨Nat.le_of_ble_eq_true rfl, Nat.le_of_ble_eq_true rfl⟩
  refine law_after hrun1 rfl (fun T1 L1 hPc hzc hz2 hkeep hfree alike => ?_)
  have hS2 : va_S (fun q => B < q) s.heap T1 L1 := ⟨by omega, fun q h1 h2 => (hkeep q (by omega) h2).trans (hS1.2.1 q h1 h2), fun q hq => (hfree q hq).elim (fun h => by cases h) id⟩
  have hPC : va_P (dC, dI) vwCl (tr_ws B D shC 81 tr_C0) T1 := tr_k_P tr_okC hPc
  show W p l e room_1 s m #[Value.ref b] below meth c T1 L1 81 84805 (lw_Z below #[Value.ref b] s) (F0 m 7 ls [.ref (B + 1)])
  refine lv_astore_n (lv' := [(1, .ref (B + 1)), (0, .ref b)]) hx hb dL_law_7 rfl hl (by decide) rfl (fun ls hl => ?_)
  -- new TiedRowModel
  refine W.newcK hx hb hown (hts _ cl_L_10) (hts _ ia_X7) (hts _ in_X7) rfl dL_law_8 (Nat.le_of_ble_eq_true rfl) (Nat.le_of_ble_eq_true rfl) (hKc 6 _ rfl).2.1 rfl fun H3 kC3 hkC3 e3 z3' o3 => ?_
  have hzc' : T1.size = B + 81 + 1 := hzc
  have hP3 : va_P (dC, dI) vwCl (tr_w (B + 81) D 1 (tr_up tr_f0 1 (.inr (.inr (6, [.int 0, .ref 0, .int 0, .long 0, .long 0, .ref 0, .ref 0, .ref 0, .ref 0, .ref 0, .int 0, .ref 0, .int 0, .ref 0, .int 0, .int 0, .int 0, .int 0, .ref 0, .ref 0, .ref 0, .ref 0, .ref 0, .ref 0, .ref 0, .ref 0, .ref 0, .int 0, .int 0, .int 0, .int 0, .ref 0, .ref 0, .ref 0, .ref 0, .ref 0, .ref 0, .long 0]))))) H3 := by
    intro k q hq
    obtain ⟨hk, rfl⟩ := tr_w_of hq
    have : k = 0 := by omega
    subst this
    rw [hzc'] at e3
    exact ⟨_, rfl, (u_born tyX7 hts uw_X7 (hKc 6 _ rfl) hkC3 e3 tyX7_ok).to (bl_X7 (B + 81))⟩
  have hsz3 : H3.size = B + 81 + 1 + 1 := by omega
  have hPC3 : va_P (dC, dI) vwCl (tr_ws B D shC 81 tr_C0) H3 := hPC.kept (fun k q hq => o3 _ (hPC k q hq).lt)
  have hS3 : va_S (fun q => B < q) s.heap H3 L1 := ⟨by omega, fun q h1 h2 => (o3 q (by omega)).trans (hS2.2.1 q h1 h2), hS2.2.2⟩
  rw [hzc']
  show W p l e room_1 s m #[Value.ref b] below meth c H3 L1 82 84843 (lw_Z below #[Value.ref b] s) (F0 m 11 ls [.ref (B + 81 + 1)])
  refine lv_dup hx hb dL_law_11 rfl ?_
  have hrun2 := va_runI (e := e) (below := below) (meth := meth) (locs := L1) (H := H3) (cells := 82) (slots := 84843) (R := room_1) (As := []) (rest := [.ref (B + 81 + 1)]) (b := B + 81 + 1) (g := F0 m 12 ls [.ref (B + 81 + 1), .ref (B + 81 + 1)]) ⟨hx, hb, hml, hown, hts⟩ (J_X7_1 (tr_up tr_f0 1 (.inr (.inr (6, [.int 0, .ref 0, .int 0, .long 0, .long 0, .ref 0, .ref 0, .ref 0, .ref 0, .ref 0, .int 0, .ref 0, .int 0, .ref 0, .int 0, .int 0, .int 0, .int 0, .ref 0, .ref 0, .ref 0, .ref 0, .ref 0, .ref 0, .ref 0, .ref 0, .ref 0, .int 0, .int 0, .int 0, .int 0, .ref 0, .ref 0, .ref 0, .ref 0, .ref 0, .ref 0, .long 0])))) rfl l dC dI (B + 81) D) (cwI 0 hts (hG1 _ _ _ cw_X7_init) rfl rfl rfl (hts _ in_X7) (hts _ ml_L_12) (hts _ im_X7_init) rfl ⟨by decide +kernel, by decide +kernel, by decide +kernel⟩ ⟨Nat.le_of_ble_eq_true rfl, Nat.le_of_ble_eq_true rfl⟩) ⟨tr_ublind, fun U hU hWm => ⟨rfl, by rw [hU]; exact hP3, by rw [hU]; exact hsz3, tr_UK.moved hWm hUK⟩⟩ rfl rfl hl.1 rfl (lv_room (Nat.le_of_ble_eq_true rfl)) dL_law_12 ⟨Nat.le_of_ble_eq_true rfl, Nat.le_of_ble_eq_true rfl⟩
  refine law_after hrun2 rfl (fun T4 L4 hPm hzm hz4 hkeep4 hfree4 alike4 => ?_)
  have hPM : va_P (dC, dI) vwCl (tr_ws (B + 81) D shM 24 tr_M0) T4 := tr_k_P tr_okM hPm
  have hPC4 : va_P (dC, dI) vwCl (tr_ws B D shC 81 tr_C0) T4 := hPC3.kept (fun k q hq => by
    have hlt := (hPC3 k q hq).lt
    obtain ⟨hk1, rfl⟩ := tr_ws_of hq
    exact hkeep4 _ hlt (by show ¬ B + 81 < B + (k + 1); omega))
  have hS4 : va_S (fun q => B < q) s.heap T4 L4 := ⟨by omega, fun q h1 h2 => (hkeep4 q (by omega) (by show ¬ B + 81 < q; omega)).trans (hS3.2.1 q h1 h2), fun q hq => by
    have := hfree4 q hq
    rcases this with h | h
    · exact hS3.2.2 q h
    · show B < q.base
      have h : B + 81 < q.base := h
      omega⟩
  show W p l e room_1 s m #[Value.ref b] below meth c T4 L4 105 tr_gS (lw_Z below #[Value.ref b] s) (F0 m 15 ls [.ref (B + 81 + 1)])
  refine lv_astore_n (lv' := [(2, .ref (B + 81 + 1)), (1, .ref (B + 1)), (0, .ref b)]) hx hb dL_law_15 rfl hl (by decide) rfl (fun ls hl => ?_)
  refine lv_iconst (v := 0) hx hb dL_law_16 (by decide) ?_
  refine lv_istore_n (lv' := [(3, .int 0), (2, .ref (B + 81 + 1)), (1, .ref (B + 1)), (0, .ref b)]) hx hb dL_law_17 rfl hl (by decide) rfl (fun ls hl => ?_)
  exact law_loop hs hL (L + 1) 0 tr_C0 tr_M0 (by omega) (by omega) h0 (b := b) (xs := xs) (B := B) (Wt := tr_GW b B p l e s m below meth c dC dI D) ⟨p, l, e, s, m, below, meth, c, dC, dI, D, hx, hb, hr, hml, hown, hts, hX, hbl, hB, hlk, hK, hAb, rfl⟩ ls T4 L4 (lv_sub hl [0, 3, 2, 1] rfl) hPC4 hPM hS4
