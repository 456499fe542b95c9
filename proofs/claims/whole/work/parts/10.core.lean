/-- the words that hold at every call -/
def tr_tbl : List Cond := lw_tbl.filter goodWord
theorem tr_in {w : Cond} (i : Nat) (h : lw_tbl[i]? = some w) (hg : goodWord w = true) : w ∈ tr_tbl := List.mem_filter.mpr ⟨List.mem_of_getElem? h, hg⟩
theorem tr_inw {ws : List Cond} (h : ∀ w ∈ ws, w ∈ lw_tbl) (hg : ws.all goodWord = true) : ∀ w ∈ ws, w ∈ tr_tbl := fun w hw => List.mem_filter.mpr ⟨h w hw, List.all_eq_true.mp hg w hw⟩
theorem tr_goodIn {ws : List Cond} (h : ∀ w ∈ ws, w ∈ tr_tbl) : GoodIn tr_tbl ws := fun w hw => ⟨h w hw, good_of_word (List.mem_filter.mp (h w hw)).2⟩
def tr_abs : List MethodName := [⟨RX0, "value", "()I"⟩, ⟨RX0, "number", "()I"⟩, ⟨RX0, "pick", "(I[I)V"⟩, ⟨RX0, "indexOf", "([I)I"⟩, ⟨RX0, "spreadOf", "(I[I)V"⟩, ⟨RX0, "numberAhead", "(II)I"⟩]
/-! ===== the worlds of one side: cells 1 .. N of a known shape, whole numbers by cell and place ===== -/
abbrev tr_M : Type := (Nat → Nat → Int32) × (Nat → Nat → Int64)
/-- a cell's shape: an array of whole numbers (kind, length); of references (kind, length, which); an object (class, its fields' kinds: 0 int, 1 long, 2 a reference that may change, 3 boolean, k + 4 the cell k) -/
abbrev tr_S : Type := (Nat × Nat) ⊕ ((Nat × Nat × (Nat → Nat)) ⊕ (Nat × List Nat))
abbrev tr_L : Type := List (Nat × Option Value)
/-- code, locals, own class, answer's type, level, shape, how many cells -/
abbrev tr_X : Type := ByteArray × Nat × String × Option FieldType × Nat × (Nat → tr_S) × Nat
abbrev tr_E : Type := Option Value × tr_M × (Nat → tr_L → List Value → tr_M → Prop)
def tr_v (B : Nat) : Value → Value
  | .ref 0 => .null
  | .ref (a + 1) => .ref (B + (a + 1))
  | v => v
def tr_st (M : tr_M) (a k : Nat) (v : Int32) : tr_M := (fun b j => if b = a ∧ j = k then v else M.1 b j, M.2)
def tr_sl (M : tr_M) (a k : Nat) (v : Int64) : tr_M := (M.1, fun b j => if b = a ∧ j = k then v else M.2 b j)
def tr_row (M : tr_M) (a : Nat) (f : Nat → Int32) : tr_M := (fun b => if b = a then f else M.1 b, M.2)
def tr_ix (i : Int32) (n : Nat) : Bool := !decide (i < 0) && decide (i.toNatClampNeg < n)
def tr_rd (n : Nat) (M : tr_M) (a : Nat) (i : Int32) : Option Int32 := if tr_ix i n = true then some (M.1 a i.toNatClampNeg) else none
def tr_wr (n : Nat) (M : tr_M) (a : Nat) (i v : Int32) : Option tr_M := if tr_ix i n = true then some (tr_st M a i.toNatClampNeg v) else none
def tr_ra (n : Nat) (f : Nat → Nat) (i : Int32) : Option Nat := if tr_ix i n = true then some (f i.toNatClampNeg) else none
def tr_gd (c : Bool) : Option Unit := if c = true then some () else none
def tr_dvi (x y : Int32) : Option Int32 := if y = 0 then none else some (x / y)
def tr_rmi (x y : Int32) : Option Int32 := if y = 0 then none else some (x - x / y * y)
def tr_dvl (x y : Int64) : Option Int64 := if y = 0 then none else some (x / y)
def tr_rml (x y : Int64) : Option Int64 := if y = 0 then none else some (x - x / y * y)
def tr_len (sh : Nat → tr_S) (a : Nat) : Nat := match sh a with
  | .inl (0, n) => n
  | _ => 0
def tr_cpy (n0 n1 : Nat) (M : tr_M) (a0 : Nat) (sp : Int32) (a1 : Nat) (dp n : Int32) : Option tr_M :=
  if sp < 0 ∨ dp < 0 ∨ n < 0 ∨ n0 < sp.toNatClampNeg + n.toNatClampNeg ∨ n1 < dp.toNatClampNeg + n.toNatClampNeg ∨ n0 = 0 ∨ n1 = 0 then none
  else some (tr_row M a1 (va_cpy (M.1 a0) (M.1 a1) sp.toNatClampNeg dp.toNatClampNeg n.toNatClampNeg))
def tr_it {σ ρ : Type} (step : σ → Option (σ ⊕ ρ)) : Nat → σ → Option ρ
  | 0, _ => none
  | n + 1, s => match step s with
    | none => none
    | some (.inr r) => some r
    | some (.inl s') => tr_it step n s'
def tr_fuel : Nat := 4294967296
def tr_loop {σ ρ : Type} (step : σ → Option (σ ⊕ ρ)) (s : σ) : Option ρ := tr_it step tr_fuel s
-- the cells as the machine's world has them
def tr_f (B : Nat) (M : tr_M) (a k : Nat) : Nat → Value
  | 0 => .int (M.1 a k)
  | 1 => .long (M.2 a k)
  | 2 => tr_v B (.ref (M.1 a k).toNatClampNeg)
  | 3 => .int (M.1 a k)
  | c + 4 => .ref (B + c)
def tr_fs (B : Nat) (M : tr_M) (a : Nat) : Nat → List Nat → List Value
  | _, [] => []
  | j, k :: ks => tr_f B M a j k :: tr_fs B M a (j + 1) ks
def tr_c (B : Nat) (D : Nat → ClassId) (sh : Nat → tr_S) (M : tr_M) (a : Nat) : va_E := match sh a with
  | .inl (t, n) => .inl (D t, n, .inl (M.1 a))
  | .inr (.inl (t, n, f)) => .inl (D t, n, .inr (.inr (.inr (.inr (fun i => some (B + f i))))))
  | .inr (.inr (ci, ks)) => .inr (ci, tr_fs B M a 0 ks)
def tr_ws (B : Nat) (D : Nat → ClassId) (sh : Nat → tr_S) (N : Nat) (M : tr_M) : va_W := (List.range N).map fun k => (B + (k + 1), tr_c B D sh M (k + 1))
def tr_A (B N : Nat) : Nat → Prop := fun q => B < q ∧ q ≤ B + N
abbrev tr_tys (D : Nat → ClassId) : List (ClassId × FieldType) := [(D 0, .int), (D 1, .byte), (D 2, .boolean), (D 3, .object RX1), (D 4, .array .int)]
theorem tr_ws_at {B : Nat} {D : Nat → ClassId} {sh : Nat → tr_S} {N : Nat} {M : tr_M} {a : Nat} (h1 : 0 < a) (h2 : a ≤ N) : (tr_ws B D sh N M)[a - 1]? = some (B + a, tr_c B D sh M a) := by
  have e : a - 1 + 1 = a := by omega
  unfold tr_ws
  rw [List.getElem?_map, List.getElem?_range (by omega)]
  simp only [Option.map_some, e]
theorem tr_ws_of {B : Nat} {D : Nat → ClassId} {sh : Nat → tr_S} {N : Nat} {M : tr_M} {k : Nat} {q : Nat × va_E} (h : (tr_ws B D sh N M)[k]? = some q) : k < N ∧ q = (B + (k + 1), tr_c B D sh M (k + 1)) := by
  unfold tr_ws at h
  rw [List.getElem?_map] at h
  by_cases hk : k < N
  · rw [List.getElem?_range hk] at h
    exact ⟨hk, (Option.some.inj h).symm⟩
  · rw [List.getElem?_eq_none (by rw [List.length_range]; omega)] at h
    cases h
theorem tr_D {B : Nat} {D : Nat → ClassId} {sh : Nat → tr_S} {N : Nat} {M : tr_M} : va_D (tr_A B N) (tr_ws B D sh N M) := by
  refine ⟨fun i j p q hi hj h => ?_, fun k q hk => ?_⟩
  · obtain ⟨-, rfl⟩ := tr_ws_of hi
    obtain ⟨-, rfl⟩ := tr_ws_of hj
    have : B + (i + 1) = B + (j + 1) := h
    omega
  · obtain ⟨h1, rfl⟩ := tr_ws_of hk
    exact ⟨show B < B + (k + 1) by omega, show B + (k + 1) ≤ B + N by omega⟩
/-- one cell changes -/
theorem tr_ws_set {B : Nat} {D : Nat → ClassId} {sh : Nat → tr_S} {N : Nat} {M M1 : tr_M} {a : Nat} {x : va_E} (h1 : 0 < a) (hx : tr_c B D sh M1 a = x) (hm : ∀ b, b ≠ a → tr_c B D sh M1 b = tr_c B D sh M b) :
    (tr_ws B D sh N M).set (a - 1) (B + a, x) = tr_ws B D sh N M1 := by
  apply List.ext_getElem?
  intro k
  unfold tr_ws
  rw [List.getElem?_set]
  by_cases e : a - 1 = k
  · rw [if_pos e, List.length_map, List.length_range]
    have e2 : a = k + 1 := by omega
    subst e2
    by_cases hk : k < N
    · rw [if_pos (by omega), List.getElem?_map, List.getElem?_range hk]
      simp only [Option.map_some, hx]
    · rw [if_neg (by omega), List.getElem?_eq_none (by rw [List.length_map, List.length_range]; omega)]
  · rw [if_neg e, List.getElem?_map, List.getElem?_map]
    by_cases hk : k < N
    · rw [List.getElem?_range hk]
      simp only [Option.map_some]
      rw [hm (k + 1) (by omega)]
    · rw [List.getElem?_eq_none (by rw [List.length_range]; omega)]
      rfl
theorem tr_fs_at {B : Nat} {M : tr_M} {a : Nat} : ∀ (ks : List Nat) (j k c : Nat), ks[k]? = some c → (tr_fs B M a j ks)[k]? = some (tr_f B M a (j + k) c)
  | [], _, _, _, h => by simp at h
  | x :: ks, j, 0, c, h => by
    have : x = c := by simpa using h
    subst this
    rfl
  | x :: ks, j, k + 1, c, h => by
    have h1 : ks[k]? = some c := by simpa using h
    have h2 := tr_fs_at (B := B) (M := M) (a := a) ks (j + 1) k c h1
    have e : j + 1 + k = j + (k + 1) := by omega
    rw [e] at h2
    simpa [tr_fs] using h2
theorem tr_fs_len {B : Nat} {M : tr_M} {a : Nat} : ∀ (ks : List Nat) (j : Nat), (tr_fs B M a j ks).length = ks.length
  | [], _ => rfl
  | _ :: ks, j => by simp [tr_fs, tr_fs_len ks (j + 1)]
theorem tr_fs_eq {B : Nat} {M M1 : tr_M} {a : Nat} : ∀ (ks : List Nat) (j : Nat), (∀ (k c : Nat), ks[k]? = some c → tr_f B M1 a (j + k) c = tr_f B M a (j + k) c) → tr_fs B M1 a j ks = tr_fs B M a j ks
  | [], _, _ => rfl
  | x :: ks, j, h => by
    have h0 := h 0 x rfl
    have h1 := tr_fs_eq (B := B) (M := M) (M1 := M1) (a := a) ks (j + 1) (fun k c hk => by
      have := h (k + 1) c (by simpa using hk)
      have e : j + 1 + k = j + (k + 1) := by omega
      rw [e]; exact this)
    simp only [tr_fs]
    rw [show tr_f B M1 a j x = tr_f B M a j x from h0, h1]
theorem tr_fs_set {B : Nat} {M M1 : tr_M} {a : Nat} {v : Value} : ∀ (ks : List Nat) (j k0 c0 : Nat), ks[k0]? = some c0 → tr_f B M1 a (j + k0) c0 = v → (∀ (k c : Nat), k ≠ k0 → ks[k]? = some c → tr_f B M1 a (j + k) c = tr_f B M a (j + k) c) → (tr_fs B M a j ks).set k0 v = tr_fs B M1 a j ks
  | [], _, _, _, h, _, _ => by simp at h
  | x :: ks, j, 0, c0, h, hv, ho => by
    have e : x = c0 := by simpa using h
    subst e
    have h1 := tr_fs_eq (B := B) (M := M) (M1 := M1) (a := a) ks (j + 1) (fun k c hk => by
      have := ho (k + 1) c (by omega) (by simpa using hk)
      have e : j + 1 + k = j + (k + 1) := by omega
      rw [e]; exact this)
    have hv' : tr_f B M1 a j x = v := hv
    simp only [tr_fs, List.set_cons_zero, hv', h1]
  | x :: ks, j, k0 + 1, c0, h, hv, ho => by
    have h0 : tr_f B M1 a j x = tr_f B M a j x := ho 0 x (by omega) rfl
    have e0 : j + 1 + k0 = j + (k0 + 1) := by omega
    have h1 := tr_fs_set (B := B) (M := M) (M1 := M1) (a := a) (v := v) ks (j + 1) k0 c0 (by simpa using h) (by rw [e0]; exact hv) (fun k c hk hc => by
      have := ho (k + 1) c (by omega) (by simpa using hc)
      have e : j + 1 + k = j + (k + 1) := by omega
      rw [e]; exact this)
    simp only [tr_fs, List.set_cons_succ, h0, h1]
-- the locals
def tr_gl : tr_L → Nat → Option Value
  | [], _ => none
  | (i, v) :: t, k => match Nat.beq i k with
    | true => v
    | false => tr_gl t k
def tr_sub (lv : tr_L) : tr_L → Prop
  | [] => True
  | (_, none) :: t => tr_sub lv t
  | (i, some v) :: t => tr_gl lv i = some v ∧ tr_sub lv t
theorem tr_sub_gl {lv : tr_L} : ∀ {lv' : tr_L}, tr_sub lv lv' → ∀ {i : Nat} {v : Value}, tr_gl lv' i = some v → tr_gl lv i = some v
  | [], _, _, _, h => by cases h
  | (j, none) :: t, hs, i, v, h => by
    unfold tr_gl at h
    cases e : Nat.beq j i with
    | true => rw [e] at h; cases h
    | false => rw [e] at h; exact tr_sub_gl (lv' := t) hs h
  | (j, some w) :: t, hs, i, v, h => by
    unfold tr_gl at h
    cases e : Nat.beq j i with
    | true =>
      rw [e] at h
      have : j = i := Nat.eq_of_beq_eq_true e
      subst this
      rw [← h]
      exact hs.1
    | false => rw [e] at h; exact tr_sub_gl (lv' := t) hs.2 h
def tr_has (ls : Array Slot) (nL B : Nat) (lv : tr_L) : Prop := ls.size = nL ∧ lv_wf ls ∧ ∀ (i : Nat) (v : Value), tr_gl lv i = some v → ls[i]? = some (.val (tr_v B v))
def tr_list (nL B : Nat) (lv : tr_L) : List (Nat × Value) := (List.range nL).filterMap fun j => (tr_gl lv j).map fun w => (j, tr_v B w)
theorem tr_list_mem {nL B : Nat} {lv : tr_L} {q : Nat × Value} : q ∈ tr_list nL B lv ↔ ∃ w, q.1 < nL ∧ tr_gl lv q.1 = some w ∧ q.2 = tr_v B w := by
  unfold tr_list
  rw [List.mem_filterMap]
  constructor
  · rintro ⟨j, hj, h⟩
    cases e : tr_gl lv j with
    | none => rw [e] at h; cases h
    | some w =>
      rw [e] at h
      have : q = (j, tr_v B w) := (Option.some.inj h).symm
      subst this
      exact ⟨w, List.mem_range.mp hj, e, rfl⟩
  · rintro ⟨w, h1, h2, h3⟩
    refine ⟨q.1, List.mem_range.mpr h1, ?_⟩
    rw [h2]
    show some (q.1, tr_v B w) = some q
    rw [← h3]
theorem tr_has.list {ls : Array Slot} {nL B : Nat} {lv : tr_L} (h : tr_has ls nL B lv) : lv_has ls nL (tr_list nL B lv) := by
  refine ⟨h.1, h.2.1, fun q hq => ?_⟩
  obtain ⟨w, -, h2, h3⟩ := tr_list_mem.mp hq
  rw [h3]
  exact h.2.2 q.1 w h2
theorem tr_has.lt {ls : Array Slot} {nL B : Nat} {lv : tr_L} (h : tr_has ls nL B lv) {i : Nat} {v : Value} (hi : tr_gl lv i = some v) : i < nL := by
  have := lv_lt (h.2.2 i v hi)
  rw [h.1] at this
  exact this
theorem tr_has.sub {ls : Array Slot} {nL B : Nat} {lv lv' : tr_L} (h : tr_has ls nL B lv) (hs : tr_sub lv lv') : tr_has ls nL B lv' := ⟨h.1, h.2.1, fun i v hi => h.2.2 i v (tr_sub_gl hs hi)⟩
theorem tr_cat (B : Nat) (v : Value) : (tr_v B v).category = v.category := by
  cases v with
  | ref a => cases a <;> rfl
  | _ => rfl
/-- a store must not cut a long in two -/
def tr_ok1 (lv : tr_L) : Nat → Bool
  | 0 => true
  | j + 1 => match tr_gl lv j with
    | some v => v.category != 2
    | none => true
theorem tr_ok1_ne {lv : tr_L} {i j : Nat} {w : Value} (h : tr_ok1 lv i = true) (e : j + 1 = i) (hw : tr_gl lv j = some w) : w.category ≠ 2 := by
  subst e
  simp only [tr_ok1, hw] at h
  simpa using h
theorem tr_has.st1 {ls ls' : Array Slot} {nL B i : Nat} {lv : tr_L} {v : Value} (h0 : tr_has ls nL B lv) (hk : tr_ok1 lv i = true) (h : lv_has ls' nL ((i, tr_v B v) :: (tr_list nL B lv).filter (fun q => !(q.1 == i) && !(q.1 + 1 == i && q.2.category == 2)))) : tr_has ls' nL B ((i, some v) :: lv) := by
  refine ⟨h.1, h.2.1, fun j w hj => ?_⟩
  unfold tr_gl at hj
  cases e : Nat.beq i j with
  | true =>
    rw [e] at hj
    have : i = j := Nat.eq_of_beq_eq_true e
    subst this
    have : v = w := Option.some.inj hj
    subst this
    exact h.2.2 (i, tr_v B v) List.mem_cons_self
  | false =>
    rw [e] at hj
    have hne : i ≠ j := Nat.ne_of_beq_eq_false e
    refine h.2.2 (j, tr_v B w) (List.mem_cons_of_mem _ (List.mem_filter.mpr ⟨tr_list_mem.mpr ⟨w, h0.lt hj, hj, rfl⟩, ?_⟩))
    by_cases e2 : j + 1 = i
    · have := tr_ok1_ne hk e2 hj
      simp [tr_cat, this, hne.symm]
    · simp [e2, hne.symm]
theorem tr_has.st2 {ls ls' : Array Slot} {nL B i : Nat} {lv : tr_L} {v : Value} (h0 : tr_has ls nL B lv) (hk : tr_ok1 lv i = true) (h : lv_has ls' nL ((i, tr_v B v) :: (tr_list nL B lv).filter (fun q => !(q.1 == i) && (!(q.1 == i + 1) && !(q.1 + 1 == i && q.2.category == 2))))) : tr_has ls' nL B ((i, some v) :: (i + 1, none) :: lv) := by
  refine ⟨h.1, h.2.1, fun j w hj => ?_⟩
  unfold tr_gl at hj
  cases e : Nat.beq i j with
  | true =>
    rw [e] at hj
    have : i = j := Nat.eq_of_beq_eq_true e
    subst this
    have : v = w := Option.some.inj hj
    subst this
    exact h.2.2 (i, tr_v B v) List.mem_cons_self
  | false =>
    rw [e] at hj
    have hne : i ≠ j := Nat.ne_of_beq_eq_false e
    simp only [tr_gl] at hj
    cases e3 : Nat.beq (i + 1) j with
    | true => rw [e3] at hj; cases hj
    | false =>
      rw [e3] at hj
      have hne2 : i + 1 ≠ j := Nat.ne_of_beq_eq_false e3
      refine h.2.2 (j, tr_v B w) (List.mem_cons_of_mem _ (List.mem_filter.mpr ⟨tr_list_mem.mpr ⟨w, h0.lt hj, hj, rfl⟩, ?_⟩))
      by_cases e2 : j + 1 = i
      · have := tr_ok1_ne hk e2 hj
        simp [tr_cat, this, hne.symm, hne2.symm]
      · simp [e2, hne.symm, hne2.symm]
def tr_args : Nat → List Value → tr_L
  | _, [] => []
  | i, v :: vs => (i, some v) :: tr_args (if v.category = 2 then i + 2 else i + 1) vs
theorem tr_args_gl (B : Nat) : ∀ (vs : List Value) (i j : Nat) (w : Value), tr_gl (tr_args i vs) j = some w → (j, tr_v B w) ∈ lv_args i (vs.map (tr_v B))
  | [], _, _, _, h => by cases h
  | v :: vs, i, j, w, h => by
    simp only [tr_args, tr_gl] at h
    simp only [List.map_cons, lv_args, tr_cat]
    cases e : Nat.beq i j with
    | true =>
      rw [e] at h
      have : i = j := Nat.eq_of_beq_eq_true e
      subst this
      have : v = w := Option.some.inj h
      subst this
      exact List.mem_cons_self
    | false =>
      rw [e] at h
      exact List.mem_cons_of_mem _ (tr_args_gl B vs _ j w h)


/-! ===== the judgement ===== -/
def tr_Q (dC : Nat → ClassId) (dI : Nat → Nat → Nat) (B : Nat) (D : Nat → ClassId) (sh : Nat → tr_S) (N : Nat) (rv : Option Value) (M : tr_M) : Array Value → State → Outcome → State → Prop := fun _ st oc t => oc = .returned (rv.map (tr_v B)) ∧ va_P (dC, dI) vwCl (tr_ws B D sh N M) t.heap ∧ va_F (tr_A B N) st t
abbrev tr_R (lev : Nat) : Room := { frames := 10 * lev, cells := 0, slots := 0, locals := 200 * lev }
def tr_W (X : tr_X) (rv : Option Value) (M' : tr_M) (p : Program) (l : Launch) (e : Env) (s : State) (m : MethodId) (args : Array Value) (below : List Frame) (meth : Method) (c : Code) (dC : Nat → ClassId) (dI : Nat → Nat → Nat) (B : Nat) (D : Nat → ClassId) : Nat → tr_L → List Value → tr_M → Prop := fun pc lv st M =>
  ∀ (ls : Array Slot) (H : Heap) (locs : List Loc), tr_has ls X.2.1 B lv → va_P (dC, dI) vwCl (tr_ws B D X.2.2.2.2.2.1 X.2.2.2.2.2.2 M) H → va_S (tr_A B X.2.2.2.2.2.2) s.heap H locs →
    W p l e (tr_R X.2.2.2.2.1) s m args below meth c H locs 0 0 (MQ below (tr_Q dC dI B D X.2.2.2.2.2.1 X.2.2.2.2.2.2 rv M') args s 0 0 (tr_A B X.2.2.2.2.2.2)) (F0 m pc ls (st.map (tr_v B)))
/-- a shape that is one: outside 1 .. N nothing; object classes are of the list, with all their fields -/
def tr_good (sh : Nat → tr_S) (N : Nat) : Prop := (∀ a, a = 0 ∨ N < a → sh a = .inl (0, 0)) ∧ N < 1000
def tr_Ok (X : tr_X) (E : tr_E) : Prop := ∃ (p : Program) (l : Launch) (e : Env) (s : State) (m : MethodId) (args : Array Value) (below : List Frame) (meth : Method) (c : Code) (dC : Nat → ClassId) (dI : Nat → Nat → Nat) (B : Nat) (D : Nat → ClassId),
  p.tables.exec = Jvm.exec ∧ c.code = X.1 ∧ c.maxLocals = X.2.1 ∧ s.vm.findClass X.2.2.1 = some m.cls ∧ (∀ w ∈ tr_tbl, w.before args s = true) ∧ meth.sig.returnType = X.2.2.2.1 ∧ meth.locks = false ∧ va_K (dC, dI) vwCl (tr_tys D) s ∧ (∀ x ∈ tr_abs, va_Nw (.declares x) s) ∧ tr_good X.2.2.2.2.2.1 X.2.2.2.2.2.2 ∧ E.2.2 = tr_W X E.1 E.2.1 p l e s m args below meth c dC dI B D
def tr_V {ρ : Type} (X : tr_X) (E : tr_E) (pc : Nat) (lv : tr_L) (st : List Value) (M : tr_M) (φ : Option ρ) (Z : ρ → Prop) : Prop := tr_Ok X E → ∀ r : ρ, φ = some r → Z r → E.2.2 pc lv st M
def tr_zl {σ ρ : Type} (E : tr_E) (pc : Nat) (L : σ → tr_L) (Mf : σ → tr_M) (Z : ρ → Prop) : σ ⊕ ρ → Prop
  | .inl s => E.2.2 pc (L s) [] (Mf s)
  | .inr r => Z r
def tr_el {τ ρ : Type} (k : τ → Option ρ) : τ ⊕ ρ → Option ρ
  | .inl v => k v
  | .inr r => some r
def tr_ze {τ ρ : Type} (E : tr_E) (pc : Nat) (L : τ → tr_L) (S : τ → List Value) (Mf : τ → tr_M) (Z : ρ → Prop) : τ ⊕ ρ → Prop
  | .inl v => E.2.2 pc (L v) (S v) (Mf v)
  | .inr r => Z r
theorem tr_good.in {sh : Nat → tr_S} {N : Nat} (h : tr_good sh N) {a : Nat} (hs : sh a ≠ .inl (0, 0)) : 0 < a ∧ a ≤ N := by
  refine ⟨Nat.pos_of_ne_zero fun e => hs (h.1 a (Or.inl e)), Nat.le_of_not_lt fun e => hs (h.1 a (Or.inr e))⟩
theorem tr_ix_in {i : Int32} {n : Nat} (h : tr_ix i n = true) : vp_in i n := by
  simp only [tr_ix, Bool.and_eq_true, Bool.not_eq_true', decide_eq_false_iff_not, decide_eq_true_eq] at h
  exact fun q => q.elim h.1 (fun q => absurd h.2 (Nat.not_lt.mpr q))
theorem tr_ix_pos {i : Int32} {n : Nat} (h : tr_ix i n = true) : n ≠ 0 := by
  simp only [tr_ix, Bool.and_eq_true, decide_eq_true_eq] at h
  omega
theorem tr_v_ref {B a : Nat} (h : 0 < a) : tr_v B (.ref a) = .ref (B + a) := by
  cases a with
  | zero => omega
  | succ a => rfl
section TRV
variable {ρ : Type} {X : tr_X} {E : tr_E} {pc : Nat} {lv : tr_L} {st : List Value} {M : tr_M} {φ φ1 φ2 : Option ρ} {Z : ρ → Prop}

theorem tr_V.iconst {n : Int} {v : Int32} (hd : decode X.1 pc = .ok (.iconst n, 1)) (hv : Int32.ofInt n = v) (h : tr_V X E (pc + 1) lv (.int v :: st) M φ Z) : tr_V X E pc lv (st) M φ Z := by
  intro ok r hr hz
  have k := h ok r hr hz
  obtain ⟨p, l, e, s, m, args, below, meth, c, dC, dI, B, D, hx, hb, hml, hown, hts, hret, hlk, hK, hAb, hG, hW⟩ := ok
  rw [hW] at k ⊢
  intro ls H locs hl hP hS
  exact lv_iconst hx hb hd hv (k ls H locs hl hP hS)
theorem tr_V.bipush {n : Int} {v : Int32} (hd : decode X.1 pc = .ok (.bipush n, 2)) (hv : (Int8.ofInt n).toInt32 = v) (h : tr_V X E (pc + 2) lv (.int v :: st) M φ Z) : tr_V X E pc lv (st) M φ Z := by
  intro ok r hr hz
  have k := h ok r hr hz
  obtain ⟨p, l, e, s, m, args, below, meth, c, dC, dI, B, D, hx, hb, hml, hown, hts, hret, hlk, hK, hAb, hG, hW⟩ := ok
  rw [hW] at k ⊢
  intro ls H locs hl hP hS
  exact lv_bipush hx hb hd hv (k ls H locs hl hP hS)
theorem tr_V.sipush {n : Int} {v : Int32} (hd : decode X.1 pc = .ok (.sipush n, 3)) (hv : (Int16.ofInt n).toInt32 = v) (h : tr_V X E (pc + 3) lv (.int v :: st) M φ Z) : tr_V X E pc lv (st) M φ Z := by
  intro ok r hr hz
  have k := h ok r hr hz
  obtain ⟨p, l, e, s, m, args, below, meth, c, dC, dI, B, D, hx, hb, hml, hown, hts, hret, hlk, hK, hAb, hG, hW⟩ := ok
  rw [hW] at k ⊢
  intro ls H locs hl hP hS
  exact lv_sipush hx hb hd hv (k ls H locs hl hP hS)
theorem tr_V.lconst {n : Fin 2} {v : Int64} (hd : decode X.1 pc = .ok (.lconst n, 1)) (hv : Int64.ofNat (n : Nat) = v) (h : tr_V X E (pc + 1) lv (.long v :: st) M φ Z) : tr_V X E pc lv (st) M φ Z := by
  intro ok r hr hz
  have k := h ok r hr hz
  obtain ⟨p, l, e, s, m, args, below, meth, c, dC, dI, B, D, hx, hb, hml, hown, hts, hret, hlk, hK, hAb, hG, hW⟩ := ok
  rw [hW] at k ⊢
  intro ls H locs hl hP hS
  exact lv_lconst hx hb hd hv (k ls H locs hl hP hS)
theorem tr_V.null  (hd : decode X.1 pc = .ok (.aconst_null, 1)) (h : tr_V X E (pc + 1) lv (.ref 0 :: st) M φ Z) : tr_V X E pc lv (st) M φ Z := by
  intro ok r hr hz
  have k := h ok r hr hz
  obtain ⟨p, l, e, s, m, args, below, meth, c, dC, dI, B, D, hx, hb, hml, hown, hts, hret, hlk, hK, hAb, hG, hW⟩ := ok
  rw [hW] at k ⊢
  intro ls H locs hl hP hS
  exact lv_null hx hb hd (k ls H locs hl hP hS)
theorem tr_V.ldc {index : Nat} {v : Int32} (hw : Cond.constant X.2.2.1 index v ∈ tr_tbl) (hd : decode X.1 pc = .ok (.ldc index, 2)) (h : tr_V X E (pc + 2) lv (.int v :: st) M φ Z) : tr_V X E pc lv st M φ Z := by
  intro ok r hr hz
  have k := h ok r hr hz
  obtain ⟨p, l, e, s, m, args, below, meth, c, dC, dI, B, D, hx, hb, hml, hown, hts, hret, hlk, hK, hAb, hG, hW⟩ := ok
  rw [hW] at k ⊢
  intro ls H locs hl hP hS
  exact lv_ldc hx hb hown (hts _ hw) hd (k ls H locs hl hP hS)
theorem tr_V.ldcw {index : Nat} {v : Int32} (hw : Cond.constant X.2.2.1 index v ∈ tr_tbl) (hd : decode X.1 pc = .ok (.ldc_w index, 3)) (h : tr_V X E (pc + 3) lv (.int v :: st) M φ Z) : tr_V X E pc lv st M φ Z := by
  intro ok r hr hz
  have k := h ok r hr hz
  obtain ⟨p, l, e, s, m, args, below, meth, c, dC, dI, B, D, hx, hb, hml, hown, hts, hret, hlk, hK, hAb, hG, hW⟩ := ok
  rw [hW] at k ⊢
  intro ls H locs hl hP hS
  exact lv_ldcw hx hb hown (hts _ hw) hd (k ls H locs hl hP hS)
theorem tr_V.ldc2 {index : Nat} {v : Int64} (hw : Cond.constantLong X.2.2.1 index v ∈ tr_tbl) (hd : decode X.1 pc = .ok (.ldc2_w index, 3)) (h : tr_V X E (pc + 3) lv (.long v :: st) M φ Z) : tr_V X E pc lv st M φ Z := by
  intro ok r hr hz
  have k := h ok r hr hz
  obtain ⟨p, l, e, s, m, args, below, meth, c, dC, dI, B, D, hx, hb, hml, hown, hts, hret, hlk, hK, hAb, hG, hW⟩ := ok
  rw [hW] at k ⊢
  intro ls H locs hl hP hS
  exact lv_ldc2 hx hb hown (hts _ hw) hd (k ls H locs hl hP hS)
theorem tr_V.iload {i : Nat} {x : Int32} (hd : decode X.1 pc = .ok (.iload i, 2)) (hi : tr_gl lv i = some (.int x)) (h : tr_V X E (pc + 2) lv (.int x :: st) M φ Z) : tr_V X E pc lv (st) M φ Z := by
  intro ok r hr hz
  have k := h ok r hr hz
  obtain ⟨p, l, e, s, m, args, below, meth, c, dC, dI, B, D, hx, hb, hml, hown, hts, hret, hlk, hK, hAb, hG, hW⟩ := ok
  rw [hW] at k ⊢
  intro ls H locs hl hP hS
  exact lv_iload hx hb hd (hl.2.2 i _ hi) (k ls H locs hl hP hS)
theorem tr_V.iload_n {q : Fin 4} {i : Nat} {x : Int32} (hd : decode X.1 pc = .ok (.iload_n q, 1)) (hq : (q : Nat) = i) (hi : tr_gl lv i = some (.int x)) (h : tr_V X E (pc + 1) lv (.int x :: st) M φ Z) : tr_V X E pc lv (st) M φ Z := by
  intro ok r hr hz
  have k := h ok r hr hz
  obtain ⟨p, l, e, s, m, args, below, meth, c, dC, dI, B, D, hx, hb, hml, hown, hts, hret, hlk, hK, hAb, hG, hW⟩ := ok
  rw [hW] at k ⊢
  intro ls H locs hl hP hS
  exact lv_iload_n hx hb hd hq (hl.2.2 i _ hi) (k ls H locs hl hP hS)
theorem tr_V.lload {i : Nat} {x : Int64} (hd : decode X.1 pc = .ok (.lload i, 2)) (hi : tr_gl lv i = some (.long x)) (h : tr_V X E (pc + 2) lv (.long x :: st) M φ Z) : tr_V X E pc lv (st) M φ Z := by
  intro ok r hr hz
  have k := h ok r hr hz
  obtain ⟨p, l, e, s, m, args, below, meth, c, dC, dI, B, D, hx, hb, hml, hown, hts, hret, hlk, hK, hAb, hG, hW⟩ := ok
  rw [hW] at k ⊢
  intro ls H locs hl hP hS
  exact lv_lload hx hb hd (hl.2.2 i _ hi) (k ls H locs hl hP hS)
theorem tr_V.lload_n {q : Fin 4} {i : Nat} {x : Int64} (hd : decode X.1 pc = .ok (.lload_n q, 1)) (hq : (q : Nat) = i) (hi : tr_gl lv i = some (.long x)) (h : tr_V X E (pc + 1) lv (.long x :: st) M φ Z) : tr_V X E pc lv (st) M φ Z := by
  intro ok r hr hz
  have k := h ok r hr hz
  obtain ⟨p, l, e, s, m, args, below, meth, c, dC, dI, B, D, hx, hb, hml, hown, hts, hret, hlk, hK, hAb, hG, hW⟩ := ok
  rw [hW] at k ⊢
  intro ls H locs hl hP hS
  exact lv_lload_n hx hb hd hq (hl.2.2 i _ hi) (k ls H locs hl hP hS)
theorem tr_V.aload {i : Nat} {a : Nat} (hd : decode X.1 pc = .ok (.aload i, 2)) (hi : tr_gl lv i = some (.ref a)) (h : tr_V X E (pc + 2) lv (.ref a :: st) M φ Z) : tr_V X E pc lv st M φ Z := by
  intro ok r hr hz
  have k := h ok r hr hz
  obtain ⟨p, l, e, s, m, args, below, meth, c, dC, dI, B, D, hx, hb, hml, hown, hts, hret, hlk, hK, hAb, hG, hW⟩ := ok
  rw [hW] at k ⊢
  intro ls H locs hl hP hS
  have hj := hl.2.2 i _ hi
  cases a with
  | zero => exact lv_aloadN hx hb hd hj (k ls H locs hl hP hS)
  | succ a => exact lv_aload hx hb hd hj (k ls H locs hl hP hS)
theorem tr_V.aload_n {q : Fin 4} {i : Nat} {a : Nat} (hd : decode X.1 pc = .ok (.aload_n q, 1)) (hq : (q : Nat) = i) (hi : tr_gl lv i = some (.ref a)) (h : tr_V X E (pc + 1) lv (.ref a :: st) M φ Z) : tr_V X E pc lv st M φ Z := by
  intro ok r hr hz
  have k := h ok r hr hz
  obtain ⟨p, l, e, s, m, args, below, meth, c, dC, dI, B, D, hx, hb, hml, hown, hts, hret, hlk, hK, hAb, hG, hW⟩ := ok
  rw [hW] at k ⊢
  intro ls H locs hl hP hS
  have hj := hl.2.2 i _ hi
  cases a with
  | zero => exact lv_aload_nN hx hb hd hq hj (k ls H locs hl hP hS)
  | succ a => exact lv_aload_n hx hb hd hq hj (k ls H locs hl hP hS)
theorem tr_V.istore {i : Nat} {x : Int32} (hd : decode X.1 pc = .ok (.istore i, 2)) (hn : i < X.2.1) (hk : tr_ok1 lv i = true) (h : tr_V X E (pc + 2) ((i, some (.int x)) :: lv) st M φ Z) : tr_V X E pc lv (.int x :: st) M φ Z := by
  intro ok r hr hz
  have k := h ok r hr hz
  obtain ⟨p, l, e, s, m, args, below, meth, c, dC, dI, B, D, hx, hb, hml, hown, hts, hret, hlk, hK, hAb, hG, hW⟩ := ok
  rw [hW] at k ⊢
  intro ls H locs hl hP hS
  exact lv_istore hx hb hd hl.list hn rfl (fun ls' hl' => k ls' H locs (hl.st1 hk hl') hP hS)
theorem tr_V.istore_n {q : Fin 4} {i : Nat} {x : Int32} (hd : decode X.1 pc = .ok (.istore_n q, 1)) (hq : (q : Nat) = i) (hn : i < X.2.1) (hk : tr_ok1 lv i = true) (h : tr_V X E (pc + 1) ((i, some (.int x)) :: lv) st M φ Z) : tr_V X E pc lv (.int x :: st) M φ Z := by
  intro ok r hr hz
  have k := h ok r hr hz
  obtain ⟨p, l, e, s, m, args, below, meth, c, dC, dI, B, D, hx, hb, hml, hown, hts, hret, hlk, hK, hAb, hG, hW⟩ := ok
  rw [hW] at k ⊢
  intro ls H locs hl hP hS
  exact lv_istore_n hx hb hd hq hl.list hn rfl (fun ls' hl' => k ls' H locs (hl.st1 hk hl') hP hS)
theorem tr_V.lstore {i : Nat} {x : Int64} (hd : decode X.1 pc = .ok (.lstore i, 2)) (hn : i + 1 < X.2.1) (hk : tr_ok1 lv i = true) (h : tr_V X E (pc + 2) ((i, some (.long x)) :: (i + 1, none) :: lv) st M φ Z) : tr_V X E pc lv (.long x :: st) M φ Z := by
  intro ok r hr hz
  have k := h ok r hr hz
  obtain ⟨p, l, e, s, m, args, below, meth, c, dC, dI, B, D, hx, hb, hml, hown, hts, hret, hlk, hK, hAb, hG, hW⟩ := ok
  rw [hW] at k ⊢
  intro ls H locs hl hP hS
  exact lv_lstore hx hb hd hl.list hn rfl (fun ls' hl' => k ls' H locs (hl.st2 hk hl') hP hS)
theorem tr_V.lstore_n {q : Fin 4} {i : Nat} {x : Int64} (hd : decode X.1 pc = .ok (.lstore_n q, 1)) (hq : (q : Nat) = i) (hn : i + 1 < X.2.1) (hk : tr_ok1 lv i = true) (h : tr_V X E (pc + 1) ((i, some (.long x)) :: (i + 1, none) :: lv) st M φ Z) : tr_V X E pc lv (.long x :: st) M φ Z := by
  intro ok r hr hz
  have k := h ok r hr hz
  obtain ⟨p, l, e, s, m, args, below, meth, c, dC, dI, B, D, hx, hb, hml, hown, hts, hret, hlk, hK, hAb, hG, hW⟩ := ok
  rw [hW] at k ⊢
  intro ls H locs hl hP hS
  exact lv_lstore_n hx hb hd hq hl.list hn rfl (fun ls' hl' => k ls' H locs (hl.st2 hk hl') hP hS)
theorem tr_V.astore {i : Nat} {a : Nat} (hd : decode X.1 pc = .ok (.astore i, 2)) (hn : i < X.2.1) (hk : tr_ok1 lv i = true) (h : tr_V X E (pc + 2) ((i, some (.ref a)) :: lv) st M φ Z) : tr_V X E pc lv (.ref a :: st) M φ Z := by
  intro ok r hr hz
  have k := h ok r hr hz
  obtain ⟨p, l, e, s, m, args, below, meth, c, dC, dI, B, D, hx, hb, hml, hown, hts, hret, hlk, hK, hAb, hG, hW⟩ := ok
  rw [hW] at k ⊢
  intro ls H locs hl hP hS
  cases a with
  | zero => exact lv_astoreN hx hb hd hl.list hn rfl (fun ls' hl' => k ls' H locs (hl.st1 (v := .ref 0) hk hl') hP hS)
  | succ a => exact lv_astore hx hb hd hl.list hn rfl (fun ls' hl' => k ls' H locs (hl.st1 (v := .ref (a + 1)) hk hl') hP hS)
theorem tr_V.astore_n {q : Fin 4} {i : Nat} {a : Nat} (hd : decode X.1 pc = .ok (.astore_n q, 1)) (hq : (q : Nat) = i) (hn : i < X.2.1) (hk : tr_ok1 lv i = true) (h : tr_V X E (pc + 1) ((i, some (.ref a)) :: lv) st M φ Z) : tr_V X E pc lv (.ref a :: st) M φ Z := by
  intro ok r hr hz
  have k := h ok r hr hz
  obtain ⟨p, l, e, s, m, args, below, meth, c, dC, dI, B, D, hx, hb, hml, hown, hts, hret, hlk, hK, hAb, hG, hW⟩ := ok
  rw [hW] at k ⊢
  intro ls H locs hl hP hS
  cases a with
  | zero => exact lv_astore_nN hx hb hd hq hl.list hn rfl (fun ls' hl' => k ls' H locs (hl.st1 (v := .ref 0) hk hl') hP hS)
  | succ a => exact lv_astore_n hx hb hd hq hl.list hn rfl (fun ls' hl' => k ls' H locs (hl.st1 (v := .ref (a + 1)) hk hl') hP hS)
theorem tr_V.iinc {i : Nat} {n : Int} {x cst : Int32} (hd : decode X.1 pc = .ok (.iinc i n, 3)) (hi : tr_gl lv i = some (.int x)) (hv : Int32.ofInt n = cst) (hk : tr_ok1 lv i = true) (h : tr_V X E (pc + 3) ((i, some (.int (x + cst))) :: lv) st M φ Z) : tr_V X E pc lv st M φ Z := by
  intro ok r hr hz
  have k := h ok r hr hz
  obtain ⟨p, l, e, s, m, args, below, meth, c, dC, dI, B, D, hx, hb, hml, hown, hts, hret, hlk, hK, hAb, hG, hW⟩ := ok
  rw [hW] at k ⊢
  intro ls H locs hl hP hS
  have hm : (i, Value.int x) ∈ tr_list X.2.1 B lv := tr_list_mem.mpr ⟨_, hl.lt hi, hi, rfl⟩
  obtain ⟨q, hq⟩ := List.getElem?_of_mem hm
  exact lv_iinc (k := q) (v := x + cst) hx hb hd hl.list hq (by rw [hv]) (hl.lt hi) rfl (fun ls' hl' => k ls' H locs (hl.st1 hk hl') hP hS)
theorem tr_V.iincN {i : Nat} {n : Int} {x cst y : Int32} (hd : decode X.1 pc = .ok (.iinc i n, 3)) (hi : tr_gl lv i = some (.int x)) (hv : Int32.ofInt n = cst) (hk : tr_ok1 lv i = true) (hy : some (x + cst) = some y) (h : tr_V X E (pc + 3) ((i, some (.int y)) :: lv) st M φ Z) : tr_V X E pc lv st M φ Z := by
  cases hy
  exact tr_V.iinc hd hi hv hk h
theorem tr_V.iadd {x y : Int32} (hd : decode X.1 pc = .ok (.iadd, 1)) (h : tr_V X E (pc + 1) lv (.int (x + y) :: st) M φ Z) : tr_V X E pc lv (.int y :: .int x :: st) M φ Z := by
  intro ok r hr hz
  have k := h ok r hr hz
  obtain ⟨p, l, e, s, m, args, below, meth, c, dC, dI, B, D, hx, hb, hml, hown, hts, hret, hlk, hK, hAb, hG, hW⟩ := ok
  rw [hW] at k ⊢
  intro ls H locs hl hP hS
  exact lv_iadd hx hb hd (k ls H locs hl hP hS)
theorem tr_V.isub {x y : Int32} (hd : decode X.1 pc = .ok (.isub, 1)) (h : tr_V X E (pc + 1) lv (.int (x - y) :: st) M φ Z) : tr_V X E pc lv (.int y :: .int x :: st) M φ Z := by
  intro ok r hr hz
  have k := h ok r hr hz
  obtain ⟨p, l, e, s, m, args, below, meth, c, dC, dI, B, D, hx, hb, hml, hown, hts, hret, hlk, hK, hAb, hG, hW⟩ := ok
  rw [hW] at k ⊢
  intro ls H locs hl hP hS
  exact lv_isub hx hb hd (k ls H locs hl hP hS)
theorem tr_V.imul {x y : Int32} (hd : decode X.1 pc = .ok (.imul, 1)) (h : tr_V X E (pc + 1) lv (.int (x * y) :: st) M φ Z) : tr_V X E pc lv (.int y :: .int x :: st) M φ Z := by
  intro ok r hr hz
  have k := h ok r hr hz
  obtain ⟨p, l, e, s, m, args, below, meth, c, dC, dI, B, D, hx, hb, hml, hown, hts, hret, hlk, hK, hAb, hG, hW⟩ := ok
  rw [hW] at k ⊢
  intro ls H locs hl hP hS
  exact lv_imul hx hb hd (k ls H locs hl hP hS)
theorem tr_V.iand {x y : Int32} (hd : decode X.1 pc = .ok (.iand, 1)) (h : tr_V X E (pc + 1) lv (.int (x &&& y) :: st) M φ Z) : tr_V X E pc lv (.int y :: .int x :: st) M φ Z := by
  intro ok r hr hz
  have k := h ok r hr hz
  obtain ⟨p, l, e, s, m, args, below, meth, c, dC, dI, B, D, hx, hb, hml, hown, hts, hret, hlk, hK, hAb, hG, hW⟩ := ok
  rw [hW] at k ⊢
  intro ls H locs hl hP hS
  exact lv_iand hx hb hd (k ls H locs hl hP hS)
theorem tr_V.ior {x y : Int32} (hd : decode X.1 pc = .ok (.ior, 1)) (h : tr_V X E (pc + 1) lv (.int (x ||| y) :: st) M φ Z) : tr_V X E pc lv (.int y :: .int x :: st) M φ Z := by
  intro ok r hr hz
  have k := h ok r hr hz
  obtain ⟨p, l, e, s, m, args, below, meth, c, dC, dI, B, D, hx, hb, hml, hown, hts, hret, hlk, hK, hAb, hG, hW⟩ := ok
  rw [hW] at k ⊢
  intro ls H locs hl hP hS
  exact lv_ior hx hb hd (k ls H locs hl hP hS)
theorem tr_V.ixor {x y : Int32} (hd : decode X.1 pc = .ok (.ixor, 1)) (h : tr_V X E (pc + 1) lv (.int (x ^^^ y) :: st) M φ Z) : tr_V X E pc lv (.int y :: .int x :: st) M φ Z := by
  intro ok r hr hz
  have k := h ok r hr hz
  obtain ⟨p, l, e, s, m, args, below, meth, c, dC, dI, B, D, hx, hb, hml, hown, hts, hret, hlk, hK, hAb, hG, hW⟩ := ok
  rw [hW] at k ⊢
  intro ls H locs hl hP hS
  exact lv_ixor hx hb hd (k ls H locs hl hP hS)
theorem tr_V.ishl {x y : Int32} (hd : decode X.1 pc = .ok (.ishl, 1)) (h : tr_V X E (pc + 1) lv (.int (x <<< (y &&& 31)) :: st) M φ Z) : tr_V X E pc lv (.int y :: .int x :: st) M φ Z := by
  intro ok r hr hz
  have k := h ok r hr hz
  obtain ⟨p, l, e, s, m, args, below, meth, c, dC, dI, B, D, hx, hb, hml, hown, hts, hret, hlk, hK, hAb, hG, hW⟩ := ok
  rw [hW] at k ⊢
  intro ls H locs hl hP hS
  exact lv_ishl hx hb hd (k ls H locs hl hP hS)
theorem tr_V.ishr {x y : Int32} (hd : decode X.1 pc = .ok (.ishr, 1)) (h : tr_V X E (pc + 1) lv (.int (x >>> (y &&& 31)) :: st) M φ Z) : tr_V X E pc lv (.int y :: .int x :: st) M φ Z := by
  intro ok r hr hz
  have k := h ok r hr hz
  obtain ⟨p, l, e, s, m, args, below, meth, c, dC, dI, B, D, hx, hb, hml, hown, hts, hret, hlk, hK, hAb, hG, hW⟩ := ok
  rw [hW] at k ⊢
  intro ls H locs hl hP hS
  exact lv_ishr hx hb hd (k ls H locs hl hP hS)
theorem tr_V.ladd {x y : Int64} (hd : decode X.1 pc = .ok (.ladd, 1)) (h : tr_V X E (pc + 1) lv (.long (x + y) :: st) M φ Z) : tr_V X E pc lv (.long y :: .long x :: st) M φ Z := by
  intro ok r hr hz
  have k := h ok r hr hz
  obtain ⟨p, l, e, s, m, args, below, meth, c, dC, dI, B, D, hx, hb, hml, hown, hts, hret, hlk, hK, hAb, hG, hW⟩ := ok
  rw [hW] at k ⊢
  intro ls H locs hl hP hS
  exact lv_ladd hx hb hd (k ls H locs hl hP hS)
theorem tr_V.lsub {x y : Int64} (hd : decode X.1 pc = .ok (.lsub, 1)) (h : tr_V X E (pc + 1) lv (.long (x - y) :: st) M φ Z) : tr_V X E pc lv (.long y :: .long x :: st) M φ Z := by
  intro ok r hr hz
  have k := h ok r hr hz
  obtain ⟨p, l, e, s, m, args, below, meth, c, dC, dI, B, D, hx, hb, hml, hown, hts, hret, hlk, hK, hAb, hG, hW⟩ := ok
  rw [hW] at k ⊢
  intro ls H locs hl hP hS
  exact lv_lsub hx hb hd (k ls H locs hl hP hS)
theorem tr_V.lmul {x y : Int64} (hd : decode X.1 pc = .ok (.lmul, 1)) (h : tr_V X E (pc + 1) lv (.long (x * y) :: st) M φ Z) : tr_V X E pc lv (.long y :: .long x :: st) M φ Z := by
  intro ok r hr hz
  have k := h ok r hr hz
  obtain ⟨p, l, e, s, m, args, below, meth, c, dC, dI, B, D, hx, hb, hml, hown, hts, hret, hlk, hK, hAb, hG, hW⟩ := ok
  rw [hW] at k ⊢
  intro ls H locs hl hP hS
  exact lv_lmul hx hb hd (k ls H locs hl hP hS)
theorem tr_V.ineg {x : Int32} (hd : decode X.1 pc = .ok (.ineg, 1)) (h : tr_V X E (pc + 1) lv (.int (-x) :: st) M φ Z) : tr_V X E pc lv (.int x :: st) M φ Z := by
  intro ok r hr hz
  have k := h ok r hr hz
  obtain ⟨p, l, e, s, m, args, below, meth, c, dC, dI, B, D, hx, hb, hml, hown, hts, hret, hlk, hK, hAb, hG, hW⟩ := ok
  rw [hW] at k ⊢
  intro ls H locs hl hP hS
  exact lv_ineg hx hb hd (k ls H locs hl hP hS)
theorem tr_V.iushr {x y : Int32} (hd : decode X.1 pc = .ok (.iushr, 1)) (h : tr_V X E (pc + 1) lv (.int (x.toUInt32 >>> (y.toUInt32 &&& Int32.toUInt32 31)).toInt32 :: st) M φ Z) : tr_V X E pc lv (.int y :: .int x :: st) M φ Z := by
  intro ok r hr hz
  have k := h ok r hr hz
  obtain ⟨p, l, e, s, m, args, below, meth, c, dC, dI, B, D, hx, hb, hml, hown, hts, hret, hlk, hK, hAb, hG, hW⟩ := ok
  rw [hW] at k ⊢
  intro ls H locs hl hP hS
  exact lv_iushr hx hb hd rfl (k ls H locs hl hP hS)
theorem tr_V.i2l {x : Int32} (hd : decode X.1 pc = .ok (.i2l, 1)) (h : tr_V X E (pc + 1) lv (.long x.toInt64 :: st) M φ Z) : tr_V X E pc lv (.int x :: st) M φ Z := by
  intro ok r hr hz
  have k := h ok r hr hz
  obtain ⟨p, l, e, s, m, args, below, meth, c, dC, dI, B, D, hx, hb, hml, hown, hts, hret, hlk, hK, hAb, hG, hW⟩ := ok
  rw [hW] at k ⊢
  intro ls H locs hl hP hS
  exact lv_i2l hx hb hd rfl (k ls H locs hl hP hS)
theorem tr_V.l2i {x : Int64} (hd : decode X.1 pc = .ok (.l2i, 1)) (h : tr_V X E (pc + 1) lv (.int x.toInt32 :: st) M φ Z) : tr_V X E pc lv (.long x :: st) M φ Z := by
  intro ok r hr hz
  have k := h ok r hr hz
  obtain ⟨p, l, e, s, m, args, below, meth, c, dC, dI, B, D, hx, hb, hml, hown, hts, hret, hlk, hK, hAb, hG, hW⟩ := ok
  rw [hW] at k ⊢
  intro ls H locs hl hP hS
  exact lv_l2i hx hb hd rfl (k ls H locs hl hP hS)
theorem tr_V.i2b {x : Int32} (hd : decode X.1 pc = .ok (.i2b, 1)) (h : tr_V X E (pc + 1) lv (.int x.toInt8.toInt32 :: st) M φ Z) : tr_V X E pc lv (.int x :: st) M φ Z := by
  intro ok r hr hz
  have k := h ok r hr hz
  obtain ⟨p, l, e, s, m, args, below, meth, c, dC, dI, B, D, hx, hb, hml, hown, hts, hret, hlk, hK, hAb, hG, hW⟩ := ok
  rw [hW] at k ⊢
  intro ls H locs hl hP hS
  exact lv_i2b hx hb hd rfl (k ls H locs hl hP hS)
theorem tr_V.lcmp {x y : Int64} (hd : decode X.1 pc = .ok (.lcmp, 1)) (h : tr_V X E (pc + 1) lv (.int (lg_cmp x y) :: st) M φ Z) : tr_V X E pc lv (.long y :: .long x :: st) M φ Z := by
  intro ok r hr hz
  have k := h ok r hr hz
  obtain ⟨p, l, e, s, m, args, below, meth, c, dC, dI, B, D, hx, hb, hml, hown, hts, hret, hlk, hK, hAb, hG, hW⟩ := ok
  rw [hW] at k ⊢
  intro ls H locs hl hP hS
  exact W.lcmp hx hb hd (k ls H locs hl hP hS)
theorem tr_V.idiv {x y : Int32} {k : Int32 → Option ρ} (hd : decode X.1 pc = .ok (.idiv, 1)) (h : ∀ v, tr_V X E (pc + 1) lv (.int v :: st) M (k v) Z) : tr_V X E pc lv (.int y :: .int x :: st) M (Option.bind (tr_dvi x y) k) Z := by
  intro ok r hr hz
  by_cases hy : y = 0
  · simp [tr_dvi, hy] at hr
  · simp only [tr_dvi, if_neg hy, Option.bind_some] at hr
    have k := h _ ok r hr hz
    obtain ⟨p, l, e, s, m, args, below, meth, c, dC, dI, B, D, hx, hb, hml, hown, hts, hret, hlk, hK, hAb, hG, hW⟩ := ok
    rw [hW] at k ⊢
    intro ls H locs hl hP hS
    exact lv_idiv hx hb hd hy (k ls H locs hl hP hS)
theorem tr_V.irem {x y : Int32} {k : Int32 → Option ρ} (hd : decode X.1 pc = .ok (.irem, 1)) (h : ∀ v, tr_V X E (pc + 1) lv (.int v :: st) M (k v) Z) : tr_V X E pc lv (.int y :: .int x :: st) M (Option.bind (tr_rmi x y) k) Z := by
  intro ok r hr hz
  by_cases hy : y = 0
  · simp [tr_rmi, hy] at hr
  · simp only [tr_rmi, if_neg hy, Option.bind_some] at hr
    have k := h _ ok r hr hz
    obtain ⟨p, l, e, s, m, args, below, meth, c, dC, dI, B, D, hx, hb, hml, hown, hts, hret, hlk, hK, hAb, hG, hW⟩ := ok
    rw [hW] at k ⊢
    intro ls H locs hl hP hS
    exact lv_irem hx hb hd hy (k ls H locs hl hP hS)
theorem tr_V.ldiv {x y : Int64} {k : Int64 → Option ρ} (hd : decode X.1 pc = .ok (.ldiv, 1)) (h : ∀ v, tr_V X E (pc + 1) lv (.long v :: st) M (k v) Z) : tr_V X E pc lv (.long y :: .long x :: st) M (Option.bind (tr_dvl x y) k) Z := by
  intro ok r hr hz
  by_cases hy : y = 0
  · simp [tr_dvl, hy] at hr
  · simp only [tr_dvl, if_neg hy, Option.bind_some] at hr
    have k := h _ ok r hr hz
    obtain ⟨p, l, e, s, m, args, below, meth, c, dC, dI, B, D, hx, hb, hml, hown, hts, hret, hlk, hK, hAb, hG, hW⟩ := ok
    rw [hW] at k ⊢
    intro ls H locs hl hP hS
    exact lv_ldiv hx hb hd hy (k ls H locs hl hP hS)
theorem tr_V.lrem {x y : Int64} {k : Int64 → Option ρ} (hd : decode X.1 pc = .ok (.lrem, 1)) (h : ∀ v, tr_V X E (pc + 1) lv (.long v :: st) M (k v) Z) : tr_V X E pc lv (.long y :: .long x :: st) M (Option.bind (tr_rml x y) k) Z := by
  intro ok r hr hz
  by_cases hy : y = 0
  · simp [tr_rml, hy] at hr
  · simp only [tr_rml, if_neg hy, Option.bind_some] at hr
    have k := h _ ok r hr hz
    obtain ⟨p, l, e, s, m, args, below, meth, c, dC, dI, B, D, hx, hb, hml, hown, hts, hret, hlk, hK, hAb, hG, hW⟩ := ok
    rw [hW] at k ⊢
    intro ls H locs hl hP hS
    exact lv_lrem hx hb hd hy (k ls H locs hl hP hS)
theorem tr_V.idivL {x y : Int32} (hd : decode X.1 pc = .ok (.idiv, 1)) (hne : ¬ y = 0) (h : tr_V X E (pc + 1) lv (.int (x / y) :: st) M φ Z) : tr_V X E pc lv (.int y :: .int x :: st) M φ Z := by
  intro ok r hr hz
  have k := h ok r hr hz
  obtain ⟨p, l, e, s, m, args, below, meth, c, dC, dI, B, D, hx, hb, hml, hown, hts, hret, hlk, hK, hAb, hG, hW⟩ := ok
  rw [hW] at k ⊢
  intro ls H locs hl hP hS
  exact lv_idiv hx hb hd hne (k ls H locs hl hP hS)
theorem tr_V.iremL {x y : Int32} (hd : decode X.1 pc = .ok (.irem, 1)) (hne : ¬ y = 0) (h : tr_V X E (pc + 1) lv (.int (x - x / y * y) :: st) M φ Z) : tr_V X E pc lv (.int y :: .int x :: st) M φ Z := by
  intro ok r hr hz
  have k := h ok r hr hz
  obtain ⟨p, l, e, s, m, args, below, meth, c, dC, dI, B, D, hx, hb, hml, hown, hts, hret, hlk, hK, hAb, hG, hW⟩ := ok
  rw [hW] at k ⊢
  intro ls H locs hl hP hS
  exact lv_irem hx hb hd hne (k ls H locs hl hP hS)
theorem tr_V.ldivL {x y : Int64} (hd : decode X.1 pc = .ok (.ldiv, 1)) (hne : ¬ y = 0) (h : tr_V X E (pc + 1) lv (.long (x / y) :: st) M φ Z) : tr_V X E pc lv (.long y :: .long x :: st) M φ Z := by
  intro ok r hr hz
  have k := h ok r hr hz
  obtain ⟨p, l, e, s, m, args, below, meth, c, dC, dI, B, D, hx, hb, hml, hown, hts, hret, hlk, hK, hAb, hG, hW⟩ := ok
  rw [hW] at k ⊢
  intro ls H locs hl hP hS
  exact lv_ldiv hx hb hd hne (k ls H locs hl hP hS)
theorem tr_V.lremL {x y : Int64} (hd : decode X.1 pc = .ok (.lrem, 1)) (hne : ¬ y = 0) (h : tr_V X E (pc + 1) lv (.long (x - x / y * y) :: st) M φ Z) : tr_V X E pc lv (.long y :: .long x :: st) M φ Z := by
  intro ok r hr hz
  have k := h ok r hr hz
  obtain ⟨p, l, e, s, m, args, below, meth, c, dC, dI, B, D, hx, hb, hml, hown, hts, hret, hlk, hK, hAb, hG, hW⟩ := ok
  rw [hW] at k ⊢
  intro ls H locs hl hP hS
  exact lv_lrem hx hb hd hne (k ls H locs hl hP hS)
theorem tr_V.dup {v : Value} (hc : v.category = 1) (hd : decode X.1 pc = .ok (.dup, 1)) (h : tr_V X E (pc + 1) lv (v :: v :: st) M φ Z) : tr_V X E pc lv (v :: st) M φ Z := by
  intro ok r hr hz
  have k := h ok r hr hz
  obtain ⟨p, l, e, s, m, args, below, meth, c, dC, dI, B, D, hx, hb, hml, hown, hts, hret, hlk, hK, hAb, hG, hW⟩ := ok
  rw [hW] at k ⊢
  intro ls H locs hl hP hS
  exact lv_dup hx hb hd ((tr_cat B v).trans hc) (k ls H locs hl hP hS)
theorem tr_V.dup2 {v u : Value} (hc : v.category = 1) (hc2 : u.category = 1) (hd : decode X.1 pc = .ok (.dup2, 1)) (h : tr_V X E (pc + 1) lv (v :: u :: v :: u :: st) M φ Z) : tr_V X E pc lv (v :: u :: st) M φ Z := by
  intro ok r hr hz
  have k := h ok r hr hz
  obtain ⟨p, l, e, s, m, args, below, meth, c, dC, dI, B, D, hx, hb, hml, hown, hts, hret, hlk, hK, hAb, hG, hW⟩ := ok
  rw [hW] at k ⊢
  intro ls H locs hl hP hS
  exact lv_dup2_11 hx hb hd ((tr_cat B v).trans hc) ((tr_cat B u).trans hc2) (k ls H locs hl hP hS)
theorem tr_V.pop {v : Value} (hc : v.category = 1) (hd : decode X.1 pc = .ok (.pop, 1)) (h : tr_V X E (pc + 1) lv st M φ Z) : tr_V X E pc lv (v :: st) M φ Z := by
  intro ok r hr hz
  have k := h ok r hr hz
  obtain ⟨p, l, e, s, m, args, below, meth, c, dC, dI, B, D, hx, hb, hml, hown, hts, hret, hlk, hK, hAb, hG, hW⟩ := ok
  rw [hW] at k ⊢
  intro ls H locs hl hP hS
  exact lv_pop hx hb hd ((tr_cat B v).trans hc) (k ls H locs hl hP hS)
theorem tr_V.if_eq {x : Int32} {off : Int} {tgt : Nat} (hd : decode X.1 pc = .ok (.ifCond .eq off, 3)) (ht : (pc : Int) + off = (tgt : Int)) (h1 : tr_V X E tgt lv st M φ1 Z) (h2 : tr_V X E (pc + 3) lv st M φ2 Z) : tr_V X E pc lv (.int x :: st) M (if x = 0 then φ1 else φ2) Z := by
  intro ok r hr hz
  have k1 : x = 0 → _ := fun q => h1 ok r (by rw [if_pos q] at hr; exact hr) hz
  have k2 : ¬ x = 0 → _ := fun q => h2 ok r (by rw [if_neg q] at hr; exact hr) hz
  obtain ⟨p, l, e, s, m, args, below, meth, c, dC, dI, B, D, hx, hb, hml, hown, hts, hret, hlk, hK, hAb, hG, hW⟩ := ok
  rw [hW] at k1 k2 ⊢
  intro ls H locs hl hP hS
  exact lv_if_eq hx hb hd ht (fun q => k1 (id q) ls H locs hl hP hS) (fun q => k2 (id q) ls H locs hl hP hS)
theorem tr_V.if_ne {x : Int32} {off : Int} {tgt : Nat} (hd : decode X.1 pc = .ok (.ifCond .ne off, 3)) (ht : (pc : Int) + off = (tgt : Int)) (h1 : tr_V X E (pc + 3) lv st M φ1 Z) (h2 : tr_V X E tgt lv st M φ2 Z) : tr_V X E pc lv (.int x :: st) M (if x = 0 then φ1 else φ2) Z := by
  intro ok r hr hz
  have k1 : x = 0 → _ := fun q => h1 ok r (by rw [if_pos q] at hr; exact hr) hz
  have k2 : ¬ x = 0 → _ := fun q => h2 ok r (by rw [if_neg q] at hr; exact hr) hz
  obtain ⟨p, l, e, s, m, args, below, meth, c, dC, dI, B, D, hx, hb, hml, hown, hts, hret, hlk, hK, hAb, hG, hW⟩ := ok
  rw [hW] at k1 k2 ⊢
  intro ls H locs hl hP hS
  exact lv_if_ne hx hb hd ht (fun q => k2 (id q) ls H locs hl hP hS) (fun q => k1 (id q) ls H locs hl hP hS)
theorem tr_V.if_lt {x : Int32} {off : Int} {tgt : Nat} (hd : decode X.1 pc = .ok (.ifCond .lt off, 3)) (ht : (pc : Int) + off = (tgt : Int)) (h1 : tr_V X E tgt lv st M φ1 Z) (h2 : tr_V X E (pc + 3) lv st M φ2 Z) : tr_V X E pc lv (.int x :: st) M (if x < 0 then φ1 else φ2) Z := by
  intro ok r hr hz
  have k1 : x < 0 → _ := fun q => h1 ok r (by rw [if_pos q] at hr; exact hr) hz
  have k2 : ¬ x < 0 → _ := fun q => h2 ok r (by rw [if_neg q] at hr; exact hr) hz
  obtain ⟨p, l, e, s, m, args, below, meth, c, dC, dI, B, D, hx, hb, hml, hown, hts, hret, hlk, hK, hAb, hG, hW⟩ := ok
  rw [hW] at k1 k2 ⊢
  intro ls H locs hl hP hS
  exact lv_if_lt hx hb hd ht (fun q => k1 (id q) ls H locs hl hP hS) (fun q => k2 (id q) ls H locs hl hP hS)
theorem tr_V.if_ge {x : Int32} {off : Int} {tgt : Nat} (hd : decode X.1 pc = .ok (.ifCond .ge off, 3)) (ht : (pc : Int) + off = (tgt : Int)) (h1 : tr_V X E (pc + 3) lv st M φ1 Z) (h2 : tr_V X E tgt lv st M φ2 Z) : tr_V X E pc lv (.int x :: st) M (if x < 0 then φ1 else φ2) Z := by
  intro ok r hr hz
  have k1 : x < 0 → _ := fun q => h1 ok r (by rw [if_pos q] at hr; exact hr) hz
  have k2 : ¬ x < 0 → _ := fun q => h2 ok r (by rw [if_neg q] at hr; exact hr) hz
  obtain ⟨p, l, e, s, m, args, below, meth, c, dC, dI, B, D, hx, hb, hml, hown, hts, hret, hlk, hK, hAb, hG, hW⟩ := ok
  rw [hW] at k1 k2 ⊢
  intro ls H locs hl hP hS
  exact lv_if_ge hx hb hd ht (fun q => k2 (Int32.not_lt.mpr q) ls H locs hl hP hS) (fun q => k1 (Int32.not_le.mp q) ls H locs hl hP hS)
theorem tr_V.if_gt {x : Int32} {off : Int} {tgt : Nat} (hd : decode X.1 pc = .ok (.ifCond .gt off, 3)) (ht : (pc : Int) + off = (tgt : Int)) (h1 : tr_V X E tgt lv st M φ1 Z) (h2 : tr_V X E (pc + 3) lv st M φ2 Z) : tr_V X E pc lv (.int x :: st) M (if 0 < x then φ1 else φ2) Z := by
  intro ok r hr hz
  have k1 : 0 < x → _ := fun q => h1 ok r (by rw [if_pos q] at hr; exact hr) hz
  have k2 : ¬ 0 < x → _ := fun q => h2 ok r (by rw [if_neg q] at hr; exact hr) hz
  obtain ⟨p, l, e, s, m, args, below, meth, c, dC, dI, B, D, hx, hb, hml, hown, hts, hret, hlk, hK, hAb, hG, hW⟩ := ok
  rw [hW] at k1 k2 ⊢
  intro ls H locs hl hP hS
  exact lv_if_gt hx hb hd ht (fun q => k1 (id q) ls H locs hl hP hS) (fun q => k2 (id q) ls H locs hl hP hS)
theorem tr_V.if_le {x : Int32} {off : Int} {tgt : Nat} (hd : decode X.1 pc = .ok (.ifCond .le off, 3)) (ht : (pc : Int) + off = (tgt : Int)) (h1 : tr_V X E (pc + 3) lv st M φ1 Z) (h2 : tr_V X E tgt lv st M φ2 Z) : tr_V X E pc lv (.int x :: st) M (if 0 < x then φ1 else φ2) Z := by
  intro ok r hr hz
  have k1 : 0 < x → _ := fun q => h1 ok r (by rw [if_pos q] at hr; exact hr) hz
  have k2 : ¬ 0 < x → _ := fun q => h2 ok r (by rw [if_neg q] at hr; exact hr) hz
  obtain ⟨p, l, e, s, m, args, below, meth, c, dC, dI, B, D, hx, hb, hml, hown, hts, hret, hlk, hK, hAb, hG, hW⟩ := ok
  rw [hW] at k1 k2 ⊢
  intro ls H locs hl hP hS
  exact lv_if_le hx hb hd ht (fun q => k2 (Int32.not_lt.mpr q) ls H locs hl hP hS) (fun q => k1 (Int32.not_le.mp q) ls H locs hl hP hS)
theorem tr_V.icmp_eq {x y : Int32} {off : Int} {tgt : Nat} (hd : decode X.1 pc = .ok (.if_icmp .eq off, 3)) (ht : (pc : Int) + off = (tgt : Int)) (h1 : tr_V X E tgt lv st M φ1 Z) (h2 : tr_V X E (pc + 3) lv st M φ2 Z) : tr_V X E pc lv (.int y :: .int x :: st) M (if x = y then φ1 else φ2) Z := by
  intro ok r hr hz
  have k1 : x = y → _ := fun q => h1 ok r (by rw [if_pos q] at hr; exact hr) hz
  have k2 : ¬ x = y → _ := fun q => h2 ok r (by rw [if_neg q] at hr; exact hr) hz
  obtain ⟨p, l, e, s, m, args, below, meth, c, dC, dI, B, D, hx, hb, hml, hown, hts, hret, hlk, hK, hAb, hG, hW⟩ := ok
  rw [hW] at k1 k2 ⊢
  intro ls H locs hl hP hS
  exact lv_icmp_eq hx hb hd ht (fun q => k1 (id q) ls H locs hl hP hS) (fun q => k2 (id q) ls H locs hl hP hS)
theorem tr_V.icmp_ne {x y : Int32} {off : Int} {tgt : Nat} (hd : decode X.1 pc = .ok (.if_icmp .ne off, 3)) (ht : (pc : Int) + off = (tgt : Int)) (h1 : tr_V X E (pc + 3) lv st M φ1 Z) (h2 : tr_V X E tgt lv st M φ2 Z) : tr_V X E pc lv (.int y :: .int x :: st) M (if x = y then φ1 else φ2) Z := by
  intro ok r hr hz
  have k1 : x = y → _ := fun q => h1 ok r (by rw [if_pos q] at hr; exact hr) hz
  have k2 : ¬ x = y → _ := fun q => h2 ok r (by rw [if_neg q] at hr; exact hr) hz
  obtain ⟨p, l, e, s, m, args, below, meth, c, dC, dI, B, D, hx, hb, hml, hown, hts, hret, hlk, hK, hAb, hG, hW⟩ := ok
  rw [hW] at k1 k2 ⊢
  intro ls H locs hl hP hS
  exact lv_icmp_ne hx hb hd ht (fun q => k2 (id q) ls H locs hl hP hS) (fun q => k1 (id q) ls H locs hl hP hS)
theorem tr_V.icmp_lt {x y : Int32} {off : Int} {tgt : Nat} (hd : decode X.1 pc = .ok (.if_icmp .lt off, 3)) (ht : (pc : Int) + off = (tgt : Int)) (h1 : tr_V X E tgt lv st M φ1 Z) (h2 : tr_V X E (pc + 3) lv st M φ2 Z) : tr_V X E pc lv (.int y :: .int x :: st) M (if x < y then φ1 else φ2) Z := by
  intro ok r hr hz
  have k1 : x < y → _ := fun q => h1 ok r (by rw [if_pos q] at hr; exact hr) hz
  have k2 : ¬ x < y → _ := fun q => h2 ok r (by rw [if_neg q] at hr; exact hr) hz
  obtain ⟨p, l, e, s, m, args, below, meth, c, dC, dI, B, D, hx, hb, hml, hown, hts, hret, hlk, hK, hAb, hG, hW⟩ := ok
  rw [hW] at k1 k2 ⊢
  intro ls H locs hl hP hS
  exact lv_icmp_lt hx hb hd ht (fun q => k1 (id q) ls H locs hl hP hS) (fun q => k2 (id q) ls H locs hl hP hS)
theorem tr_V.icmp_ge {x y : Int32} {off : Int} {tgt : Nat} (hd : decode X.1 pc = .ok (.if_icmp .ge off, 3)) (ht : (pc : Int) + off = (tgt : Int)) (h1 : tr_V X E (pc + 3) lv st M φ1 Z) (h2 : tr_V X E tgt lv st M φ2 Z) : tr_V X E pc lv (.int y :: .int x :: st) M (if x < y then φ1 else φ2) Z := by
  intro ok r hr hz
  have k1 : x < y → _ := fun q => h1 ok r (by rw [if_pos q] at hr; exact hr) hz
  have k2 : ¬ x < y → _ := fun q => h2 ok r (by rw [if_neg q] at hr; exact hr) hz
  obtain ⟨p, l, e, s, m, args, below, meth, c, dC, dI, B, D, hx, hb, hml, hown, hts, hret, hlk, hK, hAb, hG, hW⟩ := ok
  rw [hW] at k1 k2 ⊢
  intro ls H locs hl hP hS
  exact lv_icmp_ge hx hb hd ht (fun q => k2 (Int32.not_lt.mpr q) ls H locs hl hP hS) (fun q => k1 (Int32.not_le.mp q) ls H locs hl hP hS)
theorem tr_V.icmp_gt {x y : Int32} {off : Int} {tgt : Nat} (hd : decode X.1 pc = .ok (.if_icmp .gt off, 3)) (ht : (pc : Int) + off = (tgt : Int)) (h1 : tr_V X E tgt lv st M φ1 Z) (h2 : tr_V X E (pc + 3) lv st M φ2 Z) : tr_V X E pc lv (.int y :: .int x :: st) M (if y < x then φ1 else φ2) Z := by
  intro ok r hr hz
  have k1 : y < x → _ := fun q => h1 ok r (by rw [if_pos q] at hr; exact hr) hz
  have k2 : ¬ y < x → _ := fun q => h2 ok r (by rw [if_neg q] at hr; exact hr) hz
  obtain ⟨p, l, e, s, m, args, below, meth, c, dC, dI, B, D, hx, hb, hml, hown, hts, hret, hlk, hK, hAb, hG, hW⟩ := ok
  rw [hW] at k1 k2 ⊢
  intro ls H locs hl hP hS
  exact lv_icmp_gt hx hb hd ht (fun q => k1 (id q) ls H locs hl hP hS) (fun q => k2 (id q) ls H locs hl hP hS)
theorem tr_V.icmp_le {x y : Int32} {off : Int} {tgt : Nat} (hd : decode X.1 pc = .ok (.if_icmp .le off, 3)) (ht : (pc : Int) + off = (tgt : Int)) (h1 : tr_V X E (pc + 3) lv st M φ1 Z) (h2 : tr_V X E tgt lv st M φ2 Z) : tr_V X E pc lv (.int y :: .int x :: st) M (if y < x then φ1 else φ2) Z := by
  intro ok r hr hz
  have k1 : y < x → _ := fun q => h1 ok r (by rw [if_pos q] at hr; exact hr) hz
  have k2 : ¬ y < x → _ := fun q => h2 ok r (by rw [if_neg q] at hr; exact hr) hz
  obtain ⟨p, l, e, s, m, args, below, meth, c, dC, dI, B, D, hx, hb, hml, hown, hts, hret, hlk, hK, hAb, hG, hW⟩ := ok
  rw [hW] at k1 k2 ⊢
  intro ls H locs hl hP hS
  exact lv_icmp_le hx hb hd ht (fun q => k2 (Int32.not_lt.mpr q) ls H locs hl hP hS) (fun q => k1 (Int32.not_le.mp q) ls H locs hl hP hS)
theorem tr_V.goto {off : Int} {tgt : Nat} (hd : decode X.1 pc = .ok (.goto off, 3)) (ht : (pc : Int) + off = (tgt : Int)) (h : tr_V X E tgt lv st M φ Z) : tr_V X E pc lv st M φ Z := by
  intro ok r hr hz
  have k := h ok r hr hz
  obtain ⟨p, l, e, s, m, args, below, meth, c, dC, dI, B, D, hx, hb, hml, hown, hts, hret, hlk, hK, hAb, hG, hW⟩ := ok
  rw [hW] at k ⊢
  intro ls H locs hl hP hS
  exact lv_goto hx hb hd ht (k ls H locs hl hP hS)
theorem tr_V.ifnonnull {a : Nat} {off : Int} {tgt : Nat} (hd : decode X.1 pc = .ok (.ifnonnull off, 3)) (ht : (pc : Int) + off = (tgt : Int)) (h1 : tr_V X E (pc + 3) lv st M φ1 Z) (h2 : tr_V X E tgt lv st M φ2 Z) : tr_V X E pc lv (.ref a :: st) M (if a = 0 then φ1 else φ2) Z := by
  intro ok r hr hz
  have k1 : a = 0 → _ := fun q => h1 ok r (by rw [if_pos q] at hr; exact hr) hz
  have k2 : ¬ a = 0 → _ := fun q => h2 ok r (by rw [if_neg q] at hr; exact hr) hz
  obtain ⟨p, l, e, s, m, args, below, meth, c, dC, dI, B, D, hx, hb, hml, hown, hts, hret, hlk, hK, hAb, hG, hW⟩ := ok
  rw [hW] at k1 k2 ⊢
  intro ls H locs hl hP hS
  cases a with
  | zero => exact lv_ifnonnullN hx hb hd (k1 rfl ls H locs hl hP hS)
  | succ a => exact lv_ifnonnull hx hb hd ht (k2 (by omega) ls H locs hl hP hS)
theorem tr_V.case {x k : Int32} (h1 : x = k → tr_V X E pc lv (.int x :: st) M φ1 Z) (h2 : ¬ x = k → tr_V X E pc lv (.int x :: st) M φ2 Z) : tr_V X E pc lv (.int x :: st) M (if x = k then φ1 else φ2) Z := by
  intro ok r hr hz
  by_cases q : x = k
  · rw [if_pos q] at hr
    exact h1 q ok r hr hz
  · rw [if_neg q] at hr
    exact h2 q ok r hr hz
theorem tr_V.tableIn {dflt lo hi : Int} {offs : Array Int} {len : Nat} {x k : Int32} {off : Int} {tgt : Nat} (hd : decode X.1 pc = .ok (.tableswitch dflt lo hi offs, len)) (hxk : x = k) (hb : lo ≤ k.toInt ∧ k.toInt ≤ hi) (ho : offs[(k.toInt - lo).toNat]? = some off) (ht : (pc : Int) + off = (tgt : Int)) (h : tr_V X E tgt lv st M φ Z) : tr_V X E pc lv (.int x :: st) M φ Z := by
  intro ok r hr hz
  have k := h ok r hr hz
  obtain ⟨p, l, e, s, m, args, below, meth, c, dC, dI, B, D, hx, hbb, hml, hown, hts, hret, hlk, hK, hAb, hG, hW⟩ := ok
  rw [hW] at k ⊢
  intro ls H locs hl hP hS
  subst hxk
  exact lv_tableIn hx hbb hd (Int.not_lt.mpr hb.1) (Int.not_lt.mpr hb.2) ho ht (k ls H locs hl hP hS)
theorem tr_V.tableOut {dflt lo hi : Int} {offs : Array Int} {len : Nat} {x : Int32} {tgt : Nat} (hd : decode X.1 pc = .ok (.tableswitch dflt lo hi offs, len)) (ho : x.toInt < lo ∨ hi < x.toInt) (ht : (pc : Int) + dflt = (tgt : Int)) (h : tr_V X E tgt lv st M φ Z) : tr_V X E pc lv (.int x :: st) M φ Z := by
  intro ok r hr hz
  have k := h ok r hr hz
  obtain ⟨p, l, e, s, m, args, below, meth, c, dC, dI, B, D, hx, hb, hml, hown, hts, hret, hlk, hK, hAb, hG, hW⟩ := ok
  rw [hW] at k ⊢
  intro ls H locs hl hP hS
  exact lv_tableOut hx hb hd ho ht (k ls H locs hl hP hS)
theorem tr_V.lookup {dflt : Int} {ps : Array (Int × Int)} {len : Nat} {x : Int32} {off : Int} {tgt : Nat} (hd : decode X.1 pc = .ok (.lookupswitch dflt ps, len)) (hp : (ps.toList.zip (ps.toList.drop 1)).all (fun (a, next) => a.1 < next.1) = true) (ho : Op.lookupswitch.offset ps.toList dflt x.toInt = off) (ht : (pc : Int) + off = (tgt : Int)) (h : tr_V X E tgt lv st M φ Z) : tr_V X E pc lv (.int x :: st) M φ Z := by
  intro ok r hr hz
  have k := h ok r hr hz
  obtain ⟨p, l, e, s, m, args, below, meth, c, dC, dI, B, D, hx, hb, hml, hown, hts, hret, hlk, hK, hAb, hG, hW⟩ := ok
  rw [hW] at k ⊢
  intro ls H locs hl hP hS
  exact lv_lookup hx hb hd hp ho ht (k ls H locs hl hP hS)
-- ways through the answer
theorem tr_V.none : tr_V X E pc lv st M (none : Option ρ) Z := fun _ _ h => by cases h
theorem tr_V.nm {τ : Type} {t : τ} {k : τ → Option ρ} (h : tr_V X E pc lv st M (k t) Z) : tr_V X E pc lv st M (Option.bind (some t) k) Z := h
theorem tr_V.gd {c : Bool} {k : Unit → Option ρ} (h : c = true → tr_V X E pc lv st M (k ()) Z) : tr_V X E pc lv st M (Option.bind (tr_gd c) k) Z := by
  intro ok r hr hz
  by_cases hc : c = true
  · simp only [tr_gd, if_pos hc, Option.bind_some] at hr
    exact h hc ok r hr hz
  · simp [tr_gd, if_neg hc] at hr
theorem tr_V.kill (i : Nat) (h : tr_V X E pc ((i, Option.none) :: lv) st M φ Z) : tr_V X E pc lv st M φ Z := by
  intro ok r hr hz
  have k := h ok r hr hz
  obtain ⟨p, l, e, s, m, args, below, meth, c, dC, dI, B, D, hx, hb, hml, hown, hts, hret, hlk, hK, hAb, hG, hW⟩ := ok
  rw [hW] at k ⊢
  intro ls H locs hl hP hS
  refine k ls H locs ⟨hl.1, hl.2.1, fun j v hj => ?_⟩ hP hS
  unfold tr_gl at hj
  cases e : Nat.beq i j with
  | true => rw [e] at hj; cases hj
  | false => rw [e] at hj; exact hl.2.2 j v hj
theorem tr_V.to {lv' : tr_L} {r0 : ρ} (hz : Z r0 → E.2.2 pc lv' st M) (hs : tr_sub lv lv') : tr_V X E pc lv st M (some r0) Z := by
  intro ok r hr hzr
  cases hr
  have k := hz hzr
  obtain ⟨p, l, e, s, m, args, below, meth, c, dC, dI, B, D, hx, hb, hml, hown, hts, hret, hlk, hK, hAb, hG, hW⟩ := ok
  rw [hW] at k ⊢
  intro ls H locs hl hP hS
  exact k ls H locs (hl.sub hs) hP hS
theorem tr_V.seq {τ : Type} {ψ : Option τ} {k : τ → Option ρ} {pc' : Nat} {L : τ → tr_L} {S : τ → List Value} {Mf : τ → tr_M} (h1 : tr_V X E pc lv st M ψ (fun v => E.2.2 pc' (L v) (S v) (Mf v))) (h2 : ∀ v, tr_V X E pc' (L v) (S v) (Mf v) (k v) Z) : tr_V X E pc lv st M (Option.bind ψ k) Z := by
  intro ok r hr hz
  cases hψ : ψ with
  | none => rw [hψ] at hr; cases hr
  | some v =>
    rw [hψ] at hr
    exact h1 ok v hψ (h2 v ok r hr hz)
theorem tr_V.seqE {τ : Type} {ψ : Option (τ ⊕ ρ)} {k : τ → Option ρ} {pc' : Nat} {L : τ → tr_L} {S : τ → List Value} {Mf : τ → tr_M} (h1 : tr_V X E pc lv st M ψ (tr_ze E pc' L S Mf Z)) (h2 : ∀ v, tr_V X E pc' (L v) (S v) (Mf v) (k v) Z) : tr_V X E pc lv st M (Option.bind ψ (tr_el k)) Z := by
  intro ok r hr hz
  cases hψ : ψ with
  | none => rw [hψ] at hr; cases hr
  | some q =>
    rw [hψ] at hr
    cases q with
    | inl v => exact h1 ok _ hψ (h2 v ok r hr hz)
    | inr r1 =>
      have e : r1 = r := Option.some.inj hr
      subst e
      exact h1 ok _ hψ hz
theorem tr_V.nmI {e x : Int32} (hx : some e = some x) (h : tr_V X E pc lv (.int x :: st) M φ Z) : tr_V X E pc lv (.int e :: st) M φ Z := by
  cases hx
  exact h
theorem tr_V.nmJ {e x : Int64} (hx : some e = some x) (h : tr_V X E pc lv (.long x :: st) M φ Z) : tr_V X E pc lv (.long e :: st) M φ Z := by
  cases hx
  exact h
theorem tr_V.loop {σ : Type} {step : σ → Option (σ ⊕ ρ)} {L : σ → tr_L} {Mf : σ → tr_M} (h : ∀ s, tr_V X E pc (L s) [] (Mf s) (step s) (tr_zl E pc L Mf Z)) (s : σ) (hs : tr_sub lv (L s)) : tr_V X E pc lv [] (Mf s) (tr_loop step s) Z := by
  have key : ∀ (n : Nat) (s : σ), tr_V X E pc (L s) [] (Mf s) (tr_it step n s) Z := by
    intro n
    induction n with
    | zero => intro s ok r hr; cases hr
    | succ n ih =>
      intro s ok r hr hz
      unfold tr_it at hr
      cases hst : step s with
      | none => rw [hst] at hr; cases hr
      | some q =>
        rw [hst] at hr
        cases q with
        | inr r1 =>
          have e : r1 = r := Option.some.inj hr
          subst e
          exact h s ok _ hst hz
        | inl s1 => exact h s ok _ hst (ih s1 ok r hr hz)
  intro ok r hr hz
  have k := key tr_fuel s ok r hr hz
  obtain ⟨p, l, e, s, m, args, below, meth, c, dC, dI, B, D, hx, hb, hml, hown, hts, hret, hlk, hK, hAb, hG, hW⟩ := ok
  rw [hW] at k ⊢
  intro ls H locs hl hP hS
  exact k ls H locs (hl.sub hs) hP hS
end TRV

