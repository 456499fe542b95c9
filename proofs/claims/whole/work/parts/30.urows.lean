
/-! ===== how cells come into being ===== -/
abbrev tr_K : Type := (Nat × Nat × (Nat → Int32)) ⊕ ((Nat × Nat × (Nat → Nat)) ⊕ (Nat × List Value))
def tr_rf (B : Nat) : Nat → Option Nat
  | 0 => none
  | a + 1 => some (B + (a + 1))
theorem tr_rf_v (B a : Nat) : va_rf (tr_rf B a) = tr_v B (.ref a) := by cases a <;> rfl
def tr_kc (B : Nat) (D : Nat → ClassId) : tr_K → va_E
  | .inl (t, n, f) => .inl (D t, n, .inl f)
  | .inr (.inl (t, n, g)) => .inl (D t, n, .inr (.inr (.inr (.inr (fun i => tr_rf B (g i))))))
  | .inr (.inr (ci, vs)) => .inr (ci, vs.map (tr_v B))
def tr_up (f : Nat → tr_K) (a : Nat) (x : tr_K) : Nat → tr_K := fun b => match Nat.beq b a with
  | true => x
  | false => f b
def tr_w (B : Nat) (D : Nat → ClassId) (n : Nat) (f : Nat → tr_K) : va_W := (List.range n).map fun k => (B + (k + 1), tr_kc B D (f (k + 1)))
theorem tr_up_s {f : Nat → tr_K} {a : Nat} {x : tr_K} : tr_up f a x a = x := by
  unfold tr_up
  rw [show Nat.beq a a = true from Nat.beq_refl a]
theorem tr_up_o {f : Nat → tr_K} {a b : Nat} {x : tr_K} (h : b ≠ a) : tr_up f a x b = f b := by
  unfold tr_up
  cases e : Nat.beq b a with
  | true => exact absurd (Nat.eq_of_beq_eq_true e) h
  | false => rfl
theorem tr_w_at {B : Nat} {D : Nat → ClassId} {n : Nat} {f : Nat → tr_K} {a : Nat} (h1 : 0 < a) (h2 : a ≤ n) : (tr_w B D n f)[a - 1]? = some (B + a, tr_kc B D (f a)) := by
  have e : a - 1 + 1 = a := by omega
  unfold tr_w
  rw [List.getElem?_map, List.getElem?_range (by omega)]
  simp only [Option.map_some, e]
theorem tr_w_of {B : Nat} {D : Nat → ClassId} {n : Nat} {f : Nat → tr_K} {k : Nat} {q : Nat × va_E} (h : (tr_w B D n f)[k]? = some q) : k < n ∧ q = (B + (k + 1), tr_kc B D (f (k + 1))) := by
  unfold tr_w at h
  rw [List.getElem?_map] at h
  by_cases hk : k < n
  · rw [List.getElem?_range hk] at h
    exact ⟨hk, (Option.some.inj h).symm⟩
  · rw [List.getElem?_eq_none (by rw [List.length_range]; omega)] at h
    cases h
theorem tr_w_D {B : Nat} {D : Nat → ClassId} {n : Nat} {f : Nat → tr_K} : va_D (fun q => B < q) (tr_w B D n f) := by
  refine ⟨fun i j p q hi hj h => ?_, fun k q hk => ?_⟩
  · obtain ⟨-, rfl⟩ := tr_w_of hi
    obtain ⟨-, rfl⟩ := tr_w_of hj
    have : B + (i + 1) = B + (j + 1) := h
    omega
  · obtain ⟨h1, rfl⟩ := tr_w_of hk
    show B < B + (k + 1)
    omega
theorem tr_w_set {B : Nat} {D : Nat → ClassId} {n : Nat} {f : Nat → tr_K} {a : Nat} {x : tr_K} (h1 : 0 < a) : (tr_w B D n f).set (a - 1) (B + a, tr_kc B D x) = tr_w B D n (tr_up f a x) := by
  apply List.ext_getElem?
  intro k
  unfold tr_w
  rw [List.getElem?_set]
  by_cases e : a - 1 = k
  · rw [if_pos e, List.length_map, List.length_range]
    have e2 : a = k + 1 := by omega
    subst e2
    by_cases hk : k < n
    · rw [if_pos (by omega), List.getElem?_map, List.getElem?_range hk]
      simp only [Option.map_some, tr_up_s]
    · rw [if_neg (by omega), List.getElem?_eq_none (by rw [List.length_map, List.length_range]; omega)]
  · rw [if_neg e, List.getElem?_map, List.getElem?_map]
    by_cases hk : k < n
    · rw [List.getElem?_range hk]
      simp only [Option.map_some]
      rw [tr_up_o (by omega)]
    · rw [List.getElem?_eq_none (by rw [List.length_range]; omega)]
      rfl
theorem tr_w_grow {G : va_G} {cl : List vw_C} {B : Nat} {D : Nat → ClassId} {n n' : Nat} {f f' : Nat → tr_K} {H H1 : Heap} (hP : va_P G cl (tr_w B D n f) H) (hz : H.size = B + n + 1) (ho : ∀ q, q < H.size → H1[q]? = H[q]?) (hf : ∀ a, 0 < a → a ≤ n → f' a = f a) (hn : ∀ a, n < a → a ≤ n' → va_at G cl (B + a, tr_kc B D (f' a)) H1) : va_P G cl (tr_w B D n' f') H1 := by
  intro k q hk
  obtain ⟨h1, rfl⟩ := tr_w_of hk
  by_cases hl : k < n
  · rw [hf (k + 1) (by omega) (by omega)]
    have hat := tr_w_at (B := B) (D := D) (n := n) (f := f) (a := k + 1) (by omega) (by omega)
    exact (hP _ _ hat).kept (ho _ (by show B + (k + 1) < H.size; omega))
  · exact hn (k + 1) (by omega) (by omega)
/-- private constructors of nest mates: own class, entry, method -/
def tr_nest : List (String × Nat × MethodName) := [(RX6, 20, yX3_init), (RX6, 27, yX2_init), (RX2, 3, yX0_init), (RX2, 11, yX4_init), (RX3, 11, yX5_init), (RX4, 3, yX0_init), (RX4, 11, yX5_init)]
def tr_UK (dC : Nat → ClassId) (dI : Nat → Nat → Nat) (D : Nat → ClassId) (U : State) : Prop := va_K (dC, dI) vwCl (tr_tys D) U ∧ va_AO RX1 U ∧ va_AOA .int U ∧ ∀ q ∈ tr_nest, va_Nw (.methodLinkNest q.1 q.2.1 q.2.2 RX6) U
theorem va_AOA.moved {t : FieldType} {u U : State} (hvm : u.vm.Alike U.vm) (h : va_AOA t u) : va_AOA t U := by
  have h0 := h
  unfold va_AOA Cond.before Cond.holds at h0 ⊢
  simp only [Cond.value, beq_iff_eq] at h0 ⊢
  rw [hvm.findClass]
  revert h0
  cases hc : u.vm.findClass (FieldType.array t).toString with
  | none => intro h0; simp at h0
  | some comp =>
    intro h0
    have hb1 := va_idx_bare U.vm comp
    have hb2 := va_idx_bare u.vm comp
    have hb3 : U.vm.bare = u.vm.bare := by first | exact hvm.bare_eq | exact hvm.bare_eq.symm
    rw [hb3] at hb1
    have hfi := hb1.symm.trans hb2
    rw [Option.bind_some] at h0 ⊢
    refine (congrArg (fun o : Option Nat => Option.bind o _) hfi).trans ?_
    revert h0
    cases hi : (u.vm.classes.findIdx? fun (x : Class) => match x.kind with | .array component _ => component == comp | _ => false) with
    | none =>
      intro h0
      cases h0
    | some c =>
      intro h1
      first | (dsimp only [Option.bind_some] at h1 ⊢) | (simp only [Option.bind_some] at h1 ⊢)
      revert h1
      cases hk : u.vm.classes[c]? with
      | none => intro h1; simp at h1
      | some k =>
        obtain ⟨k', hk', he⟩ := hvm.2.2 _ _ hk
        intro h1
        have hkd : k'.kind = k.kind := by rw [he]
        rw [hk']
        simp only [Option.map_some, hkd] at h1 ⊢
        rw [hvm.findClass]
        exact h1
theorem tr_UK.moved {dC : Nat → ClassId} {dI : Nat → Nat → Nat} {D : Nat → ClassId} {s U : State} (hW : s.WarmedH U.vm) (h : tr_UK dC dI D s) : tr_UK dC dI D U := ⟨va_K.moved hW.alike h.1, va_AO.moved hW.alike h.2.1, va_AOA.moved hW.alike h.2.2.1, fun q hq => va_Nw.warmM hW (h.2.2.2 q hq)⟩
abbrev tr_UR (lev mc ms : Nat) : Room := { frames := 10 * lev, cells := mc, slots := ms, locals := 200 * lev }
def tr_UQ (dC : Nat → ClassId) (dI : Nat → Nat → Nat) (B : Nat) (D : Nat → ClassId) (n : Nat) (f : Nat → tr_K) : Array Value → State → Outcome → State → Prop := fun _ st oc t => oc = .returned none ∧ va_P (dC, dI) vwCl (tr_w B D n f) t.heap ∧ t.heap.size = B + n + 1 ∧ va_F (fun q => B < q) st t
/-- code, locals, own class, level, cells and slots made, how many cells there are at first, and then, what they are then -/
abbrev tr_UX : Type := ByteArray × Nat × String × Nat × Nat × Nat × Nat × Nat × (Nat → tr_K)
def tr_UW (X : tr_UX) (p : Program) (l : Launch) (e : Env) (s : State) (m : MethodId) (args : Array Value) (below : List Frame) (meth : Method) (c : Code) (dC : Nat → ClassId) (dI : Nat → Nat → Nat) (B : Nat) (D : Nat → ClassId) : Nat → tr_L → List Value → Nat → (Nat → tr_K) → Nat → Nat → Prop := fun pc lv st n f cells slots =>
  ∀ (ls : Array Slot) (H : Heap) (locs : List Loc), tr_has ls X.2.1 B lv → va_P (dC, dI) vwCl (tr_w B D n f) H → va_S (fun q => B < q) s.heap H locs →
    W p l e (tr_UR X.2.2.2.1 X.2.2.2.2.1 X.2.2.2.2.2.1) s m args below meth c H locs cells slots (MQ below (tr_UQ dC dI B D X.2.2.2.2.2.2.2.1 X.2.2.2.2.2.2.2.2) args s X.2.2.2.2.1 X.2.2.2.2.2.1 (fun q => B < q)) (F0 m pc ls (st.map (tr_v B)))
abbrev tr_UT : Type := Nat → tr_L → List Value → Nat → (Nat → tr_K) → Nat → Nat → Prop
def tr_UOk (X : tr_UX) (Wt : tr_UT) : Prop := ∃ (p : Program) (l : Launch) (e : Env) (s : State) (m : MethodId) (args : Array Value) (below : List Frame) (meth : Method) (c : Code) (dC : Nat → ClassId) (dI : Nat → Nat → Nat) (B : Nat) (D : Nat → ClassId),
  p.tables.exec = Jvm.exec ∧ c.code = X.1 ∧ c.maxLocals = X.2.1 ∧ s.vm.findClass X.2.2.1 = some m.cls ∧ (∀ w ∈ tr_tbl, w.before args s = true) ∧ meth.sig.returnType = none ∧ meth.locks = false ∧ meth.name = "<init>" ∧ (tr_UK dC dI D s ∧ s.heap.size = B + X.2.2.2.2.2.2.1 + 1) ∧ Wt = tr_UW X p l e s m args below meth c dC dI B D
def tr_U (X : tr_UX) (Wt : tr_UT) (pc : Nat) (lv : tr_L) (st : List Value) (n : Nat) (f : Nat → tr_K) (cells slots : Nat) : Prop := tr_UOk X Wt → Wt pc lv st n f cells slots
def tr_UPc (dC : Nat → ClassId) (dI : Nat → Nat → Nat) (B : Nat) (D : Nat → ClassId) (av : List Value) (n : Nat) (f : Nat → tr_K) : Array Value → State → Prop :=
  va_Pc (av.map (tr_v B)) (fun U => va_P (dC, dI) vwCl (tr_w B D n f) U.heap ∧ U.heap.size = B + n + 1 ∧ tr_UK dC dI D U)
/-- a constructor's contract -/
def tr_J (y : MethodName) (X : tr_UX) (av : List Value) (n : Nat) (f : Nat → tr_K) : Prop := ∀ (l : Launch) (dC : Nat → ClassId) (dI : Nat → Nat → Nat) (B : Nat) (D : Nat → ClassId),
  Met l y (Cond.code y X.1 X.2.1 none :: tr_tbl) (tr_UR X.2.2.2.1 X.2.2.2.2.1 X.2.2.2.2.2.1) (tr_UPc dC dI B D av n f) (tr_UQ dC dI B D X.2.2.2.2.2.2.2.1 X.2.2.2.2.2.2.2.2) X.2.2.2.2.1 X.2.2.2.2.2.1 (fun q => B < q)
theorem tr_J.of {y : MethodName} {X : tr_UX} {av : List Value} {n : Nat} {f : Nat → tr_K} (hy : plainName y.cls = true) (hown : X.2.2.1 = y.cls) (hnm : y.name = "<init>") (hn0 : X.2.2.2.2.2.2.1 = n) (hn : tr_wd av ≤ X.2.1) (h : ∀ Wt, tr_U X Wt 0 (tr_args 0 av) [] n f 0 0) : tr_J y X av n f := by
  intro l dC dI B D
  refine Met.ofW (cc := X.1) (maxL := X.2.1) (ret := none) hy rfl ?_
  intro p e s m args below meth c s₁ Bd hml hv
  obtain ⟨rfl, hP, hz, hK⟩ := hv
  have ok : tr_UOk X (tr_UW X p l e s m (av.map (tr_v B)).toArray below meth c dC dI B D) := ⟨p, l, e, s, m, (av.map (tr_v B)).toArray, below, meth, c, dC, dI, B, D, Bd.exec, Bd.bytes, hml, by rw [hown]; exact findClass_of_methodNamed Bd.named, fun w hw => atoms_spec (ws := Cond.code y X.1 X.2.1 none :: tr_tbl) Bd.pre w (List.mem_cons_of_mem _ hw), Bd.returns, Bd.notSynchronized, by rw [(name_of_methodNamed Bd.named Bd.method).1]; exact hnm, ⟨hK, by rw [hn0]; exact hz⟩, rfl⟩
  have k := h _ ok
  have hl := lv_entry (av.map (tr_v B)) (n := X.2.1) (by rw [tr_sl_len]; exact hn)
  rw [lg_entry_eq]
  exact k _ s.heap [] ⟨hl.1, hl.2.1, fun i v hi => hl.2.2 (i, tr_v B v) (tr_args_gl B av 0 i v hi)⟩ hP va_S.rf
theorem tr_ublind {dC : Nat → ClassId} {dI : Nat → Nat → Nat} {B : Nat} {D : Nat → ClassId} {av : List Value} {n : Nat} {f : Nat → tr_K} : FrameBlind (tr_UPc dC dI B D av n f) := by
  intro a U g mk h
  obtain ⟨h0, h1, h2, h3⟩ := h
  exact ⟨h0, h1, h2, tr_UK.moved (s := U) (U := U.calling g mk a) (State.WarmedH.refl U) h3⟩
theorem tr_size {G : va_G} {cl : List vw_C} {B : Nat} {D : Nat → ClassId} {n n0 : Nat} {f : Nat → tr_K} {p : Program} {l : Launch} {e : Env} {R : Room} {s : State} {m : MethodId} {args : Array Value} {below : List Frame} {meth : Method} {c : Code} {H : Heap} {locs : List Loc} {cells slots : Nat} {Q : State → Prop} {g : JFrame} (hP : va_P G cl (tr_w B D n f) H) (h0 : s.heap.size = B + n0 + 1) (hn : cells + n0 = n) (hp : 0 < n) (k : H.size = B + n + 1 → W p l e R s m args below meth c H locs cells slots Q g) : W p l e R s m args below meth c H locs cells slots Q g := by
  intro T hT Xs
  have h1 := Xs.heapSize
  rw [hT, h0] at h1
  have h2 := (hP (n - 1) _ (tr_w_at hp (Nat.le_refl n))).lt
  have h3 : B + n < H.size := h2
  exact k (by omega) T hT Xs
def tr_rows (f : Nat → tr_K) (n1 N K : Nat) : Nat → tr_K := fun b => if b = n1 then .inr (.inl (4, N, fun i => if i < N then n1 + 1 + i else 0)) else if n1 < b ∧ b ≤ n1 + N then .inl (0, K, fun _ => 0) else f b
theorem tr_rows_s {f : Nat → tr_K} {n1 N K : Nat} : tr_rows f n1 N K n1 = .inr (.inl (4, N, fun i => if i < N then n1 + 1 + i else 0)) := if_pos rfl
theorem tr_rows_o {f : Nat → tr_K} {n1 N K a : Nat} (h : a < n1) : tr_rows f n1 N K a = f a := by
  unfold tr_rows
  rw [if_neg (by omega), if_neg (by omega)]
theorem tr_rows_r {f : Nat → tr_K} {n1 N K a : Nat} (h : n1 < a) (h2 : a ≤ n1 + N) : tr_rows f n1 N K a = .inl (0, K, fun _ => 0) := by
  unfold tr_rows
  rw [if_neg (by omega), if_pos ⟨h, h2⟩]
section TRU
variable {X : tr_UX} {Wt : tr_UT} {pc : Nat} {lv : tr_L} {st : List Value} {n : Nat} {f : Nat → tr_K} {cells slots : Nat}

theorem tr_U.iconst {n0 : Int} {v : Int32} (hd : decode X.1 pc = .ok (.iconst n0, 1)) (hv : Int32.ofInt n0 = v) (h : tr_U X Wt (pc + 1) lv (.int v :: st) n f cells slots) : tr_U X Wt pc lv (st) n f cells slots := by
  intro ok
  have k := h ok
  obtain ⟨p, l, e, s, m, args, below, meth, c, dC, dI, B, D, hx, hb, hml, hown, hts, hret, hlk, hnm, hK, hW⟩ := ok
  rw [hW] at k ⊢
  intro ls H locs hl hP hS
  exact lv_iconst hx hb hd hv (k ls H locs hl hP hS)
theorem tr_U.bipush {n0 : Int} {v : Int32} (hd : decode X.1 pc = .ok (.bipush n0, 2)) (hv : (Int8.ofInt n0).toInt32 = v) (h : tr_U X Wt (pc + 2) lv (.int v :: st) n f cells slots) : tr_U X Wt pc lv (st) n f cells slots := by
  intro ok
  have k := h ok
  obtain ⟨p, l, e, s, m, args, below, meth, c, dC, dI, B, D, hx, hb, hml, hown, hts, hret, hlk, hnm, hK, hW⟩ := ok
  rw [hW] at k ⊢
  intro ls H locs hl hP hS
  exact lv_bipush hx hb hd hv (k ls H locs hl hP hS)
theorem tr_U.sipush {n0 : Int} {v : Int32} (hd : decode X.1 pc = .ok (.sipush n0, 3)) (hv : (Int16.ofInt n0).toInt32 = v) (h : tr_U X Wt (pc + 3) lv (.int v :: st) n f cells slots) : tr_U X Wt pc lv (st) n f cells slots := by
  intro ok
  have k := h ok
  obtain ⟨p, l, e, s, m, args, below, meth, c, dC, dI, B, D, hx, hb, hml, hown, hts, hret, hlk, hnm, hK, hW⟩ := ok
  rw [hW] at k ⊢
  intro ls H locs hl hP hS
  exact lv_sipush hx hb hd hv (k ls H locs hl hP hS)
theorem tr_U.lconst {n0 : Fin 2} {v : Int64} (hd : decode X.1 pc = .ok (.lconst n0, 1)) (hv : Int64.ofNat (n0 : Nat) = v) (h : tr_U X Wt (pc + 1) lv (.long v :: st) n f cells slots) : tr_U X Wt pc lv (st) n f cells slots := by
  intro ok
  have k := h ok
  obtain ⟨p, l, e, s, m, args, below, meth, c, dC, dI, B, D, hx, hb, hml, hown, hts, hret, hlk, hnm, hK, hW⟩ := ok
  rw [hW] at k ⊢
  intro ls H locs hl hP hS
  exact lv_lconst hx hb hd hv (k ls H locs hl hP hS)
theorem tr_U.null  (hd : decode X.1 pc = .ok (.aconst_null, 1)) (h : tr_U X Wt (pc + 1) lv (.ref 0 :: st) n f cells slots) : tr_U X Wt pc lv (st) n f cells slots := by
  intro ok
  have k := h ok
  obtain ⟨p, l, e, s, m, args, below, meth, c, dC, dI, B, D, hx, hb, hml, hown, hts, hret, hlk, hnm, hK, hW⟩ := ok
  rw [hW] at k ⊢
  intro ls H locs hl hP hS
  exact lv_null hx hb hd (k ls H locs hl hP hS)
theorem tr_U.ldc {index : Nat} {v : Int32} (hw : Cond.constant X.2.2.1 index v ∈ tr_tbl) (hd : decode X.1 pc = .ok (.ldc index, 2)) (h : tr_U X Wt (pc + 2) lv (.int v :: st) n f cells slots) : tr_U X Wt pc lv st n f cells slots := by
  intro ok
  have k := h ok
  obtain ⟨p, l, e, s, m, args, below, meth, c, dC, dI, B, D, hx, hb, hml, hown, hts, hret, hlk, hnm, hK, hW⟩ := ok
  rw [hW] at k ⊢
  intro ls H locs hl hP hS
  exact lv_ldc hx hb hown (hts _ hw) hd (k ls H locs hl hP hS)
theorem tr_U.iload_n {q : Fin 4} {i : Nat} {x : Int32} (hd : decode X.1 pc = .ok (.iload_n q, 1)) (hq : (q : Nat) = i) (hi : tr_gl lv i = some (.int x)) (h : tr_U X Wt (pc + 1) lv (.int x :: st) n f cells slots) : tr_U X Wt pc lv st n f cells slots := by
  intro ok
  have k := h ok
  obtain ⟨p, l, e, s, m, args, below, meth, c, dC, dI, B, D, hx, hb, hml, hown, hts, hret, hlk, hnm, hK, hW⟩ := ok
  rw [hW] at k ⊢
  intro ls H locs hl hP hS
  exact lv_iload_n hx hb hd hq (hl.2.2 i _ hi) (k ls H locs hl hP hS)
theorem tr_U.aload_n {q : Fin 4} {i a : Nat} (hd : decode X.1 pc = .ok (.aload_n q, 1)) (hq : (q : Nat) = i) (hi : tr_gl lv i = some (.ref a)) (ha : 0 < a) (h : tr_U X Wt (pc + 1) lv (.ref a :: st) n f cells slots) : tr_U X Wt pc lv st n f cells slots := by
  intro ok
  have k := h ok
  obtain ⟨p, l, e, s, m, args, below, meth, c, dC, dI, B, D, hx, hb, hml, hown, hts, hret, hlk, hnm, hK, hW⟩ := ok
  rw [hW] at k ⊢
  intro ls H locs hl hP hS
  have hj := hl.2.2 i _ hi
  have k2 := k ls H locs hl hP hS
  rw [List.map_cons] at k2
  rw [tr_v_ref ha] at hj k2
  exact lv_aload_n hx hb hd hq hj k2
theorem tr_U.istore_n {q : Fin 4} {i : Nat} {x : Int32} (hd : decode X.1 pc = .ok (.istore_n q, 1)) (hq : (q : Nat) = i) (hn : i < X.2.1) (hk : tr_ok1 lv i = true) (h : tr_U X Wt (pc + 1) ((i, some (.int x)) :: lv) st n f cells slots) : tr_U X Wt pc lv (.int x :: st) n f cells slots := by
  intro ok
  have k := h ok
  obtain ⟨p, l, e, s, m, args, below, meth, c, dC, dI, B, D, hx, hb, hml, hown, hts, hret, hlk, hnm, hK, hW⟩ := ok
  rw [hW] at k ⊢
  intro ls H locs hl hP hS
  exact lv_istore_n hx hb hd hq hl.list hn rfl (fun ls' hl' => k ls' H locs (hl.st1 hk hl') hP hS)
theorem tr_U.iinc {i : Nat} {n0 : Int} {x v : Int32} (hd : decode X.1 pc = .ok (.iinc i n0, 3)) (hi : tr_gl lv i = some (.int x)) (hv : x + Int32.ofInt n0 = v) (hk : tr_ok1 lv i = true) (h : tr_U X Wt (pc + 3) ((i, some (.int v)) :: lv) st n f cells slots) : tr_U X Wt pc lv st n f cells slots := by
  intro ok
  have k := h ok
  obtain ⟨p, l, e, s, m, args, below, meth, c, dC, dI, B, D, hx, hb, hml, hown, hts, hret, hlk, hnm, hK, hW⟩ := ok
  rw [hW] at k ⊢
  intro ls H locs hl hP hS
  have hm : (i, Value.int x) ∈ tr_list X.2.1 B lv := tr_list_mem.mpr ⟨_, hl.lt hi, hi, rfl⟩
  obtain ⟨q, hq⟩ := List.getElem?_of_mem hm
  exact lv_iinc (k := q) (v := v) hx hb hd hl.list hq hv (hl.lt hi) rfl (fun ls' hl' => k ls' H locs (hl.st1 hk hl') hP hS)
theorem tr_U.goto {off : Int} {tgt : Nat} (hd : decode X.1 pc = .ok (.goto off, 3)) (ht : (pc : Int) + off = (tgt : Int)) (h : tr_U X Wt tgt lv st n f cells slots) : tr_U X Wt pc lv st n f cells slots := by
  intro ok
  have k := h ok
  obtain ⟨p, l, e, s, m, args, below, meth, c, dC, dI, B, D, hx, hb, hml, hown, hts, hret, hlk, hnm, hK, hW⟩ := ok
  rw [hW] at k ⊢
  intro ls H locs hl hP hS
  exact lv_goto hx hb hd ht (k ls H locs hl hP hS)
theorem tr_U.icmp_ge_n {x y : Int32} {off : Int} {tgt : Nat} (hd : decode X.1 pc = .ok (.if_icmp .ge off, 3)) (ht : (pc : Int) + off = (tgt : Int)) (hc : ¬ y ≤ x) (h : tr_U X Wt (pc + 3) lv st n f cells slots) : tr_U X Wt pc lv (.int y :: .int x :: st) n f cells slots := by
  intro ok
  have k := h ok
  obtain ⟨p, l, e, s, m, args, below, meth, c, dC, dI, B, D, hx, hb, hml, hown, hts, hret, hlk, hnm, hK, hW⟩ := ok
  rw [hW] at k ⊢
  intro ls H locs hl hP hS
  exact lv_icmp_ge hx hb hd ht (fun q => absurd q hc) (fun _ => k ls H locs hl hP hS)
theorem tr_U.icmp_ge_y {x y : Int32} {off : Int} {tgt : Nat} (hd : decode X.1 pc = .ok (.if_icmp .ge off, 3)) (ht : (pc : Int) + off = (tgt : Int)) (hc : y ≤ x) (h : tr_U X Wt tgt lv st n f cells slots) : tr_U X Wt pc lv (.int y :: .int x :: st) n f cells slots := by
  intro ok
  have k := h ok
  obtain ⟨p, l, e, s, m, args, below, meth, c, dC, dI, B, D, hx, hb, hml, hown, hts, hret, hlk, hnm, hK, hW⟩ := ok
  rw [hW] at k ⊢
  intro ls H locs hl hP hS
  exact lv_icmp_ge hx hb hd ht (fun _ => k ls H locs hl hP hS) (fun q => absurd hc q)
theorem tr_U.dup {v : Value} (hc : v.category = 1) (hd : decode X.1 pc = .ok (.dup, 1)) (h : tr_U X Wt (pc + 1) lv (v :: v :: st) n f cells slots) : tr_U X Wt pc lv (v :: st) n f cells slots := by
  intro ok
  have k := h ok
  obtain ⟨p, l, e, s, m, args, below, meth, c, dC, dI, B, D, hx, hb, hml, hown, hts, hret, hlk, hnm, hK, hW⟩ := ok
  rw [hW] at k ⊢
  intro ls H locs hl hP hS
  exact lv_dup hx hb hd ((tr_cat B v).trans hc) (k ls H locs hl hP hS)
theorem tr_U.get {a ci k index : Nat} {vs : List Value} {v : Value} {ty : FieldType} {fin : Bool} (hf : tr_fl X.2.2.1 index ci k ty fin) (ha : 0 < a) (han : a ≤ n) (he : f a = .inr (.inr (ci, vs))) (hv : vs[k]? = some v) (hd : decode X.1 pc = .ok (.getfield index, 3)) (h : tr_U X Wt (pc + 3) lv (v :: st) n f cells slots) : tr_U X Wt pc lv (.ref a :: st) n f cells slots := by
  intro ok
  have kk := h ok
  obtain ⟨p, l, e, s, m, args, below, meth, c, dC, dI, B, D, hx, hb, hml, hown, hts, hret, hlk, hnm, hK, hW⟩ := ok
  rw [hW] at kk ⊢
  intro ls H locs hl hP hS
  obtain ⟨C, T, Nf, ty0, h1, h2, h3, h4, h5, h6, h7, h8, h9⟩ := hf
  have hat := tr_w_at (B := B) (D := D) (f := f) ha han
  rw [he] at hat
  show W _ _ _ _ _ _ _ _ _ _ _ _ _ _ _ (F0 m pc ls (tr_v B (.ref a) :: st.map (tr_v B)))
  rw [tr_v_ref ha]
  exact va_get hx hb hts h2 hown hK.1.1 hP (a - 1) hat h1 k h3 (hts _ h4) (fun x q => by rw [h5] at q; exact q) (by rw [List.getElem?_map, hv]; rfl) hd (kk ls H locs hl hP hS)

theorem tr_U.put {a ci k index : Nat} {vs : List Value} {v : Value} {ty : FieldType} (hf : tr_fl X.2.2.1 index ci k ty false) (ha : 0 < a) (han : a ≤ n) (he : f a = .inr (.inr (ci, vs))) (hn : ∀ B, narrow ty (tr_v B v) = tr_v B v ∧ fits ty (tr_v B v) = true) (hlen : k < vs.length) (hd : decode X.1 pc = .ok (.putfield index, 3)) (h : tr_U X Wt (pc + 3) lv st n (tr_up f a (.inr (.inr (ci, vs.set k v)))) cells slots) : tr_U X Wt pc lv (v :: .ref a :: st) n f cells slots := by
  intro ok
  have kk := h ok
  obtain ⟨p, l, e, s, m, args, below, meth, c, dC, dI, B, D, hx, hb, hml, hown, hts, hret, hlk, hnm, hK, hW⟩ := ok
  rw [hW] at kk ⊢
  intro ls H locs hl hP hS
  obtain ⟨C, T, Nf, ty0, h1, h2, h3, h4, h5, h6, h7, h8, h9⟩ := hf
  have hat := tr_w_at (B := B) (D := D) (f := f) ha han
  rw [he] at hat
  show W _ _ _ _ _ _ _ _ _ _ _ _ _ _ _ (F0 m pc ls (tr_v B v :: tr_v B (.ref a) :: st.map (tr_v B)))
  rw [tr_v_ref ha]
  have hzz : ∀ H1 : Heap, va_P (dC, dI) vwCl ((tr_w B D n f).set (a - 1) (B + a, .inr (ci, (vs.map (tr_v B)).set k (tr_v B v)))) H1 → va_P (dC, dI) vwCl (tr_w B D n (tr_up f a (.inr (.inr (ci, vs.set k v))))) H1 := fun H1 h => by
    have e := tr_w_set (B := B) (D := D) (n := n) (f := f) (a := a) (x := .inr (.inr (ci, vs.set k v))) ha
    rw [← e]
    have e2 : tr_kc B D (.inr (.inr (ci, vs.set k v))) = .inr (ci, (vs.map (tr_v B)).set k (tr_v B v)) := by
      show (Sum.inr (ci, (vs.set k v).map (tr_v B)) : va_E) = _
      rw [List.map_set]
    rw [e2]
    exact h
  refine va_put hx hb hts h2 ty0 h6 h7 hown hK.1.1 hP tr_w_D hS (a - 1) hat h1 k h3 (hts _ h4) (fun x q => by rw [h5] at q; exact q) h8 h9 (hn B).1 (hn B).2 (by rw [List.length_map]; exact hlen) hd (fun H1 locs1 hP1 _ hS1 => ?_)
  exact kk ls H1 locs1 hl (hzz H1 hP1) hS1
theorem tr_U.putF {a ci k index : Nat} {vs : List Value} {v : Value} {ty : FieldType} (hf : tr_fl X.2.2.1 index ci k ty true) (ha : 0 < a) (han : a ≤ n) (he : f a = .inr (.inr (ci, vs))) (hn : ∀ B, narrow ty (tr_v B v) = tr_v B v ∧ fits ty (tr_v B v) = true) (hlen : k < vs.length) (hcl : ∀ C T Nf, vwCl[ci]? = some (C, T, Nf) → C = X.2.2.1) (hd : decode X.1 pc = .ok (.putfield index, 3)) (h : tr_U X Wt (pc + 3) lv st n (tr_up f a (.inr (.inr (ci, vs.set k v)))) cells slots) : tr_U X Wt pc lv (v :: .ref a :: st) n f cells slots := by
  intro ok
  have kk := h ok
  obtain ⟨p, l, e, s, m, args, below, meth, c, dC, dI, B, D, hx, hb, hml, hown, hts, hret, hlk, hnm, hK, hW⟩ := ok
  rw [hW] at kk ⊢
  intro ls H locs hl hP hS
  obtain ⟨C, T, Nf, ty0, h1, h2, h3, h4, h5, h6, h7, h8, h9⟩ := hf
  have hat := tr_w_at (B := B) (D := D) (f := f) ha han
  rw [he] at hat
  show W _ _ _ _ _ _ _ _ _ _ _ _ _ _ _ (F0 m pc ls (tr_v B v :: tr_v B (.ref a) :: st.map (tr_v B)))
  rw [tr_v_ref ha]
  have hzz : ∀ H1 : Heap, va_P (dC, dI) vwCl ((tr_w B D n f).set (a - 1) (B + a, .inr (ci, (vs.map (tr_v B)).set k (tr_v B v)))) H1 → va_P (dC, dI) vwCl (tr_w B D n (tr_up f a (.inr (.inr (ci, vs.set k v))))) H1 := fun H1 h => by
    have e := tr_w_set (B := B) (D := D) (n := n) (f := f) (a := a) (x := .inr (.inr (ci, vs.set k v))) ha
    rw [← e]
    have e2 : tr_kc B D (.inr (.inr (ci, vs.set k v))) = .inr (ci, (vs.map (tr_v B)).set k (tr_v B v)) := by
      show (Sum.inr (ci, (vs.set k v).map (tr_v B)) : va_E) = _
      rw [List.map_set]
    rw [e2]
    exact h
  refine va_putF hx hb hts h2 ty0 h6 h7 hown hK.1.1 hP tr_w_D hS (a - 1) hat h1 k h3 (hts _ h4) (fun x q => by rw [h5] at q; exact q) h8 hnm (by rw [h5]; exact hcl _ _ _ h1) h9 (hn B).1 (hn B).2 (by rw [List.length_map]; exact hlen) hd (fun H1 locs1 hP1 _ hS1 => ?_)
  exact kk ls H1 locs1 hl (hzz H1 hP1) hS1
theorem tr_U.newc {ci index Nf : Nat} {C : String} {T : u_T} {vs : List Value} {n1 : Nat} (ty : Nat → FieldType) (hcl : vwCl[ci]? = some (C, T, Nf)) (hin : ∀ w ∈ u_ws C T Nf, w ∈ tr_tbl) (hty : ∀ k, k < Nf → parseFieldDescriptor (T k).2.2.1 = some (ty k)) (hlink : Cond.classLink X.2.2.1 index C ∈ tr_tbl) (hinst : Cond.instantiable C Nf ∈ tr_tbl) (hini : Cond.initialized C ∈ tr_tbl) (hfs : ∀ B j, j < Nf → defaultValue (ty j) = vp_V (vs.map (tr_v B)) j) (hc : cells + 1 ≤ X.2.2.2.2.1 ∧ slots + Nf ≤ X.2.2.2.2.2.1) (hn : cells + X.2.2.2.2.2.2.1 = n ∧ 0 < n ∧ n + 1 = n1) (hd : decode X.1 pc = .ok (.new index, 3)) (h : tr_U X Wt (pc + 3) lv (.ref n1 :: st) n1 (tr_up f n1 (.inr (.inr (ci, vs)))) (cells + 1) (slots + Nf)) : tr_U X Wt pc lv st n f cells slots := by
  intro ok
  have kk := h ok
  obtain ⟨p, l, e, s, m, args, below, meth, c, dC, dI, B, D, hx, hb, hml, hown, hts, hret, hlk, hnm, hK, hW⟩ := ok
  rw [hW] at kk ⊢
  intro ls H locs hl hP hS
  obtain ⟨hn1, hn2, hn3⟩ := hn
  subst hn3
  refine tr_size hP hK.2 hn1 hn2 (fun hz => ?_)
  have hKn := hK.1.1.1 ci _ hcl
  refine W.newcK hx hb hown (hts _ hlink) (hts _ hinst) (hts _ hini) rfl hd hc.1 hc.2 hKn.2.1 rfl fun H1 kC hkC e1 z1 o1 => ?_
  have kk2 := kk ls H1 locs hl (tr_w_grow hP hz o1 (fun a ha1 ha2 => tr_up_o (by omega)) (fun a ha1 ha2 => by
    have : a = n + 1 := by omega
    subst this
    rw [tr_up_s]
    rw [hz] at e1
    exact ⟨_, hcl, (u_born ty hts hin hKn hkC e1 hty).to (hfs B)⟩)) ⟨Nat.le_trans hS.1 (by omega), fun x h1 h2 => (o1 x (Nat.lt_of_lt_of_le h1 hS.1)).trans (hS.2.1 x h1 h2), hS.2.2⟩
  rw [List.map_cons, tr_v_ref (Nat.succ_pos n)] at kk2
  have e : H.size = B + (n + 1) := by omega
  rw [e]
  exact kk2
theorem tr_U.newa {t n1 N : Nat} {v : Int32} {atype : ArrayType} {ty : FieldType} (hty : newarray.typeOf atype = ty) (harr : Cond.arrayClass ty ∈ tr_tbl) (ht : ∀ D : Nat → ClassId, (tr_tys D)[t]? = some (D t, ty)) (hdf : defaultValue ty = .int 0) (hra : ∀ (U : State) (cA : ClassId), va_RA U cA ty → U.vm.findClass ("[" ++ ty.toString) = some cA) (hv : ¬ v < 0) (hN : v.toNatClampNeg = N) (hby : N * componentBytes ty ≤ 536870912) (hc : cells + 1 ≤ X.2.2.2.2.1 ∧ slots + N ≤ X.2.2.2.2.2.1) (hn : cells + X.2.2.2.2.2.2.1 = n ∧ 0 < n ∧ n + 1 = n1) (hd : decode X.1 pc = .ok (.newarray atype, 2)) (h : tr_U X Wt (pc + 2) lv (.ref n1 :: st) n1 (tr_up f n1 (.inl (t, N, fun _ => 0))) (cells + 1) (slots + N)) : tr_U X Wt pc lv (.int v :: st) n f cells slots := by
  intro ok
  have kk := h ok
  obtain ⟨p, l, e, s, m, args, below, meth, c, dC, dI, B, D, hx, hb, hml, hown, hts, hret, hlk, hnm, hK, hW⟩ := ok
  rw [hW] at kk ⊢
  intro ls H locs hl hP hS
  obtain ⟨hn1, hn2, hn3⟩ := hn
  subst hn3
  subst hty
  refine tr_size hP hK.2 hn1 hn2 (fun hz => ?_)
  refine va_newaK hx hb (hts _ harr) rfl hd rfl hv hN hby hc.1 hc.2 rfl fun H1 cA e1 z1 o1 hAr hNm => ?_
  have hcA : cA = D t := Option.some.inj (hNm.symm.trans (hra _ _ (hK.1.1.2 t _ (ht D)).2))
  subst hcA
  have kk2 := kk ls H1 locs hl (tr_w_grow hP hz o1 (fun a ha1 ha2 => tr_up_o (by omega)) (fun a ha1 ha2 => by
    have : a = n + 1 := by omega
    subst this
    rw [tr_up_s]
    rw [hz] at e1
    show H1[B + (n + 1)]? = some (vp_cell (D t) (N, .inl fun _ => 0))
    rw [vp_cell_i]
    rw [hdf] at e1
    exact e1)) ⟨Nat.le_trans hS.1 (by omega), fun x h1 h2 => (o1 x (Nat.lt_of_lt_of_le h1 hS.1)).trans (hS.2.1 x h1 h2), hS.2.2⟩
  rw [List.map_cons, tr_v_ref (Nat.succ_pos n)] at kk2
  have e : H.size = B + (n + 1) := by omega
  rw [e]
  exact kk2
theorem tr_U.newq {n1 N index : Nat} {v : Int32} (hlink : Cond.classLink X.2.2.1 index RX1 ∈ tr_tbl) (hv : ¬ v < 0) (hN : v.toNatClampNeg = N) (hby : N * 4 ≤ 536870912) (hc : cells + 1 ≤ X.2.2.2.2.1 ∧ slots + N ≤ X.2.2.2.2.2.1) (hn : cells + X.2.2.2.2.2.2.1 = n ∧ 0 < n ∧ n + 1 = n1) (hd : decode X.1 pc = .ok (.anewarray index, 3)) (h : tr_U X Wt (pc + 3) lv (.ref n1 :: st) n1 (tr_up f n1 (.inr (.inl (3, N, fun _ => 0)))) (cells + 1) (slots + N)) : tr_U X Wt pc lv (.int v :: st) n f cells slots := by
  intro ok
  have kk := h ok
  obtain ⟨p, l, e, s, m, args, below, meth, c, dC, dI, B, D, hx, hb, hml, hown, hts, hret, hlk, hnm, hK, hW⟩ := ok
  rw [hW] at kk ⊢
  intro ls H locs hl hP hS
  obtain ⟨hn1, hn2, hn3⟩ := hn
  subst hn3
  subst hN
  refine tr_size hP hK.2 hn1 hn2 (fun hz => ?_)
  refine W.anew hx hb hown (hts _ hlink) (va_AO.use hK.1.2.1) rfl hd rfl hv hby hc.1 hc.2 fun cA kA comp f1 f2 f3 f4 => ?_
  generalize hH1 : H.push ({ cls := cA, slots := Array.replicate v.toNatClampNeg .null, vm := .none } : Cell) = H1
  have z1 : H1.size = H.size + 1 := by rw [← hH1, Array.size_push]
  have e1 : H1[H.size]? = some (arrV cA v.toNatClampNeg (fun _ => .null)) := by rw [← hH1, Array.getElem?_push_size, ← arrV_new]
  have o1 : ∀ q, q < H.size → H1[q]? = H[q]? := fun q hq => by rw [← hH1, Array.getElem?_push, if_neg (Nat.ne_of_lt hq)]
  obtain ⟨kA', comp', g1, g2, g3, g4⟩ : va_RA s (D 3) (.object RX1) := (hK.1.1.2 3 _ rfl).2
  have hcA : cA = D 3 := Option.some.inj (by first | exact f1.symm.trans g4 | exact f2.symm.trans g4 | exact f3.symm.trans g4 | exact f4.symm.trans g4)
  subst hcA
  have kk2 := kk ls H1 locs hl (tr_w_grow hP hz o1 (fun a ha1 ha2 => tr_up_o (by omega)) (fun a ha1 ha2 => by
    have : a = n + 1 := by omega
    subst this
    rw [tr_up_s]
    rw [hz] at e1
    show H1[B + (n + 1)]? = some (vp_cell (D 3) (v.toNatClampNeg, .inr (.inr (.inr (.inr fun i => tr_rf B 0)))))
    rw [vp_cell_q]
    exact e1)) ⟨Nat.le_trans hS.1 (by omega), fun x h1 h2 => (o1 x (Nat.lt_of_lt_of_le h1 hS.1)).trans (hS.2.1 x h1 h2), hS.2.2⟩
  rw [List.map_cons, tr_v_ref (Nat.succ_pos n)] at kk2
  have e : H.size = B + (n + 1) := by omega
  rw [e]
  exact kk2
/-- new int[N][K] -/
theorem tr_U.newm {n1 N K index : Nat} {v u : Int32} (hlink : Cond.classLink X.2.2.1 index ("[" ++ (FieldType.array .int).toString) ∈ tr_tbl) (harr : Cond.arrayClass .int ∈ tr_tbl) (hv : ¬ v < 0) (hu : ¬ u < 0) (hN : v.toNatClampNeg = N) (hK0 : u.toNatClampNeg = K) (hby : N * 4 ≤ 536870912) (hby2 : K * 4 ≤ 536870912) (hc : cells + (1 + N) ≤ X.2.2.2.2.1 ∧ slots + (N + N * K) ≤ X.2.2.2.2.2.1) (hn : cells + X.2.2.2.2.2.2.1 = n ∧ 0 < n ∧ n + 1 = n1) (hd : decode X.1 pc = .ok (.multianewarray index 2, 4)) (h : tr_U X Wt (pc + 4) lv (.ref n1 :: st) (n1 + N) (tr_rows f n1 N K) (cells + 1 + N) (slots + N + N * K)) : tr_U X Wt pc lv (.int u :: .int v :: st) n f cells slots := by
  intro ok
  have kk := h ok
  obtain ⟨p, l, e, s, m, args, below, meth, c, dC, dI, B, D, hx, hb, hml, hown, hts, hret, hlk, hnm, hK, hW⟩ := ok
  rw [hW] at kk ⊢
  intro ls H locs hl hP hS
  obtain ⟨hn1, hn2, hn3⟩ := hn
  subst hn3
  subst hN
  subst hK0
  refine tr_size hP hK.2 hn1 hn2 (fun hz => ?_)
  intro T hT Xs
  obtain ⟨vm₁, cA, comp, -, fA, fC, hO, -, X', step⟩ := Xs.multianewarray2F hx hown (hts _ hlink) (va_AOA.use hK.1.2.2.1) (hts _ harr) (g := F0 m pc ls (.int u :: .int v :: st.map (tr_v B))) rfl (by rw [hb]; exact hd) rfl hv hu hby hby2 (by omega) rfl rfl hc.1 hc.2
  have gA : va_RA s (D 4) (.array .int) := (hK.1.1.2 4 _ rfl).2
  have gI : va_RA s (D 0) .int := (hK.1.1.2 0 _ rfl).2
  have e4 : cA = D 4 := Option.some.inj (fA.symm.trans gA)
  have e0 : comp = D 0 := Option.some.inj (fC.symm.trans gI)
  subst e4
  subst e0
  generalize hF : Jvm.Free.Multi.fill (T.setVm vm₁) (D 4) (D 0) v.toNatClampNeg u.toNatClampNeg (defaultValue .int) v.toNatClampNeg = F at X' step
  have hTh : (T.setVm vm₁).heap = H := hT
  obtain ⟨f1, f2, -, -⟩ := Jvm.Free.Multi.fill_facts (T.setVm vm₁) (D 4) (D 0) v.toNatClampNeg u.toNatClampNeg (defaultValue .int) v.toNatClampNeg
  rw [hF, hTh] at f1 f2
  have hold : ∀ x : Nat, x < H.size → F.heap[x]? = H[x]? := fun x hx => by
    have := Jvm.Free.Multi.fill_old (T.setVm vm₁) (D 4) (D 0) v.toNatClampNeg u.toNatClampNeg (defaultValue .int) (a := x) (by rw [hTh]; exact hx) v.toNatClampNeg
    rw [hF, hTh] at this
    exact this
  have hrow : ∀ j : Nat, j < v.toNatClampNeg → F.heap[H.size + 1 + j]? = some (vp_cell (D 0) (u.toNatClampNeg, .inl fun _ => 0)) := fun j hj => by
    have := Jvm.Free.Multi.fill_inner (T.setVm vm₁) (D 4) (D 0) v.toNatClampNeg u.toNatClampNeg (defaultValue .int) v.toNatClampNeg j hj
    rw [hF, hTh] at this
    rw [this, vp_cell_i]
    exact congrArg some (arrV_new (D 0) u.toNatClampNeg (.int 0))
  have hout : Jvm.Free.Multi.outerC (D 4) v.toNatClampNeg H.size v.toNatClampNeg = vp_cell (D 4) (v.toNatClampNeg, .inr (.inr (.inr (.inr (fun i => if i < v.toNatClampNeg then some (H.size + 1 + i) else none))))) := by
    rw [vp_cell_q]
    exact vr_outer (D 4) v.toNatClampNeg H.size v.toNatClampNeg
  rw [hout] at f2
  have kk2 := kk ls F.heap locs hl (tr_w_grow hP hz hold (fun a ha1 ha2 => tr_rows_o (by omega)) (fun a ha1 ha2 => by
    by_cases ea : a = n + 1
    · subst ea
      rw [tr_rows_s]
      rw [hz] at f2
      show F.heap[B + (n + 1)]? = some (vp_cell (D 4) (v.toNatClampNeg, .inr (.inr (.inr (.inr fun i => tr_rf B (if i < v.toNatClampNeg then n + 1 + 1 + i else 0))))))
      rw [show B + (n + 1) = B + n + 1 by omega, f2, vp_cell_q, vp_cell_q]
      congr 2
      funext i
      by_cases hi : i < v.toNatClampNeg
      · rw [if_pos hi, if_pos hi, tr_rf_v, tr_v_ref (by omega)]
        show Value.ref (B + n + 1 + 1 + i) = Value.ref (B + (n + 1 + 1 + i))
        exact congrArg Value.ref (show (B + n + 1 + 1 + i : Nat) = B + (n + 1 + 1 + i) by omega)
      · rw [if_neg hi, if_neg hi]
        rfl
    · have hr := hrow (a - (n + 2)) (by omega)
      rw [tr_rows_r (by omega) (by omega)]
      rw [show H.size + 1 + (a - (n + 2)) = B + a by omega] at hr
      exact hr)) ⟨by rw [f1]; have := hS.1; omega, fun x h1 h2 => (hold x (Nat.lt_of_lt_of_le h1 hS.1)).trans (hS.2.1 x h1 h2), hS.2.2⟩
  rw [List.map_cons, tr_v_ref (Nat.succ_pos n)] at kk2
  obtain ⟨t, a1, b1⟩ := kk2 F rfl (by
    have e : cells + 1 + v.toNatClampNeg = cells + (1 + v.toNatClampNeg) := by omega
    have e2 : slots + v.toNatClampNeg + v.toNatClampNeg * u.toNatClampNeg = slots + (v.toNatClampNeg + v.toNatClampNeg * u.toNatClampNeg) := by omega
    first | exact X' | (rw [e, e2]; exact X') | (simpa [Nat.add_assoc] using X'))
  refine ⟨t, step t ?_, b1⟩
  have e : T.heap.size = B + (n + 1) := by rw [hT]; omega
  rw [e]
  exact a1
theorem tr_U.objInit {idx a : Nat} (ha : 0 < a) (hlink : Cond.methodLink X.2.2.1 idx Lib.objectInit ∈ tr_tbl) (hinst : Cond.instanceMethod Lib.objectInit ∈ tr_tbl) (hcode : Cond.code Lib.objectInit ⟨#[0xb1]⟩ 1 none ∈ tr_tbl) (hlev : 0 < X.2.2.2.1) (hw : tr_wd st ≤ 8) (hd : decode X.1 pc = .ok (.invokespecial idx, 3)) (h : tr_U X Wt (pc + 3) lv st n f cells slots) : tr_U X Wt pc lv (.ref a :: st) n f cells slots := by
  intro ok
  have kk := h ok
  obtain ⟨p, l, e, s, m, args, below, meth, c, dC, dI, B, D, hx, hb, hml, hown, hts, hret, hlk, hnm, hK, hW⟩ := ok
  rw [hW] at kk ⊢
  intro ls H locs hl hP hS
  show W _ _ _ _ _ _ _ _ _ _ _ _ _ _ _ (F0 m pc ls (tr_v B (.ref a) :: st.map (tr_v B)))
  rw [tr_v_ref ha]
  have h8 := tr_st8 (m := m) (pc := pc) (ls := ls) (B := B) (st0 := .ref (B + a) :: st.map (tr_v B)) hw
  exact W.objInit hx hb hown (hts _ hlink) (hts _ hinst) (hts _ hcode) rfl (hl.1.trans hml.symm) rfl hd (by show 1 ≤ 10 * _; omega) (by show _ ≤ 200 * _; omega) (kk ls H locs hl hP hS)
theorem tr_U.aast {a b t N ci Nf : Nat} {i : Int32} {g : Nat → Nat} {vs : List Value} {T : u_T} (ha : 0 < a ∧ a ≤ n) (hb0 : 0 < b ∧ b ≤ n) (he : f a = .inr (.inl (3, N, g))) (hv : f b = .inr (.inr (0, vs))) (hi : tr_ix i N = true) (hd : decode X.1 pc = .ok (.aastore, 1)) (h : tr_U X Wt (pc + 1) lv st n (tr_up f a (.inr (.inl (3, N, fun j => if j = i.toNatClampNeg then b else g j)))) cells slots) : tr_U X Wt pc lv (.ref b :: .int i :: .ref a :: st) n f cells slots := by
  intro ok
  have kk := h ok
  obtain ⟨p, l, e, s, m, args, below, meth, c, dC, dI, B, D, hx, hb, hml, hown, hts, hret, hlk, hnm, hK, hW⟩ := ok
  rw [hW] at kk ⊢
  intro ls H locs hl hP hS
  have hat := tr_w_at (B := B) (D := D) (f := f) ha.1 ha.2
  have hbt := tr_w_at (B := B) (D := D) (f := f) hb0.1 hb0.2
  rw [he] at hat
  rw [hv] at hbt
  show W _ _ _ _ _ _ _ _ _ _ _ _ _ _ _ (F0 m pc ls (tr_v B (.ref b) :: .int i :: tr_v B (.ref a) :: st.map (tr_v B)))
  rw [tr_v_ref ha.1, tr_v_ref hb0.1]
  refine va_astq hx hb hK.1.1 hP tr_w_D hS (a - 1) 3 (b - 1) 0 (r := (RX1, TX1, 2)) hat rfl hbt rfl (tr_ix_in hi) hd (fun H1 locs1 hP1 _ hS1 => ?_)
  refine kk ls H1 locs1 hl ?_ hS1
  rw [← tr_w_set ha.1]
  have e : tr_kc B D (.inr (.inl (3, N, fun j => if j = i.toNatClampNeg then b else g j))) = .inl (D 3, N, .inr (.inr (.inr (.inr (va_up (fun i => tr_rf B (g i)) i.toNatClampNeg (some (B + b))))))) := by
    show (Sum.inl (D 3, N, Sum.inr (Sum.inr (Sum.inr (Sum.inr fun j => tr_rf B (if j = i.toNatClampNeg then b else g j))))) : va_E) = _
    congr 7
    funext j
    unfold va_up
    by_cases ej : j = i.toNatClampNeg
    · rw [if_pos ej, if_pos ej]
      cases b with
      | zero => exact absurd hb0.1 (by omega)
      | succ b => rfl
    · rw [if_neg ej, if_neg ej]
  rw [e]
  exact hP1
theorem tr_U.iast {a N : Nat} {i v : Int32} {g : Nat → Int32} (ha : 0 < a ∧ a ≤ n) (he : f a = .inl (0, N, g)) (hi : tr_ix i N = true) (hd : decode X.1 pc = .ok (.iastore, 1)) (h : tr_U X Wt (pc + 1) lv st n (tr_up f a (.inl (0, N, upd g i.toNatClampNeg v))) cells slots) : tr_U X Wt pc lv (.int v :: .int i :: .ref a :: st) n f cells slots := by
  intro ok
  have kk := h ok
  obtain ⟨p, l, e, s, m, args, below, meth, c, dC, dI, B, D, hx, hb, hml, hown, hts, hret, hlk, hnm, hK, hW⟩ := ok
  rw [hW] at kk ⊢
  intro ls H locs hl hP hS
  have hat := tr_w_at (B := B) (D := D) (f := f) ha.1 ha.2
  rw [he] at hat
  show W _ _ _ _ _ _ _ _ _ _ _ _ _ _ _ (F0 m pc ls (.int v :: .int i :: tr_v B (.ref a) :: st.map (tr_v B)))
  rw [tr_v_ref ha.1]
  refine va_iast hx hb hK.1.1 hP tr_w_D hS (a - 1) 0 hat rfl (tr_ix_in hi) hd (fun H1 locs1 hP1 _ hS1 => ?_)
  refine kk ls H1 locs1 hl ?_ hS1
  rw [← tr_w_set ha.1]
  exact hP1
theorem tr_U.ret (hd : decode X.1 pc = .ok (.return_, 1)) (hc : cells = X.2.2.2.2.1 ∧ slots = X.2.2.2.2.2.1) (hn : cells + X.2.2.2.2.2.2.1 = n ∧ 0 < n) (he : X.2.2.2.2.2.2.2.1 = n) (hf : X.2.2.2.2.2.2.2.2 = f) : tr_U X Wt pc lv [] n f cells slots := by
  intro ok
  obtain ⟨p, l, e, s, m, args, below, meth, c, dC, dI, B, D, hx, hb, hml, hown, hts, hret, hlk, hnm, hK, hW⟩ := ok
  rw [hW]
  intro ls H locs hl hP hS
  refine tr_size hP hK.2 hn.1 hn.2 (fun hz => ?_)
  rw [hc.1, hc.2]
  exact W.vret hx hb hret (fun t ht hWm => ⟨rfl, by rw [he, hf, ht]; exact hP, by rw [he, ht]; exact hz, hS.F ht⟩) hS.2.2 hd hlk
theorem tr_U.callI {y : MethodName} {Y : tr_UX} {a n0 idx : Nat} {av st0 : List Value} (hJ : tr_J y Y (.ref a :: av) n f) (hcode : Cond.code y Y.1 Y.2.1 none ∈ tr_tbl) (hini : Cond.initialized y.cls ∈ tr_tbl) (hy : y.cls ≠ "java/lang/invoke/MethodHandle" ∧ y.cls ≠ "java/lang/invoke/VarHandle" ∧ (parseMethodDescriptor y.desc).map (fun d => d.parameters.length) = some n0) (hin : y.name = "<init>" ∧ Cond.instanceMethod y ∈ tr_tbl) (hl : Cond.methodLink X.2.2.1 idx y ∈ tr_tbl ∨ (X.2.2.1, idx, y) ∈ tr_nest) (ha : 0 < a) (hlev : Y.2.2.2.1 < X.2.2.2.1 ∧ Y.2.1 ≤ 150) (hlen : av.length = n0) (hw : tr_wd st ≤ 8) (he : st0 = av.reverse ++ .ref a :: st) (hc : cells + Y.2.2.2.2.1 ≤ X.2.2.2.2.1 ∧ slots + Y.2.2.2.2.2.1 ≤ X.2.2.2.2.2.1) (hn : cells + X.2.2.2.2.2.2.1 = n ∧ 0 < n) (hd : decode X.1 pc = .ok (.invokespecial idx, 3))
    (h : tr_U X Wt (pc + 3) lv st Y.2.2.2.2.2.2.2.1 Y.2.2.2.2.2.2.2.2 (cells + Y.2.2.2.2.1) (slots + Y.2.2.2.2.2.1)) : tr_U X Wt pc lv st0 n f cells slots := by
  intro ok
  have kk := h ok
  obtain ⟨p, l, e, s, m, args, below, meth, c, dC, dI, B, D, hx, hb, hml, hown, hts, hret, hlk, hnm, hK, hW⟩ := ok
  rw [hW] at kk ⊢
  intro ls H locs hl0 hP hS
  subst he
  refine tr_size hP hK.2 hn.1 hn.2 (fun hz => ?_)
  have hG : GoodIn tr_tbl (Cond.code y Y.1 Y.2.1 none :: tr_tbl) := tr_goodIn fun w hw => (List.mem_cons.mp hw).elim (fun e => e ▸ hcode) id
  have hpre : ∀ U : State, U.heap = H → s.WarmedH U.vm → tr_UPc dC dI B D (.ref a :: av) n f (Value.ref (B + a) :: av.map (tr_v B)).toArray U := fun U hU hWm => by
    refine ⟨?_, by rw [hU]; exact hP, by rw [hU]; exact hz, tr_UK.moved hWm hK.1⟩
    rw [List.map_cons, tr_v_ref ha]
  have hstk : List.map (tr_v B) (av.reverse ++ .ref a :: st) = (av.map (tr_v B)).reverse ++ .ref (B + a) :: st.map (tr_v B) := by rw [List.map_append, List.map_reverse, List.map_cons, tr_v_ref ha]
  have hroom : (tr_UR Y.2.2.2.1 Y.2.2.2.2.1 Y.2.2.2.2.2.1).frames + 1 ≤ (tr_UR X.2.2.2.1 X.2.2.2.2.1 X.2.2.2.2.2.1).frames ∧ 8 + (Y.2.1 + 11) + (tr_UR Y.2.2.2.1 Y.2.2.2.2.1 Y.2.2.2.2.2.1).locals ≤ (tr_UR X.2.2.2.1 X.2.2.2.2.1 X.2.2.2.2.2.1).locals := ⟨show 10 * _ + 1 ≤ 10 * _ by omega, show 8 + (Y.2.1 + 11) + 200 * _ ≤ 200 * _ by omega⟩
  have hrun : va_Run p l e (tr_UR X.2.2.2.1 X.2.2.2.2.1 X.2.2.2.2.2.1) s m args below meth c H locs cells slots Y.2.2.2.2.1 Y.2.2.2.2.2.1 (F0 m pc ls ((av.reverse ++ .ref a :: st).map (tr_v B))) (st.map (tr_v B)) (tr_UQ dC dI B D Y.2.2.2.2.2.2.2.1 Y.2.2.2.2.2.2.2.2 (Value.ref (B + a) :: av.map (tr_v B)).toArray) (fun q => B < q) := by
    rcases hl with hl | hl
    · exact va_runI (As := av.map (tr_v B)) (b := B + a) ⟨hx, hb, hml, hown, hts⟩ (hJ l dC dI B D) (cwI n0 hts hG rfl rfl rfl (hts _ hini) (hts _ hl) (hts _ hin.2) hin.1 hy hroom) ⟨tr_ublind, hpre⟩ rfl (by rw [List.length_map]; exact hlen) hl0.1 hstk (tr_st8 hw) hd hc
    · exact va_runIN (As := av.map (tr_v B)) (b := B + a) ⟨hx, hb, hml, hown, hts⟩ (hJ l dC dI B D) ⟨va_cnB n0 hts hG rfl rfl rfl (hK.1.2.2.2 _ hl) (hts _ hini) hy hroom, hin.1, hts _ hin.2⟩ ⟨tr_ublind, hpre⟩ rfl (by rw [List.length_map]; exact hlen) hl0.1 hstk (tr_st8 hw) hd hc
  intro T hT Xs
  obtain ⟨v, st₀, t, T', L, h0, X', hL, e1, e2, ⟨hv, hP1, hz1, hz2, hk⟩, stp⟩ := hrun T hT Xs
  have hv : v = none := by
    cases hv
    rfl
  subst hv
  rw [h0] at hz2 hk
  have hS1 : va_S (fun q => B < q) s.heap T'.heap (locs ++ L) := by
    refine ⟨Nat.le_trans hS.1 (by rw [e1]; exact hz2), fun q h1 h2 => by rw [e1, hk q (Nat.lt_of_lt_of_le h1 hS.1) h2]; exact hS.2.1 q h1 h2, fun q hq => ?_⟩
    rcases List.mem_append.mp hq with h | h
    · exact hS.2.2 q h
    · exact hL q h
  rw [← e1] at hP1
  obtain ⟨t2, a1, b1⟩ := kk ls T'.heap (locs ++ L) hl0 hP1 hS1 T' rfl X'
  exact ⟨t2, stp t2 a1, b1⟩
end TRU
