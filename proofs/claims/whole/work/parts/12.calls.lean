
/-! ===== contracts, ends, calls ===== -/
def tr_Pc (dC : Nat → ClassId) (dI : Nat → Nat → Nat) (B : Nat) (D : Nat → ClassId) (sh : Nat → tr_S) (N : Nat) (av : List Value) (M : tr_M) : Array Value → State → Prop :=
  va_Pc (av.map (tr_v B)) (fun U => va_P (dC, dI) vwCl (tr_ws B D sh N M) U.heap ∧ va_K (dC, dI) vwCl (tr_tys D) U ∧ ∀ x ∈ tr_abs, va_Nw (.declares x) U)
def tr_I (y : MethodName) (X : tr_X) (av : List Value) (M : tr_M) (rv : Option Value) (M' : tr_M) : Prop := ∀ (l : Launch) (dC : Nat → ClassId) (dI : Nat → Nat → Nat) (B : Nat) (D : Nat → ClassId),
  Met l y (Cond.code y X.1 X.2.1 X.2.2.2.1 :: tr_tbl) (tr_R X.2.2.2.2.1) (tr_Pc dC dI B D X.2.2.2.2.2.1 X.2.2.2.2.2.2 av M) (tr_Q dC dI B D X.2.2.2.2.2.1 X.2.2.2.2.2.2 rv M') 0 0 (tr_A B X.2.2.2.2.2.2)
def tr_wd (vs : List Value) : Nat := (vs.map fun v => v.category).sum
theorem tr_sl_len (B : Nat) : ∀ vs : List Value, (lg_sl (vs.map (tr_v B))).length = tr_wd vs
  | [] => rfl
  | v :: vs => by
    have ih := tr_sl_len B vs
    unfold lg_sl at ih ⊢
    rw [List.map_cons, List.flatMap_cons, List.length_append, ih]
    unfold tr_wd
    rw [List.map_cons, List.sum_cons, tr_cat]
    congr 1
    rcases lv_cat v with h | h
    · rw [if_neg (by omega), h]; rfl
    · rw [if_pos h, h]; rfl
theorem tr_I.of {ρ : Type} {y : MethodName} {X : tr_X} {av : List Value} {M M' : tr_M} {rv : Option Value} {φ : Option ρ} {Z : ρ → Prop} {r : ρ} (hy : plainName y.cls = true) (hown : X.2.2.1 = y.cls) (hg : tr_good X.2.2.2.2.2.1 X.2.2.2.2.2.2) (hn : tr_wd av ≤ X.2.1)
    (h : ∀ Wt, tr_V X (rv, M', Wt) 0 (tr_args 0 av) [] M φ Z) (hr : φ = some r) (hz : Z r) : tr_I y X av M rv M' := by
  intro l dC dI B D
  refine Met.ofW (cc := X.1) (maxL := X.2.1) (ret := X.2.2.2.1) hy rfl ?_
  intro p e s m args below meth c s₁ Bd hml hv
  obtain ⟨rfl, hP, hK, hAb⟩ := hv
  have ok : tr_Ok X (rv, M', tr_W X rv M' p l e s m (av.map (tr_v B)).toArray below meth c dC dI B D) := ⟨p, l, e, s, m, (av.map (tr_v B)).toArray, below, meth, c, dC, dI, B, D, Bd.exec, Bd.bytes, hml, by rw [hown]; exact findClass_of_methodNamed Bd.named, fun w hw => atoms_spec (ws := Cond.code y X.1 X.2.1 X.2.2.2.1 :: tr_tbl) Bd.pre w (List.mem_cons_of_mem _ hw), Bd.returns, Bd.notSynchronized, hK, hAb, hg, rfl⟩
  have k := h _ ok r hr hz
  have hl := lv_entry (av.map (tr_v B)) (n := X.2.1) (by rw [tr_sl_len]; exact hn)
  rw [lg_entry_eq]
  exact k _ s.heap [] ⟨hl.1, hl.2.1, fun i v hi => hl.2.2 (i, tr_v B v) (tr_args_gl B av 0 i v hi)⟩ hP va_S.rf
/-- a method's own words: its code, that it stands, how many arguments -/
def tr_yk (y : MethodName) (X : tr_X) (n : Nat) : Prop := Cond.code y X.1 X.2.1 X.2.2.2.1 ∈ tr_tbl ∧ Cond.initialized y.cls ∈ tr_tbl ∧ (y.cls ≠ "java/lang/invoke/MethodHandle" ∧ y.cls ≠ "java/lang/invoke/VarHandle" ∧ (parseMethodDescriptor y.desc).map (fun d => d.parameters.length) = some n) ∧ X.2.1 ≤ 150
theorem tr_blind {dC : Nat → ClassId} {dI : Nat → Nat → Nat} {B : Nat} {D : Nat → ClassId} {sh : Nat → tr_S} {N : Nat} {av : List Value} {M : tr_M} : FrameBlind (tr_Pc dC dI B D sh N av M) := by
  intro a U g mk h
  obtain ⟨h0, h1, h2, h3⟩ := h
  exact ⟨h0, h1, va_K.moved (u := U) (U := U.calling g mk a) (Vm.Alike.refl U.vm) h2, fun x hx => va_Nw.warmD (s := U) (U := U.calling g mk a) (State.WarmedH.refl U) (h3 x hx)⟩
theorem tr_pre {dC : Nat → ClassId} {dI : Nat → Nat → Nat} {B : Nat} {D : Nat → ClassId} {sh : Nat → tr_S} {N : Nat} {av : List Value} {M : tr_M} {s : State} {H : Heap} (hP : va_P (dC, dI) vwCl (tr_ws B D sh N M) H) (hK : va_K (dC, dI) vwCl (tr_tys D) s) (hAb : ∀ x ∈ tr_abs, va_Nw (.declares x) s) : ∀ U : State, U.heap = H → s.WarmedH U.vm → tr_Pc dC dI B D sh N av M (av.map (tr_v B)).toArray U :=
  fun U hU hW => ⟨rfl, by rw [hU]; exact hP, va_K.moved hW.alike hK, fun x hx => va_Nw.warmD hW (hAb x hx)⟩
/-- behind a call: the machine goes on at the new memory -/
theorem tr_after {X : tr_X} {rv : Option Value} {M' M1 : tr_M} {p : Program} {l : Launch} {e : Env} {s : State} {m : MethodId} {args a1 : Array Value} {below : List Frame} {meth : Method} {c : Code} {dC : Nat → ClassId} {dI : Nat → Nat → Nat} {B : Nat} {D : Nat → ClassId} {pc : Nat} {lv : tr_L} {st st0 : List Value} {rv1 : Option Value} {ls : Array Slot} {H : Heap} {locs : List Loc}
    (hr : va_Run p l e (tr_R X.2.2.2.2.1) s m args below meth c H locs 0 0 0 0 (F0 m pc ls st0) (st.map (tr_v B)) (tr_Q dC dI B D X.2.2.2.2.2.1 X.2.2.2.2.2.2 rv1 M1 a1) (tr_A B X.2.2.2.2.2.2)) (hl : tr_has ls X.2.1 B lv) (hS : va_S (tr_A B X.2.2.2.2.2.2) s.heap H locs)
    (k : tr_W X rv M' p l e s m args below meth c dC dI B D (pc + 3) lv (rv1.toList ++ st) M1) : W p l e (tr_R X.2.2.2.2.1) s m args below meth c H locs 0 0 (MQ below (tr_Q dC dI B D X.2.2.2.2.2.1 X.2.2.2.2.2.2 rv M') args s 0 0 (tr_A B X.2.2.2.2.2.2)) (F0 m pc ls st0) := by
  intro T hT Xs
  obtain ⟨v, st₀, t, T', L, h0, X', hL, e1, e2, ⟨hv, hP1, hz, hk⟩, stp⟩ := hr T hT Xs
  have hv : v = rv1.map (tr_v B) := by
    cases hv
    rfl
  rw [h0] at hz hk
  have hS1 : va_S (tr_A B X.2.2.2.2.2.2) s.heap T'.heap (locs ++ L) := by
    refine ⟨Nat.le_trans hS.1 (by rw [e1]; exact hz), fun q h1 h2 => by rw [e1, hk q (Nat.lt_of_lt_of_le h1 hS.1) h2]; exact hS.2.1 q h1 h2, fun q hq => ?_⟩
    rcases List.mem_append.mp hq with h | h
    · exact hS.2.2 q h
    · exact hL q h
  rw [← e1] at hP1
  obtain ⟨t2, a1, b1⟩ := k ls T'.heap (locs ++ L) hl hP1 hS1 T' rfl X'
  refine ⟨t2, stp t2 ?_, b1⟩
  have e3 : v.toList ++ st.map (tr_v B) = (rv1.toList ++ st).map (tr_v B) := by
    rw [List.map_append, hv]
    cases rv1 <;> rfl
  show Steps _ _ _ (T'.setTop { F0 m pc ls st0 with pc := pc + 3, stack := v.toList ++ st.map (tr_v B) }) t2
  rw [e3]
  exact a1
theorem tr_room {a b n : Nat} (h : a < b) (hn : n ≤ 150) : (tr_R a).frames + 1 ≤ (tr_R b).frames ∧ 8 + (n + 11) + (tr_R a).locals ≤ (tr_R b).locals := ⟨show 10 * a + 1 ≤ 10 * b by omega, show 8 + (n + 11) + 200 * a ≤ 200 * b by omega⟩
theorem tr_st8 {m : MethodId} {pc : Nat} {ls : Array Slot} {B : Nat} {st0 st : List Value} (h : tr_wd st ≤ 8) : 2 * (F0 m pc ls st0).monitorRoom + ((st.map (tr_v B)).map fun v => v.category).sum ≤ 8 := by
  refine lv_room ?_
  have e : (st.map (tr_v B)).map (fun v => v.category) = st.map fun v => v.category := by
    rw [List.map_map]
    exact List.map_congr_left fun v _ => tr_cat B v
  rw [e]
  exact h
def mJ9_max (x y : Int32) : Int32 := if x < y then y else x
def mJ9_min (x y : Int32) : Int32 := if y < x then y else x
def mJ9_abs (x : Int32) : Int32 := if 0 ≤ x then x else 0 - x
theorem tr_vr (B x : Nat) : tr_v B (.ref x) = .null ∨ ∃ a, tr_v B (.ref x) = .ref a := by
  cases x with
  | zero => exact Or.inl rfl
  | succ x => exact Or.inr ⟨_, rfl⟩
section TRC
variable {ρ : Type} {X Y : tr_X} {E : tr_E} {pc : Nat} {lv : tr_L} {st st0 : List Value} {M M1 : tr_M} {φ φ1 φ2 : Option ρ} {Z : ρ → Prop} {y : MethodName} {n idx : Nat} {rv1 : Option Value} {av : List Value}

/-- a static method -/
theorem tr_V.callS (hI : tr_I y Y av M rv1 M1) (hy : tr_yk y Y n) (hstat : Cond.static y ∈ tr_tbl) (hl : Cond.methodLink X.2.2.1 idx y ∈ tr_tbl) (hc : Y.2.2.2.2.2 = X.2.2.2.2.2 ∧ Y.2.2.2.2.1 < X.2.2.2.2.1) (hn : av.length = n) (hw : tr_wd st ≤ 8) (he : st0 = av.reverse ++ st) (hd : decode X.1 pc = .ok (.invokestatic idx, 3))
    (h : tr_V X E (pc + 3) lv (rv1.toList ++ st) M1 φ Z) : tr_V X E pc lv st0 M φ Z := by
  intro ok r hr hz
  have k := h ok r hr hz
  obtain ⟨p, l, e, s, m, args, below, meth, c, dC, dI, B, D, hx, hb, hml, hown, hts, hret, hlk, hK, hAb, hG, hW⟩ := ok
  rw [hW] at k ⊢
  intro ls H locs hl0 hP hS
  have hI := hI l dC dI B D
  rw [hc.1] at hI
  have cb := callB_of (R := tr_R X.2.2.2.2.1) (own := X.2.2.1) (index := idx) (ws := Cond.code y Y.1 Y.2.1 Y.2.2.2.1 :: tr_tbl) (rm := tr_R Y.2.2.2.2.1) (mc := 0) (ms := 0) n hts (tr_goodIn fun w hw => (List.mem_cons.mp hw).elim (fun e => e ▸ hy.1) id) rfl rfl rfl (hts _ hy.2.1) (hts _ hl) hy.2.2.1 (tr_room hc.2 hy.2.2.2)
  subst he
  have hrun := va_runS (e := e) (below := below) (meth := meth) (locs := locs) (H := H) (cells := 0) (slots := 0) (As := av.map (tr_v B)) (rest := st.map (tr_v B)) (g := F0 m pc ls ((av.reverse ++ st).map (tr_v B))) ⟨hx, hb, hml, hown, hts⟩ hI ⟨cb, hts _ hstat⟩ ⟨tr_blind, tr_pre hP hK hAb⟩ rfl (by rw [List.length_map]; exact hn) hl0.1 (by show List.map (tr_v B) (av.reverse ++ st) = _; rw [List.map_append, List.map_reverse]) (tr_st8 hw) hd ⟨Nat.le_refl 0, Nat.le_refl 0⟩
  exact tr_after hrun hl0 hS k
/-- a method of an object -/
theorem tr_V.callV {a ci Nf : Nat} {ks : List Nat} {T : u_T} (hI : tr_I y Y (.ref a :: av) M rv1 M1) (hy : tr_yk y Y n) (hinst : Cond.instanceMethod y ∈ tr_tbl ∧ Cond.selects y.cls y y ∈ tr_tbl) (hl : Cond.methodLink X.2.2.1 idx y ∈ tr_tbl) (hs : X.2.2.2.2.2.1 a = .inr (.inr (ci, ks))) (hcl : vwCl[ci]? = some (y.cls, T, Nf)) (hc : Y.2.2.2.2.2 = X.2.2.2.2.2 ∧ Y.2.2.2.2.1 < X.2.2.2.2.1) (hn : av.length = n) (hw : tr_wd st ≤ 8) (he : st0 = av.reverse ++ .ref a :: st) (hd : decode X.1 pc = .ok (.invokevirtual idx, 3))
    (h : tr_V X E (pc + 3) lv (rv1.toList ++ st) M1 φ Z) : tr_V X E pc lv st0 M φ Z := by
  intro ok r hr hz
  have k := h ok r hr hz
  obtain ⟨p, l, e, s, m, args, below, meth, c, dC, dI, B, D, hx, hb, hml, hown, hts, hret, hlk, hK, hAb, hG, hW⟩ := ok
  rw [hW] at k ⊢
  intro ls H locs hl0 hP hS
  have hI := hI l dC dI B D
  rw [hc.1] at hI
  obtain ⟨ha, hN⟩ := hG.in (a := a) (by rw [hs]; intro q; cases q)
  have hat := tr_ws_at (B := B) (D := D) (sh := X.2.2.2.2.2.1) (M := M) ha hN
  rw [tr_c_obj hs] at hat
  have cb := callB_of (R := tr_R X.2.2.2.2.1) (own := X.2.2.1) (index := idx) (ws := Cond.code y Y.1 Y.2.1 Y.2.2.2.1 :: tr_tbl) (rm := tr_R Y.2.2.2.2.1) (mc := 0) (ms := 0) n hts (tr_goodIn fun w hw => (List.mem_cons.mp hw).elim (fun e => e ▸ hy.1) id) rfl rfl rfl (hts _ hy.2.1) (hts _ hl) hy.2.2.1 (tr_room hc.2 hy.2.2.2)
  subst he
  have hpre : ∀ U : State, U.heap = H → s.WarmedH U.vm → tr_Pc dC dI B D X.2.2.2.2.2.1 X.2.2.2.2.2.2 (.ref a :: av) M (Value.ref (B + a) :: av.map (tr_v B)).toArray U := by
    have := tr_pre (av := .ref a :: av) hP hK hAb
    rw [List.map_cons, tr_v_ref ha] at this
    exact this
  have hrun := va_runV (e := e) (below := below) (meth := meth) (locs := locs) (H := H) (cells := 0) (slots := 0) (C := y.cls) (b := B + a) (As := av.map (tr_v B)) (rest := st.map (tr_v B)) (g := F0 m pc ls ((av.reverse ++ .ref a :: st).map (tr_v B))) ⟨hx, hb, hml, hown, hts⟩ hI ⟨cb, hts _ hinst.1, hts _ hinst.2⟩ ⟨tr_blind, va_recv hK hP hcl hat, hpre⟩ rfl (by rw [List.length_map]; exact hn) hl0.1 (by show List.map (tr_v B) (av.reverse ++ .ref a :: st) = _; rw [List.map_append, List.map_reverse, List.map_cons, tr_v_ref ha]) (tr_st8 hw) hd ⟨Nat.le_refl 0, Nat.le_refl 0⟩
  exact tr_after hrun hl0 hS k
/-- a method that is named by an abstract one -/
theorem tr_V.callA {a ci Nf : Nat} {ks : List Nat} {T : u_T} {x : MethodName} (hI : tr_I y Y (.ref a :: av) M rv1 M1) (hy : tr_yk y Y n) (hinst : Cond.instanceMethod y ∈ tr_tbl ∧ Cond.selects y.cls x y ∈ tr_tbl ∧ Cond.sameMethod x.cls x.cls x.name x.desc ∈ tr_tbl ∧ x ∈ tr_abs) (hxd : x.cls ≠ "java/lang/invoke/MethodHandle" ∧ x.cls ≠ "java/lang/invoke/VarHandle" ∧ (parseMethodDescriptor x.desc).map (fun d => d.parameters.length) = some n) (hl : Cond.methodLink X.2.2.1 idx x ∈ tr_tbl) (hs : X.2.2.2.2.2.1 a = .inr (.inr (ci, ks))) (hcl : vwCl[ci]? = some (y.cls, T, Nf)) (hc : Y.2.2.2.2.2 = X.2.2.2.2.2 ∧ Y.2.2.2.2.1 < X.2.2.2.2.1) (hn : av.length = n) (hw : tr_wd st ≤ 8) (he : st0 = av.reverse ++ .ref a :: st) (hd : decode X.1 pc = .ok (.invokevirtual idx, 3))
    (h : tr_V X E (pc + 3) lv (rv1.toList ++ st) M1 φ Z) : tr_V X E pc lv st0 M φ Z := by
  intro ok r hr hz
  have k := h ok r hr hz
  obtain ⟨p, l, e, s, m, args, below, meth, c, dC, dI, B, D, hx, hb, hml, hown, hts, hret, hlk, hK, hAb, hG, hW⟩ := ok
  rw [hW] at k ⊢
  intro ls H locs hl0 hP hS
  have hI := hI l dC dI B D
  rw [hc.1] at hI
  obtain ⟨ha, hN⟩ := hG.in (a := a) (by rw [hs]; intro q; cases q)
  have hat := tr_ws_at (B := B) (D := D) (sh := X.2.2.2.2.2.1) (M := M) ha hN
  rw [tr_c_obj hs] at hat
  have hGd : GoodIn tr_tbl (va_wsU X.2.2.1 idx y.cls x.cls x y (Cond.code y Y.1 Y.2.1 Y.2.2.2.1 :: tr_tbl)) := tr_goodIn fun w hw => by
    unfold va_wsU at hw
    simp only [List.cons_append, List.nil_append, List.mem_cons] at hw
    rcases hw with rfl | rfl | rfl | rfl | rfl | rfl | hw
    · exact hl
    · exact hinst.2.2.1
    · exact hinst.2.1
    · exact hinst.1
    · exact hy.2.1
    · exact hy.1
    · exact hw
  have cu := va_cwA (R := tr_R X.2.2.2.2.1) (own := X.2.2.1) (C := y.cls) (owner := x.cls) (index := idx) (rm := tr_R Y.2.2.2.2.1) (mc := 0) (ms := 0) n hts hGd rfl rfl rfl (hAb x hinst.2.2.2) hxd (tr_room hc.2 hy.2.2.2)
  subst he
  have hpre : ∀ U : State, U.heap = H → s.WarmedH U.vm → tr_Pc dC dI B D X.2.2.2.2.2.1 X.2.2.2.2.2.2 (.ref a :: av) M (Value.ref (B + a) :: av.map (tr_v B)).toArray U := by
    have := tr_pre (av := .ref a :: av) hP hK hAb
    rw [List.map_cons, tr_v_ref ha] at this
    exact this
  have hrun := va_runU (e := e) (below := below) (meth := meth) (locs := locs) (H := H) (cells := 0) (slots := 0) (C := y.cls) (b := B + a) (As := av.map (tr_v B)) (rest := st.map (tr_v B)) (g := F0 m pc ls ((av.reverse ++ .ref a :: st).map (tr_v B))) ⟨hx, hb, hml, hown, hts⟩ hI cu ⟨tr_blind, va_recv hK hP hcl hat, hpre⟩ rfl (by rw [List.length_map]; exact hn) hl0.1 (by show List.map (tr_v B) (av.reverse ++ .ref a :: st) = _; rw [List.map_append, List.map_reverse, List.map_cons, tr_v_ref ha]) (tr_st8 hw) hd ⟨Nat.le_refl 0, Nat.le_refl 0⟩
  exact tr_after hrun hl0 hS k

/-- System.arraycopy of whole numbers -/
theorem tr_V.copy {a0 a1 : Nat} {sp dp k : Int32} (hv : tr_cpy (tr_len X.2.2.2.2.2.1 a0) (tr_len X.2.2.2.2.2.1 a1) M a0 sp a1 dp k = some M1) (hlink : Cond.methodLink X.2.2.1 idx arraycopyName ∈ tr_tbl) (hnat : Cond.native arraycopyName ∈ tr_tbl) (hstat : Cond.static arraycopyName ∈ tr_tbl) (hini : Cond.initialized "java/lang/System" ∈ tr_tbl) (hlev : 0 < X.2.2.2.2.1) (hw : tr_wd st ≤ 8) (hd : decode X.1 pc = .ok (.invokestatic idx, 3))
    (h : tr_V X E (pc + 3) lv st M1 φ Z) : tr_V X E pc lv (.int k :: .int dp :: .ref a1 :: .int sp :: .ref a0 :: st) M φ Z := by
  intro ok r hr hz
  have kk := h ok r hr hz
  obtain ⟨p, l, e, s, m, args, below, meth, c, dC, dI, B, D, hx, hb, hml, hown, hts, hret, hlk, hK, hAb, hG, hW⟩ := ok
  rw [hW] at kk ⊢
  intro ls H locs hl hP hS
  unfold tr_cpy at hv
  by_cases hc : sp < 0 ∨ dp < 0 ∨ k < 0 ∨ tr_len X.2.2.2.2.2.1 a0 < sp.toNatClampNeg + k.toNatClampNeg ∨ tr_len X.2.2.2.2.2.1 a1 < dp.toNatClampNeg + k.toNatClampNeg ∨ tr_len X.2.2.2.2.2.1 a0 = 0 ∨ tr_len X.2.2.2.2.2.1 a1 = 0
  · rw [if_pos hc] at hv; cases hv
  · rw [if_neg hc] at hv
    have hv : tr_row M a1 (va_cpy (M.1 a0) (M.1 a1) sp.toNatClampNeg dp.toNatClampNeg k.toNatClampNeg) = M1 := Option.some.inj hv
    have h1 : ¬ sp < 0 := fun q => hc (Or.inl q)
    have h2 : ¬ dp < 0 := fun q => hc (Or.inr (Or.inl q))
    have h3 : ¬ k < 0 := fun q => hc (Or.inr (Or.inr (Or.inl q)))
    have h4 : sp.toNatClampNeg + k.toNatClampNeg ≤ tr_len X.2.2.2.2.2.1 a0 := Nat.le_of_not_lt fun q => hc (Or.inr (Or.inr (Or.inr (Or.inl q))))
    have h5 : dp.toNatClampNeg + k.toNatClampNeg ≤ tr_len X.2.2.2.2.2.1 a1 := Nat.le_of_not_lt fun q => hc (Or.inr (Or.inr (Or.inr (Or.inr (Or.inl q)))))
    have n0 : tr_len X.2.2.2.2.2.1 a0 ≠ 0 := fun q => hc (Or.inr (Or.inr (Or.inr (Or.inr (Or.inr (Or.inl q))))))
    have n1 : tr_len X.2.2.2.2.2.1 a1 ≠ 0 := fun q => hc (Or.inr (Or.inr (Or.inr (Or.inr (Or.inr (Or.inr q))))))
    have s0 := tr_len_sh n0
    have s1 := tr_len_sh n1
    obtain ⟨ha0, hN0⟩ := hG.in (a := a0) (by rw [s0]; exact fun q => n0 (congrArg Prod.snd (Sum.inl.inj q)))
    obtain ⟨ha1, hN1⟩ := hG.in (a := a1) (by rw [s1]; exact fun q => n1 (congrArg Prod.snd (Sum.inl.inj q)))
    have hat0 := tr_ws_at (B := B) (D := D) (sh := X.2.2.2.2.2.1) (M := M) ha0 hN0
    have hat1 := tr_ws_at (B := B) (D := D) (sh := X.2.2.2.2.2.1) (M := M) ha1 hN1
    rw [tr_c_arr s0] at hat0
    rw [tr_c_arr s1] at hat1
    have hset : (tr_ws B D X.2.2.2.2.2.1 X.2.2.2.2.2.2 M).set (a1 - 1) (B + a1, .inl (D 0, tr_len X.2.2.2.2.2.1 a1, .inl (va_cpy (M.1 a0) (M.1 a1) sp.toNatClampNeg dp.toNatClampNeg k.toNatClampNeg))) = tr_ws B D X.2.2.2.2.2.1 X.2.2.2.2.2.2 M1 := by
      refine tr_ws_set ha1 ?_ (fun b hb => ?_)
      · rw [tr_c_arr s1, ← hv]
        show (Sum.inl (D 0, tr_len X.2.2.2.2.2.1 a1, Sum.inl ((if a1 = a1 then _ else M.1 a1))) : va_E) = _
        rw [if_pos rfl]
      · rw [← hv]
        exact tr_c_other (fun j => by show (if b = a1 then _ else M.1 b) j = _; rw [if_neg hb]) (fun j => rfl)
    show W _ _ _ _ _ _ _ _ _ _ _ _ _ _ _ (F0 m pc ls (.int k :: .int dp :: tr_v B (.ref a1) :: .int sp :: tr_v B (.ref a0) :: st.map (tr_v B)))
    rw [tr_v_ref ha0, tr_v_ref ha1]
    refine va_copyi (ty := .int) hx hb (hml.trans hl.1.symm) hown (hts _ hlink) (hts _ hnat) (hts _ hstat) (hts _ hini) hK hP tr_D hS (a0 - 1) (a1 - 1) 0 0 hat0 hat1 rfl rfl rfl h1 h2 h3 h4 h5 (fun i _ => rfl) (by show 1 ≤ 10 * _; omega) ?_ hd (fun H1 locs1 hP1 _ hS1 => ?_)
    · have e : ((st.map (tr_v B)).map fun v => v.category).sum = tr_wd st := by
        unfold tr_wd
        rw [List.map_map]
        congr 1
        exact List.map_congr_left fun v _ => tr_cat B v
      rw [e]
      have e2 : nativeFrameWords "java/lang/System" "arraycopy" 5 ≤ 100 := by decide +kernel
      show tr_wd st + (nativeFrameWords "java/lang/System" "arraycopy" 5 + 11) ≤ 200 * _
      omega
    · rw [hset] at hP1
      exact kk ls H1 locs1 hl hP1 hS1

theorem tr_V.mmax {x y : Int32} (hlink : Cond.methodLink X.2.2.1 idx Lib.Math.max.name ∈ tr_tbl) (hstat : Cond.static Lib.Math.max.name ∈ tr_tbl) (hini : Cond.initialized "java/lang/Math" ∈ tr_tbl) (hcode : Cond.code Lib.Math.max.name Lib.Math.max.code 2 (some .int) ∈ tr_tbl) (hlev : 0 < X.2.2.2.2.1) (hw : tr_wd st ≤ 8) (hd : decode X.1 pc = .ok (.invokestatic idx, 3)) (h : tr_V X E (pc + 3) lv (.int (mJ9_max x y) :: st) M φ Z) : tr_V X E pc lv (.int y :: .int x :: st) M φ Z := by
  intro ok r hr hz
  have kk := h ok r hr hz
  obtain ⟨p, l, e, s, m, args, below, meth, c, dC, dI, B, D, hx, hb, hml, hown, hts, hret, hlk, hK, hAb, hG, hW⟩ := ok
  rw [hW] at kk ⊢
  intro ls H locs hl hP hS
  have e : ((st.map (tr_v B)).map fun v => v.category).sum = tr_wd st := by
    unfold tr_wd
    rw [List.map_map]
    congr 1
    exact List.map_congr_left fun v _ => tr_cat B v
  exact va_mmax hx hb (hml.trans hl.1.symm) hown (hts _ hlink) (hts _ hstat) (hts _ hini) (hts _ hcode) (by show 1 ≤ 10 * _; omega) (by rw [e]; show tr_wd st + 13 ≤ 200 * _; omega) (Nat.le_refl 0) (Nat.le_refl 0) hd (kk ls H locs hl hP hS)
theorem tr_V.mmin {x y : Int32} (hlink : Cond.methodLink X.2.2.1 idx Lib.Math.min.name ∈ tr_tbl) (hstat : Cond.static Lib.Math.min.name ∈ tr_tbl) (hini : Cond.initialized "java/lang/Math" ∈ tr_tbl) (hcode : Cond.code Lib.Math.min.name Lib.Math.min.code 2 (some .int) ∈ tr_tbl) (hlev : 0 < X.2.2.2.2.1) (hw : tr_wd st ≤ 8) (hd : decode X.1 pc = .ok (.invokestatic idx, 3)) (h : tr_V X E (pc + 3) lv (.int (mJ9_min x y) :: st) M φ Z) : tr_V X E pc lv (.int y :: .int x :: st) M φ Z := by
  intro ok r hr hz
  have kk := h ok r hr hz
  obtain ⟨p, l, e, s, m, args, below, meth, c, dC, dI, B, D, hx, hb, hml, hown, hts, hret, hlk, hK, hAb, hG, hW⟩ := ok
  rw [hW] at kk ⊢
  intro ls H locs hl hP hS
  have e : ((st.map (tr_v B)).map fun v => v.category).sum = tr_wd st := by
    unfold tr_wd
    rw [List.map_map]
    congr 1
    exact List.map_congr_left fun v _ => tr_cat B v
  exact va_mmin hx hb (hml.trans hl.1.symm) hown (hts _ hlink) (hts _ hstat) (hts _ hini) (hts _ hcode) (by show 1 ≤ 10 * _; omega) (by rw [e]; show tr_wd st + 13 ≤ 200 * _; omega) (Nat.le_refl 0) (Nat.le_refl 0) hd (kk ls H locs hl hP hS)
theorem tr_V.mabs {x : Int32} (hlink : Cond.methodLink X.2.2.1 idx Lib.Math.abs.name ∈ tr_tbl) (hstat : Cond.static Lib.Math.abs.name ∈ tr_tbl) (hini : Cond.initialized "java/lang/Math" ∈ tr_tbl) (hcode : Cond.code Lib.Math.abs.name Lib.Math.abs.code 1 (some .int) ∈ tr_tbl) (hlev : 0 < X.2.2.2.2.1) (hw : tr_wd st ≤ 8) (hd : decode X.1 pc = .ok (.invokestatic idx, 3)) (h : tr_V X E (pc + 3) lv (.int (mJ9_abs x) :: st) M φ Z) : tr_V X E pc lv (.int x :: st) M φ Z := by
  intro ok r hr hz
  have kk := h ok r hr hz
  obtain ⟨p, l, e, s, m, args, below, meth, c, dC, dI, B, D, hx, hb, hml, hown, hts, hret, hlk, hK, hAb, hG, hW⟩ := ok
  rw [hW] at kk ⊢
  intro ls H locs hl hP hS
  have e : ((st.map (tr_v B)).map fun v => v.category).sum = tr_wd st := by
    unfold tr_wd
    rw [List.map_map]
    congr 1
    exact List.map_congr_left fun v _ => tr_cat B v
  exact va_mabs hx hb (hml.trans hl.1.symm) hown (hts _ hlink) (hts _ hstat) (hts _ hini) (hts _ hcode) (by show 1 ≤ 10 * _; omega) (by rw [e]; show tr_wd st + 13 ≤ 200 * _; omega) (Nat.le_refl 0) (Nat.le_refl 0) hd (kk ls H locs hl hP hS)
theorem tr_V.iret {x : Int32} {r0 : ρ} (hd : decode X.1 pc = .ok (.ireturn, 1)) (hr0 : X.2.2.2.1 = some .int) (hq : Z r0 → E.1 = some (.int x) ∧ E.2.1 = M) : tr_V X E pc lv [.int x] M (some r0) Z := by
  intro ok r hr hz
  cases hr
  obtain ⟨q1, q2⟩ := hq hz
  obtain ⟨p, l, e, s, m, args, below, meth, c, dC, dI, B, D, hx, hb, hml, hown, hts, hret, hlk, hK, hAb, hG, hW⟩ := ok
  rw [hW]
  intro ls H locs hl hP hS
  refine W.iret hx hb (hret.trans hr0) (fun t ht hWm => ⟨by rw [q1]; rfl, by rw [q2, ht]; exact hP, hS.F ht⟩) hS.2.2 hd hlk
theorem tr_V.zret {x : Int32} (hn : (x &&& 1 == x) = true) {r0 : ρ} (hd : decode X.1 pc = .ok (.ireturn, 1)) (hr0 : X.2.2.2.1 = some .boolean) (hq : Z r0 → E.1 = some (.int x) ∧ E.2.1 = M) : tr_V X E pc lv [.int x] M (some r0) Z := by
  intro ok r hr hz
  cases hr
  obtain ⟨q1, q2⟩ := hq hz
  obtain ⟨p, l, e, s, m, args, below, meth, c, dC, dI, B, D, hx, hb, hml, hown, hts, hret, hlk, hK, hAb, hG, hW⟩ := ok
  rw [hW]
  intro ls H locs hl hP hS
  refine W.zret hx hb (hret.trans hr0) (tr_nz hn).1 (fun t ht hWm => ⟨by rw [q1]; rfl, by rw [q2, ht]; exact hP, hS.F ht⟩) hS.2.2 hd hlk
theorem tr_V.lret {x : Int64} {r0 : ρ} (hd : decode X.1 pc = .ok (.lreturn, 1)) (hr0 : X.2.2.2.1 = some .long) (hq : Z r0 → E.1 = some (.long x) ∧ E.2.1 = M) : tr_V X E pc lv [.long x] M (some r0) Z := by
  intro ok r hr hz
  cases hr
  obtain ⟨q1, q2⟩ := hq hz
  obtain ⟨p, l, e, s, m, args, below, meth, c, dC, dI, B, D, hx, hb, hml, hown, hts, hret, hlk, hK, hAb, hG, hW⟩ := ok
  rw [hW]
  intro ls H locs hl hP hS
  refine W.lret hx hb (hret.trans hr0) (fun t ht hWm => ⟨by rw [q1]; rfl, by rw [q2, ht]; exact hP, hS.F ht⟩) hS.2.2 hd hlk
theorem tr_V.vret {r0 : ρ} (hd : decode X.1 pc = .ok (.return_, 1)) (hr0 : X.2.2.2.1 = Option.none) (hq : Z r0 → E.1 = Option.none ∧ E.2.1 = M) : tr_V X E pc lv [] M (some r0) Z := by
  intro ok r hr hz
  cases hr
  obtain ⟨q1, q2⟩ := hq hz
  obtain ⟨p, l, e, s, m, args, below, meth, c, dC, dI, B, D, hx, hb, hml, hown, hts, hret, hlk, hK, hAb, hG, hW⟩ := ok
  rw [hW]
  intro ls H locs hl hP hS
  refine W.vret hx hb (hret.trans hr0) (fun t ht hWm => ⟨by rw [q1]; rfl, by rw [q2, ht]; exact hP, hS.F ht⟩) hS.2.2 hd hlk
theorem tr_V.aret {x : Nat} {C0 : String} {r0 : ρ} (hd : decode X.1 pc = .ok (.areturn, 1)) (hr0 : X.2.2.2.1 = some (.object C0)) (hq : Z r0 → E.1 = some (.ref x) ∧ E.2.1 = M) : tr_V X E pc lv [.ref x] M (some r0) Z := by
  intro ok r hr hz
  cases hr
  obtain ⟨q1, q2⟩ := hq hz
  obtain ⟨p, l, e, s, m, args, below, meth, c, dC, dI, B, D, hx, hb, hml, hown, hts, hret, hlk, hK, hAb, hG, hW⟩ := ok
  rw [hW]
  intro ls H locs hl hP hS
  refine W.aret hx hb (hret.trans hr0) (Or.inl ⟨_, rfl⟩) (tr_vr B x) (fun t ht hWm => ⟨by rw [q1]; rfl, by rw [q2, ht]; exact hP, hS.F ht⟩) hS.2.2 hd hlk
end TRC
