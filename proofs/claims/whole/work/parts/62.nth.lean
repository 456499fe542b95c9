/-! ===== the k-th way, which one it is, how many pass a state ===== -/
theorem nth_fm {α : Type} {f : Nat → List α} : ∀ {n j : Nat} {p : α}, (fm n f)[j]? = some p → ∃ x, x < n ∧ sm x (fun y => (f y).length) ≤ j ∧ j < sm x (fun y => (f y).length) + (f x).length ∧ (f x)[j - sm x (fun y => (f y).length)]? = some p
  | 0, j, p, h => by
    have h : ([] : List α)[j]? = some p := h
    simp at h
  | n + 1, j, p, h => by
    have h : (fm n f ++ f n)[j]? = some p := h
    by_cases c : j < (fm n f).length
    · rw [List.getElem?_append_left c] at h
      obtain ⟨x, h1, h2⟩ := nth_fm h
      exact ⟨x, by omega, h2⟩
    · rw [List.getElem?_append_right (by omega)] at h
      rw [fm_len] at h c
      refine ⟨n, by omega, by omega, ?_, h⟩
      have := (List.getElem?_eq_some_iff.mp h).1
      omega
def wy (nx : Rl) (n k s l : Nat) (x : Nat) : Nat := if nx s l x = true then (ext nx n k (ins s x) x).length else 0
theorem wy_len (nx : Rl) (n k s l x : Nat) : (if nx s l x = true then (ext nx n k (ins s x) x).map (List.cons x) else []).length = wy nx n k s l x := by
  unfold wy
  by_cases c : nx s l x = true
  · rw [if_pos c, if_pos c, List.length_map]
  · rw [if_neg c, if_neg c]; rfl
theorem nth_ext {nx : Rl} {n k s l j : Nat} {p : List Nat} (h : (ext nx n (k + 1) s l)[j]? = some p) : ∃ x q, p = x :: q ∧ x < n ∧ nx s l x = true ∧ sm x (wy nx n k s l) ≤ j ∧ j < sm x (wy nx n k s l) + (ext nx n k (ins s x) x).length ∧ (ext nx n k (ins s x) x)[j - sm x (wy nx n k s l)]? = some q := by
  obtain ⟨x, h1, h2, h3, h4⟩ := nth_fm h
  have e : sm x (fun y => (if nx s l y = true then (ext nx n k (ins s y) y).map (List.cons y) else []).length) = sm x (wy nx n k s l) := sm_congr fun y hy => wy_len nx n k s l y
  rw [e] at h2 h3 h4
  by_cases c : nx s l x = true
  · rw [if_pos c] at h3 h4
    rw [List.length_map] at h3
    rw [List.getElem?_map, Option.map_eq_some_iff] at h4
    obtain ⟨q, h5, h6⟩ := h4
    exact ⟨x, q, h6.symm, h1, c, h2, h3, h5⟩
  · rw [if_neg c] at h4
    simp at h4
def ix (p : List Nat) : List (List Nat) → Option Nat
  | [] => none
  | q :: L => if q = p then some 0 else (ix p L).map (· + 1)
theorem ix_append (p : List Nat) : ∀ A B, ix p (A ++ B) = match ix p A with | some i => some i | none => (ix p B).map (· + A.length)
  | [], B => by
    show ix p B = (ix p B).map (· + 0)
    cases ix p B <;> rfl
  | a :: A, B => by
    show (if a = p then some 0 else (ix p (A ++ B)).map (· + 1)) = match (if a = p then some 0 else (ix p A).map (· + 1)) with | some i => some i | none => (ix p B).map (· + (A.length + 1))
    by_cases c : a = p
    · rw [if_pos c, if_pos c]
    · rw [if_neg c, if_neg c, ix_append p A B]
      cases ix p A with
      | some i => rfl
      | none =>
        show ((ix p B).map (· + A.length)).map (· + 1) = (ix p B).map (· + (A.length + 1))
        cases ix p B <;> rfl
theorem ix_cons (x : Nat) (p : List Nat) : ∀ L : List (List Nat), ix (x :: p) (L.map (List.cons x)) = ix p L
  | [] => rfl
  | q :: L => by
    show (if x :: q = x :: p then some 0 else (ix (x :: p) (L.map (List.cons x))).map (· + 1)) = if q = p then some 0 else (ix p L).map (· + 1)
    rw [ix_cons x p L]
    by_cases c : q = p
    · rw [if_pos c, if_pos (by rw [c])]
    · rw [if_neg c, if_neg (fun e => c (List.cons.inj e).2)]
theorem ix_ne {x y : Nat} (h : y ≠ x) (p : List Nat) : ∀ L : List (List Nat), ix (x :: p) (L.map (List.cons y)) = none
  | [] => rfl
  | q :: L => by
    show (if y :: q = x :: p then some 0 else (ix (x :: p) (L.map (List.cons y))).map (· + 1)) = none
    rw [ix_ne h p L, if_neg (fun e => h (List.cons.inj e).1)]
    rfl
theorem ix_fm (nx : Rl) (n0 k s l x : Nat) (p : List Nat) : ∀ n, ix (x :: p) (fm n (fun y => if nx s l y = true then (ext nx n0 k (ins s y) y).map (List.cons y) else [])) = if x < n ∧ nx s l x = true then (ix p (ext nx n0 k (ins s x) x)).map (· + sm x (wy nx n0 k s l)) else none
  | 0 => by
    rw [if_neg (by omega)]
    rfl
  | n + 1 => by
    show ix (x :: p) (fm n _ ++ (if nx s l n = true then (ext nx n0 k (ins s n) n).map (List.cons n) else [])) = _
    have hl : (fm n (fun y => if nx s l y = true then (ext nx n0 k (ins s y) y).map (List.cons y) else [])).length = sm n (wy nx n0 k s l) := by
      rw [fm_len]
      exact sm_congr fun y hy => wy_len nx n0 k s l y
    rw [ix_append, ix_fm nx n0 k s l x p n, hl]
    by_cases c : nx s l x = true
    · by_cases d : x < n
      · rw [if_pos (show x < n ∧ nx s l x = true from ⟨d, c⟩), if_pos (show x < n + 1 ∧ nx s l x = true from ⟨by omega, c⟩)]
        cases ix p (ext nx n0 k (ins s x) x) with
        | some i => rfl
        | none =>
          show (ix (x :: p) _).map _ = none
          by_cases e : nx s l n = true
          · rw [if_pos e, ix_ne (by omega)]; rfl
          · rw [if_neg e]; rfl
      · rw [if_neg (fun q => d q.1)]
        by_cases d2 : x = n
        · subst d2
          rw [if_pos (show x < x + 1 ∧ nx s l x = true from ⟨by omega, c⟩), if_pos c, ix_cons]
        · rw [if_neg (show ¬ (x < n + 1 ∧ nx s l x = true) from fun q => by omega)]
          show (ix (x :: p) _).map _ = none
          by_cases e : nx s l n = true
          · rw [if_pos e, ix_ne (by omega)]; rfl
          · rw [if_neg e]; rfl
    · rw [if_neg (show ¬ (x < n ∧ nx s l x = true) from fun q => c q.2), if_neg (show ¬ (x < n + 1 ∧ nx s l x = true) from fun q => c q.2)]
      show (ix (x :: p) _).map _ = none
      by_cases e : nx s l n = true
      · have hne : n ≠ x := fun e2 => c (by rw [← e2]; exact e)
        rw [if_pos e, ix_ne hne]; rfl
      · rw [if_neg e]; rfl
theorem ix_ext {nx : Rl} {n k s l x : Nat} {p : List Nat} (hx : x < n) : ix (x :: p) (ext nx n (k + 1) s l) = if nx s l x = true then (ix p (ext nx n k (ins s x) x)).map (· + sm x (wy nx n k s l)) else none := by
  show ix (x :: p) (fm n _) = _
  rw [ix_fm]
  by_cases c : nx s l x = true
  · rw [if_pos ⟨hx, c⟩, if_pos c]
  · rw [if_neg (fun q => c q.2), if_neg c]
/-- sums over lists -/
def ws {α : Type} (F : α → Nat) : List α → Nat
  | [] => 0
  | a :: L => F a + ws F L
theorem ws_append {α : Type} (F : α → Nat) : ∀ A B, ws F (A ++ B) = ws F A + ws F B
  | [], B => by
    show ws F B = 0 + ws F B
    omega
  | a :: A, B => by
    show F a + ws F (A ++ B) = F a + ws F A + ws F B
    rw [ws_append F A B]
    omega
theorem ws_fm {α : Type} (F : α → Nat) (f : Nat → List α) : ∀ n, ws F (fm n f) = sm n (fun x => ws F (f x))
  | 0 => rfl
  | n + 1 => by
    show ws F (fm n f ++ f n) = sm n _ + ws F (f n)
    rw [ws_append, ws_fm F f n]
theorem ws_congr {α : Type} {F G : α → Nat} : ∀ {L : List α}, (∀ a, a ∈ L → F a = G a) → ws F L = ws G L
  | [], _ => rfl
  | a :: L, h => by
    show F a + ws F L = G a + ws G L
    rw [h a List.mem_cons_self, ws_congr (fun b hb => h b (List.mem_cons_of_mem _ hb))]
theorem ws_map {α β : Type} (F : β → Nat) (f : α → β) : ∀ L, ws F (L.map f) = ws (fun a => F (f a)) L
  | [] => rfl
  | a :: L => by
    show F (f a) + ws F (L.map f) = _
    rw [ws_map F f L]
    rfl
theorem ws_len {α : Type} (q : α → Bool) : ∀ L : List α, (L.filter q).length = ws (fun a => if q a = true then 1 else 0) L
  | [] => rfl
  | a :: L => by
    show _ = (if q a = true then 1 else 0) + ws _ L
    rw [← ws_len q L]
    by_cases c : q a = true
    · rw [List.filter_cons_of_pos c, if_pos c, List.length_cons]
      omega
    · rw [List.filter_cons_of_neg c, if_neg c]
      omega
theorem sm_add (f g : Nat → Nat) : ∀ n, sm n (fun x => f x + g x) = sm n f + sm n g
  | 0 => rfl
  | n + 1 => by
    show sm n (fun x => f x + g x) + (f n + g n) = sm n f + f n + (sm n g + g n)
    rw [sm_add f g n]
    omega
theorem sm_one {n a : Nat} (v : Nat) (h : a < n) : sm n (fun x => if x = a then v else 0) = v := by
  have e := sm_up (f := fun _ => 0) (b := a) (v := v) h
  rw [sm_0] at e
  simpa using e
theorem sm_mul (f : Nat → Nat) (c : Nat) : ∀ n, sm n (fun x => c * f x) = c * sm n f
  | 0 => by simp [sm]
  | n + 1 => by
    show sm n (fun x => c * f x) + c * f n = c * (sm n f + f n)
    rw [sm_mul f c n, Nat.mul_add]
/-- one step on from states -/
def fst1 (nx : Rl) (n : Nat) : List (Nat × Nat) → List (Nat × Nat)
  | [] => []
  | a :: L => fm n (fun x => if nx a.1 a.2 x = true then [(ins a.1 x, x)] else []) ++ fst1 nx n L
def pfx (nx : Rl) (n : Nat) : Nat → List (Nat × Nat)
  | 0 => [(0, 10)]
  | i + 1 => fst1 nx n (pfx nx n i)
theorem ws_fst1 (nx : Rl) (n : Nat) (F : Nat × Nat → Nat) : ∀ L, ws F (fst1 nx n L) = ws (fun a => sm n (fun x => if nx a.1 a.2 x = true then F (ins a.1 x, x) else 0)) L
  | [] => rfl
  | a :: L => by
    show ws F (fm n _ ++ fst1 nx n L) = _ + ws _ L
    rw [ws_append, ws_fst1 nx n F L, ws_fm]
    congr 1
    refine sm_congr fun x hx => ?_
    by_cases c : nx a.1 a.2 x = true
    · simp only [if_pos c]
      show F _ + 0 = _
      omega
    · simp only [if_neg c]
      rfl
/-- what holds of a way's state at a place -/
def stt (Q : Nat → Nat → Bool) : Nat → List Nat → Nat → Bool
  | _, [], _ => false
  | s, x :: _, 0 => Q (ins s x) x
  | s, x :: p, j + 1 => stt Q (ins s x) p j
def nst (nx : Rl) (n : Nat) (Q : Nat → Nat → Bool) (k s l j : Nat) : Nat := ((ext nx n k s l).filter (fun p => stt Q s p j)).length
theorem nst_0 (nx : Rl) (n : Nat) (Q : Nat → Nat → Bool) (k s l : Nat) : nst nx n Q (k + 1) s l 0 = sm n (fun x => if nx s l x = true then (if Q (ins s x) x = true then (ext nx n k (ins s x) x).length else 0) else 0) := by
  show ((fm n _).filter _).length = _
  rw [fm_filter, fm_len]
  refine sm_congr fun x hx => ?_
  by_cases c : nx s l x = true
  · simp only [if_pos c, List.filter_map, List.length_map]
    by_cases d : Q (ins s x) x = true
    · rw [if_pos d, List.filter_eq_self.mpr]
      intro p hp
      exact d
    · rw [if_neg d, List.filter_eq_nil_iff.mpr]
      · rfl
      · intro p hp
        exact d
  · simp only [if_neg c]
    rfl
theorem nst_s (nx : Rl) (n : Nat) (Q : Nat → Nat → Bool) (k s l j : Nat) : nst nx n Q (k + 1) s l (j + 1) = sm n (fun x => if nx s l x = true then nst nx n Q k (ins s x) x j else 0) := by
  show ((fm n _).filter _).length = _
  rw [fm_filter, fm_len]
  refine sm_congr fun x hx => ?_
  by_cases c : nx s l x = true
  · simp only [if_pos c, List.filter_map, List.length_map]
    rfl
  · simp only [if_neg c]
    rfl
theorem nst_pfx (nx : Rl) (n : Nat) (Q : Nat → Nat → Bool) : ∀ i k j, ws (fun a => nst nx n Q (k + i) a.1 a.2 (j + i)) [(0, 10)] = ws (fun a => nst nx n Q k a.1 a.2 j) (pfx nx n i)
  | 0, k, j => rfl
  | i + 1, k, j => by
    have ih := nst_pfx nx n Q i (k + 1) (j + 1)
    rw [show k + (i + 1) = k + 1 + i by omega, show j + (i + 1) = j + 1 + i by omega, ih]
    show _ = ws _ (fst1 nx n (pfx nx n i))
    rw [ws_fst1]
    exact ws_congr fun a ha => nst_s nx n Q k a.1 a.2 j
/-- in how many ways a state is come through -/
theorem nst_all (nx : Rl) (n : Nat) (Q : Nat → Nat → Bool) {i : Nat} (hi : i < n) : nst nx n Q n 0 10 i = ws (fun a => if Q a.1 a.2 = true then (ext nx n (n - (i + 1)) a.1 a.2).length else 0) (pfx nx n (i + 1)) := by
  have h := nst_pfx nx n Q i (n - (i + 1) + 1) 0
  rw [show n - (i + 1) + 1 + i = n by omega, Nat.zero_add] at h
  have h2 : ws (fun a => nst nx n Q n a.1 a.2 i) [(0, 10)] = nst nx n Q n 0 10 i := by
    exact Nat.add_zero _
  rw [← h2, h]
  show _ = ws _ (fst1 nx n (pfx nx n i))
  rw [ws_fst1]
  exact ws_congr fun a ha => nst_0 nx n Q _ a.1 a.2
