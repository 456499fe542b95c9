
/-! ===== rows of the memory ===== -/
/-- a field's words: own class, entry, class's number, field's number, its type, whether final -/
def tr_fl (own : String) (index ci k : Nat) (ty : FieldType) (fin : Bool) : Prop := ∃ (C : String) (T : u_T) (Nf : Nat) (ty0 : Nat → FieldType), vwCl[ci]? = some (C, T, Nf) ∧ (∀ w ∈ u_ws C T Nf, w ∈ tr_tbl) ∧ k < Nf ∧ Cond.fieldLink own index C (T k).2.1 (T k).2.2.1 ∈ tr_tbl ∧ (T k).1 = C ∧ (∀ k, k < Nf → parseFieldDescriptor (T k).2.2.1 = some (ty0 k)) ∧ (∀ a, a < Nf → ∀ b, b < Nf → a ≠ b → (T a).2.1 ≠ (T b).2.1) ∧ (T k).2.2.2 = fin ∧ parseFieldDescriptor (T k).2.2.1 = some ty
theorem tr_c_obj {B : Nat} {D : Nat → ClassId} {sh : Nat → tr_S} {M : tr_M} {a ci : Nat} {ks : List Nat} (h : sh a = .inr (.inr (ci, ks))) : tr_c B D sh M a = .inr (ci, tr_fs B M a 0 ks) := by unfold tr_c; rw [h]
theorem tr_c_arr {B : Nat} {D : Nat → ClassId} {sh : Nat → tr_S} {M : tr_M} {a t n : Nat} (h : sh a = .inl (t, n)) : tr_c B D sh M a = .inl (D t, n, .inl (M.1 a)) := by unfold tr_c; rw [h]
theorem tr_c_refs {B : Nat} {D : Nat → ClassId} {sh : Nat → tr_S} {M : tr_M} {a t n : Nat} {f : Nat → Nat} (h : sh a = .inr (.inl (t, n, f))) : tr_c B D sh M a = .inl (D t, n, .inr (.inr (.inr (.inr (fun i => some (B + f i)))))) := by unfold tr_c; rw [h]
theorem tr_c_other {B : Nat} {D : Nat → ClassId} {sh : Nat → tr_S} {M M1 : tr_M} {b : Nat} (h1 : ∀ j, M1.1 b j = M.1 b j) (h2 : ∀ j, M1.2 b j = M.2 b j) : tr_c B D sh M1 b = tr_c B D sh M b := by
  have e1 : M1.1 b = M.1 b := funext h1
  unfold tr_c
  split
  · rw [e1]
  · rfl
  · rw [tr_fs_eq (B := B) (M := M) (M1 := M1) (a := b) _ 0 (fun k c _ => ?_)]
    unfold tr_f
    split <;> simp only [h1, h2]
theorem tr_st_o {M : tr_M} {a b k j : Nat} {v : Int32} (h : b ≠ a) : (tr_st M a k v).1 b j = M.1 b j := if_neg fun q => h q.1
theorem tr_st_j {M : tr_M} {a b k j : Nat} {v : Int32} (h : j ≠ k) : (tr_st M a k v).1 b j = M.1 b j := if_neg fun q => h q.2
theorem tr_st_s {M : tr_M} {a k : Nat} {v : Int32} : (tr_st M a k v).1 a k = v := if_pos ⟨rfl, rfl⟩
theorem tr_sl_o {M : tr_M} {a b k j : Nat} {v : Int64} (h : b ≠ a) : (tr_sl M a k v).2 b j = M.2 b j := if_neg fun q => h q.1
theorem tr_sl_j {M : tr_M} {a b k j : Nat} {v : Int64} (h : j ≠ k) : (tr_sl M a k v).2 b j = M.2 b j := if_neg fun q => h q.2
theorem tr_sl_s {M : tr_M} {a k : Nat} {v : Int64} : (tr_sl M a k v).2 a k = v := if_pos ⟨rfl, rfl⟩
theorem tr_st_row {M : tr_M} {a k : Nat} {v : Int32} : (tr_st M a k v).1 a = upd (M.1 a) k v := funext fun j => by
  unfold upd
  by_cases e : j = k
  · subst e; rw [if_pos rfl]; exact tr_st_s
  · rw [if_neg e]; exact tr_st_j e
theorem tr_len_sh {sh : Nat → tr_S} {a : Nat} (h : tr_len sh a ≠ 0) : sh a = .inl (0, tr_len sh a) := by
  have e : tr_len sh a = match sh a with
      | .inl (0, n) => n
      | _ => 0 := rfl
  cases hs : sh a with
  | inl q =>
    obtain ⟨t, n⟩ := q
    rw [hs] at e
    cases t with
    | zero =>
      have e : tr_len sh a = n := e
      rw [e]
    | succ t => exact absurd e h
  | inr q => rw [hs] at e; exact absurd e h
theorem tr_nz {v : Int32} (h : (v &&& 1 == v) = true) : narrow .boolean (.int v) = .int v ∧ fits .boolean (.int v) = true := by
  have h1 : v &&& 1 = v := by simpa using h
  have h2 : v = 0 ∨ v = 1 := by
    have h3 := pk_and v (m := 1) 1 (by decide)
    rw [h1] at h3
    rcases Nat.mod_two_eq_zero_or_one v.toBitVec.toNat with e | e
    · exact Or.inl (by rw [h3, show (2 : Nat) ^ 1 = 2 from rfl, e]; rfl)
    · exact Or.inr (by rw [h3, show (2 : Nat) ^ 1 = 2 from rfl, e]; rfl)
  rcases h2 with rfl | rfl
  · exact ⟨by decide, by decide⟩
  · exact ⟨by decide, by decide⟩
theorem tr_no {C : String} (B v : Nat) : narrow (.object C) (tr_v B (.ref v)) = tr_v B (.ref v) ∧ fits (.object C) (tr_v B (.ref v)) = true := by
  cases v <;> exact ⟨rfl, rfl⟩
section TRM
variable {ρ : Type} {X : tr_X} {E : tr_E} {pc : Nat} {lv : tr_L} {st : List Value} {M : tr_M} {φ φ1 φ2 : Option ρ} {Z : ρ → Prop}
theorem tr_V.bd {τ : Type} {f : Option τ} {k : τ → Option ρ} (h : ∀ v, f = some v → tr_V X E pc lv st M (k v) Z) : tr_V X E pc lv st M (Option.bind f k) Z := by
  intro ok r hr hz
  cases hf : f with
  | none => rw [hf] at hr; cases hr
  | some v => rw [hf] at hr; exact h v hf ok r hr hz

theorem tr_V.getI {a ci k index : Nat} {ks : List Nat} {ty : FieldType} {fin : Bool} (hf : tr_fl X.2.2.1 index ci k ty fin) (hs : X.2.2.2.2.2.1 a = .inr (.inr (ci, ks))) (hk : ks[k]? = some (0)) (hd : decode X.1 pc = .ok (.getfield index, 3)) (h : tr_V X E (pc + 3) lv (.int (M.1 a k) :: st) M φ Z) : tr_V X E pc lv (.ref a :: st) M φ Z := by
  intro ok r hr hz
  have kk := h ok r hr hz
  obtain ⟨p, l, e, s, m, args, below, meth, c, dC, dI, B, D, hx, hb, hml, hown, hts, hret, hlk, hK, hAb, hG, hW⟩ := ok
  rw [hW] at kk ⊢
  intro ls H locs hl hP hS
  obtain ⟨C, T, Nf, ty0, h1, h2, h3, h4, h5, h6, h7, h8, h9⟩ := hf
  obtain ⟨ha, hN⟩ := hG.in (a := a) (by rw [hs]; intro q; cases q)
  have hat := tr_ws_at (B := B) (D := D) (sh := X.2.2.2.2.2.1) (M := M) ha hN
  rw [tr_c_obj hs] at hat
  have hfk := tr_fs_at (B := B) (M := M) (a := a) ks 0 k _ hk
  rw [Nat.zero_add] at hfk
  show W _ _ _ _ _ _ _ _ _ _ _ _ _ _ _ (F0 m pc ls (tr_v B (.ref a) :: st.map (tr_v B)))
  rw [tr_v_ref ha]
  refine va_get hx hb hts h2 hown hK hP (a - 1) hat h1 k h3 (hts _ h4) (fun x q => by rw [h5] at q; exact q) hfk hd ?_
  exact kk ls H locs hl hP hS
theorem tr_V.getZ {a ci k index : Nat} {ks : List Nat} {ty : FieldType} {fin : Bool} (hf : tr_fl X.2.2.1 index ci k ty fin) (hs : X.2.2.2.2.2.1 a = .inr (.inr (ci, ks))) (hk : ks[k]? = some (3)) (hd : decode X.1 pc = .ok (.getfield index, 3)) (h : tr_V X E (pc + 3) lv (.int (M.1 a k) :: st) M φ Z) : tr_V X E pc lv (.ref a :: st) M φ Z := by
  intro ok r hr hz
  have kk := h ok r hr hz
  obtain ⟨p, l, e, s, m, args, below, meth, c, dC, dI, B, D, hx, hb, hml, hown, hts, hret, hlk, hK, hAb, hG, hW⟩ := ok
  rw [hW] at kk ⊢
  intro ls H locs hl hP hS
  obtain ⟨C, T, Nf, ty0, h1, h2, h3, h4, h5, h6, h7, h8, h9⟩ := hf
  obtain ⟨ha, hN⟩ := hG.in (a := a) (by rw [hs]; intro q; cases q)
  have hat := tr_ws_at (B := B) (D := D) (sh := X.2.2.2.2.2.1) (M := M) ha hN
  rw [tr_c_obj hs] at hat
  have hfk := tr_fs_at (B := B) (M := M) (a := a) ks 0 k _ hk
  rw [Nat.zero_add] at hfk
  show W _ _ _ _ _ _ _ _ _ _ _ _ _ _ _ (F0 m pc ls (tr_v B (.ref a) :: st.map (tr_v B)))
  rw [tr_v_ref ha]
  refine va_get hx hb hts h2 hown hK hP (a - 1) hat h1 k h3 (hts _ h4) (fun x q => by rw [h5] at q; exact q) hfk hd ?_
  exact kk ls H locs hl hP hS
theorem tr_V.getJ {a ci k index : Nat} {ks : List Nat} {ty : FieldType} {fin : Bool} (hf : tr_fl X.2.2.1 index ci k ty fin) (hs : X.2.2.2.2.2.1 a = .inr (.inr (ci, ks))) (hk : ks[k]? = some (1)) (hd : decode X.1 pc = .ok (.getfield index, 3)) (h : tr_V X E (pc + 3) lv (.long (M.2 a k) :: st) M φ Z) : tr_V X E pc lv (.ref a :: st) M φ Z := by
  intro ok r hr hz
  have kk := h ok r hr hz
  obtain ⟨p, l, e, s, m, args, below, meth, c, dC, dI, B, D, hx, hb, hml, hown, hts, hret, hlk, hK, hAb, hG, hW⟩ := ok
  rw [hW] at kk ⊢
  intro ls H locs hl hP hS
  obtain ⟨C, T, Nf, ty0, h1, h2, h3, h4, h5, h6, h7, h8, h9⟩ := hf
  obtain ⟨ha, hN⟩ := hG.in (a := a) (by rw [hs]; intro q; cases q)
  have hat := tr_ws_at (B := B) (D := D) (sh := X.2.2.2.2.2.1) (M := M) ha hN
  rw [tr_c_obj hs] at hat
  have hfk := tr_fs_at (B := B) (M := M) (a := a) ks 0 k _ hk
  rw [Nat.zero_add] at hfk
  show W _ _ _ _ _ _ _ _ _ _ _ _ _ _ _ (F0 m pc ls (tr_v B (.ref a) :: st.map (tr_v B)))
  rw [tr_v_ref ha]
  refine va_get hx hb hts h2 hown hK hP (a - 1) hat h1 k h3 (hts _ h4) (fun x q => by rw [h5] at q; exact q) hfk hd ?_
  exact kk ls H locs hl hP hS
theorem tr_V.getM {a ci k index : Nat} {ks : List Nat} {ty : FieldType} {fin : Bool} (hf : tr_fl X.2.2.1 index ci k ty fin) (hs : X.2.2.2.2.2.1 a = .inr (.inr (ci, ks))) (hk : ks[k]? = some (2)) (hd : decode X.1 pc = .ok (.getfield index, 3)) (h : tr_V X E (pc + 3) lv (.ref (M.1 a k).toNatClampNeg :: st) M φ Z) : tr_V X E pc lv (.ref a :: st) M φ Z := by
  intro ok r hr hz
  have kk := h ok r hr hz
  obtain ⟨p, l, e, s, m, args, below, meth, c, dC, dI, B, D, hx, hb, hml, hown, hts, hret, hlk, hK, hAb, hG, hW⟩ := ok
  rw [hW] at kk ⊢
  intro ls H locs hl hP hS
  obtain ⟨C, T, Nf, ty0, h1, h2, h3, h4, h5, h6, h7, h8, h9⟩ := hf
  obtain ⟨ha, hN⟩ := hG.in (a := a) (by rw [hs]; intro q; cases q)
  have hat := tr_ws_at (B := B) (D := D) (sh := X.2.2.2.2.2.1) (M := M) ha hN
  rw [tr_c_obj hs] at hat
  have hfk := tr_fs_at (B := B) (M := M) (a := a) ks 0 k _ hk
  rw [Nat.zero_add] at hfk
  show W _ _ _ _ _ _ _ _ _ _ _ _ _ _ _ (F0 m pc ls (tr_v B (.ref a) :: st.map (tr_v B)))
  rw [tr_v_ref ha]
  refine va_get hx hb hts h2 hown hK hP (a - 1) hat h1 k h3 (hts _ h4) (fun x q => by rw [h5] at q; exact q) hfk hd ?_
  exact kk ls H locs hl hP hS
theorem tr_V.getR {a ci k index : Nat} {ks : List Nat} {ty : FieldType} {fin : Bool} {q : Nat} (hq : 0 < q) (hf : tr_fl X.2.2.1 index ci k ty fin) (hs : X.2.2.2.2.2.1 a = .inr (.inr (ci, ks))) (hk : ks[k]? = some (q + 4)) (hd : decode X.1 pc = .ok (.getfield index, 3)) (h : tr_V X E (pc + 3) lv (.ref q :: st) M φ Z) : tr_V X E pc lv (.ref a :: st) M φ Z := by
  intro ok r hr hz
  have kk := h ok r hr hz
  obtain ⟨p, l, e, s, m, args, below, meth, c, dC, dI, B, D, hx, hb, hml, hown, hts, hret, hlk, hK, hAb, hG, hW⟩ := ok
  rw [hW] at kk ⊢
  intro ls H locs hl hP hS
  obtain ⟨C, T, Nf, ty0, h1, h2, h3, h4, h5, h6, h7, h8, h9⟩ := hf
  obtain ⟨ha, hN⟩ := hG.in (a := a) (by rw [hs]; intro q; cases q)
  have hat := tr_ws_at (B := B) (D := D) (sh := X.2.2.2.2.2.1) (M := M) ha hN
  rw [tr_c_obj hs] at hat
  have hfk := tr_fs_at (B := B) (M := M) (a := a) ks 0 k _ hk
  rw [Nat.zero_add] at hfk
  show W _ _ _ _ _ _ _ _ _ _ _ _ _ _ _ (F0 m pc ls (tr_v B (.ref a) :: st.map (tr_v B)))
  rw [tr_v_ref ha]
  refine va_get hx hb hts h2 hown hK hP (a - 1) hat h1 k h3 (hts _ h4) (fun x q => by rw [h5] at q; exact q) hfk hd ?_
  have kk2 := kk ls H locs hl hP hS
  rw [List.map_cons, tr_v_ref hq] at kk2
  exact kk2
  --exact kk ls H locs hl hP hS
theorem tr_V.putI {a ci k index : Nat} {ks : List Nat} {M1 : tr_M} {v : Int32} (hf : tr_fl X.2.2.1 index ci k .int false) (hs : X.2.2.2.2.2.1 a = .inr (.inr (ci, ks))) (hk : ks[k]? = some (0)) (hd : decode X.1 pc = .ok (.putfield index, 3)) (hM : some (tr_st M a k v) = some M1) (h : tr_V X E (pc + 3) lv st M1 φ Z) : tr_V X E pc lv (.int v :: .ref a :: st) M φ Z := by
  cases hM
  intro ok r hr hz
  have kk := h ok r hr hz
  obtain ⟨p, l, e, s, m, args, below, meth, c, dC, dI, B, D, hx, hb, hml, hown, hts, hret, hlk, hK, hAb, hG, hW⟩ := ok
  rw [hW] at kk ⊢
  intro ls H locs hl hP hS
  obtain ⟨C, T, Nf, ty0, h1, h2, h3, h4, h5, h6, h7, h8, h9⟩ := hf
  obtain ⟨ha, hN⟩ := hG.in (a := a) (by rw [hs]; intro q; cases q)
  have hat := tr_ws_at (B := B) (D := D) (sh := X.2.2.2.2.2.1) (M := M) ha hN
  rw [tr_c_obj hs] at hat
  have hlen : k < (tr_fs B M a 0 ks).length := by
    rw [tr_fs_len]
    exact (List.getElem?_eq_some_iff.mp hk).1
  have hset : (tr_ws B D X.2.2.2.2.2.1 X.2.2.2.2.2.2 M).set (a - 1) (B + a, .inr (ci, (tr_fs B M a 0 ks).set k (tr_v B (.int v)))) = tr_ws B D X.2.2.2.2.2.1 X.2.2.2.2.2.2 (tr_st M a k v) := by
    refine tr_ws_set ha ?_ (fun b hb => ?_)
    · rw [tr_c_obj hs, tr_fs_set (B := B) (M := M) (M1 := tr_st M a k v) (a := a) (v := tr_v B (.int v)) ks 0 k _ hk ?_ (fun j c hj _ => ?_)]
      · rw [Nat.zero_add]
        show Value.int ((tr_st M a k v).1 a k) = Value.int v; rw [tr_st_s]
      · rw [Nat.zero_add]
        unfold tr_f
        split <;> first | rfl | (rw [tr_st_j hj]; done) | (rw [tr_st_j hj])
    · exact tr_c_other (fun j => tr_st_o hb) (fun j => rfl)
  show W _ _ _ _ _ _ _ _ _ _ _ _ _ _ _ (F0 m pc ls (tr_v B (.int v) :: tr_v B (.ref a) :: st.map (tr_v B)))
  rw [tr_v_ref ha]
  refine va_put hx hb hts h2 ty0 h6 h7 hown hK hP tr_D hS (a - 1) hat h1 k h3 (hts _ h4) (fun x q => by rw [h5] at q; exact q) h8 h9 rfl rfl hlen hd (fun H1 locs1 hP1 _ hS1 => ?_)
  rw [hset] at hP1
  exact kk ls H1 locs1 hl hP1 hS1
theorem tr_V.putZ {a ci k index : Nat} {ks : List Nat} {M1 : tr_M} {v : Int32} (hv : (v &&& 1 == v) = true) (hf : tr_fl X.2.2.1 index ci k .boolean false) (hs : X.2.2.2.2.2.1 a = .inr (.inr (ci, ks))) (hk : ks[k]? = some (3)) (hd : decode X.1 pc = .ok (.putfield index, 3)) (hM : some (tr_st M a k v) = some M1) (h : tr_V X E (pc + 3) lv st M1 φ Z) : tr_V X E pc lv (.int v :: .ref a :: st) M φ Z := by
  cases hM
  intro ok r hr hz
  have kk := h ok r hr hz
  obtain ⟨p, l, e, s, m, args, below, meth, c, dC, dI, B, D, hx, hb, hml, hown, hts, hret, hlk, hK, hAb, hG, hW⟩ := ok
  rw [hW] at kk ⊢
  intro ls H locs hl hP hS
  obtain ⟨C, T, Nf, ty0, h1, h2, h3, h4, h5, h6, h7, h8, h9⟩ := hf
  obtain ⟨ha, hN⟩ := hG.in (a := a) (by rw [hs]; intro q; cases q)
  have hat := tr_ws_at (B := B) (D := D) (sh := X.2.2.2.2.2.1) (M := M) ha hN
  rw [tr_c_obj hs] at hat
  have hlen : k < (tr_fs B M a 0 ks).length := by
    rw [tr_fs_len]
    exact (List.getElem?_eq_some_iff.mp hk).1
  have hset : (tr_ws B D X.2.2.2.2.2.1 X.2.2.2.2.2.2 M).set (a - 1) (B + a, .inr (ci, (tr_fs B M a 0 ks).set k (tr_v B (.int v)))) = tr_ws B D X.2.2.2.2.2.1 X.2.2.2.2.2.2 (tr_st M a k v) := by
    refine tr_ws_set ha ?_ (fun b hb => ?_)
    · rw [tr_c_obj hs, tr_fs_set (B := B) (M := M) (M1 := tr_st M a k v) (a := a) (v := tr_v B (.int v)) ks 0 k _ hk ?_ (fun j c hj _ => ?_)]
      · rw [Nat.zero_add]
        show Value.int ((tr_st M a k v).1 a k) = Value.int v; rw [tr_st_s]
      · rw [Nat.zero_add]
        unfold tr_f
        split <;> first | rfl | (rw [tr_st_j hj]; done) | (rw [tr_st_j hj])
    · exact tr_c_other (fun j => tr_st_o hb) (fun j => rfl)
  show W _ _ _ _ _ _ _ _ _ _ _ _ _ _ _ (F0 m pc ls (tr_v B (.int v) :: tr_v B (.ref a) :: st.map (tr_v B)))
  rw [tr_v_ref ha]
  refine va_put hx hb hts h2 ty0 h6 h7 hown hK hP tr_D hS (a - 1) hat h1 k h3 (hts _ h4) (fun x q => by rw [h5] at q; exact q) h8 h9 (tr_nz hv).1 (tr_nz hv).2 hlen hd (fun H1 locs1 hP1 _ hS1 => ?_)
  rw [hset] at hP1
  exact kk ls H1 locs1 hl hP1 hS1
theorem tr_V.putJ {a ci k index : Nat} {ks : List Nat} {M1 : tr_M} {v : Int64} (hf : tr_fl X.2.2.1 index ci k .long false) (hs : X.2.2.2.2.2.1 a = .inr (.inr (ci, ks))) (hk : ks[k]? = some (1)) (hd : decode X.1 pc = .ok (.putfield index, 3)) (hM : some (tr_sl M a k v) = some M1) (h : tr_V X E (pc + 3) lv st M1 φ Z) : tr_V X E pc lv (.long v :: .ref a :: st) M φ Z := by
  cases hM
  intro ok r hr hz
  have kk := h ok r hr hz
  obtain ⟨p, l, e, s, m, args, below, meth, c, dC, dI, B, D, hx, hb, hml, hown, hts, hret, hlk, hK, hAb, hG, hW⟩ := ok
  rw [hW] at kk ⊢
  intro ls H locs hl hP hS
  obtain ⟨C, T, Nf, ty0, h1, h2, h3, h4, h5, h6, h7, h8, h9⟩ := hf
  obtain ⟨ha, hN⟩ := hG.in (a := a) (by rw [hs]; intro q; cases q)
  have hat := tr_ws_at (B := B) (D := D) (sh := X.2.2.2.2.2.1) (M := M) ha hN
  rw [tr_c_obj hs] at hat
  have hlen : k < (tr_fs B M a 0 ks).length := by
    rw [tr_fs_len]
    exact (List.getElem?_eq_some_iff.mp hk).1
  have hset : (tr_ws B D X.2.2.2.2.2.1 X.2.2.2.2.2.2 M).set (a - 1) (B + a, .inr (ci, (tr_fs B M a 0 ks).set k (tr_v B (.long v)))) = tr_ws B D X.2.2.2.2.2.1 X.2.2.2.2.2.2 (tr_sl M a k v) := by
    refine tr_ws_set ha ?_ (fun b hb => ?_)
    · rw [tr_c_obj hs, tr_fs_set (B := B) (M := M) (M1 := tr_sl M a k v) (a := a) (v := tr_v B (.long v)) ks 0 k _ hk ?_ (fun j c hj _ => ?_)]
      · rw [Nat.zero_add]
        show Value.long ((tr_sl M a k v).2 a k) = Value.long v; rw [tr_sl_s]
      · rw [Nat.zero_add]
        unfold tr_f
        split <;> first | rfl | (rw [tr_sl_j hj]; done) | (rw [tr_sl_j hj])
    · exact tr_c_other (fun j => rfl) (fun j => tr_sl_o hb)
  show W _ _ _ _ _ _ _ _ _ _ _ _ _ _ _ (F0 m pc ls (tr_v B (.long v) :: tr_v B (.ref a) :: st.map (tr_v B)))
  rw [tr_v_ref ha]
  refine va_put hx hb hts h2 ty0 h6 h7 hown hK hP tr_D hS (a - 1) hat h1 k h3 (hts _ h4) (fun x q => by rw [h5] at q; exact q) h8 h9 rfl rfl hlen hd (fun H1 locs1 hP1 _ hS1 => ?_)
  rw [hset] at hP1
  exact kk ls H1 locs1 hl hP1 hS1
theorem tr_V.putM {a ci k index : Nat} {ks : List Nat} {M1 : tr_M} {v : Nat} {C0 : String} (hv : v < 2 ^ 31) (hf : tr_fl X.2.2.1 index ci k (.object C0) false) (hs : X.2.2.2.2.2.1 a = .inr (.inr (ci, ks))) (hk : ks[k]? = some (2)) (hd : decode X.1 pc = .ok (.putfield index, 3)) (hM : some (tr_st M a k (nI v)) = some M1) (h : tr_V X E (pc + 3) lv st M1 φ Z) : tr_V X E pc lv (.ref v :: .ref a :: st) M φ Z := by
  cases hM
  intro ok r hr hz
  have kk := h ok r hr hz
  obtain ⟨p, l, e, s, m, args, below, meth, c, dC, dI, B, D, hx, hb, hml, hown, hts, hret, hlk, hK, hAb, hG, hW⟩ := ok
  rw [hW] at kk ⊢
  intro ls H locs hl hP hS
  obtain ⟨C, T, Nf, ty0, h1, h2, h3, h4, h5, h6, h7, h8, h9⟩ := hf
  obtain ⟨ha, hN⟩ := hG.in (a := a) (by rw [hs]; intro q; cases q)
  have hat := tr_ws_at (B := B) (D := D) (sh := X.2.2.2.2.2.1) (M := M) ha hN
  rw [tr_c_obj hs] at hat
  have hlen : k < (tr_fs B M a 0 ks).length := by
    rw [tr_fs_len]
    exact (List.getElem?_eq_some_iff.mp hk).1
  have hset : (tr_ws B D X.2.2.2.2.2.1 X.2.2.2.2.2.2 M).set (a - 1) (B + a, .inr (ci, (tr_fs B M a 0 ks).set k (tr_v B (.ref v)))) = tr_ws B D X.2.2.2.2.2.1 X.2.2.2.2.2.2 (tr_st M a k (nI v)) := by
    refine tr_ws_set ha ?_ (fun b hb => ?_)
    · rw [tr_c_obj hs, tr_fs_set (B := B) (M := M) (M1 := tr_st M a k (nI v)) (a := a) (v := tr_v B (.ref v)) ks 0 k _ hk ?_ (fun j c hj _ => ?_)]
      · rw [Nat.zero_add]
        show tr_v B (.ref ((tr_st M a k (nI v)).1 a k).toNatClampNeg) = tr_v B (.ref v); rw [tr_st_s, nI_clamp hv]
      · rw [Nat.zero_add]
        unfold tr_f
        split <;> first | rfl | (rw [tr_st_j hj]; done) | (rw [tr_st_j hj])
    · exact tr_c_other (fun j => tr_st_o hb) (fun j => rfl)
  show W _ _ _ _ _ _ _ _ _ _ _ _ _ _ _ (F0 m pc ls (tr_v B (.ref v) :: tr_v B (.ref a) :: st.map (tr_v B)))
  rw [tr_v_ref ha]
  refine va_put hx hb hts h2 ty0 h6 h7 hown hK hP tr_D hS (a - 1) hat h1 k h3 (hts _ h4) (fun x q => by rw [h5] at q; exact q) h8 h9 (tr_no (C := C0) B v).1 (tr_no (C := C0) B v).2 hlen hd (fun H1 locs1 hP1 _ hS1 => ?_)
  rw [hset] at hP1
  exact kk ls H1 locs1 hl hP1 hS1
theorem tr_V.iald {a n : Nat} {i v : Int32} (hv : tr_rd n M a i = some v) (hs : X.2.2.2.2.2.1 a = .inl (0, n)) (hd : decode X.1 pc = .ok (.iaload, 1)) (h : tr_V X E (pc + 1) lv (.int v :: st) M φ Z) : tr_V X E pc lv (.int i :: .ref a :: st) M φ Z := by
  intro ok r hr hz
  have kk := h ok r hr hz
  obtain ⟨p, l, e, s, m, args, below, meth, c, dC, dI, B, D, hx, hb, hml, hown, hts, hret, hlk, hK, hAb, hG, hW⟩ := ok
  rw [hW] at kk ⊢
  intro ls H locs hl hP hS
  by_cases hi : tr_ix i n = true
  · have hv2 : M.1 a i.toNatClampNeg = v := by simpa [tr_rd, hi] using hv
    obtain ⟨ha, hN⟩ := hG.in (a := a) (by rw [hs]; intro q; cases q <;> exact tr_ix_pos hi rfl)
    have hat := tr_ws_at (B := B) (D := D) (sh := X.2.2.2.2.2.1) (M := M) ha hN
    rw [tr_c_arr hs] at hat
    show W _ _ _ _ _ _ _ _ _ _ _ _ _ _ _ (F0 m pc ls (.int i :: tr_v B (.ref a) :: st.map (tr_v B)))
    rw [tr_v_ref ha]
    refine va_iald hx hb hK hP (a - 1) 0 hat rfl (tr_ix_in hi) hd ?_
    rw [hv2]
    exact kk ls H locs hl hP hS
  · simp [tr_rd, hi] at hv
theorem tr_V.bald {a n : Nat} {i v : Int32} (hv : tr_rd n M a i = some v) (hs : X.2.2.2.2.2.1 a = .inl (1, n)) (hd : decode X.1 pc = .ok (.baload, 1)) (h : tr_V X E (pc + 1) lv (.int v :: st) M φ Z) : tr_V X E pc lv (.int i :: .ref a :: st) M φ Z := by
  intro ok r hr hz
  have kk := h ok r hr hz
  obtain ⟨p, l, e, s, m, args, below, meth, c, dC, dI, B, D, hx, hb, hml, hown, hts, hret, hlk, hK, hAb, hG, hW⟩ := ok
  rw [hW] at kk ⊢
  intro ls H locs hl hP hS
  by_cases hi : tr_ix i n = true
  · have hv2 : M.1 a i.toNatClampNeg = v := by simpa [tr_rd, hi] using hv
    obtain ⟨ha, hN⟩ := hG.in (a := a) (by rw [hs]; intro q; cases q <;> exact tr_ix_pos hi rfl)
    have hat := tr_ws_at (B := B) (D := D) (sh := X.2.2.2.2.2.1) (M := M) ha hN
    rw [tr_c_arr hs] at hat
    show W _ _ _ _ _ _ _ _ _ _ _ _ _ _ _ (F0 m pc ls (.int i :: tr_v B (.ref a) :: st.map (tr_v B)))
    rw [tr_v_ref ha]
    refine va_bald hx hb hK hP (a - 1) 1 hat rfl (tr_ix_in hi) hd ?_
    rw [hv2]
    exact kk ls H locs hl hP hS
  · simp [tr_rd, hi] at hv
theorem tr_V.zald {a n : Nat} {i v : Int32} (hv : tr_rd n M a i = some v) (hs : X.2.2.2.2.2.1 a = .inl (2, n)) (hd : decode X.1 pc = .ok (.baload, 1)) (h : tr_V X E (pc + 1) lv (.int v :: st) M φ Z) : tr_V X E pc lv (.int i :: .ref a :: st) M φ Z := by
  intro ok r hr hz
  have kk := h ok r hr hz
  obtain ⟨p, l, e, s, m, args, below, meth, c, dC, dI, B, D, hx, hb, hml, hown, hts, hret, hlk, hK, hAb, hG, hW⟩ := ok
  rw [hW] at kk ⊢
  intro ls H locs hl hP hS
  by_cases hi : tr_ix i n = true
  · have hv2 : M.1 a i.toNatClampNeg = v := by simpa [tr_rd, hi] using hv
    obtain ⟨ha, hN⟩ := hG.in (a := a) (by rw [hs]; intro q; cases q <;> exact tr_ix_pos hi rfl)
    have hat := tr_ws_at (B := B) (D := D) (sh := X.2.2.2.2.2.1) (M := M) ha hN
    rw [tr_c_arr hs] at hat
    show W _ _ _ _ _ _ _ _ _ _ _ _ _ _ _ (F0 m pc ls (.int i :: tr_v B (.ref a) :: st.map (tr_v B)))
    rw [tr_v_ref ha]
    refine va_zald hx hb hK hP (a - 1) 2 hat rfl (tr_ix_in hi) hd ?_
    rw [hv2]
    exact kk ls H locs hl hP hS
  · simp [tr_rd, hi] at hv
theorem tr_V.iast {a n : Nat} {i v : Int32} {M1 : tr_M} (hv : tr_wr n M a i v = some M1) (hs : X.2.2.2.2.2.1 a = .inl (0, n)) (hd : decode X.1 pc = .ok (.iastore, 1)) (h : tr_V X E (pc + 1) lv st M1 φ Z) : tr_V X E pc lv (.int v :: .int i :: .ref a :: st) M φ Z := by
  intro ok r hr hz
  have kk := h ok r hr hz
  obtain ⟨p, l, e, s, m, args, below, meth, c, dC, dI, B, D, hx, hb, hml, hown, hts, hret, hlk, hK, hAb, hG, hW⟩ := ok
  rw [hW] at kk ⊢
  intro ls H locs hl hP hS
  by_cases hi : tr_ix i n = true
  · have hv2 : tr_st M a i.toNatClampNeg v = M1 := by simpa [tr_wr, hi] using hv
    obtain ⟨ha, hN⟩ := hG.in (a := a) (by rw [hs]; intro q; cases q <;> exact tr_ix_pos hi rfl)
    have hat := tr_ws_at (B := B) (D := D) (sh := X.2.2.2.2.2.1) (M := M) ha hN
    rw [tr_c_arr hs] at hat
    have hset : (tr_ws B D X.2.2.2.2.2.1 X.2.2.2.2.2.2 M).set (a - 1) (B + a, .inl (D 0, n, .inl (upd (M.1 a) i.toNatClampNeg v))) = tr_ws B D X.2.2.2.2.2.1 X.2.2.2.2.2.2 M1 := by
      refine tr_ws_set ha ?_ (fun b hb => ?_)
      · rw [tr_c_arr hs, ← hv2, tr_st_row]
      · rw [← hv2]
        exact tr_c_other (fun j => tr_st_o hb) (fun j => rfl)
    show W _ _ _ _ _ _ _ _ _ _ _ _ _ _ _ (F0 m pc ls (.int v :: .int i :: tr_v B (.ref a) :: st.map (tr_v B)))
    rw [tr_v_ref ha]
    refine va_iast hx hb hK hP tr_D hS (a - 1) 0 hat rfl (tr_ix_in hi) hd (fun H1 locs1 hP1 _ hS1 => ?_)
    rw [hset] at hP1
    exact kk ls H1 locs1 hl hP1 hS1
  · simp [tr_wr, hi] at hv
theorem tr_V.bast {a n : Nat} {i v : Int32} {M1 : tr_M} (hv : tr_wr n M a i (vp_nar .byte v) = some M1) (hs : X.2.2.2.2.2.1 a = .inl (1, n)) (hd : decode X.1 pc = .ok (.bastore, 1)) (h : tr_V X E (pc + 1) lv st M1 φ Z) : tr_V X E pc lv (.int v :: .int i :: .ref a :: st) M φ Z := by
  intro ok r hr hz
  have kk := h ok r hr hz
  obtain ⟨p, l, e, s, m, args, below, meth, c, dC, dI, B, D, hx, hb, hml, hown, hts, hret, hlk, hK, hAb, hG, hW⟩ := ok
  rw [hW] at kk ⊢
  intro ls H locs hl hP hS
  by_cases hi : tr_ix i n = true
  · have hv2 : tr_st M a i.toNatClampNeg (vp_nar .byte v) = M1 := by simpa [tr_wr, hi] using hv
    obtain ⟨ha, hN⟩ := hG.in (a := a) (by rw [hs]; intro q; cases q <;> exact tr_ix_pos hi rfl)
    have hat := tr_ws_at (B := B) (D := D) (sh := X.2.2.2.2.2.1) (M := M) ha hN
    rw [tr_c_arr hs] at hat
    have hset : (tr_ws B D X.2.2.2.2.2.1 X.2.2.2.2.2.2 M).set (a - 1) (B + a, .inl (D 1, n, .inl (upd (M.1 a) i.toNatClampNeg (vp_nar .byte v)))) = tr_ws B D X.2.2.2.2.2.1 X.2.2.2.2.2.2 M1 := by
      refine tr_ws_set ha ?_ (fun b hb => ?_)
      · rw [tr_c_arr hs, ← hv2, tr_st_row]
      · rw [← hv2]
        exact tr_c_other (fun j => tr_st_o hb) (fun j => rfl)
    show W _ _ _ _ _ _ _ _ _ _ _ _ _ _ _ (F0 m pc ls (.int v :: .int i :: tr_v B (.ref a) :: st.map (tr_v B)))
    rw [tr_v_ref ha]
    refine va_bast hx hb hK hP tr_D hS (a - 1) 1 hat rfl (tr_ix_in hi) hd (fun H1 locs1 hP1 _ hS1 => ?_)
    rw [hset] at hP1
    exact kk ls H1 locs1 hl hP1 hS1
  · simp [tr_wr, hi] at hv
theorem tr_V.zast {a n : Nat} {i v : Int32} {M1 : tr_M} (hv : tr_wr n M a i (vp_nar .boolean v) = some M1) (hs : X.2.2.2.2.2.1 a = .inl (2, n)) (hd : decode X.1 pc = .ok (.bastore, 1)) (h : tr_V X E (pc + 1) lv st M1 φ Z) : tr_V X E pc lv (.int v :: .int i :: .ref a :: st) M φ Z := by
  intro ok r hr hz
  have kk := h ok r hr hz
  obtain ⟨p, l, e, s, m, args, below, meth, c, dC, dI, B, D, hx, hb, hml, hown, hts, hret, hlk, hK, hAb, hG, hW⟩ := ok
  rw [hW] at kk ⊢
  intro ls H locs hl hP hS
  by_cases hi : tr_ix i n = true
  · have hv2 : tr_st M a i.toNatClampNeg (vp_nar .boolean v) = M1 := by simpa [tr_wr, hi] using hv
    obtain ⟨ha, hN⟩ := hG.in (a := a) (by rw [hs]; intro q; cases q <;> exact tr_ix_pos hi rfl)
    have hat := tr_ws_at (B := B) (D := D) (sh := X.2.2.2.2.2.1) (M := M) ha hN
    rw [tr_c_arr hs] at hat
    have hset : (tr_ws B D X.2.2.2.2.2.1 X.2.2.2.2.2.2 M).set (a - 1) (B + a, .inl (D 2, n, .inl (upd (M.1 a) i.toNatClampNeg (vp_nar .boolean v)))) = tr_ws B D X.2.2.2.2.2.1 X.2.2.2.2.2.2 M1 := by
      refine tr_ws_set ha ?_ (fun b hb => ?_)
      · rw [tr_c_arr hs, ← hv2, tr_st_row]
      · rw [← hv2]
        exact tr_c_other (fun j => tr_st_o hb) (fun j => rfl)
    show W _ _ _ _ _ _ _ _ _ _ _ _ _ _ _ (F0 m pc ls (.int v :: .int i :: tr_v B (.ref a) :: st.map (tr_v B)))
    rw [tr_v_ref ha]
    refine va_zast hx hb hK hP tr_D hS (a - 1) 2 hat rfl (tr_ix_in hi) hd (fun H1 locs1 hP1 _ hS1 => ?_)
    rw [hset] at hP1
    exact kk ls H1 locs1 hl hP1 hS1
  · simp [tr_wr, hi] at hv
theorem tr_V.ialdL {a : Nat} {i v : Int32} (hv : tr_rd (tr_len X.2.2.2.2.2.1 a) M a i = some v) (hd : decode X.1 pc = .ok (.iaload, 1)) (h : tr_V X E (pc + 1) lv (.int v :: st) M φ Z) : tr_V X E pc lv (.int i :: .ref a :: st) M φ Z := by
  by_cases hi : tr_ix i (tr_len X.2.2.2.2.2.1 a) = true
  · exact tr_V.iald hv (tr_len_sh (tr_ix_pos hi)) hd h
  · simp [tr_rd, hi] at hv
theorem tr_V.iastL {a : Nat} {i v : Int32} {M1 : tr_M} (hv : tr_wr (tr_len X.2.2.2.2.2.1 a) M a i v = some M1) (hd : decode X.1 pc = .ok (.iastore, 1)) (h : tr_V X E (pc + 1) lv st M1 φ Z) : tr_V X E pc lv (.int v :: .int i :: .ref a :: st) M φ Z := by
  by_cases hi : tr_ix i (tr_len X.2.2.2.2.2.1 a) = true
  · exact tr_V.iast hv (tr_len_sh (tr_ix_pos hi)) hd h
  · simp [tr_wr, hi] at hv
theorem tr_V.aald {a t n q : Nat} {f : Nat → Nat} {i : Int32} {ty : FieldType} (hv : tr_ra n f i = some q) (hs : X.2.2.2.2.2.1 a = .inr (.inl (t, n, f))) (hq : 0 < q) (hty : ∀ D : Nat → ClassId, (tr_tys D)[t]? = some (D t, ty)) (hr : ty.isReference = true) (hd : decode X.1 pc = .ok (.aaload, 1)) (h : tr_V X E (pc + 1) lv (.ref q :: st) M φ Z) : tr_V X E pc lv (.int i :: .ref a :: st) M φ Z := by
  intro ok r hrr hz
  have kk := h ok r hrr hz
  obtain ⟨p, l, e, s, m, args, below, meth, c, dC, dI, B, D, hx, hb, hml, hown, hts, hret, hlk, hK, hAb, hG, hW⟩ := ok
  rw [hW] at kk ⊢
  intro ls H locs hl hP hS
  by_cases hi : tr_ix i n = true
  · have hv2 : f i.toNatClampNeg = q := by simpa [tr_ra, hi] using hv
    obtain ⟨ha, hN⟩ := hG.in (a := a) (by rw [hs]; intro q; cases q)
    have hat := tr_ws_at (B := B) (D := D) (sh := X.2.2.2.2.2.1) (M := M) ha hN
    rw [tr_c_refs hs] at hat
    have hin := tr_ix_in hi
    have hlt : i.toNatClampNeg < n := Nat.not_le.mp fun q => hin (Or.inr q)
    have kk2 := kk ls H locs hl hP hS
    rw [List.map_cons, tr_v_ref hq] at kk2
    show W _ _ _ _ _ _ _ _ _ _ _ _ _ _ _ (F0 m pc ls (.int i :: tr_v B (.ref a) :: st.map (tr_v B)))
    rw [tr_v_ref ha]
    refine W.aald (v := .ref (B + q)) hx hb (hP (a - 1) _ hat) ((hK.2 t _ (hty D)).1 n (fun j => va_rf (some (B + f j)))) hr (fun q => by cases q) (by show ¬ (i < 0 ∨ (arrV _ _ _).slots.size ≤ _); rw [arrV_size]; exact hin) (by show (arrV _ _ _).slots[_]? = _; rw [arrV_read _ _ hlt]; show some (va_rf (some (B + f i.toNatClampNeg))) = _; rw [hv2]; rfl) rfl rfl hd kk2
  · simp [tr_ra, hi] at hv
theorem tr_V.alenR {a t n : Nat} {f : Nat → Nat} {v : Int32} {ty : FieldType} (hs : X.2.2.2.2.2.1 a = .inr (.inl (t, n, f))) (hv : Int32.ofNat n = v) (hty : ∀ D : Nat → ClassId, (tr_tys D)[t]? = some (D t, ty)) (hd : decode X.1 pc = .ok (.arraylength, 1)) (h : tr_V X E (pc + 1) lv (.int v :: st) M φ Z) : tr_V X E pc lv (.ref a :: st) M φ Z := by
  intro ok r hrr hz
  have kk := h ok r hrr hz
  obtain ⟨p, l, e, s, m, args, below, meth, c, dC, dI, B, D, hx, hb, hml, hown, hts, hret, hlk, hK, hAb, hG, hW⟩ := ok
  rw [hW] at kk ⊢
  intro ls H locs hl hP hS
  obtain ⟨ha, hN⟩ := hG.in (a := a) (by rw [hs]; intro q; cases q)
  have hat := tr_ws_at (B := B) (D := D) (sh := X.2.2.2.2.2.1) (M := M) ha hN
  rw [tr_c_refs hs] at hat
  show W _ _ _ _ _ _ _ _ _ _ _ _ _ _ _ (F0 m pc ls (tr_v B (.ref a) :: st.map (tr_v B)))
  rw [tr_v_ref ha]
  exact va_alen hx hb hK hP (a - 1) t hat (hty D) hv hd (kk ls H locs hl hP hS)
theorem tr_V.alenI {a : Nat} (hs : tr_len X.2.2.2.2.2.1 a ≠ 0) (hd : decode X.1 pc = .ok (.arraylength, 1)) (h : tr_V X E (pc + 1) lv (.int (nI (tr_len X.2.2.2.2.2.1 a)) :: st) M φ Z) : tr_V X E pc lv (.ref a :: st) M φ Z := by
  intro ok r hrr hz
  have kk := h ok r hrr hz
  obtain ⟨p, l, e, s, m, args, below, meth, c, dC, dI, B, D, hx, hb, hml, hown, hts, hret, hlk, hK, hAb, hG, hW⟩ := ok
  rw [hW] at kk ⊢
  intro ls H locs hl hP hS
  have hs2 := tr_len_sh hs
  obtain ⟨ha, hN⟩ := hG.in (a := a) (by rw [hs2]; exact fun q => hs (congrArg Prod.snd (Sum.inl.inj q)))
  have hat := tr_ws_at (B := B) (D := D) (sh := X.2.2.2.2.2.1) (M := M) ha hN
  rw [tr_c_arr hs2] at hat
  show W _ _ _ _ _ _ _ _ _ _ _ _ _ _ _ (F0 m pc ls (tr_v B (.ref a) :: st.map (tr_v B)))
  rw [tr_v_ref ha]
  exact va_alen hx hb hK hP (a - 1) 0 hat rfl rfl hd (kk ls H locs hl hP hS)

end TRM
