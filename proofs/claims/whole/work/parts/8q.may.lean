def lsI (s l : Nat) : Int32 := if s = 0 then -9 else nI l
theorem lsI_eq {s l x : Nat} (hx : x < 10) (hl : l < 10) : (lsI s l = nI x) ↔ ls s l = x := by
  unfold lsI ls
  by_cases z : s = 0
  · rw [if_pos z, if_pos z]
    have h1 : ¬ (-9 : Int32) = nI x := by
      rcases (show x = 0 ∨ x = 1 ∨ x = 2 ∨ x = 3 ∨ x = 4 ∨ x = 5 ∨ x = 6 ∨ x = 7 ∨ x = 8 ∨ x = 9 by omega) with h | h | h | h | h | h | h | h | h | h <;> subst h <;> decide
    constructor
    · intro q; exact absurd q h1
    · intro q; omega
  · rw [if_neg z, if_neg z, neq (by omega) (by omega)]
theorem keepsBy_eq {w : Wd} {k s l a : Nat} {M : tr_M} (hok : WOk w) (hm : MWd w M) (hk : k < w.2.2.1) (hs : s < 1024) (hl : l < 10) (ha : a < 10) : mX7_keepsBy (nI k) (nI s) (lsI s l) (nI a) (nI (cnt 10 s)) M = some (if stM (w.2.2.2.1 k) s (ls s l) a = true then 1 else 0) := by
  have hr := hok.2.2.2.2.2.1 k hk
  have hn := hok.1
  have hc := cnt_le s 10
  unfold mX7_keepsBy
  rw [ruleAt1 hok hm hk, Option.bind_some, ruleAt2 hok hm hk, Option.bind_some, ruleAt0 hok hm hk, Option.bind_some, ruleAt3 hok hm hk]
  generalize hgr : w.2.2.2.1 k = r at hr ⊢
  obtain ⟨t, x, y, z⟩ := r
  dsimp only
  rcases hr with ⟨h1, -, -, -⟩ | ⟨h1, h2, h3, h4, -⟩ | ⟨h1, h2, h3, -⟩ | ⟨h1, h2, h3, h4, h5⟩
  · dsimp only at h1
    subst h1
    simp (config := { decide := true }) only [if_false, stM, stC, if_true]
  · dsimp only at h1 h2 h3
    rcases h1 with h1 | h1 | h1 <;> subst h1 <;> simp (config := { decide := true }) only [if_true, if_false, stM, stC]
    · simp (disch := omega) only [neq, has_eq]
      by_cases q : a = y <;> cases b : s.testBit x <;> simp [q]
    · simp (disch := omega) only [neq, lsI_eq]
      by_cases q : a = y <;> by_cases b : ls s l = x <;> simp [q, b]
    · simp (disch := omega) only [neq, lsI_eq]
      have h5 : ¬ x = y := h4
      have h6 : ¬ y = x := fun e => h4 e.symm
      by_cases q : a = x <;> by_cases b : ls s l = y <;> by_cases q2 : a = y <;> by_cases b2 : ls s l = x <;> simp [q, b, q2, b2, tr_el, h5, h6]
  · dsimp only at h1 h2 h3
    rcases h1 with h1 | h1 <;> subst h1 <;> simp (config := { decide := true }) only [if_true, if_false, stM, stC]
    · simp (disch := omega) only [neq]
      by_cases q : a = x <;> by_cases b : cnt 10 s = y <;> simp [q, b]
    · simp (disch := omega) only [neq, nlt]
      by_cases q : a = x <;> by_cases b : y < cnt 10 s <;> simp [q, b]
  · dsimp only at h1 h2 h3 h4
    subst h1
    simp (config := { decide := true }) only [if_true, if_false, stM, stC]
    simp (disch := omega) only [neq, has_eq, Option.bind_some]
    by_cases q : a = x <;> cases b : s.testBit y <;> cases b2 : s.testBit z <;> simp [q]
def PinX (pin : Option (Nat × Nat)) (M : tr_M) : Prop := match pin with | none => M.1 1 27 = -9 | some (t, q) => M.1 1 27 = nI t ∧ M.1 1 28 = nI q ∧ t < 10 ∧ q < 10
theorem n9_ne {x : Nat} (hx : x < 10) : ¬ (-9 : Int32) = nI x := by
  rcases (show x = 0 ∨ x = 1 ∨ x = 2 ∨ x = 3 ∨ x = 4 ∨ x = 5 ∨ x = 6 ∨ x = 7 ∨ x = 8 ∨ x = 9 by omega) with h | h | h | h | h | h | h | h | h | h <;> subst h <;> decide
theorem may_loop {w : Wd} {s l a : Nat} {M : tr_M} (hok : WOk w) (hm : MWd w M) (hs : s < 1024) (hl : l < 10) (ha : a < 10) (v : Bool) : tr_loop (mX7_mayCome_l67 (nI s) (lsI s l) (nI a) M (nI (cnt 10 s))) (if v = true then 1 else 0, 0) = some (if (v && al w.2.2.1 (fun k => w.2.2.2.2 k || stM (w.2.2.2.1 k) s (ls s l) a)) = true then 1 else 0) := by
  have h8 := hok.2.2.2.2.1
  have hg : ∀ b : Bool, tr_gd ((if b = true then (1 : Int32) else 0) &&& 1 == (if b = true then 1 else 0)) = some () := fun b => by cases b <;> decide
  obtain ⟨r, h1, h2⟩ := tr_loop_inv (step := mX7_mayCome_l67 (nI s) (lsI s l) (nI a) M (nI (cnt 10 s))) (s0 := (if v = true then 1 else 0, 0)) (fun k t => t = (if (v && al k (fun k => w.2.2.2.2 k || stM (w.2.2.2.1 k) s (ls s l) a)) = true then 1 else 0, nI k)) (fun r => r = if (v && al w.2.2.1 (fun k => w.2.2.2.2 k || stM (w.2.2.2.1 k) s (ls s l) a)) = true then 1 else 0) w.2.2.1 (by omega) (by simp [al, n00]) (by
      rintro k t hk rfl
      unfold mX7_mayCome_l67
      dsimp only
      rw [hm.2.1, if_pos ((nlt (by omega) (by omega)).mpr hk)]
      by_cases c : (v && al k (fun k => w.2.2.2.2 k || stM (w.2.2.2.1 k) s (ls s l) a)) = true
      · left
        rw [if_pos c, if_neg (by decide), ruleAt4 hok hm hk, Option.bind_some, keepsBy_eq hok hm hk hs hl ha, nadd1]
        have ho : nI (offF w k) = 1 ↔ w.2.2.2.2 k = true := by
          unfold offF
          cases w.2.2.2.2 k <;> decide
        have e : (v && al (k + 1) (fun k => w.2.2.2.2 k || stM (w.2.2.2.1 k) s (ls s l) a)) = (w.2.2.2.2 k || stM (w.2.2.2.1 k) s (ls s l) a) := by
          show (v && (al k _ && _)) = _
          rw [← Bool.and_assoc, c, Bool.true_and]
        rw [e]
        cases o : w.2.2.2.2 k with
        | true => rw [if_pos (ho.mpr o)]; exact ⟨_, rfl, by simp⟩
        | false =>
          rw [if_neg (fun q => by rw [ho.mp q] at o; cases o), Option.bind_some]
          cases stM (w.2.2.2.1 k) s (ls s l) a
          · exact ⟨_, rfl, by simp⟩
          · exact ⟨_, rfl, by simp⟩
      · right
        rw [if_neg c, if_pos rfl]
        refine ⟨0, by rfl, ?_⟩
        rw [if_neg]
        intro q
        refine c ?_
        rw [Bool.and_eq_true] at q ⊢
        exact ⟨q.1, al_iff.mpr fun i hi => al_iff.mp q.2 i (by omega)⟩) (by
      rintro t rfl
      unfold mX7_mayCome_l67
      dsimp only
      rw [hm.2.1, if_neg (by rw [nlt (by omega) (by omega)]; omega), hg]
      exact ⟨_, rfl, rfl⟩)
  rw [h1, h2]
theorem mayCome_eq {w : Wd} {pin : Option (Nat × Nat)} {s l a : Nat} {M : tr_M} (hok : WOk w) (hm : MWd w M) (hp : PinX pin M) (hs : s < 1024) (hl : l < 10) (ha : a < w.1) : mX7_mayCome (nI s) (lsI s l) (nI a) M = some (if nxW stM w pin s (ls s l) a = true then 1 else 0) := by
  have hn := hok.1
  have hc := cnt_le s 10
  unfold mX7_mayCome
  rw [bits_eq hs, Option.bind_some]
  simp only [has_eq (show s < 2147483648 by omega) (show a < 31 by omega)]
  have key : (if (if s.testBit a = true then (1 : Int32) else 0) = 0 then (Option.bind (if (M.1 1 27) = nI a then (if (M.1 1 28) = nI (cnt 10 s) then some (.inl ()) else some (.inr (0 : Int32))) else some (.inl ()) : Option (Unit ⊕ Int32)) (tr_el (fun (_ : Unit) => if (M.1 1 27) = (-9 : Int32) then some (1 : Int32) else (if (M.1 1 28) = nI (cnt 10 s) then (if (M.1 1 27) = nI a then some (1 : Int32) else some (0 : Int32)) else some (1 : Int32))))) else some (0 : Int32)) = some (if (!s.testBit a && pinb pin (cnt 10 s) a) = true then 1 else 0) := by
    cases s.testBit a with
    | true => rfl
    | false =>
      rw [if_pos (by decide)]
      cases pin with
      | none =>
        have h27 : M.1 1 27 = -9 := hp
        rw [h27, if_neg (n9_ne (by omega))]
        rfl
      | some p =>
        obtain ⟨t, q⟩ := p
        obtain ⟨h27, h28, ht, hq⟩ := hp
        rw [h27, h28]
        have h9 : ¬ nI t = -9 := fun e => n9_ne ht e.symm
        simp (disch := omega) only [neq, h9, if_false]
        unfold pinb
        by_cases c1 : t = a <;> by_cases c2 : q = cnt 10 s
        · simp [c1, c2, tr_el]
        · simp [c1, c2, tr_el, show ¬ cnt 10 s = q from fun e => c2 e.symm]
        · simp [c1, c2, tr_el, show ¬ a = t from fun e => c1 e.symm]
        · simp [c1, c2, tr_el, show ¬ cnt 10 s = q from fun e => c2 e.symm, show ¬ a = t from fun e => c1 e.symm]
  rw [key, Option.bind_some, may_loop hok hm hs hl (by omega)]
  unfold nxW
  simp [ha]
