/-! ===== the least value of a list, how many have it ===== -/
def cv {α : Type} (c : α → Nat) (A : List α) : Nat := lm NV (A.map c)
def cn {α : Type} (c : α → Nat) (A : List α) : Nat := (A.filter (fun p => decide (c p = cv c A))).length
theorem cv_le {α : Type} (c : α → Nat) (A : List α) : cv c A ≤ NV := lm_le _ _
theorem cv_app {α : Type} (c : α → Nat) (A B : List α) : cv c (A ++ B) = min (cv c A) (cv c B) := by
  unfold cv
  rw [List.map_append, lm_append]
theorem cv_min {α : Type} {c : α → Nat} {A : List α} {p : α} (h : p ∈ A) : cv c A ≤ c p := lm_min (List.mem_map.mpr ⟨p, h, rfl⟩)
theorem cf_none {α : Type} {c : α → Nat} {A : List α} {v : Nat} (h : v < cv c A) : A.filter (fun p => decide (c p = v)) = [] := by
  refine List.filter_eq_nil_iff.mpr fun p hp e => ?_
  have := cv_min (c := c) hp
  have e := of_decide_eq_true e
  omega
theorem cn_lt {α : Type} {c : α → Nat} {A B : List α} (h : cv c A < cv c B) : cn c (A ++ B) = cn c A := by
  have e : cv c (A ++ B) = cv c A := by rw [cv_app]; omega
  unfold cn
  rw [e, List.filter_append, cf_none h, List.append_nil]
theorem cn_gt {α : Type} {c : α → Nat} {A B : List α} (h : cv c B < cv c A) : cn c (A ++ B) = cn c B := by
  have e : cv c (A ++ B) = cv c B := by rw [cv_app]; omega
  unfold cn
  rw [e, List.filter_append, cf_none h, List.nil_append]
theorem cn_eq {α : Type} {c : α → Nat} {A B : List α} (h : cv c B = cv c A) : cn c (A ++ B) = cn c A + cn c B := by
  have e : cv c (A ++ B) = cv c A := by rw [cv_app]; omega
  unfold cn
  rw [e, List.filter_append, List.length_append, h]
theorem cn_nil {α : Type} (c : α → Nat) : cn c [] = 0 := rfl
theorem cv_one {α : Type} {c : α → Nat} {p : α} (h : c p ≤ NV) : cv c [p] = c p := Nat.min_eq_left h
theorem cn_one {α : Type} {c : α → Nat} {p : α} (h : c p ≤ NV) : cn c [p] = 1 := by
  unfold cn
  rw [cv_one h, List.filter_cons_of_pos (p := fun q => decide (c q = c p)) (a := p) (decide_eq_true rfl)]
  rfl
theorem cv_nil {α : Type} (c : α → Nat) : cv c [] = NV := rfl
theorem cv_congr {α : Type} {c d : α → Nat} {A : List α} (h : ∀ p, p ∈ A → c p = d p) : cv c A = cv d A := by
  unfold cv
  rw [List.map_congr_left h]
theorem cn_congr {α : Type} {c d : α → Nat} {A : List α} (h : ∀ p, p ∈ A → c p = d p) : cn c A = cn d A := by
  unfold cn
  rw [cv_congr h, List.filter_congr fun p hp => by rw [h p hp]]
/-- all have the same value -/
theorem cv_all {α : Type} {c : α → Nat} {v : Nat} : ∀ {A : List α}, A ≠ [] → v ≤ NV → (∀ p, p ∈ A → c p = v) → cv c A = v
  | [], h, _, _ => absurd rfl h
  | [p], _, hv, h => by rw [cv_one (by rw [h p List.mem_cons_self]; exact hv), h p List.mem_cons_self]
  | p :: q :: A, _, hv, h => by
    have := cv_all (c := c) (v := v) (A := q :: A) (fun e => by cases e) hv fun x hx => h x (List.mem_cons_of_mem _ hx)
    show min (c p) (cv c (q :: A)) = v
    rw [this, h p List.mem_cons_self, Nat.min_self]
theorem cn_all {α : Type} {c : α → Nat} {v : Nat} {A : List α} (h0 : A ≠ []) (hv : v ≤ NV) (h : ∀ p, p ∈ A → c p = v) : cn c A = A.length := by
  unfold cn
  rw [cv_all h0 hv h, List.filter_eq_self.mpr fun p hp => decide_eq_true (h p hp)]
/-- the fold that both sides do -/
theorem cn_step {α : Type} {c : α → Nat} {A : List α} {p : α} (h : c p < NV) : cv c (A ++ [p]) = min (cv c A) (c p) ∧ cn c (A ++ [p]) = if c p < cv c A then 1 else if c p = cv c A then cn c A + 1 else cn c A := by
  have h1 := cv_one (c := c) (p := p) (by omega)
  have h2 := cn_one (c := c) (p := p) (by omega)
  refine ⟨by rw [cv_app, h1], ?_⟩
  by_cases a : c p < cv c A
  · rw [if_pos a, cn_gt (by omega), h2]
  · rw [if_neg a]
    by_cases b : c p = cv c A
    · rw [if_pos b, cn_eq (by omega), h2]
    · rw [if_neg b, cn_lt (by omega)]
/-- ways on, and how many of them are wanted: those of the least cost, or those of a cost that is not above B -/
def wB (ad : Bool) (g : Nat → Nat) (B s : Nat) (A : List (List Nat)) : Nat := if ad = true then cn (cost ad g s) A else (A.filter (fun p => decide (cost ad g s p ≤ B))).length
theorem cv_cons {nx : Rl} {n : Nat} {ad : Bool} {g : Nat → Nat} (hg : ∀ s, g s ≤ 1000) {k s x : Nat} (hk : k + 1 ≤ 10) (d : mv nx n ad g k (ins s x) x < NV) : cv (cost ad g s) ((ext nx n k (ins s x) x).map (List.cons x)) = comb ad (g (ins s x)) (mv nx n ad g k (ins s x) x) := by
  unfold cv
  rw [List.map_map]
  obtain ⟨p, h1, h2⟩ := mv_get d
  have hle : lm NV (List.map (cost ad g s ∘ List.cons x) (ext nx n k (ins s x) x)) ≤ comb ad (g (ins s x)) (mv nx n ad g k (ins s x) x) := by
    rw [← h2]
    exact lm_min (List.mem_map.mpr ⟨p, h1, rfl⟩)
  have hb : comb ad (g (ins s x)) (mv nx n ad g k (ins s x) x) < NV := by
    have a1 : comb ad (g (ins s x)) (mv nx n ad g k (ins s x) x) ≤ _ := comb_le
    have a2 := hg (ins s x)
    have a3 := mv_lt (ad := ad) hg (show k ≤ 10 by omega) ((mv_iff hg (by omega)).mp d)
    show _ < 1000000
    omega
  have hm := lm_mem (Nat.lt_of_le_of_lt hle hb)
  obtain ⟨q, h3, h4⟩ := List.mem_map.mp hm
  refine Nat.le_antisymm hle ?_
  rw [← h4]
  exact comb_mono (mv_min h3)
theorem cn_cons {nx : Rl} {n : Nat} {g : Nat → Nat} (hg : ∀ s, g s ≤ 1000) {k s x : Nat} (hk : k + 1 ≤ 10) (d : mv nx n true g k (ins s x) x < NV) : cn (cost true g s) ((ext nx n k (ins s x) x).map (List.cons x)) = cn (cost true g (ins s x)) (ext nx n k (ins s x) x) := by
  unfold cn
  rw [cv_cons hg hk d, List.filter_map, List.length_map]
  congr 1
  refine List.filter_congr fun p _ => ?_
  show decide (g (ins s x) + cost true g (ins s x) p = g (ins s x) + mv nx n true g k (ins s x) x) = decide (cost true g (ins s x) p = cv (cost true g (ins s x)) (ext nx n k (ins s x) x))
  show _ = decide (cost true g (ins s x) p = mv nx n true g k (ins s x) x)
  by_cases c : cost true g (ins s x) p = mv nx n true g k (ins s x) x
  · rw [c]
    simp
  · rw [decide_eq_false c, decide_eq_false (by omega)]
theorem cb_cons {g : Nat → Nat} {B s x : Nat} (L : List (List Nat)) : ((L.map (List.cons x)).filter (fun p => decide (cost false g s p ≤ B))).length = if B < g (ins s x) then 0 else (L.filter (fun p => decide (cost false g (ins s x) p ≤ B))).length := by
  rw [List.filter_map, List.length_map]
  have e : ∀ p, ((fun p => decide (cost false g s p ≤ B)) ∘ List.cons x) p = (decide (g (ins s x) ≤ B) && decide (cost false g (ins s x) p ≤ B)) := fun p => by
    show decide (max (g (ins s x)) (cost false g (ins s x) p) ≤ B) = _
    by_cases c : g (ins s x) ≤ B <;> by_cases d : cost false g (ins s x) p ≤ B <;> simp [c, d]
    all_goals omega
  rw [List.filter_congr fun p _ => e p]
  by_cases c : B < g (ins s x)
  · rw [if_pos c, List.filter_eq_nil_iff.mpr fun p _ q => ?_]
    · rfl
    · rw [Bool.and_eq_true] at q
      have := of_decide_eq_true q.1
      omega
  · rw [if_neg c]
    congr 1
    refine List.filter_congr fun p _ => ?_
    rw [decide_eq_true (show g (ins s x) ≤ B by omega), Bool.true_and]
/-- the ways on that begin with one of the first x things -/
def PA (nx : Rl) (n k s l x : Nat) : List (List Nat) := fm x (fun y => if nx s l y = true then (ext nx n k (ins s y) y).map (List.cons y) else [])
theorem PA_s (nx : Rl) (n k s l x : Nat) : PA nx n k s l (x + 1) = PA nx n k s l x ++ (if nx s l x = true then (ext nx n k (ins s x) x).map (List.cons x) else []) := rfl
theorem PA_n (nx : Rl) (n k s l : Nat) : PA nx n k s l n = ext nx n (k + 1) s l := rfl
theorem PA_no {nx : Rl} {n : Nat} {ad : Bool} {g : Nat → Nat} (hg : ∀ s, g s ≤ 1000) {k s l x : Nat} (hk : k + 1 ≤ 10) (h : ¬ (nx s l x = true ∧ mv nx n ad g k (ins s x) x < NV)) : PA nx n k s l (x + 1) = PA nx n k s l x := by
  rw [PA_s]
  by_cases c : nx s l x = true
  · have : ext nx n k (ins s x) x = [] := Classical.byContradiction fun e => h ⟨c, (mv_iff hg (by omega)).mpr e⟩
    rw [if_pos c, this]
    exact List.append_nil _
  · rw [if_neg c, List.append_nil]
theorem PA_cv {nx : Rl} {n : Nat} {ad : Bool} {g : Nat → Nat} (hg : ∀ s, g s ≤ 1000) {k s l x : Nat} (hk : k + 1 ≤ 10) (c : nx s l x = true) (d : mv nx n ad g k (ins s x) x < NV) : cv (cost ad g s) (PA nx n k s l (x + 1)) = min (cv (cost ad g s) (PA nx n k s l x)) (comb ad (g (ins s x)) (mv nx n ad g k (ins s x) x)) := by
  rw [PA_s, if_pos c, cv_app, cv_cons hg hk d]
theorem PA_wt {nx : Rl} {n : Nat} {g : Nat → Nat} (hg : ∀ s, g s ≤ 1000) {B k s l x : Nat} (hk : k + 1 ≤ 10) (c : nx s l x = true) (d : mv nx n true g k (ins s x) x < NV) : wB true g B s (PA nx n k s l (x + 1)) = if g (ins s x) + mv nx n true g k (ins s x) x < cv (cost true g s) (PA nx n k s l x) then wB true g B (ins s x) (ext nx n k (ins s x) x) else if g (ins s x) + mv nx n true g k (ins s x) x = cv (cost true g s) (PA nx n k s l x) then wB true g B s (PA nx n k s l x) + wB true g B (ins s x) (ext nx n k (ins s x) x) else wB true g B s (PA nx n k s l x) := by
  have e1 : cv (cost true g s) ((ext nx n k (ins s x) x).map (List.cons x)) = g (ins s x) + mv nx n true g k (ins s x) x := cv_cons hg hk d
  have e2 := cn_cons hg hk d
  unfold wB
  rw [if_pos rfl, if_pos rfl, if_pos rfl, PA_s, if_pos c, ← e2, ← e1]
  by_cases y : cv (cost true g s) ((ext nx n k (ins s x) x).map (List.cons x)) < cv (cost true g s) (PA nx n k s l x)
  · rw [if_pos y, cn_gt y]
  · rw [if_neg y]
    by_cases z : cv (cost true g s) ((ext nx n k (ins s x) x).map (List.cons x)) = cv (cost true g s) (PA nx n k s l x)
    · rw [if_pos z, cn_eq z]
    · rw [if_neg z, cn_lt (by omega)]
theorem PA_wf {nx : Rl} {n : Nat} {g : Nat → Nat} {B k s l x : Nat} (c : nx s l x = true) : wB false g B s (PA nx n k s l (x + 1)) = wB false g B s (PA nx n k s l x) + if B < g (ins s x) then 0 else wB false g B (ins s x) (ext nx n k (ins s x) x) := by
  unfold wB
  rw [if_neg (show ¬ false = true by decide), if_neg (show ¬ false = true by decide), if_neg (show ¬ false = true by decide), PA_s, if_pos c, List.filter_append, List.length_append, cb_cons]
