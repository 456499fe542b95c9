/-! ===== lists of ways ===== -/
def fm {α : Type} : Nat → (Nat → List α) → List α
  | 0, _ => []
  | n + 1, f => fm n f ++ f n
theorem fm_congr {α : Type} {f g : Nat → List α} : ∀ {n : Nat}, (∀ x, x < n → f x = g x) → fm n f = fm n g
  | 0, _ => rfl
  | n + 1, h => by
    show fm n f ++ f n = fm n g ++ g n
    rw [fm_congr (fun x hx => h x (by omega)), h n (by omega)]
theorem fm_filter {α : Type} (p : α → Bool) (f : Nat → List α) : ∀ n, (fm n f).filter p = fm n (fun x => (f x).filter p)
  | 0 => rfl
  | n + 1 => by
    show (fm n f ++ f n).filter p = _
    rw [List.filter_append, fm_filter p f n]
    rfl
theorem fm_map {α β : Type} (p : α → β) (f : Nat → List α) : ∀ n, (fm n f).map p = fm n (fun x => (f x).map p)
  | 0 => rfl
  | n + 1 => by
    show (fm n f ++ f n).map p = _
    rw [List.map_append, fm_map p f n]
    rfl
theorem fm_len {α : Type} (f : Nat → List α) : ∀ n, (fm n f).length = sm n (fun x => (f x).length)
  | 0 => rfl
  | n + 1 => by
    show (fm n f ++ f n).length = _
    rw [List.length_append, fm_len f n]
    rfl
theorem fm_mem {α : Type} {f : Nat → List α} {a : α} : ∀ {n : Nat}, a ∈ fm n f ↔ ∃ x, x < n ∧ a ∈ f x
  | 0 => by
    constructor
    · intro h; cases h
    · rintro ⟨x, hx, _⟩; omega
  | n + 1 => by
    show a ∈ fm n f ++ f n ↔ _
    rw [List.mem_append, fm_mem]
    constructor
    · rintro (⟨x, hx, h⟩ | h)
      · exact ⟨x, by omega, h⟩
      · exact ⟨n, by omega, h⟩
    · rintro ⟨x, hx, h⟩
      by_cases e : x = n
      · subst e; exact Or.inr h
      · exact Or.inl ⟨x, by omega, h⟩
theorem fm_nil {α : Type} {f : Nat → List α} {n : Nat} (h : ∀ x, x < n → f x = []) : fm n f = [] := by
  have : ∀ m, fm m (fun _ => ([] : List α)) = [] := fun m => by
    induction m with
    | zero => rfl
    | succ m ih => show fm m _ ++ [] = []; rw [ih]; rfl
  rw [fm_congr (g := fun _ => []) h, this]
/-- the least of a list below a top -/
def lm (T : Nat) : List Nat → Nat
  | [] => T
  | a :: L => min a (lm T L)
theorem lm_le (T : Nat) : ∀ L, lm T L ≤ T
  | [] => Nat.le_refl _
  | a :: L => by
    have := lm_le T L
    show min a (lm T L) ≤ T
    omega
theorem lm_append (T : Nat) : ∀ A B, lm T (A ++ B) = min (lm T A) (lm T B)
  | [], B => by
    have := lm_le T B
    show lm T B = min T (lm T B)
    omega
  | a :: A, B => by
    show min a (lm T (A ++ B)) = min (min a (lm T A)) (lm T B)
    rw [lm_append T A B]
    omega
theorem lm_min {T : Nat} : ∀ {L : List Nat} {a : Nat}, a ∈ L → lm T L ≤ a
  | b :: L, a, h => by
    show min b (lm T L) ≤ a
    rcases List.mem_cons.mp h with rfl | h
    · omega
    · have := lm_min (T := T) h
      omega
theorem lm_mem {T : Nat} : ∀ {L : List Nat}, lm T L < T → lm T L ∈ L
  | [], h => absurd h (Nat.lt_irrefl _)
  | a :: L, h => by
    have h : min a (lm T L) < T := h
    show min a (lm T L) ∈ a :: L
    by_cases c : a ≤ lm T L
    · rw [show min a (lm T L) = a by omega]
      exact List.mem_cons_self
    · rw [show min a (lm T L) = lm T L by omega]
      exact List.mem_cons_of_mem _ (lm_mem (by omega))
/-- the least of some below a top -/
def mnf (T : Nat) : Nat → (Nat → Nat) → Nat
  | 0, _ => T
  | n + 1, f => min (mnf T n f) (f n)
theorem mnf_congr {T : Nat} {f g : Nat → Nat} : ∀ {n : Nat}, (∀ x, x < n → f x = g x) → mnf T n f = mnf T n g
  | 0, _ => rfl
  | n + 1, h => by
    show min (mnf T n f) (f n) = min (mnf T n g) (g n)
    rw [mnf_congr (fun x hx => h x (by omega)), h n (by omega)]
theorem lm_fm (T : Nat) (f : Nat → List Nat) : ∀ n, lm T (fm n f) = mnf T n (fun x => lm T (f x))
  | 0 => rfl
  | n + 1 => by
    show lm T (fm n f ++ f n) = min _ _
    rw [lm_append, lm_fm T f n]
theorem mnf_le {T : Nat} {f : Nat → Nat} : ∀ {n x : Nat}, x < n → mnf T n f ≤ f x
  | n + 1, x, h => by
    show min (mnf T n f) (f n) ≤ f x
    by_cases e : x = n
    · subst e; omega
    · have := mnf_le (T := T) (f := f) (n := n) (x := x) (by omega)
      omega
theorem mnf_top {T : Nat} {f : Nat → Nat} : ∀ {n : Nat}, mnf T n f ≤ T
  | 0 => Nat.le_refl _
  | n + 1 => by
    show min (mnf T n f) (f n) ≤ T
    have := mnf_top (T := T) (f := f) (n := n)
    omega
/-- things one behind the other -/
abbrev Rl : Type := Nat → Nat → Nat → Bool
def ext (nx : Rl) (n : Nat) : Nat → Nat → Nat → List (List Nat)
  | 0, _, _ => [[]]
  | k + 1, s, l => fm n (fun x => if nx s l x = true then (ext nx n k (ins s x) x).map (List.cons x) else [])
theorem ext_len {nx : Rl} {n : Nat} : ∀ {k s l : Nat} {p : List Nat}, p ∈ ext nx n k s l → p.length = k
  | 0, s, l, p, h => by
    have : p = [] := List.mem_singleton.mp h
    rw [this]; rfl
  | k + 1, s, l, p, h => by
    obtain ⟨x, hx, hp⟩ := fm_mem.mp h
    by_cases c : nx s l x = true
    · rw [if_pos c] at hp
      obtain ⟨q, hq, rfl⟩ := List.mem_map.mp hp
      rw [List.length_cons, ext_len hq]
    · rw [if_neg c] at hp
      cases hp
theorem ext_cons {nx : Rl} {n k s l x : Nat} {p : List Nat} : (x :: p) ∈ ext nx n (k + 1) s l ↔ x < n ∧ nx s l x = true ∧ p ∈ ext nx n k (ins s x) x := by
  constructor
  · intro h
    obtain ⟨y, hy, hp⟩ := fm_mem.mp h
    by_cases c : nx s l y = true
    · rw [if_pos c] at hp
      obtain ⟨q, hq, e⟩ := List.mem_map.mp hp
      cases e
      exact ⟨hy, c, hq⟩
    · rw [if_neg c] at hp
      cases hp
  · rintro ⟨h1, h2, h3⟩
    refine fm_mem.mpr ⟨x, h1, ?_⟩
    rw [if_pos h2]
    exact List.mem_map.mpr ⟨p, h3, rfl⟩
theorem ext_num (nx : Rl) (n k s l : Nat) : (ext nx n (k + 1) s l).length = sm n (fun x => if nx s l x = true then (ext nx n k (ins s x) x).length else 0) := by
  show (fm n _).length = _
  rw [fm_len]
  refine sm_congr fun x hx => ?_
  by_cases c : nx s l x = true
  · simp only [if_pos c, List.length_map]
  · simp only [if_neg c, List.length_nil]
/-- a way by steps -/
def chain (nx : Rl) : Nat → Nat → List Nat → Bool
  | _, _, [] => true
  | s, l, x :: p => nx s l x && chain nx (ins s x) x p
theorem ext_filter {nx ny : Rl} {n : Nat} (h : ∀ s l x, nx s l x = true → ny s l x = true) : ∀ k s l, ext nx n k s l = (ext ny n k s l).filter (chain nx s l)
  | 0, s, l => rfl
  | k + 1, s, l => by
    show fm n _ = (fm n _).filter _
    rw [fm_filter]
    refine fm_congr fun x hx => ?_
    by_cases c : nx s l x = true
    · rw [if_pos c, if_pos (h _ _ _ c), List.filter_map, ext_filter h k (ins s x) x]
      congr 1
      refine List.filter_congr fun p hp => ?_
      show chain nx (ins s x) x p = (nx s l x && chain nx (ins s x) x p)
      rw [c]; rfl
    · rw [if_neg c]
      by_cases d : ny s l x = true
      · rw [if_pos d, List.filter_map]
        symm
        rw [List.map_eq_nil_iff, List.filter_eq_nil_iff]
        intro p hp
        show ¬ (nx s l x && chain nx (ins s x) x p) = true
        simp [c]
      · rw [if_neg d]; rfl
theorem ext_congr {nx ny : Rl} {n : Nat} (h : ∀ s l x, x < n → nx s l x = ny s l x) : ∀ k s l, ext nx n k s l = ext ny n k s l
  | 0, s, l => rfl
  | k + 1, s, l => fm_congr fun x hx => by
    rw [h s l x hx, ext_congr h k (ins s x) x]
/-- what a way costs, from a set on -/
def comb (ad : Bool) (a b : Nat) : Nat := if ad = true then a + b else max a b
def cost (ad : Bool) (g : Nat → Nat) : Nat → List Nat → Nat
  | _, [] => 0
  | s, x :: p => comb ad (g (ins s x)) (cost ad g (ins s x) p)
theorem comb_mono {ad : Bool} {a b c : Nat} (h : b ≤ c) : comb ad a b ≤ comb ad a c := by
  unfold comb
  cases ad
  · simp only [Bool.false_eq_true, if_false]; omega
  · simp only [if_true]; omega
theorem comb_le {ad : Bool} {a b : Nat} : comb ad a b ≤ a + b := by
  unfold comb
  cases ad
  · simp only [Bool.false_eq_true, if_false]; omega
  · simp only [if_true]; omega
theorem cost_le {ad : Bool} {g : Nat → Nat} (hg : ∀ s, g s ≤ 1000) : ∀ (p : List Nat) (s : Nat), cost ad g s p ≤ 1000 * p.length
  | [], s => Nat.zero_le _
  | x :: p, s => by
    have h1 := cost_le (ad := ad) hg p (ins s x)
    have h2 := hg (ins s x)
    have h3 : comb ad (g (ins s x)) (cost ad g (ins s x) p) ≤ _ := comb_le
    show comb ad (g (ins s x)) (cost ad g (ins s x) p) ≤ 1000 * (p.length + 1)
    omega
abbrev NV : Nat := 1000000
def mv (nx : Rl) (n : Nat) (ad : Bool) (g : Nat → Nat) (k s l : Nat) : Nat := lm NV ((ext nx n k s l).map (cost ad g s))
theorem mv_min {nx : Rl} {n : Nat} {ad : Bool} {g : Nat → Nat} {k s l : Nat} {p : List Nat} (h : p ∈ ext nx n k s l) : mv nx n ad g k s l ≤ cost ad g s p := lm_min (List.mem_map.mpr ⟨p, h, rfl⟩)
theorem mv_nil {nx : Rl} {n : Nat} {ad : Bool} {g : Nat → Nat} {k s l : Nat} (h : ext nx n k s l = []) : mv nx n ad g k s l = NV := by
  unfold mv
  rw [h]; rfl
theorem mv_lt {nx : Rl} {n : Nat} {ad : Bool} {g : Nat → Nat} (hg : ∀ s, g s ≤ 1000) {k s l : Nat} (hk : k ≤ 10) (h : ext nx n k s l ≠ []) : mv nx n ad g k s l ≤ 1000 * k := by
  cases he : ext nx n k s l with
  | nil => exact absurd he h
  | cons p L =>
    have hp : p ∈ ext nx n k s l := by rw [he]; exact List.mem_cons_self
    have h1 := mv_min (ad := ad) (g := g) hp
    have h2 := cost_le (ad := ad) hg p s
    rw [ext_len hp] at h2
    omega
theorem mv_iff {nx : Rl} {n : Nat} {ad : Bool} {g : Nat → Nat} (hg : ∀ s, g s ≤ 1000) {k s l : Nat} (hk : k ≤ 10) : mv nx n ad g k s l < NV ↔ ext nx n k s l ≠ [] := by
  constructor
  · intro h e
    rw [mv_nil e] at h
    exact Nat.lt_irrefl _ h
  · intro h
    have := mv_lt (ad := ad) hg hk h
    show _ < 1000000
    omega
theorem mv_get {nx : Rl} {n : Nat} {ad : Bool} {g : Nat → Nat} {k s l : Nat} (h : mv nx n ad g k s l < NV) : ∃ p, p ∈ ext nx n k s l ∧ cost ad g s p = mv nx n ad g k s l := by
  obtain ⟨p, h1, h2⟩ := List.mem_map.mp (lm_mem h)
  exact ⟨p, h1, h2⟩
theorem mv_0 (nx : Rl) (n : Nat) (ad : Bool) (g : Nat → Nat) (s l : Nat) : mv nx n ad g 0 s l = 0 := rfl
theorem mv_succ {nx : Rl} {n : Nat} {ad : Bool} {g : Nat → Nat} (hg : ∀ s, g s ≤ 1000) {k s l : Nat} (hk : k + 1 ≤ 10) : mv nx n ad g (k + 1) s l = mnf NV n (fun x => if nx s l x = true then (if mv nx n ad g k (ins s x) x < NV then comb ad (g (ins s x)) (mv nx n ad g k (ins s x) x) else NV) else NV) := by
  show lm NV ((fm n _).map _) = _
  rw [fm_map, lm_fm]
  refine mnf_congr fun x hx => ?_
  by_cases c : nx s l x = true
  · simp only [if_pos c, List.map_map]
    by_cases d : mv nx n ad g k (ins s x) x < NV
    · rw [if_pos d]
      obtain ⟨p, h1, h2⟩ := mv_get d
      have hle : lm NV (List.map (cost ad g s ∘ List.cons x) (ext nx n k (ins s x) x)) ≤ comb ad (g (ins s x)) (mv nx n ad g k (ins s x) x) := by
        rw [← h2]
        exact lm_min (List.mem_map.mpr ⟨p, h1, rfl⟩)
      have hb : comb ad (g (ins s x)) (mv nx n ad g k (ins s x) x) < NV := by
        have a1 : comb ad (g (ins s x)) (mv nx n ad g k (ins s x) x) ≤ _ := comb_le
        have a2 := hg (ins s x)
        have a3 := mv_lt (ad := ad) hg (show k ≤ 10 by omega) ((mv_iff hg (by omega)).mp d)
        show _ < 1000000
        omega
      have hm := lm_mem (Nat.lt_of_le_of_lt hle hb)
      obtain ⟨q, h3, h4⟩ := List.mem_map.mp hm
      refine Nat.le_antisymm hle ?_
      rw [← h4]
      exact comb_mono (mv_min h3)
    · rw [if_neg d]
      have : ext nx n k (ins s x) x = [] := by
        refine Classical.byContradiction fun e => d ((mv_iff hg (by omega)).mpr e)
      rw [this]; rfl
  · simp only [if_neg c]
    rfl
