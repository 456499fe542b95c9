/-! ===== all orders, those that are allowed ===== -/
def al : Nat → (Nat → Bool) → Bool
  | 0, _ => true
  | n + 1, f => al n f && f n
theorem al_iff {f : Nat → Bool} : ∀ {n : Nat}, al n f = true ↔ ∀ k, k < n → f k = true
  | 0 => ⟨fun _ k hk => by omega, fun _ => rfl⟩
  | n + 1 => by
    show (al n f && f n) = true ↔ _
    rw [Bool.and_eq_true, al_iff]
    constructor
    · rintro ⟨h1, h2⟩ k hk
      by_cases e : k = n
      · rw [e]; exact h2
      · exact h1 k (by omega)
    · intro h
      exact ⟨fun k hk => h k (by omega), h n (by omega)⟩
theorem al_congr {f g : Nat → Bool} {n : Nat} (h : ∀ k, k < n → f k = g k) : al n f = al n g := by
  rw [Bool.eq_iff_iff, al_iff, al_iff]
  exact ⟨fun q k hk => by rw [← h k hk]; exact q k hk, fun q k hk => by rw [h k hk]; exact q k hk⟩
def seg (f : Nat → Nat) : Nat → Nat → List Nat
  | _, 0 => []
  | i, k + 1 => f i :: seg f (i + 1) k
def fn (p : List Nat) : Nat → Nat := fun i => p.getD i 0
theorem seg_congr {f g : Nat → Nat} : ∀ {k i : Nat}, (∀ j, i ≤ j → j < i + k → f j = g j) → seg f i k = seg g i k
  | 0, _, _ => rfl
  | k + 1, i, h => by
    show f i :: seg f (i + 1) k = g i :: seg g (i + 1) k
    rw [h i (by omega) (by omega), seg_congr (fun j h1 h2 => h j (by omega) (by omega))]
theorem seg_len (f : Nat → Nat) : ∀ k i, (seg f i k).length = k
  | 0, _ => rfl
  | k + 1, i => by
    show (seg f (i + 1) k).length + 1 = k + 1
    rw [seg_len f k (i + 1)]
theorem seg_get (f : Nat → Nat) : ∀ {k i j : Nat}, j < k → (seg f i k).getD j 0 = f (i + j)
  | 0, i, j, h => by omega
  | k + 1, i, 0, h => rfl
  | k + 1, i, j + 1, h => by
    show (seg f (i + 1) k).getD j 0 = f (i + (j + 1))
    rw [seg_get f (show j < k by omega)]
    congr 1
    omega
theorem seg_cons {x : Nat} {p : List Nat} : ∀ (k i : Nat), seg (fn (x :: p)) (i + 1) k = seg (fn p) i k
  | 0, _ => rfl
  | k + 1, i => by
    show fn (x :: p) (i + 1) :: seg (fn (x :: p)) (i + 1 + 1) k = fn p i :: seg (fn p) (i + 1) k
    rw [seg_cons k (i + 1)]
    rfl
theorem seg_fn : ∀ p : List Nat, seg (fn p) 0 p.length = p
  | [] => rfl
  | x :: p => by
    show fn (x :: p) 0 :: seg (fn (x :: p)) (0 + 1) p.length = x :: p
    rw [seg_cons, seg_fn p]
    rfl
theorem chain_seg (nx : Rl) (f : Nat → Nat) : ∀ (k i : Nat), chain nx (pre f i) (la f i) (seg f i k) = true ↔ ∀ j, i ≤ j → j < i + k → nx (pre f j) (la f j) (f j) = true
  | 0, i => ⟨fun _ j h1 h2 => by omega, fun _ => rfl⟩
  | k + 1, i => by
    show (nx (pre f i) (la f i) (f i) && chain nx (ins (pre f i) (f i)) (f i) (seg f (i + 1) k)) = true ↔ _
    have ih := chain_seg nx f k (i + 1)
    rw [show la f (i + 1) = f i from rfl, show pre f (i + 1) = ins (pre f i) (f i) from rfl] at ih
    rw [Bool.and_eq_true, ih]
    constructor
    · rintro ⟨h1, h2⟩ j h3 h4
      by_cases e : j = i
      · rw [e]; exact h1
      · exact h2 j (by omega) (by omega)
    · intro h
      exact ⟨h i (by omega) (by omega), fun j h1 h2 => h j (by omega) (by omega)⟩
theorem chain_fn (nx : Rl) (p : List Nat) : chain nx 0 10 p = true ↔ ∀ j, j < p.length → nx (pre (fn p) j) (la (fn p) j) (fn p j) = true := by
  have h := chain_seg nx (fn p) p.length 0
  rw [seg_fn] at h
  rw [show chain nx 0 10 p = chain nx (pre (fn p) 0) (la (fn p) 0) p from rfl, h]
  constructor
  · intro q j hj
    exact q j (Nat.zero_le _) (by omega)
  · intro q j _ hj
    exact q j (by omega)
/-- anyone who isn't there yet -/
def nxA (n : Nat) : Rl := fun s _ a => decide (a < n) && !s.testBit a
def Pm (n : Nat) : List (List Nat) := ext (nxA n) n n 0 10
theorem mem_ext_iff {nx : Rl} {n : Nat} (hf : Fresh nx n) : ∀ {k s l : Nat} {p : List Nat}, p ∈ ext nx n k s l ↔ p.length = k ∧ chain nx s l p = true
  | 0, s, l, p => by
    show p ∈ [[]] ↔ _
    rw [List.mem_singleton]
    constructor
    · rintro rfl; exact ⟨rfl, rfl⟩
    · rintro ⟨h, _⟩; exact List.length_eq_zero_iff.mp h
  | k + 1, s, l, [] => by
    constructor
    · intro h; have := ext_len h; simp at this
    · rintro ⟨h, _⟩; simp at h
  | k + 1, s, l, x :: p => by
    rw [ext_cons, mem_ext_iff hf]
    show _ ↔ p.length + 1 = k + 1 ∧ (nx s l x && chain nx (ins s x) x p) = true
    rw [Bool.and_eq_true]
    constructor
    · rintro ⟨h1, h2, h3, h4⟩; exact ⟨by omega, h2, h4⟩
    · rintro ⟨h1, h2, h3⟩; exact ⟨(hf s l x h2).1, h2, by omega, h3⟩
theorem nxA_fresh (n : Nat) : Fresh (nxA n) n := fun s l x h => by
  unfold nxA at h
  rw [Bool.and_eq_true, decide_eq_true_eq, Bool.not_eq_true'] at h
  exact h
theorem mem_Pm {n : Nat} {p : List Nat} : p ∈ Pm n ↔ p.length = n ∧ Ord n (fn p) := by
  unfold Pm
  rw [mem_ext_iff (nxA_fresh n), chain_fn]
  constructor
  · rintro ⟨h1, h2⟩
    rw [h1] at h2
    refine ⟨h1, fun i hi => ((nxA_fresh n) _ _ _ (h2 i hi)).1, fun i j hi hj e => ?_⟩
    have key : ∀ a b, a < b → b < n → fn p a ≠ fn p b := fun a b hab hb q => by
      have h3 := ((nxA_fresh n) _ _ _ (h2 b hb)).2
      have h4 := (pre_bit (fn p) (fn p b) b).mpr ⟨a, hab, q⟩
      rw [h3] at h4
      cases h4
    rcases Nat.lt_trichotomy i j with q | q | q
    · exact absurd e (key i j q hj)
    · exact q
    · exact absurd e.symm (key j i q hi)
  · rintro ⟨h1, h2⟩
    refine ⟨h1, fun j hj => ?_⟩
    rw [h1] at hj
    unfold nxA
    rw [pre_new h2 hj]
    simp [h2.1 j hj]
theorem seg_Pm {n : Nat} {f : Nat → Nat} (h : Ord n f) : seg f 0 n ∈ Pm n := by
  rw [mem_Pm, seg_len]
  have e : ∀ i, i < n → fn (seg f 0 n) i = f i := fun i hi => by
    show (seg f 0 n).getD i 0 = f i
    rw [seg_get f hi, Nat.zero_add]
  refine ⟨rfl, fun i hi => by rw [e i hi]; exact h.1 i hi, fun i j hi hj q => ?_⟩
  rw [e i hi, e j hj] at q
  exact h.2 i j hi hj q
/-- a thing that is to be at a place -/
def pinb (pin : Option (Nat × Nat)) (c a : Nat) : Bool := match pin with | none => true | some (t, q) => decide (c = q) == decide (a = t)
def pinOk (n : Nat) (pin : Option (Nat × Nat)) : Prop := match pin with | none => True | some (t, q) => t < n ∧ q < n
def pinK (n : Nat) (pin : Option (Nat × Nat)) (f : Nat → Nat) : Bool := match pin with | none => true | some (t, q) => decide (sf f t n = q)
/-- who may come next, by a way to look at rules -/
def nxW (st : Nat × Nat × Nat × Nat → Nat → Nat → Nat → Bool) (w : Wd) (pin : Option (Nat × Nat)) : Rl := fun s l a => decide (a < w.1) && !s.testBit a && pinb pin (cnt 10 s) a && al w.2.2.1 (fun k => w.2.2.2.2 k || st (w.2.2.2.1 k) s l a)
theorem nxW_fresh (st : Nat × Nat × Nat × Nat → Nat → Nat → Nat → Bool) (w : Wd) (pin : Option (Nat × Nat)) : Fresh (nxW st w pin) w.1 := fun s l x h => by
  unfold nxW at h
  rw [Bool.and_eq_true, Bool.and_eq_true, Bool.and_eq_true, decide_eq_true_eq, Bool.not_eq_true'] at h
  exact h.1.1
/-- an order is allowed -/
def okf (w : Wd) (pin : Option (Nat × Nat)) (f : Nat → Nat) : Bool := al w.2.2.1 (fun k => w.2.2.2.2 k || kept w.1 (w.2.2.2.1 k) f) && pinK w.1 pin f
def Al (w : Wd) (pin : Option (Nat × Nat)) : List (List Nat) := (Pm w.1).filter (fun p => okf w pin (fn p))
theorem pin_iff {n : Nat} {f : Nat → Nat} (h : Ord n f) {pin : Option (Nat × Nat)} (hp : pinOk n pin) : (∀ i, i < n → pinb pin i (f i) = true) ↔ pinK n pin f = true := by
  cases pin with
  | none => exact ⟨fun _ => rfl, fun _ _ _ => rfl⟩
  | some tq =>
    obtain ⟨t, q⟩ := tq
    obtain ⟨ht, hq⟩ := hp
    show (∀ i, i < n → (decide (i = q) == decide (f i = t)) = true) ↔ decide (sf f t n = q) = true
    rw [decide_eq_true_eq]
    constructor
    · intro H
      have := H q hq
      rw [beq_iff_eq, decide_eq_decide] at this
      exact ((sf_iff h ht hq).mp (this.mp rfl)).symm
    · intro H i hi
      rw [beq_iff_eq, decide_eq_decide, sf_iff h ht hi, H]
theorem nxW_ok {w : Wd} (hok : WOk w) {pin : Option (Nat × Nat)} (hp : pinOk w.1 pin) {st : Nat × Nat × Nat × Nat → Nat → Nat → Nat → Bool} (hst : ∀ f r, Ord w.1 f → ruleOk w.1 r → ((∀ i, i < w.1 → st r (pre f i) (la f i) (f i) = true) ↔ kept w.1 r f = true)) : ext (nxW st w pin) w.1 w.1 0 10 = Al w pin := by
  rw [ext_filter (ny := nxA w.1) (fun s l x h => by
    obtain ⟨h1, h2⟩ := nxW_fresh st w pin s l x h
    unfold nxA
    simp [h1, h2])]
  refine List.filter_congr fun p hp' => ?_
  obtain ⟨h1, h2⟩ := mem_Pm.mp hp'
  rw [Bool.eq_iff_iff, chain_fn, h1]
  unfold okf
  rw [Bool.and_eq_true, ← pin_iff h2 hp, al_iff]
  have hc := fun i (hi : i < w.1) => pre_cnt h2 hok.1 (Nat.le_of_lt hi)
  constructor
  · intro H
    have H' : ∀ j, j < w.1 → pinb pin j (fn p j) = true ∧ ∀ k, k < w.2.2.1 → (w.2.2.2.2 k || st (w.2.2.2.1 k) (pre (fn p) j) (la (fn p) j) (fn p j)) = true := fun j hj => by
      have := H j hj
      unfold nxW at this
      rw [Bool.and_eq_true, Bool.and_eq_true, al_iff, hc j hj] at this
      exact ⟨this.1.2, this.2⟩
    refine ⟨fun k hk => ?_, fun i hi => (H' i hi).1⟩
    cases ho : w.2.2.2.2 k with
    | true => rfl
    | false =>
      show kept _ _ _ = true
      rw [← hst (fn p) _ h2 (hok.2.2.2.2.2.1 k hk)]
      intro i hi
      have := (H' i hi).2 k hk
      rw [ho] at this
      exact this
  · rintro ⟨H1, H2⟩ j hj
    unfold nxW
    rw [Bool.and_eq_true, Bool.and_eq_true, Bool.and_eq_true, al_iff, hc j hj, pre_new h2 hj]
    refine ⟨⟨⟨by simp [h2.1 j hj], rfl⟩, H2 j hj⟩, fun k hk => ?_⟩
    cases ho : w.2.2.2.2 k with
    | true => rfl
    | false =>
      have := H1 k hk
      rw [ho] at this
      exact (hst (fn p) _ h2 (hok.2.2.2.2.2.1 k hk)).mpr this j hj
theorem nxC_ok {w : Wd} (hok : WOk w) {pin : Option (Nat × Nat)} (hp : pinOk w.1 pin) : ext (nxW stC w pin) w.1 w.1 0 10 = Al w pin := nxW_ok hok hp fun f r hf hr => kept_C hf hok.1 hr
theorem nxM_ok {w : Wd} (hok : WOk w) {pin : Option (Nat × Nat)} (hp : pinOk w.1 pin) : ext (nxW stM w pin) w.1 w.1 0 10 = Al w pin := nxW_ok hok hp fun f r hf hr => kept_M hf hok.1 hr
