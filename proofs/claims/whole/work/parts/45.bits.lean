/-! ===== bits of ints ===== -/
def bt (x : Int32) (i : Nat) : Bool := x.toBitVec.getLsbD i
theorem bt_or (x y : Int32) (i : Nat) : bt (x ||| y) i = (bt x i || bt y i) := by
  unfold bt
  rw [Int32.toBitVec_or, BitVec.getLsbD_or]
theorem bt_and (x y : Int32) (i : Nat) : bt (x &&& y) i = (bt x i && bt y i) := by
  unfold bt
  rw [Int32.toBitVec_and, BitVec.getLsbD_and]
theorem bt_xor (x y : Int32) (i : Nat) : bt (x ^^^ y) i = (bt x i).xor (bt y i) := by
  unfold bt
  rw [Int32.toBitVec_xor, BitVec.getLsbD_xor]
theorem bt_m1 {i : Nat} (h : i < 32) : bt (-1) i = true := by
  unfold bt
  have : ∀ i : Fin 32, (-1 : Int32).toBitVec.getLsbD i = true := by decide
  exact this ⟨i, h⟩
theorem bt_not {x : Int32} {i : Nat} (h : i < 32) : bt (x ^^^ (-1)) i = !bt x i := by
  rw [bt_xor, bt_m1 h]
  cases bt x i <;> rfl
theorem bt_nI {a i : Nat} (h : i < 32) : bt (nI a) i = a.testBit i := by
  unfold bt
  show (BitVec.ofNat 32 a).getLsbD i = _
  rw [BitVec.getLsbD_ofNat]
  simp [h]
theorem bt_ge {x : Int32} {i : Nat} (h : 32 ≤ i) : bt x i = false := by
  unfold bt
  exact BitVec.getLsbD_of_ge _ _ h
theorem bt_ext {x y : Int32} (h : ∀ i, i < 32 → bt x i = bt y i) : x = y := by
  apply Int32.toBitVec_inj.mp
  apply BitVec.eq_of_getLsbD_eq
  intro i hi
  exact h i hi
/-- an int whose bits all lie below n is a small number -/
theorem bt_mk {x : Int32} {n : Nat} (hn : n ≤ 31) (h : ∀ i, n ≤ i → i < 32 → bt x i = false) : x = nI (mkb n (bt x)) := by
  apply bt_ext
  intro i hi
  rw [bt_nI hi, mkb_bit]
  by_cases c : i < n
  · simp [c]
  · simp [c, h i (by omega) hi]
theorem or_nI {a b : Nat} : nI a ||| nI b = nI (a ||| b) := by
  apply bt_ext
  intro i hi
  rw [bt_or, bt_nI hi, bt_nI hi, bt_nI hi, Nat.testBit_or]
theorem and_nI {a b : Nat} : nI a &&& nI b = nI (a &&& b) := by
  apply bt_ext
  intro i hi
  rw [bt_and, bt_nI hi, bt_nI hi, bt_nI hi, Nat.testBit_and]
theorem xor_nI {a b : Nat} : nI a ^^^ nI b = nI (a ^^^ b) := by
  apply bt_ext
  intro i hi
  rw [bt_xor, bt_nI hi, bt_nI hi, bt_nI hi, Nat.testBit_xor]
/-- those of a that are not of b -/
def ndf (a b : Nat) : Nat := (a &&& b) ^^^ a
theorem ndf_bit (a b i : Nat) : (ndf a b).testBit i = (a.testBit i && !b.testBit i) := by
  unfold ndf
  rw [Nat.testBit_xor, Nat.testBit_and]
  cases a.testBit i <;> cases b.testBit i <;> rfl
theorem ndf_nI {a b : Nat} : nI a &&& (nI b ^^^ (-1)) = nI (ndf a b) := by
  apply bt_ext
  intro i hi
  rw [bt_and, bt_not hi, bt_nI hi, bt_nI hi, bt_nI hi, ndf_bit]
theorem ndf_le (a b : Nat) : ndf a b ≤ a := by
  apply Nat.le_of_testBit
  intro i hi
  rw [ndf_bit, Bool.and_eq_true] at hi
  exact hi.1
theorem sh_tab : ∀ b : Fin 31, (1 : Int32) <<< (nI b.1 &&& 31) = nI (2 ^ b.1) ∧ ((nI b.1 &&& 31).toBitVec.smod 32).toNat = b.1 := by decide +kernel
theorem sh1 {b : Nat} (h : b < 31) : (1 : Int32) <<< (nI b &&& 31) = nI (2 ^ b) := (sh_tab ⟨b, h⟩).1
theorem shr_nI {s x : Nat} (hs : s < 2147483648) (hx : x < 31) : nI s >>> (nI x &&& 31) = nI (s / 2 ^ x) := pk_shrN hs _ x (sh_tab ⟨x, hx⟩).2
theorem and1 {n : Nat} (h : n < 2147483648) : nI n &&& 1 = nI (n % 2) := pk_andN (by omega) (m := 1) 1 (by decide)
/-- a bit that is looked at -/
theorem bit_nI {s x : Nat} (hs : s < 2147483648) (hx : x < 31) : (nI s >>> (nI x &&& 31)) &&& 1 = if s.testBit x = true then 1 else 0 := by
  rw [shr_nI hs hx, and1 (Nat.lt_of_le_of_lt (Nat.div_le_self _ _) hs), Nat.testBit_eq_decide_div_mod_eq]
  rcases Nat.mod_two_eq_zero_or_one (s / 2 ^ x) with e | e
  · rw [e]; rfl
  · rw [e]; rfl
theorem bit_eq0 {s x : Nat} (hs : s < 2147483648) (hx : x < 31) : ((nI s >>> (nI x &&& 31)) &&& 1 = 0) ↔ s.testBit x = false := by
  rw [bit_nI hs hx]
  cases s.testBit x <;> decide
theorem bit_eq1 {s x : Nat} (hs : s < 2147483648) (hx : x < 31) : ((nI s >>> (nI x &&& 31)) &&& 1 = 1) ↔ s.testBit x = true := by
  rw [bit_nI hs hx]
  cases s.testBit x <;> decide
/-- a set with one more, one less -/
def ins (s x : Nat) : Nat := s ||| 2 ^ x
def del (s x : Nat) : Nat := ndf s (2 ^ x)
theorem ins_bit (s x i : Nat) : (ins s x).testBit i = (s.testBit i || decide (x = i)) := by
  unfold ins
  rw [Nat.testBit_or, Nat.testBit_two_pow]
theorem del_bit (s x i : Nat) : (del s x).testBit i = (s.testBit i && !decide (x = i)) := by
  unfold del
  rw [ndf_bit, Nat.testBit_two_pow]
theorem ins_nI {s x : Nat} (h : x < 31) : nI s ||| ((1 : Int32) <<< (nI x &&& 31)) = nI (ins s x) := by rw [sh1 h, or_nI]; rfl
theorem del_nI {s x : Nat} (h : x < 31) : nI s &&& (((1 : Int32) <<< (nI x &&& 31)) ^^^ (-1)) = nI (del s x) := by rw [sh1 h, ndf_nI]; rfl
theorem ins_lt {s x n : Nat} (hs : s < 2 ^ n) (hx : x < n) : ins s x < 2 ^ n := Nat.or_lt_two_pow hs (Nat.pow_lt_pow_right (by decide) hx)
theorem del_lt {s x n : Nat} (hs : s < 2 ^ n) : del s x < 2 ^ n := Nat.lt_of_le_of_lt (ndf_le _ _) hs
/-- the number of a set: how many bits -/
def cnt : Nat → Nat → Nat
  | 0, _ => 0
  | n + 1, s => cnt n s + (if s.testBit n = true then 1 else 0)
theorem bitCount_tab : ∀ s : Fin 1024, mJ6_bitCount_0f7a4 (nI s.1) = nI (cnt 10 s.1) := by decide +kernel
theorem bitCount_eq {s : Nat} (h : s < 1024) : mJ6_bitCount_0f7a4 (nI s) = nI (cnt 10 s) := bitCount_tab ⟨s, h⟩
