def wX6_row (p1 : Int32) (p2 : Int32) (M : tr_M) : Option (Int32 × tr_M) := mX6_row p1 p2 M
theorem CW_X6_row (p1 : Int32) (p2 : Int32) (M : tr_M) (r : Int32 × tr_M) (h : wX6_row p1 p2 M = some r) : tr_I yX6_row xX6_row [.ref 1, .int p1, .int p2] M (some (.int r.1)) r.2 := by
  exact C_X6_row p1 p2 M r h
def wX7_row (p1 : Int32) (p2 : Int32) (M : tr_M) : Option (Int32 × tr_M) := mX7_row p1 p2 M
theorem CW_X7_row (p1 : Int32) (p2 : Int32) (M : tr_M) (r : Int32 × tr_M) (h : wX7_row p1 p2 M = some r) : tr_I yX7_row xX7_row [.ref 1, .int p1, .int p2] M (some (.int r.1)) r.2 := by
  exact C_X7_row p1 p2 M r h
def sm_row (Inv : tr_M → tr_M → Prop) : Prop := ∀ (M1 M2 : tr_M) (p1 : Int32) (p2 : Int32), Inv M1 M2 → ∃ (r : Int32) (N1 N2 : tr_M), wX6_row p1 p2 M1 = some (r, N1) ∧ wX7_row p1 p2 M2 = some (r, N2) ∧ Inv N1 N2
def wX6_lay (p1 : Int32) (p2 : Int32) (p3 : Int32) (M : tr_M) : Option (Int32 × tr_M) := mX6_lay p1 p2 p3 M
theorem CW_X6_lay (p1 : Int32) (p2 : Int32) (p3 : Int32) (M : tr_M) (r : Int32 × tr_M) (h : wX6_lay p1 p2 p3 M = some r) : tr_I yX6_lay xX6_lay [.ref 1, .int p1, .int p2, .int p3] M (some (.int r.1)) r.2 := by
  exact C_X6_lay p1 p2 p3 M r h
def wX7_lay (p1 : Int32) (p2 : Int32) (p3 : Int32) (M : tr_M) : Option (Int32 × tr_M) := mX7_lay p1 p2 p3 M
theorem CW_X7_lay (p1 : Int32) (p2 : Int32) (p3 : Int32) (M : tr_M) (r : Int32 × tr_M) (h : wX7_lay p1 p2 p3 M = some r) : tr_I yX7_lay xX7_lay [.ref 1, .int p1, .int p2, .int p3] M (some (.int r.1)) r.2 := by
  exact C_X7_lay p1 p2 p3 M r h
def sm_lay (Inv : tr_M → tr_M → Prop) : Prop := ∀ (M1 M2 : tr_M) (p1 : Int32) (p2 : Int32) (p3 : Int32), Inv M1 M2 → ∃ (r : Int32) (N1 N2 : tr_M), wX6_lay p1 p2 p3 M1 = some (r, N1) ∧ wX7_lay p1 p2 p3 M2 = some (r, N2) ∧ Inv N1 N2
def wX6_at (p1 : Int32) (p2 : Int32) (M : tr_M) : Option (Int32 × tr_M) := mX6_at p1 p2 M
theorem CW_X6_at (p1 : Int32) (p2 : Int32) (M : tr_M) (r : Int32 × tr_M) (h : wX6_at p1 p2 M = some r) : tr_I yX6_at xX6_at [.ref 1, .int p1, .int p2] M (some (.int r.1)) r.2 := by
  exact C_X6_at p1 p2 M r h
def wX7_at (p1 : Int32) (p2 : Int32) (M : tr_M) : Option (Int32 × tr_M) := mX7_at p1 p2 M
theorem CW_X7_at (p1 : Int32) (p2 : Int32) (M : tr_M) (r : Int32 × tr_M) (h : wX7_at p1 p2 M = some r) : tr_I yX7_at xX7_at [.ref 1, .int p1, .int p2] M (some (.int r.1)) r.2 := by
  exact C_X7_at p1 p2 M r h
def sm_at (Inv : tr_M → tr_M → Prop) : Prop := ∀ (M1 M2 : tr_M) (p1 : Int32) (p2 : Int32), Inv M1 M2 → ∃ (r : Int32) (N1 N2 : tr_M), wX6_at p1 p2 M1 = some (r, N1) ∧ wX7_at p1 p2 M2 = some (r, N2) ∧ Inv N1 N2
def wX6_tear (p1 : Int32) (M : tr_M) : Option (Int32 × tr_M) := mX6_tear p1 M
theorem CW_X6_tear (p1 : Int32) (M : tr_M) (r : Int32 × tr_M) (h : wX6_tear p1 M = some r) : tr_I yX6_tear xX6_tear [.ref 1, .int p1] M (some (.int r.1)) r.2 := by
  exact C_X6_tear p1 M r h
def wX7_tear (p1 : Int32) (M : tr_M) : Option (Int32 × tr_M) := mX7_tear p1 M
theorem CW_X7_tear (p1 : Int32) (M : tr_M) (r : Int32 × tr_M) (h : wX7_tear p1 M = some r) : tr_I yX7_tear xX7_tear [.ref 1, .int p1] M (some (.int r.1)) r.2 := by
  exact C_X7_tear p1 M r h
def sm_tear (Inv : tr_M → tr_M → Prop) : Prop := ∀ (M1 M2 : tr_M) (p1 : Int32), Inv M1 M2 → ∃ (r : Int32) (N1 N2 : tr_M), wX6_tear p1 M1 = some (r, N1) ∧ wX7_tear p1 M2 = some (r, N2) ∧ Inv N1 N2
def wX6_copy (p1 : Int32) (p2 : Int32) (p3 : Int32) (p4 : Int32) (p5 : Int32) (M : tr_M) : Option (Int32 × tr_M) := mX6_copy p1 p2 p3 p4 p5 M
theorem CW_X6_copy (p1 : Int32) (p2 : Int32) (p3 : Int32) (p4 : Int32) (p5 : Int32) (M : tr_M) (r : Int32 × tr_M) (h : wX6_copy p1 p2 p3 p4 p5 M = some r) : tr_I yX6_copy xX6_copy [.ref 1, .int p1, .int p2, .int p3, .int p4, .int p5] M (some (.int r.1)) r.2 := by
  exact C_X6_copy p1 p2 p3 p4 p5 M r h
def wX7_copy (p1 : Int32) (p2 : Int32) (p3 : Int32) (p4 : Int32) (p5 : Int32) (M : tr_M) : Option (Int32 × tr_M) := mX7_copy p1 p2 p3 p4 p5 M
theorem CW_X7_copy (p1 : Int32) (p2 : Int32) (p3 : Int32) (p4 : Int32) (p5 : Int32) (M : tr_M) (r : Int32 × tr_M) (h : wX7_copy p1 p2 p3 p4 p5 M = some r) : tr_I yX7_copy xX7_copy [.ref 1, .int p1, .int p2, .int p3, .int p4, .int p5] M (some (.int r.1)) r.2 := by
  exact C_X7_copy p1 p2 p3 p4 p5 M r h
def sm_copy (Inv : tr_M → tr_M → Prop) : Prop := ∀ (M1 M2 : tr_M) (p1 : Int32) (p2 : Int32) (p3 : Int32) (p4 : Int32) (p5 : Int32), Inv M1 M2 → ∃ (r : Int32) (N1 N2 : tr_M), wX6_copy p1 p2 p3 p4 p5 M1 = some (r, N1) ∧ wX7_copy p1 p2 p3 p4 p5 M2 = some (r, N2) ∧ Inv N1 N2
def wX6_mean (p1 : Int32) (M : tr_M) : Option (Int32 × tr_M) := mX6_mean p1 M
theorem CW_X6_mean (p1 : Int32) (M : tr_M) (r : Int32 × tr_M) (h : wX6_mean p1 M = some r) : tr_I yX6_mean xX6_mean [.ref 1, .int p1] M (some (.int r.1)) r.2 := by
  exact C_X6_mean p1 M r h
def wX7_mean (p1 : Int32) (M : tr_M) : Option (Int32 × tr_M) := mX7_mean p1 M
theorem CW_X7_mean (p1 : Int32) (M : tr_M) (r : Int32 × tr_M) (h : wX7_mean p1 M = some r) : tr_I yX7_mean xX7_mean [.ref 1, .int p1] M (some (.int r.1)) r.2 := by
  exact C_X7_mean p1 M r h
def sm_mean (Inv : tr_M → tr_M → Prop) : Prop := ∀ (M1 M2 : tr_M) (p1 : Int32), Inv M1 M2 → ∃ (r : Int32) (N1 N2 : tr_M), wX6_mean p1 M1 = some (r, N1) ∧ wX7_mean p1 M2 = some (r, N2) ∧ Inv N1 N2
def wX6_text (p1 : Int32) (p2 : Int32) (M : tr_M) : Option (Int32 × tr_M) := mX6_text p1 p2 M
theorem CW_X6_text (p1 : Int32) (p2 : Int32) (M : tr_M) (r : Int32 × tr_M) (h : wX6_text p1 p2 M = some r) : tr_I yX6_text xX6_text [.ref 1, .int p1, .int p2] M (some (.int r.1)) r.2 := by
  exact C_X6_text p1 p2 M r h
def wX7_text (p1 : Int32) (p2 : Int32) (M : tr_M) : Option (Int32 × tr_M) := mX7_text p1 p2 M
theorem CW_X7_text (p1 : Int32) (p2 : Int32) (M : tr_M) (r : Int32 × tr_M) (h : wX7_text p1 p2 M = some r) : tr_I yX7_text xX7_text [.ref 1, .int p1, .int p2] M (some (.int r.1)) r.2 := by
  exact C_X7_text p1 p2 M r h
def sm_text (Inv : tr_M → tr_M → Prop) : Prop := ∀ (M1 M2 : tr_M) (p1 : Int32) (p2 : Int32), Inv M1 M2 → ∃ (r : Int32) (N1 N2 : tr_M), wX6_text p1 p2 M1 = some (r, N1) ∧ wX7_text p1 p2 M2 = some (r, N2) ∧ Inv N1 N2
def wX6_put (p1 : Int32) (p2 : Int32) (p3 : Int32) (M : tr_M) : Option (Int32 × tr_M) := mX6_put p1 p2 p3 M
theorem CW_X6_put (p1 : Int32) (p2 : Int32) (p3 : Int32) (M : tr_M) (r : Int32 × tr_M) (h : wX6_put p1 p2 p3 M = some r) : tr_I yX6_put xX6_put [.ref 1, .int p1, .int p2, .int p3] M (some (.int r.1)) r.2 := by
  exact C_X6_put p1 p2 p3 M r h
def wX7_put (p1 : Int32) (p2 : Int32) (p3 : Int32) (M : tr_M) : Option (Int32 × tr_M) := mX7_put p1 p2 p3 M
theorem CW_X7_put (p1 : Int32) (p2 : Int32) (p3 : Int32) (M : tr_M) (r : Int32 × tr_M) (h : wX7_put p1 p2 p3 M = some r) : tr_I yX7_put xX7_put [.ref 1, .int p1, .int p2, .int p3] M (some (.int r.1)) r.2 := by
  exact C_X7_put p1 p2 p3 M r h
def sm_put (Inv : tr_M → tr_M → Prop) : Prop := ∀ (M1 M2 : tr_M) (p1 : Int32) (p2 : Int32) (p3 : Int32), Inv M1 M2 → ∃ (r : Int32) (N1 N2 : tr_M), wX6_put p1 p2 p3 M1 = some (r, N1) ∧ wX7_put p1 p2 p3 M2 = some (r, N2) ∧ Inv N1 N2
def wX6_fault (p1 : Int32) (M : tr_M) : Option (Int32 × tr_M) := mX6_fault p1 M
theorem CW_X6_fault (p1 : Int32) (M : tr_M) (r : Int32 × tr_M) (h : wX6_fault p1 M = some r) : tr_I yX6_fault xX6_fault [.ref 1, .int p1] M (some (.int r.1)) r.2 := by
  exact C_X6_fault p1 M r h
def wX7_fault (p1 : Int32) (M : tr_M) : Option (Int32 × tr_M) := mX7_fault p1 M
theorem CW_X7_fault (p1 : Int32) (M : tr_M) (r : Int32 × tr_M) (h : wX7_fault p1 M = some r) : tr_I yX7_fault xX7_fault [.ref 1, .int p1] M (some (.int r.1)) r.2 := by
  exact C_X7_fault p1 M r h
def sm_fault (Inv : tr_M → tr_M → Prop) : Prop := ∀ (M1 M2 : tr_M) (p1 : Int32), Inv M1 M2 → ∃ (r : Int32) (N1 N2 : tr_M), wX6_fault p1 M1 = some (r, N1) ∧ wX7_fault p1 M2 = some (r, N2) ∧ Inv N1 N2
def wX6_world (p1 : Int32) (M : tr_M) : Option (Int32 × tr_M) := mX6_world p1 M
theorem CW_X6_world (p1 : Int32) (M : tr_M) (r : Int32 × tr_M) (h : wX6_world p1 M = some r) : tr_I yX6_world xX6_world [.ref 1, .int p1] M (some (.int r.1)) r.2 := by
  exact C_X6_world p1 M r h
def wX7_world (p1 : Int32) (M : tr_M) : Option (Int32 × tr_M) := mX7_world p1 M
theorem CW_X7_world (p1 : Int32) (M : tr_M) (r : Int32 × tr_M) (h : wX7_world p1 M = some r) : tr_I yX7_world xX7_world [.ref 1, .int p1] M (some (.int r.1)) r.2 := by
  exact C_X7_world p1 M r h
def sm_world (Inv : tr_M → tr_M → Prop) : Prop := ∀ (M1 M2 : tr_M) (p1 : Int32), Inv M1 M2 → ∃ (r : Int32) (N1 N2 : tr_M), wX6_world p1 M1 = some (r, N1) ∧ wX7_world p1 M2 = some (r, N2) ∧ Inv N1 N2
def wX6_tie (p1 : Int32) (p2 : Int32) (p3 : Int32) (M : tr_M) : Option (Int32 × tr_M) := mX6_tie p1 p2 p3 M
theorem CW_X6_tie (p1 : Int32) (p2 : Int32) (p3 : Int32) (M : tr_M) (r : Int32 × tr_M) (h : wX6_tie p1 p2 p3 M = some r) : tr_I yX6_tie xX6_tie [.ref 1, .int p1, .int p2, .int p3] M (some (.int r.1)) r.2 := by
  exact C_X6_tie p1 p2 p3 M r h
def wX7_tie (p1 : Int32) (p2 : Int32) (p3 : Int32) (M : tr_M) : Option (Int32 × tr_M) := mX7_tie p1 p2 p3 M
theorem CW_X7_tie (p1 : Int32) (p2 : Int32) (p3 : Int32) (M : tr_M) (r : Int32 × tr_M) (h : wX7_tie p1 p2 p3 M = some r) : tr_I yX7_tie xX7_tie [.ref 1, .int p1, .int p2, .int p3] M (some (.int r.1)) r.2 := by
  exact C_X7_tie p1 p2 p3 M r h
def sm_tie (Inv : tr_M → tr_M → Prop) : Prop := ∀ (M1 M2 : tr_M) (p1 : Int32) (p2 : Int32) (p3 : Int32), Inv M1 M2 → ∃ (r : Int32) (N1 N2 : tr_M), wX6_tie p1 p2 p3 M1 = some (r, N1) ∧ wX7_tie p1 p2 p3 M2 = some (r, N2) ∧ Inv N1 N2
def wX6_rule (p1 : Int32) (p2 : Int32) (p3 : Int32) (p4 : Int32) (M : tr_M) : Option (Int32 × tr_M) := mX6_rule p1 p2 p3 p4 M
theorem CW_X6_rule (p1 : Int32) (p2 : Int32) (p3 : Int32) (p4 : Int32) (M : tr_M) (r : Int32 × tr_M) (h : wX6_rule p1 p2 p3 p4 M = some r) : tr_I yX6_rule xX6_rule [.ref 1, .int p1, .int p2, .int p3, .int p4] M (some (.int r.1)) r.2 := by
  exact C_X6_rule p1 p2 p3 p4 M r h
def wX7_rule (p1 : Int32) (p2 : Int32) (p3 : Int32) (p4 : Int32) (M : tr_M) : Option (Int32 × tr_M) := mX7_rule p1 p2 p3 p4 M
theorem CW_X7_rule (p1 : Int32) (p2 : Int32) (p3 : Int32) (p4 : Int32) (M : tr_M) (r : Int32 × tr_M) (h : wX7_rule p1 p2 p3 p4 M = some r) : tr_I yX7_rule xX7_rule [.ref 1, .int p1, .int p2, .int p3, .int p4] M (some (.int r.1)) r.2 := by
  exact C_X7_rule p1 p2 p3 p4 M r h
def sm_rule (Inv : tr_M → tr_M → Prop) : Prop := ∀ (M1 M2 : tr_M) (p1 : Int32) (p2 : Int32) (p3 : Int32) (p4 : Int32), Inv M1 M2 → ∃ (r : Int32) (N1 N2 : tr_M), wX6_rule p1 p2 p3 p4 M1 = some (r, N1) ∧ wX7_rule p1 p2 p3 p4 M2 = some (r, N2) ∧ Inv N1 N2
def wX6_off (p1 : Int32) (p2 : Int32) (M : tr_M) : Option (Int32 × tr_M) := mX6_off p1 p2 M
theorem CW_X6_off (p1 : Int32) (p2 : Int32) (M : tr_M) (r : Int32 × tr_M) (h : wX6_off p1 p2 M = some r) : tr_I yX6_off xX6_off [.ref 1, .int p1, .int p2] M (some (.int r.1)) r.2 := by
  exact C_X6_off p1 p2 M r h
def wX7_off (p1 : Int32) (p2 : Int32) (M : tr_M) : Option (Int32 × tr_M) := mX7_off p1 p2 M
theorem CW_X7_off (p1 : Int32) (p2 : Int32) (M : tr_M) (r : Int32 × tr_M) (h : wX7_off p1 p2 M = some r) : tr_I yX7_off xX7_off [.ref 1, .int p1, .int p2] M (some (.int r.1)) r.2 := by
  exact C_X7_off p1 p2 M r h
def sm_off (Inv : tr_M → tr_M → Prop) : Prop := ∀ (M1 M2 : tr_M) (p1 : Int32) (p2 : Int32), Inv M1 M2 → ∃ (r : Int32) (N1 N2 : tr_M), wX6_off p1 p2 M1 = some (r, N1) ∧ wX7_off p1 p2 M2 = some (r, N2) ∧ Inv N1 N2
def wX6_back (p1 : Int32) (M : tr_M) : Option (Int32 × tr_M) := mX6_back p1 M
theorem CW_X6_back (p1 : Int32) (M : tr_M) (r : Int32 × tr_M) (h : wX6_back p1 M = some r) : tr_I yX6_back xX6_back [.ref 1, .int p1] M (some (.int r.1)) r.2 := by
  exact C_X6_back p1 M r h
def wX7_back (p1 : Int32) (M : tr_M) : Option (Int32 × tr_M) := mX7_back p1 M
theorem CW_X7_back (p1 : Int32) (M : tr_M) (r : Int32 × tr_M) (h : wX7_back p1 M = some r) : tr_I yX7_back xX7_back [.ref 1, .int p1] M (some (.int r.1)) r.2 := by
  exact C_X7_back p1 M r h
def sm_back (Inv : tr_M → tr_M → Prop) : Prop := ∀ (M1 M2 : tr_M) (p1 : Int32), Inv M1 M2 → ∃ (r : Int32) (N1 N2 : tr_M), wX6_back p1 M1 = some (r, N1) ∧ wX7_back p1 M2 = some (r, N2) ∧ Inv N1 N2
def wX6_told (p1 : Int32) (p2 : Int32) (M : tr_M) : Option (Int32 × tr_M) := mX6_told p1 p2 M
theorem CW_X6_told (p1 : Int32) (p2 : Int32) (M : tr_M) (r : Int32 × tr_M) (h : wX6_told p1 p2 M = some r) : tr_I yX6_told xX6_told [.ref 1, .int p1, .int p2] M (some (.int r.1)) r.2 := by
  exact C_X6_told p1 p2 M r h
def wX7_told (p1 : Int32) (p2 : Int32) (M : tr_M) : Option (Int32 × tr_M) := mX7_told p1 p2 M
theorem CW_X7_told (p1 : Int32) (p2 : Int32) (M : tr_M) (r : Int32 × tr_M) (h : wX7_told p1 p2 M = some r) : tr_I yX7_told xX7_told [.ref 1, .int p1, .int p2] M (some (.int r.1)) r.2 := by
  exact C_X7_told p1 p2 M r h
def sm_told (Inv : tr_M → tr_M → Prop) : Prop := ∀ (M1 M2 : tr_M) (p1 : Int32) (p2 : Int32), Inv M1 M2 → ∃ (r : Int32) (N1 N2 : tr_M), wX6_told p1 p2 M1 = some (r, N1) ∧ wX7_told p1 p2 M2 = some (r, N2) ∧ Inv N1 N2
def wX6_mark (p1 : Int32) (p2 : Int32) (M : tr_M) : Option (Int32 × tr_M) := mX6_mark p1 p2 M
theorem CW_X6_mark (p1 : Int32) (p2 : Int32) (M : tr_M) (r : Int32 × tr_M) (h : wX6_mark p1 p2 M = some r) : tr_I yX6_mark xX6_mark [.ref 1, .int p1, .int p2] M (some (.int r.1)) r.2 := by
  exact C_X6_mark p1 p2 M r h
def wX7_mark (p1 : Int32) (p2 : Int32) (M : tr_M) : Option (Int32 × tr_M) := mX7_mark p1 p2 M
theorem CW_X7_mark (p1 : Int32) (p2 : Int32) (M : tr_M) (r : Int32 × tr_M) (h : wX7_mark p1 p2 M = some r) : tr_I yX7_mark xX7_mark [.ref 1, .int p1, .int p2] M (some (.int r.1)) r.2 := by
  exact C_X7_mark p1 p2 M r h
def sm_mark (Inv : tr_M → tr_M → Prop) : Prop := ∀ (M1 M2 : tr_M) (p1 : Int32) (p2 : Int32), Inv M1 M2 → ∃ (r : Int32) (N1 N2 : tr_M), wX6_mark p1 p2 M1 = some (r, N1) ∧ wX7_mark p1 p2 M2 = some (r, N2) ∧ Inv N1 N2
def wX6_measure (p1 : Int32) (p2 : Int32) (M : tr_M) : Option (Int32 × tr_M) := mX6_measure p1 p2 M
theorem CW_X6_measure (p1 : Int32) (p2 : Int32) (M : tr_M) (r : Int32 × tr_M) (h : wX6_measure p1 p2 M = some r) : tr_I yX6_measure xX6_measure [.ref 1, .int p1, .int p2] M (some (.int r.1)) r.2 := by
  exact C_X6_measure p1 p2 M r h
def wX7_measure (p1 : Int32) (p2 : Int32) (M : tr_M) : Option (Int32 × tr_M) := mX7_measure p1 p2 M
theorem CW_X7_measure (p1 : Int32) (p2 : Int32) (M : tr_M) (r : Int32 × tr_M) (h : wX7_measure p1 p2 M = some r) : tr_I yX7_measure xX7_measure [.ref 1, .int p1, .int p2] M (some (.int r.1)) r.2 := by
  exact C_X7_measure p1 p2 M r h
def sm_measure (Inv : tr_M → tr_M → Prop) : Prop := ∀ (M1 M2 : tr_M) (p1 : Int32) (p2 : Int32), Inv M1 M2 → ∃ (r : Int32) (N1 N2 : tr_M), wX6_measure p1 p2 M1 = some (r, N1) ∧ wX7_measure p1 p2 M2 = some (r, N2) ∧ Inv N1 N2
def wX6_breaks (p1 : Int32) (M : tr_M) : Option (Int32 × tr_M) := mX6_breaks p1 M
theorem CW_X6_breaks (p1 : Int32) (M : tr_M) (r : Int32 × tr_M) (h : wX6_breaks p1 M = some r) : tr_I yX6_breaks xX6_breaks [.ref 1, .int p1] M (some (.int r.1)) r.2 := by
  exact C_X6_breaks p1 M r h
def wX7_breaks (p1 : Int32) (M : tr_M) : Option (Int32 × tr_M) := mX7_breaks p1 M
theorem CW_X7_breaks (p1 : Int32) (M : tr_M) (r : Int32 × tr_M) (h : wX7_breaks p1 M = some r) : tr_I yX7_breaks xX7_breaks [.ref 1, .int p1] M (some (.int r.1)) r.2 := by
  exact C_X7_breaks p1 M r h
def sm_breaks (Inv : tr_M → tr_M → Prop) : Prop := ∀ (M1 M2 : tr_M) (p1 : Int32), Inv M1 M2 → ∃ (r : Int32) (N1 N2 : tr_M), wX6_breaks p1 M1 = some (r, N1) ∧ wX7_breaks p1 M2 = some (r, N2) ∧ Inv N1 N2
def wX6_gap (p1 : Int32) (p2 : Int32) (M : tr_M) : Option (Int32 × tr_M) := mX6_gap p1 p2 M
theorem CW_X6_gap (p1 : Int32) (p2 : Int32) (M : tr_M) (r : Int32 × tr_M) (h : wX6_gap p1 p2 M = some r) : tr_I yX6_gap xX6_gap [.ref 1, .int p1, .int p2] M (some (.int r.1)) r.2 := by
  exact C_X6_gap p1 p2 M r h
def wX7_gap (p1 : Int32) (p2 : Int32) (M : tr_M) : Option (Int32 × tr_M) := mX7_gap p1 p2 M
theorem CW_X7_gap (p1 : Int32) (p2 : Int32) (M : tr_M) (r : Int32 × tr_M) (h : wX7_gap p1 p2 M = some r) : tr_I yX7_gap xX7_gap [.ref 1, .int p1, .int p2] M (some (.int r.1)) r.2 := by
  exact C_X7_gap p1 p2 M r h
def sm_gap (Inv : tr_M → tr_M → Prop) : Prop := ∀ (M1 M2 : tr_M) (p1 : Int32) (p2 : Int32), Inv M1 M2 → ∃ (r : Int32) (N1 N2 : tr_M), wX6_gap p1 p2 M1 = some (r, N1) ∧ wX7_gap p1 p2 M2 = some (r, N2) ∧ Inv N1 N2
def wX6_least (p1 : Int32) (M : tr_M) : Option (Int32 × tr_M) := mX6_least p1 M
theorem CW_X6_least (p1 : Int32) (M : tr_M) (r : Int32 × tr_M) (h : wX6_least p1 M = some r) : tr_I yX6_least xX6_least [.ref 1, .int p1] M (some (.int r.1)) r.2 := by
  exact C_X6_least p1 M r h
def wX7_least (p1 : Int32) (M : tr_M) : Option (Int32 × tr_M) := mX7_least p1 M
theorem CW_X7_least (p1 : Int32) (M : tr_M) (r : Int32 × tr_M) (h : wX7_least p1 M = some r) : tr_I yX7_least xX7_least [.ref 1, .int p1] M (some (.int r.1)) r.2 := by
  exact C_X7_least p1 M r h
def sm_least (Inv : tr_M → tr_M → Prop) : Prop := ∀ (M1 M2 : tr_M) (p1 : Int32), Inv M1 M2 → ∃ (r : Int32) (N1 N2 : tr_M), wX6_least p1 M1 = some (r, N1) ∧ wX7_least p1 M2 = some (r, N2) ∧ Inv N1 N2
def wX6_first (p1 : Int32) (p2 : Int32) (M : tr_M) : Option (Int32 × tr_M) := mX6_first p1 p2 M
theorem CW_X6_first (p1 : Int32) (p2 : Int32) (M : tr_M) (r : Int32 × tr_M) (h : wX6_first p1 p2 M = some r) : tr_I yX6_first xX6_first [.ref 1, .int p1, .int p2] M (some (.int r.1)) r.2 := by
  exact C_X6_first p1 p2 M r h
def wX7_first (p1 : Int32) (p2 : Int32) (M : tr_M) : Option (Int32 × tr_M) := mX7_first p1 p2 M
theorem CW_X7_first (p1 : Int32) (p2 : Int32) (M : tr_M) (r : Int32 × tr_M) (h : wX7_first p1 p2 M = some r) : tr_I yX7_first xX7_first [.ref 1, .int p1, .int p2] M (some (.int r.1)) r.2 := by
  exact C_X7_first p1 p2 M r h
def sm_first (Inv : tr_M → tr_M → Prop) : Prop := ∀ (M1 M2 : tr_M) (p1 : Int32) (p2 : Int32), Inv M1 M2 → ∃ (r : Int32) (N1 N2 : tr_M), wX6_first p1 p2 M1 = some (r, N1) ∧ wX7_first p1 p2 M2 = some (r, N2) ∧ Inv N1 N2
def wX6_ways (p1 : Int32) (M : tr_M) : Option (Int32 × tr_M) := mX6_ways p1 M
theorem CW_X6_ways (p1 : Int32) (M : tr_M) (r : Int32 × tr_M) (h : wX6_ways p1 M = some r) : tr_I yX6_ways xX6_ways [.ref 1, .int p1] M (some (.int r.1)) r.2 := by
  exact C_X6_ways p1 M r h
def wX7_ways (p1 : Int32) (M : tr_M) : Option (Int32 × tr_M) := mX7_ways p1 M
theorem CW_X7_ways (p1 : Int32) (M : tr_M) (r : Int32 × tr_M) (h : wX7_ways p1 M = some r) : tr_I yX7_ways xX7_ways [.ref 1, .int p1] M (some (.int r.1)) r.2 := by
  exact C_X7_ways p1 M r h
def sm_ways (Inv : tr_M → tr_M → Prop) : Prop := ∀ (M1 M2 : tr_M) (p1 : Int32), Inv M1 M2 → ∃ (r : Int32) (N1 N2 : tr_M), wX6_ways p1 M1 = some (r, N1) ∧ wX7_ways p1 M2 = some (r, N2) ∧ Inv N1 N2
def wX6_rank (p1 : Int32) (p2 : Int32) (M : tr_M) : Option (Int32 × tr_M) := mX6_rank p1 p2 M
theorem CW_X6_rank (p1 : Int32) (p2 : Int32) (M : tr_M) (r : Int32 × tr_M) (h : wX6_rank p1 p2 M = some r) : tr_I yX6_rank xX6_rank [.ref 1, .int p1, .int p2] M (some (.int r.1)) r.2 := by
  exact C_X6_rank p1 p2 M r h
def wX7_rank (p1 : Int32) (p2 : Int32) (M : tr_M) : Option (Int32 × tr_M) := mX7_rank p1 p2 M
theorem CW_X7_rank (p1 : Int32) (p2 : Int32) (M : tr_M) (r : Int32 × tr_M) (h : wX7_rank p1 p2 M = some r) : tr_I yX7_rank xX7_rank [.ref 1, .int p1, .int p2] M (some (.int r.1)) r.2 := by
  exact C_X7_rank p1 p2 M r h
def sm_rank (Inv : tr_M → tr_M → Prop) : Prop := ∀ (M1 M2 : tr_M) (p1 : Int32) (p2 : Int32), Inv M1 M2 → ∃ (r : Int32) (N1 N2 : tr_M), wX6_rank p1 p2 M1 = some (r, N1) ∧ wX7_rank p1 p2 M2 = some (r, N2) ∧ Inv N1 N2
def wX6_order (p1 : Int32) (p2 : Int32) (p3 : Int32) (M : tr_M) : Option (Int32 × tr_M) := mX6_order p1 p2 p3 M
theorem CW_X6_order (p1 : Int32) (p2 : Int32) (p3 : Int32) (M : tr_M) (r : Int32 × tr_M) (h : wX6_order p1 p2 p3 M = some r) : tr_I yX6_order xX6_order [.ref 1, .int p1, .int p2, .int p3] M (some (.int r.1)) r.2 := by
  exact C_X6_order p1 p2 p3 M r h
def wX7_order (p1 : Int32) (p2 : Int32) (p3 : Int32) (M : tr_M) : Option (Int32 × tr_M) := mX7_order p1 p2 p3 M
theorem CW_X7_order (p1 : Int32) (p2 : Int32) (p3 : Int32) (M : tr_M) (r : Int32 × tr_M) (h : wX7_order p1 p2 p3 M = some r) : tr_I yX7_order xX7_order [.ref 1, .int p1, .int p2, .int p3] M (some (.int r.1)) r.2 := by
  exact C_X7_order p1 p2 p3 M r h
def sm_order (Inv : tr_M → tr_M → Prop) : Prop := ∀ (M1 M2 : tr_M) (p1 : Int32) (p2 : Int32) (p3 : Int32), Inv M1 M2 → ∃ (r : Int32) (N1 N2 : tr_M), wX6_order p1 p2 p3 M1 = some (r, N1) ∧ wX7_order p1 p2 p3 M2 = some (r, N2) ∧ Inv N1 N2
def wX6_all  (M : tr_M) : Option (Int32 × tr_M) := mX6_all M
theorem CW_X6_all  (M : tr_M) (r : Int32 × tr_M) (h : wX6_all  M = some r) : tr_I yX6_all xX6_all [.ref 1] M (some (.int r.1)) r.2 := by
  exact C_X6_all  M r h
def wX7_all  (M : tr_M) : Option (Int32 × tr_M) := mX7_all M
theorem CW_X7_all  (M : tr_M) (r : Int32 × tr_M) (h : wX7_all  M = some r) : tr_I yX7_all xX7_all [.ref 1] M (some (.int r.1)) r.2 := by
  exact C_X7_all  M r h
def sm_all (Inv : tr_M → tr_M → Prop) : Prop := ∀ (M1 M2 : tr_M) , Inv M1 M2 → ∃ (r : Int32) (N1 N2 : tr_M), wX6_all  M1 = some (r, N1) ∧ wX7_all  M2 = some (r, N2) ∧ Inv N1 N2
def wX6_bound (p1 : Int32) (M : tr_M) : Option (Int32 × tr_M) := Option.map (fun v => (v, M)) (mX6_bound p1 M)
theorem CW_X6_bound (p1 : Int32) (M : tr_M) (r : Int32 × tr_M) (h : wX6_bound p1 M = some r) : tr_I yX6_bound xX6_bound [.ref 1, .int p1] M (some (.int r.1)) r.2 := by
  obtain ⟨v, h1, rfl⟩ := Option.map_eq_some_iff.mp h
  exact C_X6_bound p1 M v h1
def wX7_bound (p1 : Int32) (M : tr_M) : Option (Int32 × tr_M) := mX7_bound p1 M
theorem CW_X7_bound (p1 : Int32) (M : tr_M) (r : Int32 × tr_M) (h : wX7_bound p1 M = some r) : tr_I yX7_bound xX7_bound [.ref 1, .int p1] M (some (.int r.1)) r.2 := by
  exact C_X7_bound p1 M r h
def sm_bound (Inv : tr_M → tr_M → Prop) : Prop := ∀ (M1 M2 : tr_M) (p1 : Int32), Inv M1 M2 → ∃ (r : Int32) (N1 N2 : tr_M), wX6_bound p1 M1 = some (r, N1) ∧ wX7_bound p1 M2 = some (r, N2) ∧ Inv N1 N2
def wX6_costs (p1 : Int32) (p2 : Int32) (p3 : Int32) (M : tr_M) : Option (Int32 × tr_M) := mX6_costs p1 p2 p3 M
theorem CW_X6_costs (p1 : Int32) (p2 : Int32) (p3 : Int32) (M : tr_M) (r : Int32 × tr_M) (h : wX6_costs p1 p2 p3 M = some r) : tr_I yX6_costs xX6_costs [.ref 1, .int p1, .int p2, .int p3] M (some (.int r.1)) r.2 := by
  exact C_X6_costs p1 p2 p3 M r h
def wX7_costs (p1 : Int32) (p2 : Int32) (p3 : Int32) (M : tr_M) : Option (Int32 × tr_M) := mX7_costs p1 p2 p3 M
theorem CW_X7_costs (p1 : Int32) (p2 : Int32) (p3 : Int32) (M : tr_M) (r : Int32 × tr_M) (h : wX7_costs p1 p2 p3 M = some r) : tr_I yX7_costs xX7_costs [.ref 1, .int p1, .int p2, .int p3] M (some (.int r.1)) r.2 := by
  exact C_X7_costs p1 p2 p3 M r h
def sm_costs (Inv : tr_M → tr_M → Prop) : Prop := ∀ (M1 M2 : tr_M) (p1 : Int32) (p2 : Int32) (p3 : Int32), Inv M1 M2 → ∃ (r : Int32) (N1 N2 : tr_M), wX6_costs p1 p2 p3 M1 = some (r, N1) ∧ wX7_costs p1 p2 p3 M2 = some (r, N2) ∧ Inv N1 N2
def wX6_bars (p1 : Int32) (p2 : Int32) (M : tr_M) : Option (Int32 × tr_M) := mX6_bars p1 p2 M
theorem CW_X6_bars (p1 : Int32) (p2 : Int32) (M : tr_M) (r : Int32 × tr_M) (h : wX6_bars p1 p2 M = some r) : tr_I yX6_bars xX6_bars [.ref 1, .int p1, .int p2] M (some (.int r.1)) r.2 := by
  exact C_X6_bars p1 p2 M r h
def wX7_bars (p1 : Int32) (p2 : Int32) (M : tr_M) : Option (Int32 × tr_M) := mX7_bars p1 p2 M
theorem CW_X7_bars (p1 : Int32) (p2 : Int32) (M : tr_M) (r : Int32 × tr_M) (h : wX7_bars p1 p2 M = some r) : tr_I yX7_bars xX7_bars [.ref 1, .int p1, .int p2] M (some (.int r.1)) r.2 := by
  exact C_X7_bars p1 p2 M r h
def sm_bars (Inv : tr_M → tr_M → Prop) : Prop := ∀ (M1 M2 : tr_M) (p1 : Int32) (p2 : Int32), Inv M1 M2 → ∃ (r : Int32) (N1 N2 : tr_M), wX6_bars p1 p2 M1 = some (r, N1) ∧ wX7_bars p1 p2 M2 = some (r, N2) ∧ Inv N1 N2
def wX6_where (p1 : Int32) (p2 : Int32) (p3 : Int32) (M : tr_M) : Option (Int32 × tr_M) := mX6_where p1 p2 p3 M
theorem CW_X6_where (p1 : Int32) (p2 : Int32) (p3 : Int32) (M : tr_M) (r : Int32 × tr_M) (h : wX6_where p1 p2 p3 M = some r) : tr_I yX6_where xX6_where [.ref 1, .int p1, .int p2, .int p3] M (some (.int r.1)) r.2 := by
  exact C_X6_where p1 p2 p3 M r h
def wX7_where (p1 : Int32) (p2 : Int32) (p3 : Int32) (M : tr_M) : Option (Int32 × tr_M) := mX7_where p1 p2 p3 M
theorem CW_X7_where (p1 : Int32) (p2 : Int32) (p3 : Int32) (M : tr_M) (r : Int32 × tr_M) (h : wX7_where p1 p2 p3 M = some r) : tr_I yX7_where xX7_where [.ref 1, .int p1, .int p2, .int p3] M (some (.int r.1)) r.2 := by
  exact C_X7_where p1 p2 p3 M r h
def sm_where (Inv : tr_M → tr_M → Prop) : Prop := ∀ (M1 M2 : tr_M) (p1 : Int32) (p2 : Int32) (p3 : Int32), Inv M1 M2 → ∃ (r : Int32) (N1 N2 : tr_M), wX6_where p1 p2 p3 M1 = some (r, N1) ∧ wX7_where p1 p2 p3 M2 = some (r, N2) ∧ Inv N1 N2
def wX6_places (p1 : Int32) (p2 : Int32) (M : tr_M) : Option (Int32 × tr_M) := mX6_places p1 p2 M
theorem CW_X6_places (p1 : Int32) (p2 : Int32) (M : tr_M) (r : Int32 × tr_M) (h : wX6_places p1 p2 M = some r) : tr_I yX6_places xX6_places [.ref 1, .int p1, .int p2] M (some (.int r.1)) r.2 := by
  exact C_X6_places p1 p2 M r h
def wX7_places (p1 : Int32) (p2 : Int32) (M : tr_M) : Option (Int32 × tr_M) := mX7_places p1 p2 M
theorem CW_X7_places (p1 : Int32) (p2 : Int32) (M : tr_M) (r : Int32 × tr_M) (h : wX7_places p1 p2 M = some r) : tr_I yX7_places xX7_places [.ref 1, .int p1, .int p2] M (some (.int r.1)) r.2 := by
  exact C_X7_places p1 p2 M r h
def sm_places (Inv : tr_M → tr_M → Prop) : Prop := ∀ (M1 M2 : tr_M) (p1 : Int32) (p2 : Int32), Inv M1 M2 → ∃ (r : Int32) (N1 N2 : tr_M), wX6_places p1 p2 M1 = some (r, N1) ∧ wX7_places p1 p2 M2 = some (r, N2) ∧ Inv N1 N2
def wX6_middle (p1 : Int32) (p2 : Int32) (M : tr_M) : Option (Int32 × tr_M) := mX6_middle p1 p2 M
theorem CW_X6_middle (p1 : Int32) (p2 : Int32) (M : tr_M) (r : Int32 × tr_M) (h : wX6_middle p1 p2 M = some r) : tr_I yX6_middle xX6_middle [.ref 1, .int p1, .int p2] M (some (.int r.1)) r.2 := by
  exact C_X6_middle p1 p2 M r h
def wX7_middle (p1 : Int32) (p2 : Int32) (M : tr_M) : Option (Int32 × tr_M) := mX7_middle p1 p2 M
theorem CW_X7_middle (p1 : Int32) (p2 : Int32) (M : tr_M) (r : Int32 × tr_M) (h : wX7_middle p1 p2 M = some r) : tr_I yX7_middle xX7_middle [.ref 1, .int p1, .int p2] M (some (.int r.1)) r.2 := by
  exact C_X7_middle p1 p2 M r h
def sm_middle (Inv : tr_M → tr_M → Prop) : Prop := ∀ (M1 M2 : tr_M) (p1 : Int32) (p2 : Int32), Inv M1 M2 → ∃ (r : Int32) (N1 N2 : tr_M), wX6_middle p1 p2 M1 = some (r, N1) ∧ wX7_middle p1 p2 M2 = some (r, N2) ∧ Inv N1 N2
def wX6_leads (p1 : Int32) (p2 : Int32) (p3 : Int32) (M : tr_M) : Option (Int32 × tr_M) := mX6_leads p1 p2 p3 M
theorem CW_X6_leads (p1 : Int32) (p2 : Int32) (p3 : Int32) (M : tr_M) (r : Int32 × tr_M) (h : wX6_leads p1 p2 p3 M = some r) : tr_I yX6_leads xX6_leads [.ref 1, .int p1, .int p2, .int p3] M (some (.int r.1)) r.2 := by
  exact C_X6_leads p1 p2 p3 M r h
def wX7_leads (p1 : Int32) (p2 : Int32) (p3 : Int32) (M : tr_M) : Option (Int32 × tr_M) := mX7_leads p1 p2 p3 M
theorem CW_X7_leads (p1 : Int32) (p2 : Int32) (p3 : Int32) (M : tr_M) (r : Int32 × tr_M) (h : wX7_leads p1 p2 p3 M = some r) : tr_I yX7_leads xX7_leads [.ref 1, .int p1, .int p2, .int p3] M (some (.int r.1)) r.2 := by
  exact C_X7_leads p1 p2 p3 M r h
def sm_leads (Inv : tr_M → tr_M → Prop) : Prop := ∀ (M1 M2 : tr_M) (p1 : Int32) (p2 : Int32) (p3 : Int32), Inv M1 M2 → ∃ (r : Int32) (N1 N2 : tr_M), wX6_leads p1 p2 p3 M1 = some (r, N1) ∧ wX7_leads p1 p2 p3 M2 = some (r, N2) ∧ Inv N1 N2
def wX6_both (p1 : Int32) (p2 : Int32) (M : tr_M) : Option (Int32 × tr_M) := mX6_both p1 p2 M
theorem CW_X6_both (p1 : Int32) (p2 : Int32) (M : tr_M) (r : Int32 × tr_M) (h : wX6_both p1 p2 M = some r) : tr_I yX6_both xX6_both [.ref 1, .int p1, .int p2] M (some (.int r.1)) r.2 := by
  exact C_X6_both p1 p2 M r h
def wX7_both (p1 : Int32) (p2 : Int32) (M : tr_M) : Option (Int32 × tr_M) := mX7_both p1 p2 M
theorem CW_X7_both (p1 : Int32) (p2 : Int32) (M : tr_M) (r : Int32 × tr_M) (h : wX7_both p1 p2 M = some r) : tr_I yX7_both xX7_both [.ref 1, .int p1, .int p2] M (some (.int r.1)) r.2 := by
  exact C_X7_both p1 p2 M r h
def sm_both (Inv : tr_M → tr_M → Prop) : Prop := ∀ (M1 M2 : tr_M) (p1 : Int32) (p2 : Int32), Inv M1 M2 → ∃ (r : Int32) (N1 N2 : tr_M), wX6_both p1 p2 M1 = some (r, N1) ∧ wX7_both p1 p2 M2 = some (r, N2) ∧ Inv N1 N2
def wX6_must  (M : tr_M) : Option (Int32 × tr_M) := mX6_must M
theorem CW_X6_must  (M : tr_M) (r : Int32 × tr_M) (h : wX6_must  M = some r) : tr_I yX6_must xX6_must [.ref 1] M (some (.int r.1)) r.2 := by
  exact C_X6_must  M r h
def wX7_must  (M : tr_M) : Option (Int32 × tr_M) := mX7_must M
theorem CW_X7_must  (M : tr_M) (r : Int32 × tr_M) (h : wX7_must  M = some r) : tr_I yX7_must xX7_must [.ref 1] M (some (.int r.1)) r.2 := by
  exact C_X7_must  M r h
def sm_must (Inv : tr_M → tr_M → Prop) : Prop := ∀ (M1 M2 : tr_M) , Inv M1 M2 → ∃ (r : Int32) (N1 N2 : tr_M), wX6_must  M1 = some (r, N1) ∧ wX7_must  M2 = some (r, N2) ∧ Inv N1 N2
def wX6_swaps (p1 : Int32) (p2 : Int32) (M : tr_M) : Option (Int32 × tr_M) := mX6_swaps p1 p2 M
theorem CW_X6_swaps (p1 : Int32) (p2 : Int32) (M : tr_M) (r : Int32 × tr_M) (h : wX6_swaps p1 p2 M = some r) : tr_I yX6_swaps xX6_swaps [.ref 1, .int p1, .int p2] M (some (.int r.1)) r.2 := by
  exact C_X6_swaps p1 p2 M r h
def wX7_swaps (p1 : Int32) (p2 : Int32) (M : tr_M) : Option (Int32 × tr_M) := mX7_swaps p1 p2 M
theorem CW_X7_swaps (p1 : Int32) (p2 : Int32) (M : tr_M) (r : Int32 × tr_M) (h : wX7_swaps p1 p2 M = some r) : tr_I yX7_swaps xX7_swaps [.ref 1, .int p1, .int p2] M (some (.int r.1)) r.2 := by
  exact C_X7_swaps p1 p2 M r h
def sm_swaps (Inv : tr_M → tr_M → Prop) : Prop := ∀ (M1 M2 : tr_M) (p1 : Int32) (p2 : Int32), Inv M1 M2 → ∃ (r : Int32) (N1 N2 : tr_M), wX6_swaps p1 p2 M1 = some (r, N1) ∧ wX7_swaps p1 p2 M2 = some (r, N2) ∧ Inv N1 N2
def wX6_moves (p1 : Int32) (p2 : Int32) (M : tr_M) : Option (Int32 × tr_M) := mX6_moves p1 p2 M
theorem CW_X6_moves (p1 : Int32) (p2 : Int32) (M : tr_M) (r : Int32 × tr_M) (h : wX6_moves p1 p2 M = some r) : tr_I yX6_moves xX6_moves [.ref 1, .int p1, .int p2] M (some (.int r.1)) r.2 := by
  exact C_X6_moves p1 p2 M r h
def wX7_moves (p1 : Int32) (p2 : Int32) (M : tr_M) : Option (Int32 × tr_M) := mX7_moves p1 p2 M
theorem CW_X7_moves (p1 : Int32) (p2 : Int32) (M : tr_M) (r : Int32 × tr_M) (h : wX7_moves p1 p2 M = some r) : tr_I yX7_moves xX7_moves [.ref 1, .int p1, .int p2] M (some (.int r.1)) r.2 := by
  exact C_X7_moves p1 p2 M r h
def sm_moves (Inv : tr_M → tr_M → Prop) : Prop := ∀ (M1 M2 : tr_M) (p1 : Int32) (p2 : Int32), Inv M1 M2 → ∃ (r : Int32) (N1 N2 : tr_M), wX6_moves p1 p2 M1 = some (r, N1) ∧ wX7_moves p1 p2 M2 = some (r, N2) ∧ Inv N1 N2
def wX6_apart (p1 : Int32) (p2 : Int32) (M : tr_M) : Option (Int32 × tr_M) := mX6_apart p1 p2 M
theorem CW_X6_apart (p1 : Int32) (p2 : Int32) (M : tr_M) (r : Int32 × tr_M) (h : wX6_apart p1 p2 M = some r) : tr_I yX6_apart xX6_apart [.ref 1, .int p1, .int p2] M (some (.int r.1)) r.2 := by
  exact C_X6_apart p1 p2 M r h
def wX7_apart (p1 : Int32) (p2 : Int32) (M : tr_M) : Option (Int32 × tr_M) := mX7_apart p1 p2 M
theorem CW_X7_apart (p1 : Int32) (p2 : Int32) (M : tr_M) (r : Int32 × tr_M) (h : wX7_apart p1 p2 M = some r) : tr_I yX7_apart xX7_apart [.ref 1, .int p1, .int p2] M (some (.int r.1)) r.2 := by
  exact C_X7_apart p1 p2 M r h
def sm_apart (Inv : tr_M → tr_M → Prop) : Prop := ∀ (M1 M2 : tr_M) (p1 : Int32) (p2 : Int32), Inv M1 M2 → ∃ (r : Int32) (N1 N2 : tr_M), wX6_apart p1 p2 M1 = some (r, N1) ∧ wX7_apart p1 p2 M2 = some (r, N2) ∧ Inv N1 N2
def wX6_draw (p1 : Int32) (p2 : Int32) (M : tr_M) : Option (Int32 × tr_M) := mX6_draw p1 p2 M
theorem CW_X6_draw (p1 : Int32) (p2 : Int32) (M : tr_M) (r : Int32 × tr_M) (h : wX6_draw p1 p2 M = some r) : tr_I yX6_draw xX6_draw [.ref 1, .int p1, .int p2] M (some (.int r.1)) r.2 := by
  exact C_X6_draw p1 p2 M r h
def wX7_draw (p1 : Int32) (p2 : Int32) (M : tr_M) : Option (Int32 × tr_M) := mX7_draw p1 p2 M
theorem CW_X7_draw (p1 : Int32) (p2 : Int32) (M : tr_M) (r : Int32 × tr_M) (h : wX7_draw p1 p2 M = some r) : tr_I yX7_draw xX7_draw [.ref 1, .int p1, .int p2] M (some (.int r.1)) r.2 := by
  exact C_X7_draw p1 p2 M r h
def sm_draw (Inv : tr_M → tr_M → Prop) : Prop := ∀ (M1 M2 : tr_M) (p1 : Int32) (p2 : Int32), Inv M1 M2 → ∃ (r : Int32) (N1 N2 : tr_M), wX6_draw p1 p2 M1 = some (r, N1) ∧ wX7_draw p1 p2 M2 = some (r, N2) ∧ Inv N1 N2
def wX6_lots (p1 : Int32) (p2 : Int32) (p3 : Int32) (M : tr_M) : Option (Int32 × tr_M) := mX6_lots p1 p2 p3 M
theorem CW_X6_lots (p1 : Int32) (p2 : Int32) (p3 : Int32) (M : tr_M) (r : Int32 × tr_M) (h : wX6_lots p1 p2 p3 M = some r) : tr_I yX6_lots xX6_lots [.ref 1, .int p1, .int p2, .int p3] M (some (.int r.1)) r.2 := by
  exact C_X6_lots p1 p2 p3 M r h
def wX7_lots (p1 : Int32) (p2 : Int32) (p3 : Int32) (M : tr_M) : Option (Int32 × tr_M) := mX7_lots p1 p2 p3 M
theorem CW_X7_lots (p1 : Int32) (p2 : Int32) (p3 : Int32) (M : tr_M) (r : Int32 × tr_M) (h : wX7_lots p1 p2 p3 M = some r) : tr_I yX7_lots xX7_lots [.ref 1, .int p1, .int p2, .int p3] M (some (.int r.1)) r.2 := by
  exact C_X7_lots p1 p2 p3 M r h
def sm_lots (Inv : tr_M → tr_M → Prop) : Prop := ∀ (M1 M2 : tr_M) (p1 : Int32) (p2 : Int32) (p3 : Int32), Inv M1 M2 → ∃ (r : Int32) (N1 N2 : tr_M), wX6_lots p1 p2 p3 M1 = some (r, N1) ∧ wX7_lots p1 p2 p3 M2 = some (r, N2) ∧ Inv N1 N2
def wX6_average  (M : tr_M) : Option (Int32 × tr_M) := mX6_average M
theorem CW_X6_average  (M : tr_M) (r : Int32 × tr_M) (h : wX6_average  M = some r) : tr_I yX6_average xX6_average [.ref 1] M (some (.int r.1)) r.2 := by
  exact C_X6_average  M r h
def wX7_average  (M : tr_M) : Option (Int32 × tr_M) := mX7_average M
theorem CW_X7_average  (M : tr_M) (r : Int32 × tr_M) (h : wX7_average  M = some r) : tr_I yX7_average xX7_average [.ref 1] M (some (.int r.1)) r.2 := by
  exact C_X7_average  M r h
def sm_average (Inv : tr_M → tr_M → Prop) : Prop := ∀ (M1 M2 : tr_M) , Inv M1 M2 → ∃ (r : Int32) (N1 N2 : tr_M), wX6_average  M1 = some (r, N1) ∧ wX7_average  M2 = some (r, N2) ∧ Inv N1 N2
def wX6_image (p1 : Int32) (M : tr_M) : Option (Int32 × tr_M) := mX6_image p1 M
theorem CW_X6_image (p1 : Int32) (M : tr_M) (r : Int32 × tr_M) (h : wX6_image p1 M = some r) : tr_I yX6_image xX6_image [.ref 1, .int p1] M (some (.int r.1)) r.2 := by
  exact C_X6_image p1 M r h
def wX7_image (p1 : Int32) (M : tr_M) : Option (Int32 × tr_M) := mX7_image p1 M
theorem CW_X7_image (p1 : Int32) (M : tr_M) (r : Int32 × tr_M) (h : wX7_image p1 M = some r) : tr_I yX7_image xX7_image [.ref 1, .int p1] M (some (.int r.1)) r.2 := by
  exact C_X7_image p1 M r h
def sm_image (Inv : tr_M → tr_M → Prop) : Prop := ∀ (M1 M2 : tr_M) (p1 : Int32), Inv M1 M2 → ∃ (r : Int32) (N1 N2 : tr_M), wX6_image p1 M1 = some (r, N1) ∧ wX7_image p1 M2 = some (r, N2) ∧ Inv N1 N2
def wX6_on (p1 : Int32) (M : tr_M) : Option (Int32 × tr_M) := mX6_on p1 M
theorem CW_X6_on (p1 : Int32) (M : tr_M) (r : Int32 × tr_M) (h : wX6_on p1 M = some r) : tr_I yX6_on xX6_on [.ref 1, .int p1] M (some (.int r.1)) r.2 := by
  exact C_X6_on p1 M r h
def wX7_on (p1 : Int32) (M : tr_M) : Option (Int32 × tr_M) := mX7_on p1 M
theorem CW_X7_on (p1 : Int32) (M : tr_M) (r : Int32 × tr_M) (h : wX7_on p1 M = some r) : tr_I yX7_on xX7_on [.ref 1, .int p1] M (some (.int r.1)) r.2 := by
  exact C_X7_on p1 M r h
def sm_on (Inv : tr_M → tr_M → Prop) : Prop := ∀ (M1 M2 : tr_M) (p1 : Int32), Inv M1 M2 → ∃ (r : Int32) (N1 N2 : tr_M), wX6_on p1 M1 = some (r, N1) ∧ wX7_on p1 M2 = some (r, N2) ∧ Inv N1 N2
def wX6_asked  (M : tr_M) : Option (Int32 × tr_M) := some (mX6_asked M, M)
theorem CW_X6_asked  (M : tr_M) (r : Int32 × tr_M) (h : wX6_asked  M = some r) : tr_I yX6_asked xX6_asked [.ref 1] M (some (.int r.1)) r.2 := by
  cases h
  exact C_X6_asked  M
def wX7_asked  (M : tr_M) : Option (Int32 × tr_M) := some (mX7_asked M, M)
theorem CW_X7_asked  (M : tr_M) (r : Int32 × tr_M) (h : wX7_asked  M = some r) : tr_I yX7_asked xX7_asked [.ref 1] M (some (.int r.1)) r.2 := by
  cases h
  exact C_X7_asked  M
def sm_asked (Inv : tr_M → tr_M → Prop) : Prop := ∀ (M1 M2 : tr_M) , Inv M1 M2 → ∃ (r : Int32) (N1 N2 : tr_M), wX6_asked  M1 = some (r, N1) ∧ wX7_asked  M2 = some (r, N2) ∧ Inv N1 N2
def wX6_upper  (M : tr_M) : Option (Int64 × tr_M) := some (mX6_upper M, M)
theorem CW_X6_upper  (M : tr_M) (r : Int64 × tr_M) (h : wX6_upper  M = some r) : tr_I yX6_upper xX6_upper [.ref 1] M (some (.long r.1)) r.2 := by
  cases h
  exact C_X6_upper  M
def wX7_upper  (M : tr_M) : Option (Int64 × tr_M) := some (mX7_upper M, M)
theorem CW_X7_upper  (M : tr_M) (r : Int64 × tr_M) (h : wX7_upper  M = some r) : tr_I yX7_upper xX7_upper [.ref 1] M (some (.long r.1)) r.2 := by
  cases h
  exact C_X7_upper  M
def sm_upper (Inv : tr_M → tr_M → Prop) : Prop := ∀ (M1 M2 : tr_M) , Inv M1 M2 → ∃ (r : Int64) (N1 N2 : tr_M), wX6_upper  M1 = some (r, N1) ∧ wX7_upper  M2 = some (r, N2) ∧ Inv N1 N2
def wX6_lower  (M : tr_M) : Option (Int64 × tr_M) := some (mX6_lower M, M)
theorem CW_X6_lower  (M : tr_M) (r : Int64 × tr_M) (h : wX6_lower  M = some r) : tr_I yX6_lower xX6_lower [.ref 1] M (some (.long r.1)) r.2 := by
  cases h
  exact C_X6_lower  M
def wX7_lower  (M : tr_M) : Option (Int64 × tr_M) := some (mX7_lower M, M)
theorem CW_X7_lower  (M : tr_M) (r : Int64 × tr_M) (h : wX7_lower  M = some r) : tr_I yX7_lower xX7_lower [.ref 1] M (some (.long r.1)) r.2 := by
  cases h
  exact C_X7_lower  M
def sm_lower (Inv : tr_M → tr_M → Prop) : Prop := ∀ (M1 M2 : tr_M) , Inv M1 M2 → ∃ (r : Int64) (N1 N2 : tr_M), wX6_lower  M1 = some (r, N1) ∧ wX7_lower  M2 = some (r, N2) ∧ Inv N1 N2
def wX6_count (p1 : Int32) (M : tr_M) : Option (Int32 × tr_M) := Option.map (fun v => (v, M)) (mX6_count p1 M)
theorem CW_X6_count (p1 : Int32) (M : tr_M) (r : Int32 × tr_M) (h : wX6_count p1 M = some r) : tr_I yX6_count xX6_count [.ref 1, .int p1] M (some (.int r.1)) r.2 := by
  obtain ⟨v, h1, rfl⟩ := Option.map_eq_some_iff.mp h
  exact C_X6_count p1 M v h1
def wX7_count (p1 : Int32) (M : tr_M) : Option (Int32 × tr_M) := Option.map (fun v => (v, M)) (mX7_count p1 M)
theorem CW_X7_count (p1 : Int32) (M : tr_M) (r : Int32 × tr_M) (h : wX7_count p1 M = some r) : tr_I yX7_count xX7_count [.ref 1, .int p1] M (some (.int r.1)) r.2 := by
  obtain ⟨v, h1, rfl⟩ := Option.map_eq_some_iff.mp h
  exact C_X7_count p1 M v h1
def sm_count (Inv : tr_M → tr_M → Prop) : Prop := ∀ (M1 M2 : tr_M) (p1 : Int32), Inv M1 M2 → ∃ (r : Int32) (N1 N2 : tr_M), wX6_count p1 M1 = some (r, N1) ∧ wX7_count p1 M2 = some (r, N2) ∧ Inv N1 N2
def wX6_finding  (M : tr_M) : Option (Int32 × tr_M) := some (mX6_finding M, M)
theorem CW_X6_finding  (M : tr_M) (r : Int32 × tr_M) (h : wX6_finding  M = some r) : tr_I yX6_finding xX6_finding [.ref 1] M (some (.int r.1)) r.2 := by
  cases h
  exact C_X6_finding  M
def wX7_finding  (M : tr_M) : Option (Int32 × tr_M) := some (mX7_finding M, M)
theorem CW_X7_finding  (M : tr_M) (r : Int32 × tr_M) (h : wX7_finding  M = some r) : tr_I yX7_finding xX7_finding [.ref 1] M (some (.int r.1)) r.2 := by
  cases h
  exact C_X7_finding  M
def sm_finding (Inv : tr_M → tr_M → Prop) : Prop := ∀ (M1 M2 : tr_M) , Inv M1 M2 → ∃ (r : Int32) (N1 N2 : tr_M), wX6_finding  M1 = some (r, N1) ∧ wX7_finding  M2 = some (r, N2) ∧ Inv N1 N2
def wX6_findings (p1 : Int32) (M : tr_M) : Option (Int32 × tr_M) := Option.map (fun v => (v, M)) (mX6_findings p1 M)
theorem CW_X6_findings (p1 : Int32) (M : tr_M) (r : Int32 × tr_M) (h : wX6_findings p1 M = some r) : tr_I yX6_findings xX6_findings [.ref 1, .int p1] M (some (.int r.1)) r.2 := by
  obtain ⟨v, h1, rfl⟩ := Option.map_eq_some_iff.mp h
  exact C_X6_findings p1 M v h1
def wX7_findings (p1 : Int32) (M : tr_M) : Option (Int32 × tr_M) := Option.map (fun v => (v, M)) (mX7_findings p1 M)
theorem CW_X7_findings (p1 : Int32) (M : tr_M) (r : Int32 × tr_M) (h : wX7_findings p1 M = some r) : tr_I yX7_findings xX7_findings [.ref 1, .int p1] M (some (.int r.1)) r.2 := by
  obtain ⟨v, h1, rfl⟩ := Option.map_eq_some_iff.mp h
  exact C_X7_findings p1 M v h1
def sm_findings (Inv : tr_M → tr_M → Prop) : Prop := ∀ (M1 M2 : tr_M) (p1 : Int32), Inv M1 M2 → ∃ (r : Int32) (N1 N2 : tr_M), wX6_findings p1 M1 = some (r, N1) ∧ wX7_findings p1 M2 = some (r, N2) ∧ Inv N1 N2
def wX6_digest  (M : tr_M) : Option (Int64 × tr_M) := Option.map (fun v => (v, M)) (mX6_digest M)
theorem CW_X6_digest  (M : tr_M) (r : Int64 × tr_M) (h : wX6_digest  M = some r) : tr_I yX6_digest xX6_digest [.ref 1] M (some (.long r.1)) r.2 := by
  obtain ⟨v, h1, rfl⟩ := Option.map_eq_some_iff.mp h
  exact C_X6_digest  M v h1
def wX7_digest  (M : tr_M) : Option (Int64 × tr_M) := mX7_digest M
theorem CW_X7_digest  (M : tr_M) (r : Int64 × tr_M) (h : wX7_digest  M = some r) : tr_I yX7_digest xX7_digest [.ref 1] M (some (.long r.1)) r.2 := by
  exact C_X7_digest  M r h
def sm_digest (Inv : tr_M → tr_M → Prop) : Prop := ∀ (M1 M2 : tr_M) , Inv M1 M2 → ∃ (r : Int64) (N1 N2 : tr_M), wX6_digest  M1 = some (r, N1) ∧ wX7_digest  M2 = some (r, N2) ∧ Inv N1 N2
/-- each call answers alike on both sides, and keeps what ties them -/
def tr_same (Inv : tr_M → tr_M → Prop) : Prop := sm_row Inv ∧ sm_lay Inv ∧ sm_at Inv ∧ sm_tear Inv ∧ sm_copy Inv ∧ sm_mean Inv ∧ sm_text Inv ∧ sm_put Inv ∧ sm_fault Inv ∧ sm_world Inv ∧ sm_tie Inv ∧ sm_rule Inv ∧ sm_off Inv ∧ sm_back Inv ∧ sm_told Inv ∧ sm_mark Inv ∧ sm_measure Inv ∧ sm_breaks Inv ∧ sm_gap Inv ∧ sm_least Inv ∧ sm_first Inv ∧ sm_ways Inv ∧ sm_rank Inv ∧ sm_order Inv ∧ sm_all Inv ∧ sm_bound Inv ∧ sm_costs Inv ∧ sm_bars Inv ∧ sm_where Inv ∧ sm_places Inv ∧ sm_middle Inv ∧ sm_leads Inv ∧ sm_both Inv ∧ sm_must Inv ∧ sm_swaps Inv ∧ sm_moves Inv ∧ sm_apart Inv ∧ sm_draw Inv ∧ sm_lots Inv ∧ sm_average Inv ∧ sm_image Inv ∧ sm_on Inv ∧ sm_asked Inv ∧ sm_upper Inv ∧ sm_lower Inv ∧ sm_count Inv ∧ sm_finding Inv ∧ sm_findings Inv ∧ sm_digest Inv
