theorem w_objI : Cond.instanceMethod Lib.objectInit ∈ tr_tbl := tr_in 148 (by decide +kernel) rfl
theorem w_objC : Cond.code Lib.objectInit ⟨#[0xb1]⟩ 1 none ∈ tr_tbl := tr_in 149 (by decide +kernel) rfl
theorem w_ac_int : Cond.arrayClass .int ∈ tr_tbl := tr_in 209 (by decide +kernel) rfl
theorem w_ac_byte : Cond.arrayClass .byte ∈ tr_tbl := tr_in 1261 (by decide +kernel) rfl
theorem w_ac_boolean : Cond.arrayClass .boolean ∈ tr_tbl := tr_in 1262 (by decide +kernel) rfl
theorem in_X0 : Cond.initialized RX0 ∈ tr_tbl := tr_in 133 (by decide +kernel) rfl
theorem pn_X0 : plainName RX0 = true := by decide +kernel
theorem ia_X6 : Cond.instantiable RX6 17 ∈ tr_tbl := tr_in 143 (by decide +kernel) rfl
theorem cl_X6_9 : Cond.classLink RX6 9 RX1 ∈ tr_tbl := tr_in 150 (by decide +kernel) rfl
theorem cl_X6_18 : Cond.classLink RX6 18 RX3 ∈ tr_tbl := tr_in 152 (by decide +kernel) rfl
theorem ia_X3 : Cond.instantiable RX3 3 ∈ tr_tbl := tr_in 153 (by decide +kernel) rfl
theorem cl_X3_9 : Cond.classLink RX3 9 RX5 ∈ tr_tbl := tr_in 158 (by decide +kernel) rfl
theorem ia_X5 : Cond.instantiable RX5 11 ∈ tr_tbl := tr_in 159 (by decide +kernel) rfl
theorem cl_X5_21 : Cond.classLink RX5 21 ("[" ++ (FieldType.array .int).toString) ∈ tr_tbl := tr_in 164 (by decide +kernel) rfl
theorem cl_X6_25 : Cond.classLink RX6 25 RX2 ∈ tr_tbl := tr_in 221 (by decide +kernel) rfl
theorem ia_X2 : Cond.instantiable RX2 9 ∈ tr_tbl := tr_in 222 (by decide +kernel) rfl
theorem cl_X2_9 : Cond.classLink RX2 9 RX4 ∈ tr_tbl := tr_in 230 (by decide +kernel) rfl
theorem ia_X4 : Cond.instantiable RX4 15 ∈ tr_tbl := tr_in 231 (by decide +kernel) rfl
theorem cl_X4_9 : Cond.classLink RX4 9 RX5 ∈ tr_tbl := tr_in 236 (by decide +kernel) rfl
theorem ia_X1 : Cond.instantiable RX1 2 ∈ tr_tbl := tr_in 318 (by decide +kernel) rfl
theorem ia_X7 : Cond.instantiable RX7 38 ∈ tr_tbl := tr_in 1141 (by decide +kernel) rfl
theorem ml_X6_3 : Cond.methodLink RX6 3 Lib.objectInit ∈ tr_tbl := tr_in 147 (by decide +kernel) rfl
theorem ml_X6_81 : Cond.methodLink RX6 81 yX1_init ∈ tr_tbl := tr_in 319 (by decide +kernel) rfl
theorem ml_X0_1 : Cond.methodLink RX0 1 Lib.objectInit ∈ tr_tbl := tr_in 229 (by decide +kernel) rfl
theorem ml_X1_3 : Cond.methodLink RX1 3 Lib.objectInit ∈ tr_tbl := tr_in 322 (by decide +kernel) rfl
theorem ml_X3_3 : Cond.methodLink RX3 3 Lib.objectInit ∈ tr_tbl := tr_in 157 (by decide +kernel) rfl
theorem ml_X5_3 : Cond.methodLink RX5 3 Lib.objectInit ∈ tr_tbl := tr_in 163 (by decide +kernel) rfl
theorem ml_X7_1 : Cond.methodLink RX7 1 Lib.objectInit ∈ tr_tbl := tr_in 1145 (by decide +kernel) rfl
theorem cw_X0_init : Cond.code yX0_init cX0_init 1 none ∈ tr_tbl := tr_in 228 (by decide +kernel) rfl
theorem im_X0_init : Cond.instanceMethod yX0_init ∈ tr_tbl := tr_in 227 (by decide +kernel) rfl
theorem cw_X1_init : Cond.code yX1_init cX1_init 2 none ∈ tr_tbl := tr_in 321 (by decide +kernel) rfl
theorem im_X1_init : Cond.instanceMethod yX1_init ∈ tr_tbl := tr_in 320 (by decide +kernel) rfl
theorem cw_X2_init : Cond.code yX2_init cX2_init 1 none ∈ tr_tbl := tr_in 225 (by decide +kernel) rfl
theorem im_X2_init : Cond.instanceMethod yX2_init ∈ tr_tbl := tr_in 224 (by decide +kernel) rfl
theorem cw_X3_init : Cond.code yX3_init cX3_init 1 none ∈ tr_tbl := tr_in 156 (by decide +kernel) rfl
theorem im_X3_init : Cond.instanceMethod yX3_init ∈ tr_tbl := tr_in 155 (by decide +kernel) rfl
theorem cw_X4_init : Cond.code yX4_init cX4_init 1 none ∈ tr_tbl := tr_in 234 (by decide +kernel) rfl
theorem im_X4_init : Cond.instanceMethod yX4_init ∈ tr_tbl := tr_in 233 (by decide +kernel) rfl
theorem cw_X5_init : Cond.code yX5_init cX5_init 1 none ∈ tr_tbl := tr_in 162 (by decide +kernel) rfl
theorem im_X5_init : Cond.instanceMethod yX5_init ∈ tr_tbl := tr_in 161 (by decide +kernel) rfl
theorem cw_X6_init : Cond.code yX6_init cX6_init 2 none ∈ tr_tbl := tr_in 146 (by decide +kernel) rfl
theorem im_X6_init : Cond.instanceMethod yX6_init ∈ tr_tbl := tr_in 145 (by decide +kernel) rfl
theorem cw_X7_init : Cond.code yX7_init cX7_init 2 none ∈ tr_tbl := tr_in 1144 (by decide +kernel) rfl
theorem im_X7_init : Cond.instanceMethod yX7_init ∈ tr_tbl := tr_in 1143 (by decide +kernel) rfl
theorem nt_X6_20 : (RX6, 20, yX3_init) ∈ tr_nest := by decide +kernel
theorem nt_X6_27 : (RX6, 27, yX2_init) ∈ tr_nest := by decide +kernel
theorem nt_X2_3 : (RX2, 3, yX0_init) ∈ tr_nest := by decide +kernel
theorem nt_X2_11 : (RX2, 11, yX4_init) ∈ tr_nest := by decide +kernel
theorem nt_X3_11 : (RX3, 11, yX5_init) ∈ tr_nest := by decide +kernel
theorem nt_X4_3 : (RX4, 3, yX0_init) ∈ tr_nest := by decide +kernel
theorem nt_X4_11 : (RX4, 11, yX5_init) ∈ tr_nest := by decide +kernel
theorem bl_X1 : ∀ (B j : Nat), j < 2 → defaultValue (tyX1 j) = vp_V (([.ref 0, .int 0] : List Value).map (tr_v B)) j := fun B j hj => by
  rcases (show j = 0 ∨ j = 1 by omega) with rfl | rfl <;> rfl
theorem bl_X2 : ∀ (B j : Nat), j < 9 → defaultValue (tyX2 j) = vp_V (([.ref 0, .ref 0, .ref 0, .int 0, .int 0, .int 0, .int 0, .ref 0, .ref 0] : List Value).map (tr_v B)) j := fun B j hj => by
  rcases (show j = 0 ∨ j = 1 ∨ j = 2 ∨ j = 3 ∨ j = 4 ∨ j = 5 ∨ j = 6 ∨ j = 7 ∨ j = 8 by omega) with rfl | rfl | rfl | rfl | rfl | rfl | rfl | rfl | rfl <;> rfl
theorem bl_X3 : ∀ (B j : Nat), j < 3 → defaultValue (tyX3 j) = vp_V (([.ref 0, .ref 0, .int 0] : List Value).map (tr_v B)) j := fun B j hj => by
  rcases (show j = 0 ∨ j = 1 ∨ j = 2 by omega) with rfl | rfl | rfl <;> rfl
theorem bl_X4 : ∀ (B j : Nat), j < 15 → defaultValue (tyX4 j) = vp_V (([.ref 0, .ref 0, .ref 0, .ref 0, .ref 0, .ref 0, .ref 0, .ref 0, .ref 0, .ref 0, .int 0, .int 0, .int 0, .int 0, .int 0] : List Value).map (tr_v B)) j := fun B j hj => by
  rcases (show j = 0 ∨ j = 1 ∨ j = 2 ∨ j = 3 ∨ j = 4 ∨ j = 5 ∨ j = 6 ∨ j = 7 ∨ j = 8 ∨ j = 9 ∨ j = 10 ∨ j = 11 ∨ j = 12 ∨ j = 13 ∨ j = 14 by omega) with rfl | rfl | rfl | rfl | rfl | rfl | rfl | rfl | rfl | rfl | rfl | rfl | rfl | rfl | rfl <;> rfl
theorem bl_X5 : ∀ (B j : Nat), j < 11 → defaultValue (tyX5 j) = vp_V (([.int 0, .int 0, .int 0, .ref 0, .ref 0, .ref 0, .ref 0, .ref 0, .ref 0, .ref 0, .ref 0] : List Value).map (tr_v B)) j := fun B j hj => by
  rcases (show j = 0 ∨ j = 1 ∨ j = 2 ∨ j = 3 ∨ j = 4 ∨ j = 5 ∨ j = 6 ∨ j = 7 ∨ j = 8 ∨ j = 9 ∨ j = 10 by omega) with rfl | rfl | rfl | rfl | rfl | rfl | rfl | rfl | rfl | rfl | rfl <;> rfl
theorem bl_X6 : ∀ (B j : Nat), j < 17 → defaultValue (tyX6 j) = vp_V (([.ref 0, .ref 0, .ref 0, .ref 0, .ref 0, .ref 0, .ref 0, .ref 0, .ref 0, .ref 0, .ref 0, .int 0, .int 0, .long 0, .long 0, .int 0, .ref 0] : List Value).map (tr_v B)) j := fun B j hj => by
  rcases (show j = 0 ∨ j = 1 ∨ j = 2 ∨ j = 3 ∨ j = 4 ∨ j = 5 ∨ j = 6 ∨ j = 7 ∨ j = 8 ∨ j = 9 ∨ j = 10 ∨ j = 11 ∨ j = 12 ∨ j = 13 ∨ j = 14 ∨ j = 15 ∨ j = 16 by omega) with rfl | rfl | rfl | rfl | rfl | rfl | rfl | rfl | rfl | rfl | rfl | rfl | rfl | rfl | rfl | rfl | rfl <;> rfl
theorem bl_X7 : ∀ (B j : Nat), j < 38 → defaultValue (tyX7 j) = vp_V (([.int 0, .ref 0, .int 0, .long 0, .long 0, .ref 0, .ref 0, .ref 0, .ref 0, .ref 0, .int 0, .ref 0, .int 0, .ref 0, .int 0, .int 0, .int 0, .int 0, .ref 0, .ref 0, .ref 0, .ref 0, .ref 0, .ref 0, .ref 0, .ref 0, .ref 0, .int 0, .int 0, .int 0, .int 0, .ref 0, .ref 0, .ref 0, .ref 0, .ref 0, .ref 0, .long 0] : List Value).map (tr_v B)) j := fun B j hj => by
  rcases (show j = 0 ∨ j = 1 ∨ j = 2 ∨ j = 3 ∨ j = 4 ∨ j = 5 ∨ j = 6 ∨ j = 7 ∨ j = 8 ∨ j = 9 ∨ j = 10 ∨ j = 11 ∨ j = 12 ∨ j = 13 ∨ j = 14 ∨ j = 15 ∨ j = 16 ∨ j = 17 ∨ j = 18 ∨ j = 19 ∨ j = 20 ∨ j = 21 ∨ j = 22 ∨ j = 23 ∨ j = 24 ∨ j = 25 ∨ j = 26 ∨ j = 27 ∨ j = 28 ∨ j = 29 ∨ j = 30 ∨ j = 31 ∨ j = 32 ∨ j = 33 ∨ j = 34 ∨ j = 35 ∨ j = 36 ∨ j = 37 by omega) with rfl | rfl | rfl | rfl | rfl | rfl | rfl | rfl | rfl | rfl | rfl | rfl | rfl | rfl | rfl | rfl | rfl | rfl | rfl | rfl | rfl | rfl | rfl | rfl | rfl | rfl | rfl | rfl | rfl | rfl | rfl | rfl | rfl | rfl | rfl | rfl | rfl | rfl <;> rfl
theorem ra_int (U : State) (cA : ClassId) (h : va_RA U cA .int) : U.vm.findClass ("[" ++ FieldType.int.toString) = some cA := h
theorem ra_byte (U : State) (cA : ClassId) (h : va_RA U cA .byte) : U.vm.findClass ("[" ++ FieldType.byte.toString) = some cA := h
theorem ra_boolean (U : State) (cA : ClassId) (h : va_RA U cA .boolean) : U.vm.findClass ("[" ++ FieldType.boolean.toString) = some cA := h
theorem tr_U.ren {X : tr_UX} {Wt : tr_UT} {pc : Nat} {lv : tr_L} {st : List Value} {n n1 c1 s1 : Nat} {f g : Nat → tr_K} {cells slots : Nat} (e : g = f) (h1 : n1 = n) (h2 : c1 = cells) (h3 : s1 = slots) (h : tr_U X Wt pc lv st n1 g c1 s1) : tr_U X Wt pc lv st n f cells slots := by
  subst e h1 h2 h3
  exact h
def fX5_5 (f : Nat → tr_K) : Nat → tr_K := (tr_up (tr_up (tr_up (tr_up (tr_up (tr_up (tr_up (tr_up (tr_up (tr_up (tr_up (tr_up (tr_up (tr_up (tr_up (tr_rows (tr_up (tr_up (tr_up f 5 (.inr (.inr (4, (([.int 0, .int 0, .int 0, .ref 0, .ref 0, .ref 0, .ref 0, .ref 0, .ref 0, .ref 0, .ref 0] : List Value).set 0 (.int 0)))))) 5 (.inr (.inr (4, ((([.int 0, .int 0, .int 0, .ref 0, .ref 0, .ref 0, .ref 0, .ref 0, .ref 0, .ref 0, .ref 0] : List Value).set 0 (.int 0)).set 1 (.int 0)))))) 5 (.inr (.inr (4, (((([.int 0, .int 0, .int 0, .ref 0, .ref 0, .ref 0, .ref 0, .ref 0, .ref 0, .ref 0, .ref 0] : List Value).set 0 (.int 0)).set 1 (.int 0)).set 2 (.int 0)))))) 6 10 10) 5 (.inr (.inr (4, ((((([.int 0, .int 0, .int 0, .ref 0, .ref 0, .ref 0, .ref 0, .ref 0, .ref 0, .ref 0, .ref 0] : List Value).set 0 (.int 0)).set 1 (.int 0)).set 2 (.int 0)).set 3 (.ref 6)))))) 17 (.inl (0, 10, fun _ => 0))) 5 (.inr (.inr (4, (((((([.int 0, .int 0, .int 0, .ref 0, .ref 0, .ref 0, .ref 0, .ref 0, .ref 0, .ref 0, .ref 0] : List Value).set 0 (.int 0)).set 1 (.int 0)).set 2 (.int 0)).set 3 (.ref 6)).set 4 (.ref 17)))))) 18 (.inl (0, 10, fun _ => 0))) 5 (.inr (.inr (4, ((((((([.int 0, .int 0, .int 0, .ref 0, .ref 0, .ref 0, .ref 0, .ref 0, .ref 0, .ref 0, .ref 0] : List Value).set 0 (.int 0)).set 1 (.int 0)).set 2 (.int 0)).set 3 (.ref 6)).set 4 (.ref 17)).set 5 (.ref 18)))))) 19 (.inl (0, 8, fun _ => 0))) 5 (.inr (.inr (4, (((((((([.int 0, .int 0, .int 0, .ref 0, .ref 0, .ref 0, .ref 0, .ref 0, .ref 0, .ref 0, .ref 0] : List Value).set 0 (.int 0)).set 1 (.int 0)).set 2 (.int 0)).set 3 (.ref 6)).set 4 (.ref 17)).set 5 (.ref 18)).set 6 (.ref 19)))))) 20 (.inl (0, 8, fun _ => 0))) 5 (.inr (.inr (4, ((((((((([.int 0, .int 0, .int 0, .ref 0, .ref 0, .ref 0, .ref 0, .ref 0, .ref 0, .ref 0, .ref 0] : List Value).set 0 (.int 0)).set 1 (.int 0)).set 2 (.int 0)).set 3 (.ref 6)).set 4 (.ref 17)).set 5 (.ref 18)).set 6 (.ref 19)).set 7 (.ref 20)))))) 21 (.inl (0, 8, fun _ => 0))) 5 (.inr (.inr (4, (((((((((([.int 0, .int 0, .int 0, .ref 0, .ref 0, .ref 0, .ref 0, .ref 0, .ref 0, .ref 0, .ref 0] : List Value).set 0 (.int 0)).set 1 (.int 0)).set 2 (.int 0)).set 3 (.ref 6)).set 4 (.ref 17)).set 5 (.ref 18)).set 6 (.ref 19)).set 7 (.ref 20)).set 8 (.ref 21)))))) 22 (.inl (0, 8, fun _ => 0))) 5 (.inr (.inr (4, ((((((((((([.int 0, .int 0, .int 0, .ref 0, .ref 0, .ref 0, .ref 0, .ref 0, .ref 0, .ref 0, .ref 0] : List Value).set 0 (.int 0)).set 1 (.int 0)).set 2 (.int 0)).set 3 (.ref 6)).set 4 (.ref 17)).set 5 (.ref 18)).set 6 (.ref 19)).set 7 (.ref 20)).set 8 (.ref 21)).set 9 (.ref 22)))))) 23 (.inl (0, 10, fun _ => 0))) 5 (.inr (.inr (4, (((((((((((([.int 0, .int 0, .int 0, .ref 0, .ref 0, .ref 0, .ref 0, .ref 0, .ref 0, .ref 0, .ref 0] : List Value).set 0 (.int 0)).set 1 (.int 0)).set 2 (.int 0)).set 3 (.ref 6)).set 4 (.ref 17)).set 5 (.ref 18)).set 6 (.ref 19)).set 7 (.ref 20)).set 8 (.ref 21)).set 9 (.ref 22)).set 10 (.ref 23))))))
abbrev uX5_5 (f : Nat → tr_K) : tr_UX := (cX5_init, 1, RX5, 1, 18, 172, 5, 23, fX5_5 f)
set_option maxRecDepth 100000 in
set_option maxHeartbeats 4000000 in
theorem J_X5_5 (f : Nat → tr_K) (hf : f 5 = .inr (.inr (4, [.int 0, .int 0, .int 0, .ref 0, .ref 0, .ref 0, .ref 0, .ref 0, .ref 0, .ref 0, .ref 0]))) : tr_J yX5_init (uX5_5 f) [.ref 5] 5 f := by
  refine tr_J.of pn_X5 rfl rfl rfl (Nat.le_of_ble_eq_true rfl) (fun Wt => ?_)
  refine tr_U.aload_n (i := 0) dX5_init_0 rfl rfl (Nat.succ_pos _) ?_
  refine tr_U.objInit (Nat.succ_pos _) ml_X5_3 w_objI w_objC (Nat.le_of_ble_eq_true rfl) (Nat.le_of_ble_eq_true rfl) dX5_init_1 ?_
  refine tr_U.aload_n (i := 0) dX5_init_4 rfl rfl (Nat.succ_pos _) ?_
  refine tr_U.iconst (v := (0 : Int32)) dX5_init_5 (by decide) ?_
  refine tr_U.put fl_X5_9 (Nat.succ_pos _) (Nat.le_of_ble_eq_true rfl) hf (fun _ => ⟨rfl, rfl⟩) (Nat.le_of_ble_eq_true rfl) dX5_init_6 ?_
  refine tr_U.aload_n (i := 0) dX5_init_9 rfl rfl (Nat.succ_pos _) ?_
  refine tr_U.iconst (v := (0 : Int32)) dX5_init_10 (by decide) ?_
  refine tr_U.put fl_X5_15 (Nat.succ_pos _) (Nat.le_of_ble_eq_true rfl) rfl (fun _ => ⟨rfl, rfl⟩) (Nat.le_of_ble_eq_true rfl) dX5_init_11 ?_
  refine tr_U.aload_n (i := 0) dX5_init_14 rfl rfl (Nat.succ_pos _) ?_
  refine tr_U.iconst (v := (0 : Int32)) dX5_init_15 (by decide) ?_
  refine tr_U.put fl_X5_18 (Nat.succ_pos _) (Nat.le_of_ble_eq_true rfl) rfl (fun _ => ⟨rfl, rfl⟩) (Nat.le_of_ble_eq_true rfl) dX5_init_16 ?_
  refine tr_U.aload_n (i := 0) dX5_init_19 rfl rfl (Nat.succ_pos _) ?_
  refine tr_U.bipush (v := (10 : Int32)) dX5_init_20 (by decide) ?_
  refine tr_U.bipush (v := (10 : Int32)) dX5_init_22 (by decide) ?_
  refine tr_U.newm (N := 10) (K := 10) cl_X5_21 w_ac_int (by decide) (by decide) (by decide) (by decide) (by decide) (by decide) ⟨Nat.le_of_ble_eq_true rfl, Nat.le_of_ble_eq_true rfl⟩ ⟨rfl, Nat.succ_pos _, rfl⟩ dX5_init_24 ?_
  refine tr_U.putF fl_X5_23 (Nat.succ_pos _) (Nat.le_of_ble_eq_true rfl) rfl (fun _ => ⟨rfl, rfl⟩) (Nat.le_of_ble_eq_true rfl) (fun _ _ _ h => by cases h; rfl) dX5_init_28 ?_
  refine tr_U.aload_n (i := 0) dX5_init_31 rfl rfl (Nat.succ_pos _) ?_
  refine tr_U.bipush (v := (10 : Int32)) dX5_init_32 (by decide) ?_
  refine tr_U.newa (t := 0) (N := 10) (ty := .int) rfl w_ac_int (fun _ => rfl) rfl ra_int (by decide) (by decide) (by decide) ⟨Nat.le_of_ble_eq_true rfl, Nat.le_of_ble_eq_true rfl⟩ ⟨rfl, Nat.succ_pos _, rfl⟩ dX5_init_34 ?_
  refine tr_U.putF fl_X5_26 (Nat.succ_pos _) (Nat.le_of_ble_eq_true rfl) rfl (fun _ => ⟨rfl, rfl⟩) (Nat.le_of_ble_eq_true rfl) (fun _ _ _ h => by cases h; rfl) dX5_init_36 ?_
  refine tr_U.aload_n (i := 0) dX5_init_39 rfl rfl (Nat.succ_pos _) ?_
  refine tr_U.bipush (v := (10 : Int32)) dX5_init_40 (by decide) ?_
  refine tr_U.newa (t := 0) (N := 10) (ty := .int) rfl w_ac_int (fun _ => rfl) rfl ra_int (by decide) (by decide) (by decide) ⟨Nat.le_of_ble_eq_true rfl, Nat.le_of_ble_eq_true rfl⟩ ⟨rfl, Nat.succ_pos _, rfl⟩ dX5_init_42 ?_
  refine tr_U.putF fl_X5_30 (Nat.succ_pos _) (Nat.le_of_ble_eq_true rfl) rfl (fun _ => ⟨rfl, rfl⟩) (Nat.le_of_ble_eq_true rfl) (fun _ _ _ h => by cases h; rfl) dX5_init_44 ?_
  refine tr_U.aload_n (i := 0) dX5_init_47 rfl rfl (Nat.succ_pos _) ?_
  refine tr_U.bipush (v := (8 : Int32)) dX5_init_48 (by decide) ?_
  refine tr_U.newa (t := 0) (N := 8) (ty := .int) rfl w_ac_int (fun _ => rfl) rfl ra_int (by decide) (by decide) (by decide) ⟨Nat.le_of_ble_eq_true rfl, Nat.le_of_ble_eq_true rfl⟩ ⟨rfl, Nat.succ_pos _, rfl⟩ dX5_init_50 ?_
  refine tr_U.putF fl_X5_33 (Nat.succ_pos _) (Nat.le_of_ble_eq_true rfl) rfl (fun _ => ⟨rfl, rfl⟩) (Nat.le_of_ble_eq_true rfl) (fun _ _ _ h => by cases h; rfl) dX5_init_52 ?_
  refine tr_U.aload_n (i := 0) dX5_init_55 rfl rfl (Nat.succ_pos _) ?_
  refine tr_U.bipush (v := (8 : Int32)) dX5_init_56 (by decide) ?_
  refine tr_U.newa (t := 0) (N := 8) (ty := .int) rfl w_ac_int (fun _ => rfl) rfl ra_int (by decide) (by decide) (by decide) ⟨Nat.le_of_ble_eq_true rfl, Nat.le_of_ble_eq_true rfl⟩ ⟨rfl, Nat.succ_pos _, rfl⟩ dX5_init_58 ?_
  refine tr_U.putF fl_X5_36 (Nat.succ_pos _) (Nat.le_of_ble_eq_true rfl) rfl (fun _ => ⟨rfl, rfl⟩) (Nat.le_of_ble_eq_true rfl) (fun _ _ _ h => by cases h; rfl) dX5_init_60 ?_
  refine tr_U.aload_n (i := 0) dX5_init_63 rfl rfl (Nat.succ_pos _) ?_
  refine tr_U.bipush (v := (8 : Int32)) dX5_init_64 (by decide) ?_
  refine tr_U.newa (t := 0) (N := 8) (ty := .int) rfl w_ac_int (fun _ => rfl) rfl ra_int (by decide) (by decide) (by decide) ⟨Nat.le_of_ble_eq_true rfl, Nat.le_of_ble_eq_true rfl⟩ ⟨rfl, Nat.succ_pos _, rfl⟩ dX5_init_66 ?_
  refine tr_U.putF fl_X5_39 (Nat.succ_pos _) (Nat.le_of_ble_eq_true rfl) rfl (fun _ => ⟨rfl, rfl⟩) (Nat.le_of_ble_eq_true rfl) (fun _ _ _ h => by cases h; rfl) dX5_init_68 ?_
  refine tr_U.aload_n (i := 0) dX5_init_71 rfl rfl (Nat.succ_pos _) ?_
  refine tr_U.bipush (v := (8 : Int32)) dX5_init_72 (by decide) ?_
  refine tr_U.newa (t := 0) (N := 8) (ty := .int) rfl w_ac_int (fun _ => rfl) rfl ra_int (by decide) (by decide) (by decide) ⟨Nat.le_of_ble_eq_true rfl, Nat.le_of_ble_eq_true rfl⟩ ⟨rfl, Nat.succ_pos _, rfl⟩ dX5_init_74 ?_
  refine tr_U.putF fl_X5_42 (Nat.succ_pos _) (Nat.le_of_ble_eq_true rfl) rfl (fun _ => ⟨rfl, rfl⟩) (Nat.le_of_ble_eq_true rfl) (fun _ _ _ h => by cases h; rfl) dX5_init_76 ?_
  refine tr_U.aload_n (i := 0) dX5_init_79 rfl rfl (Nat.succ_pos _) ?_
  refine tr_U.bipush (v := (10 : Int32)) dX5_init_80 (by decide) ?_
  refine tr_U.newa (t := 0) (N := 10) (ty := .int) rfl w_ac_int (fun _ => rfl) rfl ra_int (by decide) (by decide) (by decide) ⟨Nat.le_of_ble_eq_true rfl, Nat.le_of_ble_eq_true rfl⟩ ⟨rfl, Nat.succ_pos _, rfl⟩ dX5_init_82 ?_
  refine tr_U.putF fl_X5_45 (Nat.succ_pos _) (Nat.le_of_ble_eq_true rfl) rfl (fun _ => ⟨rfl, rfl⟩) (Nat.le_of_ble_eq_true rfl) (fun _ _ _ h => by cases h; rfl) dX5_init_84 ?_
  exact tr_U.ret dX5_init_87 ⟨rfl, rfl⟩ ⟨rfl, Nat.succ_pos _⟩ rfl rfl
def fX3_4 (f : Nat → tr_K) : Nat → tr_K := (tr_up (tr_up (tr_up (fX5_5 (tr_up f 5 (.inr (.inr (4, [.int 0, .int 0, .int 0, .ref 0, .ref 0, .ref 0, .ref 0, .ref 0, .ref 0, .ref 0, .ref 0]))))) 4 (.inr (.inr (2, (([.ref 0, .ref 0, .int 0] : List Value).set 0 (.ref 5)))))) 4 (.inr (.inr (2, ((([.ref 0, .ref 0, .int 0] : List Value).set 0 (.ref 5)).set 1 (.ref 0)))))) 4 (.inr (.inr (2, (((([.ref 0, .ref 0, .int 0] : List Value).set 0 (.ref 5)).set 1 (.ref 0)).set 2 (.int 0))))))
abbrev uX3_4 (f : Nat → tr_K) : tr_UX := (cX3_init, 1, RX3, 2, 19, 183, 4, 23, fX3_4 f)
set_option maxRecDepth 100000 in
set_option maxHeartbeats 4000000 in
theorem J_X3_4 (f : Nat → tr_K) (hf : f 4 = .inr (.inr (2, [.ref 0, .ref 0, .int 0]))) : tr_J yX3_init (uX3_4 f) [.ref 4] 4 f := by
  refine tr_J.of pn_X3 rfl rfl rfl (Nat.le_of_ble_eq_true rfl) (fun Wt => ?_)
  refine tr_U.aload_n (i := 0) dX3_init_0 rfl rfl (Nat.succ_pos _) ?_
  refine tr_U.objInit (Nat.succ_pos _) ml_X3_3 w_objI w_objC (Nat.le_of_ble_eq_true rfl) (Nat.le_of_ble_eq_true rfl) dX3_init_1 ?_
  refine tr_U.aload_n (i := 0) dX3_init_4 rfl rfl (Nat.succ_pos _) ?_
  refine tr_U.newc (ci := 4) (vs := [.int 0, .int 0, .int 0, .ref 0, .ref 0, .ref 0, .ref 0, .ref 0, .ref 0, .ref 0, .ref 0]) tyX5 rfl uw_X5 tyX5_ok cl_X3_9 ia_X5 in_X5 bl_X5 ⟨Nat.le_of_ble_eq_true rfl, Nat.le_of_ble_eq_true rfl⟩ ⟨rfl, Nat.succ_pos _, rfl⟩ dX3_init_5 ?_
  refine tr_U.dup rfl dX3_init_8 ?_
  refine tr_U.callI (J_X5_5 _ rfl) cw_X5_init in_X5 ⟨by decide +kernel, by decide +kernel, by decide +kernel⟩ ⟨rfl, im_X5_init⟩ (Or.inr nt_X3_11) (Nat.succ_pos _) ⟨Nat.le_of_ble_eq_true rfl, Nat.le_of_ble_eq_true rfl⟩ rfl (Nat.le_of_ble_eq_true rfl) rfl ⟨Nat.le_of_ble_eq_true rfl, Nat.le_of_ble_eq_true rfl⟩ ⟨rfl, Nat.succ_pos _⟩ dX3_init_9 ?_
  refine tr_U.putF fl_X3_12 (Nat.succ_pos _) (Nat.le_of_ble_eq_true rfl) hf (fun _ => ⟨rfl, rfl⟩) (Nat.le_of_ble_eq_true rfl) (fun _ _ _ h => by cases h; rfl) dX3_init_12 ?_
  refine tr_U.aload_n (i := 0) dX3_init_15 rfl rfl (Nat.succ_pos _) ?_
  refine tr_U.null dX3_init_16 ?_
  refine tr_U.put fl_X3_18 (Nat.succ_pos _) (Nat.le_of_ble_eq_true rfl) rfl (fun _ => ⟨rfl, rfl⟩) (Nat.le_of_ble_eq_true rfl) dX3_init_17 ?_
  refine tr_U.aload_n (i := 0) dX3_init_20 rfl rfl (Nat.succ_pos _) ?_
  refine tr_U.iconst (v := (0 : Int32)) dX3_init_21 (by decide) ?_
  refine tr_U.put fl_X3_22 (Nat.succ_pos _) (Nat.le_of_ble_eq_true rfl) rfl (fun _ => ⟨rfl, rfl⟩) (Nat.le_of_ble_eq_true rfl) dX3_init_22 ?_
  exact tr_U.ret dX3_init_25 ⟨rfl, rfl⟩ ⟨rfl, Nat.succ_pos _⟩ rfl rfl
def fX0_24 (f : Nat → tr_K) : Nat → tr_K := f
abbrev uX0_24 (f : Nat → tr_K) : tr_UX := (cX0_init, 1, RX0, 1, 0, 0, 24, 24, fX0_24 f)
set_option maxRecDepth 100000 in
set_option maxHeartbeats 4000000 in
theorem J_X0_24 (f : Nat → tr_K) : tr_J yX0_init (uX0_24 f) [.ref 24] 24 f := by
  refine tr_J.of pn_X0 rfl rfl rfl (Nat.le_of_ble_eq_true rfl) (fun Wt => ?_)
  refine tr_U.aload_n (i := 0) dX0_init_0 rfl rfl (Nat.succ_pos _) ?_
  refine tr_U.objInit (Nat.succ_pos _) ml_X0_1 w_objI w_objC (Nat.le_of_ble_eq_true rfl) (Nat.le_of_ble_eq_true rfl) dX0_init_1 ?_
  exact tr_U.ret dX0_init_4 ⟨rfl, rfl⟩ ⟨rfl, Nat.succ_pos _⟩ rfl rfl
def fX0_25 (f : Nat → tr_K) : Nat → tr_K := f
abbrev uX0_25 (f : Nat → tr_K) : tr_UX := (cX0_init, 1, RX0, 1, 0, 0, 25, 25, fX0_25 f)
set_option maxRecDepth 100000 in
set_option maxHeartbeats 4000000 in
theorem J_X0_25 (f : Nat → tr_K) : tr_J yX0_init (uX0_25 f) [.ref 25] 25 f := by
  refine tr_J.of pn_X0 rfl rfl rfl (Nat.le_of_ble_eq_true rfl) (fun Wt => ?_)
  refine tr_U.aload_n (i := 0) dX0_init_0 rfl rfl (Nat.succ_pos _) ?_
  refine tr_U.objInit (Nat.succ_pos _) ml_X0_1 w_objI w_objC (Nat.le_of_ble_eq_true rfl) (Nat.le_of_ble_eq_true rfl) dX0_init_1 ?_
  exact tr_U.ret dX0_init_4 ⟨rfl, rfl⟩ ⟨rfl, Nat.succ_pos _⟩ rfl rfl
def fX5_26 (f : Nat → tr_K) : Nat → tr_K := (tr_up (tr_up (tr_up (tr_up (tr_up (tr_up (tr_up (tr_up (tr_up (tr_up (tr_up (tr_up (tr_up (tr_up (tr_up (tr_rows (tr_up (tr_up (tr_up f 26 (.inr (.inr (4, (([.int 0, .int 0, .int 0, .ref 0, .ref 0, .ref 0, .ref 0, .ref 0, .ref 0, .ref 0, .ref 0] : List Value).set 0 (.int 0)))))) 26 (.inr (.inr (4, ((([.int 0, .int 0, .int 0, .ref 0, .ref 0, .ref 0, .ref 0, .ref 0, .ref 0, .ref 0, .ref 0] : List Value).set 0 (.int 0)).set 1 (.int 0)))))) 26 (.inr (.inr (4, (((([.int 0, .int 0, .int 0, .ref 0, .ref 0, .ref 0, .ref 0, .ref 0, .ref 0, .ref 0, .ref 0] : List Value).set 0 (.int 0)).set 1 (.int 0)).set 2 (.int 0)))))) 27 10 10) 26 (.inr (.inr (4, ((((([.int 0, .int 0, .int 0, .ref 0, .ref 0, .ref 0, .ref 0, .ref 0, .ref 0, .ref 0, .ref 0] : List Value).set 0 (.int 0)).set 1 (.int 0)).set 2 (.int 0)).set 3 (.ref 27)))))) 38 (.inl (0, 10, fun _ => 0))) 26 (.inr (.inr (4, (((((([.int 0, .int 0, .int 0, .ref 0, .ref 0, .ref 0, .ref 0, .ref 0, .ref 0, .ref 0, .ref 0] : List Value).set 0 (.int 0)).set 1 (.int 0)).set 2 (.int 0)).set 3 (.ref 27)).set 4 (.ref 38)))))) 39 (.inl (0, 10, fun _ => 0))) 26 (.inr (.inr (4, ((((((([.int 0, .int 0, .int 0, .ref 0, .ref 0, .ref 0, .ref 0, .ref 0, .ref 0, .ref 0, .ref 0] : List Value).set 0 (.int 0)).set 1 (.int 0)).set 2 (.int 0)).set 3 (.ref 27)).set 4 (.ref 38)).set 5 (.ref 39)))))) 40 (.inl (0, 8, fun _ => 0))) 26 (.inr (.inr (4, (((((((([.int 0, .int 0, .int 0, .ref 0, .ref 0, .ref 0, .ref 0, .ref 0, .ref 0, .ref 0, .ref 0] : List Value).set 0 (.int 0)).set 1 (.int 0)).set 2 (.int 0)).set 3 (.ref 27)).set 4 (.ref 38)).set 5 (.ref 39)).set 6 (.ref 40)))))) 41 (.inl (0, 8, fun _ => 0))) 26 (.inr (.inr (4, ((((((((([.int 0, .int 0, .int 0, .ref 0, .ref 0, .ref 0, .ref 0, .ref 0, .ref 0, .ref 0, .ref 0] : List Value).set 0 (.int 0)).set 1 (.int 0)).set 2 (.int 0)).set 3 (.ref 27)).set 4 (.ref 38)).set 5 (.ref 39)).set 6 (.ref 40)).set 7 (.ref 41)))))) 42 (.inl (0, 8, fun _ => 0))) 26 (.inr (.inr (4, (((((((((([.int 0, .int 0, .int 0, .ref 0, .ref 0, .ref 0, .ref 0, .ref 0, .ref 0, .ref 0, .ref 0] : List Value).set 0 (.int 0)).set 1 (.int 0)).set 2 (.int 0)).set 3 (.ref 27)).set 4 (.ref 38)).set 5 (.ref 39)).set 6 (.ref 40)).set 7 (.ref 41)).set 8 (.ref 42)))))) 43 (.inl (0, 8, fun _ => 0))) 26 (.inr (.inr (4, ((((((((((([.int 0, .int 0, .int 0, .ref 0, .ref 0, .ref 0, .ref 0, .ref 0, .ref 0, .ref 0, .ref 0] : List Value).set 0 (.int 0)).set 1 (.int 0)).set 2 (.int 0)).set 3 (.ref 27)).set 4 (.ref 38)).set 5 (.ref 39)).set 6 (.ref 40)).set 7 (.ref 41)).set 8 (.ref 42)).set 9 (.ref 43)))))) 44 (.inl (0, 10, fun _ => 0))) 26 (.inr (.inr (4, (((((((((((([.int 0, .int 0, .int 0, .ref 0, .ref 0, .ref 0, .ref 0, .ref 0, .ref 0, .ref 0, .ref 0] : List Value).set 0 (.int 0)).set 1 (.int 0)).set 2 (.int 0)).set 3 (.ref 27)).set 4 (.ref 38)).set 5 (.ref 39)).set 6 (.ref 40)).set 7 (.ref 41)).set 8 (.ref 42)).set 9 (.ref 43)).set 10 (.ref 44))))))
abbrev uX5_26 (f : Nat → tr_K) : tr_UX := (cX5_init, 1, RX5, 1, 18, 172, 26, 44, fX5_26 f)
set_option maxRecDepth 100000 in
set_option maxHeartbeats 4000000 in
theorem J_X5_26 (f : Nat → tr_K) (hf : f 26 = .inr (.inr (4, [.int 0, .int 0, .int 0, .ref 0, .ref 0, .ref 0, .ref 0, .ref 0, .ref 0, .ref 0, .ref 0]))) : tr_J yX5_init (uX5_26 f) [.ref 26] 26 f := by
  refine tr_J.of pn_X5 rfl rfl rfl (Nat.le_of_ble_eq_true rfl) (fun Wt => ?_)
  refine tr_U.aload_n (i := 0) dX5_init_0 rfl rfl (Nat.succ_pos _) ?_
  refine tr_U.objInit (Nat.succ_pos _) ml_X5_3 w_objI w_objC (Nat.le_of_ble_eq_true rfl) (Nat.le_of_ble_eq_true rfl) dX5_init_1 ?_
  refine tr_U.aload_n (i := 0) dX5_init_4 rfl rfl (Nat.succ_pos _) ?_
  refine tr_U.iconst (v := (0 : Int32)) dX5_init_5 (by decide) ?_
  refine tr_U.put fl_X5_9 (Nat.succ_pos _) (Nat.le_of_ble_eq_true rfl) hf (fun _ => ⟨rfl, rfl⟩) (Nat.le_of_ble_eq_true rfl) dX5_init_6 ?_
  refine tr_U.aload_n (i := 0) dX5_init_9 rfl rfl (Nat.succ_pos _) ?_
  refine tr_U.iconst (v := (0 : Int32)) dX5_init_10 (by decide) ?_
  refine tr_U.put fl_X5_15 (Nat.succ_pos _) (Nat.le_of_ble_eq_true rfl) rfl (fun _ => ⟨rfl, rfl⟩) (Nat.le_of_ble_eq_true rfl) dX5_init_11 ?_
  refine tr_U.aload_n (i := 0) dX5_init_14 rfl rfl (Nat.succ_pos _) ?_
  refine tr_U.iconst (v := (0 : Int32)) dX5_init_15 (by decide) ?_
  refine tr_U.put fl_X5_18 (Nat.succ_pos _) (Nat.le_of_ble_eq_true rfl) rfl (fun _ => ⟨rfl, rfl⟩) (Nat.le_of_ble_eq_true rfl) dX5_init_16 ?_
  refine tr_U.aload_n (i := 0) dX5_init_19 rfl rfl (Nat.succ_pos _) ?_
  refine tr_U.bipush (v := (10 : Int32)) dX5_init_20 (by decide) ?_
  refine tr_U.bipush (v := (10 : Int32)) dX5_init_22 (by decide) ?_
  refine tr_U.newm (N := 10) (K := 10) cl_X5_21 w_ac_int (by decide) (by decide) (by decide) (by decide) (by decide) (by decide) ⟨Nat.le_of_ble_eq_true rfl, Nat.le_of_ble_eq_true rfl⟩ ⟨rfl, Nat.succ_pos _, rfl⟩ dX5_init_24 ?_
  refine tr_U.putF fl_X5_23 (Nat.succ_pos _) (Nat.le_of_ble_eq_true rfl) rfl (fun _ => ⟨rfl, rfl⟩) (Nat.le_of_ble_eq_true rfl) (fun _ _ _ h => by cases h; rfl) dX5_init_28 ?_
  refine tr_U.aload_n (i := 0) dX5_init_31 rfl rfl (Nat.succ_pos _) ?_
  refine tr_U.bipush (v := (10 : Int32)) dX5_init_32 (by decide) ?_
  refine tr_U.newa (t := 0) (N := 10) (ty := .int) rfl w_ac_int (fun _ => rfl) rfl ra_int (by decide) (by decide) (by decide) ⟨Nat.le_of_ble_eq_true rfl, Nat.le_of_ble_eq_true rfl⟩ ⟨rfl, Nat.succ_pos _, rfl⟩ dX5_init_34 ?_
  refine tr_U.putF fl_X5_26 (Nat.succ_pos _) (Nat.le_of_ble_eq_true rfl) rfl (fun _ => ⟨rfl, rfl⟩) (Nat.le_of_ble_eq_true rfl) (fun _ _ _ h => by cases h; rfl) dX5_init_36 ?_
  refine tr_U.aload_n (i := 0) dX5_init_39 rfl rfl (Nat.succ_pos _) ?_
  refine tr_U.bipush (v := (10 : Int32)) dX5_init_40 (by decide) ?_
  refine tr_U.newa (t := 0) (N := 10) (ty := .int) rfl w_ac_int (fun _ => rfl) rfl ra_int (by decide) (by decide) (by decide) ⟨Nat.le_of_ble_eq_true rfl, Nat.le_of_ble_eq_true rfl⟩ ⟨rfl, Nat.succ_pos _, rfl⟩ dX5_init_42 ?_
  refine tr_U.putF fl_X5_30 (Nat.succ_pos _) (Nat.le_of_ble_eq_true rfl) rfl (fun _ => ⟨rfl, rfl⟩) (Nat.le_of_ble_eq_true rfl) (fun _ _ _ h => by cases h; rfl) dX5_init_44 ?_
  refine tr_U.aload_n (i := 0) dX5_init_47 rfl rfl (Nat.succ_pos _) ?_
  refine tr_U.bipush (v := (8 : Int32)) dX5_init_48 (by decide) ?_
  refine tr_U.newa (t := 0) (N := 8) (ty := .int) rfl w_ac_int (fun _ => rfl) rfl ra_int (by decide) (by decide) (by decide) ⟨Nat.le_of_ble_eq_true rfl, Nat.le_of_ble_eq_true rfl⟩ ⟨rfl, Nat.succ_pos _, rfl⟩ dX5_init_50 ?_
  refine tr_U.putF fl_X5_33 (Nat.succ_pos _) (Nat.le_of_ble_eq_true rfl) rfl (fun _ => ⟨rfl, rfl⟩) (Nat.le_of_ble_eq_true rfl) (fun _ _ _ h => by cases h; rfl) dX5_init_52 ?_
  refine tr_U.aload_n (i := 0) dX5_init_55 rfl rfl (Nat.succ_pos _) ?_
  refine tr_U.bipush (v := (8 : Int32)) dX5_init_56 (by decide) ?_
  refine tr_U.newa (t := 0) (N := 8) (ty := .int) rfl w_ac_int (fun _ => rfl) rfl ra_int (by decide) (by decide) (by decide) ⟨Nat.le_of_ble_eq_true rfl, Nat.le_of_ble_eq_true rfl⟩ ⟨rfl, Nat.succ_pos _, rfl⟩ dX5_init_58 ?_
  refine tr_U.putF fl_X5_36 (Nat.succ_pos _) (Nat.le_of_ble_eq_true rfl) rfl (fun _ => ⟨rfl, rfl⟩) (Nat.le_of_ble_eq_true rfl) (fun _ _ _ h => by cases h; rfl) dX5_init_60 ?_
  refine tr_U.aload_n (i := 0) dX5_init_63 rfl rfl (Nat.succ_pos _) ?_
  refine tr_U.bipush (v := (8 : Int32)) dX5_init_64 (by decide) ?_
  refine tr_U.newa (t := 0) (N := 8) (ty := .int) rfl w_ac_int (fun _ => rfl) rfl ra_int (by decide) (by decide) (by decide) ⟨Nat.le_of_ble_eq_true rfl, Nat.le_of_ble_eq_true rfl⟩ ⟨rfl, Nat.succ_pos _, rfl⟩ dX5_init_66 ?_
  refine tr_U.putF fl_X5_39 (Nat.succ_pos _) (Nat.le_of_ble_eq_true rfl) rfl (fun _ => ⟨rfl, rfl⟩) (Nat.le_of_ble_eq_true rfl) (fun _ _ _ h => by cases h; rfl) dX5_init_68 ?_
  refine tr_U.aload_n (i := 0) dX5_init_71 rfl rfl (Nat.succ_pos _) ?_
  refine tr_U.bipush (v := (8 : Int32)) dX5_init_72 (by decide) ?_
  refine tr_U.newa (t := 0) (N := 8) (ty := .int) rfl w_ac_int (fun _ => rfl) rfl ra_int (by decide) (by decide) (by decide) ⟨Nat.le_of_ble_eq_true rfl, Nat.le_of_ble_eq_true rfl⟩ ⟨rfl, Nat.succ_pos _, rfl⟩ dX5_init_74 ?_
  refine tr_U.putF fl_X5_42 (Nat.succ_pos _) (Nat.le_of_ble_eq_true rfl) rfl (fun _ => ⟨rfl, rfl⟩) (Nat.le_of_ble_eq_true rfl) (fun _ _ _ h => by cases h; rfl) dX5_init_76 ?_
  refine tr_U.aload_n (i := 0) dX5_init_79 rfl rfl (Nat.succ_pos _) ?_
  refine tr_U.bipush (v := (10 : Int32)) dX5_init_80 (by decide) ?_
  refine tr_U.newa (t := 0) (N := 10) (ty := .int) rfl w_ac_int (fun _ => rfl) rfl ra_int (by decide) (by decide) (by decide) ⟨Nat.le_of_ble_eq_true rfl, Nat.le_of_ble_eq_true rfl⟩ ⟨rfl, Nat.succ_pos _, rfl⟩ dX5_init_82 ?_
  refine tr_U.putF fl_X5_45 (Nat.succ_pos _) (Nat.le_of_ble_eq_true rfl) rfl (fun _ => ⟨rfl, rfl⟩) (Nat.le_of_ble_eq_true rfl) (fun _ _ _ h => by cases h; rfl) dX5_init_84 ?_
  exact tr_U.ret dX5_init_87 ⟨rfl, rfl⟩ ⟨rfl, Nat.succ_pos _⟩ rfl rfl
def fX4_25 (f : Nat → tr_K) : Nat → tr_K := (tr_up (tr_up (tr_up (tr_up (tr_up (tr_up (tr_up (tr_up (tr_up (tr_up (tr_up (tr_up (tr_up (tr_up (tr_up (tr_up (tr_up (tr_up (tr_up (tr_up (tr_up (tr_up (tr_up (tr_up (fX5_26 (tr_up (fX0_25 f) 26 (.inr (.inr (4, [.int 0, .int 0, .int 0, .ref 0, .ref 0, .ref 0, .ref 0, .ref 0, .ref 0, .ref 0, .ref 0]))))) 25 (.inr (.inr (3, (([.ref 0, .ref 0, .ref 0, .ref 0, .ref 0, .ref 0, .ref 0, .ref 0, .ref 0, .ref 0, .int 0, .int 0, .int 0, .int 0, .int 0] : List Value).set 0 (.ref 26)))))) 45 (.inl (0, 1024, fun _ => 0))) 25 (.inr (.inr (3, ((([.ref 0, .ref 0, .ref 0, .ref 0, .ref 0, .ref 0, .ref 0, .ref 0, .ref 0, .ref 0, .int 0, .int 0, .int 0, .int 0, .int 0] : List Value).set 0 (.ref 26)).set 1 (.ref 45)))))) 46 (.inl (0, 1024, fun _ => 0))) 25 (.inr (.inr (3, (((([.ref 0, .ref 0, .ref 0, .ref 0, .ref 0, .ref 0, .ref 0, .ref 0, .ref 0, .ref 0, .int 0, .int 0, .int 0, .int 0, .int 0] : List Value).set 0 (.ref 26)).set 1 (.ref 45)).set 2 (.ref 46)))))) 47 (.inl (0, 11, fun _ => 0))) 25 (.inr (.inr (3, ((((([.ref 0, .ref 0, .ref 0, .ref 0, .ref 0, .ref 0, .ref 0, .ref 0, .ref 0, .ref 0, .int 0, .int 0, .int 0, .int 0, .int 0] : List Value).set 0 (.ref 26)).set 1 (.ref 45)).set 2 (.ref 46)).set 3 (.ref 47)))))) 48 (.inl (0, 10240, fun _ => 0))) 25 (.inr (.inr (3, (((((([.ref 0, .ref 0, .ref 0, .ref 0, .ref 0, .ref 0, .ref 0, .ref 0, .ref 0, .ref 0, .int 0, .int 0, .int 0, .int 0, .int 0] : List Value).set 0 (.ref 26)).set 1 (.ref 45)).set 2 (.ref 46)).set 3 (.ref 47)).set 4 (.ref 48)))))) 49 (.inl (0, 10240, fun _ => 0))) 25 (.inr (.inr (3, ((((((([.ref 0, .ref 0, .ref 0, .ref 0, .ref 0, .ref 0, .ref 0, .ref 0, .ref 0, .ref 0, .int 0, .int 0, .int 0, .int 0, .int 0] : List Value).set 0 (.ref 26)).set 1 (.ref 45)).set 2 (.ref 46)).set 3 (.ref 47)).set 4 (.ref 48)).set 5 (.ref 49)))))) 50 (.inl (0, 10240, fun _ => 0))) 25 (.inr (.inr (3, (((((((([.ref 0, .ref 0, .ref 0, .ref 0, .ref 0, .ref 0, .ref 0, .ref 0, .ref 0, .ref 0, .int 0, .int 0, .int 0, .int 0, .int 0] : List Value).set 0 (.ref 26)).set 1 (.ref 45)).set 2 (.ref 46)).set 3 (.ref 47)).set 4 (.ref 48)).set 5 (.ref 49)).set 6 (.ref 50)))))) 51 (.inl (0, 10240, fun _ => 0))) 25 (.inr (.inr (3, ((((((((([.ref 0, .ref 0, .ref 0, .ref 0, .ref 0, .ref 0, .ref 0, .ref 0, .ref 0, .ref 0, .int 0, .int 0, .int 0, .int 0, .int 0] : List Value).set 0 (.ref 26)).set 1 (.ref 45)).set 2 (.ref 46)).set 3 (.ref 47)).set 4 (.ref 48)).set 5 (.ref 49)).set 6 (.ref 50)).set 7 (.ref 51)))))) 52 (.inl (0, 10, fun _ => 0))) 25 (.inr (.inr (3, (((((((((([.ref 0, .ref 0, .ref 0, .ref 0, .ref 0, .ref 0, .ref 0, .ref 0, .ref 0, .ref 0, .int 0, .int 0, .int 0, .int 0, .int 0] : List Value).set 0 (.ref 26)).set 1 (.ref 45)).set 2 (.ref 46)).set 3 (.ref 47)).set 4 (.ref 48)).set 5 (.ref 49)).set 6 (.ref 50)).set 7 (.ref 51)).set 8 (.ref 52)))))) 53 (.inl (0, 110, fun _ => 0))) 25 (.inr (.inr (3, ((((((((((([.ref 0, .ref 0, .ref 0, .ref 0, .ref 0, .ref 0, .ref 0, .ref 0, .ref 0, .ref 0, .int 0, .int 0, .int 0, .int 0, .int 0] : List Value).set 0 (.ref 26)).set 1 (.ref 45)).set 2 (.ref 46)).set 3 (.ref 47)).set 4 (.ref 48)).set 5 (.ref 49)).set 6 (.ref 50)).set 7 (.ref 51)).set 8 (.ref 52)).set 9 (.ref 53)))))) 25 (.inr (.inr (3, (((((((((((([.ref 0, .ref 0, .ref 0, .ref 0, .ref 0, .ref 0, .ref 0, .ref 0, .ref 0, .ref 0, .int 0, .int 0, .int 0, .int 0, .int 0] : List Value).set 0 (.ref 26)).set 1 (.ref 45)).set 2 (.ref 46)).set 3 (.ref 47)).set 4 (.ref 48)).set 5 (.ref 49)).set 6 (.ref 50)).set 7 (.ref 51)).set 8 (.ref 52)).set 9 (.ref 53)).set 10 (.int 0)))))) 25 (.inr (.inr (3, ((((((((((((([.ref 0, .ref 0, .ref 0, .ref 0, .ref 0, .ref 0, .ref 0, .ref 0, .ref 0, .ref 0, .int 0, .int 0, .int 0, .int 0, .int 0] : List Value).set 0 (.ref 26)).set 1 (.ref 45)).set 2 (.ref 46)).set 3 (.ref 47)).set 4 (.ref 48)).set 5 (.ref 49)).set 6 (.ref 50)).set 7 (.ref 51)).set 8 (.ref 52)).set 9 (.ref 53)).set 10 (.int 0)).set 11 (.int 0)))))) 25 (.inr (.inr (3, (((((((((((((([.ref 0, .ref 0, .ref 0, .ref 0, .ref 0, .ref 0, .ref 0, .ref 0, .ref 0, .ref 0, .int 0, .int 0, .int 0, .int 0, .int 0] : List Value).set 0 (.ref 26)).set 1 (.ref 45)).set 2 (.ref 46)).set 3 (.ref 47)).set 4 (.ref 48)).set 5 (.ref 49)).set 6 (.ref 50)).set 7 (.ref 51)).set 8 (.ref 52)).set 9 (.ref 53)).set 10 (.int 0)).set 11 (.int 0)).set 12 (.int 0)))))) 25 (.inr (.inr (3, ((((((((((((((([.ref 0, .ref 0, .ref 0, .ref 0, .ref 0, .ref 0, .ref 0, .ref 0, .ref 0, .ref 0, .int 0, .int 0, .int 0, .int 0, .int 0] : List Value).set 0 (.ref 26)).set 1 (.ref 45)).set 2 (.ref 46)).set 3 (.ref 47)).set 4 (.ref 48)).set 5 (.ref 49)).set 6 (.ref 50)).set 7 (.ref 51)).set 8 (.ref 52)).set 9 (.ref 53)).set 10 (.int 0)).set 11 (.int 0)).set 12 (.int 0)).set 13 (.int (-9))))))) 25 (.inr (.inr (3, (((((((((((((((([.ref 0, .ref 0, .ref 0, .ref 0, .ref 0, .ref 0, .ref 0, .ref 0, .ref 0, .ref 0, .int 0, .int 0, .int 0, .int 0, .int 0] : List Value).set 0 (.ref 26)).set 1 (.ref 45)).set 2 (.ref 46)).set 3 (.ref 47)).set 4 (.ref 48)).set 5 (.ref 49)).set 6 (.ref 50)).set 7 (.ref 51)).set 8 (.ref 52)).set 9 (.ref 53)).set 10 (.int 0)).set 11 (.int 0)).set 12 (.int 0)).set 13 (.int (-9))).set 14 (.int (-9)))))))
abbrev uX4_25 (f : Nat → tr_K) : tr_UX := (cX4_init, 1, RX4, 2, 28, 43322, 25, 53, fX4_25 f)
set_option maxRecDepth 100000 in
set_option maxHeartbeats 4000000 in
theorem J_X4_25 (f : Nat → tr_K) (hf : f 25 = .inr (.inr (3, [.ref 0, .ref 0, .ref 0, .ref 0, .ref 0, .ref 0, .ref 0, .ref 0, .ref 0, .ref 0, .int 0, .int 0, .int 0, .int 0, .int 0]))) : tr_J yX4_init (uX4_25 f) [.ref 25] 25 f := by
  refine tr_J.of pn_X4 rfl rfl rfl (Nat.le_of_ble_eq_true rfl) (fun Wt => ?_)
  refine tr_U.aload_n (i := 0) dX4_init_0 rfl rfl (Nat.succ_pos _) ?_
  refine tr_U.callI (J_X0_25 _) cw_X0_init in_X0 ⟨by decide +kernel, by decide +kernel, by decide +kernel⟩ ⟨rfl, im_X0_init⟩ (Or.inr nt_X4_3) (Nat.succ_pos _) ⟨Nat.le_of_ble_eq_true rfl, Nat.le_of_ble_eq_true rfl⟩ rfl (Nat.le_of_ble_eq_true rfl) rfl ⟨Nat.le_of_ble_eq_true rfl, Nat.le_of_ble_eq_true rfl⟩ ⟨rfl, Nat.succ_pos _⟩ dX4_init_1 ?_
  refine tr_U.aload_n (i := 0) dX4_init_4 rfl rfl (Nat.succ_pos _) ?_
  refine tr_U.newc (ci := 4) (vs := [.int 0, .int 0, .int 0, .ref 0, .ref 0, .ref 0, .ref 0, .ref 0, .ref 0, .ref 0, .ref 0]) tyX5 rfl uw_X5 tyX5_ok cl_X4_9 ia_X5 in_X5 bl_X5 ⟨Nat.le_of_ble_eq_true rfl, Nat.le_of_ble_eq_true rfl⟩ ⟨rfl, Nat.succ_pos _, rfl⟩ dX4_init_5 ?_
  refine tr_U.dup rfl dX4_init_8 ?_
  refine tr_U.callI (J_X5_26 _ rfl) cw_X5_init in_X5 ⟨by decide +kernel, by decide +kernel, by decide +kernel⟩ ⟨rfl, im_X5_init⟩ (Or.inr nt_X4_11) (Nat.succ_pos _) ⟨Nat.le_of_ble_eq_true rfl, Nat.le_of_ble_eq_true rfl⟩ rfl (Nat.le_of_ble_eq_true rfl) rfl ⟨Nat.le_of_ble_eq_true rfl, Nat.le_of_ble_eq_true rfl⟩ ⟨rfl, Nat.succ_pos _⟩ dX4_init_9 ?_
  refine tr_U.putF fl_X4_12 (Nat.succ_pos _) (Nat.le_of_ble_eq_true rfl) hf (fun _ => ⟨rfl, rfl⟩) (Nat.le_of_ble_eq_true rfl) (fun _ _ _ h => by cases h; rfl) dX4_init_12 ?_
  refine tr_U.aload_n (i := 0) dX4_init_15 rfl rfl (Nat.succ_pos _) ?_
  refine tr_U.sipush (v := (1024 : Int32)) dX4_init_16 (by decide) ?_
  refine tr_U.newa (t := 0) (N := 1024) (ty := .int) rfl w_ac_int (fun _ => rfl) rfl ra_int (by decide) (by decide) (by decide) ⟨Nat.le_of_ble_eq_true rfl, Nat.le_of_ble_eq_true rfl⟩ ⟨rfl, Nat.succ_pos _, rfl⟩ dX4_init_19 ?_
  refine tr_U.putF fl_X4_18 (Nat.succ_pos _) (Nat.le_of_ble_eq_true rfl) rfl (fun _ => ⟨rfl, rfl⟩) (Nat.le_of_ble_eq_true rfl) (fun _ _ _ h => by cases h; rfl) dX4_init_21 ?_
  refine tr_U.aload_n (i := 0) dX4_init_24 rfl rfl (Nat.succ_pos _) ?_
  refine tr_U.sipush (v := (1024 : Int32)) dX4_init_25 (by decide) ?_
  refine tr_U.newa (t := 0) (N := 1024) (ty := .int) rfl w_ac_int (fun _ => rfl) rfl ra_int (by decide) (by decide) (by decide) ⟨Nat.le_of_ble_eq_true rfl, Nat.le_of_ble_eq_true rfl⟩ ⟨rfl, Nat.succ_pos _, rfl⟩ dX4_init_28 ?_
  refine tr_U.putF fl_X4_22 (Nat.succ_pos _) (Nat.le_of_ble_eq_true rfl) rfl (fun _ => ⟨rfl, rfl⟩) (Nat.le_of_ble_eq_true rfl) (fun _ _ _ h => by cases h; rfl) dX4_init_30 ?_
  refine tr_U.aload_n (i := 0) dX4_init_33 rfl rfl (Nat.succ_pos _) ?_
  refine tr_U.bipush (v := (11 : Int32)) dX4_init_34 (by decide) ?_
  refine tr_U.newa (t := 0) (N := 11) (ty := .int) rfl w_ac_int (fun _ => rfl) rfl ra_int (by decide) (by decide) (by decide) ⟨Nat.le_of_ble_eq_true rfl, Nat.le_of_ble_eq_true rfl⟩ ⟨rfl, Nat.succ_pos _, rfl⟩ dX4_init_36 ?_
  refine tr_U.putF fl_X4_25 (Nat.succ_pos _) (Nat.le_of_ble_eq_true rfl) rfl (fun _ => ⟨rfl, rfl⟩) (Nat.le_of_ble_eq_true rfl) (fun _ _ _ h => by cases h; rfl) dX4_init_38 ?_
  refine tr_U.aload_n (i := 0) dX4_init_41 rfl rfl (Nat.succ_pos _) ?_
  refine tr_U.sipush (v := (10240 : Int32)) dX4_init_42 (by decide) ?_
  refine tr_U.newa (t := 0) (N := 10240) (ty := .int) rfl w_ac_int (fun _ => rfl) rfl ra_int (by decide) (by decide) (by decide) ⟨Nat.le_of_ble_eq_true rfl, Nat.le_of_ble_eq_true rfl⟩ ⟨rfl, Nat.succ_pos _, rfl⟩ dX4_init_45 ?_
  refine tr_U.putF fl_X4_28 (Nat.succ_pos _) (Nat.le_of_ble_eq_true rfl) rfl (fun _ => ⟨rfl, rfl⟩) (Nat.le_of_ble_eq_true rfl) (fun _ _ _ h => by cases h; rfl) dX4_init_47 ?_
  refine tr_U.aload_n (i := 0) dX4_init_50 rfl rfl (Nat.succ_pos _) ?_
  refine tr_U.sipush (v := (10240 : Int32)) dX4_init_51 (by decide) ?_
  refine tr_U.newa (t := 0) (N := 10240) (ty := .int) rfl w_ac_int (fun _ => rfl) rfl ra_int (by decide) (by decide) (by decide) ⟨Nat.le_of_ble_eq_true rfl, Nat.le_of_ble_eq_true rfl⟩ ⟨rfl, Nat.succ_pos _, rfl⟩ dX4_init_54 ?_
  refine tr_U.putF fl_X4_31 (Nat.succ_pos _) (Nat.le_of_ble_eq_true rfl) rfl (fun _ => ⟨rfl, rfl⟩) (Nat.le_of_ble_eq_true rfl) (fun _ _ _ h => by cases h; rfl) dX4_init_56 ?_
  refine tr_U.aload_n (i := 0) dX4_init_59 rfl rfl (Nat.succ_pos _) ?_
  refine tr_U.sipush (v := (10240 : Int32)) dX4_init_60 (by decide) ?_
  refine tr_U.newa (t := 0) (N := 10240) (ty := .int) rfl w_ac_int (fun _ => rfl) rfl ra_int (by decide) (by decide) (by decide) ⟨Nat.le_of_ble_eq_true rfl, Nat.le_of_ble_eq_true rfl⟩ ⟨rfl, Nat.succ_pos _, rfl⟩ dX4_init_63 ?_
  refine tr_U.putF fl_X4_34 (Nat.succ_pos _) (Nat.le_of_ble_eq_true rfl) rfl (fun _ => ⟨rfl, rfl⟩) (Nat.le_of_ble_eq_true rfl) (fun _ _ _ h => by cases h; rfl) dX4_init_65 ?_
  refine tr_U.aload_n (i := 0) dX4_init_68 rfl rfl (Nat.succ_pos _) ?_
  refine tr_U.sipush (v := (10240 : Int32)) dX4_init_69 (by decide) ?_
  refine tr_U.newa (t := 0) (N := 10240) (ty := .int) rfl w_ac_int (fun _ => rfl) rfl ra_int (by decide) (by decide) (by decide) ⟨Nat.le_of_ble_eq_true rfl, Nat.le_of_ble_eq_true rfl⟩ ⟨rfl, Nat.succ_pos _, rfl⟩ dX4_init_72 ?_
  refine tr_U.putF fl_X4_37 (Nat.succ_pos _) (Nat.le_of_ble_eq_true rfl) rfl (fun _ => ⟨rfl, rfl⟩) (Nat.le_of_ble_eq_true rfl) (fun _ _ _ h => by cases h; rfl) dX4_init_74 ?_
  refine tr_U.aload_n (i := 0) dX4_init_77 rfl rfl (Nat.succ_pos _) ?_
  refine tr_U.bipush (v := (10 : Int32)) dX4_init_78 (by decide) ?_
  refine tr_U.newa (t := 0) (N := 10) (ty := .int) rfl w_ac_int (fun _ => rfl) rfl ra_int (by decide) (by decide) (by decide) ⟨Nat.le_of_ble_eq_true rfl, Nat.le_of_ble_eq_true rfl⟩ ⟨rfl, Nat.succ_pos _, rfl⟩ dX4_init_80 ?_
  refine tr_U.putF fl_X4_40 (Nat.succ_pos _) (Nat.le_of_ble_eq_true rfl) rfl (fun _ => ⟨rfl, rfl⟩) (Nat.le_of_ble_eq_true rfl) (fun _ _ _ h => by cases h; rfl) dX4_init_82 ?_
  refine tr_U.aload_n (i := 0) dX4_init_85 rfl rfl (Nat.succ_pos _) ?_
  refine tr_U.bipush (v := (110 : Int32)) dX4_init_86 (by decide) ?_
  refine tr_U.newa (t := 0) (N := 110) (ty := .int) rfl w_ac_int (fun _ => rfl) rfl ra_int (by decide) (by decide) (by decide) ⟨Nat.le_of_ble_eq_true rfl, Nat.le_of_ble_eq_true rfl⟩ ⟨rfl, Nat.succ_pos _, rfl⟩ dX4_init_88 ?_
  refine tr_U.putF fl_X4_43 (Nat.succ_pos _) (Nat.le_of_ble_eq_true rfl) rfl (fun _ => ⟨rfl, rfl⟩) (Nat.le_of_ble_eq_true rfl) (fun _ _ _ h => by cases h; rfl) dX4_init_90 ?_
  refine tr_U.aload_n (i := 0) dX4_init_93 rfl rfl (Nat.succ_pos _) ?_
  refine tr_U.iconst (v := (0 : Int32)) dX4_init_94 (by decide) ?_
  refine tr_U.put fl_X4_46 (Nat.succ_pos _) (Nat.le_of_ble_eq_true rfl) rfl (fun _ => ⟨rfl, rfl⟩) (Nat.le_of_ble_eq_true rfl) dX4_init_95 ?_
  refine tr_U.aload_n (i := 0) dX4_init_98 rfl rfl (Nat.succ_pos _) ?_
  refine tr_U.iconst (v := (0 : Int32)) dX4_init_99 (by decide) ?_
  refine tr_U.put fl_X4_50 (Nat.succ_pos _) (Nat.le_of_ble_eq_true rfl) rfl (fun _ => ⟨rfl, rfl⟩) (Nat.le_of_ble_eq_true rfl) dX4_init_100 ?_
  refine tr_U.aload_n (i := 0) dX4_init_103 rfl rfl (Nat.succ_pos _) ?_
  refine tr_U.iconst (v := (0 : Int32)) dX4_init_104 (by decide) ?_
  refine tr_U.put fl_X4_53 (Nat.succ_pos _) (Nat.le_of_ble_eq_true rfl) rfl (fun _ => ⟨rfl, rfl⟩) (Nat.le_of_ble_eq_true rfl) dX4_init_105 ?_
  refine tr_U.aload_n (i := 0) dX4_init_108 rfl rfl (Nat.succ_pos _) ?_
  refine tr_U.bipush (v := (-9 : Int32)) dX4_init_109 (by decide) ?_
  refine tr_U.put fl_X4_56 (Nat.succ_pos _) (Nat.le_of_ble_eq_true rfl) rfl (fun _ => ⟨rfl, rfl⟩) (Nat.le_of_ble_eq_true rfl) dX4_init_111 ?_
  refine tr_U.aload_n (i := 0) dX4_init_114 rfl rfl (Nat.succ_pos _) ?_
  refine tr_U.bipush (v := (-9 : Int32)) dX4_init_115 (by decide) ?_
  refine tr_U.put fl_X4_60 (Nat.succ_pos _) (Nat.le_of_ble_eq_true rfl) rfl (fun _ => ⟨rfl, rfl⟩) (Nat.le_of_ble_eq_true rfl) dX4_init_117 ?_
  exact tr_U.ret dX4_init_120 ⟨rfl, rfl⟩ ⟨rfl, Nat.succ_pos _⟩ rfl rfl
def fX2_24 (f : Nat → tr_K) : Nat → tr_K := (tr_up (tr_up (tr_up (tr_up (tr_up (tr_up (tr_up (tr_up (tr_up (tr_up (tr_up (tr_up (fX4_25 (tr_up (fX0_24 f) 25 (.inr (.inr (3, [.ref 0, .ref 0, .ref 0, .ref 0, .ref 0, .ref 0, .ref 0, .ref 0, .ref 0, .ref 0, .int 0, .int 0, .int 0, .int 0, .int 0]))))) 24 (.inr (.inr (1, (([.ref 0, .ref 0, .ref 0, .int 0, .int 0, .int 0, .int 0, .ref 0, .ref 0] : List Value).set 0 (.ref 25)))))) 24 (.inr (.inr (1, ((([.ref 0, .ref 0, .ref 0, .int 0, .int 0, .int 0, .int 0, .ref 0, .ref 0] : List Value).set 0 (.ref 25)).set 1 (.ref 26)))))) 54 (.inl (0, 40320, fun _ => 0))) 24 (.inr (.inr (1, (((([.ref 0, .ref 0, .ref 0, .int 0, .int 0, .int 0, .int 0, .ref 0, .ref 0] : List Value).set 0 (.ref 25)).set 1 (.ref 26)).set 2 (.ref 54)))))) 24 (.inr (.inr (1, ((((([.ref 0, .ref 0, .ref 0, .int 0, .int 0, .int 0, .int 0, .ref 0, .ref 0] : List Value).set 0 (.ref 25)).set 1 (.ref 26)).set 2 (.ref 54)).set 3 (.int 0)))))) 24 (.inr (.inr (1, (((((([.ref 0, .ref 0, .ref 0, .int 0, .int 0, .int 0, .int 0, .ref 0, .ref 0] : List Value).set 0 (.ref 25)).set 1 (.ref 26)).set 2 (.ref 54)).set 3 (.int 0)).set 4 (.int 0)))))) 24 (.inr (.inr (1, ((((((([.ref 0, .ref 0, .ref 0, .int 0, .int 0, .int 0, .int 0, .ref 0, .ref 0] : List Value).set 0 (.ref 25)).set 1 (.ref 26)).set 2 (.ref 54)).set 3 (.int 0)).set 4 (.int 0)).set 5 (.int 0)))))) 24 (.inr (.inr (1, (((((((([.ref 0, .ref 0, .ref 0, .int 0, .int 0, .int 0, .int 0, .ref 0, .ref 0] : List Value).set 0 (.ref 25)).set 1 (.ref 26)).set 2 (.ref 54)).set 3 (.int 0)).set 4 (.int 0)).set 5 (.int 0)).set 6 (.int 0)))))) 55 (.inl (0, 10, fun _ => 0))) 24 (.inr (.inr (1, ((((((((([.ref 0, .ref 0, .ref 0, .int 0, .int 0, .int 0, .int 0, .ref 0, .ref 0] : List Value).set 0 (.ref 25)).set 1 (.ref 26)).set 2 (.ref 54)).set 3 (.int 0)).set 4 (.int 0)).set 5 (.int 0)).set 6 (.int 0)).set 7 (.ref 55)))))) 56 (.inl (0, 10, fun _ => 0))) 24 (.inr (.inr (1, (((((((((([.ref 0, .ref 0, .ref 0, .int 0, .int 0, .int 0, .int 0, .ref 0, .ref 0] : List Value).set 0 (.ref 25)).set 1 (.ref 26)).set 2 (.ref 54)).set 3 (.int 0)).set 4 (.int 0)).set 5 (.int 0)).set 6 (.int 0)).set 7 (.ref 55)).set 8 (.ref 56))))))
abbrev uX2_24 (f : Nat → tr_K) : tr_UX := (cX2_init, 1, RX2, 3, 32, 83677, 24, 56, fX2_24 f)
set_option maxRecDepth 100000 in
set_option maxHeartbeats 4000000 in
theorem J_X2_24 (f : Nat → tr_K) (hf : f 24 = .inr (.inr (1, [.ref 0, .ref 0, .ref 0, .int 0, .int 0, .int 0, .int 0, .ref 0, .ref 0]))) : tr_J yX2_init (uX2_24 f) [.ref 24] 24 f := by
  refine tr_J.of pn_X2 rfl rfl rfl (Nat.le_of_ble_eq_true rfl) (fun Wt => ?_)
  refine tr_U.aload_n (i := 0) dX2_init_0 rfl rfl (Nat.succ_pos _) ?_
  refine tr_U.callI (J_X0_24 _) cw_X0_init in_X0 ⟨by decide +kernel, by decide +kernel, by decide +kernel⟩ ⟨rfl, im_X0_init⟩ (Or.inr nt_X2_3) (Nat.succ_pos _) ⟨Nat.le_of_ble_eq_true rfl, Nat.le_of_ble_eq_true rfl⟩ rfl (Nat.le_of_ble_eq_true rfl) rfl ⟨Nat.le_of_ble_eq_true rfl, Nat.le_of_ble_eq_true rfl⟩ ⟨rfl, Nat.succ_pos _⟩ dX2_init_1 ?_
  refine tr_U.aload_n (i := 0) dX2_init_4 rfl rfl (Nat.succ_pos _) ?_
  refine tr_U.newc (ci := 3) (vs := [.ref 0, .ref 0, .ref 0, .ref 0, .ref 0, .ref 0, .ref 0, .ref 0, .ref 0, .ref 0, .int 0, .int 0, .int 0, .int 0, .int 0]) tyX4 rfl uw_X4 tyX4_ok cl_X2_9 ia_X4 in_X4 bl_X4 ⟨Nat.le_of_ble_eq_true rfl, Nat.le_of_ble_eq_true rfl⟩ ⟨rfl, Nat.succ_pos _, rfl⟩ dX2_init_5 ?_
  refine tr_U.dup rfl dX2_init_8 ?_
  refine tr_U.callI (J_X4_25 _ rfl) cw_X4_init in_X4 ⟨by decide +kernel, by decide +kernel, by decide +kernel⟩ ⟨rfl, im_X4_init⟩ (Or.inr nt_X2_11) (Nat.succ_pos _) ⟨Nat.le_of_ble_eq_true rfl, Nat.le_of_ble_eq_true rfl⟩ rfl (Nat.le_of_ble_eq_true rfl) rfl ⟨Nat.le_of_ble_eq_true rfl, Nat.le_of_ble_eq_true rfl⟩ ⟨rfl, Nat.succ_pos _⟩ dX2_init_9 ?_
  refine tr_U.putF fl_X2_12 (Nat.succ_pos _) (Nat.le_of_ble_eq_true rfl) hf (fun _ => ⟨rfl, rfl⟩) (Nat.le_of_ble_eq_true rfl) (fun _ _ _ h => by cases h; rfl) dX2_init_12 ?_
  refine tr_U.aload_n (i := 0) dX2_init_15 rfl rfl (Nat.succ_pos _) ?_
  refine tr_U.aload_n (i := 0) dX2_init_16 rfl rfl (Nat.succ_pos _) ?_
  refine tr_U.get fl_X2_12 (Nat.succ_pos _) (Nat.le_of_ble_eq_true rfl) rfl rfl dX2_init_17 ?_
  refine tr_U.get fl_X2_18 (Nat.succ_pos _) (Nat.le_of_ble_eq_true rfl) rfl rfl dX2_init_20 ?_
  refine tr_U.putF fl_X2_22 (Nat.succ_pos _) (Nat.le_of_ble_eq_true rfl) rfl (fun _ => ⟨rfl, rfl⟩) (Nat.le_of_ble_eq_true rfl) (fun _ _ _ h => by cases h; rfl) dX2_init_23 ?_
  refine tr_U.aload_n (i := 0) dX2_init_26 rfl rfl (Nat.succ_pos _) ?_
  refine tr_U.ldc ct_X2_23 dX2_init_27 ?_
  refine tr_U.newa (t := 0) (N := 40320) (ty := .int) rfl w_ac_int (fun _ => rfl) rfl ra_int (by decide) (by decide) (by decide) ⟨Nat.le_of_ble_eq_true rfl, Nat.le_of_ble_eq_true rfl⟩ ⟨rfl, Nat.succ_pos _, rfl⟩ dX2_init_29 ?_
  refine tr_U.putF fl_X2_24 (Nat.succ_pos _) (Nat.le_of_ble_eq_true rfl) rfl (fun _ => ⟨rfl, rfl⟩) (Nat.le_of_ble_eq_true rfl) (fun _ _ _ h => by cases h; rfl) dX2_init_31 ?_
  refine tr_U.aload_n (i := 0) dX2_init_34 rfl rfl (Nat.succ_pos _) ?_
  refine tr_U.iconst (v := (0 : Int32)) dX2_init_35 (by decide) ?_
  refine tr_U.put fl_X2_28 (Nat.succ_pos _) (Nat.le_of_ble_eq_true rfl) rfl (fun _ => ⟨rfl, rfl⟩) (Nat.le_of_ble_eq_true rfl) dX2_init_36 ?_
  refine tr_U.aload_n (i := 0) dX2_init_39 rfl rfl (Nat.succ_pos _) ?_
  refine tr_U.iconst (v := (0 : Int32)) dX2_init_40 (by decide) ?_
  refine tr_U.put fl_X2_32 (Nat.succ_pos _) (Nat.le_of_ble_eq_true rfl) rfl (fun _ => ⟨rfl, rfl⟩) (Nat.le_of_ble_eq_true rfl) dX2_init_41 ?_
  refine tr_U.aload_n (i := 0) dX2_init_44 rfl rfl (Nat.succ_pos _) ?_
  refine tr_U.iconst (v := (0 : Int32)) dX2_init_45 (by decide) ?_
  refine tr_U.put fl_X2_35 (Nat.succ_pos _) (Nat.le_of_ble_eq_true rfl) rfl (fun _ => ⟨rfl, rfl⟩) (Nat.le_of_ble_eq_true rfl) dX2_init_46 ?_
  refine tr_U.aload_n (i := 0) dX2_init_49 rfl rfl (Nat.succ_pos _) ?_
  refine tr_U.iconst (v := (0 : Int32)) dX2_init_50 (by decide) ?_
  refine tr_U.put fl_X2_38 (Nat.succ_pos _) (Nat.le_of_ble_eq_true rfl) rfl (fun _ => ⟨rfl, rfl⟩) (Nat.le_of_ble_eq_true rfl) dX2_init_51 ?_
  refine tr_U.aload_n (i := 0) dX2_init_54 rfl rfl (Nat.succ_pos _) ?_
  refine tr_U.bipush (v := (10 : Int32)) dX2_init_55 (by decide) ?_
  refine tr_U.newa (t := 0) (N := 10) (ty := .int) rfl w_ac_int (fun _ => rfl) rfl ra_int (by decide) (by decide) (by decide) ⟨Nat.le_of_ble_eq_true rfl, Nat.le_of_ble_eq_true rfl⟩ ⟨rfl, Nat.succ_pos _, rfl⟩ dX2_init_57 ?_
  refine tr_U.putF fl_X2_41 (Nat.succ_pos _) (Nat.le_of_ble_eq_true rfl) rfl (fun _ => ⟨rfl, rfl⟩) (Nat.le_of_ble_eq_true rfl) (fun _ _ _ h => by cases h; rfl) dX2_init_59 ?_
  refine tr_U.aload_n (i := 0) dX2_init_62 rfl rfl (Nat.succ_pos _) ?_
  refine tr_U.bipush (v := (10 : Int32)) dX2_init_63 (by decide) ?_
  refine tr_U.newa (t := 0) (N := 10) (ty := .int) rfl w_ac_int (fun _ => rfl) rfl ra_int (by decide) (by decide) (by decide) ⟨Nat.le_of_ble_eq_true rfl, Nat.le_of_ble_eq_true rfl⟩ ⟨rfl, Nat.succ_pos _, rfl⟩ dX2_init_65 ?_
  refine tr_U.putF fl_X2_44 (Nat.succ_pos _) (Nat.le_of_ble_eq_true rfl) rfl (fun _ => ⟨rfl, rfl⟩) (Nat.le_of_ble_eq_true rfl) (fun _ _ _ h => by cases h; rfl) dX2_init_67 ?_
  exact tr_U.ret dX2_init_70 ⟨rfl, rfl⟩ ⟨rfl, Nat.succ_pos _⟩ rfl rfl
def fX1_62 (f : Nat → tr_K) : Nat → tr_K := (tr_up (tr_up (tr_up f 62 (.inr (.inr (0, (([.ref 0, .int 0] : List Value).set 1 (.int (-1))))))) 63 (.inl (0, 60, fun _ => 0))) 62 (.inr (.inr (0, ((([.ref 0, .int 0] : List Value).set 1 (.int (-1))).set 0 (.ref 63))))))
abbrev uX1_62 (f : Nat → tr_K) : tr_UX := (cX1_init, 2, RX1, 1, 1, 60, 62, 63, fX1_62 f)
set_option maxRecDepth 100000 in
set_option maxHeartbeats 4000000 in
theorem J_X1_62 (f : Nat → tr_K) (hf : f 62 = .inr (.inr (0, [.ref 0, .int 0]))) : tr_J yX1_init (uX1_62 f) [.ref 62, .int 60] 62 f := by
  refine tr_J.of pn_X1 rfl rfl rfl (Nat.le_of_ble_eq_true rfl) (fun Wt => ?_)
  refine tr_U.aload_n (i := 0) dX1_init_0 rfl rfl (Nat.succ_pos _) ?_
  refine tr_U.objInit (Nat.succ_pos _) ml_X1_3 w_objI w_objC (Nat.le_of_ble_eq_true rfl) (Nat.le_of_ble_eq_true rfl) dX1_init_1 ?_
  refine tr_U.aload_n (i := 0) dX1_init_4 rfl rfl (Nat.succ_pos _) ?_
  refine tr_U.iconst (v := (-1 : Int32)) dX1_init_5 (by decide) ?_
  refine tr_U.put fl_X1_9 (Nat.succ_pos _) (Nat.le_of_ble_eq_true rfl) hf (fun _ => ⟨rfl, rfl⟩) (Nat.le_of_ble_eq_true rfl) dX1_init_6 ?_
  refine tr_U.aload_n (i := 0) dX1_init_9 rfl rfl (Nat.succ_pos _) ?_
  refine tr_U.iload_n (i := 1) dX1_init_10 rfl rfl ?_
  refine tr_U.newa (t := 0) (N := 60) (ty := .int) rfl w_ac_int (fun _ => rfl) rfl ra_int (by decide) (by decide) (by decide) ⟨Nat.le_of_ble_eq_true rfl, Nat.le_of_ble_eq_true rfl⟩ ⟨rfl, Nat.succ_pos _, rfl⟩ dX1_init_11 ?_
  refine tr_U.putF fl_X1_15 (Nat.succ_pos _) (Nat.le_of_ble_eq_true rfl) rfl (fun _ => ⟨rfl, rfl⟩) (Nat.le_of_ble_eq_true rfl) (fun _ _ _ h => by cases h; rfl) dX1_init_13 ?_
  exact tr_U.ret dX1_init_16 ⟨rfl, rfl⟩ ⟨rfl, Nat.succ_pos _⟩ rfl rfl
def fX1_64 (f : Nat → tr_K) : Nat → tr_K := (tr_up (tr_up (tr_up f 64 (.inr (.inr (0, (([.ref 0, .int 0] : List Value).set 1 (.int (-1))))))) 65 (.inl (0, 60, fun _ => 0))) 64 (.inr (.inr (0, ((([.ref 0, .int 0] : List Value).set 1 (.int (-1))).set 0 (.ref 65))))))
abbrev uX1_64 (f : Nat → tr_K) : tr_UX := (cX1_init, 2, RX1, 1, 1, 60, 64, 65, fX1_64 f)
set_option maxRecDepth 100000 in
set_option maxHeartbeats 4000000 in
theorem J_X1_64 (f : Nat → tr_K) (hf : f 64 = .inr (.inr (0, [.ref 0, .int 0]))) : tr_J yX1_init (uX1_64 f) [.ref 64, .int 60] 64 f := by
  refine tr_J.of pn_X1 rfl rfl rfl (Nat.le_of_ble_eq_true rfl) (fun Wt => ?_)
  refine tr_U.aload_n (i := 0) dX1_init_0 rfl rfl (Nat.succ_pos _) ?_
  refine tr_U.objInit (Nat.succ_pos _) ml_X1_3 w_objI w_objC (Nat.le_of_ble_eq_true rfl) (Nat.le_of_ble_eq_true rfl) dX1_init_1 ?_
  refine tr_U.aload_n (i := 0) dX1_init_4 rfl rfl (Nat.succ_pos _) ?_
  refine tr_U.iconst (v := (-1 : Int32)) dX1_init_5 (by decide) ?_
  refine tr_U.put fl_X1_9 (Nat.succ_pos _) (Nat.le_of_ble_eq_true rfl) hf (fun _ => ⟨rfl, rfl⟩) (Nat.le_of_ble_eq_true rfl) dX1_init_6 ?_
  refine tr_U.aload_n (i := 0) dX1_init_9 rfl rfl (Nat.succ_pos _) ?_
  refine tr_U.iload_n (i := 1) dX1_init_10 rfl rfl ?_
  refine tr_U.newa (t := 0) (N := 60) (ty := .int) rfl w_ac_int (fun _ => rfl) rfl ra_int (by decide) (by decide) (by decide) ⟨Nat.le_of_ble_eq_true rfl, Nat.le_of_ble_eq_true rfl⟩ ⟨rfl, Nat.succ_pos _, rfl⟩ dX1_init_11 ?_
  refine tr_U.putF fl_X1_15 (Nat.succ_pos _) (Nat.le_of_ble_eq_true rfl) rfl (fun _ => ⟨rfl, rfl⟩) (Nat.le_of_ble_eq_true rfl) (fun _ _ _ h => by cases h; rfl) dX1_init_13 ?_
  exact tr_U.ret dX1_init_16 ⟨rfl, rfl⟩ ⟨rfl, Nat.succ_pos _⟩ rfl rfl
def fX1_66 (f : Nat → tr_K) : Nat → tr_K := (tr_up (tr_up (tr_up f 66 (.inr (.inr (0, (([.ref 0, .int 0] : List Value).set 1 (.int (-1))))))) 67 (.inl (0, 60, fun _ => 0))) 66 (.inr (.inr (0, ((([.ref 0, .int 0] : List Value).set 1 (.int (-1))).set 0 (.ref 67))))))
abbrev uX1_66 (f : Nat → tr_K) : tr_UX := (cX1_init, 2, RX1, 1, 1, 60, 66, 67, fX1_66 f)
set_option maxRecDepth 100000 in
set_option maxHeartbeats 4000000 in
theorem J_X1_66 (f : Nat → tr_K) (hf : f 66 = .inr (.inr (0, [.ref 0, .int 0]))) : tr_J yX1_init (uX1_66 f) [.ref 66, .int 60] 66 f := by
  refine tr_J.of pn_X1 rfl rfl rfl (Nat.le_of_ble_eq_true rfl) (fun Wt => ?_)
  refine tr_U.aload_n (i := 0) dX1_init_0 rfl rfl (Nat.succ_pos _) ?_
  refine tr_U.objInit (Nat.succ_pos _) ml_X1_3 w_objI w_objC (Nat.le_of_ble_eq_true rfl) (Nat.le_of_ble_eq_true rfl) dX1_init_1 ?_
  refine tr_U.aload_n (i := 0) dX1_init_4 rfl rfl (Nat.succ_pos _) ?_
  refine tr_U.iconst (v := (-1 : Int32)) dX1_init_5 (by decide) ?_
  refine tr_U.put fl_X1_9 (Nat.succ_pos _) (Nat.le_of_ble_eq_true rfl) hf (fun _ => ⟨rfl, rfl⟩) (Nat.le_of_ble_eq_true rfl) dX1_init_6 ?_
  refine tr_U.aload_n (i := 0) dX1_init_9 rfl rfl (Nat.succ_pos _) ?_
  refine tr_U.iload_n (i := 1) dX1_init_10 rfl rfl ?_
  refine tr_U.newa (t := 0) (N := 60) (ty := .int) rfl w_ac_int (fun _ => rfl) rfl ra_int (by decide) (by decide) (by decide) ⟨Nat.le_of_ble_eq_true rfl, Nat.le_of_ble_eq_true rfl⟩ ⟨rfl, Nat.succ_pos _, rfl⟩ dX1_init_11 ?_
  refine tr_U.putF fl_X1_15 (Nat.succ_pos _) (Nat.le_of_ble_eq_true rfl) rfl (fun _ => ⟨rfl, rfl⟩) (Nat.le_of_ble_eq_true rfl) (fun _ _ _ h => by cases h; rfl) dX1_init_13 ?_
  exact tr_U.ret dX1_init_16 ⟨rfl, rfl⟩ ⟨rfl, Nat.succ_pos _⟩ rfl rfl
def fX1_68 (f : Nat → tr_K) : Nat → tr_K := (tr_up (tr_up (tr_up f 68 (.inr (.inr (0, (([.ref 0, .int 0] : List Value).set 1 (.int (-1))))))) 69 (.inl (0, 60, fun _ => 0))) 68 (.inr (.inr (0, ((([.ref 0, .int 0] : List Value).set 1 (.int (-1))).set 0 (.ref 69))))))
abbrev uX1_68 (f : Nat → tr_K) : tr_UX := (cX1_init, 2, RX1, 1, 1, 60, 68, 69, fX1_68 f)
set_option maxRecDepth 100000 in
set_option maxHeartbeats 4000000 in
theorem J_X1_68 (f : Nat → tr_K) (hf : f 68 = .inr (.inr (0, [.ref 0, .int 0]))) : tr_J yX1_init (uX1_68 f) [.ref 68, .int 60] 68 f := by
  refine tr_J.of pn_X1 rfl rfl rfl (Nat.le_of_ble_eq_true rfl) (fun Wt => ?_)
  refine tr_U.aload_n (i := 0) dX1_init_0 rfl rfl (Nat.succ_pos _) ?_
  refine tr_U.objInit (Nat.succ_pos _) ml_X1_3 w_objI w_objC (Nat.le_of_ble_eq_true rfl) (Nat.le_of_ble_eq_true rfl) dX1_init_1 ?_
  refine tr_U.aload_n (i := 0) dX1_init_4 rfl rfl (Nat.succ_pos _) ?_
  refine tr_U.iconst (v := (-1 : Int32)) dX1_init_5 (by decide) ?_
  refine tr_U.put fl_X1_9 (Nat.succ_pos _) (Nat.le_of_ble_eq_true rfl) hf (fun _ => ⟨rfl, rfl⟩) (Nat.le_of_ble_eq_true rfl) dX1_init_6 ?_
  refine tr_U.aload_n (i := 0) dX1_init_9 rfl rfl (Nat.succ_pos _) ?_
  refine tr_U.iload_n (i := 1) dX1_init_10 rfl rfl ?_
  refine tr_U.newa (t := 0) (N := 60) (ty := .int) rfl w_ac_int (fun _ => rfl) rfl ra_int (by decide) (by decide) (by decide) ⟨Nat.le_of_ble_eq_true rfl, Nat.le_of_ble_eq_true rfl⟩ ⟨rfl, Nat.succ_pos _, rfl⟩ dX1_init_11 ?_
  refine tr_U.putF fl_X1_15 (Nat.succ_pos _) (Nat.le_of_ble_eq_true rfl) rfl (fun _ => ⟨rfl, rfl⟩) (Nat.le_of_ble_eq_true rfl) (fun _ _ _ h => by cases h; rfl) dX1_init_13 ?_
  exact tr_U.ret dX1_init_16 ⟨rfl, rfl⟩ ⟨rfl, Nat.succ_pos _⟩ rfl rfl
def fX1_70 (f : Nat → tr_K) : Nat → tr_K := (tr_up (tr_up (tr_up f 70 (.inr (.inr (0, (([.ref 0, .int 0] : List Value).set 1 (.int (-1))))))) 71 (.inl (0, 60, fun _ => 0))) 70 (.inr (.inr (0, ((([.ref 0, .int 0] : List Value).set 1 (.int (-1))).set 0 (.ref 71))))))
abbrev uX1_70 (f : Nat → tr_K) : tr_UX := (cX1_init, 2, RX1, 1, 1, 60, 70, 71, fX1_70 f)
set_option maxRecDepth 100000 in
set_option maxHeartbeats 4000000 in
theorem J_X1_70 (f : Nat → tr_K) (hf : f 70 = .inr (.inr (0, [.ref 0, .int 0]))) : tr_J yX1_init (uX1_70 f) [.ref 70, .int 60] 70 f := by
  refine tr_J.of pn_X1 rfl rfl rfl (Nat.le_of_ble_eq_true rfl) (fun Wt => ?_)
  refine tr_U.aload_n (i := 0) dX1_init_0 rfl rfl (Nat.succ_pos _) ?_
  refine tr_U.objInit (Nat.succ_pos _) ml_X1_3 w_objI w_objC (Nat.le_of_ble_eq_true rfl) (Nat.le_of_ble_eq_true rfl) dX1_init_1 ?_
  refine tr_U.aload_n (i := 0) dX1_init_4 rfl rfl (Nat.succ_pos _) ?_
  refine tr_U.iconst (v := (-1 : Int32)) dX1_init_5 (by decide) ?_
  refine tr_U.put fl_X1_9 (Nat.succ_pos _) (Nat.le_of_ble_eq_true rfl) hf (fun _ => ⟨rfl, rfl⟩) (Nat.le_of_ble_eq_true rfl) dX1_init_6 ?_
  refine tr_U.aload_n (i := 0) dX1_init_9 rfl rfl (Nat.succ_pos _) ?_
  refine tr_U.iload_n (i := 1) dX1_init_10 rfl rfl ?_
  refine tr_U.newa (t := 0) (N := 60) (ty := .int) rfl w_ac_int (fun _ => rfl) rfl ra_int (by decide) (by decide) (by decide) ⟨Nat.le_of_ble_eq_true rfl, Nat.le_of_ble_eq_true rfl⟩ ⟨rfl, Nat.succ_pos _, rfl⟩ dX1_init_11 ?_
  refine tr_U.putF fl_X1_15 (Nat.succ_pos _) (Nat.le_of_ble_eq_true rfl) rfl (fun _ => ⟨rfl, rfl⟩) (Nat.le_of_ble_eq_true rfl) (fun _ _ _ h => by cases h; rfl) dX1_init_13 ?_
  exact tr_U.ret dX1_init_16 ⟨rfl, rfl⟩ ⟨rfl, Nat.succ_pos _⟩ rfl rfl
def fX1_72 (f : Nat → tr_K) : Nat → tr_K := (tr_up (tr_up (tr_up f 72 (.inr (.inr (0, (([.ref 0, .int 0] : List Value).set 1 (.int (-1))))))) 73 (.inl (0, 60, fun _ => 0))) 72 (.inr (.inr (0, ((([.ref 0, .int 0] : List Value).set 1 (.int (-1))).set 0 (.ref 73))))))
abbrev uX1_72 (f : Nat → tr_K) : tr_UX := (cX1_init, 2, RX1, 1, 1, 60, 72, 73, fX1_72 f)
set_option maxRecDepth 100000 in
set_option maxHeartbeats 4000000 in
theorem J_X1_72 (f : Nat → tr_K) (hf : f 72 = .inr (.inr (0, [.ref 0, .int 0]))) : tr_J yX1_init (uX1_72 f) [.ref 72, .int 60] 72 f := by
  refine tr_J.of pn_X1 rfl rfl rfl (Nat.le_of_ble_eq_true rfl) (fun Wt => ?_)
  refine tr_U.aload_n (i := 0) dX1_init_0 rfl rfl (Nat.succ_pos _) ?_
  refine tr_U.objInit (Nat.succ_pos _) ml_X1_3 w_objI w_objC (Nat.le_of_ble_eq_true rfl) (Nat.le_of_ble_eq_true rfl) dX1_init_1 ?_
  refine tr_U.aload_n (i := 0) dX1_init_4 rfl rfl (Nat.succ_pos _) ?_
  refine tr_U.iconst (v := (-1 : Int32)) dX1_init_5 (by decide) ?_
  refine tr_U.put fl_X1_9 (Nat.succ_pos _) (Nat.le_of_ble_eq_true rfl) hf (fun _ => ⟨rfl, rfl⟩) (Nat.le_of_ble_eq_true rfl) dX1_init_6 ?_
  refine tr_U.aload_n (i := 0) dX1_init_9 rfl rfl (Nat.succ_pos _) ?_
  refine tr_U.iload_n (i := 1) dX1_init_10 rfl rfl ?_
  refine tr_U.newa (t := 0) (N := 60) (ty := .int) rfl w_ac_int (fun _ => rfl) rfl ra_int (by decide) (by decide) (by decide) ⟨Nat.le_of_ble_eq_true rfl, Nat.le_of_ble_eq_true rfl⟩ ⟨rfl, Nat.succ_pos _, rfl⟩ dX1_init_11 ?_
  refine tr_U.putF fl_X1_15 (Nat.succ_pos _) (Nat.le_of_ble_eq_true rfl) rfl (fun _ => ⟨rfl, rfl⟩) (Nat.le_of_ble_eq_true rfl) (fun _ _ _ h => by cases h; rfl) dX1_init_13 ?_
  exact tr_U.ret dX1_init_16 ⟨rfl, rfl⟩ ⟨rfl, Nat.succ_pos _⟩ rfl rfl
def fX1_74 (f : Nat → tr_K) : Nat → tr_K := (tr_up (tr_up (tr_up f 74 (.inr (.inr (0, (([.ref 0, .int 0] : List Value).set 1 (.int (-1))))))) 75 (.inl (0, 120, fun _ => 0))) 74 (.inr (.inr (0, ((([.ref 0, .int 0] : List Value).set 1 (.int (-1))).set 0 (.ref 75))))))
abbrev uX1_74 (f : Nat → tr_K) : tr_UX := (cX1_init, 2, RX1, 1, 1, 120, 74, 75, fX1_74 f)
set_option maxRecDepth 100000 in
set_option maxHeartbeats 4000000 in
theorem J_X1_74 (f : Nat → tr_K) (hf : f 74 = .inr (.inr (0, [.ref 0, .int 0]))) : tr_J yX1_init (uX1_74 f) [.ref 74, .int 120] 74 f := by
  refine tr_J.of pn_X1 rfl rfl rfl (Nat.le_of_ble_eq_true rfl) (fun Wt => ?_)
  refine tr_U.aload_n (i := 0) dX1_init_0 rfl rfl (Nat.succ_pos _) ?_
  refine tr_U.objInit (Nat.succ_pos _) ml_X1_3 w_objI w_objC (Nat.le_of_ble_eq_true rfl) (Nat.le_of_ble_eq_true rfl) dX1_init_1 ?_
  refine tr_U.aload_n (i := 0) dX1_init_4 rfl rfl (Nat.succ_pos _) ?_
  refine tr_U.iconst (v := (-1 : Int32)) dX1_init_5 (by decide) ?_
  refine tr_U.put fl_X1_9 (Nat.succ_pos _) (Nat.le_of_ble_eq_true rfl) hf (fun _ => ⟨rfl, rfl⟩) (Nat.le_of_ble_eq_true rfl) dX1_init_6 ?_
  refine tr_U.aload_n (i := 0) dX1_init_9 rfl rfl (Nat.succ_pos _) ?_
  refine tr_U.iload_n (i := 1) dX1_init_10 rfl rfl ?_
  refine tr_U.newa (t := 0) (N := 120) (ty := .int) rfl w_ac_int (fun _ => rfl) rfl ra_int (by decide) (by decide) (by decide) ⟨Nat.le_of_ble_eq_true rfl, Nat.le_of_ble_eq_true rfl⟩ ⟨rfl, Nat.succ_pos _, rfl⟩ dX1_init_11 ?_
  refine tr_U.putF fl_X1_15 (Nat.succ_pos _) (Nat.le_of_ble_eq_true rfl) rfl (fun _ => ⟨rfl, rfl⟩) (Nat.le_of_ble_eq_true rfl) (fun _ _ _ h => by cases h; rfl) dX1_init_13 ?_
  exact tr_U.ret dX1_init_16 ⟨rfl, rfl⟩ ⟨rfl, Nat.succ_pos _⟩ rfl rfl
def fX1_76 (f : Nat → tr_K) : Nat → tr_K := (tr_up (tr_up (tr_up f 76 (.inr (.inr (0, (([.ref 0, .int 0] : List Value).set 1 (.int (-1))))))) 77 (.inl (0, 120, fun _ => 0))) 76 (.inr (.inr (0, ((([.ref 0, .int 0] : List Value).set 1 (.int (-1))).set 0 (.ref 77))))))
abbrev uX1_76 (f : Nat → tr_K) : tr_UX := (cX1_init, 2, RX1, 1, 1, 120, 76, 77, fX1_76 f)
set_option maxRecDepth 100000 in
set_option maxHeartbeats 4000000 in
theorem J_X1_76 (f : Nat → tr_K) (hf : f 76 = .inr (.inr (0, [.ref 0, .int 0]))) : tr_J yX1_init (uX1_76 f) [.ref 76, .int 120] 76 f := by
  refine tr_J.of pn_X1 rfl rfl rfl (Nat.le_of_ble_eq_true rfl) (fun Wt => ?_)
  refine tr_U.aload_n (i := 0) dX1_init_0 rfl rfl (Nat.succ_pos _) ?_
  refine tr_U.objInit (Nat.succ_pos _) ml_X1_3 w_objI w_objC (Nat.le_of_ble_eq_true rfl) (Nat.le_of_ble_eq_true rfl) dX1_init_1 ?_
  refine tr_U.aload_n (i := 0) dX1_init_4 rfl rfl (Nat.succ_pos _) ?_
  refine tr_U.iconst (v := (-1 : Int32)) dX1_init_5 (by decide) ?_
  refine tr_U.put fl_X1_9 (Nat.succ_pos _) (Nat.le_of_ble_eq_true rfl) hf (fun _ => ⟨rfl, rfl⟩) (Nat.le_of_ble_eq_true rfl) dX1_init_6 ?_
  refine tr_U.aload_n (i := 0) dX1_init_9 rfl rfl (Nat.succ_pos _) ?_
  refine tr_U.iload_n (i := 1) dX1_init_10 rfl rfl ?_
  refine tr_U.newa (t := 0) (N := 120) (ty := .int) rfl w_ac_int (fun _ => rfl) rfl ra_int (by decide) (by decide) (by decide) ⟨Nat.le_of_ble_eq_true rfl, Nat.le_of_ble_eq_true rfl⟩ ⟨rfl, Nat.succ_pos _, rfl⟩ dX1_init_11 ?_
  refine tr_U.putF fl_X1_15 (Nat.succ_pos _) (Nat.le_of_ble_eq_true rfl) rfl (fun _ => ⟨rfl, rfl⟩) (Nat.le_of_ble_eq_true rfl) (fun _ _ _ h => by cases h; rfl) dX1_init_13 ?_
  exact tr_U.ret dX1_init_16 ⟨rfl, rfl⟩ ⟨rfl, Nat.succ_pos _⟩ rfl rfl
def fX1_78 (f : Nat → tr_K) : Nat → tr_K := (tr_up (tr_up (tr_up f 78 (.inr (.inr (0, (([.ref 0, .int 0] : List Value).set 1 (.int (-1))))))) 79 (.inl (0, 120, fun _ => 0))) 78 (.inr (.inr (0, ((([.ref 0, .int 0] : List Value).set 1 (.int (-1))).set 0 (.ref 79))))))
abbrev uX1_78 (f : Nat → tr_K) : tr_UX := (cX1_init, 2, RX1, 1, 1, 120, 78, 79, fX1_78 f)
set_option maxRecDepth 100000 in
set_option maxHeartbeats 4000000 in
theorem J_X1_78 (f : Nat → tr_K) (hf : f 78 = .inr (.inr (0, [.ref 0, .int 0]))) : tr_J yX1_init (uX1_78 f) [.ref 78, .int 120] 78 f := by
  refine tr_J.of pn_X1 rfl rfl rfl (Nat.le_of_ble_eq_true rfl) (fun Wt => ?_)
  refine tr_U.aload_n (i := 0) dX1_init_0 rfl rfl (Nat.succ_pos _) ?_
  refine tr_U.objInit (Nat.succ_pos _) ml_X1_3 w_objI w_objC (Nat.le_of_ble_eq_true rfl) (Nat.le_of_ble_eq_true rfl) dX1_init_1 ?_
  refine tr_U.aload_n (i := 0) dX1_init_4 rfl rfl (Nat.succ_pos _) ?_
  refine tr_U.iconst (v := (-1 : Int32)) dX1_init_5 (by decide) ?_
  refine tr_U.put fl_X1_9 (Nat.succ_pos _) (Nat.le_of_ble_eq_true rfl) hf (fun _ => ⟨rfl, rfl⟩) (Nat.le_of_ble_eq_true rfl) dX1_init_6 ?_
  refine tr_U.aload_n (i := 0) dX1_init_9 rfl rfl (Nat.succ_pos _) ?_
  refine tr_U.iload_n (i := 1) dX1_init_10 rfl rfl ?_
  refine tr_U.newa (t := 0) (N := 120) (ty := .int) rfl w_ac_int (fun _ => rfl) rfl ra_int (by decide) (by decide) (by decide) ⟨Nat.le_of_ble_eq_true rfl, Nat.le_of_ble_eq_true rfl⟩ ⟨rfl, Nat.succ_pos _, rfl⟩ dX1_init_11 ?_
  refine tr_U.putF fl_X1_15 (Nat.succ_pos _) (Nat.le_of_ble_eq_true rfl) rfl (fun _ => ⟨rfl, rfl⟩) (Nat.le_of_ble_eq_true rfl) (fun _ _ _ h => by cases h; rfl) dX1_init_13 ?_
  exact tr_U.ret dX1_init_16 ⟨rfl, rfl⟩ ⟨rfl, Nat.succ_pos _⟩ rfl rfl
def fX1_80 (f : Nat → tr_K) : Nat → tr_K := (tr_up (tr_up (tr_up f 80 (.inr (.inr (0, (([.ref 0, .int 0] : List Value).set 1 (.int (-1))))))) 81 (.inl (0, 120, fun _ => 0))) 80 (.inr (.inr (0, ((([.ref 0, .int 0] : List Value).set 1 (.int (-1))).set 0 (.ref 81))))))
abbrev uX1_80 (f : Nat → tr_K) : tr_UX := (cX1_init, 2, RX1, 1, 1, 120, 80, 81, fX1_80 f)
set_option maxRecDepth 100000 in
set_option maxHeartbeats 4000000 in
theorem J_X1_80 (f : Nat → tr_K) (hf : f 80 = .inr (.inr (0, [.ref 0, .int 0]))) : tr_J yX1_init (uX1_80 f) [.ref 80, .int 120] 80 f := by
  refine tr_J.of pn_X1 rfl rfl rfl (Nat.le_of_ble_eq_true rfl) (fun Wt => ?_)
  refine tr_U.aload_n (i := 0) dX1_init_0 rfl rfl (Nat.succ_pos _) ?_
  refine tr_U.objInit (Nat.succ_pos _) ml_X1_3 w_objI w_objC (Nat.le_of_ble_eq_true rfl) (Nat.le_of_ble_eq_true rfl) dX1_init_1 ?_
  refine tr_U.aload_n (i := 0) dX1_init_4 rfl rfl (Nat.succ_pos _) ?_
  refine tr_U.iconst (v := (-1 : Int32)) dX1_init_5 (by decide) ?_
  refine tr_U.put fl_X1_9 (Nat.succ_pos _) (Nat.le_of_ble_eq_true rfl) hf (fun _ => ⟨rfl, rfl⟩) (Nat.le_of_ble_eq_true rfl) dX1_init_6 ?_
  refine tr_U.aload_n (i := 0) dX1_init_9 rfl rfl (Nat.succ_pos _) ?_
  refine tr_U.iload_n (i := 1) dX1_init_10 rfl rfl ?_
  refine tr_U.newa (t := 0) (N := 120) (ty := .int) rfl w_ac_int (fun _ => rfl) rfl ra_int (by decide) (by decide) (by decide) ⟨Nat.le_of_ble_eq_true rfl, Nat.le_of_ble_eq_true rfl⟩ ⟨rfl, Nat.succ_pos _, rfl⟩ dX1_init_11 ?_
  refine tr_U.putF fl_X1_15 (Nat.succ_pos _) (Nat.le_of_ble_eq_true rfl) rfl (fun _ => ⟨rfl, rfl⟩) (Nat.le_of_ble_eq_true rfl) (fun _ _ _ h => by cases h; rfl) dX1_init_13 ?_
  exact tr_U.ret dX1_init_16 ⟨rfl, rfl⟩ ⟨rfl, Nat.succ_pos _⟩ rfl rfl
def fX6_1 (f : Nat → tr_K) : Nat → tr_K := (tr_up (fX1_80 (tr_up (tr_up (fX1_78 (tr_up (tr_up (fX1_76 (tr_up (tr_up (fX1_74 (tr_up (tr_up (fX1_72 (tr_up (tr_up (fX1_70 (tr_up (tr_up (fX1_68 (tr_up (tr_up (fX1_66 (tr_up (tr_up (fX1_64 (tr_up (tr_up (fX1_62 (tr_up (tr_up (tr_up (tr_up (tr_up (tr_up (tr_up (tr_up (tr_up (tr_up (tr_up (tr_up (tr_up (tr_up (tr_up (tr_up (tr_up (tr_up (tr_up (tr_up (fX2_24 (tr_up (tr_up (fX3_4 (tr_up (tr_up (tr_up (tr_up (tr_up f 2 (.inr (.inl (3, 6, fun _ => 0)))) 1 (.inr (.inr (5, ([.ref 0, .ref 0, .ref 0, .ref 0, .ref 0, .ref 0, .ref 0, .ref 0, .ref 0, .ref 0, .ref 0, .int 0, .int 0, .long 0, .long 0, .int 0, .ref 0] : List Value).set 0 (.ref 2))))) 3 (.inr (.inl (3, 4, fun _ => 0)))) 1 (.inr (.inr (5, ([.ref 2, .ref 0, .ref 0, .ref 0, .ref 0, .ref 0, .ref 0, .ref 0, .ref 0, .ref 0, .ref 0, .int 0, .int 0, .long 0, .long 0, .int 0, .ref 0] : List Value).set 1 (.ref 3))))) 4 (.inr (.inr (2, [.ref 0, .ref 0, .int 0]))))) 1 (.inr (.inr (5, ([.ref 2, .ref 3, .ref 0, .ref 0, .ref 0, .ref 0, .ref 0, .ref 0, .ref 0, .ref 0, .ref 0, .int 0, .int 0, .long 0, .long 0, .int 0, .ref 0] : List Value).set 2 (.ref 4))))) 24 (.inr (.inr (1, [.ref 0, .ref 0, .ref 0, .int 0, .int 0, .int 0, .int 0, .ref 0, .ref 0]))))) 1 (.inr (.inr (5, ([.ref 2, .ref 3, .ref 4, .ref 0, .ref 0, .ref 0, .ref 0, .ref 0, .ref 0, .ref 0, .ref 0, .int 0, .int 0, .long 0, .long 0, .int 0, .ref 0] : List Value).set 3 (.ref 24))))) 1 (.inr (.inr (5, ([.ref 2, .ref 3, .ref 4, .ref 24, .ref 0, .ref 0, .ref 0, .ref 0, .ref 0, .ref 0, .ref 0, .int 0, .int 0, .long 0, .long 0, .int 0, .ref 0] : List Value).set 4 (.ref 25))))) 1 (.inr (.inr (5, ([.ref 2, .ref 3, .ref 4, .ref 24, .ref 25, .ref 0, .ref 0, .ref 0, .ref 0, .ref 0, .ref 0, .int 0, .int 0, .long 0, .long 0, .int 0, .ref 0] : List Value).set 5 (.ref 26))))) 57 (.inl (0, 6, fun _ => 0))) 1 (.inr (.inr (5, ([.ref 2, .ref 3, .ref 4, .ref 24, .ref 25, .ref 26, .ref 0, .ref 0, .ref 0, .ref 0, .ref 0, .int 0, .int 0, .long 0, .long 0, .int 0, .ref 0] : List Value).set 6 (.ref 57))))) 58 (.inl (0, 10, fun _ => 0))) 1 (.inr (.inr (5, ([.ref 2, .ref 3, .ref 4, .ref 24, .ref 25, .ref 26, .ref 57, .ref 0, .ref 0, .ref 0, .ref 0, .int 0, .int 0, .long 0, .long 0, .int 0, .ref 0] : List Value).set 7 (.ref 58))))) 59 (.inl (0, 10, fun _ => 0))) 1 (.inr (.inr (5, ([.ref 2, .ref 3, .ref 4, .ref 24, .ref 25, .ref 26, .ref 57, .ref 58, .ref 0, .ref 0, .ref 0, .int 0, .int 0, .long 0, .long 0, .int 0, .ref 0] : List Value).set 8 (.ref 59))))) 60 (.inl (0, 10, fun _ => 0))) 1 (.inr (.inr (5, ([.ref 2, .ref 3, .ref 4, .ref 24, .ref 25, .ref 26, .ref 57, .ref 58, .ref 59, .ref 0, .ref 0, .int 0, .int 0, .long 0, .long 0, .int 0, .ref 0] : List Value).set 9 (.ref 60))))) 61 (.inl (0, 10, fun _ => 0))) 1 (.inr (.inr (5, ([.ref 2, .ref 3, .ref 4, .ref 24, .ref 25, .ref 26, .ref 57, .ref 58, .ref 59, .ref 60, .ref 0, .int 0, .int 0, .long 0, .long 0, .int 0, .ref 0] : List Value).set 10 (.ref 61))))) 1 (.inr (.inr (5, ([.ref 2, .ref 3, .ref 4, .ref 24, .ref 25, .ref 26, .ref 57, .ref 58, .ref 59, .ref 60, .ref 61, .int 0, .int 0, .long 0, .long 0, .int 0, .ref 0] : List Value).set 11 (.int 0))))) 1 (.inr (.inr (5, ([.ref 2, .ref 3, .ref 4, .ref 24, .ref 25, .ref 26, .ref 57, .ref 58, .ref 59, .ref 60, .ref 61, .int 0, .int 0, .long 0, .long 0, .int 0, .ref 0] : List Value).set 12 (.int 0))))) 1 (.inr (.inr (5, ([.ref 2, .ref 3, .ref 4, .ref 24, .ref 25, .ref 26, .ref 57, .ref 58, .ref 59, .ref 60, .ref 61, .int 0, .int 0, .long 0, .long 0, .int 0, .ref 0] : List Value).set 13 (.long 0))))) 1 (.inr (.inr (5, ([.ref 2, .ref 3, .ref 4, .ref 24, .ref 25, .ref 26, .ref 57, .ref 58, .ref 59, .ref 60, .ref 61, .int 0, .int 0, .long 0, .long 0, .int 0, .ref 0] : List Value).set 14 (.long 1))))) 1 (.inr (.inr (5, ([.ref 2, .ref 3, .ref 4, .ref 24, .ref 25, .ref 26, .ref 57, .ref 58, .ref 59, .ref 60, .ref 61, .int 0, .int 0, .long 0, .long 1, .int 0, .ref 0] : List Value).set 15 (.int (-9)))))) 1 (.inr (.inr (5, ([.ref 2, .ref 3, .ref 4, .ref 24, .ref 25, .ref 26, .ref 57, .ref 58, .ref 59, .ref 60, .ref 61, .int 0, .int 0, .long 0, .long 1, .int (-9), .ref 0] : List Value).set 16 (.ref 0))))) 62 (.inr (.inr (0, [.ref 0, .int 0]))))) 2 (.inr (.inl (3, 6, (fun j => if j = (0 : Int32).toNatClampNeg then 62 else (fun _ => 0) j))))) 64 (.inr (.inr (0, [.ref 0, .int 0]))))) 2 (.inr (.inl (3, 6, (fun j => if j = (1 : Int32).toNatClampNeg then 64 else (fun j => if j = (0 : Int32).toNatClampNeg then 62 else (fun _ => 0) j) j))))) 66 (.inr (.inr (0, [.ref 0, .int 0]))))) 2 (.inr (.inl (3, 6, (fun j => if j = (2 : Int32).toNatClampNeg then 66 else (fun j => if j = (1 : Int32).toNatClampNeg then 64 else (fun j => if j = (0 : Int32).toNatClampNeg then 62 else (fun _ => 0) j) j) j))))) 68 (.inr (.inr (0, [.ref 0, .int 0]))))) 2 (.inr (.inl (3, 6, (fun j => if j = (3 : Int32).toNatClampNeg then 68 else (fun j => if j = (2 : Int32).toNatClampNeg then 66 else (fun j => if j = (1 : Int32).toNatClampNeg then 64 else (fun j => if j = (0 : Int32).toNatClampNeg then 62 else (fun _ => 0) j) j) j) j))))) 70 (.inr (.inr (0, [.ref 0, .int 0]))))) 2 (.inr (.inl (3, 6, (fun j => if j = (4 : Int32).toNatClampNeg then 70 else (fun j => if j = (3 : Int32).toNatClampNeg then 68 else (fun j => if j = (2 : Int32).toNatClampNeg then 66 else (fun j => if j = (1 : Int32).toNatClampNeg then 64 else (fun j => if j = (0 : Int32).toNatClampNeg then 62 else (fun _ => 0) j) j) j) j) j))))) 72 (.inr (.inr (0, [.ref 0, .int 0]))))) 2 (.inr (.inl (3, 6, (fun j => if j = (5 : Int32).toNatClampNeg then 72 else (fun j => if j = (4 : Int32).toNatClampNeg then 70 else (fun j => if j = (3 : Int32).toNatClampNeg then 68 else (fun j => if j = (2 : Int32).toNatClampNeg then 66 else (fun j => if j = (1 : Int32).toNatClampNeg then 64 else (fun j => if j = (0 : Int32).toNatClampNeg then 62 else (fun _ => 0) j) j) j) j) j) j))))) 74 (.inr (.inr (0, [.ref 0, .int 0]))))) 3 (.inr (.inl (3, 4, (fun j => if j = (0 : Int32).toNatClampNeg then 74 else (fun _ => 0) j))))) 76 (.inr (.inr (0, [.ref 0, .int 0]))))) 3 (.inr (.inl (3, 4, (fun j => if j = (1 : Int32).toNatClampNeg then 76 else (fun j => if j = (0 : Int32).toNatClampNeg then 74 else (fun _ => 0) j) j))))) 78 (.inr (.inr (0, [.ref 0, .int 0]))))) 3 (.inr (.inl (3, 4, (fun j => if j = (2 : Int32).toNatClampNeg then 78 else (fun j => if j = (1 : Int32).toNatClampNeg then 76 else (fun j => if j = (0 : Int32).toNatClampNeg then 74 else (fun _ => 0) j) j) j))))) 80 (.inr (.inr (0, [.ref 0, .int 0]))))) 3 (.inr (.inl (3, 4, (fun j => if j = (3 : Int32).toNatClampNeg then 80 else (fun j => if j = (2 : Int32).toNatClampNeg then 78 else (fun j => if j = (1 : Int32).toNatClampNeg then 76 else (fun j => if j = (0 : Int32).toNatClampNeg then 74 else (fun _ => 0) j) j) j) j)))))
abbrev uX6_1 (f : Nat → tr_K) : tr_UX := (cX6_init, 2, RX6, 4, 80, 84788, 1, 81, fX6_1 f)
set_option maxRecDepth 100000 in
set_option maxHeartbeats 4000000 in
theorem J_X6_1 (f : Nat → tr_K) (hf : f 1 = .inr (.inr (5, [.ref 0, .ref 0, .ref 0, .ref 0, .ref 0, .ref 0, .ref 0, .ref 0, .ref 0, .ref 0, .ref 0, .int 0, .int 0, .long 0, .long 0, .int 0, .ref 0]))) : tr_J yX6_init (uX6_1 f) [.ref 1] 1 f := by
  refine tr_J.of pn_X6 rfl rfl rfl (Nat.le_of_ble_eq_true rfl) (fun Wt => ?_)
  refine tr_U.aload_n (i := 0) dX6_init_0 rfl rfl (Nat.succ_pos _) ?_
  refine tr_U.objInit (Nat.succ_pos _) ml_X6_3 w_objI w_objC (Nat.le_of_ble_eq_true rfl) (Nat.le_of_ble_eq_true rfl) dX6_init_1 ?_
  refine tr_U.aload_n (i := 0) dX6_init_4 rfl rfl (Nat.succ_pos _) ?_
  refine tr_U.bipush (v := (6 : Int32)) dX6_init_5 (by decide) ?_
  refine tr_U.newq (N := 6) cl_X6_9 (by decide) (by decide) (by decide) ⟨Nat.le_of_ble_eq_true rfl, Nat.le_of_ble_eq_true rfl⟩ ⟨rfl, Nat.succ_pos _, rfl⟩ dX6_init_7 ?_
  obtain ⟨g1, e1⟩ : ∃ g, g = tr_up f 2 (.inr (.inl (3, 6, fun _ => 0))) := ⟨_, rfl⟩
  refine tr_U.ren (n1 := 2) (c1 := 1) (s1 := 6) e1 rfl rfl rfl ?_
  have k1_1 : g1 1 = .inr (.inr (5, [.ref 0, .ref 0, .ref 0, .ref 0, .ref 0, .ref 0, .ref 0, .ref 0, .ref 0, .ref 0, .ref 0, .int 0, .int 0, .long 0, .long 0, .int 0, .ref 0])) := by rw [e1]; exact hf
  have k1_2 : g1 2 = .inr (.inl (3, 6, (fun _ => 0))) := by rw [e1]; rfl
  refine tr_U.putF fl_X6_11 (Nat.succ_pos _) (Nat.le_of_ble_eq_true rfl) k1_1 (fun _ => ⟨rfl, rfl⟩) (Nat.le_of_ble_eq_true rfl) (fun _ _ _ h => by cases h; rfl) dX6_init_10 ?_
  obtain ⟨g2, e2⟩ : ∃ g, g = tr_up g1 1 (.inr (.inr (5, ([.ref 0, .ref 0, .ref 0, .ref 0, .ref 0, .ref 0, .ref 0, .ref 0, .ref 0, .ref 0, .ref 0, .int 0, .int 0, .long 0, .long 0, .int 0, .ref 0] : List Value).set 0 (.ref 2)))) := ⟨_, rfl⟩
  refine tr_U.ren (n1 := 2) (c1 := 1) (s1 := 6) e2 rfl rfl rfl ?_
  have k2_1 : g2 1 = .inr (.inr (5, [.ref 2, .ref 0, .ref 0, .ref 0, .ref 0, .ref 0, .ref 0, .ref 0, .ref 0, .ref 0, .ref 0, .int 0, .int 0, .long 0, .long 0, .int 0, .ref 0])) := by rw [e2]; rfl
  have k2_2 : g2 2 = .inr (.inl (3, 6, (fun _ => 0))) := by rw [e2]; exact k1_2
  refine tr_U.aload_n (i := 0) dX6_init_13 rfl rfl (Nat.succ_pos _) ?_
  refine tr_U.iconst (v := (4 : Int32)) dX6_init_14 (by decide) ?_
  refine tr_U.newq (N := 4) cl_X6_9 (by decide) (by decide) (by decide) ⟨Nat.le_of_ble_eq_true rfl, Nat.le_of_ble_eq_true rfl⟩ ⟨rfl, Nat.succ_pos _, rfl⟩ dX6_init_15 ?_
  obtain ⟨g3, e3⟩ : ∃ g, g = tr_up g2 3 (.inr (.inl (3, 4, fun _ => 0))) := ⟨_, rfl⟩
  refine tr_U.ren (n1 := 3) (c1 := 2) (s1 := 10) e3 rfl rfl rfl ?_
  have k3_1 : g3 1 = .inr (.inr (5, [.ref 2, .ref 0, .ref 0, .ref 0, .ref 0, .ref 0, .ref 0, .ref 0, .ref 0, .ref 0, .ref 0, .int 0, .int 0, .long 0, .long 0, .int 0, .ref 0])) := by rw [e3]; exact k2_1
  have k3_2 : g3 2 = .inr (.inl (3, 6, (fun _ => 0))) := by rw [e3]; exact k2_2
  have k3_3 : g3 3 = .inr (.inl (3, 4, (fun _ => 0))) := by rw [e3]; rfl
  refine tr_U.putF fl_X6_15 (Nat.succ_pos _) (Nat.le_of_ble_eq_true rfl) k3_1 (fun _ => ⟨rfl, rfl⟩) (Nat.le_of_ble_eq_true rfl) (fun _ _ _ h => by cases h; rfl) dX6_init_18 ?_
  obtain ⟨g4, e4⟩ : ∃ g, g = tr_up g3 1 (.inr (.inr (5, ([.ref 2, .ref 0, .ref 0, .ref 0, .ref 0, .ref 0, .ref 0, .ref 0, .ref 0, .ref 0, .ref 0, .int 0, .int 0, .long 0, .long 0, .int 0, .ref 0] : List Value).set 1 (.ref 3)))) := ⟨_, rfl⟩
  refine tr_U.ren (n1 := 3) (c1 := 2) (s1 := 10) e4 rfl rfl rfl ?_
  have k4_1 : g4 1 = .inr (.inr (5, [.ref 2, .ref 3, .ref 0, .ref 0, .ref 0, .ref 0, .ref 0, .ref 0, .ref 0, .ref 0, .ref 0, .int 0, .int 0, .long 0, .long 0, .int 0, .ref 0])) := by rw [e4]; rfl
  have k4_2 : g4 2 = .inr (.inl (3, 6, (fun _ => 0))) := by rw [e4]; exact k3_2
  have k4_3 : g4 3 = .inr (.inl (3, 4, (fun _ => 0))) := by rw [e4]; exact k3_3
  refine tr_U.aload_n (i := 0) dX6_init_21 rfl rfl (Nat.succ_pos _) ?_
  refine tr_U.newc (ci := 2) (vs := [.ref 0, .ref 0, .int 0]) tyX3 rfl uw_X3 tyX3_ok cl_X6_18 ia_X3 in_X3 bl_X3 ⟨Nat.le_of_ble_eq_true rfl, Nat.le_of_ble_eq_true rfl⟩ ⟨rfl, Nat.succ_pos _, rfl⟩ dX6_init_22 ?_
  obtain ⟨g5, e5⟩ : ∃ g, g = tr_up g4 4 (.inr (.inr (2, [.ref 0, .ref 0, .int 0]))) := ⟨_, rfl⟩
  refine tr_U.ren (n1 := 4) (c1 := 3) (s1 := 13) e5 rfl rfl rfl ?_
  have k5_1 : g5 1 = .inr (.inr (5, [.ref 2, .ref 3, .ref 0, .ref 0, .ref 0, .ref 0, .ref 0, .ref 0, .ref 0, .ref 0, .ref 0, .int 0, .int 0, .long 0, .long 0, .int 0, .ref 0])) := by rw [e5]; exact k4_1
  have k5_2 : g5 2 = .inr (.inl (3, 6, (fun _ => 0))) := by rw [e5]; exact k4_2
  have k5_3 : g5 3 = .inr (.inl (3, 4, (fun _ => 0))) := by rw [e5]; exact k4_3
  have k5_4 : g5 4 = .inr (.inr (2, [.ref 0, .ref 0, .int 0])) := by rw [e5]; rfl
  refine tr_U.dup rfl dX6_init_25 ?_
  refine tr_U.callI (J_X3_4 _ k5_4) cw_X3_init in_X3 ⟨by decide +kernel, by decide +kernel, by decide +kernel⟩ ⟨rfl, im_X3_init⟩ (Or.inr nt_X6_20) (Nat.succ_pos _) ⟨Nat.le_of_ble_eq_true rfl, Nat.le_of_ble_eq_true rfl⟩ rfl (Nat.le_of_ble_eq_true rfl) rfl ⟨Nat.le_of_ble_eq_true rfl, Nat.le_of_ble_eq_true rfl⟩ ⟨rfl, Nat.succ_pos _⟩ dX6_init_26 ?_
  obtain ⟨g6, e6⟩ : ∃ g, g = fX3_4 g5 := ⟨_, rfl⟩
  refine tr_U.ren (n1 := 23) (c1 := 22) (s1 := 196) e6 rfl rfl rfl ?_
  have k6_1 : g6 1 = .inr (.inr (5, [.ref 2, .ref 3, .ref 0, .ref 0, .ref 0, .ref 0, .ref 0, .ref 0, .ref 0, .ref 0, .ref 0, .int 0, .int 0, .long 0, .long 0, .int 0, .ref 0])) := by rw [e6]; exact k5_1
  have k6_2 : g6 2 = .inr (.inl (3, 6, (fun _ => 0))) := by rw [e6]; exact k5_2
  have k6_3 : g6 3 = .inr (.inl (3, 4, (fun _ => 0))) := by rw [e6]; exact k5_3
  refine tr_U.putF fl_X6_21 (Nat.succ_pos _) (Nat.le_of_ble_eq_true rfl) k6_1 (fun _ => ⟨rfl, rfl⟩) (Nat.le_of_ble_eq_true rfl) (fun _ _ _ h => by cases h; rfl) dX6_init_29 ?_
  obtain ⟨g7, e7⟩ : ∃ g, g = tr_up g6 1 (.inr (.inr (5, ([.ref 2, .ref 3, .ref 0, .ref 0, .ref 0, .ref 0, .ref 0, .ref 0, .ref 0, .ref 0, .ref 0, .int 0, .int 0, .long 0, .long 0, .int 0, .ref 0] : List Value).set 2 (.ref 4)))) := ⟨_, rfl⟩
  refine tr_U.ren (n1 := 23) (c1 := 22) (s1 := 196) e7 rfl rfl rfl ?_
  have k7_1 : g7 1 = .inr (.inr (5, [.ref 2, .ref 3, .ref 4, .ref 0, .ref 0, .ref 0, .ref 0, .ref 0, .ref 0, .ref 0, .ref 0, .int 0, .int 0, .long 0, .long 0, .int 0, .ref 0])) := by rw [e7]; rfl
  have k7_2 : g7 2 = .inr (.inl (3, 6, (fun _ => 0))) := by rw [e7]; exact k6_2
  have k7_3 : g7 3 = .inr (.inl (3, 4, (fun _ => 0))) := by rw [e7]; exact k6_3
  refine tr_U.aload_n (i := 0) dX6_init_32 rfl rfl (Nat.succ_pos _) ?_
  refine tr_U.newc (ci := 1) (vs := [.ref 0, .ref 0, .ref 0, .int 0, .int 0, .int 0, .int 0, .ref 0, .ref 0]) tyX2 rfl uw_X2 tyX2_ok cl_X6_25 ia_X2 in_X2 bl_X2 ⟨Nat.le_of_ble_eq_true rfl, Nat.le_of_ble_eq_true rfl⟩ ⟨rfl, Nat.succ_pos _, rfl⟩ dX6_init_33 ?_
  obtain ⟨g8, e8⟩ : ∃ g, g = tr_up g7 24 (.inr (.inr (1, [.ref 0, .ref 0, .ref 0, .int 0, .int 0, .int 0, .int 0, .ref 0, .ref 0]))) := ⟨_, rfl⟩
  refine tr_U.ren (n1 := 24) (c1 := 23) (s1 := 205) e8 rfl rfl rfl ?_
  have k8_1 : g8 1 = .inr (.inr (5, [.ref 2, .ref 3, .ref 4, .ref 0, .ref 0, .ref 0, .ref 0, .ref 0, .ref 0, .ref 0, .ref 0, .int 0, .int 0, .long 0, .long 0, .int 0, .ref 0])) := by rw [e8]; exact k7_1
  have k8_2 : g8 2 = .inr (.inl (3, 6, (fun _ => 0))) := by rw [e8]; exact k7_2
  have k8_3 : g8 3 = .inr (.inl (3, 4, (fun _ => 0))) := by rw [e8]; exact k7_3
  have k8_24 : g8 24 = .inr (.inr (1, [.ref 0, .ref 0, .ref 0, .int 0, .int 0, .int 0, .int 0, .ref 0, .ref 0])) := by rw [e8]; rfl
  refine tr_U.dup rfl dX6_init_36 ?_
  refine tr_U.callI (J_X2_24 _ k8_24) cw_X2_init in_X2 ⟨by decide +kernel, by decide +kernel, by decide +kernel⟩ ⟨rfl, im_X2_init⟩ (Or.inr nt_X6_27) (Nat.succ_pos _) ⟨Nat.le_of_ble_eq_true rfl, Nat.le_of_ble_eq_true rfl⟩ rfl (Nat.le_of_ble_eq_true rfl) rfl ⟨Nat.le_of_ble_eq_true rfl, Nat.le_of_ble_eq_true rfl⟩ ⟨rfl, Nat.succ_pos _⟩ dX6_init_37 ?_
  obtain ⟨g9, e9⟩ : ∃ g, g = fX2_24 g8 := ⟨_, rfl⟩
  refine tr_U.ren (n1 := 56) (c1 := 55) (s1 := 83882) e9 rfl rfl rfl ?_
  have k9_1 : g9 1 = .inr (.inr (5, [.ref 2, .ref 3, .ref 4, .ref 0, .ref 0, .ref 0, .ref 0, .ref 0, .ref 0, .ref 0, .ref 0, .int 0, .int 0, .long 0, .long 0, .int 0, .ref 0])) := by rw [e9]; exact k8_1
  have k9_2 : g9 2 = .inr (.inl (3, 6, (fun _ => 0))) := by rw [e9]; exact k8_2
  have k9_3 : g9 3 = .inr (.inl (3, 4, (fun _ => 0))) := by rw [e9]; exact k8_3
  have k9_24 : g9 24 = .inr (.inr (1, [.ref 25, .ref 26, .ref 54, .int 0, .int 0, .int 0, .int 0, .ref 55, .ref 56])) := by rw [e9]; rfl
  have k9_25 : g9 25 = .inr (.inr (3, [.ref 26, .ref 45, .ref 46, .ref 47, .ref 48, .ref 49, .ref 50, .ref 51, .ref 52, .ref 53, .int 0, .int 0, .int 0, .int (-9), .int (-9)])) := by rw [e9]; rfl
  refine tr_U.putF fl_X6_28 (Nat.succ_pos _) (Nat.le_of_ble_eq_true rfl) k9_1 (fun _ => ⟨rfl, rfl⟩) (Nat.le_of_ble_eq_true rfl) (fun _ _ _ h => by cases h; rfl) dX6_init_40 ?_
  obtain ⟨g10, e10⟩ : ∃ g, g = tr_up g9 1 (.inr (.inr (5, ([.ref 2, .ref 3, .ref 4, .ref 0, .ref 0, .ref 0, .ref 0, .ref 0, .ref 0, .ref 0, .ref 0, .int 0, .int 0, .long 0, .long 0, .int 0, .ref 0] : List Value).set 3 (.ref 24)))) := ⟨_, rfl⟩
  refine tr_U.ren (n1 := 56) (c1 := 55) (s1 := 83882) e10 rfl rfl rfl ?_
  have k10_1 : g10 1 = .inr (.inr (5, [.ref 2, .ref 3, .ref 4, .ref 24, .ref 0, .ref 0, .ref 0, .ref 0, .ref 0, .ref 0, .ref 0, .int 0, .int 0, .long 0, .long 0, .int 0, .ref 0])) := by rw [e10]; rfl
  have k10_2 : g10 2 = .inr (.inl (3, 6, (fun _ => 0))) := by rw [e10]; exact k9_2
  have k10_3 : g10 3 = .inr (.inl (3, 4, (fun _ => 0))) := by rw [e10]; exact k9_3
  have k10_24 : g10 24 = .inr (.inr (1, [.ref 25, .ref 26, .ref 54, .int 0, .int 0, .int 0, .int 0, .ref 55, .ref 56])) := by rw [e10]; exact k9_24
  have k10_25 : g10 25 = .inr (.inr (3, [.ref 26, .ref 45, .ref 46, .ref 47, .ref 48, .ref 49, .ref 50, .ref 51, .ref 52, .ref 53, .int 0, .int 0, .int 0, .int (-9), .int (-9)])) := by rw [e10]; exact k9_25
  refine tr_U.aload_n (i := 0) dX6_init_43 rfl rfl (Nat.succ_pos _) ?_
  refine tr_U.aload_n (i := 0) dX6_init_44 rfl rfl (Nat.succ_pos _) ?_
  refine tr_U.get fl_X6_28 (Nat.succ_pos _) (Nat.le_of_ble_eq_true rfl) k10_1 rfl dX6_init_45 ?_
  refine tr_U.get fl_X6_32 (Nat.succ_pos _) (Nat.le_of_ble_eq_true rfl) k10_24 rfl dX6_init_48 ?_
  refine tr_U.putF fl_X6_36 (Nat.succ_pos _) (Nat.le_of_ble_eq_true rfl) k10_1 (fun _ => ⟨rfl, rfl⟩) (Nat.le_of_ble_eq_true rfl) (fun _ _ _ h => by cases h; rfl) dX6_init_51 ?_
  obtain ⟨g11, e11⟩ : ∃ g, g = tr_up g10 1 (.inr (.inr (5, ([.ref 2, .ref 3, .ref 4, .ref 24, .ref 0, .ref 0, .ref 0, .ref 0, .ref 0, .ref 0, .ref 0, .int 0, .int 0, .long 0, .long 0, .int 0, .ref 0] : List Value).set 4 (.ref 25)))) := ⟨_, rfl⟩
  refine tr_U.ren (n1 := 56) (c1 := 55) (s1 := 83882) e11 rfl rfl rfl ?_
  have k11_1 : g11 1 = .inr (.inr (5, [.ref 2, .ref 3, .ref 4, .ref 24, .ref 25, .ref 0, .ref 0, .ref 0, .ref 0, .ref 0, .ref 0, .int 0, .int 0, .long 0, .long 0, .int 0, .ref 0])) := by rw [e11]; rfl
  have k11_2 : g11 2 = .inr (.inl (3, 6, (fun _ => 0))) := by rw [e11]; exact k10_2
  have k11_3 : g11 3 = .inr (.inl (3, 4, (fun _ => 0))) := by rw [e11]; exact k10_3
  have k11_24 : g11 24 = .inr (.inr (1, [.ref 25, .ref 26, .ref 54, .int 0, .int 0, .int 0, .int 0, .ref 55, .ref 56])) := by rw [e11]; exact k10_24
  have k11_25 : g11 25 = .inr (.inr (3, [.ref 26, .ref 45, .ref 46, .ref 47, .ref 48, .ref 49, .ref 50, .ref 51, .ref 52, .ref 53, .int 0, .int 0, .int 0, .int (-9), .int (-9)])) := by rw [e11]; exact k10_25
  refine tr_U.aload_n (i := 0) dX6_init_54 rfl rfl (Nat.succ_pos _) ?_
  refine tr_U.aload_n (i := 0) dX6_init_55 rfl rfl (Nat.succ_pos _) ?_
  refine tr_U.get fl_X6_36 (Nat.succ_pos _) (Nat.le_of_ble_eq_true rfl) k11_1 rfl dX6_init_56 ?_
  refine tr_U.get fl_X6_37 (Nat.succ_pos _) (Nat.le_of_ble_eq_true rfl) k11_25 rfl dX6_init_59 ?_
  refine tr_U.putF fl_X6_43 (Nat.succ_pos _) (Nat.le_of_ble_eq_true rfl) k11_1 (fun _ => ⟨rfl, rfl⟩) (Nat.le_of_ble_eq_true rfl) (fun _ _ _ h => by cases h; rfl) dX6_init_62 ?_
  obtain ⟨g12, e12⟩ : ∃ g, g = tr_up g11 1 (.inr (.inr (5, ([.ref 2, .ref 3, .ref 4, .ref 24, .ref 25, .ref 0, .ref 0, .ref 0, .ref 0, .ref 0, .ref 0, .int 0, .int 0, .long 0, .long 0, .int 0, .ref 0] : List Value).set 5 (.ref 26)))) := ⟨_, rfl⟩
  refine tr_U.ren (n1 := 56) (c1 := 55) (s1 := 83882) e12 rfl rfl rfl ?_
  have k12_1 : g12 1 = .inr (.inr (5, [.ref 2, .ref 3, .ref 4, .ref 24, .ref 25, .ref 26, .ref 0, .ref 0, .ref 0, .ref 0, .ref 0, .int 0, .int 0, .long 0, .long 0, .int 0, .ref 0])) := by rw [e12]; rfl
  have k12_2 : g12 2 = .inr (.inl (3, 6, (fun _ => 0))) := by rw [e12]; exact k11_2
  have k12_3 : g12 3 = .inr (.inl (3, 4, (fun _ => 0))) := by rw [e12]; exact k11_3
  have k12_24 : g12 24 = .inr (.inr (1, [.ref 25, .ref 26, .ref 54, .int 0, .int 0, .int 0, .int 0, .ref 55, .ref 56])) := by rw [e12]; exact k11_24
  have k12_25 : g12 25 = .inr (.inr (3, [.ref 26, .ref 45, .ref 46, .ref 47, .ref 48, .ref 49, .ref 50, .ref 51, .ref 52, .ref 53, .int 0, .int 0, .int 0, .int (-9), .int (-9)])) := by rw [e12]; exact k11_25
  refine tr_U.aload_n (i := 0) dX6_init_65 rfl rfl (Nat.succ_pos _) ?_
  refine tr_U.bipush (v := (6 : Int32)) dX6_init_66 (by decide) ?_
  refine tr_U.newa (t := 0) (N := 6) (ty := .int) rfl w_ac_int (fun _ => rfl) rfl ra_int (by decide) (by decide) (by decide) ⟨Nat.le_of_ble_eq_true rfl, Nat.le_of_ble_eq_true rfl⟩ ⟨rfl, Nat.succ_pos _, rfl⟩ dX6_init_68 ?_
  obtain ⟨g13, e13⟩ : ∃ g, g = tr_up g12 57 (.inl (0, 6, fun _ => 0)) := ⟨_, rfl⟩
  refine tr_U.ren (n1 := 57) (c1 := 56) (s1 := 83888) e13 rfl rfl rfl ?_
  have k13_1 : g13 1 = .inr (.inr (5, [.ref 2, .ref 3, .ref 4, .ref 24, .ref 25, .ref 26, .ref 0, .ref 0, .ref 0, .ref 0, .ref 0, .int 0, .int 0, .long 0, .long 0, .int 0, .ref 0])) := by rw [e13]; exact k12_1
  have k13_2 : g13 2 = .inr (.inl (3, 6, (fun _ => 0))) := by rw [e13]; exact k12_2
  have k13_3 : g13 3 = .inr (.inl (3, 4, (fun _ => 0))) := by rw [e13]; exact k12_3
  have k13_24 : g13 24 = .inr (.inr (1, [.ref 25, .ref 26, .ref 54, .int 0, .int 0, .int 0, .int 0, .ref 55, .ref 56])) := by rw [e13]; exact k12_24
  have k13_25 : g13 25 = .inr (.inr (3, [.ref 26, .ref 45, .ref 46, .ref 47, .ref 48, .ref 49, .ref 50, .ref 51, .ref 52, .ref 53, .int 0, .int 0, .int 0, .int (-9), .int (-9)])) := by rw [e13]; exact k12_25
  refine tr_U.putF fl_X6_44 (Nat.succ_pos _) (Nat.le_of_ble_eq_true rfl) k13_1 (fun _ => ⟨rfl, rfl⟩) (Nat.le_of_ble_eq_true rfl) (fun _ _ _ h => by cases h; rfl) dX6_init_70 ?_
  obtain ⟨g14, e14⟩ : ∃ g, g = tr_up g13 1 (.inr (.inr (5, ([.ref 2, .ref 3, .ref 4, .ref 24, .ref 25, .ref 26, .ref 0, .ref 0, .ref 0, .ref 0, .ref 0, .int 0, .int 0, .long 0, .long 0, .int 0, .ref 0] : List Value).set 6 (.ref 57)))) := ⟨_, rfl⟩
  refine tr_U.ren (n1 := 57) (c1 := 56) (s1 := 83888) e14 rfl rfl rfl ?_
  have k14_1 : g14 1 = .inr (.inr (5, [.ref 2, .ref 3, .ref 4, .ref 24, .ref 25, .ref 26, .ref 57, .ref 0, .ref 0, .ref 0, .ref 0, .int 0, .int 0, .long 0, .long 0, .int 0, .ref 0])) := by rw [e14]; rfl
  have k14_2 : g14 2 = .inr (.inl (3, 6, (fun _ => 0))) := by rw [e14]; exact k13_2
  have k14_3 : g14 3 = .inr (.inl (3, 4, (fun _ => 0))) := by rw [e14]; exact k13_3
  have k14_24 : g14 24 = .inr (.inr (1, [.ref 25, .ref 26, .ref 54, .int 0, .int 0, .int 0, .int 0, .ref 55, .ref 56])) := by rw [e14]; exact k13_24
  have k14_25 : g14 25 = .inr (.inr (3, [.ref 26, .ref 45, .ref 46, .ref 47, .ref 48, .ref 49, .ref 50, .ref 51, .ref 52, .ref 53, .int 0, .int 0, .int 0, .int (-9), .int (-9)])) := by rw [e14]; exact k13_25
  refine tr_U.aload_n (i := 0) dX6_init_73 rfl rfl (Nat.succ_pos _) ?_
  refine tr_U.bipush (v := (10 : Int32)) dX6_init_74 (by decide) ?_
  refine tr_U.newa (t := 0) (N := 10) (ty := .int) rfl w_ac_int (fun _ => rfl) rfl ra_int (by decide) (by decide) (by decide) ⟨Nat.le_of_ble_eq_true rfl, Nat.le_of_ble_eq_true rfl⟩ ⟨rfl, Nat.succ_pos _, rfl⟩ dX6_init_76 ?_
  obtain ⟨g15, e15⟩ : ∃ g, g = tr_up g14 58 (.inl (0, 10, fun _ => 0)) := ⟨_, rfl⟩
  refine tr_U.ren (n1 := 58) (c1 := 57) (s1 := 83898) e15 rfl rfl rfl ?_
  have k15_1 : g15 1 = .inr (.inr (5, [.ref 2, .ref 3, .ref 4, .ref 24, .ref 25, .ref 26, .ref 57, .ref 0, .ref 0, .ref 0, .ref 0, .int 0, .int 0, .long 0, .long 0, .int 0, .ref 0])) := by rw [e15]; exact k14_1
  have k15_2 : g15 2 = .inr (.inl (3, 6, (fun _ => 0))) := by rw [e15]; exact k14_2
  have k15_3 : g15 3 = .inr (.inl (3, 4, (fun _ => 0))) := by rw [e15]; exact k14_3
  have k15_24 : g15 24 = .inr (.inr (1, [.ref 25, .ref 26, .ref 54, .int 0, .int 0, .int 0, .int 0, .ref 55, .ref 56])) := by rw [e15]; exact k14_24
  have k15_25 : g15 25 = .inr (.inr (3, [.ref 26, .ref 45, .ref 46, .ref 47, .ref 48, .ref 49, .ref 50, .ref 51, .ref 52, .ref 53, .int 0, .int 0, .int 0, .int (-9), .int (-9)])) := by rw [e15]; exact k14_25
  refine tr_U.putF fl_X6_48 (Nat.succ_pos _) (Nat.le_of_ble_eq_true rfl) k15_1 (fun _ => ⟨rfl, rfl⟩) (Nat.le_of_ble_eq_true rfl) (fun _ _ _ h => by cases h; rfl) dX6_init_78 ?_
  obtain ⟨g16, e16⟩ : ∃ g, g = tr_up g15 1 (.inr (.inr (5, ([.ref 2, .ref 3, .ref 4, .ref 24, .ref 25, .ref 26, .ref 57, .ref 0, .ref 0, .ref 0, .ref 0, .int 0, .int 0, .long 0, .long 0, .int 0, .ref 0] : List Value).set 7 (.ref 58)))) := ⟨_, rfl⟩
  refine tr_U.ren (n1 := 58) (c1 := 57) (s1 := 83898) e16 rfl rfl rfl ?_
  have k16_1 : g16 1 = .inr (.inr (5, [.ref 2, .ref 3, .ref 4, .ref 24, .ref 25, .ref 26, .ref 57, .ref 58, .ref 0, .ref 0, .ref 0, .int 0, .int 0, .long 0, .long 0, .int 0, .ref 0])) := by rw [e16]; rfl
  have k16_2 : g16 2 = .inr (.inl (3, 6, (fun _ => 0))) := by rw [e16]; exact k15_2
  have k16_3 : g16 3 = .inr (.inl (3, 4, (fun _ => 0))) := by rw [e16]; exact k15_3
  have k16_24 : g16 24 = .inr (.inr (1, [.ref 25, .ref 26, .ref 54, .int 0, .int 0, .int 0, .int 0, .ref 55, .ref 56])) := by rw [e16]; exact k15_24
  have k16_25 : g16 25 = .inr (.inr (3, [.ref 26, .ref 45, .ref 46, .ref 47, .ref 48, .ref 49, .ref 50, .ref 51, .ref 52, .ref 53, .int 0, .int 0, .int 0, .int (-9), .int (-9)])) := by rw [e16]; exact k15_25
  refine tr_U.aload_n (i := 0) dX6_init_81 rfl rfl (Nat.succ_pos _) ?_
  refine tr_U.bipush (v := (10 : Int32)) dX6_init_82 (by decide) ?_
  refine tr_U.newa (t := 0) (N := 10) (ty := .int) rfl w_ac_int (fun _ => rfl) rfl ra_int (by decide) (by decide) (by decide) ⟨Nat.le_of_ble_eq_true rfl, Nat.le_of_ble_eq_true rfl⟩ ⟨rfl, Nat.succ_pos _, rfl⟩ dX6_init_84 ?_
  obtain ⟨g17, e17⟩ : ∃ g, g = tr_up g16 59 (.inl (0, 10, fun _ => 0)) := ⟨_, rfl⟩
  refine tr_U.ren (n1 := 59) (c1 := 58) (s1 := 83908) e17 rfl rfl rfl ?_
  have k17_1 : g17 1 = .inr (.inr (5, [.ref 2, .ref 3, .ref 4, .ref 24, .ref 25, .ref 26, .ref 57, .ref 58, .ref 0, .ref 0, .ref 0, .int 0, .int 0, .long 0, .long 0, .int 0, .ref 0])) := by rw [e17]; exact k16_1
  have k17_2 : g17 2 = .inr (.inl (3, 6, (fun _ => 0))) := by rw [e17]; exact k16_2
  have k17_3 : g17 3 = .inr (.inl (3, 4, (fun _ => 0))) := by rw [e17]; exact k16_3
  have k17_24 : g17 24 = .inr (.inr (1, [.ref 25, .ref 26, .ref 54, .int 0, .int 0, .int 0, .int 0, .ref 55, .ref 56])) := by rw [e17]; exact k16_24
  have k17_25 : g17 25 = .inr (.inr (3, [.ref 26, .ref 45, .ref 46, .ref 47, .ref 48, .ref 49, .ref 50, .ref 51, .ref 52, .ref 53, .int 0, .int 0, .int 0, .int (-9), .int (-9)])) := by rw [e17]; exact k16_25
  refine tr_U.putF fl_X6_51 (Nat.succ_pos _) (Nat.le_of_ble_eq_true rfl) k17_1 (fun _ => ⟨rfl, rfl⟩) (Nat.le_of_ble_eq_true rfl) (fun _ _ _ h => by cases h; rfl) dX6_init_86 ?_
  obtain ⟨g18, e18⟩ : ∃ g, g = tr_up g17 1 (.inr (.inr (5, ([.ref 2, .ref 3, .ref 4, .ref 24, .ref 25, .ref 26, .ref 57, .ref 58, .ref 0, .ref 0, .ref 0, .int 0, .int 0, .long 0, .long 0, .int 0, .ref 0] : List Value).set 8 (.ref 59)))) := ⟨_, rfl⟩
  refine tr_U.ren (n1 := 59) (c1 := 58) (s1 := 83908) e18 rfl rfl rfl ?_
  have k18_1 : g18 1 = .inr (.inr (5, [.ref 2, .ref 3, .ref 4, .ref 24, .ref 25, .ref 26, .ref 57, .ref 58, .ref 59, .ref 0, .ref 0, .int 0, .int 0, .long 0, .long 0, .int 0, .ref 0])) := by rw [e18]; rfl
  have k18_2 : g18 2 = .inr (.inl (3, 6, (fun _ => 0))) := by rw [e18]; exact k17_2
  have k18_3 : g18 3 = .inr (.inl (3, 4, (fun _ => 0))) := by rw [e18]; exact k17_3
  have k18_24 : g18 24 = .inr (.inr (1, [.ref 25, .ref 26, .ref 54, .int 0, .int 0, .int 0, .int 0, .ref 55, .ref 56])) := by rw [e18]; exact k17_24
  have k18_25 : g18 25 = .inr (.inr (3, [.ref 26, .ref 45, .ref 46, .ref 47, .ref 48, .ref 49, .ref 50, .ref 51, .ref 52, .ref 53, .int 0, .int 0, .int 0, .int (-9), .int (-9)])) := by rw [e18]; exact k17_25
  refine tr_U.aload_n (i := 0) dX6_init_89 rfl rfl (Nat.succ_pos _) ?_
  refine tr_U.bipush (v := (10 : Int32)) dX6_init_90 (by decide) ?_
  refine tr_U.newa (t := 0) (N := 10) (ty := .int) rfl w_ac_int (fun _ => rfl) rfl ra_int (by decide) (by decide) (by decide) ⟨Nat.le_of_ble_eq_true rfl, Nat.le_of_ble_eq_true rfl⟩ ⟨rfl, Nat.succ_pos _, rfl⟩ dX6_init_92 ?_
  obtain ⟨g19, e19⟩ : ∃ g, g = tr_up g18 60 (.inl (0, 10, fun _ => 0)) := ⟨_, rfl⟩
  refine tr_U.ren (n1 := 60) (c1 := 59) (s1 := 83918) e19 rfl rfl rfl ?_
  have k19_1 : g19 1 = .inr (.inr (5, [.ref 2, .ref 3, .ref 4, .ref 24, .ref 25, .ref 26, .ref 57, .ref 58, .ref 59, .ref 0, .ref 0, .int 0, .int 0, .long 0, .long 0, .int 0, .ref 0])) := by rw [e19]; exact k18_1
  have k19_2 : g19 2 = .inr (.inl (3, 6, (fun _ => 0))) := by rw [e19]; exact k18_2
  have k19_3 : g19 3 = .inr (.inl (3, 4, (fun _ => 0))) := by rw [e19]; exact k18_3
  have k19_24 : g19 24 = .inr (.inr (1, [.ref 25, .ref 26, .ref 54, .int 0, .int 0, .int 0, .int 0, .ref 55, .ref 56])) := by rw [e19]; exact k18_24
  have k19_25 : g19 25 = .inr (.inr (3, [.ref 26, .ref 45, .ref 46, .ref 47, .ref 48, .ref 49, .ref 50, .ref 51, .ref 52, .ref 53, .int 0, .int 0, .int 0, .int (-9), .int (-9)])) := by rw [e19]; exact k18_25
  refine tr_U.putF fl_X6_54 (Nat.succ_pos _) (Nat.le_of_ble_eq_true rfl) k19_1 (fun _ => ⟨rfl, rfl⟩) (Nat.le_of_ble_eq_true rfl) (fun _ _ _ h => by cases h; rfl) dX6_init_94 ?_
  obtain ⟨g20, e20⟩ : ∃ g, g = tr_up g19 1 (.inr (.inr (5, ([.ref 2, .ref 3, .ref 4, .ref 24, .ref 25, .ref 26, .ref 57, .ref 58, .ref 59, .ref 0, .ref 0, .int 0, .int 0, .long 0, .long 0, .int 0, .ref 0] : List Value).set 9 (.ref 60)))) := ⟨_, rfl⟩
  refine tr_U.ren (n1 := 60) (c1 := 59) (s1 := 83918) e20 rfl rfl rfl ?_
  have k20_1 : g20 1 = .inr (.inr (5, [.ref 2, .ref 3, .ref 4, .ref 24, .ref 25, .ref 26, .ref 57, .ref 58, .ref 59, .ref 60, .ref 0, .int 0, .int 0, .long 0, .long 0, .int 0, .ref 0])) := by rw [e20]; rfl
  have k20_2 : g20 2 = .inr (.inl (3, 6, (fun _ => 0))) := by rw [e20]; exact k19_2
  have k20_3 : g20 3 = .inr (.inl (3, 4, (fun _ => 0))) := by rw [e20]; exact k19_3
  have k20_24 : g20 24 = .inr (.inr (1, [.ref 25, .ref 26, .ref 54, .int 0, .int 0, .int 0, .int 0, .ref 55, .ref 56])) := by rw [e20]; exact k19_24
  have k20_25 : g20 25 = .inr (.inr (3, [.ref 26, .ref 45, .ref 46, .ref 47, .ref 48, .ref 49, .ref 50, .ref 51, .ref 52, .ref 53, .int 0, .int 0, .int 0, .int (-9), .int (-9)])) := by rw [e20]; exact k19_25
  refine tr_U.aload_n (i := 0) dX6_init_97 rfl rfl (Nat.succ_pos _) ?_
  refine tr_U.bipush (v := (10 : Int32)) dX6_init_98 (by decide) ?_
  refine tr_U.newa (t := 0) (N := 10) (ty := .int) rfl w_ac_int (fun _ => rfl) rfl ra_int (by decide) (by decide) (by decide) ⟨Nat.le_of_ble_eq_true rfl, Nat.le_of_ble_eq_true rfl⟩ ⟨rfl, Nat.succ_pos _, rfl⟩ dX6_init_100 ?_
  obtain ⟨g21, e21⟩ : ∃ g, g = tr_up g20 61 (.inl (0, 10, fun _ => 0)) := ⟨_, rfl⟩
  refine tr_U.ren (n1 := 61) (c1 := 60) (s1 := 83928) e21 rfl rfl rfl ?_
  have k21_1 : g21 1 = .inr (.inr (5, [.ref 2, .ref 3, .ref 4, .ref 24, .ref 25, .ref 26, .ref 57, .ref 58, .ref 59, .ref 60, .ref 0, .int 0, .int 0, .long 0, .long 0, .int 0, .ref 0])) := by rw [e21]; exact k20_1
  have k21_2 : g21 2 = .inr (.inl (3, 6, (fun _ => 0))) := by rw [e21]; exact k20_2
  have k21_3 : g21 3 = .inr (.inl (3, 4, (fun _ => 0))) := by rw [e21]; exact k20_3
  have k21_24 : g21 24 = .inr (.inr (1, [.ref 25, .ref 26, .ref 54, .int 0, .int 0, .int 0, .int 0, .ref 55, .ref 56])) := by rw [e21]; exact k20_24
  have k21_25 : g21 25 = .inr (.inr (3, [.ref 26, .ref 45, .ref 46, .ref 47, .ref 48, .ref 49, .ref 50, .ref 51, .ref 52, .ref 53, .int 0, .int 0, .int 0, .int (-9), .int (-9)])) := by rw [e21]; exact k20_25
  refine tr_U.putF fl_X6_57 (Nat.succ_pos _) (Nat.le_of_ble_eq_true rfl) k21_1 (fun _ => ⟨rfl, rfl⟩) (Nat.le_of_ble_eq_true rfl) (fun _ _ _ h => by cases h; rfl) dX6_init_102 ?_
  obtain ⟨g22, e22⟩ : ∃ g, g = tr_up g21 1 (.inr (.inr (5, ([.ref 2, .ref 3, .ref 4, .ref 24, .ref 25, .ref 26, .ref 57, .ref 58, .ref 59, .ref 60, .ref 0, .int 0, .int 0, .long 0, .long 0, .int 0, .ref 0] : List Value).set 10 (.ref 61)))) := ⟨_, rfl⟩
  refine tr_U.ren (n1 := 61) (c1 := 60) (s1 := 83928) e22 rfl rfl rfl ?_
  have k22_1 : g22 1 = .inr (.inr (5, [.ref 2, .ref 3, .ref 4, .ref 24, .ref 25, .ref 26, .ref 57, .ref 58, .ref 59, .ref 60, .ref 61, .int 0, .int 0, .long 0, .long 0, .int 0, .ref 0])) := by rw [e22]; rfl
  have k22_2 : g22 2 = .inr (.inl (3, 6, (fun _ => 0))) := by rw [e22]; exact k21_2
  have k22_3 : g22 3 = .inr (.inl (3, 4, (fun _ => 0))) := by rw [e22]; exact k21_3
  have k22_24 : g22 24 = .inr (.inr (1, [.ref 25, .ref 26, .ref 54, .int 0, .int 0, .int 0, .int 0, .ref 55, .ref 56])) := by rw [e22]; exact k21_24
  have k22_25 : g22 25 = .inr (.inr (3, [.ref 26, .ref 45, .ref 46, .ref 47, .ref 48, .ref 49, .ref 50, .ref 51, .ref 52, .ref 53, .int 0, .int 0, .int 0, .int (-9), .int (-9)])) := by rw [e22]; exact k21_25
  refine tr_U.aload_n (i := 0) dX6_init_105 rfl rfl (Nat.succ_pos _) ?_
  refine tr_U.iconst (v := (0 : Int32)) dX6_init_106 (by decide) ?_
  refine tr_U.put fl_X6_60 (Nat.succ_pos _) (Nat.le_of_ble_eq_true rfl) k22_1 (fun _ => ⟨rfl, rfl⟩) (Nat.le_of_ble_eq_true rfl) dX6_init_107 ?_
  obtain ⟨g23, e23⟩ : ∃ g, g = tr_up g22 1 (.inr (.inr (5, ([.ref 2, .ref 3, .ref 4, .ref 24, .ref 25, .ref 26, .ref 57, .ref 58, .ref 59, .ref 60, .ref 61, .int 0, .int 0, .long 0, .long 0, .int 0, .ref 0] : List Value).set 11 (.int 0)))) := ⟨_, rfl⟩
  refine tr_U.ren (n1 := 61) (c1 := 60) (s1 := 83928) e23 rfl rfl rfl ?_
  have k23_1 : g23 1 = .inr (.inr (5, [.ref 2, .ref 3, .ref 4, .ref 24, .ref 25, .ref 26, .ref 57, .ref 58, .ref 59, .ref 60, .ref 61, .int 0, .int 0, .long 0, .long 0, .int 0, .ref 0])) := by rw [e23]; rfl
  have k23_2 : g23 2 = .inr (.inl (3, 6, (fun _ => 0))) := by rw [e23]; exact k22_2
  have k23_3 : g23 3 = .inr (.inl (3, 4, (fun _ => 0))) := by rw [e23]; exact k22_3
  have k23_24 : g23 24 = .inr (.inr (1, [.ref 25, .ref 26, .ref 54, .int 0, .int 0, .int 0, .int 0, .ref 55, .ref 56])) := by rw [e23]; exact k22_24
  have k23_25 : g23 25 = .inr (.inr (3, [.ref 26, .ref 45, .ref 46, .ref 47, .ref 48, .ref 49, .ref 50, .ref 51, .ref 52, .ref 53, .int 0, .int 0, .int 0, .int (-9), .int (-9)])) := by rw [e23]; exact k22_25
  refine tr_U.aload_n (i := 0) dX6_init_110 rfl rfl (Nat.succ_pos _) ?_
  refine tr_U.iconst (v := (0 : Int32)) dX6_init_111 (by decide) ?_
  refine tr_U.put fl_X6_64 (Nat.succ_pos _) (Nat.le_of_ble_eq_true rfl) k23_1 (fun _ => ⟨rfl, rfl⟩) (Nat.le_of_ble_eq_true rfl) dX6_init_112 ?_
  obtain ⟨g24, e24⟩ : ∃ g, g = tr_up g23 1 (.inr (.inr (5, ([.ref 2, .ref 3, .ref 4, .ref 24, .ref 25, .ref 26, .ref 57, .ref 58, .ref 59, .ref 60, .ref 61, .int 0, .int 0, .long 0, .long 0, .int 0, .ref 0] : List Value).set 12 (.int 0)))) := ⟨_, rfl⟩
  refine tr_U.ren (n1 := 61) (c1 := 60) (s1 := 83928) e24 rfl rfl rfl ?_
  have k24_1 : g24 1 = .inr (.inr (5, [.ref 2, .ref 3, .ref 4, .ref 24, .ref 25, .ref 26, .ref 57, .ref 58, .ref 59, .ref 60, .ref 61, .int 0, .int 0, .long 0, .long 0, .int 0, .ref 0])) := by rw [e24]; rfl
  have k24_2 : g24 2 = .inr (.inl (3, 6, (fun _ => 0))) := by rw [e24]; exact k23_2
  have k24_3 : g24 3 = .inr (.inl (3, 4, (fun _ => 0))) := by rw [e24]; exact k23_3
  have k24_24 : g24 24 = .inr (.inr (1, [.ref 25, .ref 26, .ref 54, .int 0, .int 0, .int 0, .int 0, .ref 55, .ref 56])) := by rw [e24]; exact k23_24
  have k24_25 : g24 25 = .inr (.inr (3, [.ref 26, .ref 45, .ref 46, .ref 47, .ref 48, .ref 49, .ref 50, .ref 51, .ref 52, .ref 53, .int 0, .int 0, .int 0, .int (-9), .int (-9)])) := by rw [e24]; exact k23_25
  refine tr_U.aload_n (i := 0) dX6_init_115 rfl rfl (Nat.succ_pos _) ?_
  refine tr_U.lconst (v := (0 : Int64)) dX6_init_116 (by decide) ?_
  refine tr_U.put fl_X6_67 (Nat.succ_pos _) (Nat.le_of_ble_eq_true rfl) k24_1 (fun _ => ⟨rfl, rfl⟩) (Nat.le_of_ble_eq_true rfl) dX6_init_117 ?_
  obtain ⟨g25, e25⟩ : ∃ g, g = tr_up g24 1 (.inr (.inr (5, ([.ref 2, .ref 3, .ref 4, .ref 24, .ref 25, .ref 26, .ref 57, .ref 58, .ref 59, .ref 60, .ref 61, .int 0, .int 0, .long 0, .long 0, .int 0, .ref 0] : List Value).set 13 (.long 0)))) := ⟨_, rfl⟩
  refine tr_U.ren (n1 := 61) (c1 := 60) (s1 := 83928) e25 rfl rfl rfl ?_
  have k25_1 : g25 1 = .inr (.inr (5, [.ref 2, .ref 3, .ref 4, .ref 24, .ref 25, .ref 26, .ref 57, .ref 58, .ref 59, .ref 60, .ref 61, .int 0, .int 0, .long 0, .long 0, .int 0, .ref 0])) := by rw [e25]; rfl
  have k25_2 : g25 2 = .inr (.inl (3, 6, (fun _ => 0))) := by rw [e25]; exact k24_2
  have k25_3 : g25 3 = .inr (.inl (3, 4, (fun _ => 0))) := by rw [e25]; exact k24_3
  have k25_24 : g25 24 = .inr (.inr (1, [.ref 25, .ref 26, .ref 54, .int 0, .int 0, .int 0, .int 0, .ref 55, .ref 56])) := by rw [e25]; exact k24_24
  have k25_25 : g25 25 = .inr (.inr (3, [.ref 26, .ref 45, .ref 46, .ref 47, .ref 48, .ref 49, .ref 50, .ref 51, .ref 52, .ref 53, .int 0, .int 0, .int 0, .int (-9), .int (-9)])) := by rw [e25]; exact k24_25
  refine tr_U.aload_n (i := 0) dX6_init_120 rfl rfl (Nat.succ_pos _) ?_
  refine tr_U.lconst (v := (1 : Int64)) dX6_init_121 (by decide) ?_
  refine tr_U.put fl_X6_71 (Nat.succ_pos _) (Nat.le_of_ble_eq_true rfl) k25_1 (fun _ => ⟨rfl, rfl⟩) (Nat.le_of_ble_eq_true rfl) dX6_init_122 ?_
  obtain ⟨g26, e26⟩ : ∃ g, g = tr_up g25 1 (.inr (.inr (5, ([.ref 2, .ref 3, .ref 4, .ref 24, .ref 25, .ref 26, .ref 57, .ref 58, .ref 59, .ref 60, .ref 61, .int 0, .int 0, .long 0, .long 0, .int 0, .ref 0] : List Value).set 14 (.long 1)))) := ⟨_, rfl⟩
  refine tr_U.ren (n1 := 61) (c1 := 60) (s1 := 83928) e26 rfl rfl rfl ?_
  have k26_1 : g26 1 = .inr (.inr (5, [.ref 2, .ref 3, .ref 4, .ref 24, .ref 25, .ref 26, .ref 57, .ref 58, .ref 59, .ref 60, .ref 61, .int 0, .int 0, .long 0, .long 1, .int 0, .ref 0])) := by rw [e26]; rfl
  have k26_2 : g26 2 = .inr (.inl (3, 6, (fun _ => 0))) := by rw [e26]; exact k25_2
  have k26_3 : g26 3 = .inr (.inl (3, 4, (fun _ => 0))) := by rw [e26]; exact k25_3
  have k26_24 : g26 24 = .inr (.inr (1, [.ref 25, .ref 26, .ref 54, .int 0, .int 0, .int 0, .int 0, .ref 55, .ref 56])) := by rw [e26]; exact k25_24
  have k26_25 : g26 25 = .inr (.inr (3, [.ref 26, .ref 45, .ref 46, .ref 47, .ref 48, .ref 49, .ref 50, .ref 51, .ref 52, .ref 53, .int 0, .int 0, .int 0, .int (-9), .int (-9)])) := by rw [e26]; exact k25_25
  refine tr_U.aload_n (i := 0) dX6_init_125 rfl rfl (Nat.succ_pos _) ?_
  refine tr_U.bipush (v := (-9 : Int32)) dX6_init_126 (by decide) ?_
  refine tr_U.put fl_X6_74 (Nat.succ_pos _) (Nat.le_of_ble_eq_true rfl) k26_1 (fun _ => ⟨rfl, rfl⟩) (Nat.le_of_ble_eq_true rfl) dX6_init_128 ?_
  obtain ⟨g27, e27⟩ : ∃ g, g = tr_up g26 1 (.inr (.inr (5, ([.ref 2, .ref 3, .ref 4, .ref 24, .ref 25, .ref 26, .ref 57, .ref 58, .ref 59, .ref 60, .ref 61, .int 0, .int 0, .long 0, .long 1, .int 0, .ref 0] : List Value).set 15 (.int (-9))))) := ⟨_, rfl⟩
  refine tr_U.ren (n1 := 61) (c1 := 60) (s1 := 83928) e27 rfl rfl rfl ?_
  have k27_1 : g27 1 = .inr (.inr (5, [.ref 2, .ref 3, .ref 4, .ref 24, .ref 25, .ref 26, .ref 57, .ref 58, .ref 59, .ref 60, .ref 61, .int 0, .int 0, .long 0, .long 1, .int (-9), .ref 0])) := by rw [e27]; rfl
  have k27_2 : g27 2 = .inr (.inl (3, 6, (fun _ => 0))) := by rw [e27]; exact k26_2
  have k27_3 : g27 3 = .inr (.inl (3, 4, (fun _ => 0))) := by rw [e27]; exact k26_3
  have k27_24 : g27 24 = .inr (.inr (1, [.ref 25, .ref 26, .ref 54, .int 0, .int 0, .int 0, .int 0, .ref 55, .ref 56])) := by rw [e27]; exact k26_24
  have k27_25 : g27 25 = .inr (.inr (3, [.ref 26, .ref 45, .ref 46, .ref 47, .ref 48, .ref 49, .ref 50, .ref 51, .ref 52, .ref 53, .int 0, .int 0, .int 0, .int (-9), .int (-9)])) := by rw [e27]; exact k26_25
  refine tr_U.aload_n (i := 0) dX6_init_131 rfl rfl (Nat.succ_pos _) ?_
  refine tr_U.null dX6_init_132 ?_
  refine tr_U.put fl_X6_77 (Nat.succ_pos _) (Nat.le_of_ble_eq_true rfl) k27_1 (fun _ => ⟨rfl, rfl⟩) (Nat.le_of_ble_eq_true rfl) dX6_init_133 ?_
  obtain ⟨g28, e28⟩ : ∃ g, g = tr_up g27 1 (.inr (.inr (5, ([.ref 2, .ref 3, .ref 4, .ref 24, .ref 25, .ref 26, .ref 57, .ref 58, .ref 59, .ref 60, .ref 61, .int 0, .int 0, .long 0, .long 1, .int (-9), .ref 0] : List Value).set 16 (.ref 0)))) := ⟨_, rfl⟩
  refine tr_U.ren (n1 := 61) (c1 := 60) (s1 := 83928) e28 rfl rfl rfl ?_
  have k28_1 : g28 1 = .inr (.inr (5, [.ref 2, .ref 3, .ref 4, .ref 24, .ref 25, .ref 26, .ref 57, .ref 58, .ref 59, .ref 60, .ref 61, .int 0, .int 0, .long 0, .long 1, .int (-9), .ref 0])) := by rw [e28]; rfl
  have k28_2 : g28 2 = .inr (.inl (3, 6, (fun _ => 0))) := by rw [e28]; exact k27_2
  have k28_3 : g28 3 = .inr (.inl (3, 4, (fun _ => 0))) := by rw [e28]; exact k27_3
  have k28_24 : g28 24 = .inr (.inr (1, [.ref 25, .ref 26, .ref 54, .int 0, .int 0, .int 0, .int 0, .ref 55, .ref 56])) := by rw [e28]; exact k27_24
  have k28_25 : g28 25 = .inr (.inr (3, [.ref 26, .ref 45, .ref 46, .ref 47, .ref 48, .ref 49, .ref 50, .ref 51, .ref 52, .ref 53, .int 0, .int 0, .int 0, .int (-9), .int (-9)])) := by rw [e28]; exact k27_25
  refine tr_U.iconst (v := (0 : Int32)) dX6_init_136 (by decide) ?_
  refine tr_U.istore_n (i := 1) dX6_init_137 rfl (Nat.le_of_ble_eq_true rfl) rfl ?_
  refine tr_U.iload_n (i := 1) dX6_init_138 rfl rfl ?_
  refine tr_U.bipush (v := (6 : Int32)) dX6_init_139 (by decide) ?_
  refine tr_U.icmp_ge_n (tgt := 165) dX6_init_141 (by decide) (by decide) ?_
  refine tr_U.aload_n (i := 0) dX6_init_144 rfl rfl (Nat.succ_pos _) ?_
  refine tr_U.get fl_X6_11 (Nat.succ_pos _) (Nat.le_of_ble_eq_true rfl) k28_1 rfl dX6_init_145 ?_
  refine tr_U.iload_n (i := 1) dX6_init_148 rfl rfl ?_
  refine tr_U.newc (ci := 0) (vs := [.ref 0, .int 0]) tyX1 rfl uw_X1 tyX1_ok cl_X6_9 ia_X1 in_X1 bl_X1 ⟨Nat.le_of_ble_eq_true rfl, Nat.le_of_ble_eq_true rfl⟩ ⟨rfl, Nat.succ_pos _, rfl⟩ dX6_init_149 ?_
  obtain ⟨g29, e29⟩ : ∃ g, g = tr_up g28 62 (.inr (.inr (0, [.ref 0, .int 0]))) := ⟨_, rfl⟩
  refine tr_U.ren (n1 := 62) (c1 := 61) (s1 := 83930) e29 rfl rfl rfl ?_
  have k29_1 : g29 1 = .inr (.inr (5, [.ref 2, .ref 3, .ref 4, .ref 24, .ref 25, .ref 26, .ref 57, .ref 58, .ref 59, .ref 60, .ref 61, .int 0, .int 0, .long 0, .long 1, .int (-9), .ref 0])) := by rw [e29]; exact k28_1
  have k29_2 : g29 2 = .inr (.inl (3, 6, (fun _ => 0))) := by rw [e29]; exact k28_2
  have k29_3 : g29 3 = .inr (.inl (3, 4, (fun _ => 0))) := by rw [e29]; exact k28_3
  have k29_24 : g29 24 = .inr (.inr (1, [.ref 25, .ref 26, .ref 54, .int 0, .int 0, .int 0, .int 0, .ref 55, .ref 56])) := by rw [e29]; exact k28_24
  have k29_25 : g29 25 = .inr (.inr (3, [.ref 26, .ref 45, .ref 46, .ref 47, .ref 48, .ref 49, .ref 50, .ref 51, .ref 52, .ref 53, .int 0, .int 0, .int 0, .int (-9), .int (-9)])) := by rw [e29]; exact k28_25
  have k29_62 : g29 62 = .inr (.inr (0, [.ref 0, .int 0])) := by rw [e29]; rfl
  refine tr_U.dup rfl dX6_init_152 ?_
  refine tr_U.bipush (v := (60 : Int32)) dX6_init_153 (by decide) ?_
  refine tr_U.callI (J_X1_62 _ k29_62) cw_X1_init in_X1 ⟨by decide +kernel, by decide +kernel, by decide +kernel⟩ ⟨rfl, im_X1_init⟩ (Or.inl ml_X6_81) (Nat.succ_pos _) ⟨Nat.le_of_ble_eq_true rfl, Nat.le_of_ble_eq_true rfl⟩ rfl (Nat.le_of_ble_eq_true rfl) rfl ⟨Nat.le_of_ble_eq_true rfl, Nat.le_of_ble_eq_true rfl⟩ ⟨rfl, Nat.succ_pos _⟩ dX6_init_155 ?_
  obtain ⟨g30, e30⟩ : ∃ g, g = fX1_62 g29 := ⟨_, rfl⟩
  refine tr_U.ren (n1 := 63) (c1 := 62) (s1 := 83990) e30 rfl rfl rfl ?_
  have k30_1 : g30 1 = .inr (.inr (5, [.ref 2, .ref 3, .ref 4, .ref 24, .ref 25, .ref 26, .ref 57, .ref 58, .ref 59, .ref 60, .ref 61, .int 0, .int 0, .long 0, .long 1, .int (-9), .ref 0])) := by rw [e30]; exact k29_1
  have k30_2 : g30 2 = .inr (.inl (3, 6, (fun _ => 0))) := by rw [e30]; exact k29_2
  have k30_3 : g30 3 = .inr (.inl (3, 4, (fun _ => 0))) := by rw [e30]; exact k29_3
  have k30_24 : g30 24 = .inr (.inr (1, [.ref 25, .ref 26, .ref 54, .int 0, .int 0, .int 0, .int 0, .ref 55, .ref 56])) := by rw [e30]; exact k29_24
  have k30_25 : g30 25 = .inr (.inr (3, [.ref 26, .ref 45, .ref 46, .ref 47, .ref 48, .ref 49, .ref 50, .ref 51, .ref 52, .ref 53, .int 0, .int 0, .int 0, .int (-9), .int (-9)])) := by rw [e30]; exact k29_25
  have k30_62 : g30 62 = .inr (.inr (0, [.ref 63, .int (-1)])) := by rw [e30]; rfl
  refine tr_U.aast (T := TX1) (Nf := 2) (t := 0) (ci := 0) ⟨Nat.succ_pos _, Nat.le_of_ble_eq_true rfl⟩ ⟨Nat.succ_pos _, Nat.le_of_ble_eq_true rfl⟩ k30_2 k30_62 (by decide) dX6_init_158 ?_
  obtain ⟨g31, e31⟩ : ∃ g, g = tr_up g30 2 (.inr (.inl (3, 6, (fun j => if j = (0 : Int32).toNatClampNeg then 62 else (fun _ => 0) j)))) := ⟨_, rfl⟩
  refine tr_U.ren (n1 := 63) (c1 := 62) (s1 := 83990) e31 rfl rfl rfl ?_
  have k31_1 : g31 1 = .inr (.inr (5, [.ref 2, .ref 3, .ref 4, .ref 24, .ref 25, .ref 26, .ref 57, .ref 58, .ref 59, .ref 60, .ref 61, .int 0, .int 0, .long 0, .long 1, .int (-9), .ref 0])) := by rw [e31]; exact k30_1
  have k31_2 : g31 2 = .inr (.inl (3, 6, (fun j => if j = (0 : Int32).toNatClampNeg then 62 else (fun _ => 0) j))) := by rw [e31]; rfl
  have k31_3 : g31 3 = .inr (.inl (3, 4, (fun _ => 0))) := by rw [e31]; exact k30_3
  have k31_24 : g31 24 = .inr (.inr (1, [.ref 25, .ref 26, .ref 54, .int 0, .int 0, .int 0, .int 0, .ref 55, .ref 56])) := by rw [e31]; exact k30_24
  have k31_25 : g31 25 = .inr (.inr (3, [.ref 26, .ref 45, .ref 46, .ref 47, .ref 48, .ref 49, .ref 50, .ref 51, .ref 52, .ref 53, .int 0, .int 0, .int 0, .int (-9), .int (-9)])) := by rw [e31]; exact k30_25
  refine tr_U.iinc (v := (1 : Int32)) dX6_init_159 rfl (by decide) rfl ?_
  refine tr_U.goto (tgt := 138) dX6_init_162 (by decide) ?_
  refine tr_U.iload_n (i := 1) dX6_init_138 rfl rfl ?_
  refine tr_U.bipush (v := (6 : Int32)) dX6_init_139 (by decide) ?_
  refine tr_U.icmp_ge_n (tgt := 165) dX6_init_141 (by decide) (by decide) ?_
  refine tr_U.aload_n (i := 0) dX6_init_144 rfl rfl (Nat.succ_pos _) ?_
  refine tr_U.get fl_X6_11 (Nat.succ_pos _) (Nat.le_of_ble_eq_true rfl) k31_1 rfl dX6_init_145 ?_
  refine tr_U.iload_n (i := 1) dX6_init_148 rfl rfl ?_
  refine tr_U.newc (ci := 0) (vs := [.ref 0, .int 0]) tyX1 rfl uw_X1 tyX1_ok cl_X6_9 ia_X1 in_X1 bl_X1 ⟨Nat.le_of_ble_eq_true rfl, Nat.le_of_ble_eq_true rfl⟩ ⟨rfl, Nat.succ_pos _, rfl⟩ dX6_init_149 ?_
  obtain ⟨g32, e32⟩ : ∃ g, g = tr_up g31 64 (.inr (.inr (0, [.ref 0, .int 0]))) := ⟨_, rfl⟩
  refine tr_U.ren (n1 := 64) (c1 := 63) (s1 := 83992) e32 rfl rfl rfl ?_
  have k32_1 : g32 1 = .inr (.inr (5, [.ref 2, .ref 3, .ref 4, .ref 24, .ref 25, .ref 26, .ref 57, .ref 58, .ref 59, .ref 60, .ref 61, .int 0, .int 0, .long 0, .long 1, .int (-9), .ref 0])) := by rw [e32]; exact k31_1
  have k32_2 : g32 2 = .inr (.inl (3, 6, (fun j => if j = (0 : Int32).toNatClampNeg then 62 else (fun _ => 0) j))) := by rw [e32]; exact k31_2
  have k32_3 : g32 3 = .inr (.inl (3, 4, (fun _ => 0))) := by rw [e32]; exact k31_3
  have k32_24 : g32 24 = .inr (.inr (1, [.ref 25, .ref 26, .ref 54, .int 0, .int 0, .int 0, .int 0, .ref 55, .ref 56])) := by rw [e32]; exact k31_24
  have k32_25 : g32 25 = .inr (.inr (3, [.ref 26, .ref 45, .ref 46, .ref 47, .ref 48, .ref 49, .ref 50, .ref 51, .ref 52, .ref 53, .int 0, .int 0, .int 0, .int (-9), .int (-9)])) := by rw [e32]; exact k31_25
  have k32_64 : g32 64 = .inr (.inr (0, [.ref 0, .int 0])) := by rw [e32]; rfl
  refine tr_U.dup rfl dX6_init_152 ?_
  refine tr_U.bipush (v := (60 : Int32)) dX6_init_153 (by decide) ?_
  refine tr_U.callI (J_X1_64 _ k32_64) cw_X1_init in_X1 ⟨by decide +kernel, by decide +kernel, by decide +kernel⟩ ⟨rfl, im_X1_init⟩ (Or.inl ml_X6_81) (Nat.succ_pos _) ⟨Nat.le_of_ble_eq_true rfl, Nat.le_of_ble_eq_true rfl⟩ rfl (Nat.le_of_ble_eq_true rfl) rfl ⟨Nat.le_of_ble_eq_true rfl, Nat.le_of_ble_eq_true rfl⟩ ⟨rfl, Nat.succ_pos _⟩ dX6_init_155 ?_
  obtain ⟨g33, e33⟩ : ∃ g, g = fX1_64 g32 := ⟨_, rfl⟩
  refine tr_U.ren (n1 := 65) (c1 := 64) (s1 := 84052) e33 rfl rfl rfl ?_
  have k33_1 : g33 1 = .inr (.inr (5, [.ref 2, .ref 3, .ref 4, .ref 24, .ref 25, .ref 26, .ref 57, .ref 58, .ref 59, .ref 60, .ref 61, .int 0, .int 0, .long 0, .long 1, .int (-9), .ref 0])) := by rw [e33]; exact k32_1
  have k33_2 : g33 2 = .inr (.inl (3, 6, (fun j => if j = (0 : Int32).toNatClampNeg then 62 else (fun _ => 0) j))) := by rw [e33]; exact k32_2
  have k33_3 : g33 3 = .inr (.inl (3, 4, (fun _ => 0))) := by rw [e33]; exact k32_3
  have k33_24 : g33 24 = .inr (.inr (1, [.ref 25, .ref 26, .ref 54, .int 0, .int 0, .int 0, .int 0, .ref 55, .ref 56])) := by rw [e33]; exact k32_24
  have k33_25 : g33 25 = .inr (.inr (3, [.ref 26, .ref 45, .ref 46, .ref 47, .ref 48, .ref 49, .ref 50, .ref 51, .ref 52, .ref 53, .int 0, .int 0, .int 0, .int (-9), .int (-9)])) := by rw [e33]; exact k32_25
  have k33_64 : g33 64 = .inr (.inr (0, [.ref 65, .int (-1)])) := by rw [e33]; rfl
  refine tr_U.aast (T := TX1) (Nf := 2) (t := 0) (ci := 0) ⟨Nat.succ_pos _, Nat.le_of_ble_eq_true rfl⟩ ⟨Nat.succ_pos _, Nat.le_of_ble_eq_true rfl⟩ k33_2 k33_64 (by decide) dX6_init_158 ?_
  obtain ⟨g34, e34⟩ : ∃ g, g = tr_up g33 2 (.inr (.inl (3, 6, (fun j => if j = (1 : Int32).toNatClampNeg then 64 else (fun j => if j = (0 : Int32).toNatClampNeg then 62 else (fun _ => 0) j) j)))) := ⟨_, rfl⟩
  refine tr_U.ren (n1 := 65) (c1 := 64) (s1 := 84052) e34 rfl rfl rfl ?_
  have k34_1 : g34 1 = .inr (.inr (5, [.ref 2, .ref 3, .ref 4, .ref 24, .ref 25, .ref 26, .ref 57, .ref 58, .ref 59, .ref 60, .ref 61, .int 0, .int 0, .long 0, .long 1, .int (-9), .ref 0])) := by rw [e34]; exact k33_1
  have k34_2 : g34 2 = .inr (.inl (3, 6, (fun j => if j = (1 : Int32).toNatClampNeg then 64 else (fun j => if j = (0 : Int32).toNatClampNeg then 62 else (fun _ => 0) j) j))) := by rw [e34]; rfl
  have k34_3 : g34 3 = .inr (.inl (3, 4, (fun _ => 0))) := by rw [e34]; exact k33_3
  have k34_24 : g34 24 = .inr (.inr (1, [.ref 25, .ref 26, .ref 54, .int 0, .int 0, .int 0, .int 0, .ref 55, .ref 56])) := by rw [e34]; exact k33_24
  have k34_25 : g34 25 = .inr (.inr (3, [.ref 26, .ref 45, .ref 46, .ref 47, .ref 48, .ref 49, .ref 50, .ref 51, .ref 52, .ref 53, .int 0, .int 0, .int 0, .int (-9), .int (-9)])) := by rw [e34]; exact k33_25
  refine tr_U.iinc (v := (2 : Int32)) dX6_init_159 rfl (by decide) rfl ?_
  refine tr_U.goto (tgt := 138) dX6_init_162 (by decide) ?_
  refine tr_U.iload_n (i := 1) dX6_init_138 rfl rfl ?_
  refine tr_U.bipush (v := (6 : Int32)) dX6_init_139 (by decide) ?_
  refine tr_U.icmp_ge_n (tgt := 165) dX6_init_141 (by decide) (by decide) ?_
  refine tr_U.aload_n (i := 0) dX6_init_144 rfl rfl (Nat.succ_pos _) ?_
  refine tr_U.get fl_X6_11 (Nat.succ_pos _) (Nat.le_of_ble_eq_true rfl) k34_1 rfl dX6_init_145 ?_
  refine tr_U.iload_n (i := 1) dX6_init_148 rfl rfl ?_
  refine tr_U.newc (ci := 0) (vs := [.ref 0, .int 0]) tyX1 rfl uw_X1 tyX1_ok cl_X6_9 ia_X1 in_X1 bl_X1 ⟨Nat.le_of_ble_eq_true rfl, Nat.le_of_ble_eq_true rfl⟩ ⟨rfl, Nat.succ_pos _, rfl⟩ dX6_init_149 ?_
  obtain ⟨g35, e35⟩ : ∃ g, g = tr_up g34 66 (.inr (.inr (0, [.ref 0, .int 0]))) := ⟨_, rfl⟩
  refine tr_U.ren (n1 := 66) (c1 := 65) (s1 := 84054) e35 rfl rfl rfl ?_
  have k35_1 : g35 1 = .inr (.inr (5, [.ref 2, .ref 3, .ref 4, .ref 24, .ref 25, .ref 26, .ref 57, .ref 58, .ref 59, .ref 60, .ref 61, .int 0, .int 0, .long 0, .long 1, .int (-9), .ref 0])) := by rw [e35]; exact k34_1
  have k35_2 : g35 2 = .inr (.inl (3, 6, (fun j => if j = (1 : Int32).toNatClampNeg then 64 else (fun j => if j = (0 : Int32).toNatClampNeg then 62 else (fun _ => 0) j) j))) := by rw [e35]; exact k34_2
  have k35_3 : g35 3 = .inr (.inl (3, 4, (fun _ => 0))) := by rw [e35]; exact k34_3
  have k35_24 : g35 24 = .inr (.inr (1, [.ref 25, .ref 26, .ref 54, .int 0, .int 0, .int 0, .int 0, .ref 55, .ref 56])) := by rw [e35]; exact k34_24
  have k35_25 : g35 25 = .inr (.inr (3, [.ref 26, .ref 45, .ref 46, .ref 47, .ref 48, .ref 49, .ref 50, .ref 51, .ref 52, .ref 53, .int 0, .int 0, .int 0, .int (-9), .int (-9)])) := by rw [e35]; exact k34_25
  have k35_66 : g35 66 = .inr (.inr (0, [.ref 0, .int 0])) := by rw [e35]; rfl
  refine tr_U.dup rfl dX6_init_152 ?_
  refine tr_U.bipush (v := (60 : Int32)) dX6_init_153 (by decide) ?_
  refine tr_U.callI (J_X1_66 _ k35_66) cw_X1_init in_X1 ⟨by decide +kernel, by decide +kernel, by decide +kernel⟩ ⟨rfl, im_X1_init⟩ (Or.inl ml_X6_81) (Nat.succ_pos _) ⟨Nat.le_of_ble_eq_true rfl, Nat.le_of_ble_eq_true rfl⟩ rfl (Nat.le_of_ble_eq_true rfl) rfl ⟨Nat.le_of_ble_eq_true rfl, Nat.le_of_ble_eq_true rfl⟩ ⟨rfl, Nat.succ_pos _⟩ dX6_init_155 ?_
  obtain ⟨g36, e36⟩ : ∃ g, g = fX1_66 g35 := ⟨_, rfl⟩
  refine tr_U.ren (n1 := 67) (c1 := 66) (s1 := 84114) e36 rfl rfl rfl ?_
  have k36_1 : g36 1 = .inr (.inr (5, [.ref 2, .ref 3, .ref 4, .ref 24, .ref 25, .ref 26, .ref 57, .ref 58, .ref 59, .ref 60, .ref 61, .int 0, .int 0, .long 0, .long 1, .int (-9), .ref 0])) := by rw [e36]; exact k35_1
  have k36_2 : g36 2 = .inr (.inl (3, 6, (fun j => if j = (1 : Int32).toNatClampNeg then 64 else (fun j => if j = (0 : Int32).toNatClampNeg then 62 else (fun _ => 0) j) j))) := by rw [e36]; exact k35_2
  have k36_3 : g36 3 = .inr (.inl (3, 4, (fun _ => 0))) := by rw [e36]; exact k35_3
  have k36_24 : g36 24 = .inr (.inr (1, [.ref 25, .ref 26, .ref 54, .int 0, .int 0, .int 0, .int 0, .ref 55, .ref 56])) := by rw [e36]; exact k35_24
  have k36_25 : g36 25 = .inr (.inr (3, [.ref 26, .ref 45, .ref 46, .ref 47, .ref 48, .ref 49, .ref 50, .ref 51, .ref 52, .ref 53, .int 0, .int 0, .int 0, .int (-9), .int (-9)])) := by rw [e36]; exact k35_25
  have k36_66 : g36 66 = .inr (.inr (0, [.ref 67, .int (-1)])) := by rw [e36]; rfl
  refine tr_U.aast (T := TX1) (Nf := 2) (t := 0) (ci := 0) ⟨Nat.succ_pos _, Nat.le_of_ble_eq_true rfl⟩ ⟨Nat.succ_pos _, Nat.le_of_ble_eq_true rfl⟩ k36_2 k36_66 (by decide) dX6_init_158 ?_
  obtain ⟨g37, e37⟩ : ∃ g, g = tr_up g36 2 (.inr (.inl (3, 6, (fun j => if j = (2 : Int32).toNatClampNeg then 66 else (fun j => if j = (1 : Int32).toNatClampNeg then 64 else (fun j => if j = (0 : Int32).toNatClampNeg then 62 else (fun _ => 0) j) j) j)))) := ⟨_, rfl⟩
  refine tr_U.ren (n1 := 67) (c1 := 66) (s1 := 84114) e37 rfl rfl rfl ?_
  have k37_1 : g37 1 = .inr (.inr (5, [.ref 2, .ref 3, .ref 4, .ref 24, .ref 25, .ref 26, .ref 57, .ref 58, .ref 59, .ref 60, .ref 61, .int 0, .int 0, .long 0, .long 1, .int (-9), .ref 0])) := by rw [e37]; exact k36_1
  have k37_2 : g37 2 = .inr (.inl (3, 6, (fun j => if j = (2 : Int32).toNatClampNeg then 66 else (fun j => if j = (1 : Int32).toNatClampNeg then 64 else (fun j => if j = (0 : Int32).toNatClampNeg then 62 else (fun _ => 0) j) j) j))) := by rw [e37]; rfl
  have k37_3 : g37 3 = .inr (.inl (3, 4, (fun _ => 0))) := by rw [e37]; exact k36_3
  have k37_24 : g37 24 = .inr (.inr (1, [.ref 25, .ref 26, .ref 54, .int 0, .int 0, .int 0, .int 0, .ref 55, .ref 56])) := by rw [e37]; exact k36_24
  have k37_25 : g37 25 = .inr (.inr (3, [.ref 26, .ref 45, .ref 46, .ref 47, .ref 48, .ref 49, .ref 50, .ref 51, .ref 52, .ref 53, .int 0, .int 0, .int 0, .int (-9), .int (-9)])) := by rw [e37]; exact k36_25
  refine tr_U.iinc (v := (3 : Int32)) dX6_init_159 rfl (by decide) rfl ?_
  refine tr_U.goto (tgt := 138) dX6_init_162 (by decide) ?_
  refine tr_U.iload_n (i := 1) dX6_init_138 rfl rfl ?_
  refine tr_U.bipush (v := (6 : Int32)) dX6_init_139 (by decide) ?_
  refine tr_U.icmp_ge_n (tgt := 165) dX6_init_141 (by decide) (by decide) ?_
  refine tr_U.aload_n (i := 0) dX6_init_144 rfl rfl (Nat.succ_pos _) ?_
  refine tr_U.get fl_X6_11 (Nat.succ_pos _) (Nat.le_of_ble_eq_true rfl) k37_1 rfl dX6_init_145 ?_
  refine tr_U.iload_n (i := 1) dX6_init_148 rfl rfl ?_
  refine tr_U.newc (ci := 0) (vs := [.ref 0, .int 0]) tyX1 rfl uw_X1 tyX1_ok cl_X6_9 ia_X1 in_X1 bl_X1 ⟨Nat.le_of_ble_eq_true rfl, Nat.le_of_ble_eq_true rfl⟩ ⟨rfl, Nat.succ_pos _, rfl⟩ dX6_init_149 ?_
  obtain ⟨g38, e38⟩ : ∃ g, g = tr_up g37 68 (.inr (.inr (0, [.ref 0, .int 0]))) := ⟨_, rfl⟩
  refine tr_U.ren (n1 := 68) (c1 := 67) (s1 := 84116) e38 rfl rfl rfl ?_
  have k38_1 : g38 1 = .inr (.inr (5, [.ref 2, .ref 3, .ref 4, .ref 24, .ref 25, .ref 26, .ref 57, .ref 58, .ref 59, .ref 60, .ref 61, .int 0, .int 0, .long 0, .long 1, .int (-9), .ref 0])) := by rw [e38]; exact k37_1
  have k38_2 : g38 2 = .inr (.inl (3, 6, (fun j => if j = (2 : Int32).toNatClampNeg then 66 else (fun j => if j = (1 : Int32).toNatClampNeg then 64 else (fun j => if j = (0 : Int32).toNatClampNeg then 62 else (fun _ => 0) j) j) j))) := by rw [e38]; exact k37_2
  have k38_3 : g38 3 = .inr (.inl (3, 4, (fun _ => 0))) := by rw [e38]; exact k37_3
  have k38_24 : g38 24 = .inr (.inr (1, [.ref 25, .ref 26, .ref 54, .int 0, .int 0, .int 0, .int 0, .ref 55, .ref 56])) := by rw [e38]; exact k37_24
  have k38_25 : g38 25 = .inr (.inr (3, [.ref 26, .ref 45, .ref 46, .ref 47, .ref 48, .ref 49, .ref 50, .ref 51, .ref 52, .ref 53, .int 0, .int 0, .int 0, .int (-9), .int (-9)])) := by rw [e38]; exact k37_25
  have k38_68 : g38 68 = .inr (.inr (0, [.ref 0, .int 0])) := by rw [e38]; rfl
  refine tr_U.dup rfl dX6_init_152 ?_
  refine tr_U.bipush (v := (60 : Int32)) dX6_init_153 (by decide) ?_
  refine tr_U.callI (J_X1_68 _ k38_68) cw_X1_init in_X1 ⟨by decide +kernel, by decide +kernel, by decide +kernel⟩ ⟨rfl, im_X1_init⟩ (Or.inl ml_X6_81) (Nat.succ_pos _) ⟨Nat.le_of_ble_eq_true rfl, Nat.le_of_ble_eq_true rfl⟩ rfl (Nat.le_of_ble_eq_true rfl) rfl ⟨Nat.le_of_ble_eq_true rfl, Nat.le_of_ble_eq_true rfl⟩ ⟨rfl, Nat.succ_pos _⟩ dX6_init_155 ?_
  obtain ⟨g39, e39⟩ : ∃ g, g = fX1_68 g38 := ⟨_, rfl⟩
  refine tr_U.ren (n1 := 69) (c1 := 68) (s1 := 84176) e39 rfl rfl rfl ?_
  have k39_1 : g39 1 = .inr (.inr (5, [.ref 2, .ref 3, .ref 4, .ref 24, .ref 25, .ref 26, .ref 57, .ref 58, .ref 59, .ref 60, .ref 61, .int 0, .int 0, .long 0, .long 1, .int (-9), .ref 0])) := by rw [e39]; exact k38_1
  have k39_2 : g39 2 = .inr (.inl (3, 6, (fun j => if j = (2 : Int32).toNatClampNeg then 66 else (fun j => if j = (1 : Int32).toNatClampNeg then 64 else (fun j => if j = (0 : Int32).toNatClampNeg then 62 else (fun _ => 0) j) j) j))) := by rw [e39]; exact k38_2
  have k39_3 : g39 3 = .inr (.inl (3, 4, (fun _ => 0))) := by rw [e39]; exact k38_3
  have k39_24 : g39 24 = .inr (.inr (1, [.ref 25, .ref 26, .ref 54, .int 0, .int 0, .int 0, .int 0, .ref 55, .ref 56])) := by rw [e39]; exact k38_24
  have k39_25 : g39 25 = .inr (.inr (3, [.ref 26, .ref 45, .ref 46, .ref 47, .ref 48, .ref 49, .ref 50, .ref 51, .ref 52, .ref 53, .int 0, .int 0, .int 0, .int (-9), .int (-9)])) := by rw [e39]; exact k38_25
  have k39_68 : g39 68 = .inr (.inr (0, [.ref 69, .int (-1)])) := by rw [e39]; rfl
  refine tr_U.aast (T := TX1) (Nf := 2) (t := 0) (ci := 0) ⟨Nat.succ_pos _, Nat.le_of_ble_eq_true rfl⟩ ⟨Nat.succ_pos _, Nat.le_of_ble_eq_true rfl⟩ k39_2 k39_68 (by decide) dX6_init_158 ?_
  obtain ⟨g40, e40⟩ : ∃ g, g = tr_up g39 2 (.inr (.inl (3, 6, (fun j => if j = (3 : Int32).toNatClampNeg then 68 else (fun j => if j = (2 : Int32).toNatClampNeg then 66 else (fun j => if j = (1 : Int32).toNatClampNeg then 64 else (fun j => if j = (0 : Int32).toNatClampNeg then 62 else (fun _ => 0) j) j) j) j)))) := ⟨_, rfl⟩
  refine tr_U.ren (n1 := 69) (c1 := 68) (s1 := 84176) e40 rfl rfl rfl ?_
  have k40_1 : g40 1 = .inr (.inr (5, [.ref 2, .ref 3, .ref 4, .ref 24, .ref 25, .ref 26, .ref 57, .ref 58, .ref 59, .ref 60, .ref 61, .int 0, .int 0, .long 0, .long 1, .int (-9), .ref 0])) := by rw [e40]; exact k39_1
  have k40_2 : g40 2 = .inr (.inl (3, 6, (fun j => if j = (3 : Int32).toNatClampNeg then 68 else (fun j => if j = (2 : Int32).toNatClampNeg then 66 else (fun j => if j = (1 : Int32).toNatClampNeg then 64 else (fun j => if j = (0 : Int32).toNatClampNeg then 62 else (fun _ => 0) j) j) j) j))) := by rw [e40]; rfl
  have k40_3 : g40 3 = .inr (.inl (3, 4, (fun _ => 0))) := by rw [e40]; exact k39_3
  have k40_24 : g40 24 = .inr (.inr (1, [.ref 25, .ref 26, .ref 54, .int 0, .int 0, .int 0, .int 0, .ref 55, .ref 56])) := by rw [e40]; exact k39_24
  have k40_25 : g40 25 = .inr (.inr (3, [.ref 26, .ref 45, .ref 46, .ref 47, .ref 48, .ref 49, .ref 50, .ref 51, .ref 52, .ref 53, .int 0, .int 0, .int 0, .int (-9), .int (-9)])) := by rw [e40]; exact k39_25
  refine tr_U.iinc (v := (4 : Int32)) dX6_init_159 rfl (by decide) rfl ?_
  refine tr_U.goto (tgt := 138) dX6_init_162 (by decide) ?_
  refine tr_U.iload_n (i := 1) dX6_init_138 rfl rfl ?_
  refine tr_U.bipush (v := (6 : Int32)) dX6_init_139 (by decide) ?_
  refine tr_U.icmp_ge_n (tgt := 165) dX6_init_141 (by decide) (by decide) ?_
  refine tr_U.aload_n (i := 0) dX6_init_144 rfl rfl (Nat.succ_pos _) ?_
  refine tr_U.get fl_X6_11 (Nat.succ_pos _) (Nat.le_of_ble_eq_true rfl) k40_1 rfl dX6_init_145 ?_
  refine tr_U.iload_n (i := 1) dX6_init_148 rfl rfl ?_
  refine tr_U.newc (ci := 0) (vs := [.ref 0, .int 0]) tyX1 rfl uw_X1 tyX1_ok cl_X6_9 ia_X1 in_X1 bl_X1 ⟨Nat.le_of_ble_eq_true rfl, Nat.le_of_ble_eq_true rfl⟩ ⟨rfl, Nat.succ_pos _, rfl⟩ dX6_init_149 ?_
  obtain ⟨g41, e41⟩ : ∃ g, g = tr_up g40 70 (.inr (.inr (0, [.ref 0, .int 0]))) := ⟨_, rfl⟩
  refine tr_U.ren (n1 := 70) (c1 := 69) (s1 := 84178) e41 rfl rfl rfl ?_
  have k41_1 : g41 1 = .inr (.inr (5, [.ref 2, .ref 3, .ref 4, .ref 24, .ref 25, .ref 26, .ref 57, .ref 58, .ref 59, .ref 60, .ref 61, .int 0, .int 0, .long 0, .long 1, .int (-9), .ref 0])) := by rw [e41]; exact k40_1
  have k41_2 : g41 2 = .inr (.inl (3, 6, (fun j => if j = (3 : Int32).toNatClampNeg then 68 else (fun j => if j = (2 : Int32).toNatClampNeg then 66 else (fun j => if j = (1 : Int32).toNatClampNeg then 64 else (fun j => if j = (0 : Int32).toNatClampNeg then 62 else (fun _ => 0) j) j) j) j))) := by rw [e41]; exact k40_2
  have k41_3 : g41 3 = .inr (.inl (3, 4, (fun _ => 0))) := by rw [e41]; exact k40_3
  have k41_24 : g41 24 = .inr (.inr (1, [.ref 25, .ref 26, .ref 54, .int 0, .int 0, .int 0, .int 0, .ref 55, .ref 56])) := by rw [e41]; exact k40_24
  have k41_25 : g41 25 = .inr (.inr (3, [.ref 26, .ref 45, .ref 46, .ref 47, .ref 48, .ref 49, .ref 50, .ref 51, .ref 52, .ref 53, .int 0, .int 0, .int 0, .int (-9), .int (-9)])) := by rw [e41]; exact k40_25
  have k41_70 : g41 70 = .inr (.inr (0, [.ref 0, .int 0])) := by rw [e41]; rfl
  refine tr_U.dup rfl dX6_init_152 ?_
  refine tr_U.bipush (v := (60 : Int32)) dX6_init_153 (by decide) ?_
  refine tr_U.callI (J_X1_70 _ k41_70) cw_X1_init in_X1 ⟨by decide +kernel, by decide +kernel, by decide +kernel⟩ ⟨rfl, im_X1_init⟩ (Or.inl ml_X6_81) (Nat.succ_pos _) ⟨Nat.le_of_ble_eq_true rfl, Nat.le_of_ble_eq_true rfl⟩ rfl (Nat.le_of_ble_eq_true rfl) rfl ⟨Nat.le_of_ble_eq_true rfl, Nat.le_of_ble_eq_true rfl⟩ ⟨rfl, Nat.succ_pos _⟩ dX6_init_155 ?_
  obtain ⟨g42, e42⟩ : ∃ g, g = fX1_70 g41 := ⟨_, rfl⟩
  refine tr_U.ren (n1 := 71) (c1 := 70) (s1 := 84238) e42 rfl rfl rfl ?_
  have k42_1 : g42 1 = .inr (.inr (5, [.ref 2, .ref 3, .ref 4, .ref 24, .ref 25, .ref 26, .ref 57, .ref 58, .ref 59, .ref 60, .ref 61, .int 0, .int 0, .long 0, .long 1, .int (-9), .ref 0])) := by rw [e42]; exact k41_1
  have k42_2 : g42 2 = .inr (.inl (3, 6, (fun j => if j = (3 : Int32).toNatClampNeg then 68 else (fun j => if j = (2 : Int32).toNatClampNeg then 66 else (fun j => if j = (1 : Int32).toNatClampNeg then 64 else (fun j => if j = (0 : Int32).toNatClampNeg then 62 else (fun _ => 0) j) j) j) j))) := by rw [e42]; exact k41_2
  have k42_3 : g42 3 = .inr (.inl (3, 4, (fun _ => 0))) := by rw [e42]; exact k41_3
  have k42_24 : g42 24 = .inr (.inr (1, [.ref 25, .ref 26, .ref 54, .int 0, .int 0, .int 0, .int 0, .ref 55, .ref 56])) := by rw [e42]; exact k41_24
  have k42_25 : g42 25 = .inr (.inr (3, [.ref 26, .ref 45, .ref 46, .ref 47, .ref 48, .ref 49, .ref 50, .ref 51, .ref 52, .ref 53, .int 0, .int 0, .int 0, .int (-9), .int (-9)])) := by rw [e42]; exact k41_25
  have k42_70 : g42 70 = .inr (.inr (0, [.ref 71, .int (-1)])) := by rw [e42]; rfl
  refine tr_U.aast (T := TX1) (Nf := 2) (t := 0) (ci := 0) ⟨Nat.succ_pos _, Nat.le_of_ble_eq_true rfl⟩ ⟨Nat.succ_pos _, Nat.le_of_ble_eq_true rfl⟩ k42_2 k42_70 (by decide) dX6_init_158 ?_
  obtain ⟨g43, e43⟩ : ∃ g, g = tr_up g42 2 (.inr (.inl (3, 6, (fun j => if j = (4 : Int32).toNatClampNeg then 70 else (fun j => if j = (3 : Int32).toNatClampNeg then 68 else (fun j => if j = (2 : Int32).toNatClampNeg then 66 else (fun j => if j = (1 : Int32).toNatClampNeg then 64 else (fun j => if j = (0 : Int32).toNatClampNeg then 62 else (fun _ => 0) j) j) j) j) j)))) := ⟨_, rfl⟩
  refine tr_U.ren (n1 := 71) (c1 := 70) (s1 := 84238) e43 rfl rfl rfl ?_
  have k43_1 : g43 1 = .inr (.inr (5, [.ref 2, .ref 3, .ref 4, .ref 24, .ref 25, .ref 26, .ref 57, .ref 58, .ref 59, .ref 60, .ref 61, .int 0, .int 0, .long 0, .long 1, .int (-9), .ref 0])) := by rw [e43]; exact k42_1
  have k43_2 : g43 2 = .inr (.inl (3, 6, (fun j => if j = (4 : Int32).toNatClampNeg then 70 else (fun j => if j = (3 : Int32).toNatClampNeg then 68 else (fun j => if j = (2 : Int32).toNatClampNeg then 66 else (fun j => if j = (1 : Int32).toNatClampNeg then 64 else (fun j => if j = (0 : Int32).toNatClampNeg then 62 else (fun _ => 0) j) j) j) j) j))) := by rw [e43]; rfl
  have k43_3 : g43 3 = .inr (.inl (3, 4, (fun _ => 0))) := by rw [e43]; exact k42_3
  have k43_24 : g43 24 = .inr (.inr (1, [.ref 25, .ref 26, .ref 54, .int 0, .int 0, .int 0, .int 0, .ref 55, .ref 56])) := by rw [e43]; exact k42_24
  have k43_25 : g43 25 = .inr (.inr (3, [.ref 26, .ref 45, .ref 46, .ref 47, .ref 48, .ref 49, .ref 50, .ref 51, .ref 52, .ref 53, .int 0, .int 0, .int 0, .int (-9), .int (-9)])) := by rw [e43]; exact k42_25
  refine tr_U.iinc (v := (5 : Int32)) dX6_init_159 rfl (by decide) rfl ?_
  refine tr_U.goto (tgt := 138) dX6_init_162 (by decide) ?_
  refine tr_U.iload_n (i := 1) dX6_init_138 rfl rfl ?_
  refine tr_U.bipush (v := (6 : Int32)) dX6_init_139 (by decide) ?_
  refine tr_U.icmp_ge_n (tgt := 165) dX6_init_141 (by decide) (by decide) ?_
  refine tr_U.aload_n (i := 0) dX6_init_144 rfl rfl (Nat.succ_pos _) ?_
  refine tr_U.get fl_X6_11 (Nat.succ_pos _) (Nat.le_of_ble_eq_true rfl) k43_1 rfl dX6_init_145 ?_
  refine tr_U.iload_n (i := 1) dX6_init_148 rfl rfl ?_
  refine tr_U.newc (ci := 0) (vs := [.ref 0, .int 0]) tyX1 rfl uw_X1 tyX1_ok cl_X6_9 ia_X1 in_X1 bl_X1 ⟨Nat.le_of_ble_eq_true rfl, Nat.le_of_ble_eq_true rfl⟩ ⟨rfl, Nat.succ_pos _, rfl⟩ dX6_init_149 ?_
  obtain ⟨g44, e44⟩ : ∃ g, g = tr_up g43 72 (.inr (.inr (0, [.ref 0, .int 0]))) := ⟨_, rfl⟩
  refine tr_U.ren (n1 := 72) (c1 := 71) (s1 := 84240) e44 rfl rfl rfl ?_
  have k44_1 : g44 1 = .inr (.inr (5, [.ref 2, .ref 3, .ref 4, .ref 24, .ref 25, .ref 26, .ref 57, .ref 58, .ref 59, .ref 60, .ref 61, .int 0, .int 0, .long 0, .long 1, .int (-9), .ref 0])) := by rw [e44]; exact k43_1
  have k44_2 : g44 2 = .inr (.inl (3, 6, (fun j => if j = (4 : Int32).toNatClampNeg then 70 else (fun j => if j = (3 : Int32).toNatClampNeg then 68 else (fun j => if j = (2 : Int32).toNatClampNeg then 66 else (fun j => if j = (1 : Int32).toNatClampNeg then 64 else (fun j => if j = (0 : Int32).toNatClampNeg then 62 else (fun _ => 0) j) j) j) j) j))) := by rw [e44]; exact k43_2
  have k44_3 : g44 3 = .inr (.inl (3, 4, (fun _ => 0))) := by rw [e44]; exact k43_3
  have k44_24 : g44 24 = .inr (.inr (1, [.ref 25, .ref 26, .ref 54, .int 0, .int 0, .int 0, .int 0, .ref 55, .ref 56])) := by rw [e44]; exact k43_24
  have k44_25 : g44 25 = .inr (.inr (3, [.ref 26, .ref 45, .ref 46, .ref 47, .ref 48, .ref 49, .ref 50, .ref 51, .ref 52, .ref 53, .int 0, .int 0, .int 0, .int (-9), .int (-9)])) := by rw [e44]; exact k43_25
  have k44_72 : g44 72 = .inr (.inr (0, [.ref 0, .int 0])) := by rw [e44]; rfl
  refine tr_U.dup rfl dX6_init_152 ?_
  refine tr_U.bipush (v := (60 : Int32)) dX6_init_153 (by decide) ?_
  refine tr_U.callI (J_X1_72 _ k44_72) cw_X1_init in_X1 ⟨by decide +kernel, by decide +kernel, by decide +kernel⟩ ⟨rfl, im_X1_init⟩ (Or.inl ml_X6_81) (Nat.succ_pos _) ⟨Nat.le_of_ble_eq_true rfl, Nat.le_of_ble_eq_true rfl⟩ rfl (Nat.le_of_ble_eq_true rfl) rfl ⟨Nat.le_of_ble_eq_true rfl, Nat.le_of_ble_eq_true rfl⟩ ⟨rfl, Nat.succ_pos _⟩ dX6_init_155 ?_
  obtain ⟨g45, e45⟩ : ∃ g, g = fX1_72 g44 := ⟨_, rfl⟩
  refine tr_U.ren (n1 := 73) (c1 := 72) (s1 := 84300) e45 rfl rfl rfl ?_
  have k45_1 : g45 1 = .inr (.inr (5, [.ref 2, .ref 3, .ref 4, .ref 24, .ref 25, .ref 26, .ref 57, .ref 58, .ref 59, .ref 60, .ref 61, .int 0, .int 0, .long 0, .long 1, .int (-9), .ref 0])) := by rw [e45]; exact k44_1
  have k45_2 : g45 2 = .inr (.inl (3, 6, (fun j => if j = (4 : Int32).toNatClampNeg then 70 else (fun j => if j = (3 : Int32).toNatClampNeg then 68 else (fun j => if j = (2 : Int32).toNatClampNeg then 66 else (fun j => if j = (1 : Int32).toNatClampNeg then 64 else (fun j => if j = (0 : Int32).toNatClampNeg then 62 else (fun _ => 0) j) j) j) j) j))) := by rw [e45]; exact k44_2
  have k45_3 : g45 3 = .inr (.inl (3, 4, (fun _ => 0))) := by rw [e45]; exact k44_3
  have k45_24 : g45 24 = .inr (.inr (1, [.ref 25, .ref 26, .ref 54, .int 0, .int 0, .int 0, .int 0, .ref 55, .ref 56])) := by rw [e45]; exact k44_24
  have k45_25 : g45 25 = .inr (.inr (3, [.ref 26, .ref 45, .ref 46, .ref 47, .ref 48, .ref 49, .ref 50, .ref 51, .ref 52, .ref 53, .int 0, .int 0, .int 0, .int (-9), .int (-9)])) := by rw [e45]; exact k44_25
  have k45_72 : g45 72 = .inr (.inr (0, [.ref 73, .int (-1)])) := by rw [e45]; rfl
  refine tr_U.aast (T := TX1) (Nf := 2) (t := 0) (ci := 0) ⟨Nat.succ_pos _, Nat.le_of_ble_eq_true rfl⟩ ⟨Nat.succ_pos _, Nat.le_of_ble_eq_true rfl⟩ k45_2 k45_72 (by decide) dX6_init_158 ?_
  obtain ⟨g46, e46⟩ : ∃ g, g = tr_up g45 2 (.inr (.inl (3, 6, (fun j => if j = (5 : Int32).toNatClampNeg then 72 else (fun j => if j = (4 : Int32).toNatClampNeg then 70 else (fun j => if j = (3 : Int32).toNatClampNeg then 68 else (fun j => if j = (2 : Int32).toNatClampNeg then 66 else (fun j => if j = (1 : Int32).toNatClampNeg then 64 else (fun j => if j = (0 : Int32).toNatClampNeg then 62 else (fun _ => 0) j) j) j) j) j) j)))) := ⟨_, rfl⟩
  refine tr_U.ren (n1 := 73) (c1 := 72) (s1 := 84300) e46 rfl rfl rfl ?_
  have k46_1 : g46 1 = .inr (.inr (5, [.ref 2, .ref 3, .ref 4, .ref 24, .ref 25, .ref 26, .ref 57, .ref 58, .ref 59, .ref 60, .ref 61, .int 0, .int 0, .long 0, .long 1, .int (-9), .ref 0])) := by rw [e46]; exact k45_1
  have k46_2 : g46 2 = .inr (.inl (3, 6, (fun j => if j = (5 : Int32).toNatClampNeg then 72 else (fun j => if j = (4 : Int32).toNatClampNeg then 70 else (fun j => if j = (3 : Int32).toNatClampNeg then 68 else (fun j => if j = (2 : Int32).toNatClampNeg then 66 else (fun j => if j = (1 : Int32).toNatClampNeg then 64 else (fun j => if j = (0 : Int32).toNatClampNeg then 62 else (fun _ => 0) j) j) j) j) j) j))) := by rw [e46]; rfl
  have k46_3 : g46 3 = .inr (.inl (3, 4, (fun _ => 0))) := by rw [e46]; exact k45_3
  have k46_24 : g46 24 = .inr (.inr (1, [.ref 25, .ref 26, .ref 54, .int 0, .int 0, .int 0, .int 0, .ref 55, .ref 56])) := by rw [e46]; exact k45_24
  have k46_25 : g46 25 = .inr (.inr (3, [.ref 26, .ref 45, .ref 46, .ref 47, .ref 48, .ref 49, .ref 50, .ref 51, .ref 52, .ref 53, .int 0, .int 0, .int 0, .int (-9), .int (-9)])) := by rw [e46]; exact k45_25
  refine tr_U.iinc (v := (6 : Int32)) dX6_init_159 rfl (by decide) rfl ?_
  refine tr_U.goto (tgt := 138) dX6_init_162 (by decide) ?_
  refine tr_U.iload_n (i := 1) dX6_init_138 rfl rfl ?_
  refine tr_U.bipush (v := (6 : Int32)) dX6_init_139 (by decide) ?_
  refine tr_U.icmp_ge_y (tgt := 165) dX6_init_141 (by decide) (by decide) ?_
  refine tr_U.iconst (v := (0 : Int32)) dX6_init_165 (by decide) ?_
  refine tr_U.istore_n (i := 1) dX6_init_166 rfl (Nat.le_of_ble_eq_true rfl) rfl ?_
  refine tr_U.iload_n (i := 1) dX6_init_167 rfl rfl ?_
  refine tr_U.iconst (v := (4 : Int32)) dX6_init_168 (by decide) ?_
  refine tr_U.icmp_ge_n (tgt := 193) dX6_init_169 (by decide) (by decide) ?_
  refine tr_U.aload_n (i := 0) dX6_init_172 rfl rfl (Nat.succ_pos _) ?_
  refine tr_U.get fl_X6_15 (Nat.succ_pos _) (Nat.le_of_ble_eq_true rfl) k46_1 rfl dX6_init_173 ?_
  refine tr_U.iload_n (i := 1) dX6_init_176 rfl rfl ?_
  refine tr_U.newc (ci := 0) (vs := [.ref 0, .int 0]) tyX1 rfl uw_X1 tyX1_ok cl_X6_9 ia_X1 in_X1 bl_X1 ⟨Nat.le_of_ble_eq_true rfl, Nat.le_of_ble_eq_true rfl⟩ ⟨rfl, Nat.succ_pos _, rfl⟩ dX6_init_177 ?_
  obtain ⟨g47, e47⟩ : ∃ g, g = tr_up g46 74 (.inr (.inr (0, [.ref 0, .int 0]))) := ⟨_, rfl⟩
  refine tr_U.ren (n1 := 74) (c1 := 73) (s1 := 84302) e47 rfl rfl rfl ?_
  have k47_1 : g47 1 = .inr (.inr (5, [.ref 2, .ref 3, .ref 4, .ref 24, .ref 25, .ref 26, .ref 57, .ref 58, .ref 59, .ref 60, .ref 61, .int 0, .int 0, .long 0, .long 1, .int (-9), .ref 0])) := by rw [e47]; exact k46_1
  have k47_2 : g47 2 = .inr (.inl (3, 6, (fun j => if j = (5 : Int32).toNatClampNeg then 72 else (fun j => if j = (4 : Int32).toNatClampNeg then 70 else (fun j => if j = (3 : Int32).toNatClampNeg then 68 else (fun j => if j = (2 : Int32).toNatClampNeg then 66 else (fun j => if j = (1 : Int32).toNatClampNeg then 64 else (fun j => if j = (0 : Int32).toNatClampNeg then 62 else (fun _ => 0) j) j) j) j) j) j))) := by rw [e47]; exact k46_2
  have k47_3 : g47 3 = .inr (.inl (3, 4, (fun _ => 0))) := by rw [e47]; exact k46_3
  have k47_24 : g47 24 = .inr (.inr (1, [.ref 25, .ref 26, .ref 54, .int 0, .int 0, .int 0, .int 0, .ref 55, .ref 56])) := by rw [e47]; exact k46_24
  have k47_25 : g47 25 = .inr (.inr (3, [.ref 26, .ref 45, .ref 46, .ref 47, .ref 48, .ref 49, .ref 50, .ref 51, .ref 52, .ref 53, .int 0, .int 0, .int 0, .int (-9), .int (-9)])) := by rw [e47]; exact k46_25
  have k47_74 : g47 74 = .inr (.inr (0, [.ref 0, .int 0])) := by rw [e47]; rfl
  refine tr_U.dup rfl dX6_init_180 ?_
  refine tr_U.bipush (v := (120 : Int32)) dX6_init_181 (by decide) ?_
  refine tr_U.callI (J_X1_74 _ k47_74) cw_X1_init in_X1 ⟨by decide +kernel, by decide +kernel, by decide +kernel⟩ ⟨rfl, im_X1_init⟩ (Or.inl ml_X6_81) (Nat.succ_pos _) ⟨Nat.le_of_ble_eq_true rfl, Nat.le_of_ble_eq_true rfl⟩ rfl (Nat.le_of_ble_eq_true rfl) rfl ⟨Nat.le_of_ble_eq_true rfl, Nat.le_of_ble_eq_true rfl⟩ ⟨rfl, Nat.succ_pos _⟩ dX6_init_183 ?_
  obtain ⟨g48, e48⟩ : ∃ g, g = fX1_74 g47 := ⟨_, rfl⟩
  refine tr_U.ren (n1 := 75) (c1 := 74) (s1 := 84422) e48 rfl rfl rfl ?_
  have k48_1 : g48 1 = .inr (.inr (5, [.ref 2, .ref 3, .ref 4, .ref 24, .ref 25, .ref 26, .ref 57, .ref 58, .ref 59, .ref 60, .ref 61, .int 0, .int 0, .long 0, .long 1, .int (-9), .ref 0])) := by rw [e48]; exact k47_1
  have k48_2 : g48 2 = .inr (.inl (3, 6, (fun j => if j = (5 : Int32).toNatClampNeg then 72 else (fun j => if j = (4 : Int32).toNatClampNeg then 70 else (fun j => if j = (3 : Int32).toNatClampNeg then 68 else (fun j => if j = (2 : Int32).toNatClampNeg then 66 else (fun j => if j = (1 : Int32).toNatClampNeg then 64 else (fun j => if j = (0 : Int32).toNatClampNeg then 62 else (fun _ => 0) j) j) j) j) j) j))) := by rw [e48]; exact k47_2
  have k48_3 : g48 3 = .inr (.inl (3, 4, (fun _ => 0))) := by rw [e48]; exact k47_3
  have k48_24 : g48 24 = .inr (.inr (1, [.ref 25, .ref 26, .ref 54, .int 0, .int 0, .int 0, .int 0, .ref 55, .ref 56])) := by rw [e48]; exact k47_24
  have k48_25 : g48 25 = .inr (.inr (3, [.ref 26, .ref 45, .ref 46, .ref 47, .ref 48, .ref 49, .ref 50, .ref 51, .ref 52, .ref 53, .int 0, .int 0, .int 0, .int (-9), .int (-9)])) := by rw [e48]; exact k47_25
  have k48_74 : g48 74 = .inr (.inr (0, [.ref 75, .int (-1)])) := by rw [e48]; rfl
  refine tr_U.aast (T := TX1) (Nf := 2) (t := 0) (ci := 0) ⟨Nat.succ_pos _, Nat.le_of_ble_eq_true rfl⟩ ⟨Nat.succ_pos _, Nat.le_of_ble_eq_true rfl⟩ k48_3 k48_74 (by decide) dX6_init_186 ?_
  obtain ⟨g49, e49⟩ : ∃ g, g = tr_up g48 3 (.inr (.inl (3, 4, (fun j => if j = (0 : Int32).toNatClampNeg then 74 else (fun _ => 0) j)))) := ⟨_, rfl⟩
  refine tr_U.ren (n1 := 75) (c1 := 74) (s1 := 84422) e49 rfl rfl rfl ?_
  have k49_1 : g49 1 = .inr (.inr (5, [.ref 2, .ref 3, .ref 4, .ref 24, .ref 25, .ref 26, .ref 57, .ref 58, .ref 59, .ref 60, .ref 61, .int 0, .int 0, .long 0, .long 1, .int (-9), .ref 0])) := by rw [e49]; exact k48_1
  have k49_2 : g49 2 = .inr (.inl (3, 6, (fun j => if j = (5 : Int32).toNatClampNeg then 72 else (fun j => if j = (4 : Int32).toNatClampNeg then 70 else (fun j => if j = (3 : Int32).toNatClampNeg then 68 else (fun j => if j = (2 : Int32).toNatClampNeg then 66 else (fun j => if j = (1 : Int32).toNatClampNeg then 64 else (fun j => if j = (0 : Int32).toNatClampNeg then 62 else (fun _ => 0) j) j) j) j) j) j))) := by rw [e49]; exact k48_2
  have k49_3 : g49 3 = .inr (.inl (3, 4, (fun j => if j = (0 : Int32).toNatClampNeg then 74 else (fun _ => 0) j))) := by rw [e49]; rfl
  have k49_24 : g49 24 = .inr (.inr (1, [.ref 25, .ref 26, .ref 54, .int 0, .int 0, .int 0, .int 0, .ref 55, .ref 56])) := by rw [e49]; exact k48_24
  have k49_25 : g49 25 = .inr (.inr (3, [.ref 26, .ref 45, .ref 46, .ref 47, .ref 48, .ref 49, .ref 50, .ref 51, .ref 52, .ref 53, .int 0, .int 0, .int 0, .int (-9), .int (-9)])) := by rw [e49]; exact k48_25
  refine tr_U.iinc (v := (1 : Int32)) dX6_init_187 rfl (by decide) rfl ?_
  refine tr_U.goto (tgt := 167) dX6_init_190 (by decide) ?_
  refine tr_U.iload_n (i := 1) dX6_init_167 rfl rfl ?_
  refine tr_U.iconst (v := (4 : Int32)) dX6_init_168 (by decide) ?_
  refine tr_U.icmp_ge_n (tgt := 193) dX6_init_169 (by decide) (by decide) ?_
  refine tr_U.aload_n (i := 0) dX6_init_172 rfl rfl (Nat.succ_pos _) ?_
  refine tr_U.get fl_X6_15 (Nat.succ_pos _) (Nat.le_of_ble_eq_true rfl) k49_1 rfl dX6_init_173 ?_
  refine tr_U.iload_n (i := 1) dX6_init_176 rfl rfl ?_
  refine tr_U.newc (ci := 0) (vs := [.ref 0, .int 0]) tyX1 rfl uw_X1 tyX1_ok cl_X6_9 ia_X1 in_X1 bl_X1 ⟨Nat.le_of_ble_eq_true rfl, Nat.le_of_ble_eq_true rfl⟩ ⟨rfl, Nat.succ_pos _, rfl⟩ dX6_init_177 ?_
  obtain ⟨g50, e50⟩ : ∃ g, g = tr_up g49 76 (.inr (.inr (0, [.ref 0, .int 0]))) := ⟨_, rfl⟩
  refine tr_U.ren (n1 := 76) (c1 := 75) (s1 := 84424) e50 rfl rfl rfl ?_
  have k50_1 : g50 1 = .inr (.inr (5, [.ref 2, .ref 3, .ref 4, .ref 24, .ref 25, .ref 26, .ref 57, .ref 58, .ref 59, .ref 60, .ref 61, .int 0, .int 0, .long 0, .long 1, .int (-9), .ref 0])) := by rw [e50]; exact k49_1
  have k50_2 : g50 2 = .inr (.inl (3, 6, (fun j => if j = (5 : Int32).toNatClampNeg then 72 else (fun j => if j = (4 : Int32).toNatClampNeg then 70 else (fun j => if j = (3 : Int32).toNatClampNeg then 68 else (fun j => if j = (2 : Int32).toNatClampNeg then 66 else (fun j => if j = (1 : Int32).toNatClampNeg then 64 else (fun j => if j = (0 : Int32).toNatClampNeg then 62 else (fun _ => 0) j) j) j) j) j) j))) := by rw [e50]; exact k49_2
  have k50_3 : g50 3 = .inr (.inl (3, 4, (fun j => if j = (0 : Int32).toNatClampNeg then 74 else (fun _ => 0) j))) := by rw [e50]; exact k49_3
  have k50_24 : g50 24 = .inr (.inr (1, [.ref 25, .ref 26, .ref 54, .int 0, .int 0, .int 0, .int 0, .ref 55, .ref 56])) := by rw [e50]; exact k49_24
  have k50_25 : g50 25 = .inr (.inr (3, [.ref 26, .ref 45, .ref 46, .ref 47, .ref 48, .ref 49, .ref 50, .ref 51, .ref 52, .ref 53, .int 0, .int 0, .int 0, .int (-9), .int (-9)])) := by rw [e50]; exact k49_25
  have k50_76 : g50 76 = .inr (.inr (0, [.ref 0, .int 0])) := by rw [e50]; rfl
  refine tr_U.dup rfl dX6_init_180 ?_
  refine tr_U.bipush (v := (120 : Int32)) dX6_init_181 (by decide) ?_
  refine tr_U.callI (J_X1_76 _ k50_76) cw_X1_init in_X1 ⟨by decide +kernel, by decide +kernel, by decide +kernel⟩ ⟨rfl, im_X1_init⟩ (Or.inl ml_X6_81) (Nat.succ_pos _) ⟨Nat.le_of_ble_eq_true rfl, Nat.le_of_ble_eq_true rfl⟩ rfl (Nat.le_of_ble_eq_true rfl) rfl ⟨Nat.le_of_ble_eq_true rfl, Nat.le_of_ble_eq_true rfl⟩ ⟨rfl, Nat.succ_pos _⟩ dX6_init_183 ?_
  obtain ⟨g51, e51⟩ : ∃ g, g = fX1_76 g50 := ⟨_, rfl⟩
  refine tr_U.ren (n1 := 77) (c1 := 76) (s1 := 84544) e51 rfl rfl rfl ?_
  have k51_1 : g51 1 = .inr (.inr (5, [.ref 2, .ref 3, .ref 4, .ref 24, .ref 25, .ref 26, .ref 57, .ref 58, .ref 59, .ref 60, .ref 61, .int 0, .int 0, .long 0, .long 1, .int (-9), .ref 0])) := by rw [e51]; exact k50_1
  have k51_2 : g51 2 = .inr (.inl (3, 6, (fun j => if j = (5 : Int32).toNatClampNeg then 72 else (fun j => if j = (4 : Int32).toNatClampNeg then 70 else (fun j => if j = (3 : Int32).toNatClampNeg then 68 else (fun j => if j = (2 : Int32).toNatClampNeg then 66 else (fun j => if j = (1 : Int32).toNatClampNeg then 64 else (fun j => if j = (0 : Int32).toNatClampNeg then 62 else (fun _ => 0) j) j) j) j) j) j))) := by rw [e51]; exact k50_2
  have k51_3 : g51 3 = .inr (.inl (3, 4, (fun j => if j = (0 : Int32).toNatClampNeg then 74 else (fun _ => 0) j))) := by rw [e51]; exact k50_3
  have k51_24 : g51 24 = .inr (.inr (1, [.ref 25, .ref 26, .ref 54, .int 0, .int 0, .int 0, .int 0, .ref 55, .ref 56])) := by rw [e51]; exact k50_24
  have k51_25 : g51 25 = .inr (.inr (3, [.ref 26, .ref 45, .ref 46, .ref 47, .ref 48, .ref 49, .ref 50, .ref 51, .ref 52, .ref 53, .int 0, .int 0, .int 0, .int (-9), .int (-9)])) := by rw [e51]; exact k50_25
  have k51_76 : g51 76 = .inr (.inr (0, [.ref 77, .int (-1)])) := by rw [e51]; rfl
  refine tr_U.aast (T := TX1) (Nf := 2) (t := 0) (ci := 0) ⟨Nat.succ_pos _, Nat.le_of_ble_eq_true rfl⟩ ⟨Nat.succ_pos _, Nat.le_of_ble_eq_true rfl⟩ k51_3 k51_76 (by decide) dX6_init_186 ?_
  obtain ⟨g52, e52⟩ : ∃ g, g = tr_up g51 3 (.inr (.inl (3, 4, (fun j => if j = (1 : Int32).toNatClampNeg then 76 else (fun j => if j = (0 : Int32).toNatClampNeg then 74 else (fun _ => 0) j) j)))) := ⟨_, rfl⟩
  refine tr_U.ren (n1 := 77) (c1 := 76) (s1 := 84544) e52 rfl rfl rfl ?_
  have k52_1 : g52 1 = .inr (.inr (5, [.ref 2, .ref 3, .ref 4, .ref 24, .ref 25, .ref 26, .ref 57, .ref 58, .ref 59, .ref 60, .ref 61, .int 0, .int 0, .long 0, .long 1, .int (-9), .ref 0])) := by rw [e52]; exact k51_1
  have k52_2 : g52 2 = .inr (.inl (3, 6, (fun j => if j = (5 : Int32).toNatClampNeg then 72 else (fun j => if j = (4 : Int32).toNatClampNeg then 70 else (fun j => if j = (3 : Int32).toNatClampNeg then 68 else (fun j => if j = (2 : Int32).toNatClampNeg then 66 else (fun j => if j = (1 : Int32).toNatClampNeg then 64 else (fun j => if j = (0 : Int32).toNatClampNeg then 62 else (fun _ => 0) j) j) j) j) j) j))) := by rw [e52]; exact k51_2
  have k52_3 : g52 3 = .inr (.inl (3, 4, (fun j => if j = (1 : Int32).toNatClampNeg then 76 else (fun j => if j = (0 : Int32).toNatClampNeg then 74 else (fun _ => 0) j) j))) := by rw [e52]; rfl
  have k52_24 : g52 24 = .inr (.inr (1, [.ref 25, .ref 26, .ref 54, .int 0, .int 0, .int 0, .int 0, .ref 55, .ref 56])) := by rw [e52]; exact k51_24
  have k52_25 : g52 25 = .inr (.inr (3, [.ref 26, .ref 45, .ref 46, .ref 47, .ref 48, .ref 49, .ref 50, .ref 51, .ref 52, .ref 53, .int 0, .int 0, .int 0, .int (-9), .int (-9)])) := by rw [e52]; exact k51_25
  refine tr_U.iinc (v := (2 : Int32)) dX6_init_187 rfl (by decide) rfl ?_
  refine tr_U.goto (tgt := 167) dX6_init_190 (by decide) ?_
  refine tr_U.iload_n (i := 1) dX6_init_167 rfl rfl ?_
  refine tr_U.iconst (v := (4 : Int32)) dX6_init_168 (by decide) ?_
  refine tr_U.icmp_ge_n (tgt := 193) dX6_init_169 (by decide) (by decide) ?_
  refine tr_U.aload_n (i := 0) dX6_init_172 rfl rfl (Nat.succ_pos _) ?_
  refine tr_U.get fl_X6_15 (Nat.succ_pos _) (Nat.le_of_ble_eq_true rfl) k52_1 rfl dX6_init_173 ?_
  refine tr_U.iload_n (i := 1) dX6_init_176 rfl rfl ?_
  refine tr_U.newc (ci := 0) (vs := [.ref 0, .int 0]) tyX1 rfl uw_X1 tyX1_ok cl_X6_9 ia_X1 in_X1 bl_X1 ⟨Nat.le_of_ble_eq_true rfl, Nat.le_of_ble_eq_true rfl⟩ ⟨rfl, Nat.succ_pos _, rfl⟩ dX6_init_177 ?_
  obtain ⟨g53, e53⟩ : ∃ g, g = tr_up g52 78 (.inr (.inr (0, [.ref 0, .int 0]))) := ⟨_, rfl⟩
  refine tr_U.ren (n1 := 78) (c1 := 77) (s1 := 84546) e53 rfl rfl rfl ?_
  have k53_1 : g53 1 = .inr (.inr (5, [.ref 2, .ref 3, .ref 4, .ref 24, .ref 25, .ref 26, .ref 57, .ref 58, .ref 59, .ref 60, .ref 61, .int 0, .int 0, .long 0, .long 1, .int (-9), .ref 0])) := by rw [e53]; exact k52_1
  have k53_2 : g53 2 = .inr (.inl (3, 6, (fun j => if j = (5 : Int32).toNatClampNeg then 72 else (fun j => if j = (4 : Int32).toNatClampNeg then 70 else (fun j => if j = (3 : Int32).toNatClampNeg then 68 else (fun j => if j = (2 : Int32).toNatClampNeg then 66 else (fun j => if j = (1 : Int32).toNatClampNeg then 64 else (fun j => if j = (0 : Int32).toNatClampNeg then 62 else (fun _ => 0) j) j) j) j) j) j))) := by rw [e53]; exact k52_2
  have k53_3 : g53 3 = .inr (.inl (3, 4, (fun j => if j = (1 : Int32).toNatClampNeg then 76 else (fun j => if j = (0 : Int32).toNatClampNeg then 74 else (fun _ => 0) j) j))) := by rw [e53]; exact k52_3
  have k53_24 : g53 24 = .inr (.inr (1, [.ref 25, .ref 26, .ref 54, .int 0, .int 0, .int 0, .int 0, .ref 55, .ref 56])) := by rw [e53]; exact k52_24
  have k53_25 : g53 25 = .inr (.inr (3, [.ref 26, .ref 45, .ref 46, .ref 47, .ref 48, .ref 49, .ref 50, .ref 51, .ref 52, .ref 53, .int 0, .int 0, .int 0, .int (-9), .int (-9)])) := by rw [e53]; exact k52_25
  have k53_78 : g53 78 = .inr (.inr (0, [.ref 0, .int 0])) := by rw [e53]; rfl
  refine tr_U.dup rfl dX6_init_180 ?_
  refine tr_U.bipush (v := (120 : Int32)) dX6_init_181 (by decide) ?_
  refine tr_U.callI (J_X1_78 _ k53_78) cw_X1_init in_X1 ⟨by decide +kernel, by decide +kernel, by decide +kernel⟩ ⟨rfl, im_X1_init⟩ (Or.inl ml_X6_81) (Nat.succ_pos _) ⟨Nat.le_of_ble_eq_true rfl, Nat.le_of_ble_eq_true rfl⟩ rfl (Nat.le_of_ble_eq_true rfl) rfl ⟨Nat.le_of_ble_eq_true rfl, Nat.le_of_ble_eq_true rfl⟩ ⟨rfl, Nat.succ_pos _⟩ dX6_init_183 ?_
  obtain ⟨g54, e54⟩ : ∃ g, g = fX1_78 g53 := ⟨_, rfl⟩
  refine tr_U.ren (n1 := 79) (c1 := 78) (s1 := 84666) e54 rfl rfl rfl ?_
  have k54_1 : g54 1 = .inr (.inr (5, [.ref 2, .ref 3, .ref 4, .ref 24, .ref 25, .ref 26, .ref 57, .ref 58, .ref 59, .ref 60, .ref 61, .int 0, .int 0, .long 0, .long 1, .int (-9), .ref 0])) := by rw [e54]; exact k53_1
  have k54_2 : g54 2 = .inr (.inl (3, 6, (fun j => if j = (5 : Int32).toNatClampNeg then 72 else (fun j => if j = (4 : Int32).toNatClampNeg then 70 else (fun j => if j = (3 : Int32).toNatClampNeg then 68 else (fun j => if j = (2 : Int32).toNatClampNeg then 66 else (fun j => if j = (1 : Int32).toNatClampNeg then 64 else (fun j => if j = (0 : Int32).toNatClampNeg then 62 else (fun _ => 0) j) j) j) j) j) j))) := by rw [e54]; exact k53_2
  have k54_3 : g54 3 = .inr (.inl (3, 4, (fun j => if j = (1 : Int32).toNatClampNeg then 76 else (fun j => if j = (0 : Int32).toNatClampNeg then 74 else (fun _ => 0) j) j))) := by rw [e54]; exact k53_3
  have k54_24 : g54 24 = .inr (.inr (1, [.ref 25, .ref 26, .ref 54, .int 0, .int 0, .int 0, .int 0, .ref 55, .ref 56])) := by rw [e54]; exact k53_24
  have k54_25 : g54 25 = .inr (.inr (3, [.ref 26, .ref 45, .ref 46, .ref 47, .ref 48, .ref 49, .ref 50, .ref 51, .ref 52, .ref 53, .int 0, .int 0, .int 0, .int (-9), .int (-9)])) := by rw [e54]; exact k53_25
  have k54_78 : g54 78 = .inr (.inr (0, [.ref 79, .int (-1)])) := by rw [e54]; rfl
  refine tr_U.aast (T := TX1) (Nf := 2) (t := 0) (ci := 0) ⟨Nat.succ_pos _, Nat.le_of_ble_eq_true rfl⟩ ⟨Nat.succ_pos _, Nat.le_of_ble_eq_true rfl⟩ k54_3 k54_78 (by decide) dX6_init_186 ?_
  obtain ⟨g55, e55⟩ : ∃ g, g = tr_up g54 3 (.inr (.inl (3, 4, (fun j => if j = (2 : Int32).toNatClampNeg then 78 else (fun j => if j = (1 : Int32).toNatClampNeg then 76 else (fun j => if j = (0 : Int32).toNatClampNeg then 74 else (fun _ => 0) j) j) j)))) := ⟨_, rfl⟩
  refine tr_U.ren (n1 := 79) (c1 := 78) (s1 := 84666) e55 rfl rfl rfl ?_
  have k55_1 : g55 1 = .inr (.inr (5, [.ref 2, .ref 3, .ref 4, .ref 24, .ref 25, .ref 26, .ref 57, .ref 58, .ref 59, .ref 60, .ref 61, .int 0, .int 0, .long 0, .long 1, .int (-9), .ref 0])) := by rw [e55]; exact k54_1
  have k55_2 : g55 2 = .inr (.inl (3, 6, (fun j => if j = (5 : Int32).toNatClampNeg then 72 else (fun j => if j = (4 : Int32).toNatClampNeg then 70 else (fun j => if j = (3 : Int32).toNatClampNeg then 68 else (fun j => if j = (2 : Int32).toNatClampNeg then 66 else (fun j => if j = (1 : Int32).toNatClampNeg then 64 else (fun j => if j = (0 : Int32).toNatClampNeg then 62 else (fun _ => 0) j) j) j) j) j) j))) := by rw [e55]; exact k54_2
  have k55_3 : g55 3 = .inr (.inl (3, 4, (fun j => if j = (2 : Int32).toNatClampNeg then 78 else (fun j => if j = (1 : Int32).toNatClampNeg then 76 else (fun j => if j = (0 : Int32).toNatClampNeg then 74 else (fun _ => 0) j) j) j))) := by rw [e55]; rfl
  have k55_24 : g55 24 = .inr (.inr (1, [.ref 25, .ref 26, .ref 54, .int 0, .int 0, .int 0, .int 0, .ref 55, .ref 56])) := by rw [e55]; exact k54_24
  have k55_25 : g55 25 = .inr (.inr (3, [.ref 26, .ref 45, .ref 46, .ref 47, .ref 48, .ref 49, .ref 50, .ref 51, .ref 52, .ref 53, .int 0, .int 0, .int 0, .int (-9), .int (-9)])) := by rw [e55]; exact k54_25
  refine tr_U.iinc (v := (3 : Int32)) dX6_init_187 rfl (by decide) rfl ?_
  refine tr_U.goto (tgt := 167) dX6_init_190 (by decide) ?_
  refine tr_U.iload_n (i := 1) dX6_init_167 rfl rfl ?_
  refine tr_U.iconst (v := (4 : Int32)) dX6_init_168 (by decide) ?_
  refine tr_U.icmp_ge_n (tgt := 193) dX6_init_169 (by decide) (by decide) ?_
  refine tr_U.aload_n (i := 0) dX6_init_172 rfl rfl (Nat.succ_pos _) ?_
  refine tr_U.get fl_X6_15 (Nat.succ_pos _) (Nat.le_of_ble_eq_true rfl) k55_1 rfl dX6_init_173 ?_
  refine tr_U.iload_n (i := 1) dX6_init_176 rfl rfl ?_
  refine tr_U.newc (ci := 0) (vs := [.ref 0, .int 0]) tyX1 rfl uw_X1 tyX1_ok cl_X6_9 ia_X1 in_X1 bl_X1 ⟨Nat.le_of_ble_eq_true rfl, Nat.le_of_ble_eq_true rfl⟩ ⟨rfl, Nat.succ_pos _, rfl⟩ dX6_init_177 ?_
  obtain ⟨g56, e56⟩ : ∃ g, g = tr_up g55 80 (.inr (.inr (0, [.ref 0, .int 0]))) := ⟨_, rfl⟩
  refine tr_U.ren (n1 := 80) (c1 := 79) (s1 := 84668) e56 rfl rfl rfl ?_
  have k56_1 : g56 1 = .inr (.inr (5, [.ref 2, .ref 3, .ref 4, .ref 24, .ref 25, .ref 26, .ref 57, .ref 58, .ref 59, .ref 60, .ref 61, .int 0, .int 0, .long 0, .long 1, .int (-9), .ref 0])) := by rw [e56]; exact k55_1
  have k56_2 : g56 2 = .inr (.inl (3, 6, (fun j => if j = (5 : Int32).toNatClampNeg then 72 else (fun j => if j = (4 : Int32).toNatClampNeg then 70 else (fun j => if j = (3 : Int32).toNatClampNeg then 68 else (fun j => if j = (2 : Int32).toNatClampNeg then 66 else (fun j => if j = (1 : Int32).toNatClampNeg then 64 else (fun j => if j = (0 : Int32).toNatClampNeg then 62 else (fun _ => 0) j) j) j) j) j) j))) := by rw [e56]; exact k55_2
  have k56_3 : g56 3 = .inr (.inl (3, 4, (fun j => if j = (2 : Int32).toNatClampNeg then 78 else (fun j => if j = (1 : Int32).toNatClampNeg then 76 else (fun j => if j = (0 : Int32).toNatClampNeg then 74 else (fun _ => 0) j) j) j))) := by rw [e56]; exact k55_3
  have k56_24 : g56 24 = .inr (.inr (1, [.ref 25, .ref 26, .ref 54, .int 0, .int 0, .int 0, .int 0, .ref 55, .ref 56])) := by rw [e56]; exact k55_24
  have k56_25 : g56 25 = .inr (.inr (3, [.ref 26, .ref 45, .ref 46, .ref 47, .ref 48, .ref 49, .ref 50, .ref 51, .ref 52, .ref 53, .int 0, .int 0, .int 0, .int (-9), .int (-9)])) := by rw [e56]; exact k55_25
  have k56_80 : g56 80 = .inr (.inr (0, [.ref 0, .int 0])) := by rw [e56]; rfl
  refine tr_U.dup rfl dX6_init_180 ?_
  refine tr_U.bipush (v := (120 : Int32)) dX6_init_181 (by decide) ?_
  refine tr_U.callI (J_X1_80 _ k56_80) cw_X1_init in_X1 ⟨by decide +kernel, by decide +kernel, by decide +kernel⟩ ⟨rfl, im_X1_init⟩ (Or.inl ml_X6_81) (Nat.succ_pos _) ⟨Nat.le_of_ble_eq_true rfl, Nat.le_of_ble_eq_true rfl⟩ rfl (Nat.le_of_ble_eq_true rfl) rfl ⟨Nat.le_of_ble_eq_true rfl, Nat.le_of_ble_eq_true rfl⟩ ⟨rfl, Nat.succ_pos _⟩ dX6_init_183 ?_
  obtain ⟨g57, e57⟩ : ∃ g, g = fX1_80 g56 := ⟨_, rfl⟩
  refine tr_U.ren (n1 := 81) (c1 := 80) (s1 := 84788) e57 rfl rfl rfl ?_
  have k57_1 : g57 1 = .inr (.inr (5, [.ref 2, .ref 3, .ref 4, .ref 24, .ref 25, .ref 26, .ref 57, .ref 58, .ref 59, .ref 60, .ref 61, .int 0, .int 0, .long 0, .long 1, .int (-9), .ref 0])) := by rw [e57]; exact k56_1
  have k57_2 : g57 2 = .inr (.inl (3, 6, (fun j => if j = (5 : Int32).toNatClampNeg then 72 else (fun j => if j = (4 : Int32).toNatClampNeg then 70 else (fun j => if j = (3 : Int32).toNatClampNeg then 68 else (fun j => if j = (2 : Int32).toNatClampNeg then 66 else (fun j => if j = (1 : Int32).toNatClampNeg then 64 else (fun j => if j = (0 : Int32).toNatClampNeg then 62 else (fun _ => 0) j) j) j) j) j) j))) := by rw [e57]; exact k56_2
  have k57_3 : g57 3 = .inr (.inl (3, 4, (fun j => if j = (2 : Int32).toNatClampNeg then 78 else (fun j => if j = (1 : Int32).toNatClampNeg then 76 else (fun j => if j = (0 : Int32).toNatClampNeg then 74 else (fun _ => 0) j) j) j))) := by rw [e57]; exact k56_3
  have k57_24 : g57 24 = .inr (.inr (1, [.ref 25, .ref 26, .ref 54, .int 0, .int 0, .int 0, .int 0, .ref 55, .ref 56])) := by rw [e57]; exact k56_24
  have k57_25 : g57 25 = .inr (.inr (3, [.ref 26, .ref 45, .ref 46, .ref 47, .ref 48, .ref 49, .ref 50, .ref 51, .ref 52, .ref 53, .int 0, .int 0, .int 0, .int (-9), .int (-9)])) := by rw [e57]; exact k56_25
  have k57_80 : g57 80 = .inr (.inr (0, [.ref 81, .int (-1)])) := by rw [e57]; rfl
  refine tr_U.aast (T := TX1) (Nf := 2) (t := 0) (ci := 0) ⟨Nat.succ_pos _, Nat.le_of_ble_eq_true rfl⟩ ⟨Nat.succ_pos _, Nat.le_of_ble_eq_true rfl⟩ k57_3 k57_80 (by decide) dX6_init_186 ?_
  obtain ⟨g58, e58⟩ : ∃ g, g = tr_up g57 3 (.inr (.inl (3, 4, (fun j => if j = (3 : Int32).toNatClampNeg then 80 else (fun j => if j = (2 : Int32).toNatClampNeg then 78 else (fun j => if j = (1 : Int32).toNatClampNeg then 76 else (fun j => if j = (0 : Int32).toNatClampNeg then 74 else (fun _ => 0) j) j) j) j)))) := ⟨_, rfl⟩
  refine tr_U.ren (n1 := 81) (c1 := 80) (s1 := 84788) e58 rfl rfl rfl ?_
  have k58_1 : g58 1 = .inr (.inr (5, [.ref 2, .ref 3, .ref 4, .ref 24, .ref 25, .ref 26, .ref 57, .ref 58, .ref 59, .ref 60, .ref 61, .int 0, .int 0, .long 0, .long 1, .int (-9), .ref 0])) := by rw [e58]; exact k57_1
  have k58_2 : g58 2 = .inr (.inl (3, 6, (fun j => if j = (5 : Int32).toNatClampNeg then 72 else (fun j => if j = (4 : Int32).toNatClampNeg then 70 else (fun j => if j = (3 : Int32).toNatClampNeg then 68 else (fun j => if j = (2 : Int32).toNatClampNeg then 66 else (fun j => if j = (1 : Int32).toNatClampNeg then 64 else (fun j => if j = (0 : Int32).toNatClampNeg then 62 else (fun _ => 0) j) j) j) j) j) j))) := by rw [e58]; exact k57_2
  have k58_3 : g58 3 = .inr (.inl (3, 4, (fun j => if j = (3 : Int32).toNatClampNeg then 80 else (fun j => if j = (2 : Int32).toNatClampNeg then 78 else (fun j => if j = (1 : Int32).toNatClampNeg then 76 else (fun j => if j = (0 : Int32).toNatClampNeg then 74 else (fun _ => 0) j) j) j) j))) := by rw [e58]; rfl
  have k58_24 : g58 24 = .inr (.inr (1, [.ref 25, .ref 26, .ref 54, .int 0, .int 0, .int 0, .int 0, .ref 55, .ref 56])) := by rw [e58]; exact k57_24
  have k58_25 : g58 25 = .inr (.inr (3, [.ref 26, .ref 45, .ref 46, .ref 47, .ref 48, .ref 49, .ref 50, .ref 51, .ref 52, .ref 53, .int 0, .int 0, .int 0, .int (-9), .int (-9)])) := by rw [e58]; exact k57_25
  refine tr_U.iinc (v := (4 : Int32)) dX6_init_187 rfl (by decide) rfl ?_
  refine tr_U.goto (tgt := 167) dX6_init_190 (by decide) ?_
  refine tr_U.iload_n (i := 1) dX6_init_167 rfl rfl ?_
  refine tr_U.iconst (v := (4 : Int32)) dX6_init_168 (by decide) ?_
  refine tr_U.icmp_ge_y (tgt := 193) dX6_init_169 (by decide) (by decide) ?_
  exact tr_U.ret dX6_init_193 ⟨rfl, rfl⟩ ⟨rfl, Nat.succ_pos _⟩ rfl (by subst e1 e2 e3 e4 e5 e6 e7 e8 e9 e10 e11 e12 e13 e14 e15 e16 e17 e18 e19 e20 e21 e22 e23 e24 e25 e26 e27 e28 e29 e30 e31 e32 e33 e34 e35 e36 e37 e38 e39 e40 e41 e42 e43 e44 e45 e46 e47 e48 e49 e50 e51 e52 e53 e54 e55 e56 e57 e58; rfl)
def fX7_1 (f : Nat → tr_K) : Nat → tr_K := (tr_up (tr_up (tr_up (tr_up (tr_up (tr_up (tr_up (tr_up (tr_up (tr_up (tr_up (tr_up (tr_up (tr_up (tr_up (tr_up (tr_up (tr_up (tr_up (tr_up (tr_up (tr_up (tr_up (tr_up (tr_up (tr_up (tr_up (tr_up (tr_up (tr_up (tr_up (tr_up (tr_up (tr_up (tr_up (tr_up (tr_up (tr_up (tr_up (tr_up (tr_up (tr_up (tr_up (tr_up (tr_up (tr_up (tr_up (tr_up (tr_up (tr_up (tr_up (tr_up (tr_up (tr_up (tr_up (tr_up (tr_up (tr_up f 2 (.inl (0, 6, fun _ => 0))) 1 (.inr (.inr (6, (([.int 0, .ref 0, .int 0, .long 0, .long 0, .ref 0, .ref 0, .ref 0, .ref 0, .ref 0, .int 0, .ref 0, .int 0, .ref 0, .int 0, .int 0, .int 0, .int 0, .ref 0, .ref 0, .ref 0, .ref 0, .ref 0, .ref 0, .ref 0, .ref 0, .ref 0, .int 0, .int 0, .int 0, .int 0, .ref 0, .ref 0, .ref 0, .ref 0, .ref 0, .ref 0, .long 0] : List Value).set 1 (.ref 2)))))) 3 (.inl (0, 6, fun _ => 0))) 1 (.inr (.inr (6, ((([.int 0, .ref 0, .int 0, .long 0, .long 0, .ref 0, .ref 0, .ref 0, .ref 0, .ref 0, .int 0, .ref 0, .int 0, .ref 0, .int 0, .int 0, .int 0, .int 0, .ref 0, .ref 0, .ref 0, .ref 0, .ref 0, .ref 0, .ref 0, .ref 0, .ref 0, .int 0, .int 0, .int 0, .int 0, .ref 0, .ref 0, .ref 0, .ref 0, .ref 0, .ref 0, .long 0] : List Value).set 1 (.ref 2)).set 5 (.ref 3)))))) 4 (.inl (0, 360, fun _ => 0))) 1 (.inr (.inr (6, (((([.int 0, .ref 0, .int 0, .long 0, .long 0, .ref 0, .ref 0, .ref 0, .ref 0, .ref 0, .int 0, .ref 0, .int 0, .ref 0, .int 0, .int 0, .int 0, .int 0, .ref 0, .ref 0, .ref 0, .ref 0, .ref 0, .ref 0, .ref 0, .ref 0, .ref 0, .int 0, .int 0, .int 0, .int 0, .ref 0, .ref 0, .ref 0, .ref 0, .ref 0, .ref 0, .long 0] : List Value).set 1 (.ref 2)).set 5 (.ref 3)).set 6 (.ref 4)))))) 5 (.inl (0, 60, fun _ => 0))) 1 (.inr (.inr (6, ((((([.int 0, .ref 0, .int 0, .long 0, .long 0, .ref 0, .ref 0, .ref 0, .ref 0, .ref 0, .int 0, .ref 0, .int 0, .ref 0, .int 0, .int 0, .int 0, .int 0, .ref 0, .ref 0, .ref 0, .ref 0, .ref 0, .ref 0, .ref 0, .ref 0, .ref 0, .int 0, .int 0, .int 0, .int 0, .ref 0, .ref 0, .ref 0, .ref 0, .ref 0, .ref 0, .long 0] : List Value).set 1 (.ref 2)).set 5 (.ref 3)).set 6 (.ref 4)).set 7 (.ref 5)))))) 6 (.inl (0, 4, fun _ => 0))) 1 (.inr (.inr (6, (((((([.int 0, .ref 0, .int 0, .long 0, .long 0, .ref 0, .ref 0, .ref 0, .ref 0, .ref 0, .int 0, .ref 0, .int 0, .ref 0, .int 0, .int 0, .int 0, .int 0, .ref 0, .ref 0, .ref 0, .ref 0, .ref 0, .ref 0, .ref 0, .ref 0, .ref 0, .int 0, .int 0, .int 0, .int 0, .ref 0, .ref 0, .ref 0, .ref 0, .ref 0, .ref 0, .long 0] : List Value).set 1 (.ref 2)).set 5 (.ref 3)).set 6 (.ref 4)).set 7 (.ref 5)).set 8 (.ref 6)))))) 7 (.inl (1, 480, fun _ => 0))) 1 (.inr (.inr (6, ((((((([.int 0, .ref 0, .int 0, .long 0, .long 0, .ref 0, .ref 0, .ref 0, .ref 0, .ref 0, .int 0, .ref 0, .int 0, .ref 0, .int 0, .int 0, .int 0, .int 0, .ref 0, .ref 0, .ref 0, .ref 0, .ref 0, .ref 0, .ref 0, .ref 0, .ref 0, .int 0, .int 0, .int 0, .int 0, .ref 0, .ref 0, .ref 0, .ref 0, .ref 0, .ref 0, .long 0] : List Value).set 1 (.ref 2)).set 5 (.ref 3)).set 6 (.ref 4)).set 7 (.ref 5)).set 8 (.ref 6)).set 9 (.ref 7)))))) 8 (.inl (0, 100, fun _ => 0))) 1 (.inr (.inr (6, (((((((([.int 0, .ref 0, .int 0, .long 0, .long 0, .ref 0, .ref 0, .ref 0, .ref 0, .ref 0, .int 0, .ref 0, .int 0, .ref 0, .int 0, .int 0, .int 0, .int 0, .ref 0, .ref 0, .ref 0, .ref 0, .ref 0, .ref 0, .ref 0, .ref 0, .ref 0, .int 0, .int 0, .int 0, .int 0, .ref 0, .ref 0, .ref 0, .ref 0, .ref 0, .ref 0, .long 0] : List Value).set 1 (.ref 2)).set 5 (.ref 3)).set 6 (.ref 4)).set 7 (.ref 5)).set 8 (.ref 6)).set 9 (.ref 7)).set 11 (.ref 8)))))) 9 (.inl (0, 40, fun _ => 0))) 1 (.inr (.inr (6, ((((((((([.int 0, .ref 0, .int 0, .long 0, .long 0, .ref 0, .ref 0, .ref 0, .ref 0, .ref 0, .int 0, .ref 0, .int 0, .ref 0, .int 0, .int 0, .int 0, .int 0, .ref 0, .ref 0, .ref 0, .ref 0, .ref 0, .ref 0, .ref 0, .ref 0, .ref 0, .int 0, .int 0, .int 0, .int 0, .ref 0, .ref 0, .ref 0, .ref 0, .ref 0, .ref 0, .long 0] : List Value).set 1 (.ref 2)).set 5 (.ref 3)).set 6 (.ref 4)).set 7 (.ref 5)).set 8 (.ref 6)).set 9 (.ref 7)).set 11 (.ref 8)).set 13 (.ref 9)))))) 10 (.inl (0, 100, fun _ => 0))) 1 (.inr (.inr (6, (((((((((([.int 0, .ref 0, .int 0, .long 0, .long 0, .ref 0, .ref 0, .ref 0, .ref 0, .ref 0, .int 0, .ref 0, .int 0, .ref 0, .int 0, .int 0, .int 0, .int 0, .ref 0, .ref 0, .ref 0, .ref 0, .ref 0, .ref 0, .ref 0, .ref 0, .ref 0, .int 0, .int 0, .int 0, .int 0, .ref 0, .ref 0, .ref 0, .ref 0, .ref 0, .ref 0, .long 0] : List Value).set 1 (.ref 2)).set 5 (.ref 3)).set 6 (.ref 4)).set 7 (.ref 5)).set 8 (.ref 6)).set 9 (.ref 7)).set 11 (.ref 8)).set 13 (.ref 9)).set 18 (.ref 10)))))) 11 (.inl (0, 40, fun _ => 0))) 1 (.inr (.inr (6, ((((((((((([.int 0, .ref 0, .int 0, .long 0, .long 0, .ref 0, .ref 0, .ref 0, .ref 0, .ref 0, .int 0, .ref 0, .int 0, .ref 0, .int 0, .int 0, .int 0, .int 0, .ref 0, .ref 0, .ref 0, .ref 0, .ref 0, .ref 0, .ref 0, .ref 0, .ref 0, .int 0, .int 0, .int 0, .int 0, .ref 0, .ref 0, .ref 0, .ref 0, .ref 0, .ref 0, .long 0] : List Value).set 1 (.ref 2)).set 5 (.ref 3)).set 6 (.ref 4)).set 7 (.ref 5)).set 8 (.ref 6)).set 9 (.ref 7)).set 11 (.ref 8)).set 13 (.ref 9)).set 18 (.ref 10)).set 19 (.ref 11)))))) 12 (.inl (0, 10, fun _ => 0))) 1 (.inr (.inr (6, (((((((((((([.int 0, .ref 0, .int 0, .long 0, .long 0, .ref 0, .ref 0, .ref 0, .ref 0, .ref 0, .int 0, .ref 0, .int 0, .ref 0, .int 0, .int 0, .int 0, .int 0, .ref 0, .ref 0, .ref 0, .ref 0, .ref 0, .ref 0, .ref 0, .ref 0, .ref 0, .int 0, .int 0, .int 0, .int 0, .ref 0, .ref 0, .ref 0, .ref 0, .ref 0, .ref 0, .long 0] : List Value).set 1 (.ref 2)).set 5 (.ref 3)).set 6 (.ref 4)).set 7 (.ref 5)).set 8 (.ref 6)).set 9 (.ref 7)).set 11 (.ref 8)).set 13 (.ref 9)).set 18 (.ref 10)).set 19 (.ref 11)).set 20 (.ref 12)))))) 13 (.inl (0, 10, fun _ => 0))) 1 (.inr (.inr (6, ((((((((((((([.int 0, .ref 0, .int 0, .long 0, .long 0, .ref 0, .ref 0, .ref 0, .ref 0, .ref 0, .int 0, .ref 0, .int 0, .ref 0, .int 0, .int 0, .int 0, .int 0, .ref 0, .ref 0, .ref 0, .ref 0, .ref 0, .ref 0, .ref 0, .ref 0, .ref 0, .int 0, .int 0, .int 0, .int 0, .ref 0, .ref 0, .ref 0, .ref 0, .ref 0, .ref 0, .long 0] : List Value).set 1 (.ref 2)).set 5 (.ref 3)).set 6 (.ref 4)).set 7 (.ref 5)).set 8 (.ref 6)).set 9 (.ref 7)).set 11 (.ref 8)).set 13 (.ref 9)).set 18 (.ref 10)).set 19 (.ref 11)).set 20 (.ref 12)).set 21 (.ref 13)))))) 14 (.inl (0, 1024, fun _ => 0))) 1 (.inr (.inr (6, (((((((((((((([.int 0, .ref 0, .int 0, .long 0, .long 0, .ref 0, .ref 0, .ref 0, .ref 0, .ref 0, .int 0, .ref 0, .int 0, .ref 0, .int 0, .int 0, .int 0, .int 0, .ref 0, .ref 0, .ref 0, .ref 0, .ref 0, .ref 0, .ref 0, .ref 0, .ref 0, .int 0, .int 0, .int 0, .int 0, .ref 0, .ref 0, .ref 0, .ref 0, .ref 0, .ref 0, .long 0] : List Value).set 1 (.ref 2)).set 5 (.ref 3)).set 6 (.ref 4)).set 7 (.ref 5)).set 8 (.ref 6)).set 9 (.ref 7)).set 11 (.ref 8)).set 13 (.ref 9)).set 18 (.ref 10)).set 19 (.ref 11)).set 20 (.ref 12)).set 21 (.ref 13)).set 22 (.ref 14)))))) 15 (.inl (0, 1024, fun _ => 0))) 1 (.inr (.inr (6, ((((((((((((((([.int 0, .ref 0, .int 0, .long 0, .long 0, .ref 0, .ref 0, .ref 0, .ref 0, .ref 0, .int 0, .ref 0, .int 0, .ref 0, .int 0, .int 0, .int 0, .int 0, .ref 0, .ref 0, .ref 0, .ref 0, .ref 0, .ref 0, .ref 0, .ref 0, .ref 0, .int 0, .int 0, .int 0, .int 0, .ref 0, .ref 0, .ref 0, .ref 0, .ref 0, .ref 0, .long 0] : List Value).set 1 (.ref 2)).set 5 (.ref 3)).set 6 (.ref 4)).set 7 (.ref 5)).set 8 (.ref 6)).set 9 (.ref 7)).set 11 (.ref 8)).set 13 (.ref 9)).set 18 (.ref 10)).set 19 (.ref 11)).set 20 (.ref 12)).set 21 (.ref 13)).set 22 (.ref 14)).set 23 (.ref 15)))))) 16 (.inl (0, 10240, fun _ => 0))) 1 (.inr (.inr (6, (((((((((((((((([.int 0, .ref 0, .int 0, .long 0, .long 0, .ref 0, .ref 0, .ref 0, .ref 0, .ref 0, .int 0, .ref 0, .int 0, .ref 0, .int 0, .int 0, .int 0, .int 0, .ref 0, .ref 0, .ref 0, .ref 0, .ref 0, .ref 0, .ref 0, .ref 0, .ref 0, .int 0, .int 0, .int 0, .int 0, .ref 0, .ref 0, .ref 0, .ref 0, .ref 0, .ref 0, .long 0] : List Value).set 1 (.ref 2)).set 5 (.ref 3)).set 6 (.ref 4)).set 7 (.ref 5)).set 8 (.ref 6)).set 9 (.ref 7)).set 11 (.ref 8)).set 13 (.ref 9)).set 18 (.ref 10)).set 19 (.ref 11)).set 20 (.ref 12)).set 21 (.ref 13)).set 22 (.ref 14)).set 23 (.ref 15)).set 24 (.ref 16)))))) 17 (.inl (0, 10240, fun _ => 0))) 1 (.inr (.inr (6, ((((((((((((((((([.int 0, .ref 0, .int 0, .long 0, .long 0, .ref 0, .ref 0, .ref 0, .ref 0, .ref 0, .int 0, .ref 0, .int 0, .ref 0, .int 0, .int 0, .int 0, .int 0, .ref 0, .ref 0, .ref 0, .ref 0, .ref 0, .ref 0, .ref 0, .ref 0, .ref 0, .int 0, .int 0, .int 0, .int 0, .ref 0, .ref 0, .ref 0, .ref 0, .ref 0, .ref 0, .long 0] : List Value).set 1 (.ref 2)).set 5 (.ref 3)).set 6 (.ref 4)).set 7 (.ref 5)).set 8 (.ref 6)).set 9 (.ref 7)).set 11 (.ref 8)).set 13 (.ref 9)).set 18 (.ref 10)).set 19 (.ref 11)).set 20 (.ref 12)).set 21 (.ref 13)).set 22 (.ref 14)).set 23 (.ref 15)).set 24 (.ref 16)).set 25 (.ref 17)))))) 18 (.inl (0, 10240, fun _ => 0))) 1 (.inr (.inr (6, (((((((((((((((((([.int 0, .ref 0, .int 0, .long 0, .long 0, .ref 0, .ref 0, .ref 0, .ref 0, .ref 0, .int 0, .ref 0, .int 0, .ref 0, .int 0, .int 0, .int 0, .int 0, .ref 0, .ref 0, .ref 0, .ref 0, .ref 0, .ref 0, .ref 0, .ref 0, .ref 0, .int 0, .int 0, .int 0, .int 0, .ref 0, .ref 0, .ref 0, .ref 0, .ref 0, .ref 0, .long 0] : List Value).set 1 (.ref 2)).set 5 (.ref 3)).set 6 (.ref 4)).set 7 (.ref 5)).set 8 (.ref 6)).set 9 (.ref 7)).set 11 (.ref 8)).set 13 (.ref 9)).set 18 (.ref 10)).set 19 (.ref 11)).set 20 (.ref 12)).set 21 (.ref 13)).set 22 (.ref 14)).set 23 (.ref 15)).set 24 (.ref 16)).set 25 (.ref 17)).set 26 (.ref 18)))))) 19 (.inl (0, 10, fun _ => 0))) 1 (.inr (.inr (6, ((((((((((((((((((([.int 0, .ref 0, .int 0, .long 0, .long 0, .ref 0, .ref 0, .ref 0, .ref 0, .ref 0, .int 0, .ref 0, .int 0, .ref 0, .int 0, .int 0, .int 0, .int 0, .ref 0, .ref 0, .ref 0, .ref 0, .ref 0, .ref 0, .ref 0, .ref 0, .ref 0, .int 0, .int 0, .int 0, .int 0, .ref 0, .ref 0, .ref 0, .ref 0, .ref 0, .ref 0, .long 0] : List Value).set 1 (.ref 2)).set 5 (.ref 3)).set 6 (.ref 4)).set 7 (.ref 5)).set 8 (.ref 6)).set 9 (.ref 7)).set 11 (.ref 8)).set 13 (.ref 9)).set 18 (.ref 10)).set 19 (.ref 11)).set 20 (.ref 12)).set 21 (.ref 13)).set 22 (.ref 14)).set 23 (.ref 15)).set 24 (.ref 16)).set 25 (.ref 17)).set 26 (.ref 18)).set 31 (.ref 19)))))) 20 (.inl (0, 10, fun _ => 0))) 1 (.inr (.inr (6, (((((((((((((((((((([.int 0, .ref 0, .int 0, .long 0, .long 0, .ref 0, .ref 0, .ref 0, .ref 0, .ref 0, .int 0, .ref 0, .int 0, .ref 0, .int 0, .int 0, .int 0, .int 0, .ref 0, .ref 0, .ref 0, .ref 0, .ref 0, .ref 0, .ref 0, .ref 0, .ref 0, .int 0, .int 0, .int 0, .int 0, .ref 0, .ref 0, .ref 0, .ref 0, .ref 0, .ref 0, .long 0] : List Value).set 1 (.ref 2)).set 5 (.ref 3)).set 6 (.ref 4)).set 7 (.ref 5)).set 8 (.ref 6)).set 9 (.ref 7)).set 11 (.ref 8)).set 13 (.ref 9)).set 18 (.ref 10)).set 19 (.ref 11)).set 20 (.ref 12)).set 21 (.ref 13)).set 22 (.ref 14)).set 23 (.ref 15)).set 24 (.ref 16)).set 25 (.ref 17)).set 26 (.ref 18)).set 31 (.ref 19)).set 32 (.ref 20)))))) 21 (.inl (0, 10, fun _ => 0))) 1 (.inr (.inr (6, ((((((((((((((((((((([.int 0, .ref 0, .int 0, .long 0, .long 0, .ref 0, .ref 0, .ref 0, .ref 0, .ref 0, .int 0, .ref 0, .int 0, .ref 0, .int 0, .int 0, .int 0, .int 0, .ref 0, .ref 0, .ref 0, .ref 0, .ref 0, .ref 0, .ref 0, .ref 0, .ref 0, .int 0, .int 0, .int 0, .int 0, .ref 0, .ref 0, .ref 0, .ref 0, .ref 0, .ref 0, .long 0] : List Value).set 1 (.ref 2)).set 5 (.ref 3)).set 6 (.ref 4)).set 7 (.ref 5)).set 8 (.ref 6)).set 9 (.ref 7)).set 11 (.ref 8)).set 13 (.ref 9)).set 18 (.ref 10)).set 19 (.ref 11)).set 20 (.ref 12)).set 21 (.ref 13)).set 22 (.ref 14)).set 23 (.ref 15)).set 24 (.ref 16)).set 25 (.ref 17)).set 26 (.ref 18)).set 31 (.ref 19)).set 32 (.ref 20)).set 33 (.ref 21)))))) 22 (.inl (0, 10240, fun _ => 0))) 1 (.inr (.inr (6, (((((((((((((((((((((([.int 0, .ref 0, .int 0, .long 0, .long 0, .ref 0, .ref 0, .ref 0, .ref 0, .ref 0, .int 0, .ref 0, .int 0, .ref 0, .int 0, .int 0, .int 0, .int 0, .ref 0, .ref 0, .ref 0, .ref 0, .ref 0, .ref 0, .ref 0, .ref 0, .ref 0, .int 0, .int 0, .int 0, .int 0, .ref 0, .ref 0, .ref 0, .ref 0, .ref 0, .ref 0, .long 0] : List Value).set 1 (.ref 2)).set 5 (.ref 3)).set 6 (.ref 4)).set 7 (.ref 5)).set 8 (.ref 6)).set 9 (.ref 7)).set 11 (.ref 8)).set 13 (.ref 9)).set 18 (.ref 10)).set 19 (.ref 11)).set 20 (.ref 12)).set 21 (.ref 13)).set 22 (.ref 14)).set 23 (.ref 15)).set 24 (.ref 16)).set 25 (.ref 17)).set 26 (.ref 18)).set 31 (.ref 19)).set 32 (.ref 20)).set 33 (.ref 21)).set 34 (.ref 22)))))) 23 (.inl (0, 10240, fun _ => 0))) 1 (.inr (.inr (6, ((((((((((((((((((((((([.int 0, .ref 0, .int 0, .long 0, .long 0, .ref 0, .ref 0, .ref 0, .ref 0, .ref 0, .int 0, .ref 0, .int 0, .ref 0, .int 0, .int 0, .int 0, .int 0, .ref 0, .ref 0, .ref 0, .ref 0, .ref 0, .ref 0, .ref 0, .ref 0, .ref 0, .int 0, .int 0, .int 0, .int 0, .ref 0, .ref 0, .ref 0, .ref 0, .ref 0, .ref 0, .long 0] : List Value).set 1 (.ref 2)).set 5 (.ref 3)).set 6 (.ref 4)).set 7 (.ref 5)).set 8 (.ref 6)).set 9 (.ref 7)).set 11 (.ref 8)).set 13 (.ref 9)).set 18 (.ref 10)).set 19 (.ref 11)).set 20 (.ref 12)).set 21 (.ref 13)).set 22 (.ref 14)).set 23 (.ref 15)).set 24 (.ref 16)).set 25 (.ref 17)).set 26 (.ref 18)).set 31 (.ref 19)).set 32 (.ref 20)).set 33 (.ref 21)).set 34 (.ref 22)).set 35 (.ref 23)))))) 24 (.inl (2, 10240, fun _ => 0))) 1 (.inr (.inr (6, (((((((((((((((((((((((([.int 0, .ref 0, .int 0, .long 0, .long 0, .ref 0, .ref 0, .ref 0, .ref 0, .ref 0, .int 0, .ref 0, .int 0, .ref 0, .int 0, .int 0, .int 0, .int 0, .ref 0, .ref 0, .ref 0, .ref 0, .ref 0, .ref 0, .ref 0, .ref 0, .ref 0, .int 0, .int 0, .int 0, .int 0, .ref 0, .ref 0, .ref 0, .ref 0, .ref 0, .ref 0, .long 0] : List Value).set 1 (.ref 2)).set 5 (.ref 3)).set 6 (.ref 4)).set 7 (.ref 5)).set 8 (.ref 6)).set 9 (.ref 7)).set 11 (.ref 8)).set 13 (.ref 9)).set 18 (.ref 10)).set 19 (.ref 11)).set 20 (.ref 12)).set 21 (.ref 13)).set 22 (.ref 14)).set 23 (.ref 15)).set 24 (.ref 16)).set 25 (.ref 17)).set 26 (.ref 18)).set 31 (.ref 19)).set 32 (.ref 20)).set 33 (.ref 21)).set 34 (.ref 22)).set 35 (.ref 23)).set 36 (.ref 24)))))) 1 (.inr (.inr (6, ((((((((((((((((((((((((([.int 0, .ref 0, .int 0, .long 0, .long 0, .ref 0, .ref 0, .ref 0, .ref 0, .ref 0, .int 0, .ref 0, .int 0, .ref 0, .int 0, .int 0, .int 0, .int 0, .ref 0, .ref 0, .ref 0, .ref 0, .ref 0, .ref 0, .ref 0, .ref 0, .ref 0, .int 0, .int 0, .int 0, .int 0, .ref 0, .ref 0, .ref 0, .ref 0, .ref 0, .ref 0, .long 0] : List Value).set 1 (.ref 2)).set 5 (.ref 3)).set 6 (.ref 4)).set 7 (.ref 5)).set 8 (.ref 6)).set 9 (.ref 7)).set 11 (.ref 8)).set 13 (.ref 9)).set 18 (.ref 10)).set 19 (.ref 11)).set 20 (.ref 12)).set 21 (.ref 13)).set 22 (.ref 14)).set 23 (.ref 15)).set 24 (.ref 16)).set 25 (.ref 17)).set 26 (.ref 18)).set 31 (.ref 19)).set 32 (.ref 20)).set 33 (.ref 21)).set 34 (.ref 22)).set 35 (.ref 23)).set 36 (.ref 24)).set 4 (.long 1)))))) 1 (.inr (.inr (6, (((((((((((((((((((((((((([.int 0, .ref 0, .int 0, .long 0, .long 0, .ref 0, .ref 0, .ref 0, .ref 0, .ref 0, .int 0, .ref 0, .int 0, .ref 0, .int 0, .int 0, .int 0, .int 0, .ref 0, .ref 0, .ref 0, .ref 0, .ref 0, .ref 0, .ref 0, .ref 0, .ref 0, .int 0, .int 0, .int 0, .int 0, .ref 0, .ref 0, .ref 0, .ref 0, .ref 0, .ref 0, .long 0] : List Value).set 1 (.ref 2)).set 5 (.ref 3)).set 6 (.ref 4)).set 7 (.ref 5)).set 8 (.ref 6)).set 9 (.ref 7)).set 11 (.ref 8)).set 13 (.ref 9)).set 18 (.ref 10)).set 19 (.ref 11)).set 20 (.ref 12)).set 21 (.ref 13)).set 22 (.ref 14)).set 23 (.ref 15)).set 24 (.ref 16)).set 25 (.ref 17)).set 26 (.ref 18)).set 31 (.ref 19)).set 32 (.ref 20)).set 33 (.ref 21)).set 34 (.ref 22)).set 35 (.ref 23)).set 36 (.ref 24)).set 4 (.long 1)).set 27 (.int (-9))))))) 3 (.inl (0, 6, (upd (fun _ => 0) (0 : Int32).toNatClampNeg (-1))))) 3 (.inl (0, 6, (upd (upd (fun _ => 0) (0 : Int32).toNatClampNeg (-1)) (1 : Int32).toNatClampNeg (-1))))) 3 (.inl (0, 6, (upd (upd (upd (fun _ => 0) (0 : Int32).toNatClampNeg (-1)) (1 : Int32).toNatClampNeg (-1)) (2 : Int32).toNatClampNeg (-1))))) 3 (.inl (0, 6, (upd (upd (upd (upd (fun _ => 0) (0 : Int32).toNatClampNeg (-1)) (1 : Int32).toNatClampNeg (-1)) (2 : Int32).toNatClampNeg (-1)) (3 : Int32).toNatClampNeg (-1))))) 3 (.inl (0, 6, (upd (upd (upd (upd (upd (fun _ => 0) (0 : Int32).toNatClampNeg (-1)) (1 : Int32).toNatClampNeg (-1)) (2 : Int32).toNatClampNeg (-1)) (3 : Int32).toNatClampNeg (-1)) (4 : Int32).toNatClampNeg (-1))))) 3 (.inl (0, 6, (upd (upd (upd (upd (upd (upd (fun _ => 0) (0 : Int32).toNatClampNeg (-1)) (1 : Int32).toNatClampNeg (-1)) (2 : Int32).toNatClampNeg (-1)) (3 : Int32).toNatClampNeg (-1)) (4 : Int32).toNatClampNeg (-1)) (5 : Int32).toNatClampNeg (-1))))) 6 (.inl (0, 4, (upd (fun _ => 0) (0 : Int32).toNatClampNeg (-1))))) 6 (.inl (0, 4, (upd (upd (fun _ => 0) (0 : Int32).toNatClampNeg (-1)) (1 : Int32).toNatClampNeg (-1))))) 6 (.inl (0, 4, (upd (upd (upd (fun _ => 0) (0 : Int32).toNatClampNeg (-1)) (1 : Int32).toNatClampNeg (-1)) (2 : Int32).toNatClampNeg (-1))))) 6 (.inl (0, 4, (upd (upd (upd (upd (fun _ => 0) (0 : Int32).toNatClampNeg (-1)) (1 : Int32).toNatClampNeg (-1)) (2 : Int32).toNatClampNeg (-1)) (3 : Int32).toNatClampNeg (-1)))))
abbrev uX7_1 (f : Nat → tr_K) : tr_UX := (cX7_init, 2, RX7, 1, 23, 64734, 1, 24, fX7_1 f)
set_option maxRecDepth 100000 in
set_option maxHeartbeats 4000000 in
theorem J_X7_1 (f : Nat → tr_K) (hf : f 1 = .inr (.inr (6, [.int 0, .ref 0, .int 0, .long 0, .long 0, .ref 0, .ref 0, .ref 0, .ref 0, .ref 0, .int 0, .ref 0, .int 0, .ref 0, .int 0, .int 0, .int 0, .int 0, .ref 0, .ref 0, .ref 0, .ref 0, .ref 0, .ref 0, .ref 0, .ref 0, .ref 0, .int 0, .int 0, .int 0, .int 0, .ref 0, .ref 0, .ref 0, .ref 0, .ref 0, .ref 0, .long 0]))) : tr_J yX7_init (uX7_1 f) [.ref 1] 1 f := by
  refine tr_J.of pn_X7 rfl rfl rfl (Nat.le_of_ble_eq_true rfl) (fun Wt => ?_)
  refine tr_U.aload_n (i := 0) dX7_init_0 rfl rfl (Nat.succ_pos _) ?_
  refine tr_U.objInit (Nat.succ_pos _) ml_X7_1 w_objI w_objC (Nat.le_of_ble_eq_true rfl) (Nat.le_of_ble_eq_true rfl) dX7_init_1 ?_
  refine tr_U.aload_n (i := 0) dX7_init_4 rfl rfl (Nat.succ_pos _) ?_
  refine tr_U.bipush (v := (6 : Int32)) dX7_init_5 (by decide) ?_
  refine tr_U.newa (t := 0) (N := 6) (ty := .int) rfl w_ac_int (fun _ => rfl) rfl ra_int (by decide) (by decide) (by decide) ⟨Nat.le_of_ble_eq_true rfl, Nat.le_of_ble_eq_true rfl⟩ ⟨rfl, Nat.succ_pos _, rfl⟩ dX7_init_7 ?_
  refine tr_U.putF fl_X7_7 (Nat.succ_pos _) (Nat.le_of_ble_eq_true rfl) hf (fun _ => ⟨rfl, rfl⟩) (Nat.le_of_ble_eq_true rfl) (fun _ _ _ h => by cases h; rfl) dX7_init_9 ?_
  refine tr_U.aload_n (i := 0) dX7_init_12 rfl rfl (Nat.succ_pos _) ?_
  refine tr_U.bipush (v := (6 : Int32)) dX7_init_13 (by decide) ?_
  refine tr_U.newa (t := 0) (N := 6) (ty := .int) rfl w_ac_int (fun _ => rfl) rfl ra_int (by decide) (by decide) (by decide) ⟨Nat.le_of_ble_eq_true rfl, Nat.le_of_ble_eq_true rfl⟩ ⟨rfl, Nat.succ_pos _, rfl⟩ dX7_init_15 ?_
  refine tr_U.putF fl_X7_13 (Nat.succ_pos _) (Nat.le_of_ble_eq_true rfl) rfl (fun _ => ⟨rfl, rfl⟩) (Nat.le_of_ble_eq_true rfl) (fun _ _ _ h => by cases h; rfl) dX7_init_17 ?_
  refine tr_U.aload_n (i := 0) dX7_init_20 rfl rfl (Nat.succ_pos _) ?_
  refine tr_U.sipush (v := (360 : Int32)) dX7_init_21 (by decide) ?_
  refine tr_U.newa (t := 0) (N := 360) (ty := .int) rfl w_ac_int (fun _ => rfl) rfl ra_int (by decide) (by decide) (by decide) ⟨Nat.le_of_ble_eq_true rfl, Nat.le_of_ble_eq_true rfl⟩ ⟨rfl, Nat.succ_pos _, rfl⟩ dX7_init_24 ?_
  refine tr_U.putF fl_X7_16 (Nat.succ_pos _) (Nat.le_of_ble_eq_true rfl) rfl (fun _ => ⟨rfl, rfl⟩) (Nat.le_of_ble_eq_true rfl) (fun _ _ _ h => by cases h; rfl) dX7_init_26 ?_
  refine tr_U.aload_n (i := 0) dX7_init_29 rfl rfl (Nat.succ_pos _) ?_
  refine tr_U.bipush (v := (60 : Int32)) dX7_init_30 (by decide) ?_
  refine tr_U.newa (t := 0) (N := 60) (ty := .int) rfl w_ac_int (fun _ => rfl) rfl ra_int (by decide) (by decide) (by decide) ⟨Nat.le_of_ble_eq_true rfl, Nat.le_of_ble_eq_true rfl⟩ ⟨rfl, Nat.succ_pos _, rfl⟩ dX7_init_32 ?_
  refine tr_U.putF fl_X7_19 (Nat.succ_pos _) (Nat.le_of_ble_eq_true rfl) rfl (fun _ => ⟨rfl, rfl⟩) (Nat.le_of_ble_eq_true rfl) (fun _ _ _ h => by cases h; rfl) dX7_init_34 ?_
  refine tr_U.aload_n (i := 0) dX7_init_37 rfl rfl (Nat.succ_pos _) ?_
  refine tr_U.iconst (v := (4 : Int32)) dX7_init_38 (by decide) ?_
  refine tr_U.newa (t := 0) (N := 4) (ty := .int) rfl w_ac_int (fun _ => rfl) rfl ra_int (by decide) (by decide) (by decide) ⟨Nat.le_of_ble_eq_true rfl, Nat.le_of_ble_eq_true rfl⟩ ⟨rfl, Nat.succ_pos _, rfl⟩ dX7_init_39 ?_
  refine tr_U.putF fl_X7_22 (Nat.succ_pos _) (Nat.le_of_ble_eq_true rfl) rfl (fun _ => ⟨rfl, rfl⟩) (Nat.le_of_ble_eq_true rfl) (fun _ _ _ h => by cases h; rfl) dX7_init_41 ?_
  refine tr_U.aload_n (i := 0) dX7_init_44 rfl rfl (Nat.succ_pos _) ?_
  refine tr_U.sipush (v := (480 : Int32)) dX7_init_45 (by decide) ?_
  refine tr_U.newa (t := 1) (N := 480) (ty := .byte) rfl w_ac_byte (fun _ => rfl) rfl ra_byte (by decide) (by decide) (by decide) ⟨Nat.le_of_ble_eq_true rfl, Nat.le_of_ble_eq_true rfl⟩ ⟨rfl, Nat.succ_pos _, rfl⟩ dX7_init_48 ?_
  refine tr_U.putF fl_X7_25 (Nat.succ_pos _) (Nat.le_of_ble_eq_true rfl) rfl (fun _ => ⟨rfl, rfl⟩) (Nat.le_of_ble_eq_true rfl) (fun _ _ _ h => by cases h; rfl) dX7_init_50 ?_
  refine tr_U.aload_n (i := 0) dX7_init_53 rfl rfl (Nat.succ_pos _) ?_
  refine tr_U.bipush (v := (100 : Int32)) dX7_init_54 (by decide) ?_
  refine tr_U.newa (t := 0) (N := 100) (ty := .int) rfl w_ac_int (fun _ => rfl) rfl ra_int (by decide) (by decide) (by decide) ⟨Nat.le_of_ble_eq_true rfl, Nat.le_of_ble_eq_true rfl⟩ ⟨rfl, Nat.succ_pos _, rfl⟩ dX7_init_56 ?_
  refine tr_U.putF fl_X7_29 (Nat.succ_pos _) (Nat.le_of_ble_eq_true rfl) rfl (fun _ => ⟨rfl, rfl⟩) (Nat.le_of_ble_eq_true rfl) (fun _ _ _ h => by cases h; rfl) dX7_init_58 ?_
  refine tr_U.aload_n (i := 0) dX7_init_61 rfl rfl (Nat.succ_pos _) ?_
  refine tr_U.bipush (v := (40 : Int32)) dX7_init_62 (by decide) ?_
  refine tr_U.newa (t := 0) (N := 40) (ty := .int) rfl w_ac_int (fun _ => rfl) rfl ra_int (by decide) (by decide) (by decide) ⟨Nat.le_of_ble_eq_true rfl, Nat.le_of_ble_eq_true rfl⟩ ⟨rfl, Nat.succ_pos _, rfl⟩ dX7_init_64 ?_
  refine tr_U.putF fl_X7_32 (Nat.succ_pos _) (Nat.le_of_ble_eq_true rfl) rfl (fun _ => ⟨rfl, rfl⟩) (Nat.le_of_ble_eq_true rfl) (fun _ _ _ h => by cases h; rfl) dX7_init_66 ?_
  refine tr_U.aload_n (i := 0) dX7_init_69 rfl rfl (Nat.succ_pos _) ?_
  refine tr_U.bipush (v := (100 : Int32)) dX7_init_70 (by decide) ?_
  refine tr_U.newa (t := 0) (N := 100) (ty := .int) rfl w_ac_int (fun _ => rfl) rfl ra_int (by decide) (by decide) (by decide) ⟨Nat.le_of_ble_eq_true rfl, Nat.le_of_ble_eq_true rfl⟩ ⟨rfl, Nat.succ_pos _, rfl⟩ dX7_init_72 ?_
  refine tr_U.putF fl_X7_35 (Nat.succ_pos _) (Nat.le_of_ble_eq_true rfl) rfl (fun _ => ⟨rfl, rfl⟩) (Nat.le_of_ble_eq_true rfl) (fun _ _ _ h => by cases h; rfl) dX7_init_74 ?_
  refine tr_U.aload_n (i := 0) dX7_init_77 rfl rfl (Nat.succ_pos _) ?_
  refine tr_U.bipush (v := (40 : Int32)) dX7_init_78 (by decide) ?_
  refine tr_U.newa (t := 0) (N := 40) (ty := .int) rfl w_ac_int (fun _ => rfl) rfl ra_int (by decide) (by decide) (by decide) ⟨Nat.le_of_ble_eq_true rfl, Nat.le_of_ble_eq_true rfl⟩ ⟨rfl, Nat.succ_pos _, rfl⟩ dX7_init_80 ?_
  refine tr_U.putF fl_X7_38 (Nat.succ_pos _) (Nat.le_of_ble_eq_true rfl) rfl (fun _ => ⟨rfl, rfl⟩) (Nat.le_of_ble_eq_true rfl) (fun _ _ _ h => by cases h; rfl) dX7_init_82 ?_
  refine tr_U.aload_n (i := 0) dX7_init_85 rfl rfl (Nat.succ_pos _) ?_
  refine tr_U.bipush (v := (10 : Int32)) dX7_init_86 (by decide) ?_
  refine tr_U.newa (t := 0) (N := 10) (ty := .int) rfl w_ac_int (fun _ => rfl) rfl ra_int (by decide) (by decide) (by decide) ⟨Nat.le_of_ble_eq_true rfl, Nat.le_of_ble_eq_true rfl⟩ ⟨rfl, Nat.succ_pos _, rfl⟩ dX7_init_88 ?_
  refine tr_U.putF fl_X7_41 (Nat.succ_pos _) (Nat.le_of_ble_eq_true rfl) rfl (fun _ => ⟨rfl, rfl⟩) (Nat.le_of_ble_eq_true rfl) (fun _ _ _ h => by cases h; rfl) dX7_init_90 ?_
  refine tr_U.aload_n (i := 0) dX7_init_93 rfl rfl (Nat.succ_pos _) ?_
  refine tr_U.bipush (v := (10 : Int32)) dX7_init_94 (by decide) ?_
  refine tr_U.newa (t := 0) (N := 10) (ty := .int) rfl w_ac_int (fun _ => rfl) rfl ra_int (by decide) (by decide) (by decide) ⟨Nat.le_of_ble_eq_true rfl, Nat.le_of_ble_eq_true rfl⟩ ⟨rfl, Nat.succ_pos _, rfl⟩ dX7_init_96 ?_
  refine tr_U.putF fl_X7_44 (Nat.succ_pos _) (Nat.le_of_ble_eq_true rfl) rfl (fun _ => ⟨rfl, rfl⟩) (Nat.le_of_ble_eq_true rfl) (fun _ _ _ h => by cases h; rfl) dX7_init_98 ?_
  refine tr_U.aload_n (i := 0) dX7_init_101 rfl rfl (Nat.succ_pos _) ?_
  refine tr_U.sipush (v := (1024 : Int32)) dX7_init_102 (by decide) ?_
  refine tr_U.newa (t := 0) (N := 1024) (ty := .int) rfl w_ac_int (fun _ => rfl) rfl ra_int (by decide) (by decide) (by decide) ⟨Nat.le_of_ble_eq_true rfl, Nat.le_of_ble_eq_true rfl⟩ ⟨rfl, Nat.succ_pos _, rfl⟩ dX7_init_105 ?_
  refine tr_U.putF fl_X7_47 (Nat.succ_pos _) (Nat.le_of_ble_eq_true rfl) rfl (fun _ => ⟨rfl, rfl⟩) (Nat.le_of_ble_eq_true rfl) (fun _ _ _ h => by cases h; rfl) dX7_init_107 ?_
  refine tr_U.aload_n (i := 0) dX7_init_110 rfl rfl (Nat.succ_pos _) ?_
  refine tr_U.sipush (v := (1024 : Int32)) dX7_init_111 (by decide) ?_
  refine tr_U.newa (t := 0) (N := 1024) (ty := .int) rfl w_ac_int (fun _ => rfl) rfl ra_int (by decide) (by decide) (by decide) ⟨Nat.le_of_ble_eq_true rfl, Nat.le_of_ble_eq_true rfl⟩ ⟨rfl, Nat.succ_pos _, rfl⟩ dX7_init_114 ?_
  refine tr_U.putF fl_X7_50 (Nat.succ_pos _) (Nat.le_of_ble_eq_true rfl) rfl (fun _ => ⟨rfl, rfl⟩) (Nat.le_of_ble_eq_true rfl) (fun _ _ _ h => by cases h; rfl) dX7_init_116 ?_
  refine tr_U.aload_n (i := 0) dX7_init_119 rfl rfl (Nat.succ_pos _) ?_
  refine tr_U.sipush (v := (10240 : Int32)) dX7_init_120 (by decide) ?_
  refine tr_U.newa (t := 0) (N := 10240) (ty := .int) rfl w_ac_int (fun _ => rfl) rfl ra_int (by decide) (by decide) (by decide) ⟨Nat.le_of_ble_eq_true rfl, Nat.le_of_ble_eq_true rfl⟩ ⟨rfl, Nat.succ_pos _, rfl⟩ dX7_init_123 ?_
  refine tr_U.putF fl_X7_53 (Nat.succ_pos _) (Nat.le_of_ble_eq_true rfl) rfl (fun _ => ⟨rfl, rfl⟩) (Nat.le_of_ble_eq_true rfl) (fun _ _ _ h => by cases h; rfl) dX7_init_125 ?_
  refine tr_U.aload_n (i := 0) dX7_init_128 rfl rfl (Nat.succ_pos _) ?_
  refine tr_U.sipush (v := (10240 : Int32)) dX7_init_129 (by decide) ?_
  refine tr_U.newa (t := 0) (N := 10240) (ty := .int) rfl w_ac_int (fun _ => rfl) rfl ra_int (by decide) (by decide) (by decide) ⟨Nat.le_of_ble_eq_true rfl, Nat.le_of_ble_eq_true rfl⟩ ⟨rfl, Nat.succ_pos _, rfl⟩ dX7_init_132 ?_
  refine tr_U.putF fl_X7_56 (Nat.succ_pos _) (Nat.le_of_ble_eq_true rfl) rfl (fun _ => ⟨rfl, rfl⟩) (Nat.le_of_ble_eq_true rfl) (fun _ _ _ h => by cases h; rfl) dX7_init_134 ?_
  refine tr_U.aload_n (i := 0) dX7_init_137 rfl rfl (Nat.succ_pos _) ?_
  refine tr_U.sipush (v := (10240 : Int32)) dX7_init_138 (by decide) ?_
  refine tr_U.newa (t := 0) (N := 10240) (ty := .int) rfl w_ac_int (fun _ => rfl) rfl ra_int (by decide) (by decide) (by decide) ⟨Nat.le_of_ble_eq_true rfl, Nat.le_of_ble_eq_true rfl⟩ ⟨rfl, Nat.succ_pos _, rfl⟩ dX7_init_141 ?_
  refine tr_U.putF fl_X7_59 (Nat.succ_pos _) (Nat.le_of_ble_eq_true rfl) rfl (fun _ => ⟨rfl, rfl⟩) (Nat.le_of_ble_eq_true rfl) (fun _ _ _ h => by cases h; rfl) dX7_init_143 ?_
  refine tr_U.aload_n (i := 0) dX7_init_146 rfl rfl (Nat.succ_pos _) ?_
  refine tr_U.bipush (v := (10 : Int32)) dX7_init_147 (by decide) ?_
  refine tr_U.newa (t := 0) (N := 10) (ty := .int) rfl w_ac_int (fun _ => rfl) rfl ra_int (by decide) (by decide) (by decide) ⟨Nat.le_of_ble_eq_true rfl, Nat.le_of_ble_eq_true rfl⟩ ⟨rfl, Nat.succ_pos _, rfl⟩ dX7_init_149 ?_
  refine tr_U.putF fl_X7_62 (Nat.succ_pos _) (Nat.le_of_ble_eq_true rfl) rfl (fun _ => ⟨rfl, rfl⟩) (Nat.le_of_ble_eq_true rfl) (fun _ _ _ h => by cases h; rfl) dX7_init_151 ?_
  refine tr_U.aload_n (i := 0) dX7_init_154 rfl rfl (Nat.succ_pos _) ?_
  refine tr_U.bipush (v := (10 : Int32)) dX7_init_155 (by decide) ?_
  refine tr_U.newa (t := 0) (N := 10) (ty := .int) rfl w_ac_int (fun _ => rfl) rfl ra_int (by decide) (by decide) (by decide) ⟨Nat.le_of_ble_eq_true rfl, Nat.le_of_ble_eq_true rfl⟩ ⟨rfl, Nat.succ_pos _, rfl⟩ dX7_init_157 ?_
  refine tr_U.putF fl_X7_65 (Nat.succ_pos _) (Nat.le_of_ble_eq_true rfl) rfl (fun _ => ⟨rfl, rfl⟩) (Nat.le_of_ble_eq_true rfl) (fun _ _ _ h => by cases h; rfl) dX7_init_159 ?_
  refine tr_U.aload_n (i := 0) dX7_init_162 rfl rfl (Nat.succ_pos _) ?_
  refine tr_U.bipush (v := (10 : Int32)) dX7_init_163 (by decide) ?_
  refine tr_U.newa (t := 0) (N := 10) (ty := .int) rfl w_ac_int (fun _ => rfl) rfl ra_int (by decide) (by decide) (by decide) ⟨Nat.le_of_ble_eq_true rfl, Nat.le_of_ble_eq_true rfl⟩ ⟨rfl, Nat.succ_pos _, rfl⟩ dX7_init_165 ?_
  refine tr_U.putF fl_X7_68 (Nat.succ_pos _) (Nat.le_of_ble_eq_true rfl) rfl (fun _ => ⟨rfl, rfl⟩) (Nat.le_of_ble_eq_true rfl) (fun _ _ _ h => by cases h; rfl) dX7_init_167 ?_
  refine tr_U.aload_n (i := 0) dX7_init_170 rfl rfl (Nat.succ_pos _) ?_
  refine tr_U.sipush (v := (10240 : Int32)) dX7_init_171 (by decide) ?_
  refine tr_U.newa (t := 0) (N := 10240) (ty := .int) rfl w_ac_int (fun _ => rfl) rfl ra_int (by decide) (by decide) (by decide) ⟨Nat.le_of_ble_eq_true rfl, Nat.le_of_ble_eq_true rfl⟩ ⟨rfl, Nat.succ_pos _, rfl⟩ dX7_init_174 ?_
  refine tr_U.putF fl_X7_71 (Nat.succ_pos _) (Nat.le_of_ble_eq_true rfl) rfl (fun _ => ⟨rfl, rfl⟩) (Nat.le_of_ble_eq_true rfl) (fun _ _ _ h => by cases h; rfl) dX7_init_176 ?_
  refine tr_U.aload_n (i := 0) dX7_init_179 rfl rfl (Nat.succ_pos _) ?_
  refine tr_U.sipush (v := (10240 : Int32)) dX7_init_180 (by decide) ?_
  refine tr_U.newa (t := 0) (N := 10240) (ty := .int) rfl w_ac_int (fun _ => rfl) rfl ra_int (by decide) (by decide) (by decide) ⟨Nat.le_of_ble_eq_true rfl, Nat.le_of_ble_eq_true rfl⟩ ⟨rfl, Nat.succ_pos _, rfl⟩ dX7_init_183 ?_
  refine tr_U.putF fl_X7_74 (Nat.succ_pos _) (Nat.le_of_ble_eq_true rfl) rfl (fun _ => ⟨rfl, rfl⟩) (Nat.le_of_ble_eq_true rfl) (fun _ _ _ h => by cases h; rfl) dX7_init_185 ?_
  refine tr_U.aload_n (i := 0) dX7_init_188 rfl rfl (Nat.succ_pos _) ?_
  refine tr_U.sipush (v := (10240 : Int32)) dX7_init_189 (by decide) ?_
  refine tr_U.newa (t := 2) (N := 10240) (ty := .boolean) rfl w_ac_boolean (fun _ => rfl) rfl ra_boolean (by decide) (by decide) (by decide) ⟨Nat.le_of_ble_eq_true rfl, Nat.le_of_ble_eq_true rfl⟩ ⟨rfl, Nat.succ_pos _, rfl⟩ dX7_init_192 ?_
  refine tr_U.putF fl_X7_77 (Nat.succ_pos _) (Nat.le_of_ble_eq_true rfl) rfl (fun _ => ⟨rfl, rfl⟩) (Nat.le_of_ble_eq_true rfl) (fun _ _ _ h => by cases h; rfl) dX7_init_194 ?_
  refine tr_U.aload_n (i := 0) dX7_init_197 rfl rfl (Nat.succ_pos _) ?_
  refine tr_U.lconst (v := (1 : Int64)) dX7_init_198 (by decide) ?_
  refine tr_U.put fl_X7_81 (Nat.succ_pos _) (Nat.le_of_ble_eq_true rfl) rfl (fun _ => ⟨rfl, rfl⟩) (Nat.le_of_ble_eq_true rfl) dX7_init_199 ?_
  refine tr_U.aload_n (i := 0) dX7_init_202 rfl rfl (Nat.succ_pos _) ?_
  refine tr_U.bipush (v := (-9 : Int32)) dX7_init_203 (by decide) ?_
  refine tr_U.put fl_X7_85 (Nat.succ_pos _) (Nat.le_of_ble_eq_true rfl) rfl (fun _ => ⟨rfl, rfl⟩) (Nat.le_of_ble_eq_true rfl) dX7_init_205 ?_
  refine tr_U.iconst (v := (0 : Int32)) dX7_init_208 (by decide) ?_
  refine tr_U.istore_n (i := 1) dX7_init_209 rfl (Nat.le_of_ble_eq_true rfl) rfl ?_
  refine tr_U.iload_n (i := 1) dX7_init_210 rfl rfl ?_
  refine tr_U.bipush (v := (6 : Int32)) dX7_init_211 (by decide) ?_
  refine tr_U.icmp_ge_n (tgt := 229) dX7_init_213 (by decide) (by decide) ?_
  refine tr_U.aload_n (i := 0) dX7_init_216 rfl rfl (Nat.succ_pos _) ?_
  refine tr_U.get fl_X7_13 (Nat.succ_pos _) (Nat.le_of_ble_eq_true rfl) rfl rfl dX7_init_217 ?_
  refine tr_U.iload_n (i := 1) dX7_init_220 rfl rfl ?_
  refine tr_U.iconst (v := (-1 : Int32)) dX7_init_221 (by decide) ?_
  refine tr_U.iast ⟨Nat.succ_pos _, Nat.le_of_ble_eq_true rfl⟩ rfl (by decide) dX7_init_222 ?_
  refine tr_U.iinc (v := (1 : Int32)) dX7_init_223 rfl (by decide) rfl ?_
  refine tr_U.goto (tgt := 210) dX7_init_226 (by decide) ?_
  refine tr_U.iload_n (i := 1) dX7_init_210 rfl rfl ?_
  refine tr_U.bipush (v := (6 : Int32)) dX7_init_211 (by decide) ?_
  refine tr_U.icmp_ge_n (tgt := 229) dX7_init_213 (by decide) (by decide) ?_
  refine tr_U.aload_n (i := 0) dX7_init_216 rfl rfl (Nat.succ_pos _) ?_
  refine tr_U.get fl_X7_13 (Nat.succ_pos _) (Nat.le_of_ble_eq_true rfl) rfl rfl dX7_init_217 ?_
  refine tr_U.iload_n (i := 1) dX7_init_220 rfl rfl ?_
  refine tr_U.iconst (v := (-1 : Int32)) dX7_init_221 (by decide) ?_
  refine tr_U.iast ⟨Nat.succ_pos _, Nat.le_of_ble_eq_true rfl⟩ rfl (by decide) dX7_init_222 ?_
  refine tr_U.iinc (v := (2 : Int32)) dX7_init_223 rfl (by decide) rfl ?_
  refine tr_U.goto (tgt := 210) dX7_init_226 (by decide) ?_
  refine tr_U.iload_n (i := 1) dX7_init_210 rfl rfl ?_
  refine tr_U.bipush (v := (6 : Int32)) dX7_init_211 (by decide) ?_
  refine tr_U.icmp_ge_n (tgt := 229) dX7_init_213 (by decide) (by decide) ?_
  refine tr_U.aload_n (i := 0) dX7_init_216 rfl rfl (Nat.succ_pos _) ?_
  refine tr_U.get fl_X7_13 (Nat.succ_pos _) (Nat.le_of_ble_eq_true rfl) rfl rfl dX7_init_217 ?_
  refine tr_U.iload_n (i := 1) dX7_init_220 rfl rfl ?_
  refine tr_U.iconst (v := (-1 : Int32)) dX7_init_221 (by decide) ?_
  refine tr_U.iast ⟨Nat.succ_pos _, Nat.le_of_ble_eq_true rfl⟩ rfl (by decide) dX7_init_222 ?_
  refine tr_U.iinc (v := (3 : Int32)) dX7_init_223 rfl (by decide) rfl ?_
  refine tr_U.goto (tgt := 210) dX7_init_226 (by decide) ?_
  refine tr_U.iload_n (i := 1) dX7_init_210 rfl rfl ?_
  refine tr_U.bipush (v := (6 : Int32)) dX7_init_211 (by decide) ?_
  refine tr_U.icmp_ge_n (tgt := 229) dX7_init_213 (by decide) (by decide) ?_
  refine tr_U.aload_n (i := 0) dX7_init_216 rfl rfl (Nat.succ_pos _) ?_
  refine tr_U.get fl_X7_13 (Nat.succ_pos _) (Nat.le_of_ble_eq_true rfl) rfl rfl dX7_init_217 ?_
  refine tr_U.iload_n (i := 1) dX7_init_220 rfl rfl ?_
  refine tr_U.iconst (v := (-1 : Int32)) dX7_init_221 (by decide) ?_
  refine tr_U.iast ⟨Nat.succ_pos _, Nat.le_of_ble_eq_true rfl⟩ rfl (by decide) dX7_init_222 ?_
  refine tr_U.iinc (v := (4 : Int32)) dX7_init_223 rfl (by decide) rfl ?_
  refine tr_U.goto (tgt := 210) dX7_init_226 (by decide) ?_
  refine tr_U.iload_n (i := 1) dX7_init_210 rfl rfl ?_
  refine tr_U.bipush (v := (6 : Int32)) dX7_init_211 (by decide) ?_
  refine tr_U.icmp_ge_n (tgt := 229) dX7_init_213 (by decide) (by decide) ?_
  refine tr_U.aload_n (i := 0) dX7_init_216 rfl rfl (Nat.succ_pos _) ?_
  refine tr_U.get fl_X7_13 (Nat.succ_pos _) (Nat.le_of_ble_eq_true rfl) rfl rfl dX7_init_217 ?_
  refine tr_U.iload_n (i := 1) dX7_init_220 rfl rfl ?_
  refine tr_U.iconst (v := (-1 : Int32)) dX7_init_221 (by decide) ?_
  refine tr_U.iast ⟨Nat.succ_pos _, Nat.le_of_ble_eq_true rfl⟩ rfl (by decide) dX7_init_222 ?_
  refine tr_U.iinc (v := (5 : Int32)) dX7_init_223 rfl (by decide) rfl ?_
  refine tr_U.goto (tgt := 210) dX7_init_226 (by decide) ?_
  refine tr_U.iload_n (i := 1) dX7_init_210 rfl rfl ?_
  refine tr_U.bipush (v := (6 : Int32)) dX7_init_211 (by decide) ?_
  refine tr_U.icmp_ge_n (tgt := 229) dX7_init_213 (by decide) (by decide) ?_
  refine tr_U.aload_n (i := 0) dX7_init_216 rfl rfl (Nat.succ_pos _) ?_
  refine tr_U.get fl_X7_13 (Nat.succ_pos _) (Nat.le_of_ble_eq_true rfl) rfl rfl dX7_init_217 ?_
  refine tr_U.iload_n (i := 1) dX7_init_220 rfl rfl ?_
  refine tr_U.iconst (v := (-1 : Int32)) dX7_init_221 (by decide) ?_
  refine tr_U.iast ⟨Nat.succ_pos _, Nat.le_of_ble_eq_true rfl⟩ rfl (by decide) dX7_init_222 ?_
  refine tr_U.iinc (v := (6 : Int32)) dX7_init_223 rfl (by decide) rfl ?_
  refine tr_U.goto (tgt := 210) dX7_init_226 (by decide) ?_
  refine tr_U.iload_n (i := 1) dX7_init_210 rfl rfl ?_
  refine tr_U.bipush (v := (6 : Int32)) dX7_init_211 (by decide) ?_
  refine tr_U.icmp_ge_y (tgt := 229) dX7_init_213 (by decide) (by decide) ?_
  refine tr_U.iconst (v := (0 : Int32)) dX7_init_229 (by decide) ?_
  refine tr_U.istore_n (i := 1) dX7_init_230 rfl (Nat.le_of_ble_eq_true rfl) rfl ?_
  refine tr_U.iload_n (i := 1) dX7_init_231 rfl rfl ?_
  refine tr_U.iconst (v := (4 : Int32)) dX7_init_232 (by decide) ?_
  refine tr_U.icmp_ge_n (tgt := 249) dX7_init_233 (by decide) (by decide) ?_
  refine tr_U.aload_n (i := 0) dX7_init_236 rfl rfl (Nat.succ_pos _) ?_
  refine tr_U.get fl_X7_22 (Nat.succ_pos _) (Nat.le_of_ble_eq_true rfl) rfl rfl dX7_init_237 ?_
  refine tr_U.iload_n (i := 1) dX7_init_240 rfl rfl ?_
  refine tr_U.iconst (v := (-1 : Int32)) dX7_init_241 (by decide) ?_
  refine tr_U.iast ⟨Nat.succ_pos _, Nat.le_of_ble_eq_true rfl⟩ rfl (by decide) dX7_init_242 ?_
  refine tr_U.iinc (v := (1 : Int32)) dX7_init_243 rfl (by decide) rfl ?_
  refine tr_U.goto (tgt := 231) dX7_init_246 (by decide) ?_
  refine tr_U.iload_n (i := 1) dX7_init_231 rfl rfl ?_
  refine tr_U.iconst (v := (4 : Int32)) dX7_init_232 (by decide) ?_
  refine tr_U.icmp_ge_n (tgt := 249) dX7_init_233 (by decide) (by decide) ?_
  refine tr_U.aload_n (i := 0) dX7_init_236 rfl rfl (Nat.succ_pos _) ?_
  refine tr_U.get fl_X7_22 (Nat.succ_pos _) (Nat.le_of_ble_eq_true rfl) rfl rfl dX7_init_237 ?_
  refine tr_U.iload_n (i := 1) dX7_init_240 rfl rfl ?_
  refine tr_U.iconst (v := (-1 : Int32)) dX7_init_241 (by decide) ?_
  refine tr_U.iast ⟨Nat.succ_pos _, Nat.le_of_ble_eq_true rfl⟩ rfl (by decide) dX7_init_242 ?_
  refine tr_U.iinc (v := (2 : Int32)) dX7_init_243 rfl (by decide) rfl ?_
  refine tr_U.goto (tgt := 231) dX7_init_246 (by decide) ?_
  refine tr_U.iload_n (i := 1) dX7_init_231 rfl rfl ?_
  refine tr_U.iconst (v := (4 : Int32)) dX7_init_232 (by decide) ?_
  refine tr_U.icmp_ge_n (tgt := 249) dX7_init_233 (by decide) (by decide) ?_
  refine tr_U.aload_n (i := 0) dX7_init_236 rfl rfl (Nat.succ_pos _) ?_
  refine tr_U.get fl_X7_22 (Nat.succ_pos _) (Nat.le_of_ble_eq_true rfl) rfl rfl dX7_init_237 ?_
  refine tr_U.iload_n (i := 1) dX7_init_240 rfl rfl ?_
  refine tr_U.iconst (v := (-1 : Int32)) dX7_init_241 (by decide) ?_
  refine tr_U.iast ⟨Nat.succ_pos _, Nat.le_of_ble_eq_true rfl⟩ rfl (by decide) dX7_init_242 ?_
  refine tr_U.iinc (v := (3 : Int32)) dX7_init_243 rfl (by decide) rfl ?_
  refine tr_U.goto (tgt := 231) dX7_init_246 (by decide) ?_
  refine tr_U.iload_n (i := 1) dX7_init_231 rfl rfl ?_
  refine tr_U.iconst (v := (4 : Int32)) dX7_init_232 (by decide) ?_
  refine tr_U.icmp_ge_n (tgt := 249) dX7_init_233 (by decide) (by decide) ?_
  refine tr_U.aload_n (i := 0) dX7_init_236 rfl rfl (Nat.succ_pos _) ?_
  refine tr_U.get fl_X7_22 (Nat.succ_pos _) (Nat.le_of_ble_eq_true rfl) rfl rfl dX7_init_237 ?_
  refine tr_U.iload_n (i := 1) dX7_init_240 rfl rfl ?_
  refine tr_U.iconst (v := (-1 : Int32)) dX7_init_241 (by decide) ?_
  refine tr_U.iast ⟨Nat.succ_pos _, Nat.le_of_ble_eq_true rfl⟩ rfl (by decide) dX7_init_242 ?_
  refine tr_U.iinc (v := (4 : Int32)) dX7_init_243 rfl (by decide) rfl ?_
  refine tr_U.goto (tgt := 231) dX7_init_246 (by decide) ?_
  refine tr_U.iload_n (i := 1) dX7_init_231 rfl rfl ?_
  refine tr_U.iconst (v := (4 : Int32)) dX7_init_232 (by decide) ?_
  refine tr_U.icmp_ge_y (tgt := 249) dX7_init_233 (by decide) (by decide) ?_
  exact tr_U.ret dX7_init_249 ⟨rfl, rfl⟩ ⟨rfl, Nat.succ_pos _⟩ rfl rfl
