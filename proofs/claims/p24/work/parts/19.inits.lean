theorem lo_X0 : Cond.methodLink RX0 3 Lib.objectInit ∈ gtb := gtb_in (tb1 (List.mem_of_getElem? (i := 66) rfl)) rfl
theorem lo_X1 : Cond.methodLink RX1 3 Lib.objectInit ∈ gtb := gtb_in (tb1 (List.mem_of_getElem? (i := 123) rfl)) rfl
theorem lo_X2 : Cond.methodLink RX2 3 Lib.objectInit ∈ gtb := gtb_in (tb1 (List.mem_of_getElem? (i := 24) rfl)) rfl
theorem lo_X3 : Cond.methodLink RX3 3 Lib.objectInit ∈ gtb := gtb_in (tb1 (List.mem_of_getElem? (i := 145) rfl)) rfl
theorem lo_X4 : Cond.methodLink RX4 3 Lib.objectInit ∈ gtb := gtb_in (tb1 (List.mem_of_getElem? (i := 179) rfl)) rfl
theorem lo_X5 : Cond.methodLink RX5 3 Lib.objectInit ∈ gtb := gtb_in (tb1 (List.mem_of_getElem? (i := 16) rfl)) rfl
theorem lo_X6 : Cond.methodLink RX6 1 Lib.objectInit ∈ gtb := gtb_in (tb3 (List.mem_of_getElem? (i := 181) rfl)) rfl
theorem lo_i : Cond.instanceMethod Lib.objectInit ∈ gtb := gtb_in (tb1 (List.mem_of_getElem? (i := 17) rfl)) rfl
theorem lo_c : Cond.code Lib.objectInit ⟨#[0xb1]⟩ 1 none ∈ gtb := gtb_in (tb1 (List.mem_of_getElem? (i := 18) rfl)) rfl
theorem ar_I : Cond.arrayClass .int ∈ gtb := gtb_in (tb1 (List.mem_of_getElem? (i := 59) rfl)) rfl
theorem ar_Z : Cond.arrayClass .boolean ∈ gtb := gtb_in (tb1 (List.mem_of_getElem? (i := 60) rfl)) rfl
theorem nw_X0 : Cond.instantiable RX0 5 ∈ gtb := gtb_in (tb1 (List.mem_of_getElem? (i := 62) rfl)) rfl
theorem ni_X0 : Cond.initialized RX0 ∈ gtb := gtb_in (tb1 (List.mem_of_getElem? (i := 3) rfl)) rfl
theorem nw_X1 : Cond.instantiable RX1 5 ∈ gtb := gtb_in (tb1 (List.mem_of_getElem? (i := 119) rfl)) rfl
theorem ni_X1 : Cond.initialized RX1 ∈ gtb := gtb_in (tb1 (List.mem_of_getElem? (i := 5) rfl)) rfl
theorem nw_X2 : Cond.instantiable RX2 11 ∈ gtb := gtb_in (tb1 (List.mem_of_getElem? (i := 20) rfl)) rfl
theorem ni_X2 : Cond.initialized RX2 ∈ gtb := gtb_in (tb1 (List.mem_of_getElem? (i := 2) rfl)) rfl
theorem nw_X3 : Cond.instantiable RX3 9 ∈ gtb := gtb_in (tb1 (List.mem_of_getElem? (i := 141) rfl)) rfl
theorem ni_X3 : Cond.initialized RX3 ∈ gtb := gtb_in (tb1 (List.mem_of_getElem? (i := 6) rfl)) rfl
theorem nw_X4 : Cond.instantiable RX4 2 ∈ gtb := gtb_in (tb1 (List.mem_of_getElem? (i := 175) rfl)) rfl
theorem ni_X4 : Cond.initialized RX4 ∈ gtb := gtb_in (tb1 (List.mem_of_getElem? (i := 7) rfl)) rfl
theorem nw_X5 : Cond.instantiable RX5 9 ∈ gtb := gtb_in (tb1 (List.mem_of_getElem? (i := 12) rfl)) rfl
theorem ni_X5 : Cond.initialized RX5 ∈ gtb := gtb_in (tb1 (List.mem_of_getElem? (i := 1) rfl)) rfl
theorem nw_X6 : Cond.instantiable RX6 24 ∈ gtb := gtb_in (tb3 (List.mem_of_getElem? (i := 177) rfl)) rfl
theorem ni_X6 : Cond.initialized RX6 ∈ gtb := gtb_in (tb1 (List.mem_of_getElem? (i := 8) rfl)) rfl
theorem cl_RL_7 : Cond.classLink RL 7 RX5 ∈ gtb := gtb_in (tb1 (List.mem_of_getElem? (i := 11) rfl)) rfl
theorem cl_RX5_9 : Cond.classLink RX5 9 RX2 ∈ gtb := gtb_in (tb1 (List.mem_of_getElem? (i := 19) rfl)) rfl
theorem cl_RX5_16 : Cond.classLink RX5 16 RX0 ∈ gtb := gtb_in (tb1 (List.mem_of_getElem? (i := 61) rfl)) rfl
theorem cl_RX5_23 : Cond.classLink RX5 23 RX1 ∈ gtb := gtb_in (tb1 (List.mem_of_getElem? (i := 118) rfl)) rfl
theorem cl_RX5_32 : Cond.classLink RX5 32 RX3 ∈ gtb := gtb_in (tb1 (List.mem_of_getElem? (i := 140) rfl)) rfl
theorem cl_RX5_39 : Cond.classLink RX5 39 RX4 ∈ gtb := gtb_in (tb1 (List.mem_of_getElem? (i := 174) rfl)) rfl
theorem cl_RL_10 : Cond.classLink RL 10 RX6 ∈ gtb := gtb_in (tb3 (List.mem_of_getElem? (i := 176) rfl)) rfl
def adG (h0 q1 q2 q3 : Nat) : Nat → Nat := fun i => match i with
  | 0 => h0
  | 1 => q1
  | 2 => q2
  | _ => q3
def FG (σ : MM) : Prop := σ 56 0 = 2 ∧ σ 57 0 = 2 ∧ (∀ b : Int, 0 ≤ b → b < 9 → σ 11 b = 0 ∧ σ 12 b = 1) ∧ WayOK (σ 11) (σ 56 0 * σ 57 0) (σ 57 0) (σ 13)
def FM (σ : MM) : Prop := ∀ b : Int, 0 ≤ b → b < 9 → σ 35 b = 0 ∧ σ 36 b = 1
def σM0 : MM := fun r _ => if r = 65 ∨ r = 66 then 2 else if r = 56 ∨ r = 57 then 2 else 0
theorem Bd.row {bd : List (Option (Int × Int))} (f : Nat → Int) (h : bd.zipIdx.all (fun q => match q.1 with
  | none => true
  | some b => decide (b.1 ≤ f q.2) && decide (f q.2 ≤ b.2)) = true) : Bd bd (fun r _ => f r) := by
  intro r lo hi hr k
  have h1 := List.all_eq_true.mp h (some (lo, hi), r) (by rw [List.mem_zipIdx_iff_getElem?]; exact hr)
  simpa using h1
def σG0 : MM := fun r _ => if r = 65 ∨ r = 66 then 2 else 0
theorem bd_G0 : Bd bdG σG0 := Bd.row (fun r => if r = 65 ∨ r = 66 then 2 else 0) (by decide +kernel)
theorem bd_M0 : Bd bdL σM0 := Bd.row (fun r => if r = 65 ∨ r = 66 then 2 else if r = 56 ∨ r = 57 then 2 else 0) (by decide +kernel)
def adM (h0 a1 a2 a3 a4 a5 a6 a7 a8 a9 a10 a11 a12 a13 a14 a15 a16 a17 : Nat) : Nat → Nat := fun i => match i with
  | 0 => h0
  | 1 => a1
  | 2 => a2
  | 3 => a3
  | 4 => a4
  | 5 => a5
  | 6 => a6
  | 7 => a7
  | 8 => a8
  | 9 => a9
  | 10 => a10
  | 11 => a11
  | 12 => a12
  | 13 => a13
  | 14 => a14
  | 15 => a15
  | 16 => a16
  | _ => a17
theorem dX2_init_0 : decode cX2_init 0 = .ok (.aload_n 0, 1) := by decide +kernel
theorem dX2_init_1 : decode cX2_init 1 = .ok (.invokespecial 3, 3) := by decide +kernel
theorem dX2_init_4 : decode cX2_init 4 = .ok (.aload_n 0, 1) := by decide +kernel
theorem dX2_init_5 : decode cX2_init 5 = .ok (.bipush 8, 2) := by decide +kernel
theorem dX2_init_7 : decode cX2_init 7 = .ok (.newarray .int, 2) := by decide +kernel
theorem dX2_init_9 : decode cX2_init 9 = .ok (.putfield 9, 3) := by decide +kernel
theorem dX2_init_12 : decode cX2_init 12 = .ok (.aload_n 0, 1) := by decide +kernel
theorem dX2_init_13 : decode cX2_init 13 = .ok (.bipush 8, 2) := by decide +kernel
theorem dX2_init_15 : decode cX2_init 15 = .ok (.newarray .int, 2) := by decide +kernel
theorem dX2_init_17 : decode cX2_init 17 = .ok (.putfield 15, 3) := by decide +kernel
theorem dX2_init_20 : decode cX2_init 20 = .ok (.aload_n 0, 1) := by decide +kernel
theorem dX2_init_21 : decode cX2_init 21 = .ok (.bipush 8, 2) := by decide +kernel
theorem dX2_init_23 : decode cX2_init 23 = .ok (.newarray .int, 2) := by decide +kernel
theorem dX2_init_25 : decode cX2_init 25 = .ok (.putfield 18, 3) := by decide +kernel
theorem dX2_init_28 : decode cX2_init 28 = .ok (.aload_n 0, 1) := by decide +kernel
theorem dX2_init_29 : decode cX2_init 29 = .ok (.bipush 16, 2) := by decide +kernel
theorem dX2_init_31 : decode cX2_init 31 = .ok (.newarray .int, 2) := by decide +kernel
theorem dX2_init_33 : decode cX2_init 33 = .ok (.putfield 21, 3) := by decide +kernel
theorem dX2_init_36 : decode cX2_init 36 = .ok (.aload_n 0, 1) := by decide +kernel
theorem dX2_init_37 : decode cX2_init 37 = .ok (.bipush 16, 2) := by decide +kernel
theorem dX2_init_39 : decode cX2_init 39 = .ok (.newarray .int, 2) := by decide +kernel
theorem dX2_init_41 : decode cX2_init 41 = .ok (.putfield 24, 3) := by decide +kernel
theorem dX2_init_44 : decode cX2_init 44 = .ok (.aload_n 0, 1) := by decide +kernel
theorem dX2_init_45 : decode cX2_init 45 = .ok (.bipush 8, 2) := by decide +kernel
theorem dX2_init_47 : decode cX2_init 47 = .ok (.newarray .int, 2) := by decide +kernel
theorem dX2_init_49 : decode cX2_init 49 = .ok (.putfield 27, 3) := by decide +kernel
theorem dX2_init_52 : decode cX2_init 52 = .ok (.aload_n 0, 1) := by decide +kernel
theorem dX2_init_53 : decode cX2_init 53 = .ok (.bipush 8, 2) := by decide +kernel
theorem dX2_init_55 : decode cX2_init 55 = .ok (.newarray .boolean, 2) := by decide +kernel
theorem dX2_init_57 : decode cX2_init 57 = .ok (.putfield 30, 3) := by decide +kernel
theorem dX2_init_60 : decode cX2_init 60 = .ok (.aload_n 0, 1) := by decide +kernel
theorem dX2_init_61 : decode cX2_init 61 = .ok (.bipush 8, 2) := by decide +kernel
theorem dX2_init_63 : decode cX2_init 63 = .ok (.newarray .int, 2) := by decide +kernel
theorem dX2_init_65 : decode cX2_init 65 = .ok (.putfield 34, 3) := by decide +kernel
theorem dX2_init_68 : decode cX2_init 68 = .ok (.return_, 1) := by decide +kernel
set_option maxRecDepth 20000 in
set_option maxHeartbeats 4000000 in
theorem c_X2_init (l : Launch) (w : WT) (h0 : Nat) : CI l w yX2_init cX2_init 1 1 12 8 80 [.ref h0] [(h0, .inr (2, [.null, .null, .null, .null, .null, .null, .null, .null, .int (iI 0), .int (iI 0), .int (iI 0)]))] (fun ws => ∃ (q7 q15 q23 q31 q39 q47 q55 q63 : Nat), ws = [(h0, .inr (2, [.ref q7, .ref q15, .ref q23, .ref q31, .ref q39, .ref q47, .ref q55, .ref q63, .int (iI 0), .int (iI 0), .int (iI 0)])), (q7, zA w false 8), (q15, zA w false 8), (q23, zA w false 8), (q31, zA w false 16), (q39, zA w false 16), (q47, zA w false 8), (q55, zA w true 8), (q63, zA w false 8)]) := by
  refine CI.of 0 [some (.ref h0)] (by decide +kernel) rfl (by simp [lg_sl, Value.category]) rfl (fun GI hX => ?_)
  refine i_aload_n hX dX2_init_0 rfl ?_
  refine i_obj hX dX2_init_1 lo_X2 lo_i lo_c (Nat.le_of_ble_eq_true rfl) (Nat.le_of_ble_eq_true rfl) ?_
  refine i_aload_n hX dX2_init_4 rfl ?_
  refine i_bipush hX dX2_init_5 (by decide) ?_
  refine i_newI hX (n := 8) rfl dX2_init_7 (Nat.le_of_ble_eq_true rfl) ar_I (Nat.le_of_ble_eq_true rfl) (Nat.le_of_ble_eq_true rfl) (fun q7 => ?_)
  refine i_putF hX dX2_init_9 (q0 := 0) (ci := 2) (k := 0) (ws1 := [(h0, .inr (2, [.ref q7, .null, .null, .null, .null, .null, .null, .null, .int (iI 0), .int (iI 0), .int (iI 0)])), (q7, zA w false 8)]) rfl rfl in_X2 tyX2 tyX2_ok nmX2 (by decide) lk_RX2_9 rfl rfl (tyX2_ok 0 (by decide)) rfl rfl (Nat.le_of_ble_eq_true rfl) rfl ?_
  refine i_aload_n hX dX2_init_12 rfl ?_
  refine i_bipush hX dX2_init_13 (by decide) ?_
  refine i_newI hX (n := 8) rfl dX2_init_15 (Nat.le_of_ble_eq_true rfl) ar_I (Nat.le_of_ble_eq_true rfl) (Nat.le_of_ble_eq_true rfl) (fun q15 => ?_)
  refine i_putF hX dX2_init_17 (q0 := 0) (ci := 2) (k := 1) (ws1 := [(h0, .inr (2, [.ref q7, .ref q15, .null, .null, .null, .null, .null, .null, .int (iI 0), .int (iI 0), .int (iI 0)])), (q7, zA w false 8), (q15, zA w false 8)]) rfl rfl in_X2 tyX2 tyX2_ok nmX2 (by decide) lk_RX2_15 rfl rfl (tyX2_ok 1 (by decide)) rfl rfl (Nat.le_of_ble_eq_true rfl) rfl ?_
  refine i_aload_n hX dX2_init_20 rfl ?_
  refine i_bipush hX dX2_init_21 (by decide) ?_
  refine i_newI hX (n := 8) rfl dX2_init_23 (Nat.le_of_ble_eq_true rfl) ar_I (Nat.le_of_ble_eq_true rfl) (Nat.le_of_ble_eq_true rfl) (fun q23 => ?_)
  refine i_putF hX dX2_init_25 (q0 := 0) (ci := 2) (k := 2) (ws1 := [(h0, .inr (2, [.ref q7, .ref q15, .ref q23, .null, .null, .null, .null, .null, .int (iI 0), .int (iI 0), .int (iI 0)])), (q7, zA w false 8), (q15, zA w false 8), (q23, zA w false 8)]) rfl rfl in_X2 tyX2 tyX2_ok nmX2 (by decide) lk_RX2_18 rfl rfl (tyX2_ok 2 (by decide)) rfl rfl (Nat.le_of_ble_eq_true rfl) rfl ?_
  refine i_aload_n hX dX2_init_28 rfl ?_
  refine i_bipush hX dX2_init_29 (by decide) ?_
  refine i_newI hX (n := 16) rfl dX2_init_31 (Nat.le_of_ble_eq_true rfl) ar_I (Nat.le_of_ble_eq_true rfl) (Nat.le_of_ble_eq_true rfl) (fun q31 => ?_)
  refine i_putF hX dX2_init_33 (q0 := 0) (ci := 2) (k := 3) (ws1 := [(h0, .inr (2, [.ref q7, .ref q15, .ref q23, .ref q31, .null, .null, .null, .null, .int (iI 0), .int (iI 0), .int (iI 0)])), (q7, zA w false 8), (q15, zA w false 8), (q23, zA w false 8), (q31, zA w false 16)]) rfl rfl in_X2 tyX2 tyX2_ok nmX2 (by decide) lk_RX2_21 rfl rfl (tyX2_ok 3 (by decide)) rfl rfl (Nat.le_of_ble_eq_true rfl) rfl ?_
  refine i_aload_n hX dX2_init_36 rfl ?_
  refine i_bipush hX dX2_init_37 (by decide) ?_
  refine i_newI hX (n := 16) rfl dX2_init_39 (Nat.le_of_ble_eq_true rfl) ar_I (Nat.le_of_ble_eq_true rfl) (Nat.le_of_ble_eq_true rfl) (fun q39 => ?_)
  refine i_putF hX dX2_init_41 (q0 := 0) (ci := 2) (k := 4) (ws1 := [(h0, .inr (2, [.ref q7, .ref q15, .ref q23, .ref q31, .ref q39, .null, .null, .null, .int (iI 0), .int (iI 0), .int (iI 0)])), (q7, zA w false 8), (q15, zA w false 8), (q23, zA w false 8), (q31, zA w false 16), (q39, zA w false 16)]) rfl rfl in_X2 tyX2 tyX2_ok nmX2 (by decide) lk_RX2_24 rfl rfl (tyX2_ok 4 (by decide)) rfl rfl (Nat.le_of_ble_eq_true rfl) rfl ?_
  refine i_aload_n hX dX2_init_44 rfl ?_
  refine i_bipush hX dX2_init_45 (by decide) ?_
  refine i_newI hX (n := 8) rfl dX2_init_47 (Nat.le_of_ble_eq_true rfl) ar_I (Nat.le_of_ble_eq_true rfl) (Nat.le_of_ble_eq_true rfl) (fun q47 => ?_)
  refine i_putF hX dX2_init_49 (q0 := 0) (ci := 2) (k := 5) (ws1 := [(h0, .inr (2, [.ref q7, .ref q15, .ref q23, .ref q31, .ref q39, .ref q47, .null, .null, .int (iI 0), .int (iI 0), .int (iI 0)])), (q7, zA w false 8), (q15, zA w false 8), (q23, zA w false 8), (q31, zA w false 16), (q39, zA w false 16), (q47, zA w false 8)]) rfl rfl in_X2 tyX2 tyX2_ok nmX2 (by decide) lk_RX2_27 rfl rfl (tyX2_ok 5 (by decide)) rfl rfl (Nat.le_of_ble_eq_true rfl) rfl ?_
  refine i_aload_n hX dX2_init_52 rfl ?_
  refine i_bipush hX dX2_init_53 (by decide) ?_
  refine i_newZ hX (n := 8) rfl dX2_init_55 (Nat.le_of_ble_eq_true rfl) ar_Z (Nat.le_of_ble_eq_true rfl) (Nat.le_of_ble_eq_true rfl) (fun q55 => ?_)
  refine i_putF hX dX2_init_57 (q0 := 0) (ci := 2) (k := 6) (ws1 := [(h0, .inr (2, [.ref q7, .ref q15, .ref q23, .ref q31, .ref q39, .ref q47, .ref q55, .null, .int (iI 0), .int (iI 0), .int (iI 0)])), (q7, zA w false 8), (q15, zA w false 8), (q23, zA w false 8), (q31, zA w false 16), (q39, zA w false 16), (q47, zA w false 8), (q55, zA w true 8)]) rfl rfl in_X2 tyX2 tyX2_ok nmX2 (by decide) lk_RX2_30 rfl rfl (tyX2_ok 6 (by decide)) rfl rfl (Nat.le_of_ble_eq_true rfl) rfl ?_
  refine i_aload_n hX dX2_init_60 rfl ?_
  refine i_bipush hX dX2_init_61 (by decide) ?_
  refine i_newI hX (n := 8) rfl dX2_init_63 (Nat.le_of_ble_eq_true rfl) ar_I (Nat.le_of_ble_eq_true rfl) (Nat.le_of_ble_eq_true rfl) (fun q63 => ?_)
  refine i_putF hX dX2_init_65 (q0 := 0) (ci := 2) (k := 7) (ws1 := [(h0, .inr (2, [.ref q7, .ref q15, .ref q23, .ref q31, .ref q39, .ref q47, .ref q55, .ref q63, .int (iI 0), .int (iI 0), .int (iI 0)])), (q7, zA w false 8), (q15, zA w false 8), (q23, zA w false 8), (q31, zA w false 16), (q39, zA w false 16), (q47, zA w false 8), (q55, zA w true 8), (q63, zA w false 8)]) rfl rfl in_X2 tyX2 tyX2_ok nmX2 (by decide) lk_RX2_34 rfl rfl (tyX2_ok 7 (by decide)) rfl rfl (Nat.le_of_ble_eq_true rfl) rfl ?_
  exact i_ret hX dX2_init_68 ⟨q7, q15, q23, q31, q39, q47, q55, q63, rfl⟩ rfl rfl
theorem dX0_init_0 : decode cX0_init 0 = .ok (.aload_n 0, 1) := by decide +kernel
theorem dX0_init_1 : decode cX0_init 1 = .ok (.invokespecial 3, 3) := by decide +kernel
theorem dX0_init_4 : decode cX0_init 4 = .ok (.aload_n 0, 1) := by decide +kernel
theorem dX0_init_5 : decode cX0_init 5 = .ok (.bipush 9, 2) := by decide +kernel
theorem dX0_init_7 : decode cX0_init 7 = .ok (.newarray .boolean, 2) := by decide +kernel
theorem dX0_init_9 : decode cX0_init 9 = .ok (.putfield 9, 3) := by decide +kernel
theorem dX0_init_12 : decode cX0_init 12 = .ok (.aload_n 0, 1) := by decide +kernel
theorem dX0_init_13 : decode cX0_init 13 = .ok (.bipush 9, 2) := by decide +kernel
theorem dX0_init_15 : decode cX0_init 15 = .ok (.newarray .boolean, 2) := by decide +kernel
theorem dX0_init_17 : decode cX0_init 17 = .ok (.putfield 15, 3) := by decide +kernel
theorem dX0_init_20 : decode cX0_init 20 = .ok (.aload_n 0, 1) := by decide +kernel
theorem dX0_init_21 : decode cX0_init 21 = .ok (.bipush 81, 2) := by decide +kernel
theorem dX0_init_23 : decode cX0_init 23 = .ok (.newarray .int, 2) := by decide +kernel
theorem dX0_init_25 : decode cX0_init 25 = .ok (.putfield 18, 3) := by decide +kernel
theorem dX0_init_28 : decode cX0_init 28 = .ok (.aload_n 0, 1) := by decide +kernel
theorem dX0_init_29 : decode cX0_init 29 = .ok (.iconst 2, 1) := by decide +kernel
theorem dX0_init_30 : decode cX0_init 30 = .ok (.iconst 2, 1) := by decide +kernel
theorem dX0_init_31 : decode cX0_init 31 = .ok (.invokevirtual 22, 3) := by decide +kernel
theorem dX0_init_34 : decode cX0_init 34 = .ok (.return_, 1) := by decide +kernel
set_option maxRecDepth 20000 in
set_option maxHeartbeats 4000000 in
theorem c_X0_init (l : Launch) (w : WT) (h0 : Nat) : CI l w yX0_init cX0_init 1 5 112 3 99 [.ref h0] [(h0, .inr (0, [.null, .null, .null, .int (iI 0), .int (iI 0)]))] (fun ws => ∃ (q7 q15 q23 : Nat) (σ1 : MM), ws = [(h0, .inr (0, [.ref q7, .ref q15, .ref q23, .int (iI (σ1 56 0)), .int (iI (σ1 57 0))])), (q7, .inl (w.2.1 true, 9, .inl (fun k => iI (σ1 11 (k : Int))))), (q15, .inl (w.2.1 true, 9, .inl (fun k => iI (σ1 12 (k : Int))))), (q23, .inl (w.2.1 false, 81, .inl (fun k => iI (σ1 13 (k : Int)))))] ∧ FG σ1 ∧ Bd bdG σ1) := by
  refine CI.of 0 [some (.ref h0)] (by decide +kernel) rfl (by simp [lg_sl, Value.category]) rfl (fun GI hX => ?_)
  refine i_aload_n hX dX0_init_0 rfl ?_
  refine i_obj hX dX0_init_1 lo_X0 lo_i lo_c (Nat.le_of_ble_eq_true rfl) (Nat.le_of_ble_eq_true rfl) ?_
  refine i_aload_n hX dX0_init_4 rfl ?_
  refine i_bipush hX dX0_init_5 (by decide) ?_
  refine i_newZ hX (n := 9) rfl dX0_init_7 (Nat.le_of_ble_eq_true rfl) ar_Z (Nat.le_of_ble_eq_true rfl) (Nat.le_of_ble_eq_true rfl) (fun q7 => ?_)
  refine i_putF hX dX0_init_9 (q0 := 0) (ci := 0) (k := 0) (ws1 := [(h0, .inr (0, [.ref q7, .null, .null, .int (iI 0), .int (iI 0)])), (q7, zA w true 9)]) rfl rfl in_X0 tyX0 tyX0_ok nmX0 (by decide) lk_RX0_9 rfl rfl (tyX0_ok 0 (by decide)) rfl rfl (Nat.le_of_ble_eq_true rfl) rfl ?_
  refine i_aload_n hX dX0_init_12 rfl ?_
  refine i_bipush hX dX0_init_13 (by decide) ?_
  refine i_newZ hX (n := 9) rfl dX0_init_15 (Nat.le_of_ble_eq_true rfl) ar_Z (Nat.le_of_ble_eq_true rfl) (Nat.le_of_ble_eq_true rfl) (fun q15 => ?_)
  refine i_putF hX dX0_init_17 (q0 := 0) (ci := 0) (k := 1) (ws1 := [(h0, .inr (0, [.ref q7, .ref q15, .null, .int (iI 0), .int (iI 0)])), (q7, zA w true 9), (q15, zA w true 9)]) rfl rfl in_X0 tyX0 tyX0_ok nmX0 (by decide) lk_RX0_15 rfl rfl (tyX0_ok 1 (by decide)) rfl rfl (Nat.le_of_ble_eq_true rfl) rfl ?_
  refine i_aload_n hX dX0_init_20 rfl ?_
  refine i_bipush hX dX0_init_21 (by decide) ?_
  refine i_newI hX (n := 81) rfl dX0_init_23 (Nat.le_of_ble_eq_true rfl) ar_I (Nat.le_of_ble_eq_true rfl) (Nat.le_of_ble_eq_true rfl) (fun q23 => ?_)
  refine i_putF hX dX0_init_25 (q0 := 0) (ci := 0) (k := 2) (ws1 := [(h0, .inr (0, [.ref q7, .ref q15, .ref q23, .int (iI 0), .int (iI 0)])), (q7, zA w true 9), (q15, zA w true 9), (q23, zA w false 81)]) rfl rfl in_X0 tyX0 tyX0_ok nmX0 (by decide) lk_RX0_18 rfl rfl (tyX0_ok 2 (by decide)) rfl rfl (Nat.le_of_ble_eq_true rfl) rfl ?_
  refine i_aload_n hX dX0_init_28 rfl ?_
  refine i_iconst hX dX0_init_29 ?_
  refine i_iconst hX dX0_init_30 ?_
  have hw : [(h0, .inr (0, [.ref q7, .ref q15, .ref q23, .int (iI 0), .int (iI 0)])), (q7, zA w true 9), (q15, zA w true 9), (q23, zA w false 81)] = wd (w.1, w.2.1, adG h0 q7 q15 q23) SG.2.1 σG0 := rfl
  refine i_callV hX (S := SG) (w1 := (w.1, w.2.1, adG h0 q7 q15 q23)) (σ := σG0) (i := 0) dX0_init_31 (k_GG_renew l (w.1, w.2.1, adG h0 q7 q15 q23) σG0 2 2 (by omega) (by omega) (by omega) (by omega)) ⟨rfl, rfl⟩ rfl hw bd_G0 mf_X0_renew mv_X0_renew lk_RX0_22 rfl rfl rfl rfl rfl ⟨Nat.le_of_ble_eq_true rfl, Nat.le_of_ble_eq_true rfl⟩ (Nat.le_of_ble_eq_true rfl) ⟨Nat.le_of_ble_eq_true rfl, Nat.le_of_ble_eq_true rfl⟩ (fun σ1 hp hb1 => ?_)
  obtain ⟨-, hp1, hp2, hp3, hp4⟩ := hp
  exact i_ret hX dX0_init_34 ⟨q7, q15, q23, σ1, rfl, ⟨⟨hp1, hp2, hp3, hp4⟩, hb1⟩⟩ rfl rfl
theorem dX1_init_0 : decode cX1_init 0 = .ok (.aload_n 0, 1) := by decide +kernel
theorem dX1_init_1 : decode cX1_init 1 = .ok (.invokespecial 3, 3) := by decide +kernel
theorem dX1_init_4 : decode cX1_init 4 = .ok (.aload_n 0, 1) := by decide +kernel
theorem dX1_init_5 : decode cX1_init 5 = .ok (.bipush 8, 2) := by decide +kernel
theorem dX1_init_7 : decode cX1_init 7 = .ok (.newarray .int, 2) := by decide +kernel
theorem dX1_init_9 : decode cX1_init 9 = .ok (.putfield 9, 3) := by decide +kernel
theorem dX1_init_12 : decode cX1_init 12 = .ok (.aload_n 0, 1) := by decide +kernel
theorem dX1_init_13 : decode cX1_init 13 = .ok (.bipush 8, 2) := by decide +kernel
theorem dX1_init_15 : decode cX1_init 15 = .ok (.newarray .int, 2) := by decide +kernel
theorem dX1_init_17 : decode cX1_init 17 = .ok (.putfield 15, 3) := by decide +kernel
theorem dX1_init_20 : decode cX1_init 20 = .ok (.aload_n 0, 1) := by decide +kernel
theorem dX1_init_21 : decode cX1_init 21 = .ok (.aload_n 1, 1) := by decide +kernel
theorem dX1_init_22 : decode cX1_init 22 = .ok (.putfield 18, 3) := by decide +kernel
theorem dX1_init_25 : decode cX1_init 25 = .ok (.aload_n 0, 1) := by decide +kernel
theorem dX1_init_26 : decode cX1_init 26 = .ok (.aload_n 2, 1) := by decide +kernel
theorem dX1_init_27 : decode cX1_init 27 = .ok (.putfield 22, 3) := by decide +kernel
theorem dX1_init_30 : decode cX1_init 30 = .ok (.return_, 1) := by decide +kernel
set_option maxRecDepth 20000 in
set_option maxHeartbeats 4000000 in
theorem c_X1_init (l : Launch) (w : WT) (h0 p1 p2 : Nat) : CI l w yX1_init cX1_init 3 1 12 2 16 [.ref h0, .ref p1, .ref p2] [(h0, .inr (1, [.null, .null, .null, .null, .int (iI 0)]))] (fun ws => ∃ (q7 q15 : Nat), ws = [(h0, .inr (1, [.ref p1, .ref p2, .ref q7, .ref q15, .int (iI 0)])), (q7, zA w false 8), (q15, zA w false 8)]) := by
  refine CI.of 0 [some (.ref h0), some (.ref p1), some (.ref p2)] (by decide +kernel) rfl (by simp [lg_sl, Value.category]) rfl (fun GI hX => ?_)
  refine i_aload_n hX dX1_init_0 rfl ?_
  refine i_obj hX dX1_init_1 lo_X1 lo_i lo_c (Nat.le_of_ble_eq_true rfl) (Nat.le_of_ble_eq_true rfl) ?_
  refine i_aload_n hX dX1_init_4 rfl ?_
  refine i_bipush hX dX1_init_5 (by decide) ?_
  refine i_newI hX (n := 8) rfl dX1_init_7 (Nat.le_of_ble_eq_true rfl) ar_I (Nat.le_of_ble_eq_true rfl) (Nat.le_of_ble_eq_true rfl) (fun q7 => ?_)
  refine i_putF hX dX1_init_9 (q0 := 0) (ci := 1) (k := 2) (ws1 := [(h0, .inr (1, [.null, .null, .ref q7, .null, .int (iI 0)])), (q7, zA w false 8)]) rfl rfl in_X1 tyX1 tyX1_ok nmX1 (by decide) lk_RX1_9 rfl rfl (tyX1_ok 2 (by decide)) rfl rfl (Nat.le_of_ble_eq_true rfl) rfl ?_
  refine i_aload_n hX dX1_init_12 rfl ?_
  refine i_bipush hX dX1_init_13 (by decide) ?_
  refine i_newI hX (n := 8) rfl dX1_init_15 (Nat.le_of_ble_eq_true rfl) ar_I (Nat.le_of_ble_eq_true rfl) (Nat.le_of_ble_eq_true rfl) (fun q15 => ?_)
  refine i_putF hX dX1_init_17 (q0 := 0) (ci := 1) (k := 3) (ws1 := [(h0, .inr (1, [.null, .null, .ref q7, .ref q15, .int (iI 0)])), (q7, zA w false 8), (q15, zA w false 8)]) rfl rfl in_X1 tyX1 tyX1_ok nmX1 (by decide) lk_RX1_15 rfl rfl (tyX1_ok 3 (by decide)) rfl rfl (Nat.le_of_ble_eq_true rfl) rfl ?_
  refine i_aload_n hX dX1_init_20 rfl ?_
  refine i_aload_n hX dX1_init_21 rfl ?_
  refine i_putF hX dX1_init_22 (q0 := 0) (ci := 1) (k := 0) (ws1 := [(h0, .inr (1, [.ref p1, .null, .ref q7, .ref q15, .int (iI 0)])), (q7, zA w false 8), (q15, zA w false 8)]) rfl rfl in_X1 tyX1 tyX1_ok nmX1 (by decide) lk_RX1_18 rfl rfl (tyX1_ok 0 (by decide)) rfl rfl (Nat.le_of_ble_eq_true rfl) rfl ?_
  refine i_aload_n hX dX1_init_25 rfl ?_
  refine i_aload_n hX dX1_init_26 rfl ?_
  refine i_putF hX dX1_init_27 (q0 := 0) (ci := 1) (k := 1) (ws1 := [(h0, .inr (1, [.ref p1, .ref p2, .ref q7, .ref q15, .int (iI 0)])), (q7, zA w false 8), (q15, zA w false 8)]) rfl rfl in_X1 tyX1 tyX1_ok nmX1 (by decide) lk_RX1_22 rfl rfl (tyX1_ok 1 (by decide)) rfl rfl (Nat.le_of_ble_eq_true rfl) rfl ?_
  exact i_ret hX dX1_init_30 ⟨q7, q15, rfl⟩ rfl rfl
theorem dX3_init_0 : decode cX3_init 0 = .ok (.aload_n 0, 1) := by decide +kernel
theorem dX3_init_1 : decode cX3_init 1 = .ok (.invokespecial 3, 3) := by decide +kernel
theorem dX3_init_4 : decode cX3_init 4 = .ok (.aload_n 0, 1) := by decide +kernel
theorem dX3_init_5 : decode cX3_init 5 = .ok (.bipush 8, 2) := by decide +kernel
theorem dX3_init_7 : decode cX3_init 7 = .ok (.newarray .int, 2) := by decide +kernel
theorem dX3_init_9 : decode cX3_init 9 = .ok (.putfield 9, 3) := by decide +kernel
theorem dX3_init_12 : decode cX3_init 12 = .ok (.aload_n 0, 1) := by decide +kernel
theorem dX3_init_13 : decode cX3_init 13 = .ok (.bipush 8, 2) := by decide +kernel
theorem dX3_init_15 : decode cX3_init 15 = .ok (.newarray .int, 2) := by decide +kernel
theorem dX3_init_17 : decode cX3_init 17 = .ok (.putfield 15, 3) := by decide +kernel
theorem dX3_init_20 : decode cX3_init 20 = .ok (.aload_n 0, 1) := by decide +kernel
theorem dX3_init_21 : decode cX3_init 21 = .ok (.bipush 8, 2) := by decide +kernel
theorem dX3_init_23 : decode cX3_init 23 = .ok (.newarray .int, 2) := by decide +kernel
theorem dX3_init_25 : decode cX3_init 25 = .ok (.putfield 18, 3) := by decide +kernel
theorem dX3_init_28 : decode cX3_init 28 = .ok (.aload_n 0, 1) := by decide +kernel
theorem dX3_init_29 : decode cX3_init 29 = .ok (.bipush 16, 2) := by decide +kernel
theorem dX3_init_31 : decode cX3_init 31 = .ok (.newarray .int, 2) := by decide +kernel
theorem dX3_init_33 : decode cX3_init 33 = .ok (.putfield 21, 3) := by decide +kernel
theorem dX3_init_36 : decode cX3_init 36 = .ok (.aload_n 0, 1) := by decide +kernel
theorem dX3_init_37 : decode cX3_init 37 = .ok (.bipush 64, 2) := by decide +kernel
theorem dX3_init_39 : decode cX3_init 39 = .ok (.newarray .int, 2) := by decide +kernel
theorem dX3_init_41 : decode cX3_init 41 = .ok (.putfield 24, 3) := by decide +kernel
theorem dX3_init_44 : decode cX3_init 44 = .ok (.aload_n 0, 1) := by decide +kernel
theorem dX3_init_45 : decode cX3_init 45 = .ok (.aload_n 1, 1) := by decide +kernel
theorem dX3_init_46 : decode cX3_init 46 = .ok (.putfield 27, 3) := by decide +kernel
theorem dX3_init_49 : decode cX3_init 49 = .ok (.aload_n 0, 1) := by decide +kernel
theorem dX3_init_50 : decode cX3_init 50 = .ok (.aload_n 2, 1) := by decide +kernel
theorem dX3_init_51 : decode cX3_init 51 = .ok (.putfield 31, 3) := by decide +kernel
theorem dX3_init_54 : decode cX3_init 54 = .ok (.return_, 1) := by decide +kernel
set_option maxRecDepth 20000 in
set_option maxHeartbeats 4000000 in
theorem c_X3_init (l : Launch) (w : WT) (h0 p1 p2 : Nat) : CI l w yX3_init cX3_init 3 1 12 5 104 [.ref h0, .ref p1, .ref p2] [(h0, .inr (3, [.null, .null, .null, .null, .null, .null, .null, .int (iI 0), .int (iI 0)]))] (fun ws => ∃ (q7 q15 q23 q31 q39 : Nat), ws = [(h0, .inr (3, [.ref p1, .ref p2, .ref q7, .ref q15, .ref q23, .ref q31, .ref q39, .int (iI 0), .int (iI 0)])), (q7, zA w false 8), (q15, zA w false 8), (q23, zA w false 8), (q31, zA w false 16), (q39, zA w false 64)]) := by
  refine CI.of 0 [some (.ref h0), some (.ref p1), some (.ref p2)] (by decide +kernel) rfl (by simp [lg_sl, Value.category]) rfl (fun GI hX => ?_)
  refine i_aload_n hX dX3_init_0 rfl ?_
  refine i_obj hX dX3_init_1 lo_X3 lo_i lo_c (Nat.le_of_ble_eq_true rfl) (Nat.le_of_ble_eq_true rfl) ?_
  refine i_aload_n hX dX3_init_4 rfl ?_
  refine i_bipush hX dX3_init_5 (by decide) ?_
  refine i_newI hX (n := 8) rfl dX3_init_7 (Nat.le_of_ble_eq_true rfl) ar_I (Nat.le_of_ble_eq_true rfl) (Nat.le_of_ble_eq_true rfl) (fun q7 => ?_)
  refine i_putF hX dX3_init_9 (q0 := 0) (ci := 3) (k := 2) (ws1 := [(h0, .inr (3, [.null, .null, .ref q7, .null, .null, .null, .null, .int (iI 0), .int (iI 0)])), (q7, zA w false 8)]) rfl rfl in_X3 tyX3 tyX3_ok nmX3 (by decide) lk_RX3_9 rfl rfl (tyX3_ok 2 (by decide)) rfl rfl (Nat.le_of_ble_eq_true rfl) rfl ?_
  refine i_aload_n hX dX3_init_12 rfl ?_
  refine i_bipush hX dX3_init_13 (by decide) ?_
  refine i_newI hX (n := 8) rfl dX3_init_15 (Nat.le_of_ble_eq_true rfl) ar_I (Nat.le_of_ble_eq_true rfl) (Nat.le_of_ble_eq_true rfl) (fun q15 => ?_)
  refine i_putF hX dX3_init_17 (q0 := 0) (ci := 3) (k := 3) (ws1 := [(h0, .inr (3, [.null, .null, .ref q7, .ref q15, .null, .null, .null, .int (iI 0), .int (iI 0)])), (q7, zA w false 8), (q15, zA w false 8)]) rfl rfl in_X3 tyX3 tyX3_ok nmX3 (by decide) lk_RX3_15 rfl rfl (tyX3_ok 3 (by decide)) rfl rfl (Nat.le_of_ble_eq_true rfl) rfl ?_
  refine i_aload_n hX dX3_init_20 rfl ?_
  refine i_bipush hX dX3_init_21 (by decide) ?_
  refine i_newI hX (n := 8) rfl dX3_init_23 (Nat.le_of_ble_eq_true rfl) ar_I (Nat.le_of_ble_eq_true rfl) (Nat.le_of_ble_eq_true rfl) (fun q23 => ?_)
  refine i_putF hX dX3_init_25 (q0 := 0) (ci := 3) (k := 4) (ws1 := [(h0, .inr (3, [.null, .null, .ref q7, .ref q15, .ref q23, .null, .null, .int (iI 0), .int (iI 0)])), (q7, zA w false 8), (q15, zA w false 8), (q23, zA w false 8)]) rfl rfl in_X3 tyX3 tyX3_ok nmX3 (by decide) lk_RX3_18 rfl rfl (tyX3_ok 4 (by decide)) rfl rfl (Nat.le_of_ble_eq_true rfl) rfl ?_
  refine i_aload_n hX dX3_init_28 rfl ?_
  refine i_bipush hX dX3_init_29 (by decide) ?_
  refine i_newI hX (n := 16) rfl dX3_init_31 (Nat.le_of_ble_eq_true rfl) ar_I (Nat.le_of_ble_eq_true rfl) (Nat.le_of_ble_eq_true rfl) (fun q31 => ?_)
  refine i_putF hX dX3_init_33 (q0 := 0) (ci := 3) (k := 5) (ws1 := [(h0, .inr (3, [.null, .null, .ref q7, .ref q15, .ref q23, .ref q31, .null, .int (iI 0), .int (iI 0)])), (q7, zA w false 8), (q15, zA w false 8), (q23, zA w false 8), (q31, zA w false 16)]) rfl rfl in_X3 tyX3 tyX3_ok nmX3 (by decide) lk_RX3_21 rfl rfl (tyX3_ok 5 (by decide)) rfl rfl (Nat.le_of_ble_eq_true rfl) rfl ?_
  refine i_aload_n hX dX3_init_36 rfl ?_
  refine i_bipush hX dX3_init_37 (by decide) ?_
  refine i_newI hX (n := 64) rfl dX3_init_39 (Nat.le_of_ble_eq_true rfl) ar_I (Nat.le_of_ble_eq_true rfl) (Nat.le_of_ble_eq_true rfl) (fun q39 => ?_)
  refine i_putF hX dX3_init_41 (q0 := 0) (ci := 3) (k := 6) (ws1 := [(h0, .inr (3, [.null, .null, .ref q7, .ref q15, .ref q23, .ref q31, .ref q39, .int (iI 0), .int (iI 0)])), (q7, zA w false 8), (q15, zA w false 8), (q23, zA w false 8), (q31, zA w false 16), (q39, zA w false 64)]) rfl rfl in_X3 tyX3 tyX3_ok nmX3 (by decide) lk_RX3_24 rfl rfl (tyX3_ok 6 (by decide)) rfl rfl (Nat.le_of_ble_eq_true rfl) rfl ?_
  refine i_aload_n hX dX3_init_44 rfl ?_
  refine i_aload_n hX dX3_init_45 rfl ?_
  refine i_putF hX dX3_init_46 (q0 := 0) (ci := 3) (k := 0) (ws1 := [(h0, .inr (3, [.ref p1, .null, .ref q7, .ref q15, .ref q23, .ref q31, .ref q39, .int (iI 0), .int (iI 0)])), (q7, zA w false 8), (q15, zA w false 8), (q23, zA w false 8), (q31, zA w false 16), (q39, zA w false 64)]) rfl rfl in_X3 tyX3 tyX3_ok nmX3 (by decide) lk_RX3_27 rfl rfl (tyX3_ok 0 (by decide)) rfl rfl (Nat.le_of_ble_eq_true rfl) rfl ?_
  refine i_aload_n hX dX3_init_49 rfl ?_
  refine i_aload_n hX dX3_init_50 rfl ?_
  refine i_putF hX dX3_init_51 (q0 := 0) (ci := 3) (k := 1) (ws1 := [(h0, .inr (3, [.ref p1, .ref p2, .ref q7, .ref q15, .ref q23, .ref q31, .ref q39, .int (iI 0), .int (iI 0)])), (q7, zA w false 8), (q15, zA w false 8), (q23, zA w false 8), (q31, zA w false 16), (q39, zA w false 64)]) rfl rfl in_X3 tyX3 tyX3_ok nmX3 (by decide) lk_RX3_31 rfl rfl (tyX3_ok 1 (by decide)) rfl rfl (Nat.le_of_ble_eq_true rfl) rfl ?_
  exact i_ret hX dX3_init_54 ⟨q7, q15, q23, q31, q39, rfl⟩ rfl rfl
theorem dX4_init_0 : decode cX4_init 0 = .ok (.aload_n 0, 1) := by decide +kernel
theorem dX4_init_1 : decode cX4_init 1 = .ok (.invokespecial 3, 3) := by decide +kernel
theorem dX4_init_4 : decode cX4_init 4 = .ok (.aload_n 0, 1) := by decide +kernel
theorem dX4_init_5 : decode cX4_init 5 = .ok (.sipush 488, 3) := by decide +kernel
theorem dX4_init_8 : decode cX4_init 8 = .ok (.newarray .int, 2) := by decide +kernel
theorem dX4_init_10 : decode cX4_init 10 = .ok (.putfield 9, 3) := by decide +kernel
theorem dX4_init_13 : decode cX4_init 13 = .ok (.aload_n 0, 1) := by decide +kernel
theorem dX4_init_14 : decode cX4_init 14 = .ok (.aload_n 1, 1) := by decide +kernel
theorem dX4_init_15 : decode cX4_init 15 = .ok (.putfield 15, 3) := by decide +kernel
theorem dX4_init_18 : decode cX4_init 18 = .ok (.return_, 1) := by decide +kernel
set_option maxRecDepth 20000 in
set_option maxHeartbeats 4000000 in
theorem c_X4_init (l : Launch) (w : WT) (h0 p1 : Nat) : CI l w yX4_init cX4_init 2 1 12 1 488 [.ref h0, .ref p1] [(h0, .inr (4, [.null, .null]))] (fun ws => ∃ (q8 : Nat), ws = [(h0, .inr (4, [.ref p1, .ref q8])), (q8, zA w false 488)]) := by
  refine CI.of 0 [some (.ref h0), some (.ref p1)] (by decide +kernel) rfl (by simp [lg_sl, Value.category]) rfl (fun GI hX => ?_)
  refine i_aload_n hX dX4_init_0 rfl ?_
  refine i_obj hX dX4_init_1 lo_X4 lo_i lo_c (Nat.le_of_ble_eq_true rfl) (Nat.le_of_ble_eq_true rfl) ?_
  refine i_aload_n hX dX4_init_4 rfl ?_
  refine i_sipush hX dX4_init_5 (by decide) ?_
  refine i_newI hX (n := 488) rfl dX4_init_8 (Nat.le_of_ble_eq_true rfl) ar_I (Nat.le_of_ble_eq_true rfl) (Nat.le_of_ble_eq_true rfl) (fun q8 => ?_)
  refine i_putF hX dX4_init_10 (q0 := 0) (ci := 4) (k := 1) (ws1 := [(h0, .inr (4, [.null, .ref q8])), (q8, zA w false 488)]) rfl rfl in_X4 tyX4 tyX4_ok nmX4 (by decide) lk_RX4_9 rfl rfl (tyX4_ok 1 (by decide)) rfl rfl (Nat.le_of_ble_eq_true rfl) rfl ?_
  refine i_aload_n hX dX4_init_13 rfl ?_
  refine i_aload_n hX dX4_init_14 rfl ?_
  refine i_putF hX dX4_init_15 (q0 := 0) (ci := 4) (k := 0) (ws1 := [(h0, .inr (4, [.ref p1, .ref q8])), (q8, zA w false 488)]) rfl rfl in_X4 tyX4 tyX4_ok nmX4 (by decide) lk_RX4_15 rfl rfl (tyX4_ok 0 (by decide)) rfl rfl (Nat.le_of_ble_eq_true rfl) rfl ?_
  exact i_ret hX dX4_init_18 ⟨q8, rfl⟩ rfl rfl
theorem dX5_init_0 : decode cX5_init 0 = .ok (.aload_n 0, 1) := by decide +kernel
theorem dX5_init_1 : decode cX5_init 1 = .ok (.invokespecial 3, 3) := by decide +kernel
theorem dX5_init_4 : decode cX5_init 4 = .ok (.aload_n 0, 1) := by decide +kernel
theorem dX5_init_5 : decode cX5_init 5 = .ok (.new 9, 3) := by decide +kernel
theorem dX5_init_8 : decode cX5_init 8 = .ok (.dup, 1) := by decide +kernel
theorem dX5_init_9 : decode cX5_init 9 = .ok (.invokespecial 11, 3) := by decide +kernel
theorem dX5_init_12 : decode cX5_init 12 = .ok (.putfield 12, 3) := by decide +kernel
theorem dX5_init_15 : decode cX5_init 15 = .ok (.aload_n 0, 1) := by decide +kernel
theorem dX5_init_16 : decode cX5_init 16 = .ok (.new 16, 3) := by decide +kernel
theorem dX5_init_19 : decode cX5_init 19 = .ok (.dup, 1) := by decide +kernel
theorem dX5_init_20 : decode cX5_init 20 = .ok (.invokespecial 18, 3) := by decide +kernel
theorem dX5_init_23 : decode cX5_init 23 = .ok (.putfield 19, 3) := by decide +kernel
theorem dX5_init_26 : decode cX5_init 26 = .ok (.aload_n 0, 1) := by decide +kernel
theorem dX5_init_27 : decode cX5_init 27 = .ok (.new 23, 3) := by decide +kernel
theorem dX5_init_30 : decode cX5_init 30 = .ok (.dup, 1) := by decide +kernel
theorem dX5_init_31 : decode cX5_init 31 = .ok (.aload_n 0, 1) := by decide +kernel
theorem dX5_init_32 : decode cX5_init 32 = .ok (.getfield 12, 3) := by decide +kernel
theorem dX5_init_35 : decode cX5_init 35 = .ok (.aload_n 0, 1) := by decide +kernel
theorem dX5_init_36 : decode cX5_init 36 = .ok (.getfield 19, 3) := by decide +kernel
theorem dX5_init_39 : decode cX5_init 39 = .ok (.invokespecial 25, 3) := by decide +kernel
theorem dX5_init_42 : decode cX5_init 42 = .ok (.putfield 28, 3) := by decide +kernel
theorem dX5_init_45 : decode cX5_init 45 = .ok (.aload_n 0, 1) := by decide +kernel
theorem dX5_init_46 : decode cX5_init 46 = .ok (.new 32, 3) := by decide +kernel
theorem dX5_init_49 : decode cX5_init 49 = .ok (.dup, 1) := by decide +kernel
theorem dX5_init_50 : decode cX5_init 50 = .ok (.aload_n 0, 1) := by decide +kernel
theorem dX5_init_51 : decode cX5_init 51 = .ok (.getfield 12, 3) := by decide +kernel
theorem dX5_init_54 : decode cX5_init 54 = .ok (.aload_n 0, 1) := by decide +kernel
theorem dX5_init_55 : decode cX5_init 55 = .ok (.getfield 19, 3) := by decide +kernel
theorem dX5_init_58 : decode cX5_init 58 = .ok (.invokespecial 34, 3) := by decide +kernel
theorem dX5_init_61 : decode cX5_init 61 = .ok (.putfield 35, 3) := by decide +kernel
theorem dX5_init_64 : decode cX5_init 64 = .ok (.aload_n 0, 1) := by decide +kernel
theorem dX5_init_65 : decode cX5_init 65 = .ok (.new 39, 3) := by decide +kernel
theorem dX5_init_68 : decode cX5_init 68 = .ok (.dup, 1) := by decide +kernel
theorem dX5_init_69 : decode cX5_init 69 = .ok (.aload_n 0, 1) := by decide +kernel
theorem dX5_init_70 : decode cX5_init 70 = .ok (.getfield 12, 3) := by decide +kernel
theorem dX5_init_73 : decode cX5_init 73 = .ok (.invokespecial 41, 3) := by decide +kernel
theorem dX5_init_76 : decode cX5_init 76 = .ok (.putfield 44, 3) := by decide +kernel
theorem dX5_init_79 : decode cX5_init 79 = .ok (.aload_n 0, 1) := by decide +kernel
theorem dX5_init_80 : decode cX5_init 80 = .ok (.new 39, 3) := by decide +kernel
theorem dX5_init_83 : decode cX5_init 83 = .ok (.dup, 1) := by decide +kernel
theorem dX5_init_84 : decode cX5_init 84 = .ok (.aload_n 0, 1) := by decide +kernel
theorem dX5_init_85 : decode cX5_init 85 = .ok (.getfield 12, 3) := by decide +kernel
theorem dX5_init_88 : decode cX5_init 88 = .ok (.invokespecial 41, 3) := by decide +kernel
theorem dX5_init_91 : decode cX5_init 91 = .ok (.putfield 48, 3) := by decide +kernel
theorem dX5_init_94 : decode cX5_init 94 = .ok (.return_, 1) := by decide +kernel
set_option maxRecDepth 20000 in
set_option maxHeartbeats 4000000 in
theorem c_X5_init (l : Launch) (w : WT) (h0 : Nat) : CI l w yX5_init cX5_init 1 6 132 26 1309 [.ref h0] [(h0, .inr (5, [.null, .null, .null, .null, .null, .null, .int (iI 0), .int (iI 0), .int (iI 0)]))] (fun ws => ∃ (q5 q9_7 q9_15 q9_23 q9_31 q9_39 q9_47 q9_55 q9_63 q16 q20_7 q20_15 q20_23 q27 q39_7 q39_15 q46 q58_7 q58_15 q58_23 q58_31 q58_39 q65 q73_8 q80 q88_8 : Nat) (σ1 : MM), ws = [(h0, .inr (5, [.ref q5, .ref q16, .ref q27, .ref q46, .ref q65, .ref q80, .int (iI 0), .int (iI 0), .int (iI 0)])), (q5, .inr (2, [.ref q9_7, .ref q9_15, .ref q9_23, .ref q9_31, .ref q9_39, .ref q9_47, .ref q9_55, .ref q9_63, .int (iI 0), .int (iI 0), .int (iI 0)])), (q9_7, zA w false 8), (q9_15, zA w false 8), (q9_23, zA w false 8), (q9_31, zA w false 16), (q9_39, zA w false 16), (q9_47, zA w false 8), (q9_55, zA w true 8), (q9_63, zA w false 8), (q16, .inr (0, [.ref q20_7, .ref q20_15, .ref q20_23, .int (iI (σ1 56 0)), .int (iI (σ1 57 0))])), (q20_7, .inl (w.2.1 true, 9, .inl (fun k => iI (σ1 11 (k : Int))))), (q20_15, .inl (w.2.1 true, 9, .inl (fun k => iI (σ1 12 (k : Int))))), (q20_23, .inl (w.2.1 false, 81, .inl (fun k => iI (σ1 13 (k : Int))))), (q27, .inr (1, [.ref q5, .ref q16, .ref q39_7, .ref q39_15, .int (iI 0)])), (q39_7, zA w false 8), (q39_15, zA w false 8), (q46, .inr (3, [.ref q5, .ref q16, .ref q58_7, .ref q58_15, .ref q58_23, .ref q58_31, .ref q58_39, .int (iI 0), .int (iI 0)])), (q58_7, zA w false 8), (q58_15, zA w false 8), (q58_23, zA w false 8), (q58_31, zA w false 16), (q58_39, zA w false 64), (q65, .inr (4, [.ref q5, .ref q73_8])), (q73_8, zA w false 488), (q80, .inr (4, [.ref q5, .ref q88_8])), (q88_8, zA w false 488)] ∧ FG σ1 ∧ Bd bdG σ1) := by
  refine CI.of 0 [some (.ref h0)] (by decide +kernel) rfl (by simp [lg_sl, Value.category]) rfl (fun GI hX => ?_)
  refine i_aload_n hX dX5_init_0 rfl ?_
  refine i_obj hX dX5_init_1 lo_X5 lo_i lo_c (Nat.le_of_ble_eq_true rfl) (Nat.le_of_ble_eq_true rfl) ?_
  refine i_aload_n hX dX5_init_4 rfl ?_
  refine i_new hX dX5_init_5 (ci := 2) (fs := [.null, .null, .null, .null, .null, .null, .null, .null, .int (iI 0), .int (iI 0), .int (iI 0)]) rfl in_X2 tyX2 tyX2_ok cl_RX5_9 nw_X2 ni_X2 (by decide +kernel) (Nat.le_of_ble_eq_true rfl) (Nat.le_of_ble_eq_true rfl) (fun q5 => ?_)
  refine i_dup hX dX5_init_8 ?_
  refine i_callN hX dX5_init_9 (c_X2_init l w q5) mf_X2_init mi_X2_init rfl rfl rfl rfl [1] [0] (wr := [(h0, .inr (5, [.null, .null, .null, .null, .null, .null, .int (iI 0), .int (iI 0), .int (iI 0)]))]) rfl rfl rfl (by decide) (by decide) (by decide) ⟨Nat.le_of_ble_eq_true rfl, Nat.le_of_ble_eq_true rfl⟩ (Nat.le_of_ble_eq_true rfl) ⟨Nat.le_of_ble_eq_true rfl, Nat.le_of_ble_eq_true rfl⟩ (fun w1 hw1 => ?_)
  obtain ⟨q9_7, q9_15, q9_23, q9_31, q9_39, q9_47, q9_55, q9_63, rfl⟩ := hw1
  refine i_putF hX dX5_init_12 (q0 := 0) (ci := 5) (k := 0) (ws1 := [(h0, .inr (5, [.ref q5, .null, .null, .null, .null, .null, .int (iI 0), .int (iI 0), .int (iI 0)])), (q5, .inr (2, [.ref q9_7, .ref q9_15, .ref q9_23, .ref q9_31, .ref q9_39, .ref q9_47, .ref q9_55, .ref q9_63, .int (iI 0), .int (iI 0), .int (iI 0)])), (q9_7, zA w false 8), (q9_15, zA w false 8), (q9_23, zA w false 8), (q9_31, zA w false 16), (q9_39, zA w false 16), (q9_47, zA w false 8), (q9_55, zA w true 8), (q9_63, zA w false 8)]) rfl rfl in_X5 tyX5 tyX5_ok nmX5 (by decide) lk_RX5_12 rfl rfl (tyX5_ok 0 (by decide)) rfl rfl (Nat.le_of_ble_eq_true rfl) rfl ?_
  refine i_aload_n hX dX5_init_15 rfl ?_
  refine i_new hX dX5_init_16 (ci := 0) (fs := [.null, .null, .null, .int (iI 0), .int (iI 0)]) rfl in_X0 tyX0 tyX0_ok cl_RX5_16 nw_X0 ni_X0 (by decide +kernel) (Nat.le_of_ble_eq_true rfl) (Nat.le_of_ble_eq_true rfl) (fun q16 => ?_)
  refine i_dup hX dX5_init_19 ?_
  refine i_call hX dX5_init_20 (c_X0_init l w q16) mf_X0_init mi_X0_init rfl lk_RX5_18 rfl rfl [10] [0, 1, 2, 3, 4, 5, 6, 7, 8, 9] (wr := [(h0, .inr (5, [.ref q5, .null, .null, .null, .null, .null, .int (iI 0), .int (iI 0), .int (iI 0)])), (q5, .inr (2, [.ref q9_7, .ref q9_15, .ref q9_23, .ref q9_31, .ref q9_39, .ref q9_47, .ref q9_55, .ref q9_63, .int (iI 0), .int (iI 0), .int (iI 0)])), (q9_7, zA w false 8), (q9_15, zA w false 8), (q9_23, zA w false 8), (q9_31, zA w false 16), (q9_39, zA w false 16), (q9_47, zA w false 8), (q9_55, zA w true 8), (q9_63, zA w false 8)]) rfl rfl rfl (by decide) (by decide) (by decide) ⟨Nat.le_of_ble_eq_true rfl, Nat.le_of_ble_eq_true rfl⟩ (Nat.le_of_ble_eq_true rfl) ⟨Nat.le_of_ble_eq_true rfl, Nat.le_of_ble_eq_true rfl⟩ (fun w1 hw1 => ?_)
  obtain ⟨q20_7, q20_15, q20_23, σ20, rfl, f20⟩ := hw1
  refine i_putF hX dX5_init_23 (q0 := 0) (ci := 5) (k := 1) (ws1 := [(h0, .inr (5, [.ref q5, .ref q16, .null, .null, .null, .null, .int (iI 0), .int (iI 0), .int (iI 0)])), (q5, .inr (2, [.ref q9_7, .ref q9_15, .ref q9_23, .ref q9_31, .ref q9_39, .ref q9_47, .ref q9_55, .ref q9_63, .int (iI 0), .int (iI 0), .int (iI 0)])), (q9_7, zA w false 8), (q9_15, zA w false 8), (q9_23, zA w false 8), (q9_31, zA w false 16), (q9_39, zA w false 16), (q9_47, zA w false 8), (q9_55, zA w true 8), (q9_63, zA w false 8), (q16, .inr (0, [.ref q20_7, .ref q20_15, .ref q20_23, .int (iI (σ20 56 0)), .int (iI (σ20 57 0))])), (q20_7, .inl (w.2.1 true, 9, .inl (fun k => iI (σ20 11 (k : Int))))), (q20_15, .inl (w.2.1 true, 9, .inl (fun k => iI (σ20 12 (k : Int))))), (q20_23, .inl (w.2.1 false, 81, .inl (fun k => iI (σ20 13 (k : Int)))))]) rfl rfl in_X5 tyX5 tyX5_ok nmX5 (by decide) lk_RX5_19 rfl rfl (tyX5_ok 1 (by decide)) rfl rfl (Nat.le_of_ble_eq_true rfl) rfl ?_
  refine i_aload_n hX dX5_init_26 rfl ?_
  refine i_new hX dX5_init_27 (ci := 1) (fs := [.null, .null, .null, .null, .int (iI 0)]) rfl in_X1 tyX1 tyX1_ok cl_RX5_23 nw_X1 ni_X1 (by decide +kernel) (Nat.le_of_ble_eq_true rfl) (Nat.le_of_ble_eq_true rfl) (fun q27 => ?_)
  refine i_dup hX dX5_init_30 ?_
  refine i_aload_n hX dX5_init_31 rfl ?_
  refine i_get hX dX5_init_32 (q0 := 0) (ci := 5) (k := 0) rfl rfl in_X5 (by decide) rfl lk_RX5_12 ?_
  refine i_aload_n hX dX5_init_35 rfl ?_
  refine i_get hX dX5_init_36 (q0 := 0) (ci := 5) (k := 1) rfl rfl in_X5 (by decide) rfl lk_RX5_19 ?_
  refine i_call hX dX5_init_39 (c_X1_init l w q27 q5 q16) mf_X1_init mi_X1_init rfl lk_RX5_25 rfl rfl [14] [0, 1, 2, 3, 4, 5, 6, 7, 8, 9, 10, 11, 12, 13] (wr := [(h0, .inr (5, [.ref q5, .ref q16, .null, .null, .null, .null, .int (iI 0), .int (iI 0), .int (iI 0)])), (q5, .inr (2, [.ref q9_7, .ref q9_15, .ref q9_23, .ref q9_31, .ref q9_39, .ref q9_47, .ref q9_55, .ref q9_63, .int (iI 0), .int (iI 0), .int (iI 0)])), (q9_7, zA w false 8), (q9_15, zA w false 8), (q9_23, zA w false 8), (q9_31, zA w false 16), (q9_39, zA w false 16), (q9_47, zA w false 8), (q9_55, zA w true 8), (q9_63, zA w false 8), (q16, .inr (0, [.ref q20_7, .ref q20_15, .ref q20_23, .int (iI (σ20 56 0)), .int (iI (σ20 57 0))])), (q20_7, .inl (w.2.1 true, 9, .inl (fun k => iI (σ20 11 (k : Int))))), (q20_15, .inl (w.2.1 true, 9, .inl (fun k => iI (σ20 12 (k : Int))))), (q20_23, .inl (w.2.1 false, 81, .inl (fun k => iI (σ20 13 (k : Int)))))]) rfl rfl rfl (by decide) (by decide) (by decide) ⟨Nat.le_of_ble_eq_true rfl, Nat.le_of_ble_eq_true rfl⟩ (Nat.le_of_ble_eq_true rfl) ⟨Nat.le_of_ble_eq_true rfl, Nat.le_of_ble_eq_true rfl⟩ (fun w1 hw1 => ?_)
  obtain ⟨q39_7, q39_15, rfl⟩ := hw1
  refine i_putF hX dX5_init_42 (q0 := 0) (ci := 5) (k := 2) (ws1 := [(h0, .inr (5, [.ref q5, .ref q16, .ref q27, .null, .null, .null, .int (iI 0), .int (iI 0), .int (iI 0)])), (q5, .inr (2, [.ref q9_7, .ref q9_15, .ref q9_23, .ref q9_31, .ref q9_39, .ref q9_47, .ref q9_55, .ref q9_63, .int (iI 0), .int (iI 0), .int (iI 0)])), (q9_7, zA w false 8), (q9_15, zA w false 8), (q9_23, zA w false 8), (q9_31, zA w false 16), (q9_39, zA w false 16), (q9_47, zA w false 8), (q9_55, zA w true 8), (q9_63, zA w false 8), (q16, .inr (0, [.ref q20_7, .ref q20_15, .ref q20_23, .int (iI (σ20 56 0)), .int (iI (σ20 57 0))])), (q20_7, .inl (w.2.1 true, 9, .inl (fun k => iI (σ20 11 (k : Int))))), (q20_15, .inl (w.2.1 true, 9, .inl (fun k => iI (σ20 12 (k : Int))))), (q20_23, .inl (w.2.1 false, 81, .inl (fun k => iI (σ20 13 (k : Int))))), (q27, .inr (1, [.ref q5, .ref q16, .ref q39_7, .ref q39_15, .int (iI 0)])), (q39_7, zA w false 8), (q39_15, zA w false 8)]) rfl rfl in_X5 tyX5 tyX5_ok nmX5 (by decide) lk_RX5_28 rfl rfl (tyX5_ok 2 (by decide)) rfl rfl (Nat.le_of_ble_eq_true rfl) rfl ?_
  refine i_aload_n hX dX5_init_45 rfl ?_
  refine i_new hX dX5_init_46 (ci := 3) (fs := [.null, .null, .null, .null, .null, .null, .null, .int (iI 0), .int (iI 0)]) rfl in_X3 tyX3 tyX3_ok cl_RX5_32 nw_X3 ni_X3 (by decide +kernel) (Nat.le_of_ble_eq_true rfl) (Nat.le_of_ble_eq_true rfl) (fun q46 => ?_)
  refine i_dup hX dX5_init_49 ?_
  refine i_aload_n hX dX5_init_50 rfl ?_
  refine i_get hX dX5_init_51 (q0 := 0) (ci := 5) (k := 0) rfl rfl in_X5 (by decide) rfl lk_RX5_12 ?_
  refine i_aload_n hX dX5_init_54 rfl ?_
  refine i_get hX dX5_init_55 (q0 := 0) (ci := 5) (k := 1) rfl rfl in_X5 (by decide) rfl lk_RX5_19 ?_
  refine i_call hX dX5_init_58 (c_X3_init l w q46 q5 q16) mf_X3_init mi_X3_init rfl lk_RX5_34 rfl rfl [17] [0, 1, 2, 3, 4, 5, 6, 7, 8, 9, 10, 11, 12, 13, 14, 15, 16] (wr := [(h0, .inr (5, [.ref q5, .ref q16, .ref q27, .null, .null, .null, .int (iI 0), .int (iI 0), .int (iI 0)])), (q5, .inr (2, [.ref q9_7, .ref q9_15, .ref q9_23, .ref q9_31, .ref q9_39, .ref q9_47, .ref q9_55, .ref q9_63, .int (iI 0), .int (iI 0), .int (iI 0)])), (q9_7, zA w false 8), (q9_15, zA w false 8), (q9_23, zA w false 8), (q9_31, zA w false 16), (q9_39, zA w false 16), (q9_47, zA w false 8), (q9_55, zA w true 8), (q9_63, zA w false 8), (q16, .inr (0, [.ref q20_7, .ref q20_15, .ref q20_23, .int (iI (σ20 56 0)), .int (iI (σ20 57 0))])), (q20_7, .inl (w.2.1 true, 9, .inl (fun k => iI (σ20 11 (k : Int))))), (q20_15, .inl (w.2.1 true, 9, .inl (fun k => iI (σ20 12 (k : Int))))), (q20_23, .inl (w.2.1 false, 81, .inl (fun k => iI (σ20 13 (k : Int))))), (q27, .inr (1, [.ref q5, .ref q16, .ref q39_7, .ref q39_15, .int (iI 0)])), (q39_7, zA w false 8), (q39_15, zA w false 8)]) rfl rfl rfl (by decide) (by decide) (by decide) ⟨Nat.le_of_ble_eq_true rfl, Nat.le_of_ble_eq_true rfl⟩ (Nat.le_of_ble_eq_true rfl) ⟨Nat.le_of_ble_eq_true rfl, Nat.le_of_ble_eq_true rfl⟩ (fun w1 hw1 => ?_)
  obtain ⟨q58_7, q58_15, q58_23, q58_31, q58_39, rfl⟩ := hw1
  refine i_putF hX dX5_init_61 (q0 := 0) (ci := 5) (k := 3) (ws1 := [(h0, .inr (5, [.ref q5, .ref q16, .ref q27, .ref q46, .null, .null, .int (iI 0), .int (iI 0), .int (iI 0)])), (q5, .inr (2, [.ref q9_7, .ref q9_15, .ref q9_23, .ref q9_31, .ref q9_39, .ref q9_47, .ref q9_55, .ref q9_63, .int (iI 0), .int (iI 0), .int (iI 0)])), (q9_7, zA w false 8), (q9_15, zA w false 8), (q9_23, zA w false 8), (q9_31, zA w false 16), (q9_39, zA w false 16), (q9_47, zA w false 8), (q9_55, zA w true 8), (q9_63, zA w false 8), (q16, .inr (0, [.ref q20_7, .ref q20_15, .ref q20_23, .int (iI (σ20 56 0)), .int (iI (σ20 57 0))])), (q20_7, .inl (w.2.1 true, 9, .inl (fun k => iI (σ20 11 (k : Int))))), (q20_15, .inl (w.2.1 true, 9, .inl (fun k => iI (σ20 12 (k : Int))))), (q20_23, .inl (w.2.1 false, 81, .inl (fun k => iI (σ20 13 (k : Int))))), (q27, .inr (1, [.ref q5, .ref q16, .ref q39_7, .ref q39_15, .int (iI 0)])), (q39_7, zA w false 8), (q39_15, zA w false 8), (q46, .inr (3, [.ref q5, .ref q16, .ref q58_7, .ref q58_15, .ref q58_23, .ref q58_31, .ref q58_39, .int (iI 0), .int (iI 0)])), (q58_7, zA w false 8), (q58_15, zA w false 8), (q58_23, zA w false 8), (q58_31, zA w false 16), (q58_39, zA w false 64)]) rfl rfl in_X5 tyX5 tyX5_ok nmX5 (by decide) lk_RX5_35 rfl rfl (tyX5_ok 3 (by decide)) rfl rfl (Nat.le_of_ble_eq_true rfl) rfl ?_
  refine i_aload_n hX dX5_init_64 rfl ?_
  refine i_new hX dX5_init_65 (ci := 4) (fs := [.null, .null]) rfl in_X4 tyX4 tyX4_ok cl_RX5_39 nw_X4 ni_X4 (by decide +kernel) (Nat.le_of_ble_eq_true rfl) (Nat.le_of_ble_eq_true rfl) (fun q65 => ?_)
  refine i_dup hX dX5_init_68 ?_
  refine i_aload_n hX dX5_init_69 rfl ?_
  refine i_get hX dX5_init_70 (q0 := 0) (ci := 5) (k := 0) rfl rfl in_X5 (by decide) rfl lk_RX5_12 ?_
  refine i_call hX dX5_init_73 (c_X4_init l w q65 q5) mf_X4_init mi_X4_init rfl lk_RX5_41 rfl rfl [23] [0, 1, 2, 3, 4, 5, 6, 7, 8, 9, 10, 11, 12, 13, 14, 15, 16, 17, 18, 19, 20, 21, 22] (wr := [(h0, .inr (5, [.ref q5, .ref q16, .ref q27, .ref q46, .null, .null, .int (iI 0), .int (iI 0), .int (iI 0)])), (q5, .inr (2, [.ref q9_7, .ref q9_15, .ref q9_23, .ref q9_31, .ref q9_39, .ref q9_47, .ref q9_55, .ref q9_63, .int (iI 0), .int (iI 0), .int (iI 0)])), (q9_7, zA w false 8), (q9_15, zA w false 8), (q9_23, zA w false 8), (q9_31, zA w false 16), (q9_39, zA w false 16), (q9_47, zA w false 8), (q9_55, zA w true 8), (q9_63, zA w false 8), (q16, .inr (0, [.ref q20_7, .ref q20_15, .ref q20_23, .int (iI (σ20 56 0)), .int (iI (σ20 57 0))])), (q20_7, .inl (w.2.1 true, 9, .inl (fun k => iI (σ20 11 (k : Int))))), (q20_15, .inl (w.2.1 true, 9, .inl (fun k => iI (σ20 12 (k : Int))))), (q20_23, .inl (w.2.1 false, 81, .inl (fun k => iI (σ20 13 (k : Int))))), (q27, .inr (1, [.ref q5, .ref q16, .ref q39_7, .ref q39_15, .int (iI 0)])), (q39_7, zA w false 8), (q39_15, zA w false 8), (q46, .inr (3, [.ref q5, .ref q16, .ref q58_7, .ref q58_15, .ref q58_23, .ref q58_31, .ref q58_39, .int (iI 0), .int (iI 0)])), (q58_7, zA w false 8), (q58_15, zA w false 8), (q58_23, zA w false 8), (q58_31, zA w false 16), (q58_39, zA w false 64)]) rfl rfl rfl (by decide) (by decide) (by decide) ⟨Nat.le_of_ble_eq_true rfl, Nat.le_of_ble_eq_true rfl⟩ (Nat.le_of_ble_eq_true rfl) ⟨Nat.le_of_ble_eq_true rfl, Nat.le_of_ble_eq_true rfl⟩ (fun w1 hw1 => ?_)
  obtain ⟨q73_8, rfl⟩ := hw1
  refine i_putF hX dX5_init_76 (q0 := 0) (ci := 5) (k := 4) (ws1 := [(h0, .inr (5, [.ref q5, .ref q16, .ref q27, .ref q46, .ref q65, .null, .int (iI 0), .int (iI 0), .int (iI 0)])), (q5, .inr (2, [.ref q9_7, .ref q9_15, .ref q9_23, .ref q9_31, .ref q9_39, .ref q9_47, .ref q9_55, .ref q9_63, .int (iI 0), .int (iI 0), .int (iI 0)])), (q9_7, zA w false 8), (q9_15, zA w false 8), (q9_23, zA w false 8), (q9_31, zA w false 16), (q9_39, zA w false 16), (q9_47, zA w false 8), (q9_55, zA w true 8), (q9_63, zA w false 8), (q16, .inr (0, [.ref q20_7, .ref q20_15, .ref q20_23, .int (iI (σ20 56 0)), .int (iI (σ20 57 0))])), (q20_7, .inl (w.2.1 true, 9, .inl (fun k => iI (σ20 11 (k : Int))))), (q20_15, .inl (w.2.1 true, 9, .inl (fun k => iI (σ20 12 (k : Int))))), (q20_23, .inl (w.2.1 false, 81, .inl (fun k => iI (σ20 13 (k : Int))))), (q27, .inr (1, [.ref q5, .ref q16, .ref q39_7, .ref q39_15, .int (iI 0)])), (q39_7, zA w false 8), (q39_15, zA w false 8), (q46, .inr (3, [.ref q5, .ref q16, .ref q58_7, .ref q58_15, .ref q58_23, .ref q58_31, .ref q58_39, .int (iI 0), .int (iI 0)])), (q58_7, zA w false 8), (q58_15, zA w false 8), (q58_23, zA w false 8), (q58_31, zA w false 16), (q58_39, zA w false 64), (q65, .inr (4, [.ref q5, .ref q73_8])), (q73_8, zA w false 488)]) rfl rfl in_X5 tyX5 tyX5_ok nmX5 (by decide) lk_RX5_44 rfl rfl (tyX5_ok 4 (by decide)) rfl rfl (Nat.le_of_ble_eq_true rfl) rfl ?_
  refine i_aload_n hX dX5_init_79 rfl ?_
  refine i_new hX dX5_init_80 (ci := 4) (fs := [.null, .null]) rfl in_X4 tyX4 tyX4_ok cl_RX5_39 nw_X4 ni_X4 (by decide +kernel) (Nat.le_of_ble_eq_true rfl) (Nat.le_of_ble_eq_true rfl) (fun q80 => ?_)
  refine i_dup hX dX5_init_83 ?_
  refine i_aload_n hX dX5_init_84 rfl ?_
  refine i_get hX dX5_init_85 (q0 := 0) (ci := 5) (k := 0) rfl rfl in_X5 (by decide) rfl lk_RX5_12 ?_
  refine i_call hX dX5_init_88 (c_X4_init l w q80 q5) mf_X4_init mi_X4_init rfl lk_RX5_41 rfl rfl [25] [0, 1, 2, 3, 4, 5, 6, 7, 8, 9, 10, 11, 12, 13, 14, 15, 16, 17, 18, 19, 20, 21, 22, 23, 24] (wr := [(h0, .inr (5, [.ref q5, .ref q16, .ref q27, .ref q46, .ref q65, .null, .int (iI 0), .int (iI 0), .int (iI 0)])), (q5, .inr (2, [.ref q9_7, .ref q9_15, .ref q9_23, .ref q9_31, .ref q9_39, .ref q9_47, .ref q9_55, .ref q9_63, .int (iI 0), .int (iI 0), .int (iI 0)])), (q9_7, zA w false 8), (q9_15, zA w false 8), (q9_23, zA w false 8), (q9_31, zA w false 16), (q9_39, zA w false 16), (q9_47, zA w false 8), (q9_55, zA w true 8), (q9_63, zA w false 8), (q16, .inr (0, [.ref q20_7, .ref q20_15, .ref q20_23, .int (iI (σ20 56 0)), .int (iI (σ20 57 0))])), (q20_7, .inl (w.2.1 true, 9, .inl (fun k => iI (σ20 11 (k : Int))))), (q20_15, .inl (w.2.1 true, 9, .inl (fun k => iI (σ20 12 (k : Int))))), (q20_23, .inl (w.2.1 false, 81, .inl (fun k => iI (σ20 13 (k : Int))))), (q27, .inr (1, [.ref q5, .ref q16, .ref q39_7, .ref q39_15, .int (iI 0)])), (q39_7, zA w false 8), (q39_15, zA w false 8), (q46, .inr (3, [.ref q5, .ref q16, .ref q58_7, .ref q58_15, .ref q58_23, .ref q58_31, .ref q58_39, .int (iI 0), .int (iI 0)])), (q58_7, zA w false 8), (q58_15, zA w false 8), (q58_23, zA w false 8), (q58_31, zA w false 16), (q58_39, zA w false 64), (q65, .inr (4, [.ref q5, .ref q73_8])), (q73_8, zA w false 488)]) rfl rfl rfl (by decide) (by decide) (by decide) ⟨Nat.le_of_ble_eq_true rfl, Nat.le_of_ble_eq_true rfl⟩ (Nat.le_of_ble_eq_true rfl) ⟨Nat.le_of_ble_eq_true rfl, Nat.le_of_ble_eq_true rfl⟩ (fun w1 hw1 => ?_)
  obtain ⟨q88_8, rfl⟩ := hw1
  refine i_putF hX dX5_init_91 (q0 := 0) (ci := 5) (k := 5) (ws1 := [(h0, .inr (5, [.ref q5, .ref q16, .ref q27, .ref q46, .ref q65, .ref q80, .int (iI 0), .int (iI 0), .int (iI 0)])), (q5, .inr (2, [.ref q9_7, .ref q9_15, .ref q9_23, .ref q9_31, .ref q9_39, .ref q9_47, .ref q9_55, .ref q9_63, .int (iI 0), .int (iI 0), .int (iI 0)])), (q9_7, zA w false 8), (q9_15, zA w false 8), (q9_23, zA w false 8), (q9_31, zA w false 16), (q9_39, zA w false 16), (q9_47, zA w false 8), (q9_55, zA w true 8), (q9_63, zA w false 8), (q16, .inr (0, [.ref q20_7, .ref q20_15, .ref q20_23, .int (iI (σ20 56 0)), .int (iI (σ20 57 0))])), (q20_7, .inl (w.2.1 true, 9, .inl (fun k => iI (σ20 11 (k : Int))))), (q20_15, .inl (w.2.1 true, 9, .inl (fun k => iI (σ20 12 (k : Int))))), (q20_23, .inl (w.2.1 false, 81, .inl (fun k => iI (σ20 13 (k : Int))))), (q27, .inr (1, [.ref q5, .ref q16, .ref q39_7, .ref q39_15, .int (iI 0)])), (q39_7, zA w false 8), (q39_15, zA w false 8), (q46, .inr (3, [.ref q5, .ref q16, .ref q58_7, .ref q58_15, .ref q58_23, .ref q58_31, .ref q58_39, .int (iI 0), .int (iI 0)])), (q58_7, zA w false 8), (q58_15, zA w false 8), (q58_23, zA w false 8), (q58_31, zA w false 16), (q58_39, zA w false 64), (q65, .inr (4, [.ref q5, .ref q73_8])), (q73_8, zA w false 488), (q80, .inr (4, [.ref q5, .ref q88_8])), (q88_8, zA w false 488)]) rfl rfl in_X5 tyX5 tyX5_ok nmX5 (by decide) lk_RX5_48 rfl rfl (tyX5_ok 5 (by decide)) rfl rfl (Nat.le_of_ble_eq_true rfl) rfl ?_
  exact i_ret hX dX5_init_94 ⟨q5, q9_7, q9_15, q9_23, q9_31, q9_39, q9_47, q9_55, q9_63, q16, q20_7, q20_15, q20_23, q27, q39_7, q39_15, q46, q58_7, q58_15, q58_23, q58_31, q58_39, q65, q73_8, q80, q88_8, σ20, rfl, f20⟩ rfl rfl
theorem dX6_init_0 : decode cX6_init 0 = .ok (.aload_n 0, 1) := by decide +kernel
theorem dX6_init_1 : decode cX6_init 1 = .ok (.invokespecial 1, 3) := by decide +kernel
theorem dX6_init_4 : decode cX6_init 4 = .ok (.aload_n 0, 1) := by decide +kernel
theorem dX6_init_5 : decode cX6_init 5 = .ok (.bipush 8, 2) := by decide +kernel
theorem dX6_init_7 : decode cX6_init 7 = .ok (.newarray .int, 2) := by decide +kernel
theorem dX6_init_9 : decode cX6_init 9 = .ok (.putfield 7, 3) := by decide +kernel
theorem dX6_init_12 : decode cX6_init 12 = .ok (.aload_n 0, 1) := by decide +kernel
theorem dX6_init_13 : decode cX6_init 13 = .ok (.bipush 16, 2) := by decide +kernel
theorem dX6_init_15 : decode cX6_init 15 = .ok (.newarray .int, 2) := by decide +kernel
theorem dX6_init_17 : decode cX6_init 17 = .ok (.putfield 13, 3) := by decide +kernel
theorem dX6_init_20 : decode cX6_init 20 = .ok (.aload_n 0, 1) := by decide +kernel
theorem dX6_init_21 : decode cX6_init 21 = .ok (.bipush 16, 2) := by decide +kernel
theorem dX6_init_23 : decode cX6_init 23 = .ok (.newarray .int, 2) := by decide +kernel
theorem dX6_init_25 : decode cX6_init 25 = .ok (.putfield 16, 3) := by decide +kernel
theorem dX6_init_28 : decode cX6_init 28 = .ok (.aload_n 0, 1) := by decide +kernel
theorem dX6_init_29 : decode cX6_init 29 = .ok (.bipush 8, 2) := by decide +kernel
theorem dX6_init_31 : decode cX6_init 31 = .ok (.newarray .int, 2) := by decide +kernel
theorem dX6_init_33 : decode cX6_init 33 = .ok (.putfield 19, 3) := by decide +kernel
theorem dX6_init_36 : decode cX6_init 36 = .ok (.aload_n 0, 1) := by decide +kernel
theorem dX6_init_37 : decode cX6_init 37 = .ok (.bipush 8, 2) := by decide +kernel
theorem dX6_init_39 : decode cX6_init 39 = .ok (.newarray .int, 2) := by decide +kernel
theorem dX6_init_41 : decode cX6_init 41 = .ok (.putfield 22, 3) := by decide +kernel
theorem dX6_init_44 : decode cX6_init 44 = .ok (.aload_n 0, 1) := by decide +kernel
theorem dX6_init_45 : decode cX6_init 45 = .ok (.bipush 8, 2) := by decide +kernel
theorem dX6_init_47 : decode cX6_init 47 = .ok (.newarray .boolean, 2) := by decide +kernel
theorem dX6_init_49 : decode cX6_init 49 = .ok (.putfield 25, 3) := by decide +kernel
theorem dX6_init_52 : decode cX6_init 52 = .ok (.aload_n 0, 1) := by decide +kernel
theorem dX6_init_53 : decode cX6_init 53 = .ok (.sipush 488, 3) := by decide +kernel
theorem dX6_init_56 : decode cX6_init 56 = .ok (.newarray .int, 2) := by decide +kernel
theorem dX6_init_58 : decode cX6_init 58 = .ok (.putfield 29, 3) := by decide +kernel
theorem dX6_init_61 : decode cX6_init 61 = .ok (.aload_n 0, 1) := by decide +kernel
theorem dX6_init_62 : decode cX6_init 62 = .ok (.iconst 2, 1) := by decide +kernel
theorem dX6_init_63 : decode cX6_init 63 = .ok (.putfield 32, 3) := by decide +kernel
theorem dX6_init_66 : decode cX6_init 66 = .ok (.aload_n 0, 1) := by decide +kernel
theorem dX6_init_67 : decode cX6_init 67 = .ok (.iconst 2, 1) := by decide +kernel
theorem dX6_init_68 : decode cX6_init 68 = .ok (.putfield 36, 3) := by decide +kernel
theorem dX6_init_71 : decode cX6_init 71 = .ok (.aload_n 0, 1) := by decide +kernel
theorem dX6_init_72 : decode cX6_init 72 = .ok (.bipush 9, 2) := by decide +kernel
theorem dX6_init_74 : decode cX6_init 74 = .ok (.newarray .boolean, 2) := by decide +kernel
theorem dX6_init_76 : decode cX6_init 76 = .ok (.putfield 39, 3) := by decide +kernel
theorem dX6_init_79 : decode cX6_init 79 = .ok (.aload_n 0, 1) := by decide +kernel
theorem dX6_init_80 : decode cX6_init 80 = .ok (.bipush 9, 2) := by decide +kernel
theorem dX6_init_82 : decode cX6_init 82 = .ok (.newarray .boolean, 2) := by decide +kernel
theorem dX6_init_84 : decode cX6_init 84 = .ok (.putfield 42, 3) := by decide +kernel
theorem dX6_init_87 : decode cX6_init 87 = .ok (.aload_n 0, 1) := by decide +kernel
theorem dX6_init_88 : decode cX6_init 88 = .ok (.bipush 9, 2) := by decide +kernel
theorem dX6_init_90 : decode cX6_init 90 = .ok (.newarray .int, 2) := by decide +kernel
theorem dX6_init_92 : decode cX6_init 92 = .ok (.putfield 45, 3) := by decide +kernel
theorem dX6_init_95 : decode cX6_init 95 = .ok (.aload_n 0, 1) := by decide +kernel
theorem dX6_init_96 : decode cX6_init 96 = .ok (.bipush 8, 2) := by decide +kernel
theorem dX6_init_98 : decode cX6_init 98 = .ok (.newarray .int, 2) := by decide +kernel
theorem dX6_init_100 : decode cX6_init 100 = .ok (.putfield 48, 3) := by decide +kernel
theorem dX6_init_103 : decode cX6_init 103 = .ok (.aload_n 0, 1) := by decide +kernel
theorem dX6_init_104 : decode cX6_init 104 = .ok (.bipush 8, 2) := by decide +kernel
theorem dX6_init_106 : decode cX6_init 106 = .ok (.newarray .int, 2) := by decide +kernel
theorem dX6_init_108 : decode cX6_init 108 = .ok (.putfield 51, 3) := by decide +kernel
theorem dX6_init_111 : decode cX6_init 111 = .ok (.aload_n 0, 1) := by decide +kernel
theorem dX6_init_112 : decode cX6_init 112 = .ok (.bipush 8, 2) := by decide +kernel
theorem dX6_init_114 : decode cX6_init 114 = .ok (.newarray .int, 2) := by decide +kernel
theorem dX6_init_116 : decode cX6_init 116 = .ok (.putfield 54, 3) := by decide +kernel
theorem dX6_init_119 : decode cX6_init 119 = .ok (.aload_n 0, 1) := by decide +kernel
theorem dX6_init_120 : decode cX6_init 120 = .ok (.bipush 8, 2) := by decide +kernel
theorem dX6_init_122 : decode cX6_init 122 = .ok (.newarray .int, 2) := by decide +kernel
theorem dX6_init_124 : decode cX6_init 124 = .ok (.putfield 57, 3) := by decide +kernel
theorem dX6_init_127 : decode cX6_init 127 = .ok (.aload_n 0, 1) := by decide +kernel
theorem dX6_init_128 : decode cX6_init 128 = .ok (.bipush 8, 2) := by decide +kernel
theorem dX6_init_130 : decode cX6_init 130 = .ok (.newarray .int, 2) := by decide +kernel
theorem dX6_init_132 : decode cX6_init 132 = .ok (.putfield 60, 3) := by decide +kernel
theorem dX6_init_135 : decode cX6_init 135 = .ok (.aload_n 0, 1) := by decide +kernel
theorem dX6_init_136 : decode cX6_init 136 = .ok (.bipush 8, 2) := by decide +kernel
theorem dX6_init_138 : decode cX6_init 138 = .ok (.newarray .int, 2) := by decide +kernel
theorem dX6_init_140 : decode cX6_init 140 = .ok (.putfield 63, 3) := by decide +kernel
theorem dX6_init_143 : decode cX6_init 143 = .ok (.aload_n 0, 1) := by decide +kernel
theorem dX6_init_144 : decode cX6_init 144 = .ok (.bipush 81, 2) := by decide +kernel
theorem dX6_init_146 : decode cX6_init 146 = .ok (.newarray .int, 2) := by decide +kernel
theorem dX6_init_148 : decode cX6_init 148 = .ok (.putfield 66, 3) := by decide +kernel
theorem dX6_init_151 : decode cX6_init 151 = .ok (.aload_n 0, 1) := by decide +kernel
theorem dX6_init_152 : decode cX6_init 152 = .ok (.invokevirtual 69, 3) := by decide +kernel
theorem dX6_init_155 : decode cX6_init 155 = .ok (.return_, 1) := by decide +kernel
set_option maxRecDepth 20000 in
set_option maxHeartbeats 4000000 in
theorem c_X6_init (l : Launch) (w : WT) (h0 : Nat) : CI l w yX6_init cX6_init 1 1 21 17 708 [.ref h0] [(h0, .inr (6, [.null, .null, .null, .null, .null, .int (iI 0), .int (iI 0), .int (iI 0), .int (iI 0), .null, .null, .int (iI 0), .int (iI 0), .null, .null, .null, .null, .null, .null, .int (iI 0), .null, .null, .null, .null]))] (fun ws => ∃ (q7 q15 q23 q31 q39 q47 q56 q74 q82 q90 q98 q106 q114 q122 q130 q138 q146 : Nat) (σ1 : MM), ws = [(h0, .inr (6, [.ref q7, .ref q15, .ref q23, .ref q31, .ref q39, .int (iI (σ1 61 0)), .int (iI (σ1 62 0)), .int (iI (σ1 63 0)), .int (iI (σ1 64 0)), .ref q47, .ref q56, .int (iI (σ1 65 0)), .int (iI (σ1 66 0)), .ref q74, .ref q82, .ref q90, .ref q98, .ref q106, .ref q114, .int (iI (σ1 67 0)), .ref q122, .ref q130, .ref q138, .ref q146])), (q7, .inl (w.2.1 false, 8, .inl (fun k => iI (σ1 28 (k : Int))))), (q15, .inl (w.2.1 false, 16, .inl (fun k => iI (σ1 29 (k : Int))))), (q23, .inl (w.2.1 false, 16, .inl (fun k => iI (σ1 30 (k : Int))))), (q31, .inl (w.2.1 false, 8, .inl (fun k => iI (σ1 31 (k : Int))))), (q39, .inl (w.2.1 false, 8, .inl (fun k => iI (σ1 32 (k : Int))))), (q47, .inl (w.2.1 true, 8, .inl (fun k => iI (σ1 33 (k : Int))))), (q56, .inl (w.2.1 false, 488, .inl (fun k => iI (σ1 34 (k : Int))))), (q74, .inl (w.2.1 true, 9, .inl (fun k => iI (σ1 35 (k : Int))))), (q82, .inl (w.2.1 true, 9, .inl (fun k => iI (σ1 36 (k : Int))))), (q90, .inl (w.2.1 false, 9, .inl (fun k => iI (σ1 37 (k : Int))))), (q98, .inl (w.2.1 false, 8, .inl (fun k => iI (σ1 38 (k : Int))))), (q106, .inl (w.2.1 false, 8, .inl (fun k => iI (σ1 39 (k : Int))))), (q114, .inl (w.2.1 false, 8, .inl (fun k => iI (σ1 40 (k : Int))))), (q122, .inl (w.2.1 false, 8, .inl (fun k => iI (σ1 41 (k : Int))))), (q130, .inl (w.2.1 false, 8, .inl (fun k => iI (σ1 42 (k : Int))))), (q138, .inl (w.2.1 false, 8, .inl (fun k => iI (σ1 43 (k : Int))))), (q146, .inl (w.2.1 false, 81, .inl (fun k => iI (σ1 44 (k : Int)))))] ∧ (FM σ1 ∧ Mod [35, 36] σM0 σ1) ∧ Bd bdL σ1) := by
  refine CI.of 0 [some (.ref h0)] (by decide +kernel) rfl (by simp [lg_sl, Value.category]) rfl (fun GI hX => ?_)
  refine i_aload_n hX dX6_init_0 rfl ?_
  refine i_obj hX dX6_init_1 lo_X6 lo_i lo_c (Nat.le_of_ble_eq_true rfl) (Nat.le_of_ble_eq_true rfl) ?_
  refine i_aload_n hX dX6_init_4 rfl ?_
  refine i_bipush hX dX6_init_5 (by decide) ?_
  refine i_newI hX (n := 8) rfl dX6_init_7 (Nat.le_of_ble_eq_true rfl) ar_I (Nat.le_of_ble_eq_true rfl) (Nat.le_of_ble_eq_true rfl) (fun q7 => ?_)
  refine i_putF hX dX6_init_9 (q0 := 0) (ci := 6) (k := 0) (ws1 := [(h0, .inr (6, [.ref q7, .null, .null, .null, .null, .int (iI 0), .int (iI 0), .int (iI 0), .int (iI 0), .null, .null, .int (iI 0), .int (iI 0), .null, .null, .null, .null, .null, .null, .int (iI 0), .null, .null, .null, .null])), (q7, zA w false 8)]) rfl rfl in_X6 tyX6 tyX6_ok nmX6 (by decide) lk_RX6_7 rfl rfl (tyX6_ok 0 (by decide)) rfl rfl (Nat.le_of_ble_eq_true rfl) rfl ?_
  refine i_aload_n hX dX6_init_12 rfl ?_
  refine i_bipush hX dX6_init_13 (by decide) ?_
  refine i_newI hX (n := 16) rfl dX6_init_15 (Nat.le_of_ble_eq_true rfl) ar_I (Nat.le_of_ble_eq_true rfl) (Nat.le_of_ble_eq_true rfl) (fun q15 => ?_)
  refine i_putF hX dX6_init_17 (q0 := 0) (ci := 6) (k := 1) (ws1 := [(h0, .inr (6, [.ref q7, .ref q15, .null, .null, .null, .int (iI 0), .int (iI 0), .int (iI 0), .int (iI 0), .null, .null, .int (iI 0), .int (iI 0), .null, .null, .null, .null, .null, .null, .int (iI 0), .null, .null, .null, .null])), (q7, zA w false 8), (q15, zA w false 16)]) rfl rfl in_X6 tyX6 tyX6_ok nmX6 (by decide) lk_RX6_13 rfl rfl (tyX6_ok 1 (by decide)) rfl rfl (Nat.le_of_ble_eq_true rfl) rfl ?_
  refine i_aload_n hX dX6_init_20 rfl ?_
  refine i_bipush hX dX6_init_21 (by decide) ?_
  refine i_newI hX (n := 16) rfl dX6_init_23 (Nat.le_of_ble_eq_true rfl) ar_I (Nat.le_of_ble_eq_true rfl) (Nat.le_of_ble_eq_true rfl) (fun q23 => ?_)
  refine i_putF hX dX6_init_25 (q0 := 0) (ci := 6) (k := 2) (ws1 := [(h0, .inr (6, [.ref q7, .ref q15, .ref q23, .null, .null, .int (iI 0), .int (iI 0), .int (iI 0), .int (iI 0), .null, .null, .int (iI 0), .int (iI 0), .null, .null, .null, .null, .null, .null, .int (iI 0), .null, .null, .null, .null])), (q7, zA w false 8), (q15, zA w false 16), (q23, zA w false 16)]) rfl rfl in_X6 tyX6 tyX6_ok nmX6 (by decide) lk_RX6_16 rfl rfl (tyX6_ok 2 (by decide)) rfl rfl (Nat.le_of_ble_eq_true rfl) rfl ?_
  refine i_aload_n hX dX6_init_28 rfl ?_
  refine i_bipush hX dX6_init_29 (by decide) ?_
  refine i_newI hX (n := 8) rfl dX6_init_31 (Nat.le_of_ble_eq_true rfl) ar_I (Nat.le_of_ble_eq_true rfl) (Nat.le_of_ble_eq_true rfl) (fun q31 => ?_)
  refine i_putF hX dX6_init_33 (q0 := 0) (ci := 6) (k := 3) (ws1 := [(h0, .inr (6, [.ref q7, .ref q15, .ref q23, .ref q31, .null, .int (iI 0), .int (iI 0), .int (iI 0), .int (iI 0), .null, .null, .int (iI 0), .int (iI 0), .null, .null, .null, .null, .null, .null, .int (iI 0), .null, .null, .null, .null])), (q7, zA w false 8), (q15, zA w false 16), (q23, zA w false 16), (q31, zA w false 8)]) rfl rfl in_X6 tyX6 tyX6_ok nmX6 (by decide) lk_RX6_19 rfl rfl (tyX6_ok 3 (by decide)) rfl rfl (Nat.le_of_ble_eq_true rfl) rfl ?_
  refine i_aload_n hX dX6_init_36 rfl ?_
  refine i_bipush hX dX6_init_37 (by decide) ?_
  refine i_newI hX (n := 8) rfl dX6_init_39 (Nat.le_of_ble_eq_true rfl) ar_I (Nat.le_of_ble_eq_true rfl) (Nat.le_of_ble_eq_true rfl) (fun q39 => ?_)
  refine i_putF hX dX6_init_41 (q0 := 0) (ci := 6) (k := 4) (ws1 := [(h0, .inr (6, [.ref q7, .ref q15, .ref q23, .ref q31, .ref q39, .int (iI 0), .int (iI 0), .int (iI 0), .int (iI 0), .null, .null, .int (iI 0), .int (iI 0), .null, .null, .null, .null, .null, .null, .int (iI 0), .null, .null, .null, .null])), (q7, zA w false 8), (q15, zA w false 16), (q23, zA w false 16), (q31, zA w false 8), (q39, zA w false 8)]) rfl rfl in_X6 tyX6 tyX6_ok nmX6 (by decide) lk_RX6_22 rfl rfl (tyX6_ok 4 (by decide)) rfl rfl (Nat.le_of_ble_eq_true rfl) rfl ?_
  refine i_aload_n hX dX6_init_44 rfl ?_
  refine i_bipush hX dX6_init_45 (by decide) ?_
  refine i_newZ hX (n := 8) rfl dX6_init_47 (Nat.le_of_ble_eq_true rfl) ar_Z (Nat.le_of_ble_eq_true rfl) (Nat.le_of_ble_eq_true rfl) (fun q47 => ?_)
  refine i_putF hX dX6_init_49 (q0 := 0) (ci := 6) (k := 9) (ws1 := [(h0, .inr (6, [.ref q7, .ref q15, .ref q23, .ref q31, .ref q39, .int (iI 0), .int (iI 0), .int (iI 0), .int (iI 0), .ref q47, .null, .int (iI 0), .int (iI 0), .null, .null, .null, .null, .null, .null, .int (iI 0), .null, .null, .null, .null])), (q7, zA w false 8), (q15, zA w false 16), (q23, zA w false 16), (q31, zA w false 8), (q39, zA w false 8), (q47, zA w true 8)]) rfl rfl in_X6 tyX6 tyX6_ok nmX6 (by decide) lk_RX6_25 rfl rfl (tyX6_ok 9 (by decide)) rfl rfl (Nat.le_of_ble_eq_true rfl) rfl ?_
  refine i_aload_n hX dX6_init_52 rfl ?_
  refine i_sipush hX dX6_init_53 (by decide) ?_
  refine i_newI hX (n := 488) rfl dX6_init_56 (Nat.le_of_ble_eq_true rfl) ar_I (Nat.le_of_ble_eq_true rfl) (Nat.le_of_ble_eq_true rfl) (fun q56 => ?_)
  refine i_putF hX dX6_init_58 (q0 := 0) (ci := 6) (k := 10) (ws1 := [(h0, .inr (6, [.ref q7, .ref q15, .ref q23, .ref q31, .ref q39, .int (iI 0), .int (iI 0), .int (iI 0), .int (iI 0), .ref q47, .ref q56, .int (iI 0), .int (iI 0), .null, .null, .null, .null, .null, .null, .int (iI 0), .null, .null, .null, .null])), (q7, zA w false 8), (q15, zA w false 16), (q23, zA w false 16), (q31, zA w false 8), (q39, zA w false 8), (q47, zA w true 8), (q56, zA w false 488)]) rfl rfl in_X6 tyX6 tyX6_ok nmX6 (by decide) lk_RX6_29 rfl rfl (tyX6_ok 10 (by decide)) rfl rfl (Nat.le_of_ble_eq_true rfl) rfl ?_
  refine i_aload_n hX dX6_init_61 rfl ?_
  refine i_iconst hX dX6_init_62 ?_
  refine i_put hX dX6_init_63 (q0 := 0) (ci := 6) (k := 11) (ws1 := [(h0, .inr (6, [.ref q7, .ref q15, .ref q23, .ref q31, .ref q39, .int (iI 0), .int (iI 0), .int (iI 0), .int (iI 0), .ref q47, .ref q56, .int (iI 2), .int (iI 0), .null, .null, .null, .null, .null, .null, .int (iI 0), .null, .null, .null, .null])), (q7, zA w false 8), (q15, zA w false 16), (q23, zA w false 16), (q31, zA w false 8), (q39, zA w false 8), (q47, zA w true 8), (q56, zA w false 488)]) rfl rfl in_X6 tyX6 tyX6_ok nmX6 (by decide) lk_RX6_32 rfl (tyX6_ok 11 (by decide)) rfl rfl (Nat.le_of_ble_eq_true rfl) rfl ?_
  refine i_aload_n hX dX6_init_66 rfl ?_
  refine i_iconst hX dX6_init_67 ?_
  refine i_put hX dX6_init_68 (q0 := 0) (ci := 6) (k := 12) (ws1 := [(h0, .inr (6, [.ref q7, .ref q15, .ref q23, .ref q31, .ref q39, .int (iI 0), .int (iI 0), .int (iI 0), .int (iI 0), .ref q47, .ref q56, .int (iI 2), .int (iI 2), .null, .null, .null, .null, .null, .null, .int (iI 0), .null, .null, .null, .null])), (q7, zA w false 8), (q15, zA w false 16), (q23, zA w false 16), (q31, zA w false 8), (q39, zA w false 8), (q47, zA w true 8), (q56, zA w false 488)]) rfl rfl in_X6 tyX6 tyX6_ok nmX6 (by decide) lk_RX6_36 rfl (tyX6_ok 12 (by decide)) rfl rfl (Nat.le_of_ble_eq_true rfl) rfl ?_
  refine i_aload_n hX dX6_init_71 rfl ?_
  refine i_bipush hX dX6_init_72 (by decide) ?_
  refine i_newZ hX (n := 9) rfl dX6_init_74 (Nat.le_of_ble_eq_true rfl) ar_Z (Nat.le_of_ble_eq_true rfl) (Nat.le_of_ble_eq_true rfl) (fun q74 => ?_)
  refine i_putF hX dX6_init_76 (q0 := 0) (ci := 6) (k := 13) (ws1 := [(h0, .inr (6, [.ref q7, .ref q15, .ref q23, .ref q31, .ref q39, .int (iI 0), .int (iI 0), .int (iI 0), .int (iI 0), .ref q47, .ref q56, .int (iI 2), .int (iI 2), .ref q74, .null, .null, .null, .null, .null, .int (iI 0), .null, .null, .null, .null])), (q7, zA w false 8), (q15, zA w false 16), (q23, zA w false 16), (q31, zA w false 8), (q39, zA w false 8), (q47, zA w true 8), (q56, zA w false 488), (q74, zA w true 9)]) rfl rfl in_X6 tyX6 tyX6_ok nmX6 (by decide) lk_RX6_39 rfl rfl (tyX6_ok 13 (by decide)) rfl rfl (Nat.le_of_ble_eq_true rfl) rfl ?_
  refine i_aload_n hX dX6_init_79 rfl ?_
  refine i_bipush hX dX6_init_80 (by decide) ?_
  refine i_newZ hX (n := 9) rfl dX6_init_82 (Nat.le_of_ble_eq_true rfl) ar_Z (Nat.le_of_ble_eq_true rfl) (Nat.le_of_ble_eq_true rfl) (fun q82 => ?_)
  refine i_putF hX dX6_init_84 (q0 := 0) (ci := 6) (k := 14) (ws1 := [(h0, .inr (6, [.ref q7, .ref q15, .ref q23, .ref q31, .ref q39, .int (iI 0), .int (iI 0), .int (iI 0), .int (iI 0), .ref q47, .ref q56, .int (iI 2), .int (iI 2), .ref q74, .ref q82, .null, .null, .null, .null, .int (iI 0), .null, .null, .null, .null])), (q7, zA w false 8), (q15, zA w false 16), (q23, zA w false 16), (q31, zA w false 8), (q39, zA w false 8), (q47, zA w true 8), (q56, zA w false 488), (q74, zA w true 9), (q82, zA w true 9)]) rfl rfl in_X6 tyX6 tyX6_ok nmX6 (by decide) lk_RX6_42 rfl rfl (tyX6_ok 14 (by decide)) rfl rfl (Nat.le_of_ble_eq_true rfl) rfl ?_
  refine i_aload_n hX dX6_init_87 rfl ?_
  refine i_bipush hX dX6_init_88 (by decide) ?_
  refine i_newI hX (n := 9) rfl dX6_init_90 (Nat.le_of_ble_eq_true rfl) ar_I (Nat.le_of_ble_eq_true rfl) (Nat.le_of_ble_eq_true rfl) (fun q90 => ?_)
  refine i_putF hX dX6_init_92 (q0 := 0) (ci := 6) (k := 15) (ws1 := [(h0, .inr (6, [.ref q7, .ref q15, .ref q23, .ref q31, .ref q39, .int (iI 0), .int (iI 0), .int (iI 0), .int (iI 0), .ref q47, .ref q56, .int (iI 2), .int (iI 2), .ref q74, .ref q82, .ref q90, .null, .null, .null, .int (iI 0), .null, .null, .null, .null])), (q7, zA w false 8), (q15, zA w false 16), (q23, zA w false 16), (q31, zA w false 8), (q39, zA w false 8), (q47, zA w true 8), (q56, zA w false 488), (q74, zA w true 9), (q82, zA w true 9), (q90, zA w false 9)]) rfl rfl in_X6 tyX6 tyX6_ok nmX6 (by decide) lk_RX6_45 rfl rfl (tyX6_ok 15 (by decide)) rfl rfl (Nat.le_of_ble_eq_true rfl) rfl ?_
  refine i_aload_n hX dX6_init_95 rfl ?_
  refine i_bipush hX dX6_init_96 (by decide) ?_
  refine i_newI hX (n := 8) rfl dX6_init_98 (Nat.le_of_ble_eq_true rfl) ar_I (Nat.le_of_ble_eq_true rfl) (Nat.le_of_ble_eq_true rfl) (fun q98 => ?_)
  refine i_putF hX dX6_init_100 (q0 := 0) (ci := 6) (k := 16) (ws1 := [(h0, .inr (6, [.ref q7, .ref q15, .ref q23, .ref q31, .ref q39, .int (iI 0), .int (iI 0), .int (iI 0), .int (iI 0), .ref q47, .ref q56, .int (iI 2), .int (iI 2), .ref q74, .ref q82, .ref q90, .ref q98, .null, .null, .int (iI 0), .null, .null, .null, .null])), (q7, zA w false 8), (q15, zA w false 16), (q23, zA w false 16), (q31, zA w false 8), (q39, zA w false 8), (q47, zA w true 8), (q56, zA w false 488), (q74, zA w true 9), (q82, zA w true 9), (q90, zA w false 9), (q98, zA w false 8)]) rfl rfl in_X6 tyX6 tyX6_ok nmX6 (by decide) lk_RX6_48 rfl rfl (tyX6_ok 16 (by decide)) rfl rfl (Nat.le_of_ble_eq_true rfl) rfl ?_
  refine i_aload_n hX dX6_init_103 rfl ?_
  refine i_bipush hX dX6_init_104 (by decide) ?_
  refine i_newI hX (n := 8) rfl dX6_init_106 (Nat.le_of_ble_eq_true rfl) ar_I (Nat.le_of_ble_eq_true rfl) (Nat.le_of_ble_eq_true rfl) (fun q106 => ?_)
  refine i_putF hX dX6_init_108 (q0 := 0) (ci := 6) (k := 17) (ws1 := [(h0, .inr (6, [.ref q7, .ref q15, .ref q23, .ref q31, .ref q39, .int (iI 0), .int (iI 0), .int (iI 0), .int (iI 0), .ref q47, .ref q56, .int (iI 2), .int (iI 2), .ref q74, .ref q82, .ref q90, .ref q98, .ref q106, .null, .int (iI 0), .null, .null, .null, .null])), (q7, zA w false 8), (q15, zA w false 16), (q23, zA w false 16), (q31, zA w false 8), (q39, zA w false 8), (q47, zA w true 8), (q56, zA w false 488), (q74, zA w true 9), (q82, zA w true 9), (q90, zA w false 9), (q98, zA w false 8), (q106, zA w false 8)]) rfl rfl in_X6 tyX6 tyX6_ok nmX6 (by decide) lk_RX6_51 rfl rfl (tyX6_ok 17 (by decide)) rfl rfl (Nat.le_of_ble_eq_true rfl) rfl ?_
  refine i_aload_n hX dX6_init_111 rfl ?_
  refine i_bipush hX dX6_init_112 (by decide) ?_
  refine i_newI hX (n := 8) rfl dX6_init_114 (Nat.le_of_ble_eq_true rfl) ar_I (Nat.le_of_ble_eq_true rfl) (Nat.le_of_ble_eq_true rfl) (fun q114 => ?_)
  refine i_putF hX dX6_init_116 (q0 := 0) (ci := 6) (k := 18) (ws1 := [(h0, .inr (6, [.ref q7, .ref q15, .ref q23, .ref q31, .ref q39, .int (iI 0), .int (iI 0), .int (iI 0), .int (iI 0), .ref q47, .ref q56, .int (iI 2), .int (iI 2), .ref q74, .ref q82, .ref q90, .ref q98, .ref q106, .ref q114, .int (iI 0), .null, .null, .null, .null])), (q7, zA w false 8), (q15, zA w false 16), (q23, zA w false 16), (q31, zA w false 8), (q39, zA w false 8), (q47, zA w true 8), (q56, zA w false 488), (q74, zA w true 9), (q82, zA w true 9), (q90, zA w false 9), (q98, zA w false 8), (q106, zA w false 8), (q114, zA w false 8)]) rfl rfl in_X6 tyX6 tyX6_ok nmX6 (by decide) lk_RX6_54 rfl rfl (tyX6_ok 18 (by decide)) rfl rfl (Nat.le_of_ble_eq_true rfl) rfl ?_
  refine i_aload_n hX dX6_init_119 rfl ?_
  refine i_bipush hX dX6_init_120 (by decide) ?_
  refine i_newI hX (n := 8) rfl dX6_init_122 (Nat.le_of_ble_eq_true rfl) ar_I (Nat.le_of_ble_eq_true rfl) (Nat.le_of_ble_eq_true rfl) (fun q122 => ?_)
  refine i_putF hX dX6_init_124 (q0 := 0) (ci := 6) (k := 20) (ws1 := [(h0, .inr (6, [.ref q7, .ref q15, .ref q23, .ref q31, .ref q39, .int (iI 0), .int (iI 0), .int (iI 0), .int (iI 0), .ref q47, .ref q56, .int (iI 2), .int (iI 2), .ref q74, .ref q82, .ref q90, .ref q98, .ref q106, .ref q114, .int (iI 0), .ref q122, .null, .null, .null])), (q7, zA w false 8), (q15, zA w false 16), (q23, zA w false 16), (q31, zA w false 8), (q39, zA w false 8), (q47, zA w true 8), (q56, zA w false 488), (q74, zA w true 9), (q82, zA w true 9), (q90, zA w false 9), (q98, zA w false 8), (q106, zA w false 8), (q114, zA w false 8), (q122, zA w false 8)]) rfl rfl in_X6 tyX6 tyX6_ok nmX6 (by decide) lk_RX6_57 rfl rfl (tyX6_ok 20 (by decide)) rfl rfl (Nat.le_of_ble_eq_true rfl) rfl ?_
  refine i_aload_n hX dX6_init_127 rfl ?_
  refine i_bipush hX dX6_init_128 (by decide) ?_
  refine i_newI hX (n := 8) rfl dX6_init_130 (Nat.le_of_ble_eq_true rfl) ar_I (Nat.le_of_ble_eq_true rfl) (Nat.le_of_ble_eq_true rfl) (fun q130 => ?_)
  refine i_putF hX dX6_init_132 (q0 := 0) (ci := 6) (k := 21) (ws1 := [(h0, .inr (6, [.ref q7, .ref q15, .ref q23, .ref q31, .ref q39, .int (iI 0), .int (iI 0), .int (iI 0), .int (iI 0), .ref q47, .ref q56, .int (iI 2), .int (iI 2), .ref q74, .ref q82, .ref q90, .ref q98, .ref q106, .ref q114, .int (iI 0), .ref q122, .ref q130, .null, .null])), (q7, zA w false 8), (q15, zA w false 16), (q23, zA w false 16), (q31, zA w false 8), (q39, zA w false 8), (q47, zA w true 8), (q56, zA w false 488), (q74, zA w true 9), (q82, zA w true 9), (q90, zA w false 9), (q98, zA w false 8), (q106, zA w false 8), (q114, zA w false 8), (q122, zA w false 8), (q130, zA w false 8)]) rfl rfl in_X6 tyX6 tyX6_ok nmX6 (by decide) lk_RX6_60 rfl rfl (tyX6_ok 21 (by decide)) rfl rfl (Nat.le_of_ble_eq_true rfl) rfl ?_
  refine i_aload_n hX dX6_init_135 rfl ?_
  refine i_bipush hX dX6_init_136 (by decide) ?_
  refine i_newI hX (n := 8) rfl dX6_init_138 (Nat.le_of_ble_eq_true rfl) ar_I (Nat.le_of_ble_eq_true rfl) (Nat.le_of_ble_eq_true rfl) (fun q138 => ?_)
  refine i_putF hX dX6_init_140 (q0 := 0) (ci := 6) (k := 22) (ws1 := [(h0, .inr (6, [.ref q7, .ref q15, .ref q23, .ref q31, .ref q39, .int (iI 0), .int (iI 0), .int (iI 0), .int (iI 0), .ref q47, .ref q56, .int (iI 2), .int (iI 2), .ref q74, .ref q82, .ref q90, .ref q98, .ref q106, .ref q114, .int (iI 0), .ref q122, .ref q130, .ref q138, .null])), (q7, zA w false 8), (q15, zA w false 16), (q23, zA w false 16), (q31, zA w false 8), (q39, zA w false 8), (q47, zA w true 8), (q56, zA w false 488), (q74, zA w true 9), (q82, zA w true 9), (q90, zA w false 9), (q98, zA w false 8), (q106, zA w false 8), (q114, zA w false 8), (q122, zA w false 8), (q130, zA w false 8), (q138, zA w false 8)]) rfl rfl in_X6 tyX6 tyX6_ok nmX6 (by decide) lk_RX6_63 rfl rfl (tyX6_ok 22 (by decide)) rfl rfl (Nat.le_of_ble_eq_true rfl) rfl ?_
  refine i_aload_n hX dX6_init_143 rfl ?_
  refine i_bipush hX dX6_init_144 (by decide) ?_
  refine i_newI hX (n := 81) rfl dX6_init_146 (Nat.le_of_ble_eq_true rfl) ar_I (Nat.le_of_ble_eq_true rfl) (Nat.le_of_ble_eq_true rfl) (fun q146 => ?_)
  refine i_putF hX dX6_init_148 (q0 := 0) (ci := 6) (k := 23) (ws1 := [(h0, .inr (6, [.ref q7, .ref q15, .ref q23, .ref q31, .ref q39, .int (iI 0), .int (iI 0), .int (iI 0), .int (iI 0), .ref q47, .ref q56, .int (iI 2), .int (iI 2), .ref q74, .ref q82, .ref q90, .ref q98, .ref q106, .ref q114, .int (iI 0), .ref q122, .ref q130, .ref q138, .ref q146])), (q7, zA w false 8), (q15, zA w false 16), (q23, zA w false 16), (q31, zA w false 8), (q39, zA w false 8), (q47, zA w true 8), (q56, zA w false 488), (q74, zA w true 9), (q82, zA w true 9), (q90, zA w false 9), (q98, zA w false 8), (q106, zA w false 8), (q114, zA w false 8), (q122, zA w false 8), (q130, zA w false 8), (q138, zA w false 8), (q146, zA w false 81)]) rfl rfl in_X6 tyX6 tyX6_ok nmX6 (by decide) lk_RX6_66 rfl rfl (tyX6_ok 23 (by decide)) rfl rfl (Nat.le_of_ble_eq_true rfl) rfl ?_
  refine i_aload_n hX dX6_init_151 rfl ?_
  have hw : [(h0, .inr (6, [.ref q7, .ref q15, .ref q23, .ref q31, .ref q39, .int (iI 0), .int (iI 0), .int (iI 0), .int (iI 0), .ref q47, .ref q56, .int (iI 2), .int (iI 2), .ref q74, .ref q82, .ref q90, .ref q98, .ref q106, .ref q114, .int (iI 0), .ref q122, .ref q130, .ref q138, .ref q146])), (q7, zA w false 8), (q15, zA w false 16), (q23, zA w false 16), (q31, zA w false 8), (q39, zA w false 8), (q47, zA w true 8), (q56, zA w false 488), (q74, zA w true 9), (q82, zA w true 9), (q90, zA w false 9), (q98, zA w false 8), (q106, zA w false 8), (q114, zA w false 8), (q122, zA w false 8), (q130, zA w false 8), (q138, zA w false 8), (q146, zA w false 81)] = wd (w.1, w.2.1, adM h0 q7 q15 q23 q31 q39 q47 q56 q74 q82 q90 q98 q106 q114 q122 q130 q138 q146) SM.2.1 σM0 := rfl
  refine i_callV hX (S := SM) (w1 := (w.1, w.2.1, adM h0 q7 q15 q23 q31 q39 q47 q56 q74 q82 q90 q98 q106 q114 q122 q130 q138 q146)) (σ := σM0) (i := 0) dX6_init_152 (k_MM_whole l (w.1, w.2.1, adM h0 q7 q15 q23 q31 q39 q47 q56 q74 q82 q90 q98 q106 q114 q122 q130 q138 q146) σM0) ⟨rfl, rfl⟩ rfl hw bd_M0 mf_X6_whole mv_X6_whole lk_RX6_69 rfl rfl rfl rfl rfl ⟨Nat.le_of_ble_eq_true rfl, Nat.le_of_ble_eq_true rfl⟩ (Nat.le_of_ble_eq_true rfl) ⟨Nat.le_of_ble_eq_true rfl, Nat.le_of_ble_eq_true rfl⟩ (fun σ1 hp hb1 => ?_)
  obtain ⟨hm, hp1⟩ := hp
  exact i_ret hX dX6_init_155 ⟨q7, q15, q23, q31, q39, q47, q56, q74, q82, q90, q98, q106, q114, q122, q130, q138, q146, σ1, rfl, ⟨⟨hp1, hm⟩, hb1⟩⟩ rfl rfl
