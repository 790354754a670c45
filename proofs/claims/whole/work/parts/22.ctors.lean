/-! the constructors -/
theorem vp_in_l {i : Int32} {n : Nat} (h : (!(decide (i < 0)) && decide (i.toNatClampNeg < n)) = true) : vp_in i n := by
  simp only [Bool.and_eq_true, Bool.not_eq_true', decide_eq_false_iff_not, decide_eq_true_eq] at h
  exact fun q => q.elim h.1 (Nat.not_le.mpr h.2)
theorem ac_int : Cond.arrayClass .int ∈ gt := gt_in (by decide +kernel) rfl
theorem ac_long : Cond.arrayClass .long ∈ gt := gt_in (by decide +kernel) rfl
theorem ac_boolean : Cond.arrayClass .boolean ∈ gt := gt_in (by decide +kernel) rfl
def cgF0 : Nat → Nat → Int32 := va_up (fun _ _ => 0) 0 (upd (fillI (fun _ => 0) 1000 (1000 : Int32)) 0 (0 : Int32))
def mdJ0 : Nat → Int32 := upd (upd (upd (upd (upd (upd (fun _ => 0) 0 (-1)) 1 (-1)) 2 (-1)) 3 (-1)) 4 (-1)) 5 (-1)
theorem ci_X1_21 : clN RX1 21 yX2_init cX2_init 1 := ⟨fun _ h => h.2.2.1, gt_in (by decide +kernel) rfl, gt_in (by decide +kernel) rfl, gt_in (by decide +kernel) rfl, rfl, by decide +kernel⟩
theorem ci_X3_28 : clN RX3 28 yX0_init cX0_init 1 := ⟨fun _ h => h.1, gt_in (by decide +kernel) rfl, gt_in (by decide +kernel) rfl, gt_in (by decide +kernel) rfl, rfl, by decide +kernel⟩
theorem ci_X5_11 : clI RX5 11 yX3_init cX3_init 2 := ⟨gt_in (by decide +kernel) rfl, gt_in (by decide +kernel) rfl, gt_in (by decide +kernel) rfl, gt_in (by decide +kernel) rfl, rfl, by decide +kernel⟩
theorem ci_X5_18 : clN RX5 18 yX2_init cX2_init 1 := ⟨fun _ h => h.2.1, gt_in (by decide +kernel) rfl, gt_in (by decide +kernel) rfl, gt_in (by decide +kernel) rfl, rfl, by decide +kernel⟩
theorem ci_X5_25 : clI RX5 25 yX4_init cX4_init 1 := ⟨gt_in (by decide +kernel) rfl, gt_in (by decide +kernel) rfl, gt_in (by decide +kernel) rfl, gt_in (by decide +kernel) rfl, rfl, by decide +kernel⟩
theorem ci_X5_32 : clI RX5 32 yX1_init cX1_init 2 := ⟨gt_in (by decide +kernel) rfl, gt_in (by decide +kernel) rfl, gt_in (by decide +kernel) rfl, gt_in (by decide +kernel) rfl, rfl, by decide +kernel⟩
theorem cl_X4_16 : clS RX4 16 yJ7_fill_53178 cJ7_fill_53178 4 none 2 := ⟨gt_in (by decide +kernel) rfl, gt_in (by decide +kernel) rfl, gt_in (by decide +kernel) rfl, gt_in (by decide +kernel) rfl, by decide +kernel⟩
theorem fl_X0_25 : fdL RX0 25 0 4 RX0 TX0 9 := ⟨ws_X0, rfl, by decide, gt_in (by decide +kernel) rfl⟩
theorem fl_X0_34 : fdL RX0 34 0 7 RX0 TX0 9 := ⟨ws_X0, rfl, by decide, gt_in (by decide +kernel) rfl⟩
theorem fl_X0_9 : fdL RX0 9 0 0 RX0 TX0 9 := ⟨ws_X0, rfl, by decide, gt_in (by decide +kernel) rfl⟩
theorem lc_X1_15 : Cond.classLink RX1 15 RX2 ∈ gt := gt_in (by decide +kernel) rfl
theorem lc_X3_9 : Cond.classLink RX3 9 RX0 ∈ gt := gt_in (by decide +kernel) rfl
theorem lc_X5_16 : Cond.classLink RX5 16 RX2 ∈ gt := gt_in (by decide +kernel) rfl
theorem lc_X5_23 : Cond.classLink RX5 23 RX4 ∈ gt := gt_in (by decide +kernel) rfl
theorem lc_X5_30 : Cond.classLink RX5 30 RX1 ∈ gt := gt_in (by decide +kernel) rfl
theorem lc_X5_9 : Cond.classLink RX5 9 RX3 ∈ gt := gt_in (by decide +kernel) rfl
theorem lc_mna : Cond.classLink RX4 9 "[[I" ∈ gt := gt_in (by decide +kernel) rfl
theorem li_X0 : Cond.instantiable RX0 9 ∈ gt := gt_in (by decide +kernel) rfl
theorem li_X1 : Cond.instantiable RX1 2 ∈ gt := gt_in (by decide +kernel) rfl
theorem li_X2 : Cond.instantiable RX2 1 ∈ gt := gt_in (by decide +kernel) rfl
theorem li_X3 : Cond.instantiable RX3 4 ∈ gt := gt_in (by decide +kernel) rfl
theorem li_X4 : Cond.instantiable RX4 1 ∈ gt := gt_in (by decide +kernel) rfl
theorem lo_X0 : Cond.methodLink RX0 3 objectInit ∈ gt := gt_in (by decide +kernel) rfl
theorem lo_X1 : Cond.methodLink RX1 3 objectInit ∈ gt := gt_in (by decide +kernel) rfl
theorem lo_X2 : Cond.methodLink RX2 5 objectInit ∈ gt := gt_in (by decide +kernel) rfl
theorem lo_X3 : Cond.methodLink RX3 3 objectInit ∈ gt := gt_in (by decide +kernel) rfl
theorem lo_X4 : Cond.methodLink RX4 3 objectInit ∈ gt := gt_in (by decide +kernel) rfl
theorem lo_X5 : Cond.methodLink RX5 3 objectInit ∈ gt := gt_in (by decide +kernel) rfl
theorem lo_X6 : Cond.methodLink RX6 1 objectInit ∈ gt := gt_in (by decide +kernel) rfl
theorem lz_X0 : Cond.initialized RX0 ∈ gt := gt_in (by decide +kernel) rfl
theorem lz_X1 : Cond.initialized RX1 ∈ gt := gt_in (by decide +kernel) rfl
theorem lz_X2 : Cond.initialized RX2 ∈ gt := gt_in (by decide +kernel) rfl
theorem lz_X3 : Cond.initialized RX3 ∈ gt := gt_in (by decide +kernel) rfl
theorem lz_X4 : Cond.initialized RX4 ∈ gt := gt_in (by decide +kernel) rfl
theorem zdf_X0 : ∀ j, j < 9 → defaultValue (tyX0 j) = vp_V [.int 0, .int 0, .int 0, .int 0, .int 0, .int 0, .int 0, .int 0, .int 0] j := by
  intro j hj
  match j, hj with
  | 0, _ => rfl
  | 1, _ => rfl
  | 2, _ => rfl
  | 3, _ => rfl
  | 4, _ => rfl
  | 5, _ => rfl
  | 6, _ => rfl
  | 7, _ => rfl
  | 8, _ => rfl
theorem zdf_X1 : ∀ j, j < 2 → defaultValue (tyX1 j) = vp_V [.null, .null] j := by
  intro j hj
  match j, hj with
  | 0, _ => rfl
  | 1, _ => rfl
theorem zdf_X2 : ∀ j, j < 1 → defaultValue (tyX2 j) = vp_V [.null] j := by
  intro j hj
  match j, hj with
  | 0, _ => rfl
theorem zdf_X3 : ∀ j, j < 4 → defaultValue (tyX3 j) = vp_V [.null, .null, .null, .int 0] j := by
  intro j hj
  match j, hj with
  | 0, _ => rfl
  | 1, _ => rfl
  | 2, _ => rfl
  | 3, _ => rfl
theorem zdf_X4 : ∀ j, j < 1 → defaultValue (tyX4 j) = vp_V [.null] j := by
  intro j hj
  match j, hj with
  | 0, _ => rfl
theorem dX0_init_0 : decode cX0_init 0 = .ok (.aload_n 0, 1) := by decide +kernel
theorem dX0_init_1 : decode cX0_init 1 = .ok (.invokespecial 3, 3) := by decide +kernel
theorem dX0_init_4 : decode cX0_init 4 = .ok (.aload_n 0, 1) := by decide +kernel
theorem dX0_init_5 : decode cX0_init 5 = .ok (.iconst 0, 1) := by decide +kernel
theorem dX0_init_6 : decode cX0_init 6 = .ok (.putfield 9, 3) := by decide +kernel
theorem dX0_init_9 : decode cX0_init 9 = .ok (.aload_n 0, 1) := by decide +kernel
theorem dX0_init_10 : decode cX0_init 10 = .ok (.iconst 0, 1) := by decide +kernel
theorem dX0_init_11 : decode cX0_init 11 = .ok (.putfield 15, 3) := by decide +kernel
theorem dX0_init_14 : decode cX0_init 14 = .ok (.aload_n 0, 1) := by decide +kernel
theorem dX0_init_15 : decode cX0_init 15 = .ok (.iconst 0, 1) := by decide +kernel
theorem dX0_init_16 : decode cX0_init 16 = .ok (.putfield 19, 3) := by decide +kernel
theorem dX0_init_19 : decode cX0_init 19 = .ok (.aload_n 0, 1) := by decide +kernel
theorem dX0_init_20 : decode cX0_init 20 = .ok (.iconst 0, 1) := by decide +kernel
theorem dX0_init_21 : decode cX0_init 21 = .ok (.putfield 22, 3) := by decide +kernel
theorem dX0_init_24 : decode cX0_init 24 = .ok (.aload_n 0, 1) := by decide +kernel
theorem dX0_init_25 : decode cX0_init 25 = .ok (.iconst 0, 1) := by decide +kernel
theorem dX0_init_26 : decode cX0_init 26 = .ok (.putfield 25, 3) := by decide +kernel
theorem dX0_init_29 : decode cX0_init 29 = .ok (.aload_n 0, 1) := by decide +kernel
theorem dX0_init_30 : decode cX0_init 30 = .ok (.iconst 0, 1) := by decide +kernel
theorem dX0_init_31 : decode cX0_init 31 = .ok (.putfield 28, 3) := by decide +kernel
theorem dX0_init_34 : decode cX0_init 34 = .ok (.aload_n 0, 1) := by decide +kernel
theorem dX0_init_35 : decode cX0_init 35 = .ok (.iconst (-1), 1) := by decide +kernel
theorem dX0_init_36 : decode cX0_init 36 = .ok (.putfield 31, 3) := by decide +kernel
theorem dX0_init_39 : decode cX0_init 39 = .ok (.aload_n 0, 1) := by decide +kernel
theorem dX0_init_40 : decode cX0_init 40 = .ok (.iconst 0, 1) := by decide +kernel
theorem dX0_init_41 : decode cX0_init 41 = .ok (.putfield 34, 3) := by decide +kernel
theorem dX0_init_44 : decode cX0_init 44 = .ok (.aload_n 0, 1) := by decide +kernel
theorem dX0_init_45 : decode cX0_init 45 = .ok (.iconst 0, 1) := by decide +kernel
theorem dX0_init_46 : decode cX0_init 46 = .ok (.putfield 37, 3) := by decide +kernel
theorem dX0_init_49 : decode cX0_init 49 = .ok (.return_, 1) := by decide +kernel
set_option maxRecDepth 20000 in
set_option maxHeartbeats 8000000 in
theorem c_X0_init {q : Nat → ClassId} (h0 : Nat) : ctC q yX0_init cX0_init 1 1 12 0 0 [.ref h0] [(h0, .inr (0, [.int 0, .int 0, .int 0, .int 0, .int 0, .int 0, .int 0, .int 0, .int 0]))] (fun (_ : Unit) => [(h0, .inr (0, [.int 0, .int 0, .int 0, .int 0, .int 0, .int 0, .int (-1), .int 0, .int 0]))]) (fun _ => True) := by
  refine met_C (by decide) rfl (Nat.le_of_ble_eq_true rfl) (fun Γ g gx gi hret => ?_)
  show jw Γ 1 0 0 [(h0, .inr (0, [.int 0, .int 0, .int 0, .int 0, .int 0, .int 0, .int 0, .int 0, .int 0]))] [(0, .ref h0)] [] 0
  refine j_aload_n g 0 rfl dX0_init_0 ?_
  refine j_objInit g lo_X0 (Nat.le_of_ble_eq_true rfl) (Nat.le_of_ble_eq_true rfl) dX0_init_1 ?_
  refine j_aload_n g 0 rfl dX0_init_4 ?_
  refine j_iconst g (v := 0) (by decide) dX0_init_5 ?_
  refine j_put g fl_X0_9 fp_X0_0 0 rfl rfl rfl (Nat.le_of_ble_eq_true rfl) (ws' := [(h0, .inr (0, [.int (0 : Int32), .int 0, .int 0, .int 0, .int 0, .int 0, .int 0, .int 0, .int 0]))]) rfl dX0_init_6 ?_
  refine j_aload_n g 0 rfl dX0_init_9 ?_
  refine j_iconst g (v := 0) (by decide) dX0_init_10 ?_
  refine j_put g fl_X0_15 fp_X0_1 0 rfl (nz_z (Or.inl rfl)) (nz_f (Or.inl rfl)) (Nat.le_of_ble_eq_true rfl) (ws' := [(h0, .inr (0, [.int (0 : Int32), .int (0 : Int32), .int 0, .int 0, .int 0, .int 0, .int 0, .int 0, .int 0]))]) rfl dX0_init_11 ?_
  refine j_aload_n g 0 rfl dX0_init_14 ?_
  refine j_iconst g (v := 0) (by decide) dX0_init_15 ?_
  refine j_put g fl_X0_19 fp_X0_2 0 rfl rfl rfl (Nat.le_of_ble_eq_true rfl) (ws' := [(h0, .inr (0, [.int (0 : Int32), .int (0 : Int32), .int (0 : Int32), .int 0, .int 0, .int 0, .int 0, .int 0, .int 0]))]) rfl dX0_init_16 ?_
  refine j_aload_n g 0 rfl dX0_init_19 ?_
  refine j_iconst g (v := 0) (by decide) dX0_init_20 ?_
  refine j_put g fl_X0_22 fp_X0_3 0 rfl rfl rfl (Nat.le_of_ble_eq_true rfl) (ws' := [(h0, .inr (0, [.int (0 : Int32), .int (0 : Int32), .int (0 : Int32), .int (0 : Int32), .int 0, .int 0, .int 0, .int 0, .int 0]))]) rfl dX0_init_21 ?_
  refine j_aload_n g 0 rfl dX0_init_24 ?_
  refine j_iconst g (v := 0) (by decide) dX0_init_25 ?_
  refine j_put g fl_X0_25 fp_X0_4 0 rfl rfl rfl (Nat.le_of_ble_eq_true rfl) (ws' := [(h0, .inr (0, [.int (0 : Int32), .int (0 : Int32), .int (0 : Int32), .int (0 : Int32), .int (0 : Int32), .int 0, .int 0, .int 0, .int 0]))]) rfl dX0_init_26 ?_
  refine j_aload_n g 0 rfl dX0_init_29 ?_
  refine j_iconst g (v := 0) (by decide) dX0_init_30 ?_
  refine j_put g fl_X0_28 fp_X0_5 0 rfl (nz_z (Or.inl rfl)) (nz_f (Or.inl rfl)) (Nat.le_of_ble_eq_true rfl) (ws' := [(h0, .inr (0, [.int (0 : Int32), .int (0 : Int32), .int (0 : Int32), .int (0 : Int32), .int (0 : Int32), .int (0 : Int32), .int 0, .int 0, .int 0]))]) rfl dX0_init_31 ?_
  refine j_aload_n g 0 rfl dX0_init_34 ?_
  refine j_iconst g (v := -1) (by decide) dX0_init_35 ?_
  refine j_put g fl_X0_31 fp_X0_6 0 rfl rfl rfl (Nat.le_of_ble_eq_true rfl) (ws' := [(h0, .inr (0, [.int (0 : Int32), .int (0 : Int32), .int (0 : Int32), .int (0 : Int32), .int (0 : Int32), .int (0 : Int32), .int (-1 : Int32), .int 0, .int 0]))]) rfl dX0_init_36 ?_
  refine j_aload_n g 0 rfl dX0_init_39 ?_
  refine j_iconst g (v := 0) (by decide) dX0_init_40 ?_
  refine j_put g fl_X0_34 fp_X0_7 0 rfl rfl rfl (Nat.le_of_ble_eq_true rfl) (ws' := [(h0, .inr (0, [.int (0 : Int32), .int (0 : Int32), .int (0 : Int32), .int (0 : Int32), .int (0 : Int32), .int (0 : Int32), .int (-1 : Int32), .int (0 : Int32), .int 0]))]) rfl dX0_init_41 ?_
  refine j_aload_n g 0 rfl dX0_init_44 ?_
  refine j_iconst g (v := 0) (by decide) dX0_init_45 ?_
  refine j_put g fl_X0_37 fp_X0_8 0 rfl rfl rfl (Nat.le_of_ble_eq_true rfl) (ws' := [(h0, .inr (0, [.int (0 : Int32), .int (0 : Int32), .int (0 : Int32), .int (0 : Int32), .int (0 : Int32), .int (0 : Int32), .int (-1 : Int32), .int (0 : Int32), .int (0 : Int32)]))]) rfl dX0_init_46 ?_
  exact hret _ _ () dX0_init_49 trivial

theorem dX2_init_0 : decode cX2_init 0 = .ok (.aload_n 0, 1) := by decide +kernel
theorem dX2_init_1 : decode cX2_init 1 = .ok (.invokespecial 5, 3) := by decide +kernel
theorem dX2_init_4 : decode cX2_init 4 = .ok (.aload_n 0, 1) := by decide +kernel
theorem dX2_init_5 : decode cX2_init 5 = .ok (.bipush 16, 2) := by decide +kernel
theorem dX2_init_7 : decode cX2_init 7 = .ok (.newarray .long, 2) := by decide +kernel
theorem dX2_init_9 : decode cX2_init 9 = .ok (.putfield 11, 3) := by decide +kernel
theorem dX2_init_12 : decode cX2_init 12 = .ok (.return_, 1) := by decide +kernel
set_option maxRecDepth 20000 in
set_option maxHeartbeats 8000000 in
theorem c_X2_init {q : Nat → ClassId} (h0 : Nat) : ctC q yX2_init cX2_init 1 1 12 1 16 [.ref h0] [(h0, .inr (2, [.null]))] (fun (u : Nat → Nat) => [(u 0, .inr (2, [.ref (u 1)])), (u 1, .inl (q 1, 16, .inr (.inl (fun _ => 0))))]) (fun u => u 0 = h0) := by
  refine met_C (by decide) rfl (Nat.le_of_ble_eq_true rfl) (fun Γ g gx gi hret => ?_)
  show jw Γ 1 0 0 [(h0, .inr (2, [.null]))] [(0, .ref h0)] [] 0
  refine j_aload_n g 0 rfl dX2_init_0 ?_
  refine j_objInit g lo_X2 (Nat.le_of_ble_eq_true rfl) (Nat.le_of_ble_eq_true rfl) dX2_init_1 ?_
  refine j_aload_n g 0 rfl dX2_init_4 ?_
  refine j_bipush g (v := 16) (by decide) dX2_init_5 ?_
  refine j_newa g (t := 1) rfl (fun _ h => by cases h) rfl ac_long (N := 16) (a0 := (16, .inr (.inl (fun _ => 0)))) (fun _ => rfl) (by decide) (by decide) (Nat.le_of_ble_eq_true rfl) (Nat.le_of_ble_eq_true rfl) (Nat.le_of_ble_eq_true rfl) dX2_init_7 (fun p1 => ?_)
  refine j_ws (ws' := [(h0, .inr (2, [.null])), (p1, .inl (q 1, 16, .inr (.inl (fun _ => 0))))]) rfl ?_
  refine j_putF g gi fl_X2_11 tyX2 tyX2_ok nmX2 rfl (tyX2_ok 0 (by decide)) rfl 0 rfl rfl rfl (Nat.le_of_ble_eq_true rfl) (ws' := [(h0, .inr (2, [.ref p1])), (p1, .inl (q 1, 16, .inr (.inl (fun _ => 0))))]) rfl dX2_init_9 ?_
  exact hret _ _ (fun i => [h0, p1].getD i 0) dX2_init_12 rfl

theorem dX3_init_0 : decode cX3_init 0 = .ok (.aload_n 0, 1) := by decide +kernel
theorem dX3_init_1 : decode cX3_init 1 = .ok (.invokespecial 3, 3) := by decide +kernel
theorem dX3_init_4 : decode cX3_init 4 = .ok (.aload_n 0, 1) := by decide +kernel
theorem dX3_init_5 : decode cX3_init 5 = .ok (.bipush 6, 2) := by decide +kernel
theorem dX3_init_7 : decode cX3_init 7 = .ok (.anewarray 9, 3) := by decide +kernel
theorem dX3_init_10 : decode cX3_init 10 = .ok (.putfield 11, 3) := by decide +kernel
theorem dX3_init_13 : decode cX3_init 13 = .ok (.aload_n 0, 1) := by decide +kernel
theorem dX3_init_14 : decode cX3_init 14 = .ok (.bipush 6, 2) := by decide +kernel
theorem dX3_init_16 : decode cX3_init 16 = .ok (.anewarray 9, 3) := by decide +kernel
theorem dX3_init_19 : decode cX3_init 19 = .ok (.putfield 17, 3) := by decide +kernel
theorem dX3_init_22 : decode cX3_init 22 = .ok (.aload_n 0, 1) := by decide +kernel
theorem dX3_init_23 : decode cX3_init 23 = .ok (.bipush 6, 2) := by decide +kernel
theorem dX3_init_25 : decode cX3_init 25 = .ok (.newarray .int, 2) := by decide +kernel
theorem dX3_init_27 : decode cX3_init 27 = .ok (.putfield 20, 3) := by decide +kernel
theorem dX3_init_30 : decode cX3_init 30 = .ok (.aload_n 0, 1) := by decide +kernel
theorem dX3_init_31 : decode cX3_init 31 = .ok (.iconst 0, 1) := by decide +kernel
theorem dX3_init_32 : decode cX3_init 32 = .ok (.putfield 24, 3) := by decide +kernel
theorem dX3_init_35 : decode cX3_init 35 = .ok (.iconst 0, 1) := by decide +kernel
theorem dX3_init_36 : decode cX3_init 36 = .ok (.istore_n 1, 1) := by decide +kernel
theorem dX3_init_37 : decode cX3_init 37 = .ok (.iload_n 1, 1) := by decide +kernel
theorem dX3_init_38 : decode cX3_init 38 = .ok (.bipush 6, 2) := by decide +kernel
theorem dX3_init_40 : decode cX3_init 40 = .ok (.if_icmp .ge 34, 3) := by decide +kernel
theorem dX3_init_43 : decode cX3_init 43 = .ok (.aload_n 0, 1) := by decide +kernel
theorem dX3_init_44 : decode cX3_init 44 = .ok (.getfield 11, 3) := by decide +kernel
theorem dX3_init_47 : decode cX3_init 47 = .ok (.iload_n 1, 1) := by decide +kernel
theorem dX3_init_48 : decode cX3_init 48 = .ok (.new 9, 3) := by decide +kernel
theorem dX3_init_51 : decode cX3_init 51 = .ok (.dup, 1) := by decide +kernel
theorem dX3_init_52 : decode cX3_init 52 = .ok (.invokespecial 28, 3) := by decide +kernel
theorem dX3_init_55 : decode cX3_init 55 = .ok (.aastore, 1) := by decide +kernel
theorem dX3_init_56 : decode cX3_init 56 = .ok (.aload_n 0, 1) := by decide +kernel
theorem dX3_init_57 : decode cX3_init 57 = .ok (.getfield 17, 3) := by decide +kernel
theorem dX3_init_60 : decode cX3_init 60 = .ok (.iload_n 1, 1) := by decide +kernel
theorem dX3_init_61 : decode cX3_init 61 = .ok (.aload_n 0, 1) := by decide +kernel
theorem dX3_init_62 : decode cX3_init 62 = .ok (.getfield 11, 3) := by decide +kernel
theorem dX3_init_65 : decode cX3_init 65 = .ok (.iload_n 1, 1) := by decide +kernel
theorem dX3_init_66 : decode cX3_init 66 = .ok (.aaload, 1) := by decide +kernel
theorem dX3_init_67 : decode cX3_init 67 = .ok (.aastore, 1) := by decide +kernel
theorem dX3_init_68 : decode cX3_init 68 = .ok (.iinc 1 1, 3) := by decide +kernel
theorem dX3_init_71 : decode cX3_init 71 = .ok (.goto (-34), 3) := by decide +kernel
theorem dX3_init_74 : decode cX3_init 74 = .ok (.return_, 1) := by decide +kernel
set_option maxRecDepth 20000 in
set_option maxHeartbeats 8000000 in
theorem c_X3_init {q : Nat → ClassId} (h0 : Nat) : ctC q yX3_init cX3_init 2 2 32 9 72 [.ref h0] [(h0, .inr (3, [.null, .null, .null, .int 0]))] (fun (u : Nat → Nat) => [(u 0, .inr (3, [.ref (u 1), .ref (u 2), .ref (u 3), .int 0])), (u 1, .inl (q 3, 6, .inr (.inr (.inr (.inr (fun j => some (u (4 + j)))))))), (u 2, .inl (q 3, 6, .inr (.inr (.inr (.inr (fun j => some (u (4 + j)))))))), (u 3, .inl (q 0, 6, .inl (fun _ => 0))), (u (4 + 0), .inr (0, [.int 0, .int 0, .int 0, .int 0, .int 0, .int 0, .int (-1), .int 0, .int 0])), (u (4 + 1), .inr (0, [.int 0, .int 0, .int 0, .int 0, .int 0, .int 0, .int (-1), .int 0, .int 0])), (u (4 + 2), .inr (0, [.int 0, .int 0, .int 0, .int 0, .int 0, .int 0, .int (-1), .int 0, .int 0])), (u (4 + 3), .inr (0, [.int 0, .int 0, .int 0, .int 0, .int 0, .int 0, .int (-1), .int 0, .int 0])), (u (4 + 4), .inr (0, [.int 0, .int 0, .int 0, .int 0, .int 0, .int 0, .int (-1), .int 0, .int 0])), (u (4 + 5), .inr (0, [.int 0, .int 0, .int 0, .int 0, .int 0, .int 0, .int (-1), .int 0, .int 0]))]) (fun u => u 0 = h0) := by
  refine met_C (by decide) rfl (Nat.le_of_ble_eq_true rfl) (fun Γ g gx gi hret => ?_)
  show jw Γ 2 0 0 [(h0, .inr (3, [.null, .null, .null, .int 0]))] [(0, .ref h0)] [] 0
  refine j_aload_n g 0 rfl dX3_init_0 ?_
  refine j_objInit g lo_X3 (Nat.le_of_ble_eq_true rfl) (Nat.le_of_ble_eq_true rfl) dX3_init_1 ?_
  refine j_aload_n g 0 rfl dX3_init_4 ?_
  refine j_bipush g (v := 6) (by decide) dX3_init_5 ?_
  refine j_newq g (fun _ h => h.2.2.2.1) gx (t := 3) rfl lc_X3_9 (N := 6) (by decide) (by decide) (by decide) (Nat.le_of_ble_eq_true rfl) (Nat.le_of_ble_eq_true rfl) dX3_init_7 (fun p1 => ?_)
  refine j_ws (ws' := [(h0, .inr (3, [.null, .null, .null, .int 0])), (p1, .inl (q 3, 6, .inr (.inr (.inr (.inr (fun _ => none))))))]) rfl ?_
  refine j_putF g gi fl_X3_11 tyX3 tyX3_ok nmX3 rfl (tyX3_ok 0 (by decide)) rfl 0 rfl rfl rfl (Nat.le_of_ble_eq_true rfl) (ws' := [(h0, .inr (3, [.ref p1, .null, .null, .int 0])), (p1, .inl (q 3, 6, .inr (.inr (.inr (.inr (fun _ => none))))))]) rfl dX3_init_10 ?_
  refine j_aload_n g 0 rfl dX3_init_13 ?_
  refine j_bipush g (v := 6) (by decide) dX3_init_14 ?_
  refine j_newq g (fun _ h => h.2.2.2.1) gx (t := 3) rfl lc_X3_9 (N := 6) (by decide) (by decide) (by decide) (Nat.le_of_ble_eq_true rfl) (Nat.le_of_ble_eq_true rfl) dX3_init_16 (fun p2 => ?_)
  refine j_ws (ws' := [(h0, .inr (3, [.ref p1, .null, .null, .int 0])), (p1, .inl (q 3, 6, .inr (.inr (.inr (.inr (fun _ => none)))))), (p2, .inl (q 3, 6, .inr (.inr (.inr (.inr (fun _ => none))))))]) rfl ?_
  refine j_putF g gi fl_X3_17 tyX3 tyX3_ok nmX3 rfl (tyX3_ok 1 (by decide)) rfl 0 rfl rfl rfl (Nat.le_of_ble_eq_true rfl) (ws' := [(h0, .inr (3, [.ref p1, .ref p2, .null, .int 0])), (p1, .inl (q 3, 6, .inr (.inr (.inr (.inr (fun _ => none)))))), (p2, .inl (q 3, 6, .inr (.inr (.inr (.inr (fun _ => none))))))]) rfl dX3_init_19 ?_
  refine j_aload_n g 0 rfl dX3_init_22 ?_
  refine j_bipush g (v := 6) (by decide) dX3_init_23 ?_
  refine j_newa g (t := 0) rfl (fun _ h => by cases h) rfl ac_int (N := 6) (a0 := (6, .inl (fun _ => 0))) (fun _ => rfl) (by decide) (by decide) (Nat.le_of_ble_eq_true rfl) (Nat.le_of_ble_eq_true rfl) (Nat.le_of_ble_eq_true rfl) dX3_init_25 (fun p3 => ?_)
  refine j_ws (ws' := [(h0, .inr (3, [.ref p1, .ref p2, .null, .int 0])), (p1, .inl (q 3, 6, .inr (.inr (.inr (.inr (fun _ => none)))))), (p2, .inl (q 3, 6, .inr (.inr (.inr (.inr (fun _ => none)))))), (p3, .inl (q 0, 6, .inl (fun _ => 0)))]) rfl ?_
  refine j_putF g gi fl_X3_20 tyX3 tyX3_ok nmX3 rfl (tyX3_ok 2 (by decide)) rfl 0 rfl rfl rfl (Nat.le_of_ble_eq_true rfl) (ws' := [(h0, .inr (3, [.ref p1, .ref p2, .ref p3, .int 0])), (p1, .inl (q 3, 6, .inr (.inr (.inr (.inr (fun _ => none)))))), (p2, .inl (q 3, 6, .inr (.inr (.inr (.inr (fun _ => none)))))), (p3, .inl (q 0, 6, .inl (fun _ => 0)))]) rfl dX3_init_27 ?_
  refine j_aload_n g 0 rfl dX3_init_30 ?_
  refine j_iconst g (v := 0) (by decide) dX3_init_31 ?_
  refine j_put g fl_X3_24 fp_X3_3 0 rfl rfl rfl (Nat.le_of_ble_eq_true rfl) (ws' := [(h0, .inr (3, [.ref p1, .ref p2, .ref p3, .int (0 : Int32)])), (p1, .inl (q 3, 6, .inr (.inr (.inr (.inr (fun _ => none)))))), (p2, .inl (q 3, 6, .inr (.inr (.inr (.inr (fun _ => none)))))), (p3, .inl (q 0, 6, .inl (fun _ => 0)))]) rfl dX3_init_32 ?_
  refine j_iconst g (v := 0) (by decide) dX3_init_35 ?_
  refine j_istore_n g (lv' := [(1, .int (0 : Int32)), (0, .ref h0)]) (by decide) rfl dX3_init_36 ?_
  refine j_iload_n g 0 rfl dX3_init_37 ?_
  refine j_bipush g (v := 6) (by decide) dX3_init_38 ?_
  refine j_icmp_ge g dX3_init_40 (tgt := 74) (by decide) (fun c => absurd c (by decide)) (fun _ => ?_)
  refine j_aload_n g 1 rfl dX3_init_43 ?_
  refine j_get g fl_X3_11 0 rfl rfl dX3_init_44 ?_
  refine j_iload_n g 0 rfl dX3_init_47 ?_
  refine j_new g (ci := 0) ws_X0 tyX0 tyX0_ok lc_X3_9 li_X0 lz_X0 rfl zdf_X0 (Nat.le_of_ble_eq_true rfl) (Nat.le_of_ble_eq_true rfl) dX3_init_48 (fun p4 => ?_)
  refine j_ws (ws' := [(h0, .inr (3, [.ref p1, .ref p2, .ref p3, .int (0 : Int32)])), (p1, .inl (q 3, 6, .inr (.inr (.inr (.inr (fun _ => none)))))), (p2, .inl (q 3, 6, .inr (.inr (.inr (.inr (fun _ => none)))))), (p3, .inl (q 0, 6, .inl (fun _ => 0))), (p4, .inr (0, [.int 0, .int 0, .int 0, .int 0, .int 0, .int 0, .int 0, .int 0, .int 0]))]) rfl ?_
  refine j_dup g rfl dX3_init_51 ?_
  refine j_callN g gx (W1 := [(h0, .inr (3, [.ref p1, .ref p2, .ref p3, .int (0 : Int32)])), (p1, .inl (q 3, 6, .inr (.inr (.inr (.inr (fun _ => none)))))), (p2, .inl (q 3, 6, .inr (.inr (.inr (.inr (fun _ => none)))))), (p3, .inl (q 0, 6, .inl (fun _ => 0)))]) (c_X0_init (q := q) p4) ci_X3_28 rfl (Nat.le_of_ble_eq_true rfl) (Nat.le_of_ble_eq_true rfl) (Nat.le_of_ble_eq_true rfl) (Nat.le_of_ble_eq_true rfl) (Nat.le_of_ble_eq_true rfl) dX3_init_52 (fun u5 hu5 => ?_)
  refine j_ws (ws' := [(h0, .inr (3, [.ref p1, .ref p2, .ref p3, .int (0 : Int32)])), (p1, .inl (q 3, 6, .inr (.inr (.inr (.inr (fun _ => none)))))), (p2, .inl (q 3, 6, .inr (.inr (.inr (.inr (fun _ => none)))))), (p3, .inl (q 0, 6, .inl (fun _ => 0))), (p4, .inr (0, [.int 0, .int 0, .int 0, .int 0, .int 0, .int 0, .int (-1), .int 0, .int 0]))]) rfl ?_
  refine j_aast g 1 3 4 0 rfl rfl rfl rfl (vp_in_l (by decide)) (ws' := [(h0, .inr (3, [.ref p1, .ref p2, .ref p3, .int (0 : Int32)])), (p1, .inl (q 3, 6, .inr (.inr (.inr (.inr (va_up (fun _ => none) 0 (some p4))))))), (p2, .inl (q 3, 6, .inr (.inr (.inr (.inr (fun _ => none)))))), (p3, .inl (q 0, 6, .inl (fun _ => 0))), (p4, .inr (0, [.int 0, .int 0, .int 0, .int 0, .int 0, .int 0, .int (-1), .int 0, .int 0]))]) rfl dX3_init_55 ?_
  refine j_aload_n g 1 rfl dX3_init_56 ?_
  refine j_get g fl_X3_17 0 rfl rfl dX3_init_57 ?_
  refine j_iload_n g 0 rfl dX3_init_60 ?_
  refine j_aload_n g 1 rfl dX3_init_61 ?_
  refine j_get g fl_X3_11 0 rfl rfl dX3_init_62 ?_
  refine j_iload_n g 0 rfl dX3_init_65 ?_
  refine j_aald g 1 3 rfl rfl (by decide) (vp_in_l (by decide)) (x := p4) rfl dX3_init_66 ?_
  refine j_aast g 2 3 4 0 rfl rfl rfl rfl (vp_in_l (by decide)) (ws' := [(h0, .inr (3, [.ref p1, .ref p2, .ref p3, .int (0 : Int32)])), (p1, .inl (q 3, 6, .inr (.inr (.inr (.inr (va_up (fun _ => none) 0 (some p4))))))), (p2, .inl (q 3, 6, .inr (.inr (.inr (.inr (va_up (fun _ => none) 0 (some p4))))))), (p3, .inl (q 0, 6, .inl (fun _ => 0))), (p4, .inr (0, [.int 0, .int 0, .int 0, .int 0, .int 0, .int 0, .int (-1), .int 0, .int 0]))]) rfl dX3_init_67 ?_
  refine j_iinc g 0 (n := 1) (v := 1) (lv' := [(1, .int (1 : Int32)), (0, .ref h0)]) rfl (by decide) (by decide) rfl dX3_init_68 ?_
  refine j_goto g dX3_init_71 (tgt := 37) (by decide) ?_
  refine j_iload_n g 0 rfl dX3_init_37 ?_
  refine j_bipush g (v := 6) (by decide) dX3_init_38 ?_
  refine j_icmp_ge g dX3_init_40 (tgt := 74) (by decide) (fun c => absurd c (by decide)) (fun _ => ?_)
  refine j_aload_n g 1 rfl dX3_init_43 ?_
  refine j_get g fl_X3_11 0 rfl rfl dX3_init_44 ?_
  refine j_iload_n g 0 rfl dX3_init_47 ?_
  refine j_new g (ci := 0) ws_X0 tyX0 tyX0_ok lc_X3_9 li_X0 lz_X0 rfl zdf_X0 (Nat.le_of_ble_eq_true rfl) (Nat.le_of_ble_eq_true rfl) dX3_init_48 (fun p6 => ?_)
  refine j_ws (ws' := [(h0, .inr (3, [.ref p1, .ref p2, .ref p3, .int (0 : Int32)])), (p1, .inl (q 3, 6, .inr (.inr (.inr (.inr (va_up (fun _ => none) 0 (some p4))))))), (p2, .inl (q 3, 6, .inr (.inr (.inr (.inr (va_up (fun _ => none) 0 (some p4))))))), (p3, .inl (q 0, 6, .inl (fun _ => 0))), (p4, .inr (0, [.int 0, .int 0, .int 0, .int 0, .int 0, .int 0, .int (-1), .int 0, .int 0])), (p6, .inr (0, [.int 0, .int 0, .int 0, .int 0, .int 0, .int 0, .int 0, .int 0, .int 0]))]) rfl ?_
  refine j_dup g rfl dX3_init_51 ?_
  refine j_callN g gx (W1 := [(h0, .inr (3, [.ref p1, .ref p2, .ref p3, .int (0 : Int32)])), (p1, .inl (q 3, 6, .inr (.inr (.inr (.inr (va_up (fun _ => none) 0 (some p4))))))), (p2, .inl (q 3, 6, .inr (.inr (.inr (.inr (va_up (fun _ => none) 0 (some p4))))))), (p3, .inl (q 0, 6, .inl (fun _ => 0))), (p4, .inr (0, [.int 0, .int 0, .int 0, .int 0, .int 0, .int 0, .int (-1), .int 0, .int 0]))]) (c_X0_init (q := q) p6) ci_X3_28 rfl (Nat.le_of_ble_eq_true rfl) (Nat.le_of_ble_eq_true rfl) (Nat.le_of_ble_eq_true rfl) (Nat.le_of_ble_eq_true rfl) (Nat.le_of_ble_eq_true rfl) dX3_init_52 (fun u7 hu7 => ?_)
  refine j_ws (ws' := [(h0, .inr (3, [.ref p1, .ref p2, .ref p3, .int (0 : Int32)])), (p1, .inl (q 3, 6, .inr (.inr (.inr (.inr (va_up (fun _ => none) 0 (some p4))))))), (p2, .inl (q 3, 6, .inr (.inr (.inr (.inr (va_up (fun _ => none) 0 (some p4))))))), (p3, .inl (q 0, 6, .inl (fun _ => 0))), (p4, .inr (0, [.int 0, .int 0, .int 0, .int 0, .int 0, .int 0, .int (-1), .int 0, .int 0])), (p6, .inr (0, [.int 0, .int 0, .int 0, .int 0, .int 0, .int 0, .int (-1), .int 0, .int 0]))]) rfl ?_
  refine j_aast g 1 3 5 0 rfl rfl rfl rfl (vp_in_l (by decide)) (ws' := [(h0, .inr (3, [.ref p1, .ref p2, .ref p3, .int (0 : Int32)])), (p1, .inl (q 3, 6, .inr (.inr (.inr (.inr (va_up (va_up (fun _ => none) 0 (some p4)) 1 (some p6))))))), (p2, .inl (q 3, 6, .inr (.inr (.inr (.inr (va_up (fun _ => none) 0 (some p4))))))), (p3, .inl (q 0, 6, .inl (fun _ => 0))), (p4, .inr (0, [.int 0, .int 0, .int 0, .int 0, .int 0, .int 0, .int (-1), .int 0, .int 0])), (p6, .inr (0, [.int 0, .int 0, .int 0, .int 0, .int 0, .int 0, .int (-1), .int 0, .int 0]))]) rfl dX3_init_55 ?_
  refine j_aload_n g 1 rfl dX3_init_56 ?_
  refine j_get g fl_X3_17 0 rfl rfl dX3_init_57 ?_
  refine j_iload_n g 0 rfl dX3_init_60 ?_
  refine j_aload_n g 1 rfl dX3_init_61 ?_
  refine j_get g fl_X3_11 0 rfl rfl dX3_init_62 ?_
  refine j_iload_n g 0 rfl dX3_init_65 ?_
  refine j_aald g 1 3 rfl rfl (by decide) (vp_in_l (by decide)) (x := p6) rfl dX3_init_66 ?_
  refine j_aast g 2 3 5 0 rfl rfl rfl rfl (vp_in_l (by decide)) (ws' := [(h0, .inr (3, [.ref p1, .ref p2, .ref p3, .int (0 : Int32)])), (p1, .inl (q 3, 6, .inr (.inr (.inr (.inr (va_up (va_up (fun _ => none) 0 (some p4)) 1 (some p6))))))), (p2, .inl (q 3, 6, .inr (.inr (.inr (.inr (va_up (va_up (fun _ => none) 0 (some p4)) 1 (some p6))))))), (p3, .inl (q 0, 6, .inl (fun _ => 0))), (p4, .inr (0, [.int 0, .int 0, .int 0, .int 0, .int 0, .int 0, .int (-1), .int 0, .int 0])), (p6, .inr (0, [.int 0, .int 0, .int 0, .int 0, .int 0, .int 0, .int (-1), .int 0, .int 0]))]) rfl dX3_init_67 ?_
  refine j_iinc g 0 (n := 1) (v := 2) (lv' := [(1, .int (2 : Int32)), (0, .ref h0)]) rfl (by decide) (by decide) rfl dX3_init_68 ?_
  refine j_goto g dX3_init_71 (tgt := 37) (by decide) ?_
  refine j_iload_n g 0 rfl dX3_init_37 ?_
  refine j_bipush g (v := 6) (by decide) dX3_init_38 ?_
  refine j_icmp_ge g dX3_init_40 (tgt := 74) (by decide) (fun c => absurd c (by decide)) (fun _ => ?_)
  refine j_aload_n g 1 rfl dX3_init_43 ?_
  refine j_get g fl_X3_11 0 rfl rfl dX3_init_44 ?_
  refine j_iload_n g 0 rfl dX3_init_47 ?_
  refine j_new g (ci := 0) ws_X0 tyX0 tyX0_ok lc_X3_9 li_X0 lz_X0 rfl zdf_X0 (Nat.le_of_ble_eq_true rfl) (Nat.le_of_ble_eq_true rfl) dX3_init_48 (fun p8 => ?_)
  refine j_ws (ws' := [(h0, .inr (3, [.ref p1, .ref p2, .ref p3, .int (0 : Int32)])), (p1, .inl (q 3, 6, .inr (.inr (.inr (.inr (va_up (va_up (fun _ => none) 0 (some p4)) 1 (some p6))))))), (p2, .inl (q 3, 6, .inr (.inr (.inr (.inr (va_up (va_up (fun _ => none) 0 (some p4)) 1 (some p6))))))), (p3, .inl (q 0, 6, .inl (fun _ => 0))), (p4, .inr (0, [.int 0, .int 0, .int 0, .int 0, .int 0, .int 0, .int (-1), .int 0, .int 0])), (p6, .inr (0, [.int 0, .int 0, .int 0, .int 0, .int 0, .int 0, .int (-1), .int 0, .int 0])), (p8, .inr (0, [.int 0, .int 0, .int 0, .int 0, .int 0, .int 0, .int 0, .int 0, .int 0]))]) rfl ?_
  refine j_dup g rfl dX3_init_51 ?_
  refine j_callN g gx (W1 := [(h0, .inr (3, [.ref p1, .ref p2, .ref p3, .int (0 : Int32)])), (p1, .inl (q 3, 6, .inr (.inr (.inr (.inr (va_up (va_up (fun _ => none) 0 (some p4)) 1 (some p6))))))), (p2, .inl (q 3, 6, .inr (.inr (.inr (.inr (va_up (va_up (fun _ => none) 0 (some p4)) 1 (some p6))))))), (p3, .inl (q 0, 6, .inl (fun _ => 0))), (p4, .inr (0, [.int 0, .int 0, .int 0, .int 0, .int 0, .int 0, .int (-1), .int 0, .int 0])), (p6, .inr (0, [.int 0, .int 0, .int 0, .int 0, .int 0, .int 0, .int (-1), .int 0, .int 0]))]) (c_X0_init (q := q) p8) ci_X3_28 rfl (Nat.le_of_ble_eq_true rfl) (Nat.le_of_ble_eq_true rfl) (Nat.le_of_ble_eq_true rfl) (Nat.le_of_ble_eq_true rfl) (Nat.le_of_ble_eq_true rfl) dX3_init_52 (fun u9 hu9 => ?_)
  refine j_ws (ws' := [(h0, .inr (3, [.ref p1, .ref p2, .ref p3, .int (0 : Int32)])), (p1, .inl (q 3, 6, .inr (.inr (.inr (.inr (va_up (va_up (fun _ => none) 0 (some p4)) 1 (some p6))))))), (p2, .inl (q 3, 6, .inr (.inr (.inr (.inr (va_up (va_up (fun _ => none) 0 (some p4)) 1 (some p6))))))), (p3, .inl (q 0, 6, .inl (fun _ => 0))), (p4, .inr (0, [.int 0, .int 0, .int 0, .int 0, .int 0, .int 0, .int (-1), .int 0, .int 0])), (p6, .inr (0, [.int 0, .int 0, .int 0, .int 0, .int 0, .int 0, .int (-1), .int 0, .int 0])), (p8, .inr (0, [.int 0, .int 0, .int 0, .int 0, .int 0, .int 0, .int (-1), .int 0, .int 0]))]) rfl ?_
  refine j_aast g 1 3 6 0 rfl rfl rfl rfl (vp_in_l (by decide)) (ws' := [(h0, .inr (3, [.ref p1, .ref p2, .ref p3, .int (0 : Int32)])), (p1, .inl (q 3, 6, .inr (.inr (.inr (.inr (va_up (va_up (va_up (fun _ => none) 0 (some p4)) 1 (some p6)) 2 (some p8))))))), (p2, .inl (q 3, 6, .inr (.inr (.inr (.inr (va_up (va_up (fun _ => none) 0 (some p4)) 1 (some p6))))))), (p3, .inl (q 0, 6, .inl (fun _ => 0))), (p4, .inr (0, [.int 0, .int 0, .int 0, .int 0, .int 0, .int 0, .int (-1), .int 0, .int 0])), (p6, .inr (0, [.int 0, .int 0, .int 0, .int 0, .int 0, .int 0, .int (-1), .int 0, .int 0])), (p8, .inr (0, [.int 0, .int 0, .int 0, .int 0, .int 0, .int 0, .int (-1), .int 0, .int 0]))]) rfl dX3_init_55 ?_
  refine j_aload_n g 1 rfl dX3_init_56 ?_
  refine j_get g fl_X3_17 0 rfl rfl dX3_init_57 ?_
  refine j_iload_n g 0 rfl dX3_init_60 ?_
  refine j_aload_n g 1 rfl dX3_init_61 ?_
  refine j_get g fl_X3_11 0 rfl rfl dX3_init_62 ?_
  refine j_iload_n g 0 rfl dX3_init_65 ?_
  refine j_aald g 1 3 rfl rfl (by decide) (vp_in_l (by decide)) (x := p8) rfl dX3_init_66 ?_
  refine j_aast g 2 3 6 0 rfl rfl rfl rfl (vp_in_l (by decide)) (ws' := [(h0, .inr (3, [.ref p1, .ref p2, .ref p3, .int (0 : Int32)])), (p1, .inl (q 3, 6, .inr (.inr (.inr (.inr (va_up (va_up (va_up (fun _ => none) 0 (some p4)) 1 (some p6)) 2 (some p8))))))), (p2, .inl (q 3, 6, .inr (.inr (.inr (.inr (va_up (va_up (va_up (fun _ => none) 0 (some p4)) 1 (some p6)) 2 (some p8))))))), (p3, .inl (q 0, 6, .inl (fun _ => 0))), (p4, .inr (0, [.int 0, .int 0, .int 0, .int 0, .int 0, .int 0, .int (-1), .int 0, .int 0])), (p6, .inr (0, [.int 0, .int 0, .int 0, .int 0, .int 0, .int 0, .int (-1), .int 0, .int 0])), (p8, .inr (0, [.int 0, .int 0, .int 0, .int 0, .int 0, .int 0, .int (-1), .int 0, .int 0]))]) rfl dX3_init_67 ?_
  refine j_iinc g 0 (n := 1) (v := 3) (lv' := [(1, .int (3 : Int32)), (0, .ref h0)]) rfl (by decide) (by decide) rfl dX3_init_68 ?_
  refine j_goto g dX3_init_71 (tgt := 37) (by decide) ?_
  refine j_iload_n g 0 rfl dX3_init_37 ?_
  refine j_bipush g (v := 6) (by decide) dX3_init_38 ?_
  refine j_icmp_ge g dX3_init_40 (tgt := 74) (by decide) (fun c => absurd c (by decide)) (fun _ => ?_)
  refine j_aload_n g 1 rfl dX3_init_43 ?_
  refine j_get g fl_X3_11 0 rfl rfl dX3_init_44 ?_
  refine j_iload_n g 0 rfl dX3_init_47 ?_
  refine j_new g (ci := 0) ws_X0 tyX0 tyX0_ok lc_X3_9 li_X0 lz_X0 rfl zdf_X0 (Nat.le_of_ble_eq_true rfl) (Nat.le_of_ble_eq_true rfl) dX3_init_48 (fun p10 => ?_)
  refine j_ws (ws' := [(h0, .inr (3, [.ref p1, .ref p2, .ref p3, .int (0 : Int32)])), (p1, .inl (q 3, 6, .inr (.inr (.inr (.inr (va_up (va_up (va_up (fun _ => none) 0 (some p4)) 1 (some p6)) 2 (some p8))))))), (p2, .inl (q 3, 6, .inr (.inr (.inr (.inr (va_up (va_up (va_up (fun _ => none) 0 (some p4)) 1 (some p6)) 2 (some p8))))))), (p3, .inl (q 0, 6, .inl (fun _ => 0))), (p4, .inr (0, [.int 0, .int 0, .int 0, .int 0, .int 0, .int 0, .int (-1), .int 0, .int 0])), (p6, .inr (0, [.int 0, .int 0, .int 0, .int 0, .int 0, .int 0, .int (-1), .int 0, .int 0])), (p8, .inr (0, [.int 0, .int 0, .int 0, .int 0, .int 0, .int 0, .int (-1), .int 0, .int 0])), (p10, .inr (0, [.int 0, .int 0, .int 0, .int 0, .int 0, .int 0, .int 0, .int 0, .int 0]))]) rfl ?_
  refine j_dup g rfl dX3_init_51 ?_
  refine j_callN g gx (W1 := [(h0, .inr (3, [.ref p1, .ref p2, .ref p3, .int (0 : Int32)])), (p1, .inl (q 3, 6, .inr (.inr (.inr (.inr (va_up (va_up (va_up (fun _ => none) 0 (some p4)) 1 (some p6)) 2 (some p8))))))), (p2, .inl (q 3, 6, .inr (.inr (.inr (.inr (va_up (va_up (va_up (fun _ => none) 0 (some p4)) 1 (some p6)) 2 (some p8))))))), (p3, .inl (q 0, 6, .inl (fun _ => 0))), (p4, .inr (0, [.int 0, .int 0, .int 0, .int 0, .int 0, .int 0, .int (-1), .int 0, .int 0])), (p6, .inr (0, [.int 0, .int 0, .int 0, .int 0, .int 0, .int 0, .int (-1), .int 0, .int 0])), (p8, .inr (0, [.int 0, .int 0, .int 0, .int 0, .int 0, .int 0, .int (-1), .int 0, .int 0]))]) (c_X0_init (q := q) p10) ci_X3_28 rfl (Nat.le_of_ble_eq_true rfl) (Nat.le_of_ble_eq_true rfl) (Nat.le_of_ble_eq_true rfl) (Nat.le_of_ble_eq_true rfl) (Nat.le_of_ble_eq_true rfl) dX3_init_52 (fun u11 hu11 => ?_)
  refine j_ws (ws' := [(h0, .inr (3, [.ref p1, .ref p2, .ref p3, .int (0 : Int32)])), (p1, .inl (q 3, 6, .inr (.inr (.inr (.inr (va_up (va_up (va_up (fun _ => none) 0 (some p4)) 1 (some p6)) 2 (some p8))))))), (p2, .inl (q 3, 6, .inr (.inr (.inr (.inr (va_up (va_up (va_up (fun _ => none) 0 (some p4)) 1 (some p6)) 2 (some p8))))))), (p3, .inl (q 0, 6, .inl (fun _ => 0))), (p4, .inr (0, [.int 0, .int 0, .int 0, .int 0, .int 0, .int 0, .int (-1), .int 0, .int 0])), (p6, .inr (0, [.int 0, .int 0, .int 0, .int 0, .int 0, .int 0, .int (-1), .int 0, .int 0])), (p8, .inr (0, [.int 0, .int 0, .int 0, .int 0, .int 0, .int 0, .int (-1), .int 0, .int 0])), (p10, .inr (0, [.int 0, .int 0, .int 0, .int 0, .int 0, .int 0, .int (-1), .int 0, .int 0]))]) rfl ?_
  refine j_aast g 1 3 7 0 rfl rfl rfl rfl (vp_in_l (by decide)) (ws' := [(h0, .inr (3, [.ref p1, .ref p2, .ref p3, .int (0 : Int32)])), (p1, .inl (q 3, 6, .inr (.inr (.inr (.inr (va_up (va_up (va_up (va_up (fun _ => none) 0 (some p4)) 1 (some p6)) 2 (some p8)) 3 (some p10))))))), (p2, .inl (q 3, 6, .inr (.inr (.inr (.inr (va_up (va_up (va_up (fun _ => none) 0 (some p4)) 1 (some p6)) 2 (some p8))))))), (p3, .inl (q 0, 6, .inl (fun _ => 0))), (p4, .inr (0, [.int 0, .int 0, .int 0, .int 0, .int 0, .int 0, .int (-1), .int 0, .int 0])), (p6, .inr (0, [.int 0, .int 0, .int 0, .int 0, .int 0, .int 0, .int (-1), .int 0, .int 0])), (p8, .inr (0, [.int 0, .int 0, .int 0, .int 0, .int 0, .int 0, .int (-1), .int 0, .int 0])), (p10, .inr (0, [.int 0, .int 0, .int 0, .int 0, .int 0, .int 0, .int (-1), .int 0, .int 0]))]) rfl dX3_init_55 ?_
  refine j_aload_n g 1 rfl dX3_init_56 ?_
  refine j_get g fl_X3_17 0 rfl rfl dX3_init_57 ?_
  refine j_iload_n g 0 rfl dX3_init_60 ?_
  refine j_aload_n g 1 rfl dX3_init_61 ?_
  refine j_get g fl_X3_11 0 rfl rfl dX3_init_62 ?_
  refine j_iload_n g 0 rfl dX3_init_65 ?_
  refine j_aald g 1 3 rfl rfl (by decide) (vp_in_l (by decide)) (x := p10) rfl dX3_init_66 ?_
  refine j_aast g 2 3 7 0 rfl rfl rfl rfl (vp_in_l (by decide)) (ws' := [(h0, .inr (3, [.ref p1, .ref p2, .ref p3, .int (0 : Int32)])), (p1, .inl (q 3, 6, .inr (.inr (.inr (.inr (va_up (va_up (va_up (va_up (fun _ => none) 0 (some p4)) 1 (some p6)) 2 (some p8)) 3 (some p10))))))), (p2, .inl (q 3, 6, .inr (.inr (.inr (.inr (va_up (va_up (va_up (va_up (fun _ => none) 0 (some p4)) 1 (some p6)) 2 (some p8)) 3 (some p10))))))), (p3, .inl (q 0, 6, .inl (fun _ => 0))), (p4, .inr (0, [.int 0, .int 0, .int 0, .int 0, .int 0, .int 0, .int (-1), .int 0, .int 0])), (p6, .inr (0, [.int 0, .int 0, .int 0, .int 0, .int 0, .int 0, .int (-1), .int 0, .int 0])), (p8, .inr (0, [.int 0, .int 0, .int 0, .int 0, .int 0, .int 0, .int (-1), .int 0, .int 0])), (p10, .inr (0, [.int 0, .int 0, .int 0, .int 0, .int 0, .int 0, .int (-1), .int 0, .int 0]))]) rfl dX3_init_67 ?_
  refine j_iinc g 0 (n := 1) (v := 4) (lv' := [(1, .int (4 : Int32)), (0, .ref h0)]) rfl (by decide) (by decide) rfl dX3_init_68 ?_
  refine j_goto g dX3_init_71 (tgt := 37) (by decide) ?_
  refine j_iload_n g 0 rfl dX3_init_37 ?_
  refine j_bipush g (v := 6) (by decide) dX3_init_38 ?_
  refine j_icmp_ge g dX3_init_40 (tgt := 74) (by decide) (fun c => absurd c (by decide)) (fun _ => ?_)
  refine j_aload_n g 1 rfl dX3_init_43 ?_
  refine j_get g fl_X3_11 0 rfl rfl dX3_init_44 ?_
  refine j_iload_n g 0 rfl dX3_init_47 ?_
  refine j_new g (ci := 0) ws_X0 tyX0 tyX0_ok lc_X3_9 li_X0 lz_X0 rfl zdf_X0 (Nat.le_of_ble_eq_true rfl) (Nat.le_of_ble_eq_true rfl) dX3_init_48 (fun p12 => ?_)
  refine j_ws (ws' := [(h0, .inr (3, [.ref p1, .ref p2, .ref p3, .int (0 : Int32)])), (p1, .inl (q 3, 6, .inr (.inr (.inr (.inr (va_up (va_up (va_up (va_up (fun _ => none) 0 (some p4)) 1 (some p6)) 2 (some p8)) 3 (some p10))))))), (p2, .inl (q 3, 6, .inr (.inr (.inr (.inr (va_up (va_up (va_up (va_up (fun _ => none) 0 (some p4)) 1 (some p6)) 2 (some p8)) 3 (some p10))))))), (p3, .inl (q 0, 6, .inl (fun _ => 0))), (p4, .inr (0, [.int 0, .int 0, .int 0, .int 0, .int 0, .int 0, .int (-1), .int 0, .int 0])), (p6, .inr (0, [.int 0, .int 0, .int 0, .int 0, .int 0, .int 0, .int (-1), .int 0, .int 0])), (p8, .inr (0, [.int 0, .int 0, .int 0, .int 0, .int 0, .int 0, .int (-1), .int 0, .int 0])), (p10, .inr (0, [.int 0, .int 0, .int 0, .int 0, .int 0, .int 0, .int (-1), .int 0, .int 0])), (p12, .inr (0, [.int 0, .int 0, .int 0, .int 0, .int 0, .int 0, .int 0, .int 0, .int 0]))]) rfl ?_
  refine j_dup g rfl dX3_init_51 ?_
  refine j_callN g gx (W1 := [(h0, .inr (3, [.ref p1, .ref p2, .ref p3, .int (0 : Int32)])), (p1, .inl (q 3, 6, .inr (.inr (.inr (.inr (va_up (va_up (va_up (va_up (fun _ => none) 0 (some p4)) 1 (some p6)) 2 (some p8)) 3 (some p10))))))), (p2, .inl (q 3, 6, .inr (.inr (.inr (.inr (va_up (va_up (va_up (va_up (fun _ => none) 0 (some p4)) 1 (some p6)) 2 (some p8)) 3 (some p10))))))), (p3, .inl (q 0, 6, .inl (fun _ => 0))), (p4, .inr (0, [.int 0, .int 0, .int 0, .int 0, .int 0, .int 0, .int (-1), .int 0, .int 0])), (p6, .inr (0, [.int 0, .int 0, .int 0, .int 0, .int 0, .int 0, .int (-1), .int 0, .int 0])), (p8, .inr (0, [.int 0, .int 0, .int 0, .int 0, .int 0, .int 0, .int (-1), .int 0, .int 0])), (p10, .inr (0, [.int 0, .int 0, .int 0, .int 0, .int 0, .int 0, .int (-1), .int 0, .int 0]))]) (c_X0_init (q := q) p12) ci_X3_28 rfl (Nat.le_of_ble_eq_true rfl) (Nat.le_of_ble_eq_true rfl) (Nat.le_of_ble_eq_true rfl) (Nat.le_of_ble_eq_true rfl) (Nat.le_of_ble_eq_true rfl) dX3_init_52 (fun u13 hu13 => ?_)
  refine j_ws (ws' := [(h0, .inr (3, [.ref p1, .ref p2, .ref p3, .int (0 : Int32)])), (p1, .inl (q 3, 6, .inr (.inr (.inr (.inr (va_up (va_up (va_up (va_up (fun _ => none) 0 (some p4)) 1 (some p6)) 2 (some p8)) 3 (some p10))))))), (p2, .inl (q 3, 6, .inr (.inr (.inr (.inr (va_up (va_up (va_up (va_up (fun _ => none) 0 (some p4)) 1 (some p6)) 2 (some p8)) 3 (some p10))))))), (p3, .inl (q 0, 6, .inl (fun _ => 0))), (p4, .inr (0, [.int 0, .int 0, .int 0, .int 0, .int 0, .int 0, .int (-1), .int 0, .int 0])), (p6, .inr (0, [.int 0, .int 0, .int 0, .int 0, .int 0, .int 0, .int (-1), .int 0, .int 0])), (p8, .inr (0, [.int 0, .int 0, .int 0, .int 0, .int 0, .int 0, .int (-1), .int 0, .int 0])), (p10, .inr (0, [.int 0, .int 0, .int 0, .int 0, .int 0, .int 0, .int (-1), .int 0, .int 0])), (p12, .inr (0, [.int 0, .int 0, .int 0, .int 0, .int 0, .int 0, .int (-1), .int 0, .int 0]))]) rfl ?_
  refine j_aast g 1 3 8 0 rfl rfl rfl rfl (vp_in_l (by decide)) (ws' := [(h0, .inr (3, [.ref p1, .ref p2, .ref p3, .int (0 : Int32)])), (p1, .inl (q 3, 6, .inr (.inr (.inr (.inr (va_up (va_up (va_up (va_up (va_up (fun _ => none) 0 (some p4)) 1 (some p6)) 2 (some p8)) 3 (some p10)) 4 (some p12))))))), (p2, .inl (q 3, 6, .inr (.inr (.inr (.inr (va_up (va_up (va_up (va_up (fun _ => none) 0 (some p4)) 1 (some p6)) 2 (some p8)) 3 (some p10))))))), (p3, .inl (q 0, 6, .inl (fun _ => 0))), (p4, .inr (0, [.int 0, .int 0, .int 0, .int 0, .int 0, .int 0, .int (-1), .int 0, .int 0])), (p6, .inr (0, [.int 0, .int 0, .int 0, .int 0, .int 0, .int 0, .int (-1), .int 0, .int 0])), (p8, .inr (0, [.int 0, .int 0, .int 0, .int 0, .int 0, .int 0, .int (-1), .int 0, .int 0])), (p10, .inr (0, [.int 0, .int 0, .int 0, .int 0, .int 0, .int 0, .int (-1), .int 0, .int 0])), (p12, .inr (0, [.int 0, .int 0, .int 0, .int 0, .int 0, .int 0, .int (-1), .int 0, .int 0]))]) rfl dX3_init_55 ?_
  refine j_aload_n g 1 rfl dX3_init_56 ?_
  refine j_get g fl_X3_17 0 rfl rfl dX3_init_57 ?_
  refine j_iload_n g 0 rfl dX3_init_60 ?_
  refine j_aload_n g 1 rfl dX3_init_61 ?_
  refine j_get g fl_X3_11 0 rfl rfl dX3_init_62 ?_
  refine j_iload_n g 0 rfl dX3_init_65 ?_
  refine j_aald g 1 3 rfl rfl (by decide) (vp_in_l (by decide)) (x := p12) rfl dX3_init_66 ?_
  refine j_aast g 2 3 8 0 rfl rfl rfl rfl (vp_in_l (by decide)) (ws' := [(h0, .inr (3, [.ref p1, .ref p2, .ref p3, .int (0 : Int32)])), (p1, .inl (q 3, 6, .inr (.inr (.inr (.inr (va_up (va_up (va_up (va_up (va_up (fun _ => none) 0 (some p4)) 1 (some p6)) 2 (some p8)) 3 (some p10)) 4 (some p12))))))), (p2, .inl (q 3, 6, .inr (.inr (.inr (.inr (va_up (va_up (va_up (va_up (va_up (fun _ => none) 0 (some p4)) 1 (some p6)) 2 (some p8)) 3 (some p10)) 4 (some p12))))))), (p3, .inl (q 0, 6, .inl (fun _ => 0))), (p4, .inr (0, [.int 0, .int 0, .int 0, .int 0, .int 0, .int 0, .int (-1), .int 0, .int 0])), (p6, .inr (0, [.int 0, .int 0, .int 0, .int 0, .int 0, .int 0, .int (-1), .int 0, .int 0])), (p8, .inr (0, [.int 0, .int 0, .int 0, .int 0, .int 0, .int 0, .int (-1), .int 0, .int 0])), (p10, .inr (0, [.int 0, .int 0, .int 0, .int 0, .int 0, .int 0, .int (-1), .int 0, .int 0])), (p12, .inr (0, [.int 0, .int 0, .int 0, .int 0, .int 0, .int 0, .int (-1), .int 0, .int 0]))]) rfl dX3_init_67 ?_
  refine j_iinc g 0 (n := 1) (v := 5) (lv' := [(1, .int (5 : Int32)), (0, .ref h0)]) rfl (by decide) (by decide) rfl dX3_init_68 ?_
  refine j_goto g dX3_init_71 (tgt := 37) (by decide) ?_
  refine j_iload_n g 0 rfl dX3_init_37 ?_
  refine j_bipush g (v := 6) (by decide) dX3_init_38 ?_
  refine j_icmp_ge g dX3_init_40 (tgt := 74) (by decide) (fun c => absurd c (by decide)) (fun _ => ?_)
  refine j_aload_n g 1 rfl dX3_init_43 ?_
  refine j_get g fl_X3_11 0 rfl rfl dX3_init_44 ?_
  refine j_iload_n g 0 rfl dX3_init_47 ?_
  refine j_new g (ci := 0) ws_X0 tyX0 tyX0_ok lc_X3_9 li_X0 lz_X0 rfl zdf_X0 (Nat.le_of_ble_eq_true rfl) (Nat.le_of_ble_eq_true rfl) dX3_init_48 (fun p14 => ?_)
  refine j_ws (ws' := [(h0, .inr (3, [.ref p1, .ref p2, .ref p3, .int (0 : Int32)])), (p1, .inl (q 3, 6, .inr (.inr (.inr (.inr (va_up (va_up (va_up (va_up (va_up (fun _ => none) 0 (some p4)) 1 (some p6)) 2 (some p8)) 3 (some p10)) 4 (some p12))))))), (p2, .inl (q 3, 6, .inr (.inr (.inr (.inr (va_up (va_up (va_up (va_up (va_up (fun _ => none) 0 (some p4)) 1 (some p6)) 2 (some p8)) 3 (some p10)) 4 (some p12))))))), (p3, .inl (q 0, 6, .inl (fun _ => 0))), (p4, .inr (0, [.int 0, .int 0, .int 0, .int 0, .int 0, .int 0, .int (-1), .int 0, .int 0])), (p6, .inr (0, [.int 0, .int 0, .int 0, .int 0, .int 0, .int 0, .int (-1), .int 0, .int 0])), (p8, .inr (0, [.int 0, .int 0, .int 0, .int 0, .int 0, .int 0, .int (-1), .int 0, .int 0])), (p10, .inr (0, [.int 0, .int 0, .int 0, .int 0, .int 0, .int 0, .int (-1), .int 0, .int 0])), (p12, .inr (0, [.int 0, .int 0, .int 0, .int 0, .int 0, .int 0, .int (-1), .int 0, .int 0])), (p14, .inr (0, [.int 0, .int 0, .int 0, .int 0, .int 0, .int 0, .int 0, .int 0, .int 0]))]) rfl ?_
  refine j_dup g rfl dX3_init_51 ?_
  refine j_callN g gx (W1 := [(h0, .inr (3, [.ref p1, .ref p2, .ref p3, .int (0 : Int32)])), (p1, .inl (q 3, 6, .inr (.inr (.inr (.inr (va_up (va_up (va_up (va_up (va_up (fun _ => none) 0 (some p4)) 1 (some p6)) 2 (some p8)) 3 (some p10)) 4 (some p12))))))), (p2, .inl (q 3, 6, .inr (.inr (.inr (.inr (va_up (va_up (va_up (va_up (va_up (fun _ => none) 0 (some p4)) 1 (some p6)) 2 (some p8)) 3 (some p10)) 4 (some p12))))))), (p3, .inl (q 0, 6, .inl (fun _ => 0))), (p4, .inr (0, [.int 0, .int 0, .int 0, .int 0, .int 0, .int 0, .int (-1), .int 0, .int 0])), (p6, .inr (0, [.int 0, .int 0, .int 0, .int 0, .int 0, .int 0, .int (-1), .int 0, .int 0])), (p8, .inr (0, [.int 0, .int 0, .int 0, .int 0, .int 0, .int 0, .int (-1), .int 0, .int 0])), (p10, .inr (0, [.int 0, .int 0, .int 0, .int 0, .int 0, .int 0, .int (-1), .int 0, .int 0])), (p12, .inr (0, [.int 0, .int 0, .int 0, .int 0, .int 0, .int 0, .int (-1), .int 0, .int 0]))]) (c_X0_init (q := q) p14) ci_X3_28 rfl (Nat.le_of_ble_eq_true rfl) (Nat.le_of_ble_eq_true rfl) (Nat.le_of_ble_eq_true rfl) (Nat.le_of_ble_eq_true rfl) (Nat.le_of_ble_eq_true rfl) dX3_init_52 (fun u15 hu15 => ?_)
  refine j_ws (ws' := [(h0, .inr (3, [.ref p1, .ref p2, .ref p3, .int (0 : Int32)])), (p1, .inl (q 3, 6, .inr (.inr (.inr (.inr (va_up (va_up (va_up (va_up (va_up (fun _ => none) 0 (some p4)) 1 (some p6)) 2 (some p8)) 3 (some p10)) 4 (some p12))))))), (p2, .inl (q 3, 6, .inr (.inr (.inr (.inr (va_up (va_up (va_up (va_up (va_up (fun _ => none) 0 (some p4)) 1 (some p6)) 2 (some p8)) 3 (some p10)) 4 (some p12))))))), (p3, .inl (q 0, 6, .inl (fun _ => 0))), (p4, .inr (0, [.int 0, .int 0, .int 0, .int 0, .int 0, .int 0, .int (-1), .int 0, .int 0])), (p6, .inr (0, [.int 0, .int 0, .int 0, .int 0, .int 0, .int 0, .int (-1), .int 0, .int 0])), (p8, .inr (0, [.int 0, .int 0, .int 0, .int 0, .int 0, .int 0, .int (-1), .int 0, .int 0])), (p10, .inr (0, [.int 0, .int 0, .int 0, .int 0, .int 0, .int 0, .int (-1), .int 0, .int 0])), (p12, .inr (0, [.int 0, .int 0, .int 0, .int 0, .int 0, .int 0, .int (-1), .int 0, .int 0])), (p14, .inr (0, [.int 0, .int 0, .int 0, .int 0, .int 0, .int 0, .int (-1), .int 0, .int 0]))]) rfl ?_
  refine j_aast g 1 3 9 0 rfl rfl rfl rfl (vp_in_l (by decide)) (ws' := [(h0, .inr (3, [.ref p1, .ref p2, .ref p3, .int (0 : Int32)])), (p1, .inl (q 3, 6, .inr (.inr (.inr (.inr (va_up (va_up (va_up (va_up (va_up (va_up (fun _ => none) 0 (some p4)) 1 (some p6)) 2 (some p8)) 3 (some p10)) 4 (some p12)) 5 (some p14))))))), (p2, .inl (q 3, 6, .inr (.inr (.inr (.inr (va_up (va_up (va_up (va_up (va_up (fun _ => none) 0 (some p4)) 1 (some p6)) 2 (some p8)) 3 (some p10)) 4 (some p12))))))), (p3, .inl (q 0, 6, .inl (fun _ => 0))), (p4, .inr (0, [.int 0, .int 0, .int 0, .int 0, .int 0, .int 0, .int (-1), .int 0, .int 0])), (p6, .inr (0, [.int 0, .int 0, .int 0, .int 0, .int 0, .int 0, .int (-1), .int 0, .int 0])), (p8, .inr (0, [.int 0, .int 0, .int 0, .int 0, .int 0, .int 0, .int (-1), .int 0, .int 0])), (p10, .inr (0, [.int 0, .int 0, .int 0, .int 0, .int 0, .int 0, .int (-1), .int 0, .int 0])), (p12, .inr (0, [.int 0, .int 0, .int 0, .int 0, .int 0, .int 0, .int (-1), .int 0, .int 0])), (p14, .inr (0, [.int 0, .int 0, .int 0, .int 0, .int 0, .int 0, .int (-1), .int 0, .int 0]))]) rfl dX3_init_55 ?_
  refine j_aload_n g 1 rfl dX3_init_56 ?_
  refine j_get g fl_X3_17 0 rfl rfl dX3_init_57 ?_
  refine j_iload_n g 0 rfl dX3_init_60 ?_
  refine j_aload_n g 1 rfl dX3_init_61 ?_
  refine j_get g fl_X3_11 0 rfl rfl dX3_init_62 ?_
  refine j_iload_n g 0 rfl dX3_init_65 ?_
  refine j_aald g 1 3 rfl rfl (by decide) (vp_in_l (by decide)) (x := p14) rfl dX3_init_66 ?_
  refine j_aast g 2 3 9 0 rfl rfl rfl rfl (vp_in_l (by decide)) (ws' := [(h0, .inr (3, [.ref p1, .ref p2, .ref p3, .int (0 : Int32)])), (p1, .inl (q 3, 6, .inr (.inr (.inr (.inr (va_up (va_up (va_up (va_up (va_up (va_up (fun _ => none) 0 (some p4)) 1 (some p6)) 2 (some p8)) 3 (some p10)) 4 (some p12)) 5 (some p14))))))), (p2, .inl (q 3, 6, .inr (.inr (.inr (.inr (va_up (va_up (va_up (va_up (va_up (va_up (fun _ => none) 0 (some p4)) 1 (some p6)) 2 (some p8)) 3 (some p10)) 4 (some p12)) 5 (some p14))))))), (p3, .inl (q 0, 6, .inl (fun _ => 0))), (p4, .inr (0, [.int 0, .int 0, .int 0, .int 0, .int 0, .int 0, .int (-1), .int 0, .int 0])), (p6, .inr (0, [.int 0, .int 0, .int 0, .int 0, .int 0, .int 0, .int (-1), .int 0, .int 0])), (p8, .inr (0, [.int 0, .int 0, .int 0, .int 0, .int 0, .int 0, .int (-1), .int 0, .int 0])), (p10, .inr (0, [.int 0, .int 0, .int 0, .int 0, .int 0, .int 0, .int (-1), .int 0, .int 0])), (p12, .inr (0, [.int 0, .int 0, .int 0, .int 0, .int 0, .int 0, .int (-1), .int 0, .int 0])), (p14, .inr (0, [.int 0, .int 0, .int 0, .int 0, .int 0, .int 0, .int (-1), .int 0, .int 0]))]) rfl dX3_init_67 ?_
  refine j_iinc g 0 (n := 1) (v := 6) (lv' := [(1, .int (6 : Int32)), (0, .ref h0)]) rfl (by decide) (by decide) rfl dX3_init_68 ?_
  refine j_goto g dX3_init_71 (tgt := 37) (by decide) ?_
  refine j_iload_n g 0 rfl dX3_init_37 ?_
  refine j_bipush g (v := 6) (by decide) dX3_init_38 ?_
  refine j_icmp_ge g dX3_init_40 (tgt := 74) (by decide) (fun _ => ?_) (fun c => absurd (by decide) c)
  refine j_fn 1 (f2 := fun j => some ((fun i => [h0, p1, p2, p3, p4, p6, p8, p10, p12, p14].getD i 0) (4 + j))) rfl ?_ (ws' := [(h0, .inr (3, [.ref p1, .ref p2, .ref p3, .int (0 : Int32)])), (p1, .inl (q 3, 6, .inr (.inr (.inr (.inr (fun j => some ((fun i => [h0, p1, p2, p3, p4, p6, p8, p10, p12, p14].getD i 0) (4 + j)))))))), (p2, .inl (q 3, 6, .inr (.inr (.inr (.inr (va_up (va_up (va_up (va_up (va_up (va_up (fun _ => none) 0 (some p4)) 1 (some p6)) 2 (some p8)) 3 (some p10)) 4 (some p12)) 5 (some p14))))))), (p3, .inl (q 0, 6, .inl (fun _ => 0))), (p4, .inr (0, [.int 0, .int 0, .int 0, .int 0, .int 0, .int 0, .int (-1), .int 0, .int 0])), (p6, .inr (0, [.int 0, .int 0, .int 0, .int 0, .int 0, .int 0, .int (-1), .int 0, .int 0])), (p8, .inr (0, [.int 0, .int 0, .int 0, .int 0, .int 0, .int 0, .int (-1), .int 0, .int 0])), (p10, .inr (0, [.int 0, .int 0, .int 0, .int 0, .int 0, .int 0, .int (-1), .int 0, .int 0])), (p12, .inr (0, [.int 0, .int 0, .int 0, .int 0, .int 0, .int 0, .int (-1), .int 0, .int 0])), (p14, .inr (0, [.int 0, .int 0, .int 0, .int 0, .int 0, .int 0, .int (-1), .int 0, .int 0]))]) rfl ?_
  · intro i hi
    match i, hi with
    | 0, _ => rfl
    | 1, _ => rfl
    | 2, _ => rfl
    | 3, _ => rfl
    | 4, _ => rfl
    | 5, _ => rfl
  refine j_fn 2 (f2 := fun j => some ((fun i => [h0, p1, p2, p3, p4, p6, p8, p10, p12, p14].getD i 0) (4 + j))) rfl ?_ (ws' := [(h0, .inr (3, [.ref p1, .ref p2, .ref p3, .int (0 : Int32)])), (p1, .inl (q 3, 6, .inr (.inr (.inr (.inr (fun j => some ((fun i => [h0, p1, p2, p3, p4, p6, p8, p10, p12, p14].getD i 0) (4 + j)))))))), (p2, .inl (q 3, 6, .inr (.inr (.inr (.inr (fun j => some ((fun i => [h0, p1, p2, p3, p4, p6, p8, p10, p12, p14].getD i 0) (4 + j)))))))), (p3, .inl (q 0, 6, .inl (fun _ => 0))), (p4, .inr (0, [.int 0, .int 0, .int 0, .int 0, .int 0, .int 0, .int (-1), .int 0, .int 0])), (p6, .inr (0, [.int 0, .int 0, .int 0, .int 0, .int 0, .int 0, .int (-1), .int 0, .int 0])), (p8, .inr (0, [.int 0, .int 0, .int 0, .int 0, .int 0, .int 0, .int (-1), .int 0, .int 0])), (p10, .inr (0, [.int 0, .int 0, .int 0, .int 0, .int 0, .int 0, .int (-1), .int 0, .int 0])), (p12, .inr (0, [.int 0, .int 0, .int 0, .int 0, .int 0, .int 0, .int (-1), .int 0, .int 0])), (p14, .inr (0, [.int 0, .int 0, .int 0, .int 0, .int 0, .int 0, .int (-1), .int 0, .int 0]))]) rfl ?_
  · intro i hi
    match i, hi with
    | 0, _ => rfl
    | 1, _ => rfl
    | 2, _ => rfl
    | 3, _ => rfl
    | 4, _ => rfl
    | 5, _ => rfl
  exact hret _ _ (fun i => [h0, p1, p2, p3, p4, p6, p8, p10, p12, p14].getD i 0) dX3_init_74 rfl

theorem dX4_init_0 : decode cX4_init 0 = .ok (.aload_n 0, 1) := by decide +kernel
theorem dX4_init_1 : decode cX4_init 1 = .ok (.invokespecial 3, 3) := by decide +kernel
theorem dX4_init_4 : decode cX4_init 4 = .ok (.aload_n 0, 1) := by decide +kernel
theorem dX4_init_5 : decode cX4_init 5 = .ok (.bipush 6, 2) := by decide +kernel
theorem dX4_init_7 : decode cX4_init 7 = .ok (.sipush 1000, 3) := by decide +kernel
theorem dX4_init_10 : decode cX4_init 10 = .ok (.multianewarray 9 2, 4) := by decide +kernel
theorem dX4_init_14 : decode cX4_init 14 = .ok (.putfield 11, 3) := by decide +kernel
theorem dX4_init_17 : decode cX4_init 17 = .ok (.aload_n 0, 1) := by decide +kernel
theorem dX4_init_18 : decode cX4_init 18 = .ok (.getfield 11, 3) := by decide +kernel
theorem dX4_init_21 : decode cX4_init 21 = .ok (.iconst 0, 1) := by decide +kernel
theorem dX4_init_22 : decode cX4_init 22 = .ok (.aaload, 1) := by decide +kernel
theorem dX4_init_23 : decode cX4_init 23 = .ok (.sipush 1000, 3) := by decide +kernel
theorem dX4_init_26 : decode cX4_init 26 = .ok (.invokestatic 16, 3) := by decide +kernel
theorem dX4_init_29 : decode cX4_init 29 = .ok (.aload_n 0, 1) := by decide +kernel
theorem dX4_init_30 : decode cX4_init 30 = .ok (.getfield 11, 3) := by decide +kernel
theorem dX4_init_33 : decode cX4_init 33 = .ok (.iconst 0, 1) := by decide +kernel
theorem dX4_init_34 : decode cX4_init 34 = .ok (.aaload, 1) := by decide +kernel
theorem dX4_init_35 : decode cX4_init 35 = .ok (.iconst 0, 1) := by decide +kernel
theorem dX4_init_36 : decode cX4_init 36 = .ok (.iconst 0, 1) := by decide +kernel
theorem dX4_init_37 : decode cX4_init 37 = .ok (.iastore, 1) := by decide +kernel
theorem dX4_init_38 : decode cX4_init 38 = .ok (.return_, 1) := by decide +kernel
set_option maxRecDepth 20000 in
set_option maxHeartbeats 8000000 in
theorem c_X4_init {q : Nat → ClassId} (h0 : Nat) : ctC q yX4_init cX4_init 1 1 23 7 6006 [.ref h0] [(h0, .inr (4, [.null]))] (fun (u : Nat → Nat) => [(u 0, .inr (4, [.ref (u 1)])), (u 1, .inl (q 5, 6, .inr (.inr (.inr (.inr (fun j => some (u (2 + j)))))))), (u (2 + 0), .inl (q 0, 1000, .inl (upd (fillI (fun _ => 0) 1000 (1000 : Int32)) 0 (0 : Int32)))), (u (2 + 1), .inl (q 0, 1000, .inl (fun _ => 0))), (u (2 + 2), .inl (q 0, 1000, .inl (fun _ => 0))), (u (2 + 3), .inl (q 0, 1000, .inl (fun _ => 0))), (u (2 + 4), .inl (q 0, 1000, .inl (fun _ => 0))), (u (2 + 5), .inl (q 0, 1000, .inl (fun _ => 0)))]) (fun u => u 0 = h0) := by
  refine met_C (by decide) rfl (Nat.le_of_ble_eq_true rfl) (fun Γ g gx gi hret => ?_)
  show jw Γ 1 0 0 [(h0, .inr (4, [.null]))] [(0, .ref h0)] [] 0
  refine j_aload_n g 0 rfl dX4_init_0 ?_
  refine j_objInit g lo_X4 (Nat.le_of_ble_eq_true rfl) (Nat.le_of_ble_eq_true rfl) dX4_init_1 ?_
  refine j_aload_n g 0 rfl dX4_init_4 ?_
  refine j_bipush g (v := 6) (by decide) dX4_init_5 ?_
  refine j_sipush g (v := 1000) (by decide) dX4_init_7 ?_
  refine j_mna g gx lc_mna ac_int (Nat.le_of_ble_eq_true rfl) (Nat.le_of_ble_eq_true rfl) dX4_init_10 (fun p1 r2 => ?_)
  refine j_ws (ws' := [(h0, .inr (4, [.null])), (p1, .inl (q 5, 6, .inr (.inr (.inr (.inr (fun i => if i < 6 then some (r2 i) else none)))))), (r2 0, .inl (q 0, 1000, .inl (fun _ => 0))), (r2 1, .inl (q 0, 1000, .inl (fun _ => 0))), (r2 2, .inl (q 0, 1000, .inl (fun _ => 0))), (r2 3, .inl (q 0, 1000, .inl (fun _ => 0))), (r2 4, .inl (q 0, 1000, .inl (fun _ => 0))), (r2 5, .inl (q 0, 1000, .inl (fun _ => 0)))]) rfl ?_
  refine j_putF g gi fl_X4_11 tyX4 tyX4_ok nmX4 rfl (tyX4_ok 0 (by decide)) rfl 0 rfl rfl rfl (Nat.le_of_ble_eq_true rfl) (ws' := [(h0, .inr (4, [.ref p1])), (p1, .inl (q 5, 6, .inr (.inr (.inr (.inr (fun i => if i < 6 then some (r2 i) else none)))))), (r2 0, .inl (q 0, 1000, .inl (fun _ => 0))), (r2 1, .inl (q 0, 1000, .inl (fun _ => 0))), (r2 2, .inl (q 0, 1000, .inl (fun _ => 0))), (r2 3, .inl (q 0, 1000, .inl (fun _ => 0))), (r2 4, .inl (q 0, 1000, .inl (fun _ => 0))), (r2 5, .inl (q 0, 1000, .inl (fun _ => 0)))]) rfl dX4_init_14 ?_
  refine j_aload_n g 0 rfl dX4_init_17 ?_
  refine j_get g fl_X4_11 0 rfl rfl dX4_init_18 ?_
  refine j_iconst g (v := 0) (by decide) dX4_init_21 ?_
  refine j_aald g 1 5 rfl rfl (by decide) (vp_in_l (by decide)) (x := (r2 0)) rfl dX4_init_22 ?_
  refine j_sipush g (v := 1000) (by decide) dX4_init_23 ?_
  refine j_fillI g cl_X4_16 2 rfl (Nat.le_of_ble_eq_true rfl) (Nat.le_of_ble_eq_true rfl) (ws' := [(h0, .inr (4, [.ref p1])), (p1, .inl (q 5, 6, .inr (.inr (.inr (.inr (fun i => if i < 6 then some (r2 i) else none)))))), (r2 0, .inl (q 0, 1000, .inl (fillI (fun _ => 0) 1000 (1000 : Int32)))), (r2 1, .inl (q 0, 1000, .inl (fun _ => 0))), (r2 2, .inl (q 0, 1000, .inl (fun _ => 0))), (r2 3, .inl (q 0, 1000, .inl (fun _ => 0))), (r2 4, .inl (q 0, 1000, .inl (fun _ => 0))), (r2 5, .inl (q 0, 1000, .inl (fun _ => 0)))]) rfl (Nat.le_of_ble_eq_true rfl) dX4_init_26 ?_ (hcells := Nat.le_of_ble_eq_true rfl) (hslots := Nat.le_of_ble_eq_true rfl)
  refine j_aload_n g 0 rfl dX4_init_29 ?_
  refine j_get g fl_X4_11 0 rfl rfl dX4_init_30 ?_
  refine j_iconst g (v := 0) (by decide) dX4_init_33 ?_
  refine j_aald g 1 5 rfl rfl (by decide) (vp_in_l (by decide)) (x := (r2 0)) rfl dX4_init_34 ?_
  refine j_iconst g (v := 0) (by decide) dX4_init_35 ?_
  refine j_iconst g (v := 0) (by decide) dX4_init_36 ?_
  refine j_iast g 2 rfl (vp_in_l (by decide)) (ws' := [(h0, .inr (4, [.ref p1])), (p1, .inl (q 5, 6, .inr (.inr (.inr (.inr (fun i => if i < 6 then some (r2 i) else none)))))), (r2 0, .inl (q 0, 1000, .inl (upd (fillI (fun _ => 0) 1000 (1000 : Int32)) 0 (0 : Int32)))), (r2 1, .inl (q 0, 1000, .inl (fun _ => 0))), (r2 2, .inl (q 0, 1000, .inl (fun _ => 0))), (r2 3, .inl (q 0, 1000, .inl (fun _ => 0))), (r2 4, .inl (q 0, 1000, .inl (fun _ => 0))), (r2 5, .inl (q 0, 1000, .inl (fun _ => 0)))]) rfl dX4_init_37 ?_
  refine j_fn 1 (f2 := fun j => some ((fun i => [h0, p1, r2 0, r2 1, r2 2, r2 3, r2 4, r2 5].getD i 0) (2 + j))) rfl ?_ (ws' := [(h0, .inr (4, [.ref p1])), (p1, .inl (q 5, 6, .inr (.inr (.inr (.inr (fun j => some ((fun i => [h0, p1, r2 0, r2 1, r2 2, r2 3, r2 4, r2 5].getD i 0) (2 + j)))))))), (r2 0, .inl (q 0, 1000, .inl (upd (fillI (fun _ => 0) 1000 (1000 : Int32)) 0 (0 : Int32)))), (r2 1, .inl (q 0, 1000, .inl (fun _ => 0))), (r2 2, .inl (q 0, 1000, .inl (fun _ => 0))), (r2 3, .inl (q 0, 1000, .inl (fun _ => 0))), (r2 4, .inl (q 0, 1000, .inl (fun _ => 0))), (r2 5, .inl (q 0, 1000, .inl (fun _ => 0)))]) rfl ?_
  · intro i hi
    match i, hi with
    | 0, _ => rfl
    | 1, _ => rfl
    | 2, _ => rfl
    | 3, _ => rfl
    | 4, _ => rfl
    | 5, _ => rfl
  exact hret _ _ (fun i => [h0, p1, r2 0, r2 1, r2 2, r2 3, r2 4, r2 5].getD i 0) dX4_init_38 rfl

theorem dX1_init_0 : decode cX1_init 0 = .ok (.aload_n 0, 1) := by decide +kernel
theorem dX1_init_1 : decode cX1_init 1 = .ok (.invokespecial 3, 3) := by decide +kernel
theorem dX1_init_4 : decode cX1_init 4 = .ok (.aload_n 0, 1) := by decide +kernel
theorem dX1_init_5 : decode cX1_init 5 = .ok (.bipush 6, 2) := by decide +kernel
theorem dX1_init_7 : decode cX1_init 7 = .ok (.newarray .int, 2) := by decide +kernel
theorem dX1_init_9 : decode cX1_init 9 = .ok (.putfield 9, 3) := by decide +kernel
theorem dX1_init_12 : decode cX1_init 12 = .ok (.aload_n 0, 1) := by decide +kernel
theorem dX1_init_13 : decode cX1_init 13 = .ok (.iconst 5, 1) := by decide +kernel
theorem dX1_init_14 : decode cX1_init 14 = .ok (.anewarray 15, 3) := by decide +kernel
theorem dX1_init_17 : decode cX1_init 17 = .ok (.putfield 17, 3) := by decide +kernel
theorem dX1_init_20 : decode cX1_init 20 = .ok (.iconst 0, 1) := by decide +kernel
theorem dX1_init_21 : decode cX1_init 21 = .ok (.istore_n 1, 1) := by decide +kernel
theorem dX1_init_22 : decode cX1_init 22 = .ok (.iload_n 1, 1) := by decide +kernel
theorem dX1_init_23 : decode cX1_init 23 = .ok (.iconst 4, 1) := by decide +kernel
theorem dX1_init_24 : decode cX1_init 24 = .ok (.if_icmp .gt 22, 3) := by decide +kernel
theorem dX1_init_27 : decode cX1_init 27 = .ok (.aload_n 0, 1) := by decide +kernel
theorem dX1_init_28 : decode cX1_init 28 = .ok (.getfield 17, 3) := by decide +kernel
theorem dX1_init_31 : decode cX1_init 31 = .ok (.iload_n 1, 1) := by decide +kernel
theorem dX1_init_32 : decode cX1_init 32 = .ok (.new 15, 3) := by decide +kernel
theorem dX1_init_35 : decode cX1_init 35 = .ok (.dup, 1) := by decide +kernel
theorem dX1_init_36 : decode cX1_init 36 = .ok (.invokespecial 21, 3) := by decide +kernel
theorem dX1_init_39 : decode cX1_init 39 = .ok (.aastore, 1) := by decide +kernel
theorem dX1_init_40 : decode cX1_init 40 = .ok (.iinc 1 1, 3) := by decide +kernel
theorem dX1_init_43 : decode cX1_init 43 = .ok (.goto (-21), 3) := by decide +kernel
theorem dX1_init_46 : decode cX1_init 46 = .ok (.return_, 1) := by decide +kernel
set_option maxRecDepth 20000 in
set_option maxHeartbeats 8000000 in
theorem c_X1_init {q : Nat → ClassId} (h0 : Nat) : ctC q yX1_init cX1_init 2 2 32 12 96 [.ref h0] [(h0, .inr (1, [.null, .null]))] (fun (u : Nat → Nat) => [(u 0, .inr (1, [.ref (u 1), .ref (u 2)])), (u 1, .inl (q 0, 6, .inl (fun _ => 0))), (u 2, .inl (q 4, 5, .inr (.inr (.inr (.inr (fun j => some (u (3 + j)))))))), (u (3 + 0), .inr (2, [.ref (u (8 + 0))])), (u (3 + 1), .inr (2, [.ref (u (8 + 1))])), (u (3 + 2), .inr (2, [.ref (u (8 + 2))])), (u (3 + 3), .inr (2, [.ref (u (8 + 3))])), (u (3 + 4), .inr (2, [.ref (u (8 + 4))])), (u (8 + 0), .inl (q 1, 16, .inr (.inl (fun _ => 0)))), (u (8 + 1), .inl (q 1, 16, .inr (.inl (fun _ => 0)))), (u (8 + 2), .inl (q 1, 16, .inr (.inl (fun _ => 0)))), (u (8 + 3), .inl (q 1, 16, .inr (.inl (fun _ => 0)))), (u (8 + 4), .inl (q 1, 16, .inr (.inl (fun _ => 0))))]) (fun u => u 0 = h0) := by
  refine met_C (by decide) rfl (Nat.le_of_ble_eq_true rfl) (fun Γ g gx gi hret => ?_)
  show jw Γ 2 0 0 [(h0, .inr (1, [.null, .null]))] [(0, .ref h0)] [] 0
  refine j_aload_n g 0 rfl dX1_init_0 ?_
  refine j_objInit g lo_X1 (Nat.le_of_ble_eq_true rfl) (Nat.le_of_ble_eq_true rfl) dX1_init_1 ?_
  refine j_aload_n g 0 rfl dX1_init_4 ?_
  refine j_bipush g (v := 6) (by decide) dX1_init_5 ?_
  refine j_newa g (t := 0) rfl (fun _ h => by cases h) rfl ac_int (N := 6) (a0 := (6, .inl (fun _ => 0))) (fun _ => rfl) (by decide) (by decide) (Nat.le_of_ble_eq_true rfl) (Nat.le_of_ble_eq_true rfl) (Nat.le_of_ble_eq_true rfl) dX1_init_7 (fun p1 => ?_)
  refine j_ws (ws' := [(h0, .inr (1, [.null, .null])), (p1, .inl (q 0, 6, .inl (fun _ => 0)))]) rfl ?_
  refine j_putF g gi fl_X1_9 tyX1 tyX1_ok nmX1 rfl (tyX1_ok 0 (by decide)) rfl 0 rfl rfl rfl (Nat.le_of_ble_eq_true rfl) (ws' := [(h0, .inr (1, [.ref p1, .null])), (p1, .inl (q 0, 6, .inl (fun _ => 0)))]) rfl dX1_init_9 ?_
  refine j_aload_n g 0 rfl dX1_init_12 ?_
  refine j_iconst g (v := 5) (by decide) dX1_init_13 ?_
  refine j_newq g (fun _ h => h.2.2.2.2.1) gx (t := 4) rfl lc_X1_15 (N := 5) (by decide) (by decide) (by decide) (Nat.le_of_ble_eq_true rfl) (Nat.le_of_ble_eq_true rfl) dX1_init_14 (fun p2 => ?_)
  refine j_ws (ws' := [(h0, .inr (1, [.ref p1, .null])), (p1, .inl (q 0, 6, .inl (fun _ => 0))), (p2, .inl (q 4, 5, .inr (.inr (.inr (.inr (fun _ => none))))))]) rfl ?_
  refine j_putF g gi fl_X1_17 tyX1 tyX1_ok nmX1 rfl (tyX1_ok 1 (by decide)) rfl 0 rfl rfl rfl (Nat.le_of_ble_eq_true rfl) (ws' := [(h0, .inr (1, [.ref p1, .ref p2])), (p1, .inl (q 0, 6, .inl (fun _ => 0))), (p2, .inl (q 4, 5, .inr (.inr (.inr (.inr (fun _ => none))))))]) rfl dX1_init_17 ?_
  refine j_iconst g (v := 0) (by decide) dX1_init_20 ?_
  refine j_istore_n g (lv' := [(1, .int (0 : Int32)), (0, .ref h0)]) (by decide) rfl dX1_init_21 ?_
  refine j_iload_n g 0 rfl dX1_init_22 ?_
  refine j_iconst g (v := 4) (by decide) dX1_init_23 ?_
  refine j_icmp_gt g dX1_init_24 (tgt := 46) (by decide) (fun c => absurd c (by decide)) (fun _ => ?_)
  refine j_aload_n g 1 rfl dX1_init_27 ?_
  refine j_get g fl_X1_17 0 rfl rfl dX1_init_28 ?_
  refine j_iload_n g 0 rfl dX1_init_31 ?_
  refine j_new g (ci := 2) ws_X2 tyX2 tyX2_ok lc_X1_15 li_X2 lz_X2 rfl zdf_X2 (Nat.le_of_ble_eq_true rfl) (Nat.le_of_ble_eq_true rfl) dX1_init_32 (fun p3 => ?_)
  refine j_ws (ws' := [(h0, .inr (1, [.ref p1, .ref p2])), (p1, .inl (q 0, 6, .inl (fun _ => 0))), (p2, .inl (q 4, 5, .inr (.inr (.inr (.inr (fun _ => none)))))), (p3, .inr (2, [.null]))]) rfl ?_
  refine j_dup g rfl dX1_init_35 ?_
  refine j_callN g gx (W1 := [(h0, .inr (1, [.ref p1, .ref p2])), (p1, .inl (q 0, 6, .inl (fun _ => 0))), (p2, .inl (q 4, 5, .inr (.inr (.inr (.inr (fun _ => none))))))]) (c_X2_init (q := q) p3) ci_X1_21 rfl (Nat.le_of_ble_eq_true rfl) (Nat.le_of_ble_eq_true rfl) (Nat.le_of_ble_eq_true rfl) (Nat.le_of_ble_eq_true rfl) (Nat.le_of_ble_eq_true rfl) dX1_init_36 (fun u4 hu4 => ?_)
  subst hu4
  refine j_ws (ws' := [(h0, .inr (1, [.ref p1, .ref p2])), (p1, .inl (q 0, 6, .inl (fun _ => 0))), (p2, .inl (q 4, 5, .inr (.inr (.inr (.inr (fun _ => none)))))), (u4 0, .inr (2, [.ref (u4 1)])), (u4 1, .inl (q 1, 16, .inr (.inl (fun _ => 0))))]) rfl ?_
  refine j_aast g 2 4 3 2 rfl rfl rfl rfl (vp_in_l (by decide)) (ws' := [(h0, .inr (1, [.ref p1, .ref p2])), (p1, .inl (q 0, 6, .inl (fun _ => 0))), (p2, .inl (q 4, 5, .inr (.inr (.inr (.inr (va_up (fun _ => none) 0 (some (u4 0)))))))), (u4 0, .inr (2, [.ref (u4 1)])), (u4 1, .inl (q 1, 16, .inr (.inl (fun _ => 0))))]) rfl dX1_init_39 ?_
  refine j_iinc g 0 (n := 1) (v := 1) (lv' := [(1, .int (1 : Int32)), (0, .ref h0)]) rfl (by decide) (by decide) rfl dX1_init_40 ?_
  refine j_goto g dX1_init_43 (tgt := 22) (by decide) ?_
  refine j_iload_n g 0 rfl dX1_init_22 ?_
  refine j_iconst g (v := 4) (by decide) dX1_init_23 ?_
  refine j_icmp_gt g dX1_init_24 (tgt := 46) (by decide) (fun c => absurd c (by decide)) (fun _ => ?_)
  refine j_aload_n g 1 rfl dX1_init_27 ?_
  refine j_get g fl_X1_17 0 rfl rfl dX1_init_28 ?_
  refine j_iload_n g 0 rfl dX1_init_31 ?_
  refine j_new g (ci := 2) ws_X2 tyX2 tyX2_ok lc_X1_15 li_X2 lz_X2 rfl zdf_X2 (Nat.le_of_ble_eq_true rfl) (Nat.le_of_ble_eq_true rfl) dX1_init_32 (fun p5 => ?_)
  refine j_ws (ws' := [(h0, .inr (1, [.ref p1, .ref p2])), (p1, .inl (q 0, 6, .inl (fun _ => 0))), (p2, .inl (q 4, 5, .inr (.inr (.inr (.inr (va_up (fun _ => none) 0 (some (u4 0)))))))), (u4 0, .inr (2, [.ref (u4 1)])), (u4 1, .inl (q 1, 16, .inr (.inl (fun _ => 0)))), (p5, .inr (2, [.null]))]) rfl ?_
  refine j_dup g rfl dX1_init_35 ?_
  refine j_callN g gx (W1 := [(h0, .inr (1, [.ref p1, .ref p2])), (p1, .inl (q 0, 6, .inl (fun _ => 0))), (p2, .inl (q 4, 5, .inr (.inr (.inr (.inr (va_up (fun _ => none) 0 (some (u4 0)))))))), (u4 0, .inr (2, [.ref (u4 1)])), (u4 1, .inl (q 1, 16, .inr (.inl (fun _ => 0))))]) (c_X2_init (q := q) p5) ci_X1_21 rfl (Nat.le_of_ble_eq_true rfl) (Nat.le_of_ble_eq_true rfl) (Nat.le_of_ble_eq_true rfl) (Nat.le_of_ble_eq_true rfl) (Nat.le_of_ble_eq_true rfl) dX1_init_36 (fun u6 hu6 => ?_)
  subst hu6
  refine j_ws (ws' := [(h0, .inr (1, [.ref p1, .ref p2])), (p1, .inl (q 0, 6, .inl (fun _ => 0))), (p2, .inl (q 4, 5, .inr (.inr (.inr (.inr (va_up (fun _ => none) 0 (some (u4 0)))))))), (u4 0, .inr (2, [.ref (u4 1)])), (u4 1, .inl (q 1, 16, .inr (.inl (fun _ => 0)))), (u6 0, .inr (2, [.ref (u6 1)])), (u6 1, .inl (q 1, 16, .inr (.inl (fun _ => 0))))]) rfl ?_
  refine j_aast g 2 4 5 2 rfl rfl rfl rfl (vp_in_l (by decide)) (ws' := [(h0, .inr (1, [.ref p1, .ref p2])), (p1, .inl (q 0, 6, .inl (fun _ => 0))), (p2, .inl (q 4, 5, .inr (.inr (.inr (.inr (va_up (va_up (fun _ => none) 0 (some (u4 0))) 1 (some (u6 0)))))))), (u4 0, .inr (2, [.ref (u4 1)])), (u4 1, .inl (q 1, 16, .inr (.inl (fun _ => 0)))), (u6 0, .inr (2, [.ref (u6 1)])), (u6 1, .inl (q 1, 16, .inr (.inl (fun _ => 0))))]) rfl dX1_init_39 ?_
  refine j_iinc g 0 (n := 1) (v := 2) (lv' := [(1, .int (2 : Int32)), (0, .ref h0)]) rfl (by decide) (by decide) rfl dX1_init_40 ?_
  refine j_goto g dX1_init_43 (tgt := 22) (by decide) ?_
  refine j_iload_n g 0 rfl dX1_init_22 ?_
  refine j_iconst g (v := 4) (by decide) dX1_init_23 ?_
  refine j_icmp_gt g dX1_init_24 (tgt := 46) (by decide) (fun c => absurd c (by decide)) (fun _ => ?_)
  refine j_aload_n g 1 rfl dX1_init_27 ?_
  refine j_get g fl_X1_17 0 rfl rfl dX1_init_28 ?_
  refine j_iload_n g 0 rfl dX1_init_31 ?_
  refine j_new g (ci := 2) ws_X2 tyX2 tyX2_ok lc_X1_15 li_X2 lz_X2 rfl zdf_X2 (Nat.le_of_ble_eq_true rfl) (Nat.le_of_ble_eq_true rfl) dX1_init_32 (fun p7 => ?_)
  refine j_ws (ws' := [(h0, .inr (1, [.ref p1, .ref p2])), (p1, .inl (q 0, 6, .inl (fun _ => 0))), (p2, .inl (q 4, 5, .inr (.inr (.inr (.inr (va_up (va_up (fun _ => none) 0 (some (u4 0))) 1 (some (u6 0)))))))), (u4 0, .inr (2, [.ref (u4 1)])), (u4 1, .inl (q 1, 16, .inr (.inl (fun _ => 0)))), (u6 0, .inr (2, [.ref (u6 1)])), (u6 1, .inl (q 1, 16, .inr (.inl (fun _ => 0)))), (p7, .inr (2, [.null]))]) rfl ?_
  refine j_dup g rfl dX1_init_35 ?_
  refine j_callN g gx (W1 := [(h0, .inr (1, [.ref p1, .ref p2])), (p1, .inl (q 0, 6, .inl (fun _ => 0))), (p2, .inl (q 4, 5, .inr (.inr (.inr (.inr (va_up (va_up (fun _ => none) 0 (some (u4 0))) 1 (some (u6 0)))))))), (u4 0, .inr (2, [.ref (u4 1)])), (u4 1, .inl (q 1, 16, .inr (.inl (fun _ => 0)))), (u6 0, .inr (2, [.ref (u6 1)])), (u6 1, .inl (q 1, 16, .inr (.inl (fun _ => 0))))]) (c_X2_init (q := q) p7) ci_X1_21 rfl (Nat.le_of_ble_eq_true rfl) (Nat.le_of_ble_eq_true rfl) (Nat.le_of_ble_eq_true rfl) (Nat.le_of_ble_eq_true rfl) (Nat.le_of_ble_eq_true rfl) dX1_init_36 (fun u8 hu8 => ?_)
  subst hu8
  refine j_ws (ws' := [(h0, .inr (1, [.ref p1, .ref p2])), (p1, .inl (q 0, 6, .inl (fun _ => 0))), (p2, .inl (q 4, 5, .inr (.inr (.inr (.inr (va_up (va_up (fun _ => none) 0 (some (u4 0))) 1 (some (u6 0)))))))), (u4 0, .inr (2, [.ref (u4 1)])), (u4 1, .inl (q 1, 16, .inr (.inl (fun _ => 0)))), (u6 0, .inr (2, [.ref (u6 1)])), (u6 1, .inl (q 1, 16, .inr (.inl (fun _ => 0)))), (u8 0, .inr (2, [.ref (u8 1)])), (u8 1, .inl (q 1, 16, .inr (.inl (fun _ => 0))))]) rfl ?_
  refine j_aast g 2 4 7 2 rfl rfl rfl rfl (vp_in_l (by decide)) (ws' := [(h0, .inr (1, [.ref p1, .ref p2])), (p1, .inl (q 0, 6, .inl (fun _ => 0))), (p2, .inl (q 4, 5, .inr (.inr (.inr (.inr (va_up (va_up (va_up (fun _ => none) 0 (some (u4 0))) 1 (some (u6 0))) 2 (some (u8 0)))))))), (u4 0, .inr (2, [.ref (u4 1)])), (u4 1, .inl (q 1, 16, .inr (.inl (fun _ => 0)))), (u6 0, .inr (2, [.ref (u6 1)])), (u6 1, .inl (q 1, 16, .inr (.inl (fun _ => 0)))), (u8 0, .inr (2, [.ref (u8 1)])), (u8 1, .inl (q 1, 16, .inr (.inl (fun _ => 0))))]) rfl dX1_init_39 ?_
  refine j_iinc g 0 (n := 1) (v := 3) (lv' := [(1, .int (3 : Int32)), (0, .ref h0)]) rfl (by decide) (by decide) rfl dX1_init_40 ?_
  refine j_goto g dX1_init_43 (tgt := 22) (by decide) ?_
  refine j_iload_n g 0 rfl dX1_init_22 ?_
  refine j_iconst g (v := 4) (by decide) dX1_init_23 ?_
  refine j_icmp_gt g dX1_init_24 (tgt := 46) (by decide) (fun c => absurd c (by decide)) (fun _ => ?_)
  refine j_aload_n g 1 rfl dX1_init_27 ?_
  refine j_get g fl_X1_17 0 rfl rfl dX1_init_28 ?_
  refine j_iload_n g 0 rfl dX1_init_31 ?_
  refine j_new g (ci := 2) ws_X2 tyX2 tyX2_ok lc_X1_15 li_X2 lz_X2 rfl zdf_X2 (Nat.le_of_ble_eq_true rfl) (Nat.le_of_ble_eq_true rfl) dX1_init_32 (fun p9 => ?_)
  refine j_ws (ws' := [(h0, .inr (1, [.ref p1, .ref p2])), (p1, .inl (q 0, 6, .inl (fun _ => 0))), (p2, .inl (q 4, 5, .inr (.inr (.inr (.inr (va_up (va_up (va_up (fun _ => none) 0 (some (u4 0))) 1 (some (u6 0))) 2 (some (u8 0)))))))), (u4 0, .inr (2, [.ref (u4 1)])), (u4 1, .inl (q 1, 16, .inr (.inl (fun _ => 0)))), (u6 0, .inr (2, [.ref (u6 1)])), (u6 1, .inl (q 1, 16, .inr (.inl (fun _ => 0)))), (u8 0, .inr (2, [.ref (u8 1)])), (u8 1, .inl (q 1, 16, .inr (.inl (fun _ => 0)))), (p9, .inr (2, [.null]))]) rfl ?_
  refine j_dup g rfl dX1_init_35 ?_
  refine j_callN g gx (W1 := [(h0, .inr (1, [.ref p1, .ref p2])), (p1, .inl (q 0, 6, .inl (fun _ => 0))), (p2, .inl (q 4, 5, .inr (.inr (.inr (.inr (va_up (va_up (va_up (fun _ => none) 0 (some (u4 0))) 1 (some (u6 0))) 2 (some (u8 0)))))))), (u4 0, .inr (2, [.ref (u4 1)])), (u4 1, .inl (q 1, 16, .inr (.inl (fun _ => 0)))), (u6 0, .inr (2, [.ref (u6 1)])), (u6 1, .inl (q 1, 16, .inr (.inl (fun _ => 0)))), (u8 0, .inr (2, [.ref (u8 1)])), (u8 1, .inl (q 1, 16, .inr (.inl (fun _ => 0))))]) (c_X2_init (q := q) p9) ci_X1_21 rfl (Nat.le_of_ble_eq_true rfl) (Nat.le_of_ble_eq_true rfl) (Nat.le_of_ble_eq_true rfl) (Nat.le_of_ble_eq_true rfl) (Nat.le_of_ble_eq_true rfl) dX1_init_36 (fun u10 hu10 => ?_)
  subst hu10
  refine j_ws (ws' := [(h0, .inr (1, [.ref p1, .ref p2])), (p1, .inl (q 0, 6, .inl (fun _ => 0))), (p2, .inl (q 4, 5, .inr (.inr (.inr (.inr (va_up (va_up (va_up (fun _ => none) 0 (some (u4 0))) 1 (some (u6 0))) 2 (some (u8 0)))))))), (u4 0, .inr (2, [.ref (u4 1)])), (u4 1, .inl (q 1, 16, .inr (.inl (fun _ => 0)))), (u6 0, .inr (2, [.ref (u6 1)])), (u6 1, .inl (q 1, 16, .inr (.inl (fun _ => 0)))), (u8 0, .inr (2, [.ref (u8 1)])), (u8 1, .inl (q 1, 16, .inr (.inl (fun _ => 0)))), (u10 0, .inr (2, [.ref (u10 1)])), (u10 1, .inl (q 1, 16, .inr (.inl (fun _ => 0))))]) rfl ?_
  refine j_aast g 2 4 9 2 rfl rfl rfl rfl (vp_in_l (by decide)) (ws' := [(h0, .inr (1, [.ref p1, .ref p2])), (p1, .inl (q 0, 6, .inl (fun _ => 0))), (p2, .inl (q 4, 5, .inr (.inr (.inr (.inr (va_up (va_up (va_up (va_up (fun _ => none) 0 (some (u4 0))) 1 (some (u6 0))) 2 (some (u8 0))) 3 (some (u10 0)))))))), (u4 0, .inr (2, [.ref (u4 1)])), (u4 1, .inl (q 1, 16, .inr (.inl (fun _ => 0)))), (u6 0, .inr (2, [.ref (u6 1)])), (u6 1, .inl (q 1, 16, .inr (.inl (fun _ => 0)))), (u8 0, .inr (2, [.ref (u8 1)])), (u8 1, .inl (q 1, 16, .inr (.inl (fun _ => 0)))), (u10 0, .inr (2, [.ref (u10 1)])), (u10 1, .inl (q 1, 16, .inr (.inl (fun _ => 0))))]) rfl dX1_init_39 ?_
  refine j_iinc g 0 (n := 1) (v := 4) (lv' := [(1, .int (4 : Int32)), (0, .ref h0)]) rfl (by decide) (by decide) rfl dX1_init_40 ?_
  refine j_goto g dX1_init_43 (tgt := 22) (by decide) ?_
  refine j_iload_n g 0 rfl dX1_init_22 ?_
  refine j_iconst g (v := 4) (by decide) dX1_init_23 ?_
  refine j_icmp_gt g dX1_init_24 (tgt := 46) (by decide) (fun c => absurd c (by decide)) (fun _ => ?_)
  refine j_aload_n g 1 rfl dX1_init_27 ?_
  refine j_get g fl_X1_17 0 rfl rfl dX1_init_28 ?_
  refine j_iload_n g 0 rfl dX1_init_31 ?_
  refine j_new g (ci := 2) ws_X2 tyX2 tyX2_ok lc_X1_15 li_X2 lz_X2 rfl zdf_X2 (Nat.le_of_ble_eq_true rfl) (Nat.le_of_ble_eq_true rfl) dX1_init_32 (fun p11 => ?_)
  refine j_ws (ws' := [(h0, .inr (1, [.ref p1, .ref p2])), (p1, .inl (q 0, 6, .inl (fun _ => 0))), (p2, .inl (q 4, 5, .inr (.inr (.inr (.inr (va_up (va_up (va_up (va_up (fun _ => none) 0 (some (u4 0))) 1 (some (u6 0))) 2 (some (u8 0))) 3 (some (u10 0)))))))), (u4 0, .inr (2, [.ref (u4 1)])), (u4 1, .inl (q 1, 16, .inr (.inl (fun _ => 0)))), (u6 0, .inr (2, [.ref (u6 1)])), (u6 1, .inl (q 1, 16, .inr (.inl (fun _ => 0)))), (u8 0, .inr (2, [.ref (u8 1)])), (u8 1, .inl (q 1, 16, .inr (.inl (fun _ => 0)))), (u10 0, .inr (2, [.ref (u10 1)])), (u10 1, .inl (q 1, 16, .inr (.inl (fun _ => 0)))), (p11, .inr (2, [.null]))]) rfl ?_
  refine j_dup g rfl dX1_init_35 ?_
  refine j_callN g gx (W1 := [(h0, .inr (1, [.ref p1, .ref p2])), (p1, .inl (q 0, 6, .inl (fun _ => 0))), (p2, .inl (q 4, 5, .inr (.inr (.inr (.inr (va_up (va_up (va_up (va_up (fun _ => none) 0 (some (u4 0))) 1 (some (u6 0))) 2 (some (u8 0))) 3 (some (u10 0)))))))), (u4 0, .inr (2, [.ref (u4 1)])), (u4 1, .inl (q 1, 16, .inr (.inl (fun _ => 0)))), (u6 0, .inr (2, [.ref (u6 1)])), (u6 1, .inl (q 1, 16, .inr (.inl (fun _ => 0)))), (u8 0, .inr (2, [.ref (u8 1)])), (u8 1, .inl (q 1, 16, .inr (.inl (fun _ => 0)))), (u10 0, .inr (2, [.ref (u10 1)])), (u10 1, .inl (q 1, 16, .inr (.inl (fun _ => 0))))]) (c_X2_init (q := q) p11) ci_X1_21 rfl (Nat.le_of_ble_eq_true rfl) (Nat.le_of_ble_eq_true rfl) (Nat.le_of_ble_eq_true rfl) (Nat.le_of_ble_eq_true rfl) (Nat.le_of_ble_eq_true rfl) dX1_init_36 (fun u12 hu12 => ?_)
  subst hu12
  refine j_ws (ws' := [(h0, .inr (1, [.ref p1, .ref p2])), (p1, .inl (q 0, 6, .inl (fun _ => 0))), (p2, .inl (q 4, 5, .inr (.inr (.inr (.inr (va_up (va_up (va_up (va_up (fun _ => none) 0 (some (u4 0))) 1 (some (u6 0))) 2 (some (u8 0))) 3 (some (u10 0)))))))), (u4 0, .inr (2, [.ref (u4 1)])), (u4 1, .inl (q 1, 16, .inr (.inl (fun _ => 0)))), (u6 0, .inr (2, [.ref (u6 1)])), (u6 1, .inl (q 1, 16, .inr (.inl (fun _ => 0)))), (u8 0, .inr (2, [.ref (u8 1)])), (u8 1, .inl (q 1, 16, .inr (.inl (fun _ => 0)))), (u10 0, .inr (2, [.ref (u10 1)])), (u10 1, .inl (q 1, 16, .inr (.inl (fun _ => 0)))), (u12 0, .inr (2, [.ref (u12 1)])), (u12 1, .inl (q 1, 16, .inr (.inl (fun _ => 0))))]) rfl ?_
  refine j_aast g 2 4 11 2 rfl rfl rfl rfl (vp_in_l (by decide)) (ws' := [(h0, .inr (1, [.ref p1, .ref p2])), (p1, .inl (q 0, 6, .inl (fun _ => 0))), (p2, .inl (q 4, 5, .inr (.inr (.inr (.inr (va_up (va_up (va_up (va_up (va_up (fun _ => none) 0 (some (u4 0))) 1 (some (u6 0))) 2 (some (u8 0))) 3 (some (u10 0))) 4 (some (u12 0)))))))), (u4 0, .inr (2, [.ref (u4 1)])), (u4 1, .inl (q 1, 16, .inr (.inl (fun _ => 0)))), (u6 0, .inr (2, [.ref (u6 1)])), (u6 1, .inl (q 1, 16, .inr (.inl (fun _ => 0)))), (u8 0, .inr (2, [.ref (u8 1)])), (u8 1, .inl (q 1, 16, .inr (.inl (fun _ => 0)))), (u10 0, .inr (2, [.ref (u10 1)])), (u10 1, .inl (q 1, 16, .inr (.inl (fun _ => 0)))), (u12 0, .inr (2, [.ref (u12 1)])), (u12 1, .inl (q 1, 16, .inr (.inl (fun _ => 0))))]) rfl dX1_init_39 ?_
  refine j_iinc g 0 (n := 1) (v := 5) (lv' := [(1, .int (5 : Int32)), (0, .ref h0)]) rfl (by decide) (by decide) rfl dX1_init_40 ?_
  refine j_goto g dX1_init_43 (tgt := 22) (by decide) ?_
  refine j_iload_n g 0 rfl dX1_init_22 ?_
  refine j_iconst g (v := 4) (by decide) dX1_init_23 ?_
  refine j_icmp_gt g dX1_init_24 (tgt := 46) (by decide) (fun _ => ?_) (fun c => absurd (by decide) c)
  refine j_perm (ws' := [(h0, .inr (1, [.ref p1, .ref p2])), (p1, .inl (q 0, 6, .inl (fun _ => 0))), (p2, .inl (q 4, 5, .inr (.inr (.inr (.inr (va_up (va_up (va_up (va_up (va_up (fun _ => none) 0 (some (u4 0))) 1 (some (u6 0))) 2 (some (u8 0))) 3 (some (u10 0))) 4 (some (u12 0)))))))), (u4 0, .inr (2, [.ref (u4 1)])), (u6 0, .inr (2, [.ref (u6 1)])), (u8 0, .inr (2, [.ref (u8 1)])), (u10 0, .inr (2, [.ref (u10 1)])), (u12 0, .inr (2, [.ref (u12 1)])), (u4 1, .inl (q 1, 16, .inr (.inl (fun _ => 0)))), (u6 1, .inl (q 1, 16, .inr (.inl (fun _ => 0)))), (u8 1, .inl (q 1, 16, .inr (.inl (fun _ => 0)))), (u10 1, .inl (q 1, 16, .inr (.inl (fun _ => 0)))), (u12 1, .inl (q 1, 16, .inr (.inl (fun _ => 0))))]) [0, 1, 2, 3, 5, 7, 9, 11, 4, 6, 8, 10, 12] rfl (by decide) rfl ?_
  refine j_fn 2 (f2 := fun j => some ((fun i => [h0, p1, p2, u4 0, u6 0, u8 0, u10 0, u12 0, u4 1, u6 1, u8 1, u10 1, u12 1].getD i 0) (3 + j))) rfl ?_ (ws' := [(h0, .inr (1, [.ref p1, .ref p2])), (p1, .inl (q 0, 6, .inl (fun _ => 0))), (p2, .inl (q 4, 5, .inr (.inr (.inr (.inr (fun j => some ((fun i => [h0, p1, p2, u4 0, u6 0, u8 0, u10 0, u12 0, u4 1, u6 1, u8 1, u10 1, u12 1].getD i 0) (3 + j)))))))), (u4 0, .inr (2, [.ref (u4 1)])), (u6 0, .inr (2, [.ref (u6 1)])), (u8 0, .inr (2, [.ref (u8 1)])), (u10 0, .inr (2, [.ref (u10 1)])), (u12 0, .inr (2, [.ref (u12 1)])), (u4 1, .inl (q 1, 16, .inr (.inl (fun _ => 0)))), (u6 1, .inl (q 1, 16, .inr (.inl (fun _ => 0)))), (u8 1, .inl (q 1, 16, .inr (.inl (fun _ => 0)))), (u10 1, .inl (q 1, 16, .inr (.inl (fun _ => 0)))), (u12 1, .inl (q 1, 16, .inr (.inl (fun _ => 0))))]) rfl ?_
  · intro i hi
    match i, hi with
    | 0, _ => rfl
    | 1, _ => rfl
    | 2, _ => rfl
    | 3, _ => rfl
    | 4, _ => rfl
  exact hret _ _ (fun i => [h0, p1, p2, u4 0, u6 0, u8 0, u10 0, u12 0, u4 1, u6 1, u8 1, u10 1, u12 1].getD i 0) dX1_init_46 rfl

theorem dX5_init_0 : decode cX5_init 0 = .ok (.aload_n 0, 1) := by decide +kernel
theorem dX5_init_1 : decode cX5_init 1 = .ok (.invokespecial 3, 3) := by decide +kernel
theorem dX5_init_4 : decode cX5_init 4 = .ok (.aload_n 0, 1) := by decide +kernel
theorem dX5_init_5 : decode cX5_init 5 = .ok (.new 9, 3) := by decide +kernel
theorem dX5_init_8 : decode cX5_init 8 = .ok (.dup, 1) := by decide +kernel
theorem dX5_init_9 : decode cX5_init 9 = .ok (.invokespecial 11, 3) := by decide +kernel
theorem dX5_init_12 : decode cX5_init 12 = .ok (.putfield 12, 3) := by decide +kernel
theorem dX5_init_15 : decode cX5_init 15 = .ok (.aload_n 0, 1) := by decide +kernel
theorem dX5_init_16 : decode cX5_init 16 = .ok (.new 16, 3) := by decide +kernel
theorem dX5_init_19 : decode cX5_init 19 = .ok (.dup, 1) := by decide +kernel
theorem dX5_init_20 : decode cX5_init 20 = .ok (.invokespecial 18, 3) := by decide +kernel
theorem dX5_init_23 : decode cX5_init 23 = .ok (.putfield 19, 3) := by decide +kernel
theorem dX5_init_26 : decode cX5_init 26 = .ok (.aload_n 0, 1) := by decide +kernel
theorem dX5_init_27 : decode cX5_init 27 = .ok (.new 23, 3) := by decide +kernel
theorem dX5_init_30 : decode cX5_init 30 = .ok (.dup, 1) := by decide +kernel
theorem dX5_init_31 : decode cX5_init 31 = .ok (.invokespecial 25, 3) := by decide +kernel
theorem dX5_init_34 : decode cX5_init 34 = .ok (.putfield 26, 3) := by decide +kernel
theorem dX5_init_37 : decode cX5_init 37 = .ok (.aload_n 0, 1) := by decide +kernel
theorem dX5_init_38 : decode cX5_init 38 = .ok (.new 30, 3) := by decide +kernel
theorem dX5_init_41 : decode cX5_init 41 = .ok (.dup, 1) := by decide +kernel
theorem dX5_init_42 : decode cX5_init 42 = .ok (.invokespecial 32, 3) := by decide +kernel
theorem dX5_init_45 : decode cX5_init 45 = .ok (.putfield 33, 3) := by decide +kernel
theorem dX5_init_48 : decode cX5_init 48 = .ok (.aload_n 0, 1) := by decide +kernel
theorem dX5_init_49 : decode cX5_init 49 = .ok (.bipush 6, 2) := by decide +kernel
theorem dX5_init_51 : decode cX5_init 51 = .ok (.newarray .int, 2) := by decide +kernel
theorem dX5_init_53 : decode cX5_init 53 = .ok (.putfield 37, 3) := by decide +kernel
theorem dX5_init_56 : decode cX5_init 56 = .ok (.aload_n 0, 1) := by decide +kernel
theorem dX5_init_57 : decode cX5_init 57 = .ok (.iconst 0, 1) := by decide +kernel
theorem dX5_init_58 : decode cX5_init 58 = .ok (.putfield 41, 3) := by decide +kernel
theorem dX5_init_61 : decode cX5_init 61 = .ok (.aload_n 0, 1) := by decide +kernel
theorem dX5_init_62 : decode cX5_init 62 = .ok (.iconst 0, 1) := by decide +kernel
theorem dX5_init_63 : decode cX5_init 63 = .ok (.putfield 45, 3) := by decide +kernel
theorem dX5_init_66 : decode cX5_init 66 = .ok (.aload_n 0, 1) := by decide +kernel
theorem dX5_init_67 : decode cX5_init 67 = .ok (.iconst 0, 1) := by decide +kernel
theorem dX5_init_68 : decode cX5_init 68 = .ok (.putfield 48, 3) := by decide +kernel
theorem dX5_init_71 : decode cX5_init 71 = .ok (.aload_n 0, 1) := by decide +kernel
theorem dX5_init_72 : decode cX5_init 72 = .ok (.iconst (-1), 1) := by decide +kernel
theorem dX5_init_73 : decode cX5_init 73 = .ok (.putfield 51, 3) := by decide +kernel
theorem dX5_init_76 : decode cX5_init 76 = .ok (.return_, 1) := by decide +kernel
set_option maxRecDepth 20000 in
set_option maxHeartbeats 8000000 in
theorem c_X5_init {q : Nat → ClassId} (h0 : Nat) : ctC q yX5_init cX5_init 1 3 53 34 6204 [.ref h0] [(h0, .inr (5, [.null, .null, .null, .null, .null, .int 0, .int 0, .int 0, .int 0]))] (fun (u : Nat → Nat) => cgW u q 0 (fun _ => 0) (fun j => j) (fun _ => 0) (fun _ => 0) (fun _ => 0) (fun _ => 0) (fun _ => 0) (fun _ => 0) (fun _ => -1) (fun _ => 0) (fun _ => 0) (fun _ _ => 0) cgF0 (fun _ => 0) (fun _ => 0) 0 0 0 (-1)) (fun u => u 0 = h0) := by
  refine met_C (by decide) rfl (Nat.le_of_ble_eq_true rfl) (fun Γ g gx gi hret => ?_)
  show jw Γ 1 0 0 [(h0, .inr (5, [.null, .null, .null, .null, .null, .int 0, .int 0, .int 0, .int 0]))] [(0, .ref h0)] [] 0
  refine j_aload_n g 0 rfl dX5_init_0 ?_
  refine j_objInit g lo_X5 (Nat.le_of_ble_eq_true rfl) (Nat.le_of_ble_eq_true rfl) dX5_init_1 ?_
  refine j_aload_n g 0 rfl dX5_init_4 ?_
  refine j_new g (ci := 3) ws_X3 tyX3 tyX3_ok lc_X5_9 li_X3 lz_X3 rfl zdf_X3 (Nat.le_of_ble_eq_true rfl) (Nat.le_of_ble_eq_true rfl) dX5_init_5 (fun p1 => ?_)
  refine j_ws (ws' := [(h0, .inr (5, [.null, .null, .null, .null, .null, .int 0, .int 0, .int 0, .int 0])), (p1, .inr (3, [.null, .null, .null, .int 0]))]) rfl ?_
  refine j_dup g rfl dX5_init_8 ?_
  refine j_callI g gx (W1 := [(h0, .inr (5, [.null, .null, .null, .null, .null, .int 0, .int 0, .int 0, .int 0]))]) (c_X3_init (q := q) p1) ci_X5_11 rfl (Nat.le_of_ble_eq_true rfl) (Nat.le_of_ble_eq_true rfl) (Nat.le_of_ble_eq_true rfl) (Nat.le_of_ble_eq_true rfl) (Nat.le_of_ble_eq_true rfl) dX5_init_9 (fun u2 hu2 => ?_)
  subst hu2
  refine j_ws (ws' := [(h0, .inr (5, [.null, .null, .null, .null, .null, .int 0, .int 0, .int 0, .int 0])), (u2 0, .inr (3, [.ref (u2 1), .ref (u2 2), .ref (u2 3), .int 0])), (u2 1, .inl (q 3, 6, .inr (.inr (.inr (.inr (fun j => some (u2 (4 + j)))))))), (u2 2, .inl (q 3, 6, .inr (.inr (.inr (.inr (fun j => some (u2 (4 + j)))))))), (u2 3, .inl (q 0, 6, .inl (fun _ => 0))), (u2 (4 + 0), .inr (0, [.int 0, .int 0, .int 0, .int 0, .int 0, .int 0, .int (-1), .int 0, .int 0])), (u2 (4 + 1), .inr (0, [.int 0, .int 0, .int 0, .int 0, .int 0, .int 0, .int (-1), .int 0, .int 0])), (u2 (4 + 2), .inr (0, [.int 0, .int 0, .int 0, .int 0, .int 0, .int 0, .int (-1), .int 0, .int 0])), (u2 (4 + 3), .inr (0, [.int 0, .int 0, .int 0, .int 0, .int 0, .int 0, .int (-1), .int 0, .int 0])), (u2 (4 + 4), .inr (0, [.int 0, .int 0, .int 0, .int 0, .int 0, .int 0, .int (-1), .int 0, .int 0])), (u2 (4 + 5), .inr (0, [.int 0, .int 0, .int 0, .int 0, .int 0, .int 0, .int (-1), .int 0, .int 0]))]) rfl ?_
  refine j_putF g gi fl_X5_12 tyX5 tyX5_ok nmX5 rfl (tyX5_ok 0 (by decide)) rfl 0 rfl rfl rfl (Nat.le_of_ble_eq_true rfl) (ws' := [(h0, .inr (5, [.ref (u2 0), .null, .null, .null, .null, .int 0, .int 0, .int 0, .int 0])), (u2 0, .inr (3, [.ref (u2 1), .ref (u2 2), .ref (u2 3), .int 0])), (u2 1, .inl (q 3, 6, .inr (.inr (.inr (.inr (fun j => some (u2 (4 + j)))))))), (u2 2, .inl (q 3, 6, .inr (.inr (.inr (.inr (fun j => some (u2 (4 + j)))))))), (u2 3, .inl (q 0, 6, .inl (fun _ => 0))), (u2 (4 + 0), .inr (0, [.int 0, .int 0, .int 0, .int 0, .int 0, .int 0, .int (-1), .int 0, .int 0])), (u2 (4 + 1), .inr (0, [.int 0, .int 0, .int 0, .int 0, .int 0, .int 0, .int (-1), .int 0, .int 0])), (u2 (4 + 2), .inr (0, [.int 0, .int 0, .int 0, .int 0, .int 0, .int 0, .int (-1), .int 0, .int 0])), (u2 (4 + 3), .inr (0, [.int 0, .int 0, .int 0, .int 0, .int 0, .int 0, .int (-1), .int 0, .int 0])), (u2 (4 + 4), .inr (0, [.int 0, .int 0, .int 0, .int 0, .int 0, .int 0, .int (-1), .int 0, .int 0])), (u2 (4 + 5), .inr (0, [.int 0, .int 0, .int 0, .int 0, .int 0, .int 0, .int (-1), .int 0, .int 0]))]) rfl dX5_init_12 ?_
  refine j_aload_n g 0 rfl dX5_init_15 ?_
  refine j_new g (ci := 2) ws_X2 tyX2 tyX2_ok lc_X5_16 li_X2 lz_X2 rfl zdf_X2 (Nat.le_of_ble_eq_true rfl) (Nat.le_of_ble_eq_true rfl) dX5_init_16 (fun p3 => ?_)
  refine j_ws (ws' := [(h0, .inr (5, [.ref (u2 0), .null, .null, .null, .null, .int 0, .int 0, .int 0, .int 0])), (u2 0, .inr (3, [.ref (u2 1), .ref (u2 2), .ref (u2 3), .int 0])), (u2 1, .inl (q 3, 6, .inr (.inr (.inr (.inr (fun j => some (u2 (4 + j)))))))), (u2 2, .inl (q 3, 6, .inr (.inr (.inr (.inr (fun j => some (u2 (4 + j)))))))), (u2 3, .inl (q 0, 6, .inl (fun _ => 0))), (u2 (4 + 0), .inr (0, [.int 0, .int 0, .int 0, .int 0, .int 0, .int 0, .int (-1), .int 0, .int 0])), (u2 (4 + 1), .inr (0, [.int 0, .int 0, .int 0, .int 0, .int 0, .int 0, .int (-1), .int 0, .int 0])), (u2 (4 + 2), .inr (0, [.int 0, .int 0, .int 0, .int 0, .int 0, .int 0, .int (-1), .int 0, .int 0])), (u2 (4 + 3), .inr (0, [.int 0, .int 0, .int 0, .int 0, .int 0, .int 0, .int (-1), .int 0, .int 0])), (u2 (4 + 4), .inr (0, [.int 0, .int 0, .int 0, .int 0, .int 0, .int 0, .int (-1), .int 0, .int 0])), (u2 (4 + 5), .inr (0, [.int 0, .int 0, .int 0, .int 0, .int 0, .int 0, .int (-1), .int 0, .int 0])), (p3, .inr (2, [.null]))]) rfl ?_
  refine j_dup g rfl dX5_init_19 ?_
  refine j_callN g gx (W1 := [(h0, .inr (5, [.ref (u2 0), .null, .null, .null, .null, .int 0, .int 0, .int 0, .int 0])), (u2 0, .inr (3, [.ref (u2 1), .ref (u2 2), .ref (u2 3), .int 0])), (u2 1, .inl (q 3, 6, .inr (.inr (.inr (.inr (fun j => some (u2 (4 + j)))))))), (u2 2, .inl (q 3, 6, .inr (.inr (.inr (.inr (fun j => some (u2 (4 + j)))))))), (u2 3, .inl (q 0, 6, .inl (fun _ => 0))), (u2 (4 + 0), .inr (0, [.int 0, .int 0, .int 0, .int 0, .int 0, .int 0, .int (-1), .int 0, .int 0])), (u2 (4 + 1), .inr (0, [.int 0, .int 0, .int 0, .int 0, .int 0, .int 0, .int (-1), .int 0, .int 0])), (u2 (4 + 2), .inr (0, [.int 0, .int 0, .int 0, .int 0, .int 0, .int 0, .int (-1), .int 0, .int 0])), (u2 (4 + 3), .inr (0, [.int 0, .int 0, .int 0, .int 0, .int 0, .int 0, .int (-1), .int 0, .int 0])), (u2 (4 + 4), .inr (0, [.int 0, .int 0, .int 0, .int 0, .int 0, .int 0, .int (-1), .int 0, .int 0])), (u2 (4 + 5), .inr (0, [.int 0, .int 0, .int 0, .int 0, .int 0, .int 0, .int (-1), .int 0, .int 0]))]) (c_X2_init (q := q) p3) ci_X5_18 rfl (Nat.le_of_ble_eq_true rfl) (Nat.le_of_ble_eq_true rfl) (Nat.le_of_ble_eq_true rfl) (Nat.le_of_ble_eq_true rfl) (Nat.le_of_ble_eq_true rfl) dX5_init_20 (fun u4 hu4 => ?_)
  subst hu4
  refine j_ws (ws' := [(h0, .inr (5, [.ref (u2 0), .null, .null, .null, .null, .int 0, .int 0, .int 0, .int 0])), (u2 0, .inr (3, [.ref (u2 1), .ref (u2 2), .ref (u2 3), .int 0])), (u2 1, .inl (q 3, 6, .inr (.inr (.inr (.inr (fun j => some (u2 (4 + j)))))))), (u2 2, .inl (q 3, 6, .inr (.inr (.inr (.inr (fun j => some (u2 (4 + j)))))))), (u2 3, .inl (q 0, 6, .inl (fun _ => 0))), (u2 (4 + 0), .inr (0, [.int 0, .int 0, .int 0, .int 0, .int 0, .int 0, .int (-1), .int 0, .int 0])), (u2 (4 + 1), .inr (0, [.int 0, .int 0, .int 0, .int 0, .int 0, .int 0, .int (-1), .int 0, .int 0])), (u2 (4 + 2), .inr (0, [.int 0, .int 0, .int 0, .int 0, .int 0, .int 0, .int (-1), .int 0, .int 0])), (u2 (4 + 3), .inr (0, [.int 0, .int 0, .int 0, .int 0, .int 0, .int 0, .int (-1), .int 0, .int 0])), (u2 (4 + 4), .inr (0, [.int 0, .int 0, .int 0, .int 0, .int 0, .int 0, .int (-1), .int 0, .int 0])), (u2 (4 + 5), .inr (0, [.int 0, .int 0, .int 0, .int 0, .int 0, .int 0, .int (-1), .int 0, .int 0])), (u4 0, .inr (2, [.ref (u4 1)])), (u4 1, .inl (q 1, 16, .inr (.inl (fun _ => 0))))]) rfl ?_
  refine j_putF g gi fl_X5_19 tyX5 tyX5_ok nmX5 rfl (tyX5_ok 1 (by decide)) rfl 0 rfl rfl rfl (Nat.le_of_ble_eq_true rfl) (ws' := [(h0, .inr (5, [.ref (u2 0), .ref (u4 0), .null, .null, .null, .int 0, .int 0, .int 0, .int 0])), (u2 0, .inr (3, [.ref (u2 1), .ref (u2 2), .ref (u2 3), .int 0])), (u2 1, .inl (q 3, 6, .inr (.inr (.inr (.inr (fun j => some (u2 (4 + j)))))))), (u2 2, .inl (q 3, 6, .inr (.inr (.inr (.inr (fun j => some (u2 (4 + j)))))))), (u2 3, .inl (q 0, 6, .inl (fun _ => 0))), (u2 (4 + 0), .inr (0, [.int 0, .int 0, .int 0, .int 0, .int 0, .int 0, .int (-1), .int 0, .int 0])), (u2 (4 + 1), .inr (0, [.int 0, .int 0, .int 0, .int 0, .int 0, .int 0, .int (-1), .int 0, .int 0])), (u2 (4 + 2), .inr (0, [.int 0, .int 0, .int 0, .int 0, .int 0, .int 0, .int (-1), .int 0, .int 0])), (u2 (4 + 3), .inr (0, [.int 0, .int 0, .int 0, .int 0, .int 0, .int 0, .int (-1), .int 0, .int 0])), (u2 (4 + 4), .inr (0, [.int 0, .int 0, .int 0, .int 0, .int 0, .int 0, .int (-1), .int 0, .int 0])), (u2 (4 + 5), .inr (0, [.int 0, .int 0, .int 0, .int 0, .int 0, .int 0, .int (-1), .int 0, .int 0])), (u4 0, .inr (2, [.ref (u4 1)])), (u4 1, .inl (q 1, 16, .inr (.inl (fun _ => 0))))]) rfl dX5_init_23 ?_
  refine j_aload_n g 0 rfl dX5_init_26 ?_
  refine j_new g (ci := 4) ws_X4 tyX4 tyX4_ok lc_X5_23 li_X4 lz_X4 rfl zdf_X4 (Nat.le_of_ble_eq_true rfl) (Nat.le_of_ble_eq_true rfl) dX5_init_27 (fun p5 => ?_)
  refine j_ws (ws' := [(h0, .inr (5, [.ref (u2 0), .ref (u4 0), .null, .null, .null, .int 0, .int 0, .int 0, .int 0])), (u2 0, .inr (3, [.ref (u2 1), .ref (u2 2), .ref (u2 3), .int 0])), (u2 1, .inl (q 3, 6, .inr (.inr (.inr (.inr (fun j => some (u2 (4 + j)))))))), (u2 2, .inl (q 3, 6, .inr (.inr (.inr (.inr (fun j => some (u2 (4 + j)))))))), (u2 3, .inl (q 0, 6, .inl (fun _ => 0))), (u2 (4 + 0), .inr (0, [.int 0, .int 0, .int 0, .int 0, .int 0, .int 0, .int (-1), .int 0, .int 0])), (u2 (4 + 1), .inr (0, [.int 0, .int 0, .int 0, .int 0, .int 0, .int 0, .int (-1), .int 0, .int 0])), (u2 (4 + 2), .inr (0, [.int 0, .int 0, .int 0, .int 0, .int 0, .int 0, .int (-1), .int 0, .int 0])), (u2 (4 + 3), .inr (0, [.int 0, .int 0, .int 0, .int 0, .int 0, .int 0, .int (-1), .int 0, .int 0])), (u2 (4 + 4), .inr (0, [.int 0, .int 0, .int 0, .int 0, .int 0, .int 0, .int (-1), .int 0, .int 0])), (u2 (4 + 5), .inr (0, [.int 0, .int 0, .int 0, .int 0, .int 0, .int 0, .int (-1), .int 0, .int 0])), (u4 0, .inr (2, [.ref (u4 1)])), (u4 1, .inl (q 1, 16, .inr (.inl (fun _ => 0)))), (p5, .inr (4, [.null]))]) rfl ?_
  refine j_dup g rfl dX5_init_30 ?_
  refine j_callI g gx (W1 := [(h0, .inr (5, [.ref (u2 0), .ref (u4 0), .null, .null, .null, .int 0, .int 0, .int 0, .int 0])), (u2 0, .inr (3, [.ref (u2 1), .ref (u2 2), .ref (u2 3), .int 0])), (u2 1, .inl (q 3, 6, .inr (.inr (.inr (.inr (fun j => some (u2 (4 + j)))))))), (u2 2, .inl (q 3, 6, .inr (.inr (.inr (.inr (fun j => some (u2 (4 + j)))))))), (u2 3, .inl (q 0, 6, .inl (fun _ => 0))), (u2 (4 + 0), .inr (0, [.int 0, .int 0, .int 0, .int 0, .int 0, .int 0, .int (-1), .int 0, .int 0])), (u2 (4 + 1), .inr (0, [.int 0, .int 0, .int 0, .int 0, .int 0, .int 0, .int (-1), .int 0, .int 0])), (u2 (4 + 2), .inr (0, [.int 0, .int 0, .int 0, .int 0, .int 0, .int 0, .int (-1), .int 0, .int 0])), (u2 (4 + 3), .inr (0, [.int 0, .int 0, .int 0, .int 0, .int 0, .int 0, .int (-1), .int 0, .int 0])), (u2 (4 + 4), .inr (0, [.int 0, .int 0, .int 0, .int 0, .int 0, .int 0, .int (-1), .int 0, .int 0])), (u2 (4 + 5), .inr (0, [.int 0, .int 0, .int 0, .int 0, .int 0, .int 0, .int (-1), .int 0, .int 0])), (u4 0, .inr (2, [.ref (u4 1)])), (u4 1, .inl (q 1, 16, .inr (.inl (fun _ => 0))))]) (c_X4_init (q := q) p5) ci_X5_25 rfl (Nat.le_of_ble_eq_true rfl) (Nat.le_of_ble_eq_true rfl) (Nat.le_of_ble_eq_true rfl) (Nat.le_of_ble_eq_true rfl) (Nat.le_of_ble_eq_true rfl) dX5_init_31 (fun u6 hu6 => ?_)
  subst hu6
  refine j_ws (ws' := [(h0, .inr (5, [.ref (u2 0), .ref (u4 0), .null, .null, .null, .int 0, .int 0, .int 0, .int 0])), (u2 0, .inr (3, [.ref (u2 1), .ref (u2 2), .ref (u2 3), .int 0])), (u2 1, .inl (q 3, 6, .inr (.inr (.inr (.inr (fun j => some (u2 (4 + j)))))))), (u2 2, .inl (q 3, 6, .inr (.inr (.inr (.inr (fun j => some (u2 (4 + j)))))))), (u2 3, .inl (q 0, 6, .inl (fun _ => 0))), (u2 (4 + 0), .inr (0, [.int 0, .int 0, .int 0, .int 0, .int 0, .int 0, .int (-1), .int 0, .int 0])), (u2 (4 + 1), .inr (0, [.int 0, .int 0, .int 0, .int 0, .int 0, .int 0, .int (-1), .int 0, .int 0])), (u2 (4 + 2), .inr (0, [.int 0, .int 0, .int 0, .int 0, .int 0, .int 0, .int (-1), .int 0, .int 0])), (u2 (4 + 3), .inr (0, [.int 0, .int 0, .int 0, .int 0, .int 0, .int 0, .int (-1), .int 0, .int 0])), (u2 (4 + 4), .inr (0, [.int 0, .int 0, .int 0, .int 0, .int 0, .int 0, .int (-1), .int 0, .int 0])), (u2 (4 + 5), .inr (0, [.int 0, .int 0, .int 0, .int 0, .int 0, .int 0, .int (-1), .int 0, .int 0])), (u4 0, .inr (2, [.ref (u4 1)])), (u4 1, .inl (q 1, 16, .inr (.inl (fun _ => 0)))), (u6 0, .inr (4, [.ref (u6 1)])), (u6 1, .inl (q 5, 6, .inr (.inr (.inr (.inr (fun j => some (u6 (2 + j)))))))), (u6 (2 + 0), .inl (q 0, 1000, .inl (upd (fillI (fun _ => 0) 1000 (1000 : Int32)) 0 (0 : Int32)))), (u6 (2 + 1), .inl (q 0, 1000, .inl (fun _ => 0))), (u6 (2 + 2), .inl (q 0, 1000, .inl (fun _ => 0))), (u6 (2 + 3), .inl (q 0, 1000, .inl (fun _ => 0))), (u6 (2 + 4), .inl (q 0, 1000, .inl (fun _ => 0))), (u6 (2 + 5), .inl (q 0, 1000, .inl (fun _ => 0)))]) rfl ?_
  refine j_putF g gi fl_X5_26 tyX5 tyX5_ok nmX5 rfl (tyX5_ok 2 (by decide)) rfl 0 rfl rfl rfl (Nat.le_of_ble_eq_true rfl) (ws' := [(h0, .inr (5, [.ref (u2 0), .ref (u4 0), .ref (u6 0), .null, .null, .int 0, .int 0, .int 0, .int 0])), (u2 0, .inr (3, [.ref (u2 1), .ref (u2 2), .ref (u2 3), .int 0])), (u2 1, .inl (q 3, 6, .inr (.inr (.inr (.inr (fun j => some (u2 (4 + j)))))))), (u2 2, .inl (q 3, 6, .inr (.inr (.inr (.inr (fun j => some (u2 (4 + j)))))))), (u2 3, .inl (q 0, 6, .inl (fun _ => 0))), (u2 (4 + 0), .inr (0, [.int 0, .int 0, .int 0, .int 0, .int 0, .int 0, .int (-1), .int 0, .int 0])), (u2 (4 + 1), .inr (0, [.int 0, .int 0, .int 0, .int 0, .int 0, .int 0, .int (-1), .int 0, .int 0])), (u2 (4 + 2), .inr (0, [.int 0, .int 0, .int 0, .int 0, .int 0, .int 0, .int (-1), .int 0, .int 0])), (u2 (4 + 3), .inr (0, [.int 0, .int 0, .int 0, .int 0, .int 0, .int 0, .int (-1), .int 0, .int 0])), (u2 (4 + 4), .inr (0, [.int 0, .int 0, .int 0, .int 0, .int 0, .int 0, .int (-1), .int 0, .int 0])), (u2 (4 + 5), .inr (0, [.int 0, .int 0, .int 0, .int 0, .int 0, .int 0, .int (-1), .int 0, .int 0])), (u4 0, .inr (2, [.ref (u4 1)])), (u4 1, .inl (q 1, 16, .inr (.inl (fun _ => 0)))), (u6 0, .inr (4, [.ref (u6 1)])), (u6 1, .inl (q 5, 6, .inr (.inr (.inr (.inr (fun j => some (u6 (2 + j)))))))), (u6 (2 + 0), .inl (q 0, 1000, .inl (upd (fillI (fun _ => 0) 1000 (1000 : Int32)) 0 (0 : Int32)))), (u6 (2 + 1), .inl (q 0, 1000, .inl (fun _ => 0))), (u6 (2 + 2), .inl (q 0, 1000, .inl (fun _ => 0))), (u6 (2 + 3), .inl (q 0, 1000, .inl (fun _ => 0))), (u6 (2 + 4), .inl (q 0, 1000, .inl (fun _ => 0))), (u6 (2 + 5), .inl (q 0, 1000, .inl (fun _ => 0)))]) rfl dX5_init_34 ?_
  refine j_aload_n g 0 rfl dX5_init_37 ?_
  refine j_new g (ci := 1) ws_X1 tyX1 tyX1_ok lc_X5_30 li_X1 lz_X1 rfl zdf_X1 (Nat.le_of_ble_eq_true rfl) (Nat.le_of_ble_eq_true rfl) dX5_init_38 (fun p7 => ?_)
  refine j_ws (ws' := [(h0, .inr (5, [.ref (u2 0), .ref (u4 0), .ref (u6 0), .null, .null, .int 0, .int 0, .int 0, .int 0])), (u2 0, .inr (3, [.ref (u2 1), .ref (u2 2), .ref (u2 3), .int 0])), (u2 1, .inl (q 3, 6, .inr (.inr (.inr (.inr (fun j => some (u2 (4 + j)))))))), (u2 2, .inl (q 3, 6, .inr (.inr (.inr (.inr (fun j => some (u2 (4 + j)))))))), (u2 3, .inl (q 0, 6, .inl (fun _ => 0))), (u2 (4 + 0), .inr (0, [.int 0, .int 0, .int 0, .int 0, .int 0, .int 0, .int (-1), .int 0, .int 0])), (u2 (4 + 1), .inr (0, [.int 0, .int 0, .int 0, .int 0, .int 0, .int 0, .int (-1), .int 0, .int 0])), (u2 (4 + 2), .inr (0, [.int 0, .int 0, .int 0, .int 0, .int 0, .int 0, .int (-1), .int 0, .int 0])), (u2 (4 + 3), .inr (0, [.int 0, .int 0, .int 0, .int 0, .int 0, .int 0, .int (-1), .int 0, .int 0])), (u2 (4 + 4), .inr (0, [.int 0, .int 0, .int 0, .int 0, .int 0, .int 0, .int (-1), .int 0, .int 0])), (u2 (4 + 5), .inr (0, [.int 0, .int 0, .int 0, .int 0, .int 0, .int 0, .int (-1), .int 0, .int 0])), (u4 0, .inr (2, [.ref (u4 1)])), (u4 1, .inl (q 1, 16, .inr (.inl (fun _ => 0)))), (u6 0, .inr (4, [.ref (u6 1)])), (u6 1, .inl (q 5, 6, .inr (.inr (.inr (.inr (fun j => some (u6 (2 + j)))))))), (u6 (2 + 0), .inl (q 0, 1000, .inl (upd (fillI (fun _ => 0) 1000 (1000 : Int32)) 0 (0 : Int32)))), (u6 (2 + 1), .inl (q 0, 1000, .inl (fun _ => 0))), (u6 (2 + 2), .inl (q 0, 1000, .inl (fun _ => 0))), (u6 (2 + 3), .inl (q 0, 1000, .inl (fun _ => 0))), (u6 (2 + 4), .inl (q 0, 1000, .inl (fun _ => 0))), (u6 (2 + 5), .inl (q 0, 1000, .inl (fun _ => 0))), (p7, .inr (1, [.null, .null]))]) rfl ?_
  refine j_dup g rfl dX5_init_41 ?_
  refine j_callI g gx (W1 := [(h0, .inr (5, [.ref (u2 0), .ref (u4 0), .ref (u6 0), .null, .null, .int 0, .int 0, .int 0, .int 0])), (u2 0, .inr (3, [.ref (u2 1), .ref (u2 2), .ref (u2 3), .int 0])), (u2 1, .inl (q 3, 6, .inr (.inr (.inr (.inr (fun j => some (u2 (4 + j)))))))), (u2 2, .inl (q 3, 6, .inr (.inr (.inr (.inr (fun j => some (u2 (4 + j)))))))), (u2 3, .inl (q 0, 6, .inl (fun _ => 0))), (u2 (4 + 0), .inr (0, [.int 0, .int 0, .int 0, .int 0, .int 0, .int 0, .int (-1), .int 0, .int 0])), (u2 (4 + 1), .inr (0, [.int 0, .int 0, .int 0, .int 0, .int 0, .int 0, .int (-1), .int 0, .int 0])), (u2 (4 + 2), .inr (0, [.int 0, .int 0, .int 0, .int 0, .int 0, .int 0, .int (-1), .int 0, .int 0])), (u2 (4 + 3), .inr (0, [.int 0, .int 0, .int 0, .int 0, .int 0, .int 0, .int (-1), .int 0, .int 0])), (u2 (4 + 4), .inr (0, [.int 0, .int 0, .int 0, .int 0, .int 0, .int 0, .int (-1), .int 0, .int 0])), (u2 (4 + 5), .inr (0, [.int 0, .int 0, .int 0, .int 0, .int 0, .int 0, .int (-1), .int 0, .int 0])), (u4 0, .inr (2, [.ref (u4 1)])), (u4 1, .inl (q 1, 16, .inr (.inl (fun _ => 0)))), (u6 0, .inr (4, [.ref (u6 1)])), (u6 1, .inl (q 5, 6, .inr (.inr (.inr (.inr (fun j => some (u6 (2 + j)))))))), (u6 (2 + 0), .inl (q 0, 1000, .inl (upd (fillI (fun _ => 0) 1000 (1000 : Int32)) 0 (0 : Int32)))), (u6 (2 + 1), .inl (q 0, 1000, .inl (fun _ => 0))), (u6 (2 + 2), .inl (q 0, 1000, .inl (fun _ => 0))), (u6 (2 + 3), .inl (q 0, 1000, .inl (fun _ => 0))), (u6 (2 + 4), .inl (q 0, 1000, .inl (fun _ => 0))), (u6 (2 + 5), .inl (q 0, 1000, .inl (fun _ => 0)))]) (c_X1_init (q := q) p7) ci_X5_32 rfl (Nat.le_of_ble_eq_true rfl) (Nat.le_of_ble_eq_true rfl) (Nat.le_of_ble_eq_true rfl) (Nat.le_of_ble_eq_true rfl) (Nat.le_of_ble_eq_true rfl) dX5_init_42 (fun u8 hu8 => ?_)
  subst hu8
  refine j_ws (ws' := [(h0, .inr (5, [.ref (u2 0), .ref (u4 0), .ref (u6 0), .null, .null, .int 0, .int 0, .int 0, .int 0])), (u2 0, .inr (3, [.ref (u2 1), .ref (u2 2), .ref (u2 3), .int 0])), (u2 1, .inl (q 3, 6, .inr (.inr (.inr (.inr (fun j => some (u2 (4 + j)))))))), (u2 2, .inl (q 3, 6, .inr (.inr (.inr (.inr (fun j => some (u2 (4 + j)))))))), (u2 3, .inl (q 0, 6, .inl (fun _ => 0))), (u2 (4 + 0), .inr (0, [.int 0, .int 0, .int 0, .int 0, .int 0, .int 0, .int (-1), .int 0, .int 0])), (u2 (4 + 1), .inr (0, [.int 0, .int 0, .int 0, .int 0, .int 0, .int 0, .int (-1), .int 0, .int 0])), (u2 (4 + 2), .inr (0, [.int 0, .int 0, .int 0, .int 0, .int 0, .int 0, .int (-1), .int 0, .int 0])), (u2 (4 + 3), .inr (0, [.int 0, .int 0, .int 0, .int 0, .int 0, .int 0, .int (-1), .int 0, .int 0])), (u2 (4 + 4), .inr (0, [.int 0, .int 0, .int 0, .int 0, .int 0, .int 0, .int (-1), .int 0, .int 0])), (u2 (4 + 5), .inr (0, [.int 0, .int 0, .int 0, .int 0, .int 0, .int 0, .int (-1), .int 0, .int 0])), (u4 0, .inr (2, [.ref (u4 1)])), (u4 1, .inl (q 1, 16, .inr (.inl (fun _ => 0)))), (u6 0, .inr (4, [.ref (u6 1)])), (u6 1, .inl (q 5, 6, .inr (.inr (.inr (.inr (fun j => some (u6 (2 + j)))))))), (u6 (2 + 0), .inl (q 0, 1000, .inl (upd (fillI (fun _ => 0) 1000 (1000 : Int32)) 0 (0 : Int32)))), (u6 (2 + 1), .inl (q 0, 1000, .inl (fun _ => 0))), (u6 (2 + 2), .inl (q 0, 1000, .inl (fun _ => 0))), (u6 (2 + 3), .inl (q 0, 1000, .inl (fun _ => 0))), (u6 (2 + 4), .inl (q 0, 1000, .inl (fun _ => 0))), (u6 (2 + 5), .inl (q 0, 1000, .inl (fun _ => 0))), (u8 0, .inr (1, [.ref (u8 1), .ref (u8 2)])), (u8 1, .inl (q 0, 6, .inl (fun _ => 0))), (u8 2, .inl (q 4, 5, .inr (.inr (.inr (.inr (fun j => some (u8 (3 + j)))))))), (u8 (3 + 0), .inr (2, [.ref (u8 (8 + 0))])), (u8 (3 + 1), .inr (2, [.ref (u8 (8 + 1))])), (u8 (3 + 2), .inr (2, [.ref (u8 (8 + 2))])), (u8 (3 + 3), .inr (2, [.ref (u8 (8 + 3))])), (u8 (3 + 4), .inr (2, [.ref (u8 (8 + 4))])), (u8 (8 + 0), .inl (q 1, 16, .inr (.inl (fun _ => 0)))), (u8 (8 + 1), .inl (q 1, 16, .inr (.inl (fun _ => 0)))), (u8 (8 + 2), .inl (q 1, 16, .inr (.inl (fun _ => 0)))), (u8 (8 + 3), .inl (q 1, 16, .inr (.inl (fun _ => 0)))), (u8 (8 + 4), .inl (q 1, 16, .inr (.inl (fun _ => 0))))]) rfl ?_
  refine j_putF g gi fl_X5_33 tyX5 tyX5_ok nmX5 rfl (tyX5_ok 3 (by decide)) rfl 0 rfl rfl rfl (Nat.le_of_ble_eq_true rfl) (ws' := [(h0, .inr (5, [.ref (u2 0), .ref (u4 0), .ref (u6 0), .ref (u8 0), .null, .int 0, .int 0, .int 0, .int 0])), (u2 0, .inr (3, [.ref (u2 1), .ref (u2 2), .ref (u2 3), .int 0])), (u2 1, .inl (q 3, 6, .inr (.inr (.inr (.inr (fun j => some (u2 (4 + j)))))))), (u2 2, .inl (q 3, 6, .inr (.inr (.inr (.inr (fun j => some (u2 (4 + j)))))))), (u2 3, .inl (q 0, 6, .inl (fun _ => 0))), (u2 (4 + 0), .inr (0, [.int 0, .int 0, .int 0, .int 0, .int 0, .int 0, .int (-1), .int 0, .int 0])), (u2 (4 + 1), .inr (0, [.int 0, .int 0, .int 0, .int 0, .int 0, .int 0, .int (-1), .int 0, .int 0])), (u2 (4 + 2), .inr (0, [.int 0, .int 0, .int 0, .int 0, .int 0, .int 0, .int (-1), .int 0, .int 0])), (u2 (4 + 3), .inr (0, [.int 0, .int 0, .int 0, .int 0, .int 0, .int 0, .int (-1), .int 0, .int 0])), (u2 (4 + 4), .inr (0, [.int 0, .int 0, .int 0, .int 0, .int 0, .int 0, .int (-1), .int 0, .int 0])), (u2 (4 + 5), .inr (0, [.int 0, .int 0, .int 0, .int 0, .int 0, .int 0, .int (-1), .int 0, .int 0])), (u4 0, .inr (2, [.ref (u4 1)])), (u4 1, .inl (q 1, 16, .inr (.inl (fun _ => 0)))), (u6 0, .inr (4, [.ref (u6 1)])), (u6 1, .inl (q 5, 6, .inr (.inr (.inr (.inr (fun j => some (u6 (2 + j)))))))), (u6 (2 + 0), .inl (q 0, 1000, .inl (upd (fillI (fun _ => 0) 1000 (1000 : Int32)) 0 (0 : Int32)))), (u6 (2 + 1), .inl (q 0, 1000, .inl (fun _ => 0))), (u6 (2 + 2), .inl (q 0, 1000, .inl (fun _ => 0))), (u6 (2 + 3), .inl (q 0, 1000, .inl (fun _ => 0))), (u6 (2 + 4), .inl (q 0, 1000, .inl (fun _ => 0))), (u6 (2 + 5), .inl (q 0, 1000, .inl (fun _ => 0))), (u8 0, .inr (1, [.ref (u8 1), .ref (u8 2)])), (u8 1, .inl (q 0, 6, .inl (fun _ => 0))), (u8 2, .inl (q 4, 5, .inr (.inr (.inr (.inr (fun j => some (u8 (3 + j)))))))), (u8 (3 + 0), .inr (2, [.ref (u8 (8 + 0))])), (u8 (3 + 1), .inr (2, [.ref (u8 (8 + 1))])), (u8 (3 + 2), .inr (2, [.ref (u8 (8 + 2))])), (u8 (3 + 3), .inr (2, [.ref (u8 (8 + 3))])), (u8 (3 + 4), .inr (2, [.ref (u8 (8 + 4))])), (u8 (8 + 0), .inl (q 1, 16, .inr (.inl (fun _ => 0)))), (u8 (8 + 1), .inl (q 1, 16, .inr (.inl (fun _ => 0)))), (u8 (8 + 2), .inl (q 1, 16, .inr (.inl (fun _ => 0)))), (u8 (8 + 3), .inl (q 1, 16, .inr (.inl (fun _ => 0)))), (u8 (8 + 4), .inl (q 1, 16, .inr (.inl (fun _ => 0))))]) rfl dX5_init_45 ?_
  refine j_aload_n g 0 rfl dX5_init_48 ?_
  refine j_bipush g (v := 6) (by decide) dX5_init_49 ?_
  refine j_newa g (t := 0) rfl (fun _ h => by cases h) rfl ac_int (N := 6) (a0 := (6, .inl (fun _ => 0))) (fun _ => rfl) (by decide) (by decide) (Nat.le_of_ble_eq_true rfl) (Nat.le_of_ble_eq_true rfl) (Nat.le_of_ble_eq_true rfl) dX5_init_51 (fun p9 => ?_)
  refine j_ws (ws' := [(h0, .inr (5, [.ref (u2 0), .ref (u4 0), .ref (u6 0), .ref (u8 0), .null, .int 0, .int 0, .int 0, .int 0])), (u2 0, .inr (3, [.ref (u2 1), .ref (u2 2), .ref (u2 3), .int 0])), (u2 1, .inl (q 3, 6, .inr (.inr (.inr (.inr (fun j => some (u2 (4 + j)))))))), (u2 2, .inl (q 3, 6, .inr (.inr (.inr (.inr (fun j => some (u2 (4 + j)))))))), (u2 3, .inl (q 0, 6, .inl (fun _ => 0))), (u2 (4 + 0), .inr (0, [.int 0, .int 0, .int 0, .int 0, .int 0, .int 0, .int (-1), .int 0, .int 0])), (u2 (4 + 1), .inr (0, [.int 0, .int 0, .int 0, .int 0, .int 0, .int 0, .int (-1), .int 0, .int 0])), (u2 (4 + 2), .inr (0, [.int 0, .int 0, .int 0, .int 0, .int 0, .int 0, .int (-1), .int 0, .int 0])), (u2 (4 + 3), .inr (0, [.int 0, .int 0, .int 0, .int 0, .int 0, .int 0, .int (-1), .int 0, .int 0])), (u2 (4 + 4), .inr (0, [.int 0, .int 0, .int 0, .int 0, .int 0, .int 0, .int (-1), .int 0, .int 0])), (u2 (4 + 5), .inr (0, [.int 0, .int 0, .int 0, .int 0, .int 0, .int 0, .int (-1), .int 0, .int 0])), (u4 0, .inr (2, [.ref (u4 1)])), (u4 1, .inl (q 1, 16, .inr (.inl (fun _ => 0)))), (u6 0, .inr (4, [.ref (u6 1)])), (u6 1, .inl (q 5, 6, .inr (.inr (.inr (.inr (fun j => some (u6 (2 + j)))))))), (u6 (2 + 0), .inl (q 0, 1000, .inl (upd (fillI (fun _ => 0) 1000 (1000 : Int32)) 0 (0 : Int32)))), (u6 (2 + 1), .inl (q 0, 1000, .inl (fun _ => 0))), (u6 (2 + 2), .inl (q 0, 1000, .inl (fun _ => 0))), (u6 (2 + 3), .inl (q 0, 1000, .inl (fun _ => 0))), (u6 (2 + 4), .inl (q 0, 1000, .inl (fun _ => 0))), (u6 (2 + 5), .inl (q 0, 1000, .inl (fun _ => 0))), (u8 0, .inr (1, [.ref (u8 1), .ref (u8 2)])), (u8 1, .inl (q 0, 6, .inl (fun _ => 0))), (u8 2, .inl (q 4, 5, .inr (.inr (.inr (.inr (fun j => some (u8 (3 + j)))))))), (u8 (3 + 0), .inr (2, [.ref (u8 (8 + 0))])), (u8 (3 + 1), .inr (2, [.ref (u8 (8 + 1))])), (u8 (3 + 2), .inr (2, [.ref (u8 (8 + 2))])), (u8 (3 + 3), .inr (2, [.ref (u8 (8 + 3))])), (u8 (3 + 4), .inr (2, [.ref (u8 (8 + 4))])), (u8 (8 + 0), .inl (q 1, 16, .inr (.inl (fun _ => 0)))), (u8 (8 + 1), .inl (q 1, 16, .inr (.inl (fun _ => 0)))), (u8 (8 + 2), .inl (q 1, 16, .inr (.inl (fun _ => 0)))), (u8 (8 + 3), .inl (q 1, 16, .inr (.inl (fun _ => 0)))), (u8 (8 + 4), .inl (q 1, 16, .inr (.inl (fun _ => 0)))), (p9, .inl (q 0, 6, .inl (fun _ => 0)))]) rfl ?_
  refine j_putF g gi fl_X5_37 tyX5 tyX5_ok nmX5 rfl (tyX5_ok 4 (by decide)) rfl 0 rfl rfl rfl (Nat.le_of_ble_eq_true rfl) (ws' := [(h0, .inr (5, [.ref (u2 0), .ref (u4 0), .ref (u6 0), .ref (u8 0), .ref p9, .int 0, .int 0, .int 0, .int 0])), (u2 0, .inr (3, [.ref (u2 1), .ref (u2 2), .ref (u2 3), .int 0])), (u2 1, .inl (q 3, 6, .inr (.inr (.inr (.inr (fun j => some (u2 (4 + j)))))))), (u2 2, .inl (q 3, 6, .inr (.inr (.inr (.inr (fun j => some (u2 (4 + j)))))))), (u2 3, .inl (q 0, 6, .inl (fun _ => 0))), (u2 (4 + 0), .inr (0, [.int 0, .int 0, .int 0, .int 0, .int 0, .int 0, .int (-1), .int 0, .int 0])), (u2 (4 + 1), .inr (0, [.int 0, .int 0, .int 0, .int 0, .int 0, .int 0, .int (-1), .int 0, .int 0])), (u2 (4 + 2), .inr (0, [.int 0, .int 0, .int 0, .int 0, .int 0, .int 0, .int (-1), .int 0, .int 0])), (u2 (4 + 3), .inr (0, [.int 0, .int 0, .int 0, .int 0, .int 0, .int 0, .int (-1), .int 0, .int 0])), (u2 (4 + 4), .inr (0, [.int 0, .int 0, .int 0, .int 0, .int 0, .int 0, .int (-1), .int 0, .int 0])), (u2 (4 + 5), .inr (0, [.int 0, .int 0, .int 0, .int 0, .int 0, .int 0, .int (-1), .int 0, .int 0])), (u4 0, .inr (2, [.ref (u4 1)])), (u4 1, .inl (q 1, 16, .inr (.inl (fun _ => 0)))), (u6 0, .inr (4, [.ref (u6 1)])), (u6 1, .inl (q 5, 6, .inr (.inr (.inr (.inr (fun j => some (u6 (2 + j)))))))), (u6 (2 + 0), .inl (q 0, 1000, .inl (upd (fillI (fun _ => 0) 1000 (1000 : Int32)) 0 (0 : Int32)))), (u6 (2 + 1), .inl (q 0, 1000, .inl (fun _ => 0))), (u6 (2 + 2), .inl (q 0, 1000, .inl (fun _ => 0))), (u6 (2 + 3), .inl (q 0, 1000, .inl (fun _ => 0))), (u6 (2 + 4), .inl (q 0, 1000, .inl (fun _ => 0))), (u6 (2 + 5), .inl (q 0, 1000, .inl (fun _ => 0))), (u8 0, .inr (1, [.ref (u8 1), .ref (u8 2)])), (u8 1, .inl (q 0, 6, .inl (fun _ => 0))), (u8 2, .inl (q 4, 5, .inr (.inr (.inr (.inr (fun j => some (u8 (3 + j)))))))), (u8 (3 + 0), .inr (2, [.ref (u8 (8 + 0))])), (u8 (3 + 1), .inr (2, [.ref (u8 (8 + 1))])), (u8 (3 + 2), .inr (2, [.ref (u8 (8 + 2))])), (u8 (3 + 3), .inr (2, [.ref (u8 (8 + 3))])), (u8 (3 + 4), .inr (2, [.ref (u8 (8 + 4))])), (u8 (8 + 0), .inl (q 1, 16, .inr (.inl (fun _ => 0)))), (u8 (8 + 1), .inl (q 1, 16, .inr (.inl (fun _ => 0)))), (u8 (8 + 2), .inl (q 1, 16, .inr (.inl (fun _ => 0)))), (u8 (8 + 3), .inl (q 1, 16, .inr (.inl (fun _ => 0)))), (u8 (8 + 4), .inl (q 1, 16, .inr (.inl (fun _ => 0)))), (p9, .inl (q 0, 6, .inl (fun _ => 0)))]) rfl dX5_init_53 ?_
  refine j_aload_n g 0 rfl dX5_init_56 ?_
  refine j_iconst g (v := 0) (by decide) dX5_init_57 ?_
  refine j_put g fl_X5_41 fp_X5_5 0 rfl rfl rfl (Nat.le_of_ble_eq_true rfl) (ws' := [(h0, .inr (5, [.ref (u2 0), .ref (u4 0), .ref (u6 0), .ref (u8 0), .ref p9, .int (0 : Int32), .int 0, .int 0, .int 0])), (u2 0, .inr (3, [.ref (u2 1), .ref (u2 2), .ref (u2 3), .int 0])), (u2 1, .inl (q 3, 6, .inr (.inr (.inr (.inr (fun j => some (u2 (4 + j)))))))), (u2 2, .inl (q 3, 6, .inr (.inr (.inr (.inr (fun j => some (u2 (4 + j)))))))), (u2 3, .inl (q 0, 6, .inl (fun _ => 0))), (u2 (4 + 0), .inr (0, [.int 0, .int 0, .int 0, .int 0, .int 0, .int 0, .int (-1), .int 0, .int 0])), (u2 (4 + 1), .inr (0, [.int 0, .int 0, .int 0, .int 0, .int 0, .int 0, .int (-1), .int 0, .int 0])), (u2 (4 + 2), .inr (0, [.int 0, .int 0, .int 0, .int 0, .int 0, .int 0, .int (-1), .int 0, .int 0])), (u2 (4 + 3), .inr (0, [.int 0, .int 0, .int 0, .int 0, .int 0, .int 0, .int (-1), .int 0, .int 0])), (u2 (4 + 4), .inr (0, [.int 0, .int 0, .int 0, .int 0, .int 0, .int 0, .int (-1), .int 0, .int 0])), (u2 (4 + 5), .inr (0, [.int 0, .int 0, .int 0, .int 0, .int 0, .int 0, .int (-1), .int 0, .int 0])), (u4 0, .inr (2, [.ref (u4 1)])), (u4 1, .inl (q 1, 16, .inr (.inl (fun _ => 0)))), (u6 0, .inr (4, [.ref (u6 1)])), (u6 1, .inl (q 5, 6, .inr (.inr (.inr (.inr (fun j => some (u6 (2 + j)))))))), (u6 (2 + 0), .inl (q 0, 1000, .inl (upd (fillI (fun _ => 0) 1000 (1000 : Int32)) 0 (0 : Int32)))), (u6 (2 + 1), .inl (q 0, 1000, .inl (fun _ => 0))), (u6 (2 + 2), .inl (q 0, 1000, .inl (fun _ => 0))), (u6 (2 + 3), .inl (q 0, 1000, .inl (fun _ => 0))), (u6 (2 + 4), .inl (q 0, 1000, .inl (fun _ => 0))), (u6 (2 + 5), .inl (q 0, 1000, .inl (fun _ => 0))), (u8 0, .inr (1, [.ref (u8 1), .ref (u8 2)])), (u8 1, .inl (q 0, 6, .inl (fun _ => 0))), (u8 2, .inl (q 4, 5, .inr (.inr (.inr (.inr (fun j => some (u8 (3 + j)))))))), (u8 (3 + 0), .inr (2, [.ref (u8 (8 + 0))])), (u8 (3 + 1), .inr (2, [.ref (u8 (8 + 1))])), (u8 (3 + 2), .inr (2, [.ref (u8 (8 + 2))])), (u8 (3 + 3), .inr (2, [.ref (u8 (8 + 3))])), (u8 (3 + 4), .inr (2, [.ref (u8 (8 + 4))])), (u8 (8 + 0), .inl (q 1, 16, .inr (.inl (fun _ => 0)))), (u8 (8 + 1), .inl (q 1, 16, .inr (.inl (fun _ => 0)))), (u8 (8 + 2), .inl (q 1, 16, .inr (.inl (fun _ => 0)))), (u8 (8 + 3), .inl (q 1, 16, .inr (.inl (fun _ => 0)))), (u8 (8 + 4), .inl (q 1, 16, .inr (.inl (fun _ => 0)))), (p9, .inl (q 0, 6, .inl (fun _ => 0)))]) rfl dX5_init_58 ?_
  refine j_aload_n g 0 rfl dX5_init_61 ?_
  refine j_iconst g (v := 0) (by decide) dX5_init_62 ?_
  refine j_put g fl_X5_45 fp_X5_6 0 rfl rfl rfl (Nat.le_of_ble_eq_true rfl) (ws' := [(h0, .inr (5, [.ref (u2 0), .ref (u4 0), .ref (u6 0), .ref (u8 0), .ref p9, .int (0 : Int32), .int (0 : Int32), .int 0, .int 0])), (u2 0, .inr (3, [.ref (u2 1), .ref (u2 2), .ref (u2 3), .int 0])), (u2 1, .inl (q 3, 6, .inr (.inr (.inr (.inr (fun j => some (u2 (4 + j)))))))), (u2 2, .inl (q 3, 6, .inr (.inr (.inr (.inr (fun j => some (u2 (4 + j)))))))), (u2 3, .inl (q 0, 6, .inl (fun _ => 0))), (u2 (4 + 0), .inr (0, [.int 0, .int 0, .int 0, .int 0, .int 0, .int 0, .int (-1), .int 0, .int 0])), (u2 (4 + 1), .inr (0, [.int 0, .int 0, .int 0, .int 0, .int 0, .int 0, .int (-1), .int 0, .int 0])), (u2 (4 + 2), .inr (0, [.int 0, .int 0, .int 0, .int 0, .int 0, .int 0, .int (-1), .int 0, .int 0])), (u2 (4 + 3), .inr (0, [.int 0, .int 0, .int 0, .int 0, .int 0, .int 0, .int (-1), .int 0, .int 0])), (u2 (4 + 4), .inr (0, [.int 0, .int 0, .int 0, .int 0, .int 0, .int 0, .int (-1), .int 0, .int 0])), (u2 (4 + 5), .inr (0, [.int 0, .int 0, .int 0, .int 0, .int 0, .int 0, .int (-1), .int 0, .int 0])), (u4 0, .inr (2, [.ref (u4 1)])), (u4 1, .inl (q 1, 16, .inr (.inl (fun _ => 0)))), (u6 0, .inr (4, [.ref (u6 1)])), (u6 1, .inl (q 5, 6, .inr (.inr (.inr (.inr (fun j => some (u6 (2 + j)))))))), (u6 (2 + 0), .inl (q 0, 1000, .inl (upd (fillI (fun _ => 0) 1000 (1000 : Int32)) 0 (0 : Int32)))), (u6 (2 + 1), .inl (q 0, 1000, .inl (fun _ => 0))), (u6 (2 + 2), .inl (q 0, 1000, .inl (fun _ => 0))), (u6 (2 + 3), .inl (q 0, 1000, .inl (fun _ => 0))), (u6 (2 + 4), .inl (q 0, 1000, .inl (fun _ => 0))), (u6 (2 + 5), .inl (q 0, 1000, .inl (fun _ => 0))), (u8 0, .inr (1, [.ref (u8 1), .ref (u8 2)])), (u8 1, .inl (q 0, 6, .inl (fun _ => 0))), (u8 2, .inl (q 4, 5, .inr (.inr (.inr (.inr (fun j => some (u8 (3 + j)))))))), (u8 (3 + 0), .inr (2, [.ref (u8 (8 + 0))])), (u8 (3 + 1), .inr (2, [.ref (u8 (8 + 1))])), (u8 (3 + 2), .inr (2, [.ref (u8 (8 + 2))])), (u8 (3 + 3), .inr (2, [.ref (u8 (8 + 3))])), (u8 (3 + 4), .inr (2, [.ref (u8 (8 + 4))])), (u8 (8 + 0), .inl (q 1, 16, .inr (.inl (fun _ => 0)))), (u8 (8 + 1), .inl (q 1, 16, .inr (.inl (fun _ => 0)))), (u8 (8 + 2), .inl (q 1, 16, .inr (.inl (fun _ => 0)))), (u8 (8 + 3), .inl (q 1, 16, .inr (.inl (fun _ => 0)))), (u8 (8 + 4), .inl (q 1, 16, .inr (.inl (fun _ => 0)))), (p9, .inl (q 0, 6, .inl (fun _ => 0)))]) rfl dX5_init_63 ?_
  refine j_aload_n g 0 rfl dX5_init_66 ?_
  refine j_iconst g (v := 0) (by decide) dX5_init_67 ?_
  refine j_put g fl_X5_48 fp_X5_7 0 rfl rfl rfl (Nat.le_of_ble_eq_true rfl) (ws' := [(h0, .inr (5, [.ref (u2 0), .ref (u4 0), .ref (u6 0), .ref (u8 0), .ref p9, .int (0 : Int32), .int (0 : Int32), .int (0 : Int32), .int 0])), (u2 0, .inr (3, [.ref (u2 1), .ref (u2 2), .ref (u2 3), .int 0])), (u2 1, .inl (q 3, 6, .inr (.inr (.inr (.inr (fun j => some (u2 (4 + j)))))))), (u2 2, .inl (q 3, 6, .inr (.inr (.inr (.inr (fun j => some (u2 (4 + j)))))))), (u2 3, .inl (q 0, 6, .inl (fun _ => 0))), (u2 (4 + 0), .inr (0, [.int 0, .int 0, .int 0, .int 0, .int 0, .int 0, .int (-1), .int 0, .int 0])), (u2 (4 + 1), .inr (0, [.int 0, .int 0, .int 0, .int 0, .int 0, .int 0, .int (-1), .int 0, .int 0])), (u2 (4 + 2), .inr (0, [.int 0, .int 0, .int 0, .int 0, .int 0, .int 0, .int (-1), .int 0, .int 0])), (u2 (4 + 3), .inr (0, [.int 0, .int 0, .int 0, .int 0, .int 0, .int 0, .int (-1), .int 0, .int 0])), (u2 (4 + 4), .inr (0, [.int 0, .int 0, .int 0, .int 0, .int 0, .int 0, .int (-1), .int 0, .int 0])), (u2 (4 + 5), .inr (0, [.int 0, .int 0, .int 0, .int 0, .int 0, .int 0, .int (-1), .int 0, .int 0])), (u4 0, .inr (2, [.ref (u4 1)])), (u4 1, .inl (q 1, 16, .inr (.inl (fun _ => 0)))), (u6 0, .inr (4, [.ref (u6 1)])), (u6 1, .inl (q 5, 6, .inr (.inr (.inr (.inr (fun j => some (u6 (2 + j)))))))), (u6 (2 + 0), .inl (q 0, 1000, .inl (upd (fillI (fun _ => 0) 1000 (1000 : Int32)) 0 (0 : Int32)))), (u6 (2 + 1), .inl (q 0, 1000, .inl (fun _ => 0))), (u6 (2 + 2), .inl (q 0, 1000, .inl (fun _ => 0))), (u6 (2 + 3), .inl (q 0, 1000, .inl (fun _ => 0))), (u6 (2 + 4), .inl (q 0, 1000, .inl (fun _ => 0))), (u6 (2 + 5), .inl (q 0, 1000, .inl (fun _ => 0))), (u8 0, .inr (1, [.ref (u8 1), .ref (u8 2)])), (u8 1, .inl (q 0, 6, .inl (fun _ => 0))), (u8 2, .inl (q 4, 5, .inr (.inr (.inr (.inr (fun j => some (u8 (3 + j)))))))), (u8 (3 + 0), .inr (2, [.ref (u8 (8 + 0))])), (u8 (3 + 1), .inr (2, [.ref (u8 (8 + 1))])), (u8 (3 + 2), .inr (2, [.ref (u8 (8 + 2))])), (u8 (3 + 3), .inr (2, [.ref (u8 (8 + 3))])), (u8 (3 + 4), .inr (2, [.ref (u8 (8 + 4))])), (u8 (8 + 0), .inl (q 1, 16, .inr (.inl (fun _ => 0)))), (u8 (8 + 1), .inl (q 1, 16, .inr (.inl (fun _ => 0)))), (u8 (8 + 2), .inl (q 1, 16, .inr (.inl (fun _ => 0)))), (u8 (8 + 3), .inl (q 1, 16, .inr (.inl (fun _ => 0)))), (u8 (8 + 4), .inl (q 1, 16, .inr (.inl (fun _ => 0)))), (p9, .inl (q 0, 6, .inl (fun _ => 0)))]) rfl dX5_init_68 ?_
  refine j_aload_n g 0 rfl dX5_init_71 ?_
  refine j_iconst g (v := -1) (by decide) dX5_init_72 ?_
  refine j_put g fl_X5_51 fp_X5_8 0 rfl rfl rfl (Nat.le_of_ble_eq_true rfl) (ws' := [(h0, .inr (5, [.ref (u2 0), .ref (u4 0), .ref (u6 0), .ref (u8 0), .ref p9, .int (0 : Int32), .int (0 : Int32), .int (0 : Int32), .int (-1 : Int32)])), (u2 0, .inr (3, [.ref (u2 1), .ref (u2 2), .ref (u2 3), .int 0])), (u2 1, .inl (q 3, 6, .inr (.inr (.inr (.inr (fun j => some (u2 (4 + j)))))))), (u2 2, .inl (q 3, 6, .inr (.inr (.inr (.inr (fun j => some (u2 (4 + j)))))))), (u2 3, .inl (q 0, 6, .inl (fun _ => 0))), (u2 (4 + 0), .inr (0, [.int 0, .int 0, .int 0, .int 0, .int 0, .int 0, .int (-1), .int 0, .int 0])), (u2 (4 + 1), .inr (0, [.int 0, .int 0, .int 0, .int 0, .int 0, .int 0, .int (-1), .int 0, .int 0])), (u2 (4 + 2), .inr (0, [.int 0, .int 0, .int 0, .int 0, .int 0, .int 0, .int (-1), .int 0, .int 0])), (u2 (4 + 3), .inr (0, [.int 0, .int 0, .int 0, .int 0, .int 0, .int 0, .int (-1), .int 0, .int 0])), (u2 (4 + 4), .inr (0, [.int 0, .int 0, .int 0, .int 0, .int 0, .int 0, .int (-1), .int 0, .int 0])), (u2 (4 + 5), .inr (0, [.int 0, .int 0, .int 0, .int 0, .int 0, .int 0, .int (-1), .int 0, .int 0])), (u4 0, .inr (2, [.ref (u4 1)])), (u4 1, .inl (q 1, 16, .inr (.inl (fun _ => 0)))), (u6 0, .inr (4, [.ref (u6 1)])), (u6 1, .inl (q 5, 6, .inr (.inr (.inr (.inr (fun j => some (u6 (2 + j)))))))), (u6 (2 + 0), .inl (q 0, 1000, .inl (upd (fillI (fun _ => 0) 1000 (1000 : Int32)) 0 (0 : Int32)))), (u6 (2 + 1), .inl (q 0, 1000, .inl (fun _ => 0))), (u6 (2 + 2), .inl (q 0, 1000, .inl (fun _ => 0))), (u6 (2 + 3), .inl (q 0, 1000, .inl (fun _ => 0))), (u6 (2 + 4), .inl (q 0, 1000, .inl (fun _ => 0))), (u6 (2 + 5), .inl (q 0, 1000, .inl (fun _ => 0))), (u8 0, .inr (1, [.ref (u8 1), .ref (u8 2)])), (u8 1, .inl (q 0, 6, .inl (fun _ => 0))), (u8 2, .inl (q 4, 5, .inr (.inr (.inr (.inr (fun j => some (u8 (3 + j)))))))), (u8 (3 + 0), .inr (2, [.ref (u8 (8 + 0))])), (u8 (3 + 1), .inr (2, [.ref (u8 (8 + 1))])), (u8 (3 + 2), .inr (2, [.ref (u8 (8 + 2))])), (u8 (3 + 3), .inr (2, [.ref (u8 (8 + 3))])), (u8 (3 + 4), .inr (2, [.ref (u8 (8 + 4))])), (u8 (8 + 0), .inl (q 1, 16, .inr (.inl (fun _ => 0)))), (u8 (8 + 1), .inl (q 1, 16, .inr (.inl (fun _ => 0)))), (u8 (8 + 2), .inl (q 1, 16, .inr (.inl (fun _ => 0)))), (u8 (8 + 3), .inl (q 1, 16, .inr (.inl (fun _ => 0)))), (u8 (8 + 4), .inl (q 1, 16, .inr (.inl (fun _ => 0)))), (p9, .inl (q 0, 6, .inl (fun _ => 0)))]) rfl dX5_init_73 ?_
  refine j_perm (ws' := [(h0, .inr (5, [.ref (u2 0), .ref (u4 0), .ref (u6 0), .ref (u8 0), .ref p9, .int (0 : Int32), .int (0 : Int32), .int (0 : Int32), .int (-1 : Int32)])), (u2 0, .inr (3, [.ref (u2 1), .ref (u2 2), .ref (u2 3), .int 0])), (u2 1, .inl (q 3, 6, .inr (.inr (.inr (.inr (fun j => some (u2 (4 + j)))))))), (u2 2, .inl (q 3, 6, .inr (.inr (.inr (.inr (fun j => some (u2 (4 + j)))))))), (u2 3, .inl (q 0, 6, .inl (fun _ => 0))), (p9, .inl (q 0, 6, .inl (fun _ => 0))), (u6 0, .inr (4, [.ref (u6 1)])), (u6 1, .inl (q 5, 6, .inr (.inr (.inr (.inr (fun j => some (u6 (2 + j)))))))), (u8 0, .inr (1, [.ref (u8 1), .ref (u8 2)])), (u8 1, .inl (q 0, 6, .inl (fun _ => 0))), (u8 2, .inl (q 4, 5, .inr (.inr (.inr (.inr (fun j => some (u8 (3 + j)))))))), (u2 (4 + 0), .inr (0, [.int 0, .int 0, .int 0, .int 0, .int 0, .int 0, .int (-1), .int 0, .int 0])), (u2 (4 + 1), .inr (0, [.int 0, .int 0, .int 0, .int 0, .int 0, .int 0, .int (-1), .int 0, .int 0])), (u2 (4 + 2), .inr (0, [.int 0, .int 0, .int 0, .int 0, .int 0, .int 0, .int (-1), .int 0, .int 0])), (u2 (4 + 3), .inr (0, [.int 0, .int 0, .int 0, .int 0, .int 0, .int 0, .int (-1), .int 0, .int 0])), (u2 (4 + 4), .inr (0, [.int 0, .int 0, .int 0, .int 0, .int 0, .int 0, .int (-1), .int 0, .int 0])), (u2 (4 + 5), .inr (0, [.int 0, .int 0, .int 0, .int 0, .int 0, .int 0, .int (-1), .int 0, .int 0])), (u4 0, .inr (2, [.ref (u4 1)])), (u8 (3 + 0), .inr (2, [.ref (u8 (8 + 0))])), (u8 (3 + 1), .inr (2, [.ref (u8 (8 + 1))])), (u8 (3 + 2), .inr (2, [.ref (u8 (8 + 2))])), (u8 (3 + 3), .inr (2, [.ref (u8 (8 + 3))])), (u8 (3 + 4), .inr (2, [.ref (u8 (8 + 4))])), (u4 1, .inl (q 1, 16, .inr (.inl (fun _ => 0)))), (u8 (8 + 0), .inl (q 1, 16, .inr (.inl (fun _ => 0)))), (u8 (8 + 1), .inl (q 1, 16, .inr (.inl (fun _ => 0)))), (u8 (8 + 2), .inl (q 1, 16, .inr (.inl (fun _ => 0)))), (u8 (8 + 3), .inl (q 1, 16, .inr (.inl (fun _ => 0)))), (u8 (8 + 4), .inl (q 1, 16, .inr (.inl (fun _ => 0)))), (u6 (2 + 0), .inl (q 0, 1000, .inl (upd (fillI (fun _ => 0) 1000 (1000 : Int32)) 0 (0 : Int32)))), (u6 (2 + 1), .inl (q 0, 1000, .inl (fun _ => 0))), (u6 (2 + 2), .inl (q 0, 1000, .inl (fun _ => 0))), (u6 (2 + 3), .inl (q 0, 1000, .inl (fun _ => 0))), (u6 (2 + 4), .inl (q 0, 1000, .inl (fun _ => 0))), (u6 (2 + 5), .inl (q 0, 1000, .inl (fun _ => 0)))]) [0, 1, 2, 3, 4, 34, 13, 14, 21, 22, 23, 5, 6, 7, 8, 9, 10, 11, 24, 25, 26, 27, 28, 12, 29, 30, 31, 32, 33, 15, 16, 17, 18, 19, 20] rfl (by decide) rfl ?_
  refine j_fn 2 (f2 := fun j => some ((fun i => [h0, u2 0, u2 1, u2 2, u2 3, p9, u6 0, u6 1, u8 0, u8 1, u8 2, u2 (4 + 0), u2 (4 + 1), u2 (4 + 2), u2 (4 + 3), u2 (4 + 4), u2 (4 + 5), u4 0, u8 (3 + 0), u8 (3 + 1), u8 (3 + 2), u8 (3 + 3), u8 (3 + 4), u4 1, u8 (8 + 0), u8 (8 + 1), u8 (8 + 2), u8 (8 + 3), u8 (8 + 4), u6 (2 + 0), u6 (2 + 1), u6 (2 + 2), u6 (2 + 3), u6 (2 + 4), u6 (2 + 5)].getD i 0) (11 + j))) rfl ?_ (ws' := [(h0, .inr (5, [.ref (u2 0), .ref (u4 0), .ref (u6 0), .ref (u8 0), .ref p9, .int (0 : Int32), .int (0 : Int32), .int (0 : Int32), .int (-1 : Int32)])), (u2 0, .inr (3, [.ref (u2 1), .ref (u2 2), .ref (u2 3), .int 0])), (u2 1, .inl (q 3, 6, .inr (.inr (.inr (.inr (fun j => some ((fun i => [h0, u2 0, u2 1, u2 2, u2 3, p9, u6 0, u6 1, u8 0, u8 1, u8 2, u2 (4 + 0), u2 (4 + 1), u2 (4 + 2), u2 (4 + 3), u2 (4 + 4), u2 (4 + 5), u4 0, u8 (3 + 0), u8 (3 + 1), u8 (3 + 2), u8 (3 + 3), u8 (3 + 4), u4 1, u8 (8 + 0), u8 (8 + 1), u8 (8 + 2), u8 (8 + 3), u8 (8 + 4), u6 (2 + 0), u6 (2 + 1), u6 (2 + 2), u6 (2 + 3), u6 (2 + 4), u6 (2 + 5)].getD i 0) (11 + j)))))))), (u2 2, .inl (q 3, 6, .inr (.inr (.inr (.inr (fun j => some (u2 (4 + j)))))))), (u2 3, .inl (q 0, 6, .inl (fun _ => 0))), (p9, .inl (q 0, 6, .inl (fun _ => 0))), (u6 0, .inr (4, [.ref (u6 1)])), (u6 1, .inl (q 5, 6, .inr (.inr (.inr (.inr (fun j => some (u6 (2 + j)))))))), (u8 0, .inr (1, [.ref (u8 1), .ref (u8 2)])), (u8 1, .inl (q 0, 6, .inl (fun _ => 0))), (u8 2, .inl (q 4, 5, .inr (.inr (.inr (.inr (fun j => some (u8 (3 + j)))))))), (u2 (4 + 0), .inr (0, [.int 0, .int 0, .int 0, .int 0, .int 0, .int 0, .int (-1), .int 0, .int 0])), (u2 (4 + 1), .inr (0, [.int 0, .int 0, .int 0, .int 0, .int 0, .int 0, .int (-1), .int 0, .int 0])), (u2 (4 + 2), .inr (0, [.int 0, .int 0, .int 0, .int 0, .int 0, .int 0, .int (-1), .int 0, .int 0])), (u2 (4 + 3), .inr (0, [.int 0, .int 0, .int 0, .int 0, .int 0, .int 0, .int (-1), .int 0, .int 0])), (u2 (4 + 4), .inr (0, [.int 0, .int 0, .int 0, .int 0, .int 0, .int 0, .int (-1), .int 0, .int 0])), (u2 (4 + 5), .inr (0, [.int 0, .int 0, .int 0, .int 0, .int 0, .int 0, .int (-1), .int 0, .int 0])), (u4 0, .inr (2, [.ref (u4 1)])), (u8 (3 + 0), .inr (2, [.ref (u8 (8 + 0))])), (u8 (3 + 1), .inr (2, [.ref (u8 (8 + 1))])), (u8 (3 + 2), .inr (2, [.ref (u8 (8 + 2))])), (u8 (3 + 3), .inr (2, [.ref (u8 (8 + 3))])), (u8 (3 + 4), .inr (2, [.ref (u8 (8 + 4))])), (u4 1, .inl (q 1, 16, .inr (.inl (fun _ => 0)))), (u8 (8 + 0), .inl (q 1, 16, .inr (.inl (fun _ => 0)))), (u8 (8 + 1), .inl (q 1, 16, .inr (.inl (fun _ => 0)))), (u8 (8 + 2), .inl (q 1, 16, .inr (.inl (fun _ => 0)))), (u8 (8 + 3), .inl (q 1, 16, .inr (.inl (fun _ => 0)))), (u8 (8 + 4), .inl (q 1, 16, .inr (.inl (fun _ => 0)))), (u6 (2 + 0), .inl (q 0, 1000, .inl (upd (fillI (fun _ => 0) 1000 (1000 : Int32)) 0 (0 : Int32)))), (u6 (2 + 1), .inl (q 0, 1000, .inl (fun _ => 0))), (u6 (2 + 2), .inl (q 0, 1000, .inl (fun _ => 0))), (u6 (2 + 3), .inl (q 0, 1000, .inl (fun _ => 0))), (u6 (2 + 4), .inl (q 0, 1000, .inl (fun _ => 0))), (u6 (2 + 5), .inl (q 0, 1000, .inl (fun _ => 0)))]) rfl ?_
  · intro i hi
    match i, hi with
    | 0, _ => rfl
    | 1, _ => rfl
    | 2, _ => rfl
    | 3, _ => rfl
    | 4, _ => rfl
    | 5, _ => rfl
  refine j_fn 3 (f2 := fun j => some ((fun i => [h0, u2 0, u2 1, u2 2, u2 3, p9, u6 0, u6 1, u8 0, u8 1, u8 2, u2 (4 + 0), u2 (4 + 1), u2 (4 + 2), u2 (4 + 3), u2 (4 + 4), u2 (4 + 5), u4 0, u8 (3 + 0), u8 (3 + 1), u8 (3 + 2), u8 (3 + 3), u8 (3 + 4), u4 1, u8 (8 + 0), u8 (8 + 1), u8 (8 + 2), u8 (8 + 3), u8 (8 + 4), u6 (2 + 0), u6 (2 + 1), u6 (2 + 2), u6 (2 + 3), u6 (2 + 4), u6 (2 + 5)].getD i 0) (11 + (fun j => j) j))) rfl ?_ (ws' := [(h0, .inr (5, [.ref (u2 0), .ref (u4 0), .ref (u6 0), .ref (u8 0), .ref p9, .int (0 : Int32), .int (0 : Int32), .int (0 : Int32), .int (-1 : Int32)])), (u2 0, .inr (3, [.ref (u2 1), .ref (u2 2), .ref (u2 3), .int 0])), (u2 1, .inl (q 3, 6, .inr (.inr (.inr (.inr (fun j => some ((fun i => [h0, u2 0, u2 1, u2 2, u2 3, p9, u6 0, u6 1, u8 0, u8 1, u8 2, u2 (4 + 0), u2 (4 + 1), u2 (4 + 2), u2 (4 + 3), u2 (4 + 4), u2 (4 + 5), u4 0, u8 (3 + 0), u8 (3 + 1), u8 (3 + 2), u8 (3 + 3), u8 (3 + 4), u4 1, u8 (8 + 0), u8 (8 + 1), u8 (8 + 2), u8 (8 + 3), u8 (8 + 4), u6 (2 + 0), u6 (2 + 1), u6 (2 + 2), u6 (2 + 3), u6 (2 + 4), u6 (2 + 5)].getD i 0) (11 + j)))))))), (u2 2, .inl (q 3, 6, .inr (.inr (.inr (.inr (fun j => some ((fun i => [h0, u2 0, u2 1, u2 2, u2 3, p9, u6 0, u6 1, u8 0, u8 1, u8 2, u2 (4 + 0), u2 (4 + 1), u2 (4 + 2), u2 (4 + 3), u2 (4 + 4), u2 (4 + 5), u4 0, u8 (3 + 0), u8 (3 + 1), u8 (3 + 2), u8 (3 + 3), u8 (3 + 4), u4 1, u8 (8 + 0), u8 (8 + 1), u8 (8 + 2), u8 (8 + 3), u8 (8 + 4), u6 (2 + 0), u6 (2 + 1), u6 (2 + 2), u6 (2 + 3), u6 (2 + 4), u6 (2 + 5)].getD i 0) (11 + (fun j => j) j)))))))), (u2 3, .inl (q 0, 6, .inl (fun _ => 0))), (p9, .inl (q 0, 6, .inl (fun _ => 0))), (u6 0, .inr (4, [.ref (u6 1)])), (u6 1, .inl (q 5, 6, .inr (.inr (.inr (.inr (fun j => some (u6 (2 + j)))))))), (u8 0, .inr (1, [.ref (u8 1), .ref (u8 2)])), (u8 1, .inl (q 0, 6, .inl (fun _ => 0))), (u8 2, .inl (q 4, 5, .inr (.inr (.inr (.inr (fun j => some (u8 (3 + j)))))))), (u2 (4 + 0), .inr (0, [.int 0, .int 0, .int 0, .int 0, .int 0, .int 0, .int (-1), .int 0, .int 0])), (u2 (4 + 1), .inr (0, [.int 0, .int 0, .int 0, .int 0, .int 0, .int 0, .int (-1), .int 0, .int 0])), (u2 (4 + 2), .inr (0, [.int 0, .int 0, .int 0, .int 0, .int 0, .int 0, .int (-1), .int 0, .int 0])), (u2 (4 + 3), .inr (0, [.int 0, .int 0, .int 0, .int 0, .int 0, .int 0, .int (-1), .int 0, .int 0])), (u2 (4 + 4), .inr (0, [.int 0, .int 0, .int 0, .int 0, .int 0, .int 0, .int (-1), .int 0, .int 0])), (u2 (4 + 5), .inr (0, [.int 0, .int 0, .int 0, .int 0, .int 0, .int 0, .int (-1), .int 0, .int 0])), (u4 0, .inr (2, [.ref (u4 1)])), (u8 (3 + 0), .inr (2, [.ref (u8 (8 + 0))])), (u8 (3 + 1), .inr (2, [.ref (u8 (8 + 1))])), (u8 (3 + 2), .inr (2, [.ref (u8 (8 + 2))])), (u8 (3 + 3), .inr (2, [.ref (u8 (8 + 3))])), (u8 (3 + 4), .inr (2, [.ref (u8 (8 + 4))])), (u4 1, .inl (q 1, 16, .inr (.inl (fun _ => 0)))), (u8 (8 + 0), .inl (q 1, 16, .inr (.inl (fun _ => 0)))), (u8 (8 + 1), .inl (q 1, 16, .inr (.inl (fun _ => 0)))), (u8 (8 + 2), .inl (q 1, 16, .inr (.inl (fun _ => 0)))), (u8 (8 + 3), .inl (q 1, 16, .inr (.inl (fun _ => 0)))), (u8 (8 + 4), .inl (q 1, 16, .inr (.inl (fun _ => 0)))), (u6 (2 + 0), .inl (q 0, 1000, .inl (upd (fillI (fun _ => 0) 1000 (1000 : Int32)) 0 (0 : Int32)))), (u6 (2 + 1), .inl (q 0, 1000, .inl (fun _ => 0))), (u6 (2 + 2), .inl (q 0, 1000, .inl (fun _ => 0))), (u6 (2 + 3), .inl (q 0, 1000, .inl (fun _ => 0))), (u6 (2 + 4), .inl (q 0, 1000, .inl (fun _ => 0))), (u6 (2 + 5), .inl (q 0, 1000, .inl (fun _ => 0)))]) rfl ?_
  · intro i hi
    match i, hi with
    | 0, _ => rfl
    | 1, _ => rfl
    | 2, _ => rfl
    | 3, _ => rfl
    | 4, _ => rfl
    | 5, _ => rfl
  refine j_fn 7 (f2 := fun j => some ((fun i => [h0, u2 0, u2 1, u2 2, u2 3, p9, u6 0, u6 1, u8 0, u8 1, u8 2, u2 (4 + 0), u2 (4 + 1), u2 (4 + 2), u2 (4 + 3), u2 (4 + 4), u2 (4 + 5), u4 0, u8 (3 + 0), u8 (3 + 1), u8 (3 + 2), u8 (3 + 3), u8 (3 + 4), u4 1, u8 (8 + 0), u8 (8 + 1), u8 (8 + 2), u8 (8 + 3), u8 (8 + 4), u6 (2 + 0), u6 (2 + 1), u6 (2 + 2), u6 (2 + 3), u6 (2 + 4), u6 (2 + 5)].getD i 0) (29 + j))) rfl ?_ (ws' := [(h0, .inr (5, [.ref (u2 0), .ref (u4 0), .ref (u6 0), .ref (u8 0), .ref p9, .int (0 : Int32), .int (0 : Int32), .int (0 : Int32), .int (-1 : Int32)])), (u2 0, .inr (3, [.ref (u2 1), .ref (u2 2), .ref (u2 3), .int 0])), (u2 1, .inl (q 3, 6, .inr (.inr (.inr (.inr (fun j => some ((fun i => [h0, u2 0, u2 1, u2 2, u2 3, p9, u6 0, u6 1, u8 0, u8 1, u8 2, u2 (4 + 0), u2 (4 + 1), u2 (4 + 2), u2 (4 + 3), u2 (4 + 4), u2 (4 + 5), u4 0, u8 (3 + 0), u8 (3 + 1), u8 (3 + 2), u8 (3 + 3), u8 (3 + 4), u4 1, u8 (8 + 0), u8 (8 + 1), u8 (8 + 2), u8 (8 + 3), u8 (8 + 4), u6 (2 + 0), u6 (2 + 1), u6 (2 + 2), u6 (2 + 3), u6 (2 + 4), u6 (2 + 5)].getD i 0) (11 + j)))))))), (u2 2, .inl (q 3, 6, .inr (.inr (.inr (.inr (fun j => some ((fun i => [h0, u2 0, u2 1, u2 2, u2 3, p9, u6 0, u6 1, u8 0, u8 1, u8 2, u2 (4 + 0), u2 (4 + 1), u2 (4 + 2), u2 (4 + 3), u2 (4 + 4), u2 (4 + 5), u4 0, u8 (3 + 0), u8 (3 + 1), u8 (3 + 2), u8 (3 + 3), u8 (3 + 4), u4 1, u8 (8 + 0), u8 (8 + 1), u8 (8 + 2), u8 (8 + 3), u8 (8 + 4), u6 (2 + 0), u6 (2 + 1), u6 (2 + 2), u6 (2 + 3), u6 (2 + 4), u6 (2 + 5)].getD i 0) (11 + (fun j => j) j)))))))), (u2 3, .inl (q 0, 6, .inl (fun _ => 0))), (p9, .inl (q 0, 6, .inl (fun _ => 0))), (u6 0, .inr (4, [.ref (u6 1)])), (u6 1, .inl (q 5, 6, .inr (.inr (.inr (.inr (fun j => some ((fun i => [h0, u2 0, u2 1, u2 2, u2 3, p9, u6 0, u6 1, u8 0, u8 1, u8 2, u2 (4 + 0), u2 (4 + 1), u2 (4 + 2), u2 (4 + 3), u2 (4 + 4), u2 (4 + 5), u4 0, u8 (3 + 0), u8 (3 + 1), u8 (3 + 2), u8 (3 + 3), u8 (3 + 4), u4 1, u8 (8 + 0), u8 (8 + 1), u8 (8 + 2), u8 (8 + 3), u8 (8 + 4), u6 (2 + 0), u6 (2 + 1), u6 (2 + 2), u6 (2 + 3), u6 (2 + 4), u6 (2 + 5)].getD i 0) (29 + j)))))))), (u8 0, .inr (1, [.ref (u8 1), .ref (u8 2)])), (u8 1, .inl (q 0, 6, .inl (fun _ => 0))), (u8 2, .inl (q 4, 5, .inr (.inr (.inr (.inr (fun j => some (u8 (3 + j)))))))), (u2 (4 + 0), .inr (0, [.int 0, .int 0, .int 0, .int 0, .int 0, .int 0, .int (-1), .int 0, .int 0])), (u2 (4 + 1), .inr (0, [.int 0, .int 0, .int 0, .int 0, .int 0, .int 0, .int (-1), .int 0, .int 0])), (u2 (4 + 2), .inr (0, [.int 0, .int 0, .int 0, .int 0, .int 0, .int 0, .int (-1), .int 0, .int 0])), (u2 (4 + 3), .inr (0, [.int 0, .int 0, .int 0, .int 0, .int 0, .int 0, .int (-1), .int 0, .int 0])), (u2 (4 + 4), .inr (0, [.int 0, .int 0, .int 0, .int 0, .int 0, .int 0, .int (-1), .int 0, .int 0])), (u2 (4 + 5), .inr (0, [.int 0, .int 0, .int 0, .int 0, .int 0, .int 0, .int (-1), .int 0, .int 0])), (u4 0, .inr (2, [.ref (u4 1)])), (u8 (3 + 0), .inr (2, [.ref (u8 (8 + 0))])), (u8 (3 + 1), .inr (2, [.ref (u8 (8 + 1))])), (u8 (3 + 2), .inr (2, [.ref (u8 (8 + 2))])), (u8 (3 + 3), .inr (2, [.ref (u8 (8 + 3))])), (u8 (3 + 4), .inr (2, [.ref (u8 (8 + 4))])), (u4 1, .inl (q 1, 16, .inr (.inl (fun _ => 0)))), (u8 (8 + 0), .inl (q 1, 16, .inr (.inl (fun _ => 0)))), (u8 (8 + 1), .inl (q 1, 16, .inr (.inl (fun _ => 0)))), (u8 (8 + 2), .inl (q 1, 16, .inr (.inl (fun _ => 0)))), (u8 (8 + 3), .inl (q 1, 16, .inr (.inl (fun _ => 0)))), (u8 (8 + 4), .inl (q 1, 16, .inr (.inl (fun _ => 0)))), (u6 (2 + 0), .inl (q 0, 1000, .inl (upd (fillI (fun _ => 0) 1000 (1000 : Int32)) 0 (0 : Int32)))), (u6 (2 + 1), .inl (q 0, 1000, .inl (fun _ => 0))), (u6 (2 + 2), .inl (q 0, 1000, .inl (fun _ => 0))), (u6 (2 + 3), .inl (q 0, 1000, .inl (fun _ => 0))), (u6 (2 + 4), .inl (q 0, 1000, .inl (fun _ => 0))), (u6 (2 + 5), .inl (q 0, 1000, .inl (fun _ => 0)))]) rfl ?_
  · intro i hi
    match i, hi with
    | 0, _ => rfl
    | 1, _ => rfl
    | 2, _ => rfl
    | 3, _ => rfl
    | 4, _ => rfl
    | 5, _ => rfl
  refine j_fn 10 (f2 := fun j => some ((fun i => [h0, u2 0, u2 1, u2 2, u2 3, p9, u6 0, u6 1, u8 0, u8 1, u8 2, u2 (4 + 0), u2 (4 + 1), u2 (4 + 2), u2 (4 + 3), u2 (4 + 4), u2 (4 + 5), u4 0, u8 (3 + 0), u8 (3 + 1), u8 (3 + 2), u8 (3 + 3), u8 (3 + 4), u4 1, u8 (8 + 0), u8 (8 + 1), u8 (8 + 2), u8 (8 + 3), u8 (8 + 4), u6 (2 + 0), u6 (2 + 1), u6 (2 + 2), u6 (2 + 3), u6 (2 + 4), u6 (2 + 5)].getD i 0) (17 + (j + 1)))) rfl ?_ (ws' := [(h0, .inr (5, [.ref (u2 0), .ref (u4 0), .ref (u6 0), .ref (u8 0), .ref p9, .int (0 : Int32), .int (0 : Int32), .int (0 : Int32), .int (-1 : Int32)])), (u2 0, .inr (3, [.ref (u2 1), .ref (u2 2), .ref (u2 3), .int 0])), (u2 1, .inl (q 3, 6, .inr (.inr (.inr (.inr (fun j => some ((fun i => [h0, u2 0, u2 1, u2 2, u2 3, p9, u6 0, u6 1, u8 0, u8 1, u8 2, u2 (4 + 0), u2 (4 + 1), u2 (4 + 2), u2 (4 + 3), u2 (4 + 4), u2 (4 + 5), u4 0, u8 (3 + 0), u8 (3 + 1), u8 (3 + 2), u8 (3 + 3), u8 (3 + 4), u4 1, u8 (8 + 0), u8 (8 + 1), u8 (8 + 2), u8 (8 + 3), u8 (8 + 4), u6 (2 + 0), u6 (2 + 1), u6 (2 + 2), u6 (2 + 3), u6 (2 + 4), u6 (2 + 5)].getD i 0) (11 + j)))))))), (u2 2, .inl (q 3, 6, .inr (.inr (.inr (.inr (fun j => some ((fun i => [h0, u2 0, u2 1, u2 2, u2 3, p9, u6 0, u6 1, u8 0, u8 1, u8 2, u2 (4 + 0), u2 (4 + 1), u2 (4 + 2), u2 (4 + 3), u2 (4 + 4), u2 (4 + 5), u4 0, u8 (3 + 0), u8 (3 + 1), u8 (3 + 2), u8 (3 + 3), u8 (3 + 4), u4 1, u8 (8 + 0), u8 (8 + 1), u8 (8 + 2), u8 (8 + 3), u8 (8 + 4), u6 (2 + 0), u6 (2 + 1), u6 (2 + 2), u6 (2 + 3), u6 (2 + 4), u6 (2 + 5)].getD i 0) (11 + (fun j => j) j)))))))), (u2 3, .inl (q 0, 6, .inl (fun _ => 0))), (p9, .inl (q 0, 6, .inl (fun _ => 0))), (u6 0, .inr (4, [.ref (u6 1)])), (u6 1, .inl (q 5, 6, .inr (.inr (.inr (.inr (fun j => some ((fun i => [h0, u2 0, u2 1, u2 2, u2 3, p9, u6 0, u6 1, u8 0, u8 1, u8 2, u2 (4 + 0), u2 (4 + 1), u2 (4 + 2), u2 (4 + 3), u2 (4 + 4), u2 (4 + 5), u4 0, u8 (3 + 0), u8 (3 + 1), u8 (3 + 2), u8 (3 + 3), u8 (3 + 4), u4 1, u8 (8 + 0), u8 (8 + 1), u8 (8 + 2), u8 (8 + 3), u8 (8 + 4), u6 (2 + 0), u6 (2 + 1), u6 (2 + 2), u6 (2 + 3), u6 (2 + 4), u6 (2 + 5)].getD i 0) (29 + j)))))))), (u8 0, .inr (1, [.ref (u8 1), .ref (u8 2)])), (u8 1, .inl (q 0, 6, .inl (fun _ => 0))), (u8 2, .inl (q 4, 5, .inr (.inr (.inr (.inr (fun j => some ((fun i => [h0, u2 0, u2 1, u2 2, u2 3, p9, u6 0, u6 1, u8 0, u8 1, u8 2, u2 (4 + 0), u2 (4 + 1), u2 (4 + 2), u2 (4 + 3), u2 (4 + 4), u2 (4 + 5), u4 0, u8 (3 + 0), u8 (3 + 1), u8 (3 + 2), u8 (3 + 3), u8 (3 + 4), u4 1, u8 (8 + 0), u8 (8 + 1), u8 (8 + 2), u8 (8 + 3), u8 (8 + 4), u6 (2 + 0), u6 (2 + 1), u6 (2 + 2), u6 (2 + 3), u6 (2 + 4), u6 (2 + 5)].getD i 0) (17 + (j + 1))))))))), (u2 (4 + 0), .inr (0, [.int 0, .int 0, .int 0, .int 0, .int 0, .int 0, .int (-1), .int 0, .int 0])), (u2 (4 + 1), .inr (0, [.int 0, .int 0, .int 0, .int 0, .int 0, .int 0, .int (-1), .int 0, .int 0])), (u2 (4 + 2), .inr (0, [.int 0, .int 0, .int 0, .int 0, .int 0, .int 0, .int (-1), .int 0, .int 0])), (u2 (4 + 3), .inr (0, [.int 0, .int 0, .int 0, .int 0, .int 0, .int 0, .int (-1), .int 0, .int 0])), (u2 (4 + 4), .inr (0, [.int 0, .int 0, .int 0, .int 0, .int 0, .int 0, .int (-1), .int 0, .int 0])), (u2 (4 + 5), .inr (0, [.int 0, .int 0, .int 0, .int 0, .int 0, .int 0, .int (-1), .int 0, .int 0])), (u4 0, .inr (2, [.ref (u4 1)])), (u8 (3 + 0), .inr (2, [.ref (u8 (8 + 0))])), (u8 (3 + 1), .inr (2, [.ref (u8 (8 + 1))])), (u8 (3 + 2), .inr (2, [.ref (u8 (8 + 2))])), (u8 (3 + 3), .inr (2, [.ref (u8 (8 + 3))])), (u8 (3 + 4), .inr (2, [.ref (u8 (8 + 4))])), (u4 1, .inl (q 1, 16, .inr (.inl (fun _ => 0)))), (u8 (8 + 0), .inl (q 1, 16, .inr (.inl (fun _ => 0)))), (u8 (8 + 1), .inl (q 1, 16, .inr (.inl (fun _ => 0)))), (u8 (8 + 2), .inl (q 1, 16, .inr (.inl (fun _ => 0)))), (u8 (8 + 3), .inl (q 1, 16, .inr (.inl (fun _ => 0)))), (u8 (8 + 4), .inl (q 1, 16, .inr (.inl (fun _ => 0)))), (u6 (2 + 0), .inl (q 0, 1000, .inl (upd (fillI (fun _ => 0) 1000 (1000 : Int32)) 0 (0 : Int32)))), (u6 (2 + 1), .inl (q 0, 1000, .inl (fun _ => 0))), (u6 (2 + 2), .inl (q 0, 1000, .inl (fun _ => 0))), (u6 (2 + 3), .inl (q 0, 1000, .inl (fun _ => 0))), (u6 (2 + 4), .inl (q 0, 1000, .inl (fun _ => 0))), (u6 (2 + 5), .inl (q 0, 1000, .inl (fun _ => 0)))]) rfl ?_
  · intro i hi
    match i, hi with
    | 0, _ => rfl
    | 1, _ => rfl
    | 2, _ => rfl
    | 3, _ => rfl
    | 4, _ => rfl
  exact hret _ _ (fun i => [h0, u2 0, u2 1, u2 2, u2 3, p9, u6 0, u6 1, u8 0, u8 1, u8 2, u2 (4 + 0), u2 (4 + 1), u2 (4 + 2), u2 (4 + 3), u2 (4 + 4), u2 (4 + 5), u4 0, u8 (3 + 0), u8 (3 + 1), u8 (3 + 2), u8 (3 + 3), u8 (3 + 4), u4 1, u8 (8 + 0), u8 (8 + 1), u8 (8 + 2), u8 (8 + 3), u8 (8 + 4), u6 (2 + 0), u6 (2 + 1), u6 (2 + 2), u6 (2 + 3), u6 (2 + 4), u6 (2 + 5)].getD i 0) dX5_init_76 rfl

theorem dX6_init_0 : decode cX6_init 0 = .ok (.aload_n 0, 1) := by decide +kernel
theorem dX6_init_1 : decode cX6_init 1 = .ok (.invokespecial 1, 3) := by decide +kernel
theorem dX6_init_4 : decode cX6_init 4 = .ok (.aload_n 0, 1) := by decide +kernel
theorem dX6_init_5 : decode cX6_init 5 = .ok (.bipush 6, 2) := by decide +kernel
theorem dX6_init_7 : decode cX6_init 7 = .ok (.newarray .int, 2) := by decide +kernel
theorem dX6_init_9 : decode cX6_init 9 = .ok (.putfield 7, 3) := by decide +kernel
theorem dX6_init_12 : decode cX6_init 12 = .ok (.aload_n 0, 1) := by decide +kernel
theorem dX6_init_13 : decode cX6_init 13 = .ok (.bipush 6, 2) := by decide +kernel
theorem dX6_init_15 : decode cX6_init 15 = .ok (.newarray .boolean, 2) := by decide +kernel
theorem dX6_init_17 : decode cX6_init 17 = .ok (.putfield 13, 3) := by decide +kernel
theorem dX6_init_20 : decode cX6_init 20 = .ok (.aload_n 0, 1) := by decide +kernel
theorem dX6_init_21 : decode cX6_init 21 = .ok (.bipush 6, 2) := by decide +kernel
theorem dX6_init_23 : decode cX6_init 23 = .ok (.newarray .int, 2) := by decide +kernel
theorem dX6_init_25 : decode cX6_init 25 = .ok (.putfield 17, 3) := by decide +kernel
theorem dX6_init_28 : decode cX6_init 28 = .ok (.aload_n 0, 1) := by decide +kernel
theorem dX6_init_29 : decode cX6_init 29 = .ok (.bipush 6, 2) := by decide +kernel
theorem dX6_init_31 : decode cX6_init 31 = .ok (.newarray .int, 2) := by decide +kernel
theorem dX6_init_33 : decode cX6_init 33 = .ok (.putfield 20, 3) := by decide +kernel
theorem dX6_init_36 : decode cX6_init 36 = .ok (.aload_n 0, 1) := by decide +kernel
theorem dX6_init_37 : decode cX6_init 37 = .ok (.bipush 6, 2) := by decide +kernel
theorem dX6_init_39 : decode cX6_init 39 = .ok (.newarray .int, 2) := by decide +kernel
theorem dX6_init_41 : decode cX6_init 41 = .ok (.putfield 23, 3) := by decide +kernel
theorem dX6_init_44 : decode cX6_init 44 = .ok (.aload_n 0, 1) := by decide +kernel
theorem dX6_init_45 : decode cX6_init 45 = .ok (.bipush 6, 2) := by decide +kernel
theorem dX6_init_47 : decode cX6_init 47 = .ok (.newarray .boolean, 2) := by decide +kernel
theorem dX6_init_49 : decode cX6_init 49 = .ok (.putfield 26, 3) := by decide +kernel
theorem dX6_init_52 : decode cX6_init 52 = .ok (.aload_n 0, 1) := by decide +kernel
theorem dX6_init_53 : decode cX6_init 53 = .ok (.bipush 6, 2) := by decide +kernel
theorem dX6_init_55 : decode cX6_init 55 = .ok (.newarray .int, 2) := by decide +kernel
theorem dX6_init_57 : decode cX6_init 57 = .ok (.dup, 1) := by decide +kernel
theorem dX6_init_58 : decode cX6_init 58 = .ok (.iconst 0, 1) := by decide +kernel
theorem dX6_init_59 : decode cX6_init 59 = .ok (.iconst (-1), 1) := by decide +kernel
theorem dX6_init_60 : decode cX6_init 60 = .ok (.iastore, 1) := by decide +kernel
theorem dX6_init_61 : decode cX6_init 61 = .ok (.dup, 1) := by decide +kernel
theorem dX6_init_62 : decode cX6_init 62 = .ok (.iconst 1, 1) := by decide +kernel
theorem dX6_init_63 : decode cX6_init 63 = .ok (.iconst (-1), 1) := by decide +kernel
theorem dX6_init_64 : decode cX6_init 64 = .ok (.iastore, 1) := by decide +kernel
theorem dX6_init_65 : decode cX6_init 65 = .ok (.dup, 1) := by decide +kernel
theorem dX6_init_66 : decode cX6_init 66 = .ok (.iconst 2, 1) := by decide +kernel
theorem dX6_init_67 : decode cX6_init 67 = .ok (.iconst (-1), 1) := by decide +kernel
theorem dX6_init_68 : decode cX6_init 68 = .ok (.iastore, 1) := by decide +kernel
theorem dX6_init_69 : decode cX6_init 69 = .ok (.dup, 1) := by decide +kernel
theorem dX6_init_70 : decode cX6_init 70 = .ok (.iconst 3, 1) := by decide +kernel
theorem dX6_init_71 : decode cX6_init 71 = .ok (.iconst (-1), 1) := by decide +kernel
theorem dX6_init_72 : decode cX6_init 72 = .ok (.iastore, 1) := by decide +kernel
theorem dX6_init_73 : decode cX6_init 73 = .ok (.dup, 1) := by decide +kernel
theorem dX6_init_74 : decode cX6_init 74 = .ok (.iconst 4, 1) := by decide +kernel
theorem dX6_init_75 : decode cX6_init 75 = .ok (.iconst (-1), 1) := by decide +kernel
theorem dX6_init_76 : decode cX6_init 76 = .ok (.iastore, 1) := by decide +kernel
theorem dX6_init_77 : decode cX6_init 77 = .ok (.dup, 1) := by decide +kernel
theorem dX6_init_78 : decode cX6_init 78 = .ok (.iconst 5, 1) := by decide +kernel
theorem dX6_init_79 : decode cX6_init 79 = .ok (.iconst (-1), 1) := by decide +kernel
theorem dX6_init_80 : decode cX6_init 80 = .ok (.iastore, 1) := by decide +kernel
theorem dX6_init_81 : decode cX6_init 81 = .ok (.putfield 29, 3) := by decide +kernel
theorem dX6_init_84 : decode cX6_init 84 = .ok (.aload_n 0, 1) := by decide +kernel
theorem dX6_init_85 : decode cX6_init 85 = .ok (.bipush 6, 2) := by decide +kernel
theorem dX6_init_87 : decode cX6_init 87 = .ok (.newarray .int, 2) := by decide +kernel
theorem dX6_init_89 : decode cX6_init 89 = .ok (.putfield 32, 3) := by decide +kernel
theorem dX6_init_92 : decode cX6_init 92 = .ok (.aload_n 0, 1) := by decide +kernel
theorem dX6_init_93 : decode cX6_init 93 = .ok (.iconst (-1), 1) := by decide +kernel
theorem dX6_init_94 : decode cX6_init 94 = .ok (.putfield 35, 3) := by decide +kernel
theorem dX6_init_97 : decode cX6_init 97 = .ok (.aload_n 0, 1) := by decide +kernel
theorem dX6_init_98 : decode cX6_init 98 = .ok (.bipush 6, 2) := by decide +kernel
theorem dX6_init_100 : decode cX6_init 100 = .ok (.newarray .int, 2) := by decide +kernel
theorem dX6_init_102 : decode cX6_init 102 = .ok (.putfield 39, 3) := by decide +kernel
theorem dX6_init_105 : decode cX6_init 105 = .ok (.aload_n 0, 1) := by decide +kernel
theorem dX6_init_106 : decode cX6_init 106 = .ok (.sipush 1000, 3) := by decide +kernel
theorem dX6_init_109 : decode cX6_init 109 = .ok (.newarray .boolean, 2) := by decide +kernel
theorem dX6_init_111 : decode cX6_init 111 = .ok (.putfield 42, 3) := by decide +kernel
theorem dX6_init_114 : decode cX6_init 114 = .ok (.aload_n 0, 1) := by decide +kernel
theorem dX6_init_115 : decode cX6_init 115 = .ok (.sipush 1000, 3) := by decide +kernel
theorem dX6_init_118 : decode cX6_init 118 = .ok (.newarray .int, 2) := by decide +kernel
theorem dX6_init_120 : decode cX6_init 120 = .ok (.putfield 45, 3) := by decide +kernel
theorem dX6_init_123 : decode cX6_init 123 = .ok (.aload_n 0, 1) := by decide +kernel
theorem dX6_init_124 : decode cX6_init 124 = .ok (.bipush 6, 2) := by decide +kernel
theorem dX6_init_126 : decode cX6_init 126 = .ok (.newarray .int, 2) := by decide +kernel
theorem dX6_init_128 : decode cX6_init 128 = .ok (.putfield 48, 3) := by decide +kernel
theorem dX6_init_131 : decode cX6_init 131 = .ok (.aload_n 0, 1) := by decide +kernel
theorem dX6_init_132 : decode cX6_init 132 = .ok (.sipush 7000, 3) := by decide +kernel
theorem dX6_init_135 : decode cX6_init 135 = .ok (.newarray .int, 2) := by decide +kernel
theorem dX6_init_137 : decode cX6_init 137 = .ok (.putfield 51, 3) := by decide +kernel
theorem dX6_init_140 : decode cX6_init 140 = .ok (.aload_n 0, 1) := by decide +kernel
theorem dX6_init_141 : decode cX6_init 141 = .ok (.bipush 6, 2) := by decide +kernel
theorem dX6_init_143 : decode cX6_init 143 = .ok (.newarray .int, 2) := by decide +kernel
theorem dX6_init_145 : decode cX6_init 145 = .ok (.putfield 54, 3) := by decide +kernel
theorem dX6_init_148 : decode cX6_init 148 = .ok (.aload_n 0, 1) := by decide +kernel
theorem dX6_init_149 : decode cX6_init 149 = .ok (.bipush 6, 2) := by decide +kernel
theorem dX6_init_151 : decode cX6_init 151 = .ok (.newarray .int, 2) := by decide +kernel
theorem dX6_init_153 : decode cX6_init 153 = .ok (.putfield 57, 3) := by decide +kernel
theorem dX6_init_156 : decode cX6_init 156 = .ok (.aload_n 0, 1) := by decide +kernel
theorem dX6_init_157 : decode cX6_init 157 = .ok (.bipush 6, 2) := by decide +kernel
theorem dX6_init_159 : decode cX6_init 159 = .ok (.newarray .int, 2) := by decide +kernel
theorem dX6_init_161 : decode cX6_init 161 = .ok (.putfield 60, 3) := by decide +kernel
theorem dX6_init_164 : decode cX6_init 164 = .ok (.return_, 1) := by decide +kernel
set_option maxRecDepth 20000 in
set_option maxHeartbeats 8000000 in
theorem c_X6_init {q : Nat → ClassId} (h0 : Nat) : ctC q yX6_init cX6_init 1 1 12 16 9078 [.ref h0] [(h0, .inr (6, [.int 0, .int 0, .null, .null, .null, .null, .null, .null, .null, .null, .int 0, .int 0, .int 0, .int 0, .null, .null, .null, .int 0, .null, .null, .null, .null, .null]))] (fun (u : Nat → Nat) => mdW u q 0 0 (fun _ => 0) (fun _ => 0) (fun _ => 0) (fun _ => 0) (fun _ => 0) (fun _ => 0) mdJ0 (fun _ => 0) 0 0 (-1) 0 (fun _ => 0) (fun _ => 0) (fun _ => 0) 0 (fun _ => 0) (fun _ => 0) (fun _ => 0) (fun _ => 0) (fun _ => 0)) (fun u => u 0 = h0) := by
  refine met_C (by decide) rfl (Nat.le_of_ble_eq_true rfl) (fun Γ g gx gi hret => ?_)
  show jw Γ 1 0 0 [(h0, .inr (6, [.int 0, .int 0, .null, .null, .null, .null, .null, .null, .null, .null, .int 0, .int 0, .int 0, .int 0, .null, .null, .null, .int 0, .null, .null, .null, .null, .null]))] [(0, .ref h0)] [] 0
  refine j_aload_n g 0 rfl dX6_init_0 ?_
  refine j_objInit g lo_X6 (Nat.le_of_ble_eq_true rfl) (Nat.le_of_ble_eq_true rfl) dX6_init_1 ?_
  refine j_aload_n g 0 rfl dX6_init_4 ?_
  refine j_bipush g (v := 6) (by decide) dX6_init_5 ?_
  refine j_newa g (t := 0) rfl (fun _ h => by cases h) rfl ac_int (N := 6) (a0 := (6, .inl (fun _ => 0))) (fun _ => rfl) (by decide) (by decide) (Nat.le_of_ble_eq_true rfl) (Nat.le_of_ble_eq_true rfl) (Nat.le_of_ble_eq_true rfl) dX6_init_7 (fun p1 => ?_)
  refine j_ws (ws' := [(h0, .inr (6, [.int 0, .int 0, .null, .null, .null, .null, .null, .null, .null, .null, .int 0, .int 0, .int 0, .int 0, .null, .null, .null, .int 0, .null, .null, .null, .null, .null])), (p1, .inl (q 0, 6, .inl (fun _ => 0)))]) rfl ?_
  refine j_putF g gi fl_X6_7 tyX6 tyX6_ok nmX6 rfl (tyX6_ok 2 (by decide)) rfl 0 rfl rfl rfl (Nat.le_of_ble_eq_true rfl) (ws' := [(h0, .inr (6, [.int 0, .int 0, .ref p1, .null, .null, .null, .null, .null, .null, .null, .int 0, .int 0, .int 0, .int 0, .null, .null, .null, .int 0, .null, .null, .null, .null, .null])), (p1, .inl (q 0, 6, .inl (fun _ => 0)))]) rfl dX6_init_9 ?_
  refine j_aload_n g 0 rfl dX6_init_12 ?_
  refine j_bipush g (v := 6) (by decide) dX6_init_13 ?_
  refine j_newa g (t := 2) rfl (fun _ h => by cases h) rfl ac_boolean (N := 6) (a0 := (6, .inl (fun _ => 0))) (fun _ => rfl) (by decide) (by decide) (Nat.le_of_ble_eq_true rfl) (Nat.le_of_ble_eq_true rfl) (Nat.le_of_ble_eq_true rfl) dX6_init_15 (fun p2 => ?_)
  refine j_ws (ws' := [(h0, .inr (6, [.int 0, .int 0, .ref p1, .null, .null, .null, .null, .null, .null, .null, .int 0, .int 0, .int 0, .int 0, .null, .null, .null, .int 0, .null, .null, .null, .null, .null])), (p1, .inl (q 0, 6, .inl (fun _ => 0))), (p2, .inl (q 2, 6, .inl (fun _ => 0)))]) rfl ?_
  refine j_putF g gi fl_X6_13 tyX6 tyX6_ok nmX6 rfl (tyX6_ok 3 (by decide)) rfl 0 rfl rfl rfl (Nat.le_of_ble_eq_true rfl) (ws' := [(h0, .inr (6, [.int 0, .int 0, .ref p1, .ref p2, .null, .null, .null, .null, .null, .null, .int 0, .int 0, .int 0, .int 0, .null, .null, .null, .int 0, .null, .null, .null, .null, .null])), (p1, .inl (q 0, 6, .inl (fun _ => 0))), (p2, .inl (q 2, 6, .inl (fun _ => 0)))]) rfl dX6_init_17 ?_
  refine j_aload_n g 0 rfl dX6_init_20 ?_
  refine j_bipush g (v := 6) (by decide) dX6_init_21 ?_
  refine j_newa g (t := 0) rfl (fun _ h => by cases h) rfl ac_int (N := 6) (a0 := (6, .inl (fun _ => 0))) (fun _ => rfl) (by decide) (by decide) (Nat.le_of_ble_eq_true rfl) (Nat.le_of_ble_eq_true rfl) (Nat.le_of_ble_eq_true rfl) dX6_init_23 (fun p3 => ?_)
  refine j_ws (ws' := [(h0, .inr (6, [.int 0, .int 0, .ref p1, .ref p2, .null, .null, .null, .null, .null, .null, .int 0, .int 0, .int 0, .int 0, .null, .null, .null, .int 0, .null, .null, .null, .null, .null])), (p1, .inl (q 0, 6, .inl (fun _ => 0))), (p2, .inl (q 2, 6, .inl (fun _ => 0))), (p3, .inl (q 0, 6, .inl (fun _ => 0)))]) rfl ?_
  refine j_putF g gi fl_X6_17 tyX6 tyX6_ok nmX6 rfl (tyX6_ok 4 (by decide)) rfl 0 rfl rfl rfl (Nat.le_of_ble_eq_true rfl) (ws' := [(h0, .inr (6, [.int 0, .int 0, .ref p1, .ref p2, .ref p3, .null, .null, .null, .null, .null, .int 0, .int 0, .int 0, .int 0, .null, .null, .null, .int 0, .null, .null, .null, .null, .null])), (p1, .inl (q 0, 6, .inl (fun _ => 0))), (p2, .inl (q 2, 6, .inl (fun _ => 0))), (p3, .inl (q 0, 6, .inl (fun _ => 0)))]) rfl dX6_init_25 ?_
  refine j_aload_n g 0 rfl dX6_init_28 ?_
  refine j_bipush g (v := 6) (by decide) dX6_init_29 ?_
  refine j_newa g (t := 0) rfl (fun _ h => by cases h) rfl ac_int (N := 6) (a0 := (6, .inl (fun _ => 0))) (fun _ => rfl) (by decide) (by decide) (Nat.le_of_ble_eq_true rfl) (Nat.le_of_ble_eq_true rfl) (Nat.le_of_ble_eq_true rfl) dX6_init_31 (fun p4 => ?_)
  refine j_ws (ws' := [(h0, .inr (6, [.int 0, .int 0, .ref p1, .ref p2, .ref p3, .null, .null, .null, .null, .null, .int 0, .int 0, .int 0, .int 0, .null, .null, .null, .int 0, .null, .null, .null, .null, .null])), (p1, .inl (q 0, 6, .inl (fun _ => 0))), (p2, .inl (q 2, 6, .inl (fun _ => 0))), (p3, .inl (q 0, 6, .inl (fun _ => 0))), (p4, .inl (q 0, 6, .inl (fun _ => 0)))]) rfl ?_
  refine j_putF g gi fl_X6_20 tyX6 tyX6_ok nmX6 rfl (tyX6_ok 5 (by decide)) rfl 0 rfl rfl rfl (Nat.le_of_ble_eq_true rfl) (ws' := [(h0, .inr (6, [.int 0, .int 0, .ref p1, .ref p2, .ref p3, .ref p4, .null, .null, .null, .null, .int 0, .int 0, .int 0, .int 0, .null, .null, .null, .int 0, .null, .null, .null, .null, .null])), (p1, .inl (q 0, 6, .inl (fun _ => 0))), (p2, .inl (q 2, 6, .inl (fun _ => 0))), (p3, .inl (q 0, 6, .inl (fun _ => 0))), (p4, .inl (q 0, 6, .inl (fun _ => 0)))]) rfl dX6_init_33 ?_
  refine j_aload_n g 0 rfl dX6_init_36 ?_
  refine j_bipush g (v := 6) (by decide) dX6_init_37 ?_
  refine j_newa g (t := 0) rfl (fun _ h => by cases h) rfl ac_int (N := 6) (a0 := (6, .inl (fun _ => 0))) (fun _ => rfl) (by decide) (by decide) (Nat.le_of_ble_eq_true rfl) (Nat.le_of_ble_eq_true rfl) (Nat.le_of_ble_eq_true rfl) dX6_init_39 (fun p5 => ?_)
  refine j_ws (ws' := [(h0, .inr (6, [.int 0, .int 0, .ref p1, .ref p2, .ref p3, .ref p4, .null, .null, .null, .null, .int 0, .int 0, .int 0, .int 0, .null, .null, .null, .int 0, .null, .null, .null, .null, .null])), (p1, .inl (q 0, 6, .inl (fun _ => 0))), (p2, .inl (q 2, 6, .inl (fun _ => 0))), (p3, .inl (q 0, 6, .inl (fun _ => 0))), (p4, .inl (q 0, 6, .inl (fun _ => 0))), (p5, .inl (q 0, 6, .inl (fun _ => 0)))]) rfl ?_
  refine j_putF g gi fl_X6_23 tyX6 tyX6_ok nmX6 rfl (tyX6_ok 6 (by decide)) rfl 0 rfl rfl rfl (Nat.le_of_ble_eq_true rfl) (ws' := [(h0, .inr (6, [.int 0, .int 0, .ref p1, .ref p2, .ref p3, .ref p4, .ref p5, .null, .null, .null, .int 0, .int 0, .int 0, .int 0, .null, .null, .null, .int 0, .null, .null, .null, .null, .null])), (p1, .inl (q 0, 6, .inl (fun _ => 0))), (p2, .inl (q 2, 6, .inl (fun _ => 0))), (p3, .inl (q 0, 6, .inl (fun _ => 0))), (p4, .inl (q 0, 6, .inl (fun _ => 0))), (p5, .inl (q 0, 6, .inl (fun _ => 0)))]) rfl dX6_init_41 ?_
  refine j_aload_n g 0 rfl dX6_init_44 ?_
  refine j_bipush g (v := 6) (by decide) dX6_init_45 ?_
  refine j_newa g (t := 2) rfl (fun _ h => by cases h) rfl ac_boolean (N := 6) (a0 := (6, .inl (fun _ => 0))) (fun _ => rfl) (by decide) (by decide) (Nat.le_of_ble_eq_true rfl) (Nat.le_of_ble_eq_true rfl) (Nat.le_of_ble_eq_true rfl) dX6_init_47 (fun p6 => ?_)
  refine j_ws (ws' := [(h0, .inr (6, [.int 0, .int 0, .ref p1, .ref p2, .ref p3, .ref p4, .ref p5, .null, .null, .null, .int 0, .int 0, .int 0, .int 0, .null, .null, .null, .int 0, .null, .null, .null, .null, .null])), (p1, .inl (q 0, 6, .inl (fun _ => 0))), (p2, .inl (q 2, 6, .inl (fun _ => 0))), (p3, .inl (q 0, 6, .inl (fun _ => 0))), (p4, .inl (q 0, 6, .inl (fun _ => 0))), (p5, .inl (q 0, 6, .inl (fun _ => 0))), (p6, .inl (q 2, 6, .inl (fun _ => 0)))]) rfl ?_
  refine j_putF g gi fl_X6_26 tyX6 tyX6_ok nmX6 rfl (tyX6_ok 7 (by decide)) rfl 0 rfl rfl rfl (Nat.le_of_ble_eq_true rfl) (ws' := [(h0, .inr (6, [.int 0, .int 0, .ref p1, .ref p2, .ref p3, .ref p4, .ref p5, .ref p6, .null, .null, .int 0, .int 0, .int 0, .int 0, .null, .null, .null, .int 0, .null, .null, .null, .null, .null])), (p1, .inl (q 0, 6, .inl (fun _ => 0))), (p2, .inl (q 2, 6, .inl (fun _ => 0))), (p3, .inl (q 0, 6, .inl (fun _ => 0))), (p4, .inl (q 0, 6, .inl (fun _ => 0))), (p5, .inl (q 0, 6, .inl (fun _ => 0))), (p6, .inl (q 2, 6, .inl (fun _ => 0)))]) rfl dX6_init_49 ?_
  refine j_aload_n g 0 rfl dX6_init_52 ?_
  refine j_bipush g (v := 6) (by decide) dX6_init_53 ?_
  refine j_newa g (t := 0) rfl (fun _ h => by cases h) rfl ac_int (N := 6) (a0 := (6, .inl (fun _ => 0))) (fun _ => rfl) (by decide) (by decide) (Nat.le_of_ble_eq_true rfl) (Nat.le_of_ble_eq_true rfl) (Nat.le_of_ble_eq_true rfl) dX6_init_55 (fun p7 => ?_)
  refine j_ws (ws' := [(h0, .inr (6, [.int 0, .int 0, .ref p1, .ref p2, .ref p3, .ref p4, .ref p5, .ref p6, .null, .null, .int 0, .int 0, .int 0, .int 0, .null, .null, .null, .int 0, .null, .null, .null, .null, .null])), (p1, .inl (q 0, 6, .inl (fun _ => 0))), (p2, .inl (q 2, 6, .inl (fun _ => 0))), (p3, .inl (q 0, 6, .inl (fun _ => 0))), (p4, .inl (q 0, 6, .inl (fun _ => 0))), (p5, .inl (q 0, 6, .inl (fun _ => 0))), (p6, .inl (q 2, 6, .inl (fun _ => 0))), (p7, .inl (q 0, 6, .inl (fun _ => 0)))]) rfl ?_
  refine j_dup g rfl dX6_init_57 ?_
  refine j_iconst g (v := 0) (by decide) dX6_init_58 ?_
  refine j_iconst g (v := -1) (by decide) dX6_init_59 ?_
  refine j_iast g 7 rfl (vp_in_l (by decide)) (ws' := [(h0, .inr (6, [.int 0, .int 0, .ref p1, .ref p2, .ref p3, .ref p4, .ref p5, .ref p6, .null, .null, .int 0, .int 0, .int 0, .int 0, .null, .null, .null, .int 0, .null, .null, .null, .null, .null])), (p1, .inl (q 0, 6, .inl (fun _ => 0))), (p2, .inl (q 2, 6, .inl (fun _ => 0))), (p3, .inl (q 0, 6, .inl (fun _ => 0))), (p4, .inl (q 0, 6, .inl (fun _ => 0))), (p5, .inl (q 0, 6, .inl (fun _ => 0))), (p6, .inl (q 2, 6, .inl (fun _ => 0))), (p7, .inl (q 0, 6, .inl (upd (fun _ => 0) 0 (-1 : Int32))))]) rfl dX6_init_60 ?_
  refine j_dup g rfl dX6_init_61 ?_
  refine j_iconst g (v := 1) (by decide) dX6_init_62 ?_
  refine j_iconst g (v := -1) (by decide) dX6_init_63 ?_
  refine j_iast g 7 rfl (vp_in_l (by decide)) (ws' := [(h0, .inr (6, [.int 0, .int 0, .ref p1, .ref p2, .ref p3, .ref p4, .ref p5, .ref p6, .null, .null, .int 0, .int 0, .int 0, .int 0, .null, .null, .null, .int 0, .null, .null, .null, .null, .null])), (p1, .inl (q 0, 6, .inl (fun _ => 0))), (p2, .inl (q 2, 6, .inl (fun _ => 0))), (p3, .inl (q 0, 6, .inl (fun _ => 0))), (p4, .inl (q 0, 6, .inl (fun _ => 0))), (p5, .inl (q 0, 6, .inl (fun _ => 0))), (p6, .inl (q 2, 6, .inl (fun _ => 0))), (p7, .inl (q 0, 6, .inl (upd (upd (fun _ => 0) 0 (-1 : Int32)) 1 (-1 : Int32))))]) rfl dX6_init_64 ?_
  refine j_dup g rfl dX6_init_65 ?_
  refine j_iconst g (v := 2) (by decide) dX6_init_66 ?_
  refine j_iconst g (v := -1) (by decide) dX6_init_67 ?_
  refine j_iast g 7 rfl (vp_in_l (by decide)) (ws' := [(h0, .inr (6, [.int 0, .int 0, .ref p1, .ref p2, .ref p3, .ref p4, .ref p5, .ref p6, .null, .null, .int 0, .int 0, .int 0, .int 0, .null, .null, .null, .int 0, .null, .null, .null, .null, .null])), (p1, .inl (q 0, 6, .inl (fun _ => 0))), (p2, .inl (q 2, 6, .inl (fun _ => 0))), (p3, .inl (q 0, 6, .inl (fun _ => 0))), (p4, .inl (q 0, 6, .inl (fun _ => 0))), (p5, .inl (q 0, 6, .inl (fun _ => 0))), (p6, .inl (q 2, 6, .inl (fun _ => 0))), (p7, .inl (q 0, 6, .inl (upd (upd (upd (fun _ => 0) 0 (-1 : Int32)) 1 (-1 : Int32)) 2 (-1 : Int32))))]) rfl dX6_init_68 ?_
  refine j_dup g rfl dX6_init_69 ?_
  refine j_iconst g (v := 3) (by decide) dX6_init_70 ?_
  refine j_iconst g (v := -1) (by decide) dX6_init_71 ?_
  refine j_iast g 7 rfl (vp_in_l (by decide)) (ws' := [(h0, .inr (6, [.int 0, .int 0, .ref p1, .ref p2, .ref p3, .ref p4, .ref p5, .ref p6, .null, .null, .int 0, .int 0, .int 0, .int 0, .null, .null, .null, .int 0, .null, .null, .null, .null, .null])), (p1, .inl (q 0, 6, .inl (fun _ => 0))), (p2, .inl (q 2, 6, .inl (fun _ => 0))), (p3, .inl (q 0, 6, .inl (fun _ => 0))), (p4, .inl (q 0, 6, .inl (fun _ => 0))), (p5, .inl (q 0, 6, .inl (fun _ => 0))), (p6, .inl (q 2, 6, .inl (fun _ => 0))), (p7, .inl (q 0, 6, .inl (upd (upd (upd (upd (fun _ => 0) 0 (-1 : Int32)) 1 (-1 : Int32)) 2 (-1 : Int32)) 3 (-1 : Int32))))]) rfl dX6_init_72 ?_
  refine j_dup g rfl dX6_init_73 ?_
  refine j_iconst g (v := 4) (by decide) dX6_init_74 ?_
  refine j_iconst g (v := -1) (by decide) dX6_init_75 ?_
  refine j_iast g 7 rfl (vp_in_l (by decide)) (ws' := [(h0, .inr (6, [.int 0, .int 0, .ref p1, .ref p2, .ref p3, .ref p4, .ref p5, .ref p6, .null, .null, .int 0, .int 0, .int 0, .int 0, .null, .null, .null, .int 0, .null, .null, .null, .null, .null])), (p1, .inl (q 0, 6, .inl (fun _ => 0))), (p2, .inl (q 2, 6, .inl (fun _ => 0))), (p3, .inl (q 0, 6, .inl (fun _ => 0))), (p4, .inl (q 0, 6, .inl (fun _ => 0))), (p5, .inl (q 0, 6, .inl (fun _ => 0))), (p6, .inl (q 2, 6, .inl (fun _ => 0))), (p7, .inl (q 0, 6, .inl (upd (upd (upd (upd (upd (fun _ => 0) 0 (-1 : Int32)) 1 (-1 : Int32)) 2 (-1 : Int32)) 3 (-1 : Int32)) 4 (-1 : Int32))))]) rfl dX6_init_76 ?_
  refine j_dup g rfl dX6_init_77 ?_
  refine j_iconst g (v := 5) (by decide) dX6_init_78 ?_
  refine j_iconst g (v := -1) (by decide) dX6_init_79 ?_
  refine j_iast g 7 rfl (vp_in_l (by decide)) (ws' := [(h0, .inr (6, [.int 0, .int 0, .ref p1, .ref p2, .ref p3, .ref p4, .ref p5, .ref p6, .null, .null, .int 0, .int 0, .int 0, .int 0, .null, .null, .null, .int 0, .null, .null, .null, .null, .null])), (p1, .inl (q 0, 6, .inl (fun _ => 0))), (p2, .inl (q 2, 6, .inl (fun _ => 0))), (p3, .inl (q 0, 6, .inl (fun _ => 0))), (p4, .inl (q 0, 6, .inl (fun _ => 0))), (p5, .inl (q 0, 6, .inl (fun _ => 0))), (p6, .inl (q 2, 6, .inl (fun _ => 0))), (p7, .inl (q 0, 6, .inl (upd (upd (upd (upd (upd (upd (fun _ => 0) 0 (-1 : Int32)) 1 (-1 : Int32)) 2 (-1 : Int32)) 3 (-1 : Int32)) 4 (-1 : Int32)) 5 (-1 : Int32))))]) rfl dX6_init_80 ?_
  refine j_putF g gi fl_X6_29 tyX6 tyX6_ok nmX6 rfl (tyX6_ok 8 (by decide)) rfl 0 rfl rfl rfl (Nat.le_of_ble_eq_true rfl) (ws' := [(h0, .inr (6, [.int 0, .int 0, .ref p1, .ref p2, .ref p3, .ref p4, .ref p5, .ref p6, .ref p7, .null, .int 0, .int 0, .int 0, .int 0, .null, .null, .null, .int 0, .null, .null, .null, .null, .null])), (p1, .inl (q 0, 6, .inl (fun _ => 0))), (p2, .inl (q 2, 6, .inl (fun _ => 0))), (p3, .inl (q 0, 6, .inl (fun _ => 0))), (p4, .inl (q 0, 6, .inl (fun _ => 0))), (p5, .inl (q 0, 6, .inl (fun _ => 0))), (p6, .inl (q 2, 6, .inl (fun _ => 0))), (p7, .inl (q 0, 6, .inl (upd (upd (upd (upd (upd (upd (fun _ => 0) 0 (-1 : Int32)) 1 (-1 : Int32)) 2 (-1 : Int32)) 3 (-1 : Int32)) 4 (-1 : Int32)) 5 (-1 : Int32))))]) rfl dX6_init_81 ?_
  refine j_aload_n g 0 rfl dX6_init_84 ?_
  refine j_bipush g (v := 6) (by decide) dX6_init_85 ?_
  refine j_newa g (t := 0) rfl (fun _ h => by cases h) rfl ac_int (N := 6) (a0 := (6, .inl (fun _ => 0))) (fun _ => rfl) (by decide) (by decide) (Nat.le_of_ble_eq_true rfl) (Nat.le_of_ble_eq_true rfl) (Nat.le_of_ble_eq_true rfl) dX6_init_87 (fun p8 => ?_)
  refine j_ws (ws' := [(h0, .inr (6, [.int 0, .int 0, .ref p1, .ref p2, .ref p3, .ref p4, .ref p5, .ref p6, .ref p7, .null, .int 0, .int 0, .int 0, .int 0, .null, .null, .null, .int 0, .null, .null, .null, .null, .null])), (p1, .inl (q 0, 6, .inl (fun _ => 0))), (p2, .inl (q 2, 6, .inl (fun _ => 0))), (p3, .inl (q 0, 6, .inl (fun _ => 0))), (p4, .inl (q 0, 6, .inl (fun _ => 0))), (p5, .inl (q 0, 6, .inl (fun _ => 0))), (p6, .inl (q 2, 6, .inl (fun _ => 0))), (p7, .inl (q 0, 6, .inl (upd (upd (upd (upd (upd (upd (fun _ => 0) 0 (-1 : Int32)) 1 (-1 : Int32)) 2 (-1 : Int32)) 3 (-1 : Int32)) 4 (-1 : Int32)) 5 (-1 : Int32)))), (p8, .inl (q 0, 6, .inl (fun _ => 0)))]) rfl ?_
  refine j_putF g gi fl_X6_32 tyX6 tyX6_ok nmX6 rfl (tyX6_ok 9 (by decide)) rfl 0 rfl rfl rfl (Nat.le_of_ble_eq_true rfl) (ws' := [(h0, .inr (6, [.int 0, .int 0, .ref p1, .ref p2, .ref p3, .ref p4, .ref p5, .ref p6, .ref p7, .ref p8, .int 0, .int 0, .int 0, .int 0, .null, .null, .null, .int 0, .null, .null, .null, .null, .null])), (p1, .inl (q 0, 6, .inl (fun _ => 0))), (p2, .inl (q 2, 6, .inl (fun _ => 0))), (p3, .inl (q 0, 6, .inl (fun _ => 0))), (p4, .inl (q 0, 6, .inl (fun _ => 0))), (p5, .inl (q 0, 6, .inl (fun _ => 0))), (p6, .inl (q 2, 6, .inl (fun _ => 0))), (p7, .inl (q 0, 6, .inl (upd (upd (upd (upd (upd (upd (fun _ => 0) 0 (-1 : Int32)) 1 (-1 : Int32)) 2 (-1 : Int32)) 3 (-1 : Int32)) 4 (-1 : Int32)) 5 (-1 : Int32)))), (p8, .inl (q 0, 6, .inl (fun _ => 0)))]) rfl dX6_init_89 ?_
  refine j_aload_n g 0 rfl dX6_init_92 ?_
  refine j_iconst g (v := -1) (by decide) dX6_init_93 ?_
  refine j_put g fl_X6_35 fp_X6_12 0 rfl rfl rfl (Nat.le_of_ble_eq_true rfl) (ws' := [(h0, .inr (6, [.int 0, .int 0, .ref p1, .ref p2, .ref p3, .ref p4, .ref p5, .ref p6, .ref p7, .ref p8, .int 0, .int 0, .int (-1 : Int32), .int 0, .null, .null, .null, .int 0, .null, .null, .null, .null, .null])), (p1, .inl (q 0, 6, .inl (fun _ => 0))), (p2, .inl (q 2, 6, .inl (fun _ => 0))), (p3, .inl (q 0, 6, .inl (fun _ => 0))), (p4, .inl (q 0, 6, .inl (fun _ => 0))), (p5, .inl (q 0, 6, .inl (fun _ => 0))), (p6, .inl (q 2, 6, .inl (fun _ => 0))), (p7, .inl (q 0, 6, .inl (upd (upd (upd (upd (upd (upd (fun _ => 0) 0 (-1 : Int32)) 1 (-1 : Int32)) 2 (-1 : Int32)) 3 (-1 : Int32)) 4 (-1 : Int32)) 5 (-1 : Int32)))), (p8, .inl (q 0, 6, .inl (fun _ => 0)))]) rfl dX6_init_94 ?_
  refine j_aload_n g 0 rfl dX6_init_97 ?_
  refine j_bipush g (v := 6) (by decide) dX6_init_98 ?_
  refine j_newa g (t := 0) rfl (fun _ h => by cases h) rfl ac_int (N := 6) (a0 := (6, .inl (fun _ => 0))) (fun _ => rfl) (by decide) (by decide) (Nat.le_of_ble_eq_true rfl) (Nat.le_of_ble_eq_true rfl) (Nat.le_of_ble_eq_true rfl) dX6_init_100 (fun p9 => ?_)
  refine j_ws (ws' := [(h0, .inr (6, [.int 0, .int 0, .ref p1, .ref p2, .ref p3, .ref p4, .ref p5, .ref p6, .ref p7, .ref p8, .int 0, .int 0, .int (-1 : Int32), .int 0, .null, .null, .null, .int 0, .null, .null, .null, .null, .null])), (p1, .inl (q 0, 6, .inl (fun _ => 0))), (p2, .inl (q 2, 6, .inl (fun _ => 0))), (p3, .inl (q 0, 6, .inl (fun _ => 0))), (p4, .inl (q 0, 6, .inl (fun _ => 0))), (p5, .inl (q 0, 6, .inl (fun _ => 0))), (p6, .inl (q 2, 6, .inl (fun _ => 0))), (p7, .inl (q 0, 6, .inl (upd (upd (upd (upd (upd (upd (fun _ => 0) 0 (-1 : Int32)) 1 (-1 : Int32)) 2 (-1 : Int32)) 3 (-1 : Int32)) 4 (-1 : Int32)) 5 (-1 : Int32)))), (p8, .inl (q 0, 6, .inl (fun _ => 0))), (p9, .inl (q 0, 6, .inl (fun _ => 0)))]) rfl ?_
  refine j_putF g gi fl_X6_39 tyX6 tyX6_ok nmX6 rfl (tyX6_ok 14 (by decide)) rfl 0 rfl rfl rfl (Nat.le_of_ble_eq_true rfl) (ws' := [(h0, .inr (6, [.int 0, .int 0, .ref p1, .ref p2, .ref p3, .ref p4, .ref p5, .ref p6, .ref p7, .ref p8, .int 0, .int 0, .int (-1 : Int32), .int 0, .ref p9, .null, .null, .int 0, .null, .null, .null, .null, .null])), (p1, .inl (q 0, 6, .inl (fun _ => 0))), (p2, .inl (q 2, 6, .inl (fun _ => 0))), (p3, .inl (q 0, 6, .inl (fun _ => 0))), (p4, .inl (q 0, 6, .inl (fun _ => 0))), (p5, .inl (q 0, 6, .inl (fun _ => 0))), (p6, .inl (q 2, 6, .inl (fun _ => 0))), (p7, .inl (q 0, 6, .inl (upd (upd (upd (upd (upd (upd (fun _ => 0) 0 (-1 : Int32)) 1 (-1 : Int32)) 2 (-1 : Int32)) 3 (-1 : Int32)) 4 (-1 : Int32)) 5 (-1 : Int32)))), (p8, .inl (q 0, 6, .inl (fun _ => 0))), (p9, .inl (q 0, 6, .inl (fun _ => 0)))]) rfl dX6_init_102 ?_
  refine j_aload_n g 0 rfl dX6_init_105 ?_
  refine j_sipush g (v := 1000) (by decide) dX6_init_106 ?_
  refine j_newa g (t := 2) rfl (fun _ h => by cases h) rfl ac_boolean (N := 1000) (a0 := (1000, .inl (fun _ => 0))) (fun _ => rfl) (by decide) (by decide) (Nat.le_of_ble_eq_true rfl) (Nat.le_of_ble_eq_true rfl) (Nat.le_of_ble_eq_true rfl) dX6_init_109 (fun p10 => ?_)
  refine j_ws (ws' := [(h0, .inr (6, [.int 0, .int 0, .ref p1, .ref p2, .ref p3, .ref p4, .ref p5, .ref p6, .ref p7, .ref p8, .int 0, .int 0, .int (-1 : Int32), .int 0, .ref p9, .null, .null, .int 0, .null, .null, .null, .null, .null])), (p1, .inl (q 0, 6, .inl (fun _ => 0))), (p2, .inl (q 2, 6, .inl (fun _ => 0))), (p3, .inl (q 0, 6, .inl (fun _ => 0))), (p4, .inl (q 0, 6, .inl (fun _ => 0))), (p5, .inl (q 0, 6, .inl (fun _ => 0))), (p6, .inl (q 2, 6, .inl (fun _ => 0))), (p7, .inl (q 0, 6, .inl (upd (upd (upd (upd (upd (upd (fun _ => 0) 0 (-1 : Int32)) 1 (-1 : Int32)) 2 (-1 : Int32)) 3 (-1 : Int32)) 4 (-1 : Int32)) 5 (-1 : Int32)))), (p8, .inl (q 0, 6, .inl (fun _ => 0))), (p9, .inl (q 0, 6, .inl (fun _ => 0))), (p10, .inl (q 2, 1000, .inl (fun _ => 0)))]) rfl ?_
  refine j_putF g gi fl_X6_42 tyX6 tyX6_ok nmX6 rfl (tyX6_ok 15 (by decide)) rfl 0 rfl rfl rfl (Nat.le_of_ble_eq_true rfl) (ws' := [(h0, .inr (6, [.int 0, .int 0, .ref p1, .ref p2, .ref p3, .ref p4, .ref p5, .ref p6, .ref p7, .ref p8, .int 0, .int 0, .int (-1 : Int32), .int 0, .ref p9, .ref p10, .null, .int 0, .null, .null, .null, .null, .null])), (p1, .inl (q 0, 6, .inl (fun _ => 0))), (p2, .inl (q 2, 6, .inl (fun _ => 0))), (p3, .inl (q 0, 6, .inl (fun _ => 0))), (p4, .inl (q 0, 6, .inl (fun _ => 0))), (p5, .inl (q 0, 6, .inl (fun _ => 0))), (p6, .inl (q 2, 6, .inl (fun _ => 0))), (p7, .inl (q 0, 6, .inl (upd (upd (upd (upd (upd (upd (fun _ => 0) 0 (-1 : Int32)) 1 (-1 : Int32)) 2 (-1 : Int32)) 3 (-1 : Int32)) 4 (-1 : Int32)) 5 (-1 : Int32)))), (p8, .inl (q 0, 6, .inl (fun _ => 0))), (p9, .inl (q 0, 6, .inl (fun _ => 0))), (p10, .inl (q 2, 1000, .inl (fun _ => 0)))]) rfl dX6_init_111 ?_
  refine j_aload_n g 0 rfl dX6_init_114 ?_
  refine j_sipush g (v := 1000) (by decide) dX6_init_115 ?_
  refine j_newa g (t := 0) rfl (fun _ h => by cases h) rfl ac_int (N := 1000) (a0 := (1000, .inl (fun _ => 0))) (fun _ => rfl) (by decide) (by decide) (Nat.le_of_ble_eq_true rfl) (Nat.le_of_ble_eq_true rfl) (Nat.le_of_ble_eq_true rfl) dX6_init_118 (fun p11 => ?_)
  refine j_ws (ws' := [(h0, .inr (6, [.int 0, .int 0, .ref p1, .ref p2, .ref p3, .ref p4, .ref p5, .ref p6, .ref p7, .ref p8, .int 0, .int 0, .int (-1 : Int32), .int 0, .ref p9, .ref p10, .null, .int 0, .null, .null, .null, .null, .null])), (p1, .inl (q 0, 6, .inl (fun _ => 0))), (p2, .inl (q 2, 6, .inl (fun _ => 0))), (p3, .inl (q 0, 6, .inl (fun _ => 0))), (p4, .inl (q 0, 6, .inl (fun _ => 0))), (p5, .inl (q 0, 6, .inl (fun _ => 0))), (p6, .inl (q 2, 6, .inl (fun _ => 0))), (p7, .inl (q 0, 6, .inl (upd (upd (upd (upd (upd (upd (fun _ => 0) 0 (-1 : Int32)) 1 (-1 : Int32)) 2 (-1 : Int32)) 3 (-1 : Int32)) 4 (-1 : Int32)) 5 (-1 : Int32)))), (p8, .inl (q 0, 6, .inl (fun _ => 0))), (p9, .inl (q 0, 6, .inl (fun _ => 0))), (p10, .inl (q 2, 1000, .inl (fun _ => 0))), (p11, .inl (q 0, 1000, .inl (fun _ => 0)))]) rfl ?_
  refine j_putF g gi fl_X6_45 tyX6 tyX6_ok nmX6 rfl (tyX6_ok 16 (by decide)) rfl 0 rfl rfl rfl (Nat.le_of_ble_eq_true rfl) (ws' := [(h0, .inr (6, [.int 0, .int 0, .ref p1, .ref p2, .ref p3, .ref p4, .ref p5, .ref p6, .ref p7, .ref p8, .int 0, .int 0, .int (-1 : Int32), .int 0, .ref p9, .ref p10, .ref p11, .int 0, .null, .null, .null, .null, .null])), (p1, .inl (q 0, 6, .inl (fun _ => 0))), (p2, .inl (q 2, 6, .inl (fun _ => 0))), (p3, .inl (q 0, 6, .inl (fun _ => 0))), (p4, .inl (q 0, 6, .inl (fun _ => 0))), (p5, .inl (q 0, 6, .inl (fun _ => 0))), (p6, .inl (q 2, 6, .inl (fun _ => 0))), (p7, .inl (q 0, 6, .inl (upd (upd (upd (upd (upd (upd (fun _ => 0) 0 (-1 : Int32)) 1 (-1 : Int32)) 2 (-1 : Int32)) 3 (-1 : Int32)) 4 (-1 : Int32)) 5 (-1 : Int32)))), (p8, .inl (q 0, 6, .inl (fun _ => 0))), (p9, .inl (q 0, 6, .inl (fun _ => 0))), (p10, .inl (q 2, 1000, .inl (fun _ => 0))), (p11, .inl (q 0, 1000, .inl (fun _ => 0)))]) rfl dX6_init_120 ?_
  refine j_aload_n g 0 rfl dX6_init_123 ?_
  refine j_bipush g (v := 6) (by decide) dX6_init_124 ?_
  refine j_newa g (t := 0) rfl (fun _ h => by cases h) rfl ac_int (N := 6) (a0 := (6, .inl (fun _ => 0))) (fun _ => rfl) (by decide) (by decide) (Nat.le_of_ble_eq_true rfl) (Nat.le_of_ble_eq_true rfl) (Nat.le_of_ble_eq_true rfl) dX6_init_126 (fun p12 => ?_)
  refine j_ws (ws' := [(h0, .inr (6, [.int 0, .int 0, .ref p1, .ref p2, .ref p3, .ref p4, .ref p5, .ref p6, .ref p7, .ref p8, .int 0, .int 0, .int (-1 : Int32), .int 0, .ref p9, .ref p10, .ref p11, .int 0, .null, .null, .null, .null, .null])), (p1, .inl (q 0, 6, .inl (fun _ => 0))), (p2, .inl (q 2, 6, .inl (fun _ => 0))), (p3, .inl (q 0, 6, .inl (fun _ => 0))), (p4, .inl (q 0, 6, .inl (fun _ => 0))), (p5, .inl (q 0, 6, .inl (fun _ => 0))), (p6, .inl (q 2, 6, .inl (fun _ => 0))), (p7, .inl (q 0, 6, .inl (upd (upd (upd (upd (upd (upd (fun _ => 0) 0 (-1 : Int32)) 1 (-1 : Int32)) 2 (-1 : Int32)) 3 (-1 : Int32)) 4 (-1 : Int32)) 5 (-1 : Int32)))), (p8, .inl (q 0, 6, .inl (fun _ => 0))), (p9, .inl (q 0, 6, .inl (fun _ => 0))), (p10, .inl (q 2, 1000, .inl (fun _ => 0))), (p11, .inl (q 0, 1000, .inl (fun _ => 0))), (p12, .inl (q 0, 6, .inl (fun _ => 0)))]) rfl ?_
  refine j_putF g gi fl_X6_48 tyX6 tyX6_ok nmX6 rfl (tyX6_ok 18 (by decide)) rfl 0 rfl rfl rfl (Nat.le_of_ble_eq_true rfl) (ws' := [(h0, .inr (6, [.int 0, .int 0, .ref p1, .ref p2, .ref p3, .ref p4, .ref p5, .ref p6, .ref p7, .ref p8, .int 0, .int 0, .int (-1 : Int32), .int 0, .ref p9, .ref p10, .ref p11, .int 0, .ref p12, .null, .null, .null, .null])), (p1, .inl (q 0, 6, .inl (fun _ => 0))), (p2, .inl (q 2, 6, .inl (fun _ => 0))), (p3, .inl (q 0, 6, .inl (fun _ => 0))), (p4, .inl (q 0, 6, .inl (fun _ => 0))), (p5, .inl (q 0, 6, .inl (fun _ => 0))), (p6, .inl (q 2, 6, .inl (fun _ => 0))), (p7, .inl (q 0, 6, .inl (upd (upd (upd (upd (upd (upd (fun _ => 0) 0 (-1 : Int32)) 1 (-1 : Int32)) 2 (-1 : Int32)) 3 (-1 : Int32)) 4 (-1 : Int32)) 5 (-1 : Int32)))), (p8, .inl (q 0, 6, .inl (fun _ => 0))), (p9, .inl (q 0, 6, .inl (fun _ => 0))), (p10, .inl (q 2, 1000, .inl (fun _ => 0))), (p11, .inl (q 0, 1000, .inl (fun _ => 0))), (p12, .inl (q 0, 6, .inl (fun _ => 0)))]) rfl dX6_init_128 ?_
  refine j_aload_n g 0 rfl dX6_init_131 ?_
  refine j_sipush g (v := 7000) (by decide) dX6_init_132 ?_
  refine j_newa g (t := 0) rfl (fun _ h => by cases h) rfl ac_int (N := 7000) (a0 := (7000, .inl (fun _ => 0))) (fun _ => rfl) (by decide) (by decide) (Nat.le_of_ble_eq_true rfl) (Nat.le_of_ble_eq_true rfl) (Nat.le_of_ble_eq_true rfl) dX6_init_135 (fun p13 => ?_)
  refine j_ws (ws' := [(h0, .inr (6, [.int 0, .int 0, .ref p1, .ref p2, .ref p3, .ref p4, .ref p5, .ref p6, .ref p7, .ref p8, .int 0, .int 0, .int (-1 : Int32), .int 0, .ref p9, .ref p10, .ref p11, .int 0, .ref p12, .null, .null, .null, .null])), (p1, .inl (q 0, 6, .inl (fun _ => 0))), (p2, .inl (q 2, 6, .inl (fun _ => 0))), (p3, .inl (q 0, 6, .inl (fun _ => 0))), (p4, .inl (q 0, 6, .inl (fun _ => 0))), (p5, .inl (q 0, 6, .inl (fun _ => 0))), (p6, .inl (q 2, 6, .inl (fun _ => 0))), (p7, .inl (q 0, 6, .inl (upd (upd (upd (upd (upd (upd (fun _ => 0) 0 (-1 : Int32)) 1 (-1 : Int32)) 2 (-1 : Int32)) 3 (-1 : Int32)) 4 (-1 : Int32)) 5 (-1 : Int32)))), (p8, .inl (q 0, 6, .inl (fun _ => 0))), (p9, .inl (q 0, 6, .inl (fun _ => 0))), (p10, .inl (q 2, 1000, .inl (fun _ => 0))), (p11, .inl (q 0, 1000, .inl (fun _ => 0))), (p12, .inl (q 0, 6, .inl (fun _ => 0))), (p13, .inl (q 0, 7000, .inl (fun _ => 0)))]) rfl ?_
  refine j_putF g gi fl_X6_51 tyX6 tyX6_ok nmX6 rfl (tyX6_ok 19 (by decide)) rfl 0 rfl rfl rfl (Nat.le_of_ble_eq_true rfl) (ws' := [(h0, .inr (6, [.int 0, .int 0, .ref p1, .ref p2, .ref p3, .ref p4, .ref p5, .ref p6, .ref p7, .ref p8, .int 0, .int 0, .int (-1 : Int32), .int 0, .ref p9, .ref p10, .ref p11, .int 0, .ref p12, .ref p13, .null, .null, .null])), (p1, .inl (q 0, 6, .inl (fun _ => 0))), (p2, .inl (q 2, 6, .inl (fun _ => 0))), (p3, .inl (q 0, 6, .inl (fun _ => 0))), (p4, .inl (q 0, 6, .inl (fun _ => 0))), (p5, .inl (q 0, 6, .inl (fun _ => 0))), (p6, .inl (q 2, 6, .inl (fun _ => 0))), (p7, .inl (q 0, 6, .inl (upd (upd (upd (upd (upd (upd (fun _ => 0) 0 (-1 : Int32)) 1 (-1 : Int32)) 2 (-1 : Int32)) 3 (-1 : Int32)) 4 (-1 : Int32)) 5 (-1 : Int32)))), (p8, .inl (q 0, 6, .inl (fun _ => 0))), (p9, .inl (q 0, 6, .inl (fun _ => 0))), (p10, .inl (q 2, 1000, .inl (fun _ => 0))), (p11, .inl (q 0, 1000, .inl (fun _ => 0))), (p12, .inl (q 0, 6, .inl (fun _ => 0))), (p13, .inl (q 0, 7000, .inl (fun _ => 0)))]) rfl dX6_init_137 ?_
  refine j_aload_n g 0 rfl dX6_init_140 ?_
  refine j_bipush g (v := 6) (by decide) dX6_init_141 ?_
  refine j_newa g (t := 0) rfl (fun _ h => by cases h) rfl ac_int (N := 6) (a0 := (6, .inl (fun _ => 0))) (fun _ => rfl) (by decide) (by decide) (Nat.le_of_ble_eq_true rfl) (Nat.le_of_ble_eq_true rfl) (Nat.le_of_ble_eq_true rfl) dX6_init_143 (fun p14 => ?_)
  refine j_ws (ws' := [(h0, .inr (6, [.int 0, .int 0, .ref p1, .ref p2, .ref p3, .ref p4, .ref p5, .ref p6, .ref p7, .ref p8, .int 0, .int 0, .int (-1 : Int32), .int 0, .ref p9, .ref p10, .ref p11, .int 0, .ref p12, .ref p13, .null, .null, .null])), (p1, .inl (q 0, 6, .inl (fun _ => 0))), (p2, .inl (q 2, 6, .inl (fun _ => 0))), (p3, .inl (q 0, 6, .inl (fun _ => 0))), (p4, .inl (q 0, 6, .inl (fun _ => 0))), (p5, .inl (q 0, 6, .inl (fun _ => 0))), (p6, .inl (q 2, 6, .inl (fun _ => 0))), (p7, .inl (q 0, 6, .inl (upd (upd (upd (upd (upd (upd (fun _ => 0) 0 (-1 : Int32)) 1 (-1 : Int32)) 2 (-1 : Int32)) 3 (-1 : Int32)) 4 (-1 : Int32)) 5 (-1 : Int32)))), (p8, .inl (q 0, 6, .inl (fun _ => 0))), (p9, .inl (q 0, 6, .inl (fun _ => 0))), (p10, .inl (q 2, 1000, .inl (fun _ => 0))), (p11, .inl (q 0, 1000, .inl (fun _ => 0))), (p12, .inl (q 0, 6, .inl (fun _ => 0))), (p13, .inl (q 0, 7000, .inl (fun _ => 0))), (p14, .inl (q 0, 6, .inl (fun _ => 0)))]) rfl ?_
  refine j_putF g gi fl_X6_54 tyX6 tyX6_ok nmX6 rfl (tyX6_ok 20 (by decide)) rfl 0 rfl rfl rfl (Nat.le_of_ble_eq_true rfl) (ws' := [(h0, .inr (6, [.int 0, .int 0, .ref p1, .ref p2, .ref p3, .ref p4, .ref p5, .ref p6, .ref p7, .ref p8, .int 0, .int 0, .int (-1 : Int32), .int 0, .ref p9, .ref p10, .ref p11, .int 0, .ref p12, .ref p13, .ref p14, .null, .null])), (p1, .inl (q 0, 6, .inl (fun _ => 0))), (p2, .inl (q 2, 6, .inl (fun _ => 0))), (p3, .inl (q 0, 6, .inl (fun _ => 0))), (p4, .inl (q 0, 6, .inl (fun _ => 0))), (p5, .inl (q 0, 6, .inl (fun _ => 0))), (p6, .inl (q 2, 6, .inl (fun _ => 0))), (p7, .inl (q 0, 6, .inl (upd (upd (upd (upd (upd (upd (fun _ => 0) 0 (-1 : Int32)) 1 (-1 : Int32)) 2 (-1 : Int32)) 3 (-1 : Int32)) 4 (-1 : Int32)) 5 (-1 : Int32)))), (p8, .inl (q 0, 6, .inl (fun _ => 0))), (p9, .inl (q 0, 6, .inl (fun _ => 0))), (p10, .inl (q 2, 1000, .inl (fun _ => 0))), (p11, .inl (q 0, 1000, .inl (fun _ => 0))), (p12, .inl (q 0, 6, .inl (fun _ => 0))), (p13, .inl (q 0, 7000, .inl (fun _ => 0))), (p14, .inl (q 0, 6, .inl (fun _ => 0)))]) rfl dX6_init_145 ?_
  refine j_aload_n g 0 rfl dX6_init_148 ?_
  refine j_bipush g (v := 6) (by decide) dX6_init_149 ?_
  refine j_newa g (t := 0) rfl (fun _ h => by cases h) rfl ac_int (N := 6) (a0 := (6, .inl (fun _ => 0))) (fun _ => rfl) (by decide) (by decide) (Nat.le_of_ble_eq_true rfl) (Nat.le_of_ble_eq_true rfl) (Nat.le_of_ble_eq_true rfl) dX6_init_151 (fun p15 => ?_)
  refine j_ws (ws' := [(h0, .inr (6, [.int 0, .int 0, .ref p1, .ref p2, .ref p3, .ref p4, .ref p5, .ref p6, .ref p7, .ref p8, .int 0, .int 0, .int (-1 : Int32), .int 0, .ref p9, .ref p10, .ref p11, .int 0, .ref p12, .ref p13, .ref p14, .null, .null])), (p1, .inl (q 0, 6, .inl (fun _ => 0))), (p2, .inl (q 2, 6, .inl (fun _ => 0))), (p3, .inl (q 0, 6, .inl (fun _ => 0))), (p4, .inl (q 0, 6, .inl (fun _ => 0))), (p5, .inl (q 0, 6, .inl (fun _ => 0))), (p6, .inl (q 2, 6, .inl (fun _ => 0))), (p7, .inl (q 0, 6, .inl (upd (upd (upd (upd (upd (upd (fun _ => 0) 0 (-1 : Int32)) 1 (-1 : Int32)) 2 (-1 : Int32)) 3 (-1 : Int32)) 4 (-1 : Int32)) 5 (-1 : Int32)))), (p8, .inl (q 0, 6, .inl (fun _ => 0))), (p9, .inl (q 0, 6, .inl (fun _ => 0))), (p10, .inl (q 2, 1000, .inl (fun _ => 0))), (p11, .inl (q 0, 1000, .inl (fun _ => 0))), (p12, .inl (q 0, 6, .inl (fun _ => 0))), (p13, .inl (q 0, 7000, .inl (fun _ => 0))), (p14, .inl (q 0, 6, .inl (fun _ => 0))), (p15, .inl (q 0, 6, .inl (fun _ => 0)))]) rfl ?_
  refine j_putF g gi fl_X6_57 tyX6 tyX6_ok nmX6 rfl (tyX6_ok 21 (by decide)) rfl 0 rfl rfl rfl (Nat.le_of_ble_eq_true rfl) (ws' := [(h0, .inr (6, [.int 0, .int 0, .ref p1, .ref p2, .ref p3, .ref p4, .ref p5, .ref p6, .ref p7, .ref p8, .int 0, .int 0, .int (-1 : Int32), .int 0, .ref p9, .ref p10, .ref p11, .int 0, .ref p12, .ref p13, .ref p14, .ref p15, .null])), (p1, .inl (q 0, 6, .inl (fun _ => 0))), (p2, .inl (q 2, 6, .inl (fun _ => 0))), (p3, .inl (q 0, 6, .inl (fun _ => 0))), (p4, .inl (q 0, 6, .inl (fun _ => 0))), (p5, .inl (q 0, 6, .inl (fun _ => 0))), (p6, .inl (q 2, 6, .inl (fun _ => 0))), (p7, .inl (q 0, 6, .inl (upd (upd (upd (upd (upd (upd (fun _ => 0) 0 (-1 : Int32)) 1 (-1 : Int32)) 2 (-1 : Int32)) 3 (-1 : Int32)) 4 (-1 : Int32)) 5 (-1 : Int32)))), (p8, .inl (q 0, 6, .inl (fun _ => 0))), (p9, .inl (q 0, 6, .inl (fun _ => 0))), (p10, .inl (q 2, 1000, .inl (fun _ => 0))), (p11, .inl (q 0, 1000, .inl (fun _ => 0))), (p12, .inl (q 0, 6, .inl (fun _ => 0))), (p13, .inl (q 0, 7000, .inl (fun _ => 0))), (p14, .inl (q 0, 6, .inl (fun _ => 0))), (p15, .inl (q 0, 6, .inl (fun _ => 0)))]) rfl dX6_init_153 ?_
  refine j_aload_n g 0 rfl dX6_init_156 ?_
  refine j_bipush g (v := 6) (by decide) dX6_init_157 ?_
  refine j_newa g (t := 0) rfl (fun _ h => by cases h) rfl ac_int (N := 6) (a0 := (6, .inl (fun _ => 0))) (fun _ => rfl) (by decide) (by decide) (Nat.le_of_ble_eq_true rfl) (Nat.le_of_ble_eq_true rfl) (Nat.le_of_ble_eq_true rfl) dX6_init_159 (fun p16 => ?_)
  refine j_ws (ws' := [(h0, .inr (6, [.int 0, .int 0, .ref p1, .ref p2, .ref p3, .ref p4, .ref p5, .ref p6, .ref p7, .ref p8, .int 0, .int 0, .int (-1 : Int32), .int 0, .ref p9, .ref p10, .ref p11, .int 0, .ref p12, .ref p13, .ref p14, .ref p15, .null])), (p1, .inl (q 0, 6, .inl (fun _ => 0))), (p2, .inl (q 2, 6, .inl (fun _ => 0))), (p3, .inl (q 0, 6, .inl (fun _ => 0))), (p4, .inl (q 0, 6, .inl (fun _ => 0))), (p5, .inl (q 0, 6, .inl (fun _ => 0))), (p6, .inl (q 2, 6, .inl (fun _ => 0))), (p7, .inl (q 0, 6, .inl (upd (upd (upd (upd (upd (upd (fun _ => 0) 0 (-1 : Int32)) 1 (-1 : Int32)) 2 (-1 : Int32)) 3 (-1 : Int32)) 4 (-1 : Int32)) 5 (-1 : Int32)))), (p8, .inl (q 0, 6, .inl (fun _ => 0))), (p9, .inl (q 0, 6, .inl (fun _ => 0))), (p10, .inl (q 2, 1000, .inl (fun _ => 0))), (p11, .inl (q 0, 1000, .inl (fun _ => 0))), (p12, .inl (q 0, 6, .inl (fun _ => 0))), (p13, .inl (q 0, 7000, .inl (fun _ => 0))), (p14, .inl (q 0, 6, .inl (fun _ => 0))), (p15, .inl (q 0, 6, .inl (fun _ => 0))), (p16, .inl (q 0, 6, .inl (fun _ => 0)))]) rfl ?_
  refine j_putF g gi fl_X6_60 tyX6 tyX6_ok nmX6 rfl (tyX6_ok 22 (by decide)) rfl 0 rfl rfl rfl (Nat.le_of_ble_eq_true rfl) (ws' := [(h0, .inr (6, [.int 0, .int 0, .ref p1, .ref p2, .ref p3, .ref p4, .ref p5, .ref p6, .ref p7, .ref p8, .int 0, .int 0, .int (-1 : Int32), .int 0, .ref p9, .ref p10, .ref p11, .int 0, .ref p12, .ref p13, .ref p14, .ref p15, .ref p16])), (p1, .inl (q 0, 6, .inl (fun _ => 0))), (p2, .inl (q 2, 6, .inl (fun _ => 0))), (p3, .inl (q 0, 6, .inl (fun _ => 0))), (p4, .inl (q 0, 6, .inl (fun _ => 0))), (p5, .inl (q 0, 6, .inl (fun _ => 0))), (p6, .inl (q 2, 6, .inl (fun _ => 0))), (p7, .inl (q 0, 6, .inl (upd (upd (upd (upd (upd (upd (fun _ => 0) 0 (-1 : Int32)) 1 (-1 : Int32)) 2 (-1 : Int32)) 3 (-1 : Int32)) 4 (-1 : Int32)) 5 (-1 : Int32)))), (p8, .inl (q 0, 6, .inl (fun _ => 0))), (p9, .inl (q 0, 6, .inl (fun _ => 0))), (p10, .inl (q 2, 1000, .inl (fun _ => 0))), (p11, .inl (q 0, 1000, .inl (fun _ => 0))), (p12, .inl (q 0, 6, .inl (fun _ => 0))), (p13, .inl (q 0, 7000, .inl (fun _ => 0))), (p14, .inl (q 0, 6, .inl (fun _ => 0))), (p15, .inl (q 0, 6, .inl (fun _ => 0))), (p16, .inl (q 0, 6, .inl (fun _ => 0)))]) rfl dX6_init_161 ?_
  exact hret _ _ (fun i => [h0, p1, p2, p3, p4, p5, p6, p7, p8, p9, p10, p11, p12, p13, p14, p15, p16].getD i 0) dX6_init_164 rfl
