/-! links of fields and calls -/
theorem nz_z {x : Int32} (h : x = 0 ∨ x = 1) : narrow .boolean (.int x) = .int x := by rcases h with rfl | rfl <;> rfl
theorem nz_f {x : Int32} (h : x = 0 ∨ x = 1) : fits .boolean (.int x) = true := by rcases h with rfl | rfl <;> rfl
theorem nz_v {x : Int32} (h : x = 0 ∨ x = 1) : vp_nar .boolean x = x := by rcases h with rfl | rfl <;> rfl
theorem lm_i : Cond.initialized "java/lang/Math" ∈ gt := gt_in (by decide +kernel) rfl
theorem lm_max_s : Cond.static Lib.Math.max.name ∈ gt := gt_in (by decide +kernel) rfl
theorem lm_min_s : Cond.static Lib.Math.min.name ∈ gt := gt_in (by decide +kernel) rfl
theorem lm_max_c : Cond.code Lib.Math.max.name Lib.Math.max.code 2 (some .int) ∈ gt := gt_in (by decide +kernel) rfl
theorem lm_min_c : Cond.code Lib.Math.min.name Lib.Math.min.code 2 (some .int) ∈ gt := gt_in (by decide +kernel) rfl
theorem ws_X0 : ∀ w ∈ u_ws RX0 TX0 9, w ∈ gt := by decide +kernel
theorem ws_X1 : ∀ w ∈ u_ws RX1 TX1 2, w ∈ gt := by decide +kernel
theorem ws_X2 : ∀ w ∈ u_ws RX2 TX2 1, w ∈ gt := by decide +kernel
theorem ws_X3 : ∀ w ∈ u_ws RX3 TX3 4, w ∈ gt := by decide +kernel
theorem ws_X4 : ∀ w ∈ u_ws RX4 TX4 1, w ∈ gt := by decide +kernel
theorem ws_X5 : ∀ w ∈ u_ws RX5 TX5 9, w ∈ gt := by decide +kernel
theorem ws_X6 : ∀ w ∈ u_ws RX6 TX6 23, w ∈ gt := by decide +kernel
theorem cl_X0_40 : clV RX0 40 yX0_gives cX0_gives 1 (some .boolean) 0 := ⟨gt_in (by decide +kernel) rfl, gt_in (by decide +kernel) rfl, gt_in (by decide +kernel) rfl, gt_in (by decide +kernel) rfl, gt_in (by decide +kernel) rfl, by decide +kernel⟩
theorem fl_X0_15 : fdL RX0 15 0 1 RX0 TX0 9 := ⟨ws_X0, rfl, by decide, gt_in (by decide +kernel) rfl⟩
theorem fl_X0_19 : fdL RX0 19 0 2 RX0 TX0 9 := ⟨ws_X0, rfl, by decide, gt_in (by decide +kernel) rfl⟩
theorem fl_X0_22 : fdL RX0 22 0 3 RX0 TX0 9 := ⟨ws_X0, rfl, by decide, gt_in (by decide +kernel) rfl⟩
theorem fl_X0_28 : fdL RX0 28 0 5 RX0 TX0 9 := ⟨ws_X0, rfl, by decide, gt_in (by decide +kernel) rfl⟩
theorem fl_X0_31 : fdL RX0 31 0 6 RX0 TX0 9 := ⟨ws_X0, rfl, by decide, gt_in (by decide +kernel) rfl⟩
theorem fl_X0_37 : fdL RX0 37 0 8 RX0 TX0 9 := ⟨ws_X0, rfl, by decide, gt_in (by decide +kernel) rfl⟩
theorem fp_X0_3 : fpL 3 TX0 9 .int := ⟨⟨tyX0, tyX0_ok⟩, nmX0, rfl, by decide +kernel⟩
theorem fp_X0_5 : fpL 5 TX0 9 .boolean := ⟨⟨tyX0, tyX0_ok⟩, nmX0, rfl, by decide +kernel⟩
theorem fp_X0_6 : fpL 6 TX0 9 .int := ⟨⟨tyX0, tyX0_ok⟩, nmX0, rfl, by decide +kernel⟩
theorem fp_X0_8 : fpL 8 TX0 9 .int := ⟨⟨tyX0, tyX0_ok⟩, nmX0, rfl, by decide +kernel⟩
theorem lm_X0_44 : Cond.methodLink RX0 44 Lib.Math.max.name ∈ gt := gt_in (by decide +kernel) rfl
