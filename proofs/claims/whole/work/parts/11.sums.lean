set_option maxRecDepth 20000 in
def wp_X2_onlyZero (j0 : Nat) (wd : Nat → Nat → Int64) (K : (Nat → Nat → Int64) → Prop) : Prop :=
  (vp_in (0 : Int32) 16 ∧ K (va_up (va_up wd j0 (fillL (wd j0) 16 (0 : Int64))) j0 (vp_updL ((va_up wd j0 (fillL (wd j0) 16 (0 : Int64))) j0) (0 : Int32).toNatClampNeg (1 : Int64))))
theorem dX2_onlyZero_0 : decode cX2_onlyZero 0 = .ok (.aload_n 0, 1) := by decide +kernel
theorem dX2_onlyZero_1 : decode cX2_onlyZero 1 = .ok (.getfield 11, 3) := by decide +kernel
theorem dX2_onlyZero_4 : decode cX2_onlyZero 4 = .ok (.lconst 0, 1) := by decide +kernel
theorem dX2_onlyZero_5 : decode cX2_onlyZero 5 = .ok (.invokestatic 15, 3) := by decide +kernel
theorem dX2_onlyZero_8 : decode cX2_onlyZero 8 = .ok (.aload_n 0, 1) := by decide +kernel
theorem dX2_onlyZero_9 : decode cX2_onlyZero 9 = .ok (.getfield 11, 3) := by decide +kernel
theorem dX2_onlyZero_12 : decode cX2_onlyZero 12 = .ok (.iconst 0, 1) := by decide +kernel
theorem dX2_onlyZero_13 : decode cX2_onlyZero 13 = .ok (.lconst 1, 1) := by decide +kernel
theorem dX2_onlyZero_14 : decode cX2_onlyZero 14 = .ok (.lastore, 1) := by decide +kernel
theorem dX2_onlyZero_15 : decode cX2_onlyZero 15 = .ok (.return_, 1) := by decide +kernel
set_option maxRecDepth 20000 in
set_option maxHeartbeats 4000000 in
theorem c_X2_onlyZero {a : Nat → Nat} {q : Nat → ClassId} {j0 : Nat} (hj0 : j0 < 6) {sz : Int32} {pr : Nat → Int32} {pm : Nat → Nat} {kv : Nat → Int32} {kn : Nat → Int32} {kr : Nat → Int32} {kt : Nat → Int32} {kb : Nat → Int32} {ks : Nat → Int32} {kj : Nat → Int32} {kw : Nat → Int32} {kg : Nat → Int32} {wd : Nat → Nat → Int64} {fw : Nat → Nat → Int32} {ad : Nat → Int32} {bk : Nat → Int32} {md : Int32} {cr : Int32} {ow : Int32} {hd : Int32} {K : (Nat → Nat → Int64) → Prop} (h : wp_X2_onlyZero j0 wd K) : ctV_1 q yX2_onlyZero cX2_onlyZero 1 1 24 [.ref (a (17 + j0))] (cgW a q sz pr pm kv kn kr kt kb ks kj kw kg wd fw ad bk md cr ow hd) (fun (wd : Nat → Nat → Int64) => (cgW a q sz pr pm kv kn kr kt kb ks kj kw kg wd fw ad bk md cr ow hd)) K := by
  refine met_V_1 (by decide) (Nat.le_of_ble_eq_true rfl) (fun Γ g hret => ?_)
  unfold wp_X2_onlyZero at h
  show jw Γ 1 0 0 (cgW a q sz pr pm kv kn kr kt kb ks kj kw kg wd fw ad bk md cr ow hd) [(0, .ref (a (17 + j0)))] [] 0
  refine j_aload_n g 0 rfl dX2_onlyZero_0 ?_
  refine j_get g fl_X2_11 (17 + j0) (cg_S hj0) rfl dX2_onlyZero_1 ?_
  refine j_lconst g (v := 0) (by decide) dX2_onlyZero_4 ?_
  refine j_fillL g cl_X2_15 (23 + j0) (cg_w hj0) (Nat.le_of_ble_eq_true rfl) (Nat.le_of_ble_eq_true rfl) (ws' := (cgW a q sz pr pm kv kn kr kt kb ks kj kw kg (va_up wd j0 (fillL (wd j0) 16 (0 : Int64))) fw ad bk md cr ow hd)) (cg_s_w hj0) (Nat.le_of_ble_eq_true rfl) dX2_onlyZero_5 ?_
  refine j_aload_n g 0 rfl dX2_onlyZero_8 ?_
  refine j_get g fl_X2_11 (17 + j0) (cg_S hj0) rfl dX2_onlyZero_9 ?_
  refine j_iconst g (v := 0) (by decide) dX2_onlyZero_12 ?_
  refine j_lconst g (v := 1) (by decide) dX2_onlyZero_13 ?_
  obtain ⟨hv1, h⟩ := h
  refine j_last g (23 + j0) (cg_w hj0) hv1 (ws' := (cgW a q sz pr pm kv kn kr kt kb ks kj kw kg (va_up (va_up wd j0 (fillL (wd j0) 16 (0 : Int64))) j0 (vp_updL ((va_up wd j0 (fillL (wd j0) 16 (0 : Int64))) j0) (0 : Int32).toNatClampNeg (1 : Int64))) fw ad bk md cr ow hd)) (cg_s_w hj0) dX2_onlyZero_14 ?_
  exact hret.go dX2_onlyZero_15 h

set_option maxRecDepth 20000 in
def wp_X2_copyOf (j0 : Nat) (j1 : Nat) (wd : Nat → Nat → Int64) (K : (Nat → Nat → Int64) → Prop) : Prop :=
  (ac_ok (0 : Int32) (0 : Int32) (16 : Int32) 16 ∧ K (va_up wd j0 (va_cpy (wd j1) (wd j0) (0 : Int32).toNatClampNeg (0 : Int32).toNatClampNeg (16 : Int32).toNatClampNeg)))
theorem dX2_copyOf_0 : decode cX2_copyOf 0 = .ok (.aload_n 1, 1) := by decide +kernel
theorem dX2_copyOf_1 : decode cX2_copyOf 1 = .ok (.getfield 11, 3) := by decide +kernel
theorem dX2_copyOf_4 : decode cX2_copyOf 4 = .ok (.iconst 0, 1) := by decide +kernel
theorem dX2_copyOf_5 : decode cX2_copyOf 5 = .ok (.aload_n 0, 1) := by decide +kernel
theorem dX2_copyOf_6 : decode cX2_copyOf 6 = .ok (.getfield 11, 3) := by decide +kernel
theorem dX2_copyOf_9 : decode cX2_copyOf 9 = .ok (.iconst 0, 1) := by decide +kernel
theorem dX2_copyOf_10 : decode cX2_copyOf 10 = .ok (.bipush 16, 2) := by decide +kernel
theorem dX2_copyOf_12 : decode cX2_copyOf 12 = .ok (.invokestatic 21, 3) := by decide +kernel
theorem dX2_copyOf_15 : decode cX2_copyOf 15 = .ok (.return_, 1) := by decide +kernel
set_option maxRecDepth 20000 in
set_option maxHeartbeats 4000000 in
theorem c_X2_copyOf {a : Nat → Nat} {q : Nat → ClassId} {j0 : Nat} {j1 : Nat} (hj0 : j0 < 6) (hj1 : j1 < 6) {sz : Int32} {pr : Nat → Int32} {pm : Nat → Nat} {kv : Nat → Int32} {kn : Nat → Int32} {kr : Nat → Int32} {kt : Nat → Int32} {kb : Nat → Int32} {ks : Nat → Int32} {kj : Nat → Int32} {kw : Nat → Int32} {kg : Nat → Int32} {wd : Nat → Nat → Int64} {fw : Nat → Nat → Int32} {ad : Nat → Int32} {bk : Nat → Int32} {md : Int32} {cr : Int32} {ow : Int32} {hd : Int32} {K : (Nat → Nat → Int64) → Prop} (h : wp_X2_copyOf j0 j1 wd K) : ctV_1 q yX2_copyOf cX2_copyOf 2 1 60 [.ref (a (17 + j0)), .ref (a (17 + j1))] (cgW a q sz pr pm kv kn kr kt kb ks kj kw kg wd fw ad bk md cr ow hd) (fun (wd : Nat → Nat → Int64) => (cgW a q sz pr pm kv kn kr kt kb ks kj kw kg wd fw ad bk md cr ow hd)) K := by
  refine met_V_1 (by decide) (Nat.le_of_ble_eq_true rfl) (fun Γ g hret => ?_)
  unfold wp_X2_copyOf at h
  show jw Γ 2 0 0 (cgW a q sz pr pm kv kn kr kt kb ks kj kw kg wd fw ad bk md cr ow hd) [(0, .ref (a (17 + j0))), (1, .ref (a (17 + j1)))] [] 0
  refine j_aload_n g 1 rfl dX2_copyOf_0 ?_
  refine j_get g fl_X2_11 (17 + j1) (cg_S hj1) rfl dX2_copyOf_1 ?_
  refine j_iconst g (v := 0) (by decide) dX2_copyOf_4 ?_
  refine j_aload_n g 0 rfl dX2_copyOf_5 ?_
  refine j_get g fl_X2_11 (17 + j0) (cg_S hj0) rfl dX2_copyOf_6 ?_
  refine j_iconst g (v := 0) (by decide) dX2_copyOf_9 ?_
  refine j_bipush g (v := 16) (by decide) dX2_copyOf_10 ?_
  obtain ⟨hc1, h⟩ := h
  refine j_copyl g lm_X2_21 (23 + j1) (23 + j0) (cg_w hj1) (cg_w hj0) hc1 (Nat.le_of_ble_eq_true rfl) (Nat.le_of_ble_eq_true rfl) (ws' := (cgW a q sz pr pm kv kn kr kt kb ks kj kw kg (va_up wd j0 (va_cpy (wd j1) (wd j0) (0 : Int32).toNatClampNeg (0 : Int32).toNatClampNeg (16 : Int32).toNatClampNeg)) fw ad bk md cr ow hd)) (cg_s_w hj0) dX2_copyOf_12 ?_
  exact hret.go dX2_copyOf_15 h

set_option maxRecDepth 20000 in
def wp_X2_addShifted_19 (i0 : Nat) (x2 : Int32) (x3 : Int32)  (K : (Nat → Nat → Int64) → Prop) (X : (Nat → Nat → Int64) → Prop) : Nat → Int32 → (Nat → Nat → Int64) → Prop
  | 0, _, _ => False
  | n + 1, x4, wd => ((x4 < x2 → X wd) ∧ (¬ x4 < x2 → (vp_in (x4 - x2) 16 ∧ jn (fun (Z3 : Int64 → Prop) => ((x3 ≤ 0 → Z3 ((wd i0 (x4 - x2).toNatClampNeg) <<< (x3.toInt64 &&& 63))) ∧ (¬ x3 ≤ 0 → ((x4 ≤ x2 → Z3 ((wd i0 (x4 - x2).toNatClampNeg) <<< (x3.toInt64 &&& 63))) ∧ (¬ x4 ≤ x2 → (vp_in ((x4 - x2) - (1 : Int32)) 16 ∧ Z3 (((wd i0 (x4 - x2).toNatClampNeg) <<< (x3.toInt64 &&& 63)) ||| (((wd i0 ((x4 - x2) - (1 : Int32)).toNatClampNeg).toUInt64 >>> (((64 : Int32) - x3).toInt64.toUInt64 &&& Int64.toUInt64 63)).toInt64)))))))) (fun (y5_3 : Int64) => (vp_in x4 16 ∧ (vp_in x4 16 ∧ wp_X2_addShifted_19 i0 x2 x3 K X n (x4 + (-1 : Int32)) (va_up wd i0 (vp_updL (wd i0) x4.toNatClampNeg ((wd i0 x4.toNatClampNeg) ||| y5_3)))))))))
set_option maxRecDepth 20000 in
def wp_X2_addShifted (j0 : Nat) (x1 : Int32) (wd : Nat → Nat → Int64) (K : (Nat → Nat → Int64) → Prop) : Prop :=
  ((0 < x1 → ∃ n2 : Nat, wp_X2_addShifted_19 j0 (x1 / (64 : Int32)) (x1 - x1 / (64 : Int32) * (64 : Int32)) K (fun (wd_2 : Nat → Nat → Int64) => K wd_2) n2 (15 : Int32) wd) ∧ (¬ 0 < x1 → K wd))
theorem dX2_addShifted_0 : decode cX2_addShifted 0 = .ok (.iload_n 1, 1) := by decide +kernel
theorem dX2_addShifted_1 : decode cX2_addShifted 1 = .ok (.ifCond .gt 4, 3) := by decide +kernel
theorem dX2_addShifted_4 : decode cX2_addShifted 4 = .ok (.return_, 1) := by decide +kernel
theorem dX2_addShifted_5 : decode cX2_addShifted 5 = .ok (.iload_n 1, 1) := by decide +kernel
theorem dX2_addShifted_6 : decode cX2_addShifted 6 = .ok (.bipush 64, 2) := by decide +kernel
theorem dX2_addShifted_8 : decode cX2_addShifted 8 = .ok (.idiv, 1) := by decide +kernel
theorem dX2_addShifted_9 : decode cX2_addShifted 9 = .ok (.istore_n 2, 1) := by decide +kernel
theorem dX2_addShifted_10 : decode cX2_addShifted 10 = .ok (.iload_n 1, 1) := by decide +kernel
theorem dX2_addShifted_11 : decode cX2_addShifted 11 = .ok (.bipush 64, 2) := by decide +kernel
theorem dX2_addShifted_13 : decode cX2_addShifted 13 = .ok (.irem, 1) := by decide +kernel
theorem dX2_addShifted_14 : decode cX2_addShifted 14 = .ok (.istore_n 3, 1) := by decide +kernel
theorem dX2_addShifted_15 : decode cX2_addShifted 15 = .ok (.bipush 15, 2) := by decide +kernel
theorem dX2_addShifted_17 : decode cX2_addShifted 17 = .ok (.istore 4, 2) := by decide +kernel
theorem dX2_addShifted_19 : decode cX2_addShifted 19 = .ok (.iload 4, 2) := by decide +kernel
theorem dX2_addShifted_21 : decode cX2_addShifted 21 = .ok (.iload_n 2, 1) := by decide +kernel
theorem dX2_addShifted_22 : decode cX2_addShifted 22 = .ok (.if_icmp .lt 65, 3) := by decide +kernel
theorem dX2_addShifted_25 : decode cX2_addShifted 25 = .ok (.aload_n 0, 1) := by decide +kernel
theorem dX2_addShifted_26 : decode cX2_addShifted 26 = .ok (.getfield 11, 3) := by decide +kernel
theorem dX2_addShifted_29 : decode cX2_addShifted 29 = .ok (.iload 4, 2) := by decide +kernel
theorem dX2_addShifted_31 : decode cX2_addShifted 31 = .ok (.iload_n 2, 1) := by decide +kernel
theorem dX2_addShifted_32 : decode cX2_addShifted 32 = .ok (.isub, 1) := by decide +kernel
theorem dX2_addShifted_33 : decode cX2_addShifted 33 = .ok (.laload, 1) := by decide +kernel
theorem dX2_addShifted_34 : decode cX2_addShifted 34 = .ok (.iload_n 3, 1) := by decide +kernel
theorem dX2_addShifted_35 : decode cX2_addShifted 35 = .ok (.lshl, 1) := by decide +kernel
theorem dX2_addShifted_36 : decode cX2_addShifted 36 = .ok (.lstore 5, 2) := by decide +kernel
theorem dX2_addShifted_38 : decode cX2_addShifted 38 = .ok (.iload_n 3, 1) := by decide +kernel
theorem dX2_addShifted_39 : decode cX2_addShifted 39 = .ok (.ifCond .le 30, 3) := by decide +kernel
theorem dX2_addShifted_42 : decode cX2_addShifted 42 = .ok (.iload 4, 2) := by decide +kernel
theorem dX2_addShifted_44 : decode cX2_addShifted 44 = .ok (.iload_n 2, 1) := by decide +kernel
theorem dX2_addShifted_45 : decode cX2_addShifted 45 = .ok (.if_icmp .le 24, 3) := by decide +kernel
theorem dX2_addShifted_48 : decode cX2_addShifted 48 = .ok (.lload 5, 2) := by decide +kernel
theorem dX2_addShifted_50 : decode cX2_addShifted 50 = .ok (.aload_n 0, 1) := by decide +kernel
theorem dX2_addShifted_51 : decode cX2_addShifted 51 = .ok (.getfield 11, 3) := by decide +kernel
theorem dX2_addShifted_54 : decode cX2_addShifted 54 = .ok (.iload 4, 2) := by decide +kernel
theorem dX2_addShifted_56 : decode cX2_addShifted 56 = .ok (.iload_n 2, 1) := by decide +kernel
theorem dX2_addShifted_57 : decode cX2_addShifted 57 = .ok (.isub, 1) := by decide +kernel
theorem dX2_addShifted_58 : decode cX2_addShifted 58 = .ok (.iconst 1, 1) := by decide +kernel
theorem dX2_addShifted_59 : decode cX2_addShifted 59 = .ok (.isub, 1) := by decide +kernel
theorem dX2_addShifted_60 : decode cX2_addShifted 60 = .ok (.laload, 1) := by decide +kernel
theorem dX2_addShifted_61 : decode cX2_addShifted 61 = .ok (.bipush 64, 2) := by decide +kernel
theorem dX2_addShifted_63 : decode cX2_addShifted 63 = .ok (.iload_n 3, 1) := by decide +kernel
theorem dX2_addShifted_64 : decode cX2_addShifted 64 = .ok (.isub, 1) := by decide +kernel
theorem dX2_addShifted_65 : decode cX2_addShifted 65 = .ok (.lushr, 1) := by decide +kernel
theorem dX2_addShifted_66 : decode cX2_addShifted 66 = .ok (.lor, 1) := by decide +kernel
theorem dX2_addShifted_67 : decode cX2_addShifted 67 = .ok (.lstore 5, 2) := by decide +kernel
theorem dX2_addShifted_69 : decode cX2_addShifted 69 = .ok (.aload_n 0, 1) := by decide +kernel
theorem dX2_addShifted_70 : decode cX2_addShifted 70 = .ok (.getfield 11, 3) := by decide +kernel
theorem dX2_addShifted_73 : decode cX2_addShifted 73 = .ok (.iload 4, 2) := by decide +kernel
theorem dX2_addShifted_75 : decode cX2_addShifted 75 = .ok (.dup2, 1) := by decide +kernel
theorem dX2_addShifted_76 : decode cX2_addShifted 76 = .ok (.laload, 1) := by decide +kernel
theorem dX2_addShifted_77 : decode cX2_addShifted 77 = .ok (.lload 5, 2) := by decide +kernel
theorem dX2_addShifted_79 : decode cX2_addShifted 79 = .ok (.lor, 1) := by decide +kernel
theorem dX2_addShifted_80 : decode cX2_addShifted 80 = .ok (.lastore, 1) := by decide +kernel
theorem dX2_addShifted_81 : decode cX2_addShifted 81 = .ok (.iinc 4 (-1), 3) := by decide +kernel
theorem dX2_addShifted_84 : decode cX2_addShifted 84 = .ok (.goto (-65), 3) := by decide +kernel
theorem dX2_addShifted_87 : decode cX2_addShifted 87 = .ok (.return_, 1) := by decide +kernel
set_option maxRecDepth 20000 in
set_option maxHeartbeats 4000000 in
theorem wk_X2_addShifted_19 {Γ : GT} {a : Nat → Nat} {q : Nat → ClassId} {i0 : Nat} {x2 : Int32} {x3 : Int32} (hi0 : i0 < 6) {sz : Int32} {pr : Nat → Int32} {pm : Nat → Nat} {kv : Nat → Int32} {kn : Nat → Int32} {kr : Nat → Int32} {kt : Nat → Int32} {kb : Nat → Int32} {ks : Nat → Int32} {kj : Nat → Int32} {kw : Nat → Int32} {kg : Nat → Int32} {fw : Nat → Nat → Int32} {ad : Nat → Int32} {bk : Nat → Int32} {md : Int32} {cr : Int32} {ow : Int32} {hd : Int32} {K : (Nat → Nat → Int64) → Prop} {X : (Nat → Nat → Int64) → Prop} (g : gd Γ cX2_addShifted RX2 7 (rmz 0 0) q) (hret : rtV_1 Γ cX2_addShifted 7 (fun (wd : Nat → Nat → Int64) => (cgW a q sz pr pm kv kn kr kt kb ks kj kw kg wd fw ad bk md cr ow hd)) K) (hX : ∀ (wd : Nat → Nat → Int64) , X wd → jw Γ 7 0 0 (cgW a q sz pr pm kv kn kr kt kb ks kj kw kg wd fw ad bk md cr ow hd) [] [] 87) :
    ∀ (n : Nat) (x4 : Int32) (wd : Nat → Nat → Int64) , wp_X2_addShifted_19 i0 x2 x3 K X n x4 wd → jw Γ 7 0 0 (cgW a q sz pr pm kv kn kr kt kb ks kj kw kg wd fw ad bk md cr ow hd) [(0, .ref (a (17 + i0))), (2, .int x2), (3, .int x3), (4, .int x4)] [] 19 := by
  intro n
  induction n with
  | zero =>
    intro _ _ h
    exact False.elim h
  | succ n ih =>
    intro x4 wd h
    unfold wp_X2_addShifted_19 at h
    refine j_iload g 3 rfl dX2_addShifted_19 ?_
    refine j_iload_n g 1 rfl dX2_addShifted_21 ?_
    refine j_icmp_lt g dX2_addShifted_22 (tgt := 87) (by decide) (fun c1 => ?_) (fun c1 => ?_)
    · replace h := h.1 c1
      refine j_sub [] rfl ?_
      exact hX wd h
    replace h := h.2 c1
    refine j_aload_n g 0 rfl dX2_addShifted_25 ?_
    refine j_get g fl_X2_11 (17 + i0) (cg_S hi0) rfl dX2_addShifted_26 ?_
    refine j_iload g 3 rfl dX2_addShifted_29 ?_
    refine j_iload_n g 1 rfl dX2_addShifted_31 ?_
    refine j_isub g dX2_addShifted_32 ?_
    obtain ⟨hv2, h⟩ := h
    refine j_lald g (23 + i0) (cg_w hi0) hv2 dX2_addShifted_33 ?_
    refine j_iload_n g 2 rfl dX2_addShifted_34 ?_
    refine j_lshl g dX2_addShifted_35 ?_
    refine j_lstore g (lv' := [(5, .long ((wd i0 (x4 - x2).toNatClampNeg) <<< (x3.toInt64 &&& 63))), (0, .ref (a (17 + i0))), (2, .int x2), (3, .int x3), (4, .int x4)]) (by decide) rfl dX2_addShifted_36 ?_
    refine j_iload_n g 3 rfl dX2_addShifted_38 ?_
    refine jn_cut h (fun Z3 eZ3 h => ?_)
    have hZ3 : ∀ (y5_3 : Int64), Z3 y5_3 → jw Γ 7 0 0 (cgW a q sz pr pm kv kn kr kt kb ks kj kw kg wd fw ad bk md cr ow hd) [(0, .ref (a (17 + i0))), (2, .int x2), (3, .int x3), (4, .int x4), (5, .long y5_3)] [] 69 := by
      intro y5_3 h
      rw [eZ3] at h
      refine j_aload_n g 0 rfl dX2_addShifted_69 ?_
      refine j_get g fl_X2_11 (17 + i0) (cg_S hi0) rfl dX2_addShifted_70 ?_
      refine j_iload g 3 rfl dX2_addShifted_73 ?_
      refine j_dup2 g rfl rfl dX2_addShifted_75 ?_
      obtain ⟨hv4, h⟩ := h
      refine j_lald g (23 + i0) (cg_w hi0) hv4 dX2_addShifted_76 ?_
      refine j_lload g 4 rfl dX2_addShifted_77 ?_
      refine j_lor g dX2_addShifted_79 ?_
      obtain ⟨hv5, h⟩ := h
      refine j_last g (23 + i0) (cg_w hi0) hv5 (ws' := (cgW a q sz pr pm kv kn kr kt kb ks kj kw kg (va_up wd i0 (vp_updL (wd i0) x4.toNatClampNeg ((wd i0 x4.toNatClampNeg) ||| y5_3))) fw ad bk md cr ow hd)) (cg_s_w hi0) dX2_addShifted_80 ?_
      refine j_iinc g 3 (n := -1) (v := x4 + (-1 : Int32)) (lv' := [(4, .int (x4 + (-1 : Int32))), (0, .ref (a (17 + i0))), (2, .int x2), (3, .int x3), (5, .long y5_3)]) rfl rfl (by decide) rfl dX2_addShifted_81 ?_
      refine j_goto g dX2_addShifted_84 (tgt := 19) (by decide) ?_
      refine j_sub [1, 2, 3, 0] rfl ?_
      exact ih (x4 + (-1 : Int32)) (va_up wd i0 (vp_updL (wd i0) x4.toNatClampNeg ((wd i0 x4.toNatClampNeg) ||| y5_3))) h
    refine j_if_le g dX2_addShifted_39 (tgt := 69) (by decide) (fun c6 => ?_) (fun c6 => ?_)
    · replace h := h.1 c6
      refine j_sub [1, 2, 3, 4, 0] rfl ?_
      exact hZ3 ((wd i0 (x4 - x2).toNatClampNeg) <<< (x3.toInt64 &&& 63)) h
    replace h := h.2 c6
    refine j_iload g 4 rfl dX2_addShifted_42 ?_
    refine j_iload_n g 2 rfl dX2_addShifted_44 ?_
    refine j_icmp_le g dX2_addShifted_45 (tgt := 69) (by decide) (fun c7 => ?_) (fun c7 => ?_)
    · replace h := h.1 c7
      refine j_sub [1, 2, 3, 4, 0] rfl ?_
      exact hZ3 ((wd i0 (x4 - x2).toNatClampNeg) <<< (x3.toInt64 &&& 63)) h
    replace h := h.2 c7
    refine j_lload g 0 rfl dX2_addShifted_48 ?_
    refine j_aload_n g 1 rfl dX2_addShifted_50 ?_
    refine j_get g fl_X2_11 (17 + i0) (cg_S hi0) rfl dX2_addShifted_51 ?_
    refine j_iload g 4 rfl dX2_addShifted_54 ?_
    refine j_iload_n g 2 rfl dX2_addShifted_56 ?_
    refine j_isub g dX2_addShifted_57 ?_
    refine j_iconst g (v := 1) (by decide) dX2_addShifted_58 ?_
    refine j_isub g dX2_addShifted_59 ?_
    obtain ⟨hv8, h⟩ := h
    refine j_lald g (23 + i0) (cg_w hi0) hv8 dX2_addShifted_60 ?_
    refine j_bipush g (v := 64) (by decide) dX2_addShifted_61 ?_
    refine j_iload_n g 3 rfl dX2_addShifted_63 ?_
    refine j_isub g dX2_addShifted_64 ?_
    refine j_lushr g dX2_addShifted_65 ?_
    refine j_lor g dX2_addShifted_66 ?_
    refine j_lstore g (lv' := [(5, .long (((wd i0 (x4 - x2).toNatClampNeg) <<< (x3.toInt64 &&& 63)) ||| (((wd i0 ((x4 - x2) - (1 : Int32)).toNatClampNeg).toUInt64 >>> (((64 : Int32) - x3).toInt64.toUInt64 &&& Int64.toUInt64 63)).toInt64))), (0, .ref (a (17 + i0))), (2, .int x2), (3, .int x3), (4, .int x4)]) (by decide) rfl dX2_addShifted_67 ?_
    refine j_sub [1, 2, 3, 4, 0] rfl ?_
    exact hZ3 (((wd i0 (x4 - x2).toNatClampNeg) <<< (x3.toInt64 &&& 63)) ||| (((wd i0 ((x4 - x2) - (1 : Int32)).toNatClampNeg).toUInt64 >>> (((64 : Int32) - x3).toInt64.toUInt64 &&& Int64.toUInt64 63)).toInt64)) h
set_option maxRecDepth 20000 in
set_option maxHeartbeats 4000000 in
theorem c_X2_addShifted {a : Nat → Nat} {q : Nat → ClassId} {j0 : Nat} {x1 : Int32} (hj0 : j0 < 6) {sz : Int32} {pr : Nat → Int32} {pm : Nat → Nat} {kv : Nat → Int32} {kn : Nat → Int32} {kr : Nat → Int32} {kt : Nat → Int32} {kb : Nat → Int32} {ks : Nat → Int32} {kj : Nat → Int32} {kw : Nat → Int32} {kg : Nat → Int32} {wd : Nat → Nat → Int64} {fw : Nat → Nat → Int32} {ad : Nat → Int32} {bk : Nat → Int32} {md : Int32} {cr : Int32} {ow : Int32} {hd : Int32} {K : (Nat → Nat → Int64) → Prop} (h : wp_X2_addShifted j0 x1 wd K) : ctV_1 q yX2_addShifted cX2_addShifted 7 0 0 [.ref (a (17 + j0)), .int x1] (cgW a q sz pr pm kv kn kr kt kb ks kj kw kg wd fw ad bk md cr ow hd) (fun (wd : Nat → Nat → Int64) => (cgW a q sz pr pm kv kn kr kt kb ks kj kw kg wd fw ad bk md cr ow hd)) K := by
  refine met_V_1 (by decide) (Nat.le_of_ble_eq_true rfl) (fun Γ g hret => ?_)
  unfold wp_X2_addShifted at h
  show jw Γ 7 0 0 (cgW a q sz pr pm kv kn kr kt kb ks kj kw kg wd fw ad bk md cr ow hd) [(0, .ref (a (17 + j0))), (1, .int x1)] [] 0
  refine j_iload_n g 1 rfl dX2_addShifted_0 ?_
  refine j_if_gt g dX2_addShifted_1 (tgt := 5) (by decide) (fun c1 => ?_) (fun c1 => ?_)
  rotate_left
  · replace h := h.2 c1
    exact hret.go dX2_addShifted_4 h
  replace h := h.1 c1
  refine j_iload_n g 1 rfl dX2_addShifted_5 ?_
  refine j_bipush g (v := 64) (by decide) dX2_addShifted_6 ?_
  refine j_idiv g (by decide) dX2_addShifted_8 ?_
  refine j_istore_n g (lv' := [(2, .int (x1 / (64 : Int32))), (0, .ref (a (17 + j0))), (1, .int x1)]) (by decide) rfl dX2_addShifted_9 ?_
  refine j_iload_n g 2 rfl dX2_addShifted_10 ?_
  refine j_bipush g (v := 64) (by decide) dX2_addShifted_11 ?_
  refine j_irem g (by decide) dX2_addShifted_13 ?_
  refine j_istore_n g (lv' := [(3, .int (x1 - x1 / (64 : Int32) * (64 : Int32))), (2, .int (x1 / (64 : Int32))), (0, .ref (a (17 + j0))), (1, .int x1)]) (by decide) rfl dX2_addShifted_14 ?_
  refine j_bipush g (v := 15) (by decide) dX2_addShifted_15 ?_
  refine j_istore g (lv' := [(4, .int (15 : Int32)), (3, .int (x1 - x1 / (64 : Int32) * (64 : Int32))), (2, .int (x1 / (64 : Int32))), (0, .ref (a (17 + j0))), (1, .int x1)]) (by decide) rfl dX2_addShifted_17 ?_
  obtain ⟨n2, h⟩ := h
  refine j_sub [3, 2, 1, 0] rfl ?_
  refine wk_X2_addShifted_19 hj0 g hret (fun wd_2 h => ?_) n2 (15 : Int32) wd h
  exact hret.go dX2_addShifted_87 h

set_option maxRecDepth 20000 in
def wp_X2_addCoins_5 (i0 : Nat) (x1 : Int32)  (K : (Nat → Nat → Int64) → Prop) (X : (Nat → Nat → Int64) → Prop) : Nat → Int32 → Int32 → (Nat → Nat → Int64) → Prop
  | 0, _, _, _ => False
  | n + 1, x3, x4, wd => (((20 : Int32) < x4 → X wd) ∧ (¬ (20 : Int32) < x4 → ((x3 ≤ 0 → X wd) ∧ (¬ x3 ≤ 0 → wp_X2_addShifted i0 ((if x3 < x4 then x3 else x4) * x1) wd (fun (wd_3 : Nat → Nat → Int64) => wp_X2_addCoins_5 i0 x1 K X n (x3 - (if x3 < x4 then x3 else x4)) (x4 * (2 : Int32)) wd_3)))))
set_option maxRecDepth 20000 in
def wp_X2_addCoins (j0 : Nat) (x1 : Int32) (x2 : Int32) (wd : Nat → Nat → Int64) (K : (Nat → Nat → Int64) → Prop) : Prop :=
  ∃ n1 : Nat, wp_X2_addCoins_5 j0 x1 K (fun (wd_1 : Nat → Nat → Int64) => K wd_1) n1 x2 (1 : Int32) wd
theorem dX2_addCoins_0 : decode cX2_addCoins 0 = .ok (.iload_n 2, 1) := by decide +kernel
theorem dX2_addCoins_1 : decode cX2_addCoins 1 = .ok (.istore_n 3, 1) := by decide +kernel
theorem dX2_addCoins_2 : decode cX2_addCoins 2 = .ok (.iconst 1, 1) := by decide +kernel
theorem dX2_addCoins_3 : decode cX2_addCoins 3 = .ok (.istore 4, 2) := by decide +kernel
theorem dX2_addCoins_5 : decode cX2_addCoins 5 = .ok (.iload 4, 2) := by decide +kernel
theorem dX2_addCoins_7 : decode cX2_addCoins 7 = .ok (.bipush 20, 2) := by decide +kernel
theorem dX2_addCoins_9 : decode cX2_addCoins 9 = .ok (.if_icmp .gt 37, 3) := by decide +kernel
theorem dX2_addCoins_12 : decode cX2_addCoins 12 = .ok (.iload_n 3, 1) := by decide +kernel
theorem dX2_addCoins_13 : decode cX2_addCoins 13 = .ok (.ifCond .le 33, 3) := by decide +kernel
theorem dX2_addCoins_16 : decode cX2_addCoins 16 = .ok (.iload 4, 2) := by decide +kernel
theorem dX2_addCoins_18 : decode cX2_addCoins 18 = .ok (.iload_n 3, 1) := by decide +kernel
theorem dX2_addCoins_19 : decode cX2_addCoins 19 = .ok (.invokestatic 27, 3) := by decide +kernel
theorem dX2_addCoins_22 : decode cX2_addCoins 22 = .ok (.istore 5, 2) := by decide +kernel
theorem dX2_addCoins_24 : decode cX2_addCoins 24 = .ok (.aload_n 0, 1) := by decide +kernel
theorem dX2_addCoins_25 : decode cX2_addCoins 25 = .ok (.iload 5, 2) := by decide +kernel
theorem dX2_addCoins_27 : decode cX2_addCoins 27 = .ok (.iload_n 1, 1) := by decide +kernel
theorem dX2_addCoins_28 : decode cX2_addCoins 28 = .ok (.imul, 1) := by decide +kernel
theorem dX2_addCoins_29 : decode cX2_addCoins 29 = .ok (.invokevirtual 33, 3) := by decide +kernel
theorem dX2_addCoins_32 : decode cX2_addCoins 32 = .ok (.iload_n 3, 1) := by decide +kernel
theorem dX2_addCoins_33 : decode cX2_addCoins 33 = .ok (.iload 5, 2) := by decide +kernel
theorem dX2_addCoins_35 : decode cX2_addCoins 35 = .ok (.isub, 1) := by decide +kernel
theorem dX2_addCoins_36 : decode cX2_addCoins 36 = .ok (.istore_n 3, 1) := by decide +kernel
theorem dX2_addCoins_37 : decode cX2_addCoins 37 = .ok (.iload 4, 2) := by decide +kernel
theorem dX2_addCoins_39 : decode cX2_addCoins 39 = .ok (.iconst 2, 1) := by decide +kernel
theorem dX2_addCoins_40 : decode cX2_addCoins 40 = .ok (.imul, 1) := by decide +kernel
theorem dX2_addCoins_41 : decode cX2_addCoins 41 = .ok (.istore 4, 2) := by decide +kernel
theorem dX2_addCoins_43 : decode cX2_addCoins 43 = .ok (.goto (-38), 3) := by decide +kernel
theorem dX2_addCoins_46 : decode cX2_addCoins 46 = .ok (.return_, 1) := by decide +kernel
set_option maxRecDepth 20000 in
set_option maxHeartbeats 4000000 in
theorem wk_X2_addCoins_5 {Γ : GT} {a : Nat → Nat} {q : Nat → ClassId} {i0 : Nat} {x1 : Int32} (hi0 : i0 < 6) {sz : Int32} {pr : Nat → Int32} {pm : Nat → Nat} {kv : Nat → Int32} {kn : Nat → Int32} {kr : Nat → Int32} {kt : Nat → Int32} {kb : Nat → Int32} {ks : Nat → Int32} {kj : Nat → Int32} {kw : Nat → Int32} {kg : Nat → Int32} {fw : Nat → Nat → Int32} {ad : Nat → Int32} {bk : Nat → Int32} {md : Int32} {cr : Int32} {ow : Int32} {hd : Int32} {K : (Nat → Nat → Int64) → Prop} {X : (Nat → Nat → Int64) → Prop} (g : gd Γ cX2_addCoins RX2 6 (rmz 1 26) q) (hret : rtV_1 Γ cX2_addCoins 6 (fun (wd : Nat → Nat → Int64) => (cgW a q sz pr pm kv kn kr kt kb ks kj kw kg wd fw ad bk md cr ow hd)) K) (hX : ∀ (wd : Nat → Nat → Int64) , X wd → jw Γ 6 0 0 (cgW a q sz pr pm kv kn kr kt kb ks kj kw kg wd fw ad bk md cr ow hd) [] [] 46) :
    ∀ (n : Nat) (x3 : Int32) (x4 : Int32) (wd : Nat → Nat → Int64) , wp_X2_addCoins_5 i0 x1 K X n x3 x4 wd → jw Γ 6 0 0 (cgW a q sz pr pm kv kn kr kt kb ks kj kw kg wd fw ad bk md cr ow hd) [(0, .ref (a (17 + i0))), (1, .int x1), (3, .int x3), (4, .int x4)] [] 5 := by
  intro n
  induction n with
  | zero =>
    intro _ _ _ h
    exact False.elim h
  | succ n ih =>
    intro x3 x4 wd h
    unfold wp_X2_addCoins_5 at h
    refine j_iload g 3 rfl dX2_addCoins_5 ?_
    refine j_bipush g (v := 20) (by decide) dX2_addCoins_7 ?_
    refine j_icmp_gt g dX2_addCoins_9 (tgt := 46) (by decide) (fun c1 => ?_) (fun c1 => ?_)
    · replace h := h.1 c1
      refine j_sub [] rfl ?_
      exact hX wd h
    replace h := h.2 c1
    refine j_iload_n g 2 rfl dX2_addCoins_12 ?_
    refine j_if_le g dX2_addCoins_13 (tgt := 46) (by decide) (fun c2 => ?_) (fun c2 => ?_)
    · replace h := h.1 c2
      refine j_sub [] rfl ?_
      exact hX wd h
    replace h := h.2 c2
    refine j_iload g 3 rfl dX2_addCoins_16 ?_
    refine j_iload_n g 2 rfl dX2_addCoins_18 ?_
    refine j_mmin g lm_X2_27 lm_min_s lm_i lm_min_c (Nat.le_of_ble_eq_true rfl) (Nat.le_of_ble_eq_true rfl) (Nat.zero_le _) (Nat.zero_le _) dX2_addCoins_19 ?_
    refine j_istore g (lv' := [(5, .int (if x3 < x4 then x3 else x4)), (0, .ref (a (17 + i0))), (1, .int x1), (3, .int x3), (4, .int x4)]) (by decide) rfl dX2_addCoins_22 ?_
    refine j_aload_n g 1 rfl dX2_addCoins_24 ?_
    refine j_iload g 0 rfl dX2_addCoins_25 ?_
    refine j_iload_n g 2 rfl dX2_addCoins_27 ?_
    refine j_imul g dX2_addCoins_28 ?_
    refine j_callVV_1 g (As := [.int ((if x3 < x4 then x3 else x4) * x1)]) (st := []) (c_X2_addShifted hi0 h) cl_X2_33 (17 + i0) 2 (cg_S hi0) rfl rfl (Nat.le_of_ble_eq_true rfl) (Nat.le_of_ble_eq_true rfl) (Nat.zero_le _) (Nat.zero_le _) rfl rfl (Nat.le_of_ble_eq_true rfl) dX2_addCoins_29 (fun wd_3 h => ?_)
    refine j_ws (ws' := (cgW a q sz pr pm kv kn kr kt kb ks kj kw kg wd_3 fw ad bk md cr ow hd)) rfl ?_
    refine j_iload_n g 3 rfl dX2_addCoins_32 ?_
    refine j_iload g 0 rfl dX2_addCoins_33 ?_
    refine j_isub g dX2_addCoins_35 ?_
    refine j_istore_n g (lv' := [(3, .int (x3 - (if x3 < x4 then x3 else x4))), (5, .int (if x3 < x4 then x3 else x4)), (0, .ref (a (17 + i0))), (1, .int x1), (4, .int x4)]) (by decide) rfl dX2_addCoins_36 ?_
    refine j_iload g 4 rfl dX2_addCoins_37 ?_
    refine j_iconst g (v := 2) (by decide) dX2_addCoins_39 ?_
    refine j_imul g dX2_addCoins_40 ?_
    refine j_istore g (lv' := [(4, .int (x4 * (2 : Int32))), (3, .int (x3 - (if x3 < x4 then x3 else x4))), (5, .int (if x3 < x4 then x3 else x4)), (0, .ref (a (17 + i0))), (1, .int x1)]) (by decide) rfl dX2_addCoins_41 ?_
    refine j_goto g dX2_addCoins_43 (tgt := 5) (by decide) ?_
    refine j_sub [3, 4, 1, 0] rfl ?_
    exact ih (x3 - (if x3 < x4 then x3 else x4)) (x4 * (2 : Int32)) wd_3 h
set_option maxRecDepth 20000 in
set_option maxHeartbeats 4000000 in
theorem c_X2_addCoins {a : Nat → Nat} {q : Nat → ClassId} {j0 : Nat} {x1 : Int32} {x2 : Int32} (hj0 : j0 < 6) {sz : Int32} {pr : Nat → Int32} {pm : Nat → Nat} {kv : Nat → Int32} {kn : Nat → Int32} {kr : Nat → Int32} {kt : Nat → Int32} {kb : Nat → Int32} {ks : Nat → Int32} {kj : Nat → Int32} {kw : Nat → Int32} {kg : Nat → Int32} {wd : Nat → Nat → Int64} {fw : Nat → Nat → Int32} {ad : Nat → Int32} {bk : Nat → Int32} {md : Int32} {cr : Int32} {ow : Int32} {hd : Int32} {K : (Nat → Nat → Int64) → Prop} (h : wp_X2_addCoins j0 x1 x2 wd K) : ctV_1 q yX2_addCoins cX2_addCoins 6 1 26 [.ref (a (17 + j0)), .int x1, .int x2] (cgW a q sz pr pm kv kn kr kt kb ks kj kw kg wd fw ad bk md cr ow hd) (fun (wd : Nat → Nat → Int64) => (cgW a q sz pr pm kv kn kr kt kb ks kj kw kg wd fw ad bk md cr ow hd)) K := by
  refine met_V_1 (by decide) (Nat.le_of_ble_eq_true rfl) (fun Γ g hret => ?_)
  unfold wp_X2_addCoins at h
  show jw Γ 6 0 0 (cgW a q sz pr pm kv kn kr kt kb ks kj kw kg wd fw ad bk md cr ow hd) [(0, .ref (a (17 + j0))), (1, .int x1), (2, .int x2)] [] 0
  refine j_iload_n g 2 rfl dX2_addCoins_0 ?_
  refine j_istore_n g (lv' := [(3, .int x2), (0, .ref (a (17 + j0))), (1, .int x1), (2, .int x2)]) (by decide) rfl dX2_addCoins_1 ?_
  refine j_iconst g (v := 1) (by decide) dX2_addCoins_2 ?_
  refine j_istore g (lv' := [(4, .int (1 : Int32)), (3, .int x2), (0, .ref (a (17 + j0))), (1, .int x1), (2, .int x2)]) (by decide) rfl dX2_addCoins_3 ?_
  obtain ⟨n1, h⟩ := h
  refine j_sub [2, 3, 1, 0] rfl ?_
  refine wk_X2_addCoins_5 hj0 g hret (fun wd_1 h => ?_) n1 x2 (1 : Int32) wd h
  exact hret.go dX2_addCoins_46 h

set_option maxRecDepth 20000 in
def wp_X2_has (j0 : Nat) (x1 : Int32) (wd : Nat → Nat → Int64) (K : Int32 → Prop) : Prop :=
  ((x1 < 0 → K (0 : Int32)) ∧ (¬ x1 < 0 → ((x1 ≤ (999 : Int32) → (vp_in (x1 / (64 : Int32)) 16 ∧ ((lg_cmp ((((wd j0 (x1 / (64 : Int32)).toNatClampNeg).toUInt64 >>> ((x1 - x1 / (64 : Int32) * (64 : Int32)).toInt64.toUInt64 &&& Int64.toUInt64 63)).toInt64) &&& (1 : Int64)) (0 : Int64) = 0 → K (0 : Int32)) ∧ (¬ lg_cmp ((((wd j0 (x1 / (64 : Int32)).toNatClampNeg).toUInt64 >>> ((x1 - x1 / (64 : Int32) * (64 : Int32)).toInt64.toUInt64 &&& Int64.toUInt64 63)).toInt64) &&& (1 : Int64)) (0 : Int64) = 0 → K (1 : Int32))))) ∧ (¬ x1 ≤ (999 : Int32) → K (0 : Int32)))))
theorem dX2_has_0 : decode cX2_has 0 = .ok (.iload_n 1, 1) := by decide +kernel
theorem dX2_has_1 : decode cX2_has 1 = .ok (.ifCond .lt 10, 3) := by decide +kernel
theorem dX2_has_4 : decode cX2_has 4 = .ok (.iload_n 1, 1) := by decide +kernel
theorem dX2_has_5 : decode cX2_has 5 = .ok (.sipush 999, 3) := by decide +kernel
theorem dX2_has_8 : decode cX2_has 8 = .ok (.if_icmp .le 5, 3) := by decide +kernel
theorem dX2_has_11 : decode cX2_has 11 = .ok (.iconst 0, 1) := by decide +kernel
theorem dX2_has_12 : decode cX2_has 12 = .ok (.ireturn, 1) := by decide +kernel
theorem dX2_has_13 : decode cX2_has 13 = .ok (.aload_n 0, 1) := by decide +kernel
theorem dX2_has_14 : decode cX2_has 14 = .ok (.getfield 11, 3) := by decide +kernel
theorem dX2_has_17 : decode cX2_has 17 = .ok (.iload_n 1, 1) := by decide +kernel
theorem dX2_has_18 : decode cX2_has 18 = .ok (.bipush 64, 2) := by decide +kernel
theorem dX2_has_20 : decode cX2_has 20 = .ok (.idiv, 1) := by decide +kernel
theorem dX2_has_21 : decode cX2_has 21 = .ok (.laload, 1) := by decide +kernel
theorem dX2_has_22 : decode cX2_has 22 = .ok (.iload_n 1, 1) := by decide +kernel
theorem dX2_has_23 : decode cX2_has 23 = .ok (.bipush 64, 2) := by decide +kernel
theorem dX2_has_25 : decode cX2_has 25 = .ok (.irem, 1) := by decide +kernel
theorem dX2_has_26 : decode cX2_has 26 = .ok (.lushr, 1) := by decide +kernel
theorem dX2_has_27 : decode cX2_has 27 = .ok (.lconst 1, 1) := by decide +kernel
theorem dX2_has_28 : decode cX2_has 28 = .ok (.land, 1) := by decide +kernel
theorem dX2_has_29 : decode cX2_has 29 = .ok (.lconst 0, 1) := by decide +kernel
theorem dX2_has_30 : decode cX2_has 30 = .ok (.lcmp, 1) := by decide +kernel
theorem dX2_has_31 : decode cX2_has 31 = .ok (.ifCond .eq 7, 3) := by decide +kernel
theorem dX2_has_34 : decode cX2_has 34 = .ok (.iconst 1, 1) := by decide +kernel
theorem dX2_has_35 : decode cX2_has 35 = .ok (.goto 4, 3) := by decide +kernel
theorem dX2_has_38 : decode cX2_has 38 = .ok (.iconst 0, 1) := by decide +kernel
theorem dX2_has_39 : decode cX2_has 39 = .ok (.ireturn, 1) := by decide +kernel
set_option maxRecDepth 20000 in
set_option maxHeartbeats 4000000 in
theorem c_X2_has {a : Nat → Nat} {q : Nat → ClassId} {j0 : Nat} {x1 : Int32} (hj0 : j0 < 6) {sz : Int32} {pr : Nat → Int32} {pm : Nat → Nat} {kv : Nat → Int32} {kn : Nat → Int32} {kr : Nat → Int32} {kt : Nat → Int32} {kb : Nat → Int32} {ks : Nat → Int32} {kj : Nat → Int32} {kw : Nat → Int32} {kg : Nat → Int32} {wd : Nat → Nat → Int64} {fw : Nat → Nat → Int32} {ad : Nat → Int32} {bk : Nat → Int32} {md : Int32} {cr : Int32} {ow : Int32} {hd : Int32} {K : Int32 → Prop} (h : wp_X2_has j0 x1 wd K) : ctZ_0 q yX2_has cX2_has 2 0 0 [.ref (a (17 + j0)), .int x1] (cgW a q sz pr pm kv kn kr kt kb ks kj kw kg wd fw ad bk md cr ow hd) (cgW a q sz pr pm kv kn kr kt kb ks kj kw kg wd fw ad bk md cr ow hd) K := by
  refine met_Z_0 (by decide) (Nat.le_of_ble_eq_true rfl) (fun Γ g hret => ?_)
  unfold wp_X2_has at h
  show jw Γ 2 0 0 (cgW a q sz pr pm kv kn kr kt kb ks kj kw kg wd fw ad bk md cr ow hd) [(0, .ref (a (17 + j0))), (1, .int x1)] [] 0
  refine j_iload_n g 1 rfl dX2_has_0 ?_
  refine j_if_lt g dX2_has_1 (tgt := 11) (by decide) (fun c1 => ?_) (fun c1 => ?_)
  · replace h := h.1 c1
    refine j_iconst g (v := 0) (by decide) dX2_has_11 ?_
    exact hret.go dX2_has_12 (Or.inl rfl) h
  replace h := h.2 c1
  refine j_iload_n g 1 rfl dX2_has_4 ?_
  refine j_sipush g (v := 999) (by decide) dX2_has_5 ?_
  refine j_icmp_le g dX2_has_8 (tgt := 13) (by decide) (fun c2 => ?_) (fun c2 => ?_)
  rotate_left
  · replace h := h.2 c2
    refine j_iconst g (v := 0) (by decide) dX2_has_11 ?_
    exact hret.go dX2_has_12 (Or.inl rfl) h
  replace h := h.1 c2
  refine j_aload_n g 0 rfl dX2_has_13 ?_
  refine j_get g fl_X2_11 (17 + j0) (cg_S hj0) rfl dX2_has_14 ?_
  refine j_iload_n g 1 rfl dX2_has_17 ?_
  refine j_bipush g (v := 64) (by decide) dX2_has_18 ?_
  refine j_idiv g (by decide) dX2_has_20 ?_
  obtain ⟨hv3, h⟩ := h
  refine j_lald g (23 + j0) (cg_w hj0) hv3 dX2_has_21 ?_
  refine j_iload_n g 1 rfl dX2_has_22 ?_
  refine j_bipush g (v := 64) (by decide) dX2_has_23 ?_
  refine j_irem g (by decide) dX2_has_25 ?_
  refine j_lushr g dX2_has_26 ?_
  refine j_lconst g (v := 1) (by decide) dX2_has_27 ?_
  refine j_land g dX2_has_28 ?_
  refine j_lconst g (v := 0) (by decide) dX2_has_29 ?_
  refine j_lcmp g dX2_has_30 ?_
  refine j_if_eq g dX2_has_31 (tgt := 38) (by decide) (fun c4 => ?_) (fun c4 => ?_)
  · replace h := h.1 c4
    refine j_iconst g (v := 0) (by decide) dX2_has_38 ?_
    exact hret.go dX2_has_39 (Or.inl rfl) h
  replace h := h.2 c4
  refine j_iconst g (v := 1) (by decide) dX2_has_34 ?_
  refine j_goto g dX2_has_35 (tgt := 39) (by decide) ?_
  exact hret.go dX2_has_39 (Or.inr rfl) h

set_option maxRecDepth 20000 in
def wp_X2_hasWith (j0 : Nat) (x1 : Int32) (x2 : Int32) (wd : Nat → Nat → Int64) (K : Int32 → Prop) : Prop :=
  wp_X2_has j0 x1 wd (fun (r_1 : Int32)  => ((¬ r_1 = 0 → K (1 : Int32)) ∧ (r_1 = 0 → ((x2 ≤ 0 → K (0 : Int32)) ∧ (¬ x2 ≤ 0 → wp_X2_has j0 (x1 - x2) wd (fun (r_4 : Int32)  => ((r_4 = 0 → K (0 : Int32)) ∧ (¬ r_4 = 0 → K (1 : Int32)))))))))
theorem dX2_hasWith_0 : decode cX2_hasWith 0 = .ok (.aload_n 0, 1) := by decide +kernel
theorem dX2_hasWith_1 : decode cX2_hasWith 1 = .ok (.iload_n 1, 1) := by decide +kernel
theorem dX2_hasWith_2 : decode cX2_hasWith 2 = .ok (.invokevirtual 37, 3) := by decide +kernel
theorem dX2_hasWith_5 : decode cX2_hasWith 5 = .ok (.ifCond .ne 17, 3) := by decide +kernel
theorem dX2_hasWith_8 : decode cX2_hasWith 8 = .ok (.iload_n 2, 1) := by decide +kernel
theorem dX2_hasWith_9 : decode cX2_hasWith 9 = .ok (.ifCond .le 17, 3) := by decide +kernel
theorem dX2_hasWith_12 : decode cX2_hasWith 12 = .ok (.aload_n 0, 1) := by decide +kernel
theorem dX2_hasWith_13 : decode cX2_hasWith 13 = .ok (.iload_n 1, 1) := by decide +kernel
theorem dX2_hasWith_14 : decode cX2_hasWith 14 = .ok (.iload_n 2, 1) := by decide +kernel
theorem dX2_hasWith_15 : decode cX2_hasWith 15 = .ok (.isub, 1) := by decide +kernel
theorem dX2_hasWith_16 : decode cX2_hasWith 16 = .ok (.invokevirtual 37, 3) := by decide +kernel
theorem dX2_hasWith_19 : decode cX2_hasWith 19 = .ok (.ifCond .eq 7, 3) := by decide +kernel
theorem dX2_hasWith_22 : decode cX2_hasWith 22 = .ok (.iconst 1, 1) := by decide +kernel
theorem dX2_hasWith_23 : decode cX2_hasWith 23 = .ok (.goto 4, 3) := by decide +kernel
theorem dX2_hasWith_26 : decode cX2_hasWith 26 = .ok (.iconst 0, 1) := by decide +kernel
theorem dX2_hasWith_27 : decode cX2_hasWith 27 = .ok (.ireturn, 1) := by decide +kernel
set_option maxRecDepth 20000 in
set_option maxHeartbeats 4000000 in
theorem c_X2_hasWith {a : Nat → Nat} {q : Nat → ClassId} {j0 : Nat} {x1 : Int32} {x2 : Int32} (hj0 : j0 < 6) {sz : Int32} {pr : Nat → Int32} {pm : Nat → Nat} {kv : Nat → Int32} {kn : Nat → Int32} {kr : Nat → Int32} {kt : Nat → Int32} {kb : Nat → Int32} {ks : Nat → Int32} {kj : Nat → Int32} {kw : Nat → Int32} {kg : Nat → Int32} {wd : Nat → Nat → Int64} {fw : Nat → Nat → Int32} {ad : Nat → Int32} {bk : Nat → Int32} {md : Int32} {cr : Int32} {ow : Int32} {hd : Int32} {K : Int32 → Prop} (h : wp_X2_hasWith j0 x1 x2 wd K) : ctZ_0 q yX2_hasWith cX2_hasWith 3 1 21 [.ref (a (17 + j0)), .int x1, .int x2] (cgW a q sz pr pm kv kn kr kt kb ks kj kw kg wd fw ad bk md cr ow hd) (cgW a q sz pr pm kv kn kr kt kb ks kj kw kg wd fw ad bk md cr ow hd) K := by
  refine met_Z_0 (by decide) (Nat.le_of_ble_eq_true rfl) (fun Γ g hret => ?_)
  unfold wp_X2_hasWith at h
  show jw Γ 3 0 0 (cgW a q sz pr pm kv kn kr kt kb ks kj kw kg wd fw ad bk md cr ow hd) [(0, .ref (a (17 + j0))), (1, .int x1), (2, .int x2)] [] 0
  refine j_aload_n g 0 rfl dX2_hasWith_0 ?_
  refine j_iload_n g 1 rfl dX2_hasWith_1 ?_
  refine j_callVZ_0 g (As := [.int x1]) (st := []) (c_X2_has hj0 h) cl_X2_37 (17 + j0) 2 (cg_S hj0) rfl rfl (Nat.le_of_ble_eq_true rfl) (Nat.le_of_ble_eq_true rfl) (Nat.zero_le _) (Nat.zero_le _) rfl rfl (Nat.le_of_ble_eq_true rfl) dX2_hasWith_2 (fun r_1  hz_1 h => ?_)
  refine j_if_ne g dX2_hasWith_5 (tgt := 22) (by decide) (fun c2 => ?_) (fun c2 => ?_)
  · replace h := h.1 c2
    refine j_iconst g (v := 1) (by decide) dX2_hasWith_22 ?_
    refine j_goto g dX2_hasWith_23 (tgt := 27) (by decide) ?_
    exact hret.go dX2_hasWith_27 (Or.inr rfl) h
  replace h := h.2 c2
  refine j_iload_n g 2 rfl dX2_hasWith_8 ?_
  refine j_if_le g dX2_hasWith_9 (tgt := 26) (by decide) (fun c3 => ?_) (fun c3 => ?_)
  · replace h := h.1 c3
    refine j_iconst g (v := 0) (by decide) dX2_hasWith_26 ?_
    exact hret.go dX2_hasWith_27 (Or.inl rfl) h
  replace h := h.2 c3
  refine j_aload_n g 0 rfl dX2_hasWith_12 ?_
  refine j_iload_n g 1 rfl dX2_hasWith_13 ?_
  refine j_iload_n g 2 rfl dX2_hasWith_14 ?_
  refine j_isub g dX2_hasWith_15 ?_
  refine j_callVZ_0 g (As := [.int (x1 - x2)]) (st := []) (c_X2_has hj0 h) cl_X2_37 (17 + j0) 2 (cg_S hj0) rfl rfl (Nat.le_of_ble_eq_true rfl) (Nat.le_of_ble_eq_true rfl) (Nat.zero_le _) (Nat.zero_le _) rfl rfl (Nat.le_of_ble_eq_true rfl) dX2_hasWith_16 (fun r_4  hz_4 h => ?_)
  refine j_if_eq g dX2_hasWith_19 (tgt := 26) (by decide) (fun c5 => ?_) (fun c5 => ?_)
  · replace h := h.1 c5
    refine j_iconst g (v := 0) (by decide) dX2_hasWith_26 ?_
    exact hret.go dX2_hasWith_27 (Or.inl rfl) h
  replace h := h.2 c5
  refine j_iconst g (v := 1) (by decide) dX2_hasWith_22 ?_
  refine j_goto g dX2_hasWith_23 (tgt := 27) (by decide) ?_
  exact hret.go dX2_hasWith_27 (Or.inr rfl) h

set_option maxRecDepth 20000 in
def wp_X2_howMany_4 (i0 : Nat) (x1 : Int32) (wd : Nat → Nat → Int64) (K : Int32 → Prop) (X : Int32 → Prop) : Nat → Int32 → Int32 → Prop
  | 0, _, _ => False
  | n + 1, x2, x3 => ((x1 < x3 → X x2) ∧ (¬ x1 < x3 → (((999 : Int32) < x3 → X x2) ∧ (¬ (999 : Int32) < x3 → wp_X2_has i0 x3 wd (fun (r_3 : Int32)  => ((r_3 = 0 → wp_X2_howMany_4 i0 x1 wd K X n x2 (x3 + 1)) ∧ (¬ r_3 = 0 → wp_X2_howMany_4 i0 x1 wd K X n (x2 + 1) (x3 + 1))))))))
set_option maxRecDepth 20000 in
def wp_X2_howMany (j0 : Nat) (x1 : Int32) (wd : Nat → Nat → Int64) (K : Int32 → Prop) : Prop :=
  ∃ n1 : Nat, wp_X2_howMany_4 j0 x1 wd K (fun (x2_1 : Int32) => K x2_1) n1 (0 : Int32) (1 : Int32)
theorem dX2_howMany_0 : decode cX2_howMany 0 = .ok (.iconst 0, 1) := by decide +kernel
theorem dX2_howMany_1 : decode cX2_howMany 1 = .ok (.istore_n 2, 1) := by decide +kernel
theorem dX2_howMany_2 : decode cX2_howMany 2 = .ok (.iconst 1, 1) := by decide +kernel
theorem dX2_howMany_3 : decode cX2_howMany 3 = .ok (.istore_n 3, 1) := by decide +kernel
theorem dX2_howMany_4 : decode cX2_howMany 4 = .ok (.iload_n 3, 1) := by decide +kernel
theorem dX2_howMany_5 : decode cX2_howMany 5 = .ok (.iload_n 1, 1) := by decide +kernel
theorem dX2_howMany_6 : decode cX2_howMany 6 = .ok (.if_icmp .gt 27, 3) := by decide +kernel
theorem dX2_howMany_9 : decode cX2_howMany 9 = .ok (.iload_n 3, 1) := by decide +kernel
theorem dX2_howMany_10 : decode cX2_howMany 10 = .ok (.sipush 999, 3) := by decide +kernel
theorem dX2_howMany_13 : decode cX2_howMany 13 = .ok (.if_icmp .gt 20, 3) := by decide +kernel
theorem dX2_howMany_16 : decode cX2_howMany 16 = .ok (.aload_n 0, 1) := by decide +kernel
theorem dX2_howMany_17 : decode cX2_howMany 17 = .ok (.iload_n 3, 1) := by decide +kernel
theorem dX2_howMany_18 : decode cX2_howMany 18 = .ok (.invokevirtual 37, 3) := by decide +kernel
theorem dX2_howMany_21 : decode cX2_howMany 21 = .ok (.ifCond .eq 6, 3) := by decide +kernel
theorem dX2_howMany_24 : decode cX2_howMany 24 = .ok (.iinc 2 1, 3) := by decide +kernel
theorem dX2_howMany_27 : decode cX2_howMany 27 = .ok (.iinc 3 1, 3) := by decide +kernel
theorem dX2_howMany_30 : decode cX2_howMany 30 = .ok (.goto (-26), 3) := by decide +kernel
theorem dX2_howMany_33 : decode cX2_howMany 33 = .ok (.iload_n 2, 1) := by decide +kernel
theorem dX2_howMany_34 : decode cX2_howMany 34 = .ok (.ireturn, 1) := by decide +kernel
set_option maxRecDepth 20000 in
set_option maxHeartbeats 4000000 in
theorem wk_X2_howMany_4 {Γ : GT} {a : Nat → Nat} {q : Nat → ClassId} {i0 : Nat} {x1 : Int32} (hi0 : i0 < 6) {sz : Int32} {pr : Nat → Int32} {pm : Nat → Nat} {kv : Nat → Int32} {kn : Nat → Int32} {kr : Nat → Int32} {kt : Nat → Int32} {kb : Nat → Int32} {ks : Nat → Int32} {kj : Nat → Int32} {kw : Nat → Int32} {kg : Nat → Int32} {wd : Nat → Nat → Int64} {fw : Nat → Nat → Int32} {ad : Nat → Int32} {bk : Nat → Int32} {md : Int32} {cr : Int32} {ow : Int32} {hd : Int32} {K : Int32 → Prop} {X : Int32 → Prop} (g : gd Γ cX2_howMany RX2 4 (rmz 1 21) q) (hret : rtI_0 Γ cX2_howMany 4 (cgW a q sz pr pm kv kn kr kt kb ks kj kw kg wd fw ad bk md cr ow hd) K) (hX : ∀ (x2 : Int32) , X x2 → jw Γ 4 0 0 (cgW a q sz pr pm kv kn kr kt kb ks kj kw kg wd fw ad bk md cr ow hd) [(2, .int x2)] [] 33) :
    ∀ (n : Nat) (x2 : Int32) (x3 : Int32) , wp_X2_howMany_4 i0 x1 wd K X n x2 x3 → jw Γ 4 0 0 (cgW a q sz pr pm kv kn kr kt kb ks kj kw kg wd fw ad bk md cr ow hd) [(0, .ref (a (17 + i0))), (1, .int x1), (2, .int x2), (3, .int x3)] [] 4 := by
  intro n
  induction n with
  | zero =>
    intro _ _ h
    exact False.elim h
  | succ n ih =>
    intro x2 x3 h
    unfold wp_X2_howMany_4 at h
    refine j_iload_n g 3 rfl dX2_howMany_4 ?_
    refine j_iload_n g 1 rfl dX2_howMany_5 ?_
    refine j_icmp_gt g dX2_howMany_6 (tgt := 33) (by decide) (fun c1 => ?_) (fun c1 => ?_)
    · replace h := h.1 c1
      refine j_sub [2] rfl ?_
      exact hX x2 h
    replace h := h.2 c1
    refine j_iload_n g 3 rfl dX2_howMany_9 ?_
    refine j_sipush g (v := 999) (by decide) dX2_howMany_10 ?_
    refine j_icmp_gt g dX2_howMany_13 (tgt := 33) (by decide) (fun c2 => ?_) (fun c2 => ?_)
    · replace h := h.1 c2
      refine j_sub [2] rfl ?_
      exact hX x2 h
    replace h := h.2 c2
    refine j_aload_n g 0 rfl dX2_howMany_16 ?_
    refine j_iload_n g 3 rfl dX2_howMany_17 ?_
    refine j_callVZ_0 g (As := [.int x3]) (st := []) (c_X2_has hi0 h) cl_X2_37 (17 + i0) 2 (cg_S hi0) rfl rfl (Nat.le_of_ble_eq_true rfl) (Nat.le_of_ble_eq_true rfl) (Nat.zero_le _) (Nat.zero_le _) rfl rfl (Nat.le_of_ble_eq_true rfl) dX2_howMany_18 (fun r_3  hz_3 h => ?_)
    refine j_if_eq g dX2_howMany_21 (tgt := 27) (by decide) (fun c4 => ?_) (fun c4 => ?_)
    · replace h := h.1 c4
      refine j_iinc g 3 (n := 1) (v := x3 + 1) (lv' := [(3, .int (x3 + 1)), (0, .ref (a (17 + i0))), (1, .int x1), (2, .int x2)]) rfl rfl (by decide) rfl dX2_howMany_27 ?_
      refine j_goto g dX2_howMany_30 (tgt := 4) (by decide) ?_
      refine j_sub [1, 2, 3, 0] rfl ?_
      exact ih x2 (x3 + 1) h
    replace h := h.2 c4
    refine j_iinc g 2 (n := 1) (v := x2 + 1) (lv' := [(2, .int (x2 + 1)), (0, .ref (a (17 + i0))), (1, .int x1), (3, .int x3)]) rfl rfl (by decide) rfl dX2_howMany_24 ?_
    refine j_iinc g 3 (n := 1) (v := x3 + 1) (lv' := [(3, .int (x3 + 1)), (2, .int (x2 + 1)), (0, .ref (a (17 + i0))), (1, .int x1)]) rfl rfl (by decide) rfl dX2_howMany_27 ?_
    refine j_goto g dX2_howMany_30 (tgt := 4) (by decide) ?_
    refine j_sub [2, 3, 1, 0] rfl ?_
    exact ih (x2 + 1) (x3 + 1) h
set_option maxRecDepth 20000 in
set_option maxHeartbeats 4000000 in
theorem c_X2_howMany {a : Nat → Nat} {q : Nat → ClassId} {j0 : Nat} {x1 : Int32} (hj0 : j0 < 6) {sz : Int32} {pr : Nat → Int32} {pm : Nat → Nat} {kv : Nat → Int32} {kn : Nat → Int32} {kr : Nat → Int32} {kt : Nat → Int32} {kb : Nat → Int32} {ks : Nat → Int32} {kj : Nat → Int32} {kw : Nat → Int32} {kg : Nat → Int32} {wd : Nat → Nat → Int64} {fw : Nat → Nat → Int32} {ad : Nat → Int32} {bk : Nat → Int32} {md : Int32} {cr : Int32} {ow : Int32} {hd : Int32} {K : Int32 → Prop} (h : wp_X2_howMany j0 x1 wd K) : ctI_0 q yX2_howMany cX2_howMany 4 1 21 [.ref (a (17 + j0)), .int x1] (cgW a q sz pr pm kv kn kr kt kb ks kj kw kg wd fw ad bk md cr ow hd) (cgW a q sz pr pm kv kn kr kt kb ks kj kw kg wd fw ad bk md cr ow hd) K := by
  refine met_I_0 (by decide) (Nat.le_of_ble_eq_true rfl) (fun Γ g hret => ?_)
  unfold wp_X2_howMany at h
  show jw Γ 4 0 0 (cgW a q sz pr pm kv kn kr kt kb ks kj kw kg wd fw ad bk md cr ow hd) [(0, .ref (a (17 + j0))), (1, .int x1)] [] 0
  refine j_iconst g (v := 0) (by decide) dX2_howMany_0 ?_
  refine j_istore_n g (lv' := [(2, .int (0 : Int32)), (0, .ref (a (17 + j0))), (1, .int x1)]) (by decide) rfl dX2_howMany_1 ?_
  refine j_iconst g (v := 1) (by decide) dX2_howMany_2 ?_
  refine j_istore_n g (lv' := [(3, .int (1 : Int32)), (2, .int (0 : Int32)), (0, .ref (a (17 + j0))), (1, .int x1)]) (by decide) rfl dX2_howMany_3 ?_
  obtain ⟨n1, h⟩ := h
  refine j_sub [2, 3, 1, 0] rfl ?_
  refine wk_X2_howMany_4 hj0 g hret (fun x2_1 h => ?_) n1 (0 : Int32) (1 : Int32) h
  refine j_iload_n g 0 rfl dX2_howMany_33 ?_
  exact hret.go dX2_howMany_34 h
