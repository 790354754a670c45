set_option maxRecDepth 20000 in
def wp_X4_addPart_3 (i0 : Nat) (x2 : Int32) (x3 : Int32)  (K : (Nat → Nat → Int32) → Prop) (X : (Nat → Nat → Int32) → Prop) : Nat → Int32 → (Nat → Nat → Int32) → Prop
  | 0, _, _ => False
  | n + 1, x4, fw => ((x4 < x2 → X fw) ∧ (¬ x4 < x2 → (vp_in (x4 - x2) 1000 ∧ (vp_in x4 1000 ∧ ((fw i0 x4.toNatClampNeg ≤ (fw i0 (x4 - x2).toNatClampNeg) + x3 → wp_X4_addPart_3 i0 x2 x3 K X n (x4 + (-1 : Int32)) fw) ∧ (¬ fw i0 x4.toNatClampNeg ≤ (fw i0 (x4 - x2).toNatClampNeg) + x3 → (vp_in x4 1000 ∧ wp_X4_addPart_3 i0 x2 x3 K X n (x4 + (-1 : Int32)) (va_up fw i0 (upd (fw i0) x4.toNatClampNeg ((fw i0 (x4 - x2).toNatClampNeg) + x3))))))))))
set_option maxRecDepth 20000 in
def wp_X4_addPart (r0 : Nat) (x1 : Int32) (x2 : Int32) (x3 : Int32) (fw : Nat → Nat → Int32) (K : (Nat → Nat → Int32) → Prop) : Prop :=
  ∃ n1 : Nat, wp_X4_addPart_3 r0 x2 x3 K (fun (fw_1 : Nat → Nat → Int32) => K fw_1) n1 x1 fw
theorem dX4_addPart_0 : decode cX4_addPart 0 = .ok (.iload_n 1, 1) := by decide +kernel
theorem dX4_addPart_1 : decode cX4_addPart 1 = .ok (.istore 4, 2) := by decide +kernel
theorem dX4_addPart_3 : decode cX4_addPart 3 = .ok (.iload 4, 2) := by decide +kernel
theorem dX4_addPart_5 : decode cX4_addPart 5 = .ok (.iload_n 2, 1) := by decide +kernel
theorem dX4_addPart_6 : decode cX4_addPart 6 = .ok (.if_icmp .lt 34, 3) := by decide +kernel
theorem dX4_addPart_9 : decode cX4_addPart 9 = .ok (.aload_n 0, 1) := by decide +kernel
theorem dX4_addPart_10 : decode cX4_addPart 10 = .ok (.iload 4, 2) := by decide +kernel
theorem dX4_addPart_12 : decode cX4_addPart 12 = .ok (.iload_n 2, 1) := by decide +kernel
theorem dX4_addPart_13 : decode cX4_addPart 13 = .ok (.isub, 1) := by decide +kernel
theorem dX4_addPart_14 : decode cX4_addPart 14 = .ok (.iaload, 1) := by decide +kernel
theorem dX4_addPart_15 : decode cX4_addPart 15 = .ok (.iload_n 3, 1) := by decide +kernel
theorem dX4_addPart_16 : decode cX4_addPart 16 = .ok (.iadd, 1) := by decide +kernel
theorem dX4_addPart_17 : decode cX4_addPart 17 = .ok (.istore 5, 2) := by decide +kernel
theorem dX4_addPart_19 : decode cX4_addPart 19 = .ok (.iload 5, 2) := by decide +kernel
theorem dX4_addPart_21 : decode cX4_addPart 21 = .ok (.aload_n 0, 1) := by decide +kernel
theorem dX4_addPart_22 : decode cX4_addPart 22 = .ok (.iload 4, 2) := by decide +kernel
theorem dX4_addPart_24 : decode cX4_addPart 24 = .ok (.iaload, 1) := by decide +kernel
theorem dX4_addPart_25 : decode cX4_addPart 25 = .ok (.if_icmp .ge 9, 3) := by decide +kernel
theorem dX4_addPart_28 : decode cX4_addPart 28 = .ok (.aload_n 0, 1) := by decide +kernel
theorem dX4_addPart_29 : decode cX4_addPart 29 = .ok (.iload 4, 2) := by decide +kernel
theorem dX4_addPart_31 : decode cX4_addPart 31 = .ok (.iload 5, 2) := by decide +kernel
theorem dX4_addPart_33 : decode cX4_addPart 33 = .ok (.iastore, 1) := by decide +kernel
theorem dX4_addPart_34 : decode cX4_addPart 34 = .ok (.iinc 4 (-1), 3) := by decide +kernel
theorem dX4_addPart_37 : decode cX4_addPart 37 = .ok (.goto (-34), 3) := by decide +kernel
theorem dX4_addPart_40 : decode cX4_addPart 40 = .ok (.return_, 1) := by decide +kernel
set_option maxRecDepth 20000 in
set_option maxHeartbeats 4000000 in
theorem wk_X4_addPart_3 {Γ : GT} {a : Nat → Nat} {q : Nat → ClassId} {i0 : Nat} {x2 : Int32} {x3 : Int32} (hi0 : i0 < 6) {sz : Int32} {pr : Nat → Int32} {pm : Nat → Nat} {kv : Nat → Int32} {kn : Nat → Int32} {kr : Nat → Int32} {kt : Nat → Int32} {kb : Nat → Int32} {ks : Nat → Int32} {kj : Nat → Int32} {kw : Nat → Int32} {kg : Nat → Int32} {wd : Nat → Nat → Int64} {ad : Nat → Int32} {bk : Nat → Int32} {md : Int32} {cr : Int32} {ow : Int32} {hd : Int32} {K : (Nat → Nat → Int32) → Prop} {X : (Nat → Nat → Int32) → Prop} (g : gd Γ cX4_addPart RX4 6 (rmz 0 0) q) (hret : rtV_1 Γ cX4_addPart 6 (fun (fw : Nat → Nat → Int32) => (cgW a q sz pr pm kv kn kr kt kb ks kj kw kg wd fw ad bk md cr ow hd)) K) (hX : ∀ (fw : Nat → Nat → Int32) , X fw → jw Γ 6 0 0 (cgW a q sz pr pm kv kn kr kt kb ks kj kw kg wd fw ad bk md cr ow hd) [] [] 40) :
    ∀ (n : Nat) (x4 : Int32) (fw : Nat → Nat → Int32) , wp_X4_addPart_3 i0 x2 x3 K X n x4 fw → jw Γ 6 0 0 (cgW a q sz pr pm kv kn kr kt kb ks kj kw kg wd fw ad bk md cr ow hd) [(0, .ref (a (29 + i0))), (2, .int x2), (3, .int x3), (4, .int x4)] [] 3 := by
  intro n
  induction n with
  | zero =>
    intro _ _ h
    exact False.elim h
  | succ n ih =>
    intro x4 fw h
    unfold wp_X4_addPart_3 at h
    refine j_iload g 3 rfl dX4_addPart_3 ?_
    refine j_iload_n g 1 rfl dX4_addPart_5 ?_
    refine j_icmp_lt g dX4_addPart_6 (tgt := 40) (by decide) (fun c1 => ?_) (fun c1 => ?_)
    · replace h := h.1 c1
      refine j_sub [] rfl ?_
      exact hX fw h
    replace h := h.2 c1
    refine j_aload_n g 0 rfl dX4_addPart_9 ?_
    refine j_iload g 3 rfl dX4_addPart_10 ?_
    refine j_iload_n g 1 rfl dX4_addPart_12 ?_
    refine j_isub g dX4_addPart_13 ?_
    obtain ⟨hv2, h⟩ := h
    refine j_iald g (29 + i0) (cg_r hi0) hv2 dX4_addPart_14 ?_
    refine j_iload_n g 2 rfl dX4_addPart_15 ?_
    refine j_iadd g dX4_addPart_16 ?_
    refine j_istore g (lv' := [(5, .int ((fw i0 (x4 - x2).toNatClampNeg) + x3)), (0, .ref (a (29 + i0))), (2, .int x2), (3, .int x3), (4, .int x4)]) (by decide) rfl dX4_addPart_17 ?_
    refine j_iload g 0 rfl dX4_addPart_19 ?_
    refine j_aload_n g 1 rfl dX4_addPart_21 ?_
    refine j_iload g 4 rfl dX4_addPart_22 ?_
    obtain ⟨hv3, h⟩ := h
    refine j_iald g (29 + i0) (cg_r hi0) hv3 dX4_addPart_24 ?_
    refine j_icmp_ge g dX4_addPart_25 (tgt := 34) (by decide) (fun c4 => ?_) (fun c4 => ?_)
    · replace h := h.1 c4
      refine j_iinc g 4 (n := -1) (v := x4 + (-1 : Int32)) (lv' := [(4, .int (x4 + (-1 : Int32))), (5, .int ((fw i0 (x4 - x2).toNatClampNeg) + x3)), (0, .ref (a (29 + i0))), (2, .int x2), (3, .int x3)]) rfl rfl (by decide) rfl dX4_addPart_34 ?_
      refine j_goto g dX4_addPart_37 (tgt := 3) (by decide) ?_
      refine j_sub [2, 3, 4, 0] rfl ?_
      exact ih (x4 + (-1 : Int32)) fw h
    replace h := h.2 c4
    refine j_aload_n g 1 rfl dX4_addPart_28 ?_
    refine j_iload g 4 rfl dX4_addPart_29 ?_
    refine j_iload g 0 rfl dX4_addPart_31 ?_
    obtain ⟨hv5, h⟩ := h
    refine j_iast g (29 + i0) (cg_r hi0) hv5 (ws' := (cgW a q sz pr pm kv kn kr kt kb ks kj kw kg wd (va_up fw i0 (upd (fw i0) x4.toNatClampNeg ((fw i0 (x4 - x2).toNatClampNeg) + x3))) ad bk md cr ow hd)) (cg_s_r hi0) dX4_addPart_33 ?_
    refine j_iinc g 4 (n := -1) (v := x4 + (-1 : Int32)) (lv' := [(4, .int (x4 + (-1 : Int32))), (5, .int ((fw i0 (x4 - x2).toNatClampNeg) + x3)), (0, .ref (a (29 + i0))), (2, .int x2), (3, .int x3)]) rfl rfl (by decide) rfl dX4_addPart_34 ?_
    refine j_goto g dX4_addPart_37 (tgt := 3) (by decide) ?_
    refine j_sub [2, 3, 4, 0] rfl ?_
    exact ih (x4 + (-1 : Int32)) (va_up fw i0 (upd (fw i0) x4.toNatClampNeg ((fw i0 (x4 - x2).toNatClampNeg) + x3))) h
set_option maxRecDepth 20000 in
set_option maxHeartbeats 4000000 in
theorem c_X4_addPart {a : Nat → Nat} {q : Nat → ClassId} {r0 : Nat} {x1 : Int32} {x2 : Int32} {x3 : Int32} (hr0 : r0 < 6) {sz : Int32} {pr : Nat → Int32} {pm : Nat → Nat} {kv : Nat → Int32} {kn : Nat → Int32} {kr : Nat → Int32} {kt : Nat → Int32} {kb : Nat → Int32} {ks : Nat → Int32} {kj : Nat → Int32} {kw : Nat → Int32} {kg : Nat → Int32} {wd : Nat → Nat → Int64} {fw : Nat → Nat → Int32} {ad : Nat → Int32} {bk : Nat → Int32} {md : Int32} {cr : Int32} {ow : Int32} {hd : Int32} {K : (Nat → Nat → Int32) → Prop} (h : wp_X4_addPart r0 x1 x2 x3 fw K) : ctV_1 q yX4_addPart cX4_addPart 6 0 0 [.ref (a (29 + r0)), .int x1, .int x2, .int x3] (cgW a q sz pr pm kv kn kr kt kb ks kj kw kg wd fw ad bk md cr ow hd) (fun (fw : Nat → Nat → Int32) => (cgW a q sz pr pm kv kn kr kt kb ks kj kw kg wd fw ad bk md cr ow hd)) K := by
  refine met_V_1 (by decide) (Nat.le_of_ble_eq_true rfl) (fun Γ g hret => ?_)
  unfold wp_X4_addPart at h
  show jw Γ 6 0 0 (cgW a q sz pr pm kv kn kr kt kb ks kj kw kg wd fw ad bk md cr ow hd) [(0, .ref (a (29 + r0))), (1, .int x1), (2, .int x2), (3, .int x3)] [] 0
  refine j_iload_n g 1 rfl dX4_addPart_0 ?_
  refine j_istore g (lv' := [(4, .int x1), (0, .ref (a (29 + r0))), (1, .int x1), (2, .int x2), (3, .int x3)]) (by decide) rfl dX4_addPart_1 ?_
  obtain ⟨n1, h⟩ := h
  refine j_sub [1, 3, 4, 0] rfl ?_
  refine wk_X4_addPart_3 hr0 g hret (fun fw_1 h => ?_) n1 x1 fw h
  exact hret.go dX4_addPart_40 h

set_option maxRecDepth 20000 in
def wp_X4_addCoins_6 (i0 : Nat) (x1 : Int32) (x2 : Int32)  (K : (Nat → Nat → Int32) → Prop) (X : (Nat → Nat → Int32) → Prop) : Nat → Int32 → Int32 → (Nat → Nat → Int32) → Prop
  | 0, _, _, _ => False
  | n + 1, x4, x5, fw => (((20 : Int32) < x5 → X fw) ∧ (¬ (20 : Int32) < x5 → ((x4 ≤ 0 → X fw) ∧ (¬ x4 ≤ 0 → wp_X4_addPart i0 x1 ((if x4 < x5 then x4 else x5) * x2) (if x4 < x5 then x4 else x5) fw (fun (fw_3 : Nat → Nat → Int32) => wp_X4_addCoins_6 i0 x1 x2 K X n (x4 - (if x4 < x5 then x4 else x5)) (x5 * (2 : Int32)) fw_3)))))
set_option maxRecDepth 20000 in
def wp_X4_addCoins (r0 : Nat) (x1 : Int32) (x2 : Int32) (x3 : Int32) (fw : Nat → Nat → Int32) (K : (Nat → Nat → Int32) → Prop) : Prop :=
  ∃ n1 : Nat, wp_X4_addCoins_6 r0 x1 x2 K (fun (fw_1 : Nat → Nat → Int32) => K fw_1) n1 x3 (1 : Int32) fw
theorem dX4_addCoins_0 : decode cX4_addCoins 0 = .ok (.iload_n 3, 1) := by decide +kernel
theorem dX4_addCoins_1 : decode cX4_addCoins 1 = .ok (.istore 4, 2) := by decide +kernel
theorem dX4_addCoins_3 : decode cX4_addCoins 3 = .ok (.iconst 1, 1) := by decide +kernel
theorem dX4_addCoins_4 : decode cX4_addCoins 4 = .ok (.istore 5, 2) := by decide +kernel
theorem dX4_addCoins_6 : decode cX4_addCoins 6 = .ok (.iload 5, 2) := by decide +kernel
theorem dX4_addCoins_8 : decode cX4_addCoins 8 = .ok (.bipush 20, 2) := by decide +kernel
theorem dX4_addCoins_10 : decode cX4_addCoins 10 = .ok (.if_icmp .gt 44, 3) := by decide +kernel
theorem dX4_addCoins_13 : decode cX4_addCoins 13 = .ok (.iload 4, 2) := by decide +kernel
theorem dX4_addCoins_15 : decode cX4_addCoins 15 = .ok (.ifCond .le 39, 3) := by decide +kernel
theorem dX4_addCoins_18 : decode cX4_addCoins 18 = .ok (.iload 5, 2) := by decide +kernel
theorem dX4_addCoins_20 : decode cX4_addCoins 20 = .ok (.iload 4, 2) := by decide +kernel
theorem dX4_addCoins_22 : decode cX4_addCoins 22 = .ok (.invokestatic 58, 3) := by decide +kernel
theorem dX4_addCoins_25 : decode cX4_addCoins 25 = .ok (.istore 6, 2) := by decide +kernel
theorem dX4_addCoins_27 : decode cX4_addCoins 27 = .ok (.aload_n 0, 1) := by decide +kernel
theorem dX4_addCoins_28 : decode cX4_addCoins 28 = .ok (.iload_n 1, 1) := by decide +kernel
theorem dX4_addCoins_29 : decode cX4_addCoins 29 = .ok (.iload 6, 2) := by decide +kernel
theorem dX4_addCoins_31 : decode cX4_addCoins 31 = .ok (.iload_n 2, 1) := by decide +kernel
theorem dX4_addCoins_32 : decode cX4_addCoins 32 = .ok (.imul, 1) := by decide +kernel
theorem dX4_addCoins_33 : decode cX4_addCoins 33 = .ok (.iload 6, 2) := by decide +kernel
theorem dX4_addCoins_35 : decode cX4_addCoins 35 = .ok (.invokestatic 64, 3) := by decide +kernel
theorem dX4_addCoins_38 : decode cX4_addCoins 38 = .ok (.iload 4, 2) := by decide +kernel
theorem dX4_addCoins_40 : decode cX4_addCoins 40 = .ok (.iload 6, 2) := by decide +kernel
theorem dX4_addCoins_42 : decode cX4_addCoins 42 = .ok (.isub, 1) := by decide +kernel
theorem dX4_addCoins_43 : decode cX4_addCoins 43 = .ok (.istore 4, 2) := by decide +kernel
theorem dX4_addCoins_45 : decode cX4_addCoins 45 = .ok (.iload 5, 2) := by decide +kernel
theorem dX4_addCoins_47 : decode cX4_addCoins 47 = .ok (.iconst 2, 1) := by decide +kernel
theorem dX4_addCoins_48 : decode cX4_addCoins 48 = .ok (.imul, 1) := by decide +kernel
theorem dX4_addCoins_49 : decode cX4_addCoins 49 = .ok (.istore 5, 2) := by decide +kernel
theorem dX4_addCoins_51 : decode cX4_addCoins 51 = .ok (.goto (-45), 3) := by decide +kernel
theorem dX4_addCoins_54 : decode cX4_addCoins 54 = .ok (.return_, 1) := by decide +kernel
set_option maxRecDepth 20000 in
set_option maxHeartbeats 4000000 in
theorem wk_X4_addCoins_6 {Γ : GT} {a : Nat → Nat} {q : Nat → ClassId} {i0 : Nat} {x1 : Int32} {x2 : Int32} (hi0 : i0 < 6) {sz : Int32} {pr : Nat → Int32} {pm : Nat → Nat} {kv : Nat → Int32} {kn : Nat → Int32} {kr : Nat → Int32} {kt : Nat → Int32} {kb : Nat → Int32} {ks : Nat → Int32} {kj : Nat → Int32} {kw : Nat → Int32} {kg : Nat → Int32} {wd : Nat → Nat → Int64} {ad : Nat → Int32} {bk : Nat → Int32} {md : Int32} {cr : Int32} {ow : Int32} {hd : Int32} {K : (Nat → Nat → Int32) → Prop} {X : (Nat → Nat → Int32) → Prop} (g : gd Γ cX4_addCoins RX4 7 (rmz 1 25) q) (hret : rtV_1 Γ cX4_addCoins 7 (fun (fw : Nat → Nat → Int32) => (cgW a q sz pr pm kv kn kr kt kb ks kj kw kg wd fw ad bk md cr ow hd)) K) (hX : ∀ (fw : Nat → Nat → Int32) , X fw → jw Γ 7 0 0 (cgW a q sz pr pm kv kn kr kt kb ks kj kw kg wd fw ad bk md cr ow hd) [] [] 54) :
    ∀ (n : Nat) (x4 : Int32) (x5 : Int32) (fw : Nat → Nat → Int32) , wp_X4_addCoins_6 i0 x1 x2 K X n x4 x5 fw → jw Γ 7 0 0 (cgW a q sz pr pm kv kn kr kt kb ks kj kw kg wd fw ad bk md cr ow hd) [(0, .ref (a (29 + i0))), (1, .int x1), (2, .int x2), (4, .int x4), (5, .int x5)] [] 6 := by
  intro n
  induction n with
  | zero =>
    intro _ _ _ h
    exact False.elim h
  | succ n ih =>
    intro x4 x5 fw h
    unfold wp_X4_addCoins_6 at h
    refine j_iload g 4 rfl dX4_addCoins_6 ?_
    refine j_bipush g (v := 20) (by decide) dX4_addCoins_8 ?_
    refine j_icmp_gt g dX4_addCoins_10 (tgt := 54) (by decide) (fun c1 => ?_) (fun c1 => ?_)
    · replace h := h.1 c1
      refine j_sub [] rfl ?_
      exact hX fw h
    replace h := h.2 c1
    refine j_iload g 3 rfl dX4_addCoins_13 ?_
    refine j_if_le g dX4_addCoins_15 (tgt := 54) (by decide) (fun c2 => ?_) (fun c2 => ?_)
    · replace h := h.1 c2
      refine j_sub [] rfl ?_
      exact hX fw h
    replace h := h.2 c2
    refine j_iload g 4 rfl dX4_addCoins_18 ?_
    refine j_iload g 3 rfl dX4_addCoins_20 ?_
    refine j_mmin g lm_X4_58 lm_min_s lm_i lm_min_c (Nat.le_of_ble_eq_true rfl) (Nat.le_of_ble_eq_true rfl) (Nat.zero_le _) (Nat.zero_le _) dX4_addCoins_22 ?_
    refine j_istore g (lv' := [(6, .int (if x4 < x5 then x4 else x5)), (0, .ref (a (29 + i0))), (1, .int x1), (2, .int x2), (4, .int x4), (5, .int x5)]) (by decide) rfl dX4_addCoins_25 ?_
    refine j_aload_n g 1 rfl dX4_addCoins_27 ?_
    refine j_iload_n g 2 rfl dX4_addCoins_28 ?_
    refine j_iload g 0 rfl dX4_addCoins_29 ?_
    refine j_iload_n g 3 rfl dX4_addCoins_31 ?_
    refine j_imul g dX4_addCoins_32 ?_
    refine j_iload g 0 rfl dX4_addCoins_33 ?_
    refine j_callSV_1 g (As := [.ref (a (29 + i0)), .int x1, .int ((if x4 < x5 then x4 else x5) * x2), .int (if x4 < x5 then x4 else x5)]) (st := []) (c_X4_addPart hi0 h) cl_X4_64 (Nat.le_of_ble_eq_true rfl) (Nat.le_of_ble_eq_true rfl) (Nat.zero_le _) (Nat.zero_le _) rfl rfl (Nat.le_of_ble_eq_true rfl) dX4_addCoins_35 (fun fw_3 h => ?_)
    refine j_ws (ws' := (cgW a q sz pr pm kv kn kr kt kb ks kj kw kg wd fw_3 ad bk md cr ow hd)) rfl ?_
    refine j_iload g 4 rfl dX4_addCoins_38 ?_
    refine j_iload g 0 rfl dX4_addCoins_40 ?_
    refine j_isub g dX4_addCoins_42 ?_
    refine j_istore g (lv' := [(4, .int (x4 - (if x4 < x5 then x4 else x5))), (6, .int (if x4 < x5 then x4 else x5)), (0, .ref (a (29 + i0))), (1, .int x1), (2, .int x2), (5, .int x5)]) (by decide) rfl dX4_addCoins_43 ?_
    refine j_iload g 5 rfl dX4_addCoins_45 ?_
    refine j_iconst g (v := 2) (by decide) dX4_addCoins_47 ?_
    refine j_imul g dX4_addCoins_48 ?_
    refine j_istore g (lv' := [(5, .int (x5 * (2 : Int32))), (4, .int (x4 - (if x4 < x5 then x4 else x5))), (6, .int (if x4 < x5 then x4 else x5)), (0, .ref (a (29 + i0))), (1, .int x1), (2, .int x2)]) (by decide) rfl dX4_addCoins_49 ?_
    refine j_goto g dX4_addCoins_51 (tgt := 6) (by decide) ?_
    refine j_sub [3, 4, 5, 1, 0] rfl ?_
    exact ih (x4 - (if x4 < x5 then x4 else x5)) (x5 * (2 : Int32)) fw_3 h
set_option maxRecDepth 20000 in
set_option maxHeartbeats 4000000 in
theorem c_X4_addCoins {a : Nat → Nat} {q : Nat → ClassId} {r0 : Nat} {x1 : Int32} {x2 : Int32} {x3 : Int32} (hr0 : r0 < 6) {sz : Int32} {pr : Nat → Int32} {pm : Nat → Nat} {kv : Nat → Int32} {kn : Nat → Int32} {kr : Nat → Int32} {kt : Nat → Int32} {kb : Nat → Int32} {ks : Nat → Int32} {kj : Nat → Int32} {kw : Nat → Int32} {kg : Nat → Int32} {wd : Nat → Nat → Int64} {fw : Nat → Nat → Int32} {ad : Nat → Int32} {bk : Nat → Int32} {md : Int32} {cr : Int32} {ow : Int32} {hd : Int32} {K : (Nat → Nat → Int32) → Prop} (h : wp_X4_addCoins r0 x1 x2 x3 fw K) : ctV_1 q yX4_addCoins cX4_addCoins 7 1 25 [.ref (a (29 + r0)), .int x1, .int x2, .int x3] (cgW a q sz pr pm kv kn kr kt kb ks kj kw kg wd fw ad bk md cr ow hd) (fun (fw : Nat → Nat → Int32) => (cgW a q sz pr pm kv kn kr kt kb ks kj kw kg wd fw ad bk md cr ow hd)) K := by
  refine met_V_1 (by decide) (Nat.le_of_ble_eq_true rfl) (fun Γ g hret => ?_)
  unfold wp_X4_addCoins at h
  show jw Γ 7 0 0 (cgW a q sz pr pm kv kn kr kt kb ks kj kw kg wd fw ad bk md cr ow hd) [(0, .ref (a (29 + r0))), (1, .int x1), (2, .int x2), (3, .int x3)] [] 0
  refine j_iload_n g 3 rfl dX4_addCoins_0 ?_
  refine j_istore g (lv' := [(4, .int x3), (0, .ref (a (29 + r0))), (1, .int x1), (2, .int x2), (3, .int x3)]) (by decide) rfl dX4_addCoins_1 ?_
  refine j_iconst g (v := 1) (by decide) dX4_addCoins_3 ?_
  refine j_istore g (lv' := [(5, .int (1 : Int32)), (4, .int x3), (0, .ref (a (29 + r0))), (1, .int x1), (2, .int x2), (3, .int x3)]) (by decide) rfl dX4_addCoins_4 ?_
  obtain ⟨n1, h⟩ := h
  refine j_sub [2, 3, 4, 1, 0] rfl ?_
  refine wk_X4_addCoins_6 hr0 g hret (fun fw_1 h => ?_) n1 x3 (1 : Int32) fw h
  exact hret.go dX4_addCoins_54 h

set_option maxRecDepth 20000 in
def wp_X4_mostOfFewest_11 (i0 : Nat) (x1 : Int32) (x2 : Int32) (x3 : Int32) (fw : Nat → Nat → Int32) (K : Int32 → Prop) (X : Int32 → Prop) : Nat → Int32 → Int32 → Int32 → Prop
  | 0, _, _, _ => False
  | n + 1, x4, x5, x6 => ((x3 < x6 → X x5) ∧ (¬ x3 < x6 → ((x1 < x6 * x2 → X x5) ∧ (¬ x1 < x6 * x2 → (vp_in (x1 - (x6 * x2)) 1000 ∧ ((x4 < (fw i0 (x1 - (x6 * x2)).toNatClampNeg) + x6 → wp_X4_mostOfFewest_11 i0 x1 x2 x3 fw K X n x4 x5 (x6 + 1)) ∧ (¬ x4 < (fw i0 (x1 - (x6 * x2)).toNatClampNeg) + x6 → wp_X4_mostOfFewest_11 i0 x1 x2 x3 fw K X n ((fw i0 (x1 - (x6 * x2)).toNatClampNeg) + x6) x6 (x6 + 1))))))))
set_option maxRecDepth 20000 in
def wp_X4_mostOfFewest (r0 : Nat) (x1 : Int32) (x2 : Int32) (x3 : Int32) (fw : Nat → Nat → Int32) (K : Int32 → Prop) : Prop :=
  ∃ n1 : Nat, wp_X4_mostOfFewest_11 r0 x1 x2 x3 fw K (fun (x5_1 : Int32) => K x5_1) n1 (999 : Int32) (0 : Int32) (0 : Int32)
theorem dX4_mostOfFewest_0 : decode cX4_mostOfFewest 0 = .ok (.sipush 999, 3) := by decide +kernel
theorem dX4_mostOfFewest_3 : decode cX4_mostOfFewest 3 = .ok (.istore 4, 2) := by decide +kernel
theorem dX4_mostOfFewest_5 : decode cX4_mostOfFewest 5 = .ok (.iconst 0, 1) := by decide +kernel
theorem dX4_mostOfFewest_6 : decode cX4_mostOfFewest 6 = .ok (.istore 5, 2) := by decide +kernel
theorem dX4_mostOfFewest_8 : decode cX4_mostOfFewest 8 = .ok (.iconst 0, 1) := by decide +kernel
theorem dX4_mostOfFewest_9 : decode cX4_mostOfFewest 9 = .ok (.istore 6, 2) := by decide +kernel
theorem dX4_mostOfFewest_11 : decode cX4_mostOfFewest 11 = .ok (.iload 6, 2) := by decide +kernel
theorem dX4_mostOfFewest_13 : decode cX4_mostOfFewest 13 = .ok (.iload_n 3, 1) := by decide +kernel
theorem dX4_mostOfFewest_14 : decode cX4_mostOfFewest 14 = .ok (.if_icmp .gt 45, 3) := by decide +kernel
theorem dX4_mostOfFewest_17 : decode cX4_mostOfFewest 17 = .ok (.iload 6, 2) := by decide +kernel
theorem dX4_mostOfFewest_19 : decode cX4_mostOfFewest 19 = .ok (.iload_n 2, 1) := by decide +kernel
theorem dX4_mostOfFewest_20 : decode cX4_mostOfFewest 20 = .ok (.imul, 1) := by decide +kernel
theorem dX4_mostOfFewest_21 : decode cX4_mostOfFewest 21 = .ok (.iload_n 1, 1) := by decide +kernel
theorem dX4_mostOfFewest_22 : decode cX4_mostOfFewest 22 = .ok (.if_icmp .gt 37, 3) := by decide +kernel
theorem dX4_mostOfFewest_25 : decode cX4_mostOfFewest 25 = .ok (.aload_n 0, 1) := by decide +kernel
theorem dX4_mostOfFewest_26 : decode cX4_mostOfFewest 26 = .ok (.iload_n 1, 1) := by decide +kernel
theorem dX4_mostOfFewest_27 : decode cX4_mostOfFewest 27 = .ok (.iload 6, 2) := by decide +kernel
theorem dX4_mostOfFewest_29 : decode cX4_mostOfFewest 29 = .ok (.iload_n 2, 1) := by decide +kernel
theorem dX4_mostOfFewest_30 : decode cX4_mostOfFewest 30 = .ok (.imul, 1) := by decide +kernel
theorem dX4_mostOfFewest_31 : decode cX4_mostOfFewest 31 = .ok (.isub, 1) := by decide +kernel
theorem dX4_mostOfFewest_32 : decode cX4_mostOfFewest 32 = .ok (.iaload, 1) := by decide +kernel
theorem dX4_mostOfFewest_33 : decode cX4_mostOfFewest 33 = .ok (.iload 6, 2) := by decide +kernel
theorem dX4_mostOfFewest_35 : decode cX4_mostOfFewest 35 = .ok (.iadd, 1) := by decide +kernel
theorem dX4_mostOfFewest_36 : decode cX4_mostOfFewest 36 = .ok (.istore 7, 2) := by decide +kernel
theorem dX4_mostOfFewest_38 : decode cX4_mostOfFewest 38 = .ok (.iload 7, 2) := by decide +kernel
theorem dX4_mostOfFewest_40 : decode cX4_mostOfFewest 40 = .ok (.iload 4, 2) := by decide +kernel
theorem dX4_mostOfFewest_42 : decode cX4_mostOfFewest 42 = .ok (.if_icmp .gt 11, 3) := by decide +kernel
theorem dX4_mostOfFewest_45 : decode cX4_mostOfFewest 45 = .ok (.iload 7, 2) := by decide +kernel
theorem dX4_mostOfFewest_47 : decode cX4_mostOfFewest 47 = .ok (.istore 4, 2) := by decide +kernel
theorem dX4_mostOfFewest_49 : decode cX4_mostOfFewest 49 = .ok (.iload 6, 2) := by decide +kernel
theorem dX4_mostOfFewest_51 : decode cX4_mostOfFewest 51 = .ok (.istore 5, 2) := by decide +kernel
theorem dX4_mostOfFewest_53 : decode cX4_mostOfFewest 53 = .ok (.iinc 6 1, 3) := by decide +kernel
theorem dX4_mostOfFewest_56 : decode cX4_mostOfFewest 56 = .ok (.goto (-45), 3) := by decide +kernel
theorem dX4_mostOfFewest_59 : decode cX4_mostOfFewest 59 = .ok (.iload 5, 2) := by decide +kernel
theorem dX4_mostOfFewest_61 : decode cX4_mostOfFewest 61 = .ok (.ireturn, 1) := by decide +kernel
set_option maxRecDepth 20000 in
set_option maxHeartbeats 4000000 in
theorem wk_X4_mostOfFewest_11 {Γ : GT} {a : Nat → Nat} {q : Nat → ClassId} {i0 : Nat} {x1 : Int32} {x2 : Int32} {x3 : Int32} (hi0 : i0 < 6) {sz : Int32} {pr : Nat → Int32} {pm : Nat → Nat} {kv : Nat → Int32} {kn : Nat → Int32} {kr : Nat → Int32} {kt : Nat → Int32} {kb : Nat → Int32} {ks : Nat → Int32} {kj : Nat → Int32} {kw : Nat → Int32} {kg : Nat → Int32} {wd : Nat → Nat → Int64} {fw : Nat → Nat → Int32} {ad : Nat → Int32} {bk : Nat → Int32} {md : Int32} {cr : Int32} {ow : Int32} {hd : Int32} {K : Int32 → Prop} {X : Int32 → Prop} (g : gd Γ cX4_mostOfFewest RX4 8 (rmz 0 0) q) (hret : rtI_0 Γ cX4_mostOfFewest 8 (cgW a q sz pr pm kv kn kr kt kb ks kj kw kg wd fw ad bk md cr ow hd) K) (hX : ∀ (x5 : Int32) , X x5 → jw Γ 8 0 0 (cgW a q sz pr pm kv kn kr kt kb ks kj kw kg wd fw ad bk md cr ow hd) [(5, .int x5)] [] 59) :
    ∀ (n : Nat) (x4 : Int32) (x5 : Int32) (x6 : Int32) , wp_X4_mostOfFewest_11 i0 x1 x2 x3 fw K X n x4 x5 x6 → jw Γ 8 0 0 (cgW a q sz pr pm kv kn kr kt kb ks kj kw kg wd fw ad bk md cr ow hd) [(0, .ref (a (29 + i0))), (1, .int x1), (2, .int x2), (3, .int x3), (4, .int x4), (5, .int x5), (6, .int x6)] [] 11 := by
  intro n
  induction n with
  | zero =>
    intro _ _ _ h
    exact False.elim h
  | succ n ih =>
    intro x4 x5 x6 h
    unfold wp_X4_mostOfFewest_11 at h
    refine j_iload g 6 rfl dX4_mostOfFewest_11 ?_
    refine j_iload_n g 3 rfl dX4_mostOfFewest_13 ?_
    refine j_icmp_gt g dX4_mostOfFewest_14 (tgt := 59) (by decide) (fun c1 => ?_) (fun c1 => ?_)
    · replace h := h.1 c1
      refine j_sub [5] rfl ?_
      exact hX x5 h
    replace h := h.2 c1
    refine j_iload g 6 rfl dX4_mostOfFewest_17 ?_
    refine j_iload_n g 2 rfl dX4_mostOfFewest_19 ?_
    refine j_imul g dX4_mostOfFewest_20 ?_
    refine j_iload_n g 1 rfl dX4_mostOfFewest_21 ?_
    refine j_icmp_gt g dX4_mostOfFewest_22 (tgt := 59) (by decide) (fun c2 => ?_) (fun c2 => ?_)
    · replace h := h.1 c2
      refine j_sub [5] rfl ?_
      exact hX x5 h
    replace h := h.2 c2
    refine j_aload_n g 0 rfl dX4_mostOfFewest_25 ?_
    refine j_iload_n g 1 rfl dX4_mostOfFewest_26 ?_
    refine j_iload g 6 rfl dX4_mostOfFewest_27 ?_
    refine j_iload_n g 2 rfl dX4_mostOfFewest_29 ?_
    refine j_imul g dX4_mostOfFewest_30 ?_
    refine j_isub g dX4_mostOfFewest_31 ?_
    obtain ⟨hv3, h⟩ := h
    refine j_iald g (29 + i0) (cg_r hi0) hv3 dX4_mostOfFewest_32 ?_
    refine j_iload g 6 rfl dX4_mostOfFewest_33 ?_
    refine j_iadd g dX4_mostOfFewest_35 ?_
    refine j_istore g (lv' := [(7, .int ((fw i0 (x1 - (x6 * x2)).toNatClampNeg) + x6)), (0, .ref (a (29 + i0))), (1, .int x1), (2, .int x2), (3, .int x3), (4, .int x4), (5, .int x5), (6, .int x6)]) (by decide) rfl dX4_mostOfFewest_36 ?_
    refine j_iload g 0 rfl dX4_mostOfFewest_38 ?_
    refine j_iload g 5 rfl dX4_mostOfFewest_40 ?_
    refine j_icmp_gt g dX4_mostOfFewest_42 (tgt := 53) (by decide) (fun c4 => ?_) (fun c4 => ?_)
    · replace h := h.1 c4
      refine j_iinc g 7 (n := 1) (v := x6 + 1) (lv' := [(6, .int (x6 + 1)), (7, .int ((fw i0 (x1 - (x6 * x2)).toNatClampNeg) + x6)), (0, .ref (a (29 + i0))), (1, .int x1), (2, .int x2), (3, .int x3), (4, .int x4), (5, .int x5)]) rfl rfl (by decide) rfl dX4_mostOfFewest_53 ?_
      refine j_goto g dX4_mostOfFewest_56 (tgt := 11) (by decide) ?_
      refine j_sub [2, 3, 4, 5, 6, 7, 0] rfl ?_
      exact ih x4 x5 (x6 + 1) h
    replace h := h.2 c4
    refine j_iload g 0 rfl dX4_mostOfFewest_45 ?_
    refine j_istore g (lv' := [(4, .int ((fw i0 (x1 - (x6 * x2)).toNatClampNeg) + x6)), (7, .int ((fw i0 (x1 - (x6 * x2)).toNatClampNeg) + x6)), (0, .ref (a (29 + i0))), (1, .int x1), (2, .int x2), (3, .int x3), (5, .int x5), (6, .int x6)]) (by decide) rfl dX4_mostOfFewest_47 ?_
    refine j_iload g 7 rfl dX4_mostOfFewest_49 ?_
    refine j_istore g (lv' := [(5, .int x6), (4, .int ((fw i0 (x1 - (x6 * x2)).toNatClampNeg) + x6)), (7, .int ((fw i0 (x1 - (x6 * x2)).toNatClampNeg) + x6)), (0, .ref (a (29 + i0))), (1, .int x1), (2, .int x2), (3, .int x3), (6, .int x6)]) (by decide) rfl dX4_mostOfFewest_51 ?_
    refine j_iinc g 7 (n := 1) (v := x6 + 1) (lv' := [(6, .int (x6 + 1)), (5, .int x6), (4, .int ((fw i0 (x1 - (x6 * x2)).toNatClampNeg) + x6)), (7, .int ((fw i0 (x1 - (x6 * x2)).toNatClampNeg) + x6)), (0, .ref (a (29 + i0))), (1, .int x1), (2, .int x2), (3, .int x3)]) rfl rfl (by decide) rfl dX4_mostOfFewest_53 ?_
    refine j_goto g dX4_mostOfFewest_56 (tgt := 11) (by decide) ?_
    refine j_sub [4, 5, 6, 7, 2, 1, 0] rfl ?_
    exact ih ((fw i0 (x1 - (x6 * x2)).toNatClampNeg) + x6) x6 (x6 + 1) h
set_option maxRecDepth 20000 in
set_option maxHeartbeats 4000000 in
theorem c_X4_mostOfFewest {a : Nat → Nat} {q : Nat → ClassId} {r0 : Nat} {x1 : Int32} {x2 : Int32} {x3 : Int32} (hr0 : r0 < 6) {sz : Int32} {pr : Nat → Int32} {pm : Nat → Nat} {kv : Nat → Int32} {kn : Nat → Int32} {kr : Nat → Int32} {kt : Nat → Int32} {kb : Nat → Int32} {ks : Nat → Int32} {kj : Nat → Int32} {kw : Nat → Int32} {kg : Nat → Int32} {wd : Nat → Nat → Int64} {fw : Nat → Nat → Int32} {ad : Nat → Int32} {bk : Nat → Int32} {md : Int32} {cr : Int32} {ow : Int32} {hd : Int32} {K : Int32 → Prop} (h : wp_X4_mostOfFewest r0 x1 x2 x3 fw K) : ctI_0 q yX4_mostOfFewest cX4_mostOfFewest 8 0 0 [.ref (a (29 + r0)), .int x1, .int x2, .int x3] (cgW a q sz pr pm kv kn kr kt kb ks kj kw kg wd fw ad bk md cr ow hd) (cgW a q sz pr pm kv kn kr kt kb ks kj kw kg wd fw ad bk md cr ow hd) K := by
  refine met_I_0 (by decide) (Nat.le_of_ble_eq_true rfl) (fun Γ g hret => ?_)
  unfold wp_X4_mostOfFewest at h
  show jw Γ 8 0 0 (cgW a q sz pr pm kv kn kr kt kb ks kj kw kg wd fw ad bk md cr ow hd) [(0, .ref (a (29 + r0))), (1, .int x1), (2, .int x2), (3, .int x3)] [] 0
  refine j_sipush g (v := 999) (by decide) dX4_mostOfFewest_0 ?_
  refine j_istore g (lv' := [(4, .int (999 : Int32)), (0, .ref (a (29 + r0))), (1, .int x1), (2, .int x2), (3, .int x3)]) (by decide) rfl dX4_mostOfFewest_3 ?_
  refine j_iconst g (v := 0) (by decide) dX4_mostOfFewest_5 ?_
  refine j_istore g (lv' := [(5, .int (0 : Int32)), (4, .int (999 : Int32)), (0, .ref (a (29 + r0))), (1, .int x1), (2, .int x2), (3, .int x3)]) (by decide) rfl dX4_mostOfFewest_6 ?_
  refine j_iconst g (v := 0) (by decide) dX4_mostOfFewest_8 ?_
  refine j_istore g (lv' := [(6, .int (0 : Int32)), (5, .int (0 : Int32)), (4, .int (999 : Int32)), (0, .ref (a (29 + r0))), (1, .int x1), (2, .int x2), (3, .int x3)]) (by decide) rfl dX4_mostOfFewest_9 ?_
  obtain ⟨n1, h⟩ := h
  refine j_sub [3, 4, 5, 6, 2, 1, 0] rfl ?_
  refine wk_X4_mostOfFewest_11 hr0 g hret (fun x5_1 h => ?_) n1 (999 : Int32) (0 : Int32) (0 : Int32) h
  refine j_iload g 0 rfl dX4_mostOfFewest_59 ?_
  exact hret.go dX4_mostOfFewest_61 h

set_option maxRecDepth 20000 in
def wp_X4_choose_16 (x2 : Int32) (x3 : Int32) (sz : Int32) (pm : Nat → Nat) (kv : Nat → Int32) (kn : Nat → Int32) (kt : Nat → Int32) (ks : Nat → Int32) (K : Int32 → (Nat → Int32) → (Nat → Nat → Int32) → Prop) (X : (Nat → Nat → Int32) → Prop) : Nat → Int32 → (Nat → Nat → Int32) → Prop
  | 0, _, _ => False
  | n + 1, x4, fw => ((sz ≤ x4 → X fw) ∧ (¬ sz ≤ x4 → (vp_in (x4 - (1 : Int32)) 6 ∧ (vp_in x4 6 ∧ (ac_ok (0 : Int32) (0 : Int32) (x2 + (1 : Int32)) 1000 ∧ (vp_in (x4 - (1 : Int32)) 6 ∧ pm (x4 - (1 : Int32)).toNatClampNeg < 6 ∧ (vp_in x4 6 ∧ wp_X0_spare (pm (x4 - (1 : Int32)).toNatClampNeg) x3 kn kt ks (fun (r_7 : Int32)  => wp_X4_addCoins x4.toNatClampNeg x2 (kv (pm (x4 - (1 : Int32)).toNatClampNeg)) r_7 (va_up fw x4.toNatClampNeg (va_cpy (fw ((x4 - (1 : Int32)).toNatClampNeg)) (fw x4.toNatClampNeg) (0 : Int32).toNatClampNeg (0 : Int32).toNatClampNeg (x2 + (1 : Int32)).toNatClampNeg)) (fun (fw_8 : Nat → Nat → Int32) => wp_X4_choose_16 x2 x3 sz pm kv kn kt ks K X n (x4 + 1) fw_8)))))))))
set_option maxRecDepth 20000 in
def wp_X4_choose_99 (x3 : Int32) (pm : Nat → Nat) (kv : Nat → Int32) (kn : Nat → Int32) (kt : Nat → Int32) (ks : Nat → Int32) (fw : Nat → Nat → Int32) (K : Int32 → (Nat → Int32) → (Nat → Nat → Int32) → Prop) (X : Int32 → (Nat → Int32) → Prop) : Nat → Int32 → Int32 → (Nat → Int32) → Prop
  | 0, _, _, _ => False
  | n + 1, x4, x5, kw => ((x5 < 0 → X x4 kw) ∧ (¬ x5 < 0 → (vp_in x5 6 ∧ pm x5.toNatClampNeg < 6 ∧ (vp_in x5 6 ∧ wp_X0_spare (pm x5.toNatClampNeg) x3 kn kt ks (fun (r_4 : Int32)  => wp_X4_mostOfFewest x5.toNatClampNeg x4 (kv (pm x5.toNatClampNeg)) r_4 fw (fun (r_5 : Int32)  => wp_X4_choose_99 x3 pm kv kn kt ks fw K X n (x4 - (((upd kw (pm x5.toNatClampNeg) r_5) (pm x5.toNatClampNeg)) * (kv (pm x5.toNatClampNeg)))) (x5 + (-1 : Int32)) (upd kw (pm x5.toNatClampNeg) r_5)))))))
set_option maxRecDepth 20000 in
def wp_X4_choose (x2 : Int32) (x3 : Int32) (sz : Int32) (pm : Nat → Nat) (kv : Nat → Int32) (kn : Nat → Int32) (kt : Nat → Int32) (ks : Nat → Int32) (kw : Nat → Int32) (fw : Nat → Nat → Int32) (K : Int32 → (Nat → Int32) → (Nat → Nat → Int32) → Prop) : Prop :=
  ((x2 < 0 → K (0 : Int32) kw fw) ∧ (¬ x2 < 0 → ((x2 ≤ (999 : Int32) → ∃ n3 : Nat, wp_X4_choose_16 x2 x3 sz pm kv kn kt ks K (fun (fw_3 : Nat → Nat → Int32) => ∃ n4 : Nat, wp_X4_choose_99 x3 pm kv kn kt ks fw_3 K (fun (x4_4 : Int32) (kw_4 : Nat → Int32) => ((¬ x4_4 = 0 → K (0 : Int32) kw_4 fw_3) ∧ (x4_4 = 0 → K (1 : Int32) kw_4 fw_3))) n4 x2 (sz - (1 : Int32)) kw) n3 (1 : Int32) fw) ∧ (¬ x2 ≤ (999 : Int32) → K (0 : Int32) kw fw))))
theorem dX4_choose_0 : decode cX4_choose 0 = .ok (.iload_n 2, 1) := by decide +kernel
theorem dX4_choose_1 : decode cX4_choose 1 = .ok (.ifCond .lt 10, 3) := by decide +kernel
theorem dX4_choose_4 : decode cX4_choose 4 = .ok (.iload_n 2, 1) := by decide +kernel
theorem dX4_choose_5 : decode cX4_choose 5 = .ok (.sipush 999, 3) := by decide +kernel
theorem dX4_choose_8 : decode cX4_choose 8 = .ok (.if_icmp .le 5, 3) := by decide +kernel
theorem dX4_choose_11 : decode cX4_choose 11 = .ok (.iconst 0, 1) := by decide +kernel
theorem dX4_choose_12 : decode cX4_choose 12 = .ok (.ireturn, 1) := by decide +kernel
theorem dX4_choose_13 : decode cX4_choose 13 = .ok (.iconst 1, 1) := by decide +kernel
theorem dX4_choose_14 : decode cX4_choose 14 = .ok (.istore 4, 2) := by decide +kernel
theorem dX4_choose_16 : decode cX4_choose 16 = .ok (.iload 4, 2) := by decide +kernel
theorem dX4_choose_18 : decode cX4_choose 18 = .ok (.aload_n 1, 1) := by decide +kernel
theorem dX4_choose_19 : decode cX4_choose 19 = .ok (.getfield 22, 3) := by decide +kernel
theorem dX4_choose_22 : decode cX4_choose 22 = .ok (.if_icmp .ge 66, 3) := by decide +kernel
theorem dX4_choose_25 : decode cX4_choose 25 = .ok (.aload_n 0, 1) := by decide +kernel
theorem dX4_choose_26 : decode cX4_choose 26 = .ok (.getfield 11, 3) := by decide +kernel
theorem dX4_choose_29 : decode cX4_choose 29 = .ok (.iload 4, 2) := by decide +kernel
theorem dX4_choose_31 : decode cX4_choose 31 = .ok (.iconst 1, 1) := by decide +kernel
theorem dX4_choose_32 : decode cX4_choose 32 = .ok (.isub, 1) := by decide +kernel
theorem dX4_choose_33 : decode cX4_choose 33 = .ok (.aaload, 1) := by decide +kernel
theorem dX4_choose_34 : decode cX4_choose 34 = .ok (.iconst 0, 1) := by decide +kernel
theorem dX4_choose_35 : decode cX4_choose 35 = .ok (.aload_n 0, 1) := by decide +kernel
theorem dX4_choose_36 : decode cX4_choose 36 = .ok (.getfield 11, 3) := by decide +kernel
theorem dX4_choose_39 : decode cX4_choose 39 = .ok (.iload 4, 2) := by decide +kernel
theorem dX4_choose_41 : decode cX4_choose 41 = .ok (.aaload, 1) := by decide +kernel
theorem dX4_choose_42 : decode cX4_choose 42 = .ok (.iconst 0, 1) := by decide +kernel
theorem dX4_choose_43 : decode cX4_choose 43 = .ok (.iload_n 2, 1) := by decide +kernel
theorem dX4_choose_44 : decode cX4_choose 44 = .ok (.iconst 1, 1) := by decide +kernel
theorem dX4_choose_45 : decode cX4_choose 45 = .ok (.iadd, 1) := by decide +kernel
theorem dX4_choose_46 : decode cX4_choose 46 = .ok (.invokestatic 28, 3) := by decide +kernel
theorem dX4_choose_49 : decode cX4_choose 49 = .ok (.aload_n 1, 1) := by decide +kernel
theorem dX4_choose_50 : decode cX4_choose 50 = .ok (.getfield 34, 3) := by decide +kernel
theorem dX4_choose_53 : decode cX4_choose 53 = .ok (.iload 4, 2) := by decide +kernel
theorem dX4_choose_55 : decode cX4_choose 55 = .ok (.iconst 1, 1) := by decide +kernel
theorem dX4_choose_56 : decode cX4_choose 56 = .ok (.isub, 1) := by decide +kernel
theorem dX4_choose_57 : decode cX4_choose 57 = .ok (.aaload, 1) := by decide +kernel
theorem dX4_choose_58 : decode cX4_choose 58 = .ok (.astore 5, 2) := by decide +kernel
theorem dX4_choose_60 : decode cX4_choose 60 = .ok (.aload_n 0, 1) := by decide +kernel
theorem dX4_choose_61 : decode cX4_choose 61 = .ok (.getfield 11, 3) := by decide +kernel
theorem dX4_choose_64 : decode cX4_choose 64 = .ok (.iload 4, 2) := by decide +kernel
theorem dX4_choose_66 : decode cX4_choose 66 = .ok (.aaload, 1) := by decide +kernel
theorem dX4_choose_67 : decode cX4_choose 67 = .ok (.iload_n 2, 1) := by decide +kernel
theorem dX4_choose_68 : decode cX4_choose 68 = .ok (.aload 5, 2) := by decide +kernel
theorem dX4_choose_70 : decode cX4_choose 70 = .ok (.getfield 38, 3) := by decide +kernel
theorem dX4_choose_73 : decode cX4_choose 73 = .ok (.aload 5, 2) := by decide +kernel
theorem dX4_choose_75 : decode cX4_choose 75 = .ok (.iload_n 3, 1) := by decide +kernel
theorem dX4_choose_76 : decode cX4_choose 76 = .ok (.invokevirtual 43, 3) := by decide +kernel
theorem dX4_choose_79 : decode cX4_choose 79 = .ok (.invokestatic 47, 3) := by decide +kernel
theorem dX4_choose_82 : decode cX4_choose 82 = .ok (.iinc 4 1, 3) := by decide +kernel
theorem dX4_choose_85 : decode cX4_choose 85 = .ok (.goto (-69), 3) := by decide +kernel
theorem dX4_choose_88 : decode cX4_choose 88 = .ok (.iload_n 2, 1) := by decide +kernel
theorem dX4_choose_89 : decode cX4_choose 89 = .ok (.istore 4, 2) := by decide +kernel
theorem dX4_choose_91 : decode cX4_choose 91 = .ok (.aload_n 1, 1) := by decide +kernel
theorem dX4_choose_92 : decode cX4_choose 92 = .ok (.getfield 22, 3) := by decide +kernel
theorem dX4_choose_95 : decode cX4_choose 95 = .ok (.iconst 1, 1) := by decide +kernel
theorem dX4_choose_96 : decode cX4_choose 96 = .ok (.isub, 1) := by decide +kernel
theorem dX4_choose_97 : decode cX4_choose 97 = .ok (.istore 5, 2) := by decide +kernel
theorem dX4_choose_99 : decode cX4_choose 99 = .ok (.iload 5, 2) := by decide +kernel
theorem dX4_choose_101 : decode cX4_choose 101 = .ok (.ifCond .lt 62, 3) := by decide +kernel
theorem dX4_choose_104 : decode cX4_choose 104 = .ok (.aload_n 1, 1) := by decide +kernel
theorem dX4_choose_105 : decode cX4_choose 105 = .ok (.getfield 34, 3) := by decide +kernel
theorem dX4_choose_108 : decode cX4_choose 108 = .ok (.iload 5, 2) := by decide +kernel
theorem dX4_choose_110 : decode cX4_choose 110 = .ok (.aaload, 1) := by decide +kernel
theorem dX4_choose_111 : decode cX4_choose 111 = .ok (.astore 6, 2) := by decide +kernel
theorem dX4_choose_113 : decode cX4_choose 113 = .ok (.aload 6, 2) := by decide +kernel
theorem dX4_choose_115 : decode cX4_choose 115 = .ok (.aload_n 0, 1) := by decide +kernel
theorem dX4_choose_116 : decode cX4_choose 116 = .ok (.getfield 11, 3) := by decide +kernel
theorem dX4_choose_119 : decode cX4_choose 119 = .ok (.iload 5, 2) := by decide +kernel
theorem dX4_choose_121 : decode cX4_choose 121 = .ok (.aaload, 1) := by decide +kernel
theorem dX4_choose_122 : decode cX4_choose 122 = .ok (.iload 4, 2) := by decide +kernel
theorem dX4_choose_124 : decode cX4_choose 124 = .ok (.aload 6, 2) := by decide +kernel
theorem dX4_choose_126 : decode cX4_choose 126 = .ok (.getfield 38, 3) := by decide +kernel
theorem dX4_choose_129 : decode cX4_choose 129 = .ok (.aload 6, 2) := by decide +kernel
theorem dX4_choose_131 : decode cX4_choose 131 = .ok (.iload_n 3, 1) := by decide +kernel
theorem dX4_choose_132 : decode cX4_choose 132 = .ok (.invokevirtual 43, 3) := by decide +kernel
theorem dX4_choose_135 : decode cX4_choose 135 = .ok (.invokestatic 51, 3) := by decide +kernel
theorem dX4_choose_138 : decode cX4_choose 138 = .ok (.putfield 55, 3) := by decide +kernel
theorem dX4_choose_141 : decode cX4_choose 141 = .ok (.iload 4, 2) := by decide +kernel
theorem dX4_choose_143 : decode cX4_choose 143 = .ok (.aload 6, 2) := by decide +kernel
theorem dX4_choose_145 : decode cX4_choose 145 = .ok (.getfield 55, 3) := by decide +kernel
theorem dX4_choose_148 : decode cX4_choose 148 = .ok (.aload 6, 2) := by decide +kernel
theorem dX4_choose_150 : decode cX4_choose 150 = .ok (.getfield 38, 3) := by decide +kernel
theorem dX4_choose_153 : decode cX4_choose 153 = .ok (.imul, 1) := by decide +kernel
theorem dX4_choose_154 : decode cX4_choose 154 = .ok (.isub, 1) := by decide +kernel
theorem dX4_choose_155 : decode cX4_choose 155 = .ok (.istore 4, 2) := by decide +kernel
theorem dX4_choose_157 : decode cX4_choose 157 = .ok (.iinc 5 (-1), 3) := by decide +kernel
theorem dX4_choose_160 : decode cX4_choose 160 = .ok (.goto (-61), 3) := by decide +kernel
theorem dX4_choose_163 : decode cX4_choose 163 = .ok (.iload 4, 2) := by decide +kernel
theorem dX4_choose_165 : decode cX4_choose 165 = .ok (.ifCond .ne 7, 3) := by decide +kernel
theorem dX4_choose_168 : decode cX4_choose 168 = .ok (.iconst 1, 1) := by decide +kernel
theorem dX4_choose_169 : decode cX4_choose 169 = .ok (.goto 4, 3) := by decide +kernel
theorem dX4_choose_172 : decode cX4_choose 172 = .ok (.iconst 0, 1) := by decide +kernel
theorem dX4_choose_173 : decode cX4_choose 173 = .ok (.ireturn, 1) := by decide +kernel
set_option maxRecDepth 20000 in
set_option maxHeartbeats 4000000 in
theorem wk_X4_choose_16 {Γ : GT} {a : Nat → Nat} {q : Nat → ClassId} {x2 : Int32} {x3 : Int32}  {sz : Int32} {pr : Nat → Int32} {pm : Nat → Nat} {kv : Nat → Int32} {kn : Nat → Int32} {kr : Nat → Int32} {kt : Nat → Int32} {kb : Nat → Int32} {ks : Nat → Int32} {kj : Nat → Int32} {kw : Nat → Int32} {kg : Nat → Int32} {wd : Nat → Nat → Int64} {ad : Nat → Int32} {bk : Nat → Int32} {md : Int32} {cr : Int32} {ow : Int32} {hd : Int32} {K : Int32 → (Nat → Int32) → (Nat → Nat → Int32) → Prop} {X : (Nat → Nat → Int32) → Prop} (g : gd Γ cX4_choose RX4 7 (rmz 2 60) q) (hret : rtZ_2 Γ cX4_choose 7 (fun (kw : Nat → Int32) (fw : Nat → Nat → Int32) => (cgW a q sz pr pm kv kn kr kt kb ks kj kw kg wd fw ad bk md cr ow hd)) K) (hX : ∀ (fw : Nat → Nat → Int32) , X fw → jw Γ 7 0 0 (cgW a q sz pr pm kv kn kr kt kb ks kj kw kg wd fw ad bk md cr ow hd) [(0, .ref (a 6)), (1, .ref (a 1)), (2, .int x2), (3, .int x3)] [] 88) :
    ∀ (n : Nat) (x4 : Int32) (fw : Nat → Nat → Int32) , wp_X4_choose_16 x2 x3 sz pm kv kn kt ks K X n x4 fw → jw Γ 7 0 0 (cgW a q sz pr pm kv kn kr kt kb ks kj kw kg wd fw ad bk md cr ow hd) [(0, .ref (a 6)), (1, .ref (a 1)), (2, .int x2), (3, .int x3), (4, .int x4)] [] 16 := by
  intro n
  induction n with
  | zero =>
    intro _ _ h
    exact False.elim h
  | succ n ih =>
    intro x4 fw h
    unfold wp_X4_choose_16 at h
    refine j_iload g 4 rfl dX4_choose_16 ?_
    refine j_aload_n g 1 rfl dX4_choose_18 ?_
    refine j_get g fl_X4_22 1 cg_1 rfl dX4_choose_19 ?_
    refine j_icmp_ge g dX4_choose_22 (tgt := 88) (by decide) (fun c1 => ?_) (fun c1 => ?_)
    · replace h := h.1 c1
      refine j_sub [0, 1, 2, 3] rfl ?_
      exact hX fw h
    replace h := h.2 c1
    refine j_aload_n g 0 rfl dX4_choose_25 ?_
    refine j_get g fl_X4_11 6 cg_6 rfl dX4_choose_26 ?_
    refine j_iload g 4 rfl dX4_choose_29 ?_
    refine j_iconst g (v := 1) (by decide) dX4_choose_31 ?_
    refine j_isub g dX4_choose_32 ?_
    obtain ⟨hv2, h⟩ := h
    refine j_aald g 7 5 cg_7 rfl (by decide) hv2 rfl dX4_choose_33 ?_
    refine j_iconst g (v := 0) (by decide) dX4_choose_34 ?_
    refine j_aload_n g 0 rfl dX4_choose_35 ?_
    refine j_get g fl_X4_11 6 cg_6 rfl dX4_choose_36 ?_
    refine j_iload g 4 rfl dX4_choose_39 ?_
    obtain ⟨hv3, h⟩ := h
    refine j_aald g 7 5 cg_7 rfl (by decide) hv3 rfl dX4_choose_41 ?_
    refine j_iconst g (v := 0) (by decide) dX4_choose_42 ?_
    refine j_iload_n g 2 rfl dX4_choose_43 ?_
    refine j_iconst g (v := 1) (by decide) dX4_choose_44 ?_
    refine j_iadd g dX4_choose_45 ?_
    obtain ⟨hc4, h⟩ := h
    refine j_copyi g lm_X4_28 (29 + ((x4 - (1 : Int32)).toNatClampNeg)) (29 + x4.toNatClampNeg) (cg_r (vp_lt hv2)) (cg_r (vp_lt hv3)) hc4 (Nat.le_of_ble_eq_true rfl) (Nat.le_of_ble_eq_true rfl) (ws' := (cgW a q sz pr pm kv kn kr kt kb ks kj kw kg wd (va_up fw x4.toNatClampNeg (va_cpy (fw ((x4 - (1 : Int32)).toNatClampNeg)) (fw x4.toNatClampNeg) (0 : Int32).toNatClampNeg (0 : Int32).toNatClampNeg (x2 + (1 : Int32)).toNatClampNeg)) ad bk md cr ow hd)) (cg_s_r (vp_lt hv3)) dX4_choose_46 ?_
    refine j_aload_n g 1 rfl dX4_choose_49 ?_
    refine j_get g fl_X4_34 1 cg_1 rfl dX4_choose_50 ?_
    refine j_iload g 4 rfl dX4_choose_53 ?_
    refine j_iconst g (v := 1) (by decide) dX4_choose_55 ?_
    refine j_isub g dX4_choose_56 ?_
    obtain ⟨hv5, hv5p, h⟩ := h
    refine j_aald g 3 3 cg_3 rfl (by decide) hv5 rfl dX4_choose_57 ?_
    refine j_astore g (lv' := [(5, .ref (a (11 + (pm (x4 - (1 : Int32)).toNatClampNeg)))), (0, .ref (a 6)), (1, .ref (a 1)), (2, .int x2), (3, .int x3), (4, .int x4)]) (by decide) rfl dX4_choose_58 ?_
    refine j_aload_n g 1 rfl dX4_choose_60 ?_
    refine j_get g fl_X4_11 6 cg_6 rfl dX4_choose_61 ?_
    refine j_iload g 5 rfl dX4_choose_64 ?_
    obtain ⟨hv6, h⟩ := h
    refine j_aald g 7 5 cg_7 rfl (by decide) hv6 rfl dX4_choose_66 ?_
    refine j_iload_n g 3 rfl dX4_choose_67 ?_
    refine j_aload g 0 rfl dX4_choose_68 ?_
    refine j_get g fl_X4_38 (11 + (pm (x4 - (1 : Int32)).toNatClampNeg)) (cg_K hv5p) rfl dX4_choose_70 ?_
    refine j_aload g 0 rfl dX4_choose_73 ?_
    refine j_iload_n g 4 rfl dX4_choose_75 ?_
    refine j_callVI_0 g (As := [.int x3]) (st := [.int (kv (pm (x4 - (1 : Int32)).toNatClampNeg)), .int x2, .ref (a (29 + x4.toNatClampNeg))]) (c_X0_spare hv5p h) cl_X4_43 (11 + (pm (x4 - (1 : Int32)).toNatClampNeg)) 0 (cg_K hv5p) rfl rfl (Nat.le_of_ble_eq_true rfl) (Nat.le_of_ble_eq_true rfl) (Nat.zero_le _) (Nat.zero_le _) rfl rfl (Nat.le_of_ble_eq_true rfl) dX4_choose_76 (fun r_7   h => ?_)
    refine j_callSV_1 g (As := [.ref (a (29 + x4.toNatClampNeg)), .int x2, .int (kv (pm (x4 - (1 : Int32)).toNatClampNeg)), .int r_7]) (st := []) (c_X4_addCoins (vp_lt hv6) h) cl_X4_47 (Nat.le_of_ble_eq_true rfl) (Nat.le_of_ble_eq_true rfl) (Nat.zero_le _) (Nat.zero_le _) rfl rfl (Nat.le_of_ble_eq_true rfl) dX4_choose_79 (fun fw_8 h => ?_)
    refine j_ws (ws' := (cgW a q sz pr pm kv kn kr kt kb ks kj kw kg wd fw_8 ad bk md cr ow hd)) rfl ?_
    refine j_iinc g 5 (n := 1) (v := x4 + 1) (lv' := [(4, .int (x4 + 1)), (5, .ref (a (11 + (pm (x4 - (1 : Int32)).toNatClampNeg)))), (0, .ref (a 6)), (1, .ref (a 1)), (2, .int x2), (3, .int x3)]) rfl rfl (by decide) rfl dX4_choose_82 ?_
    refine j_goto g dX4_choose_85 (tgt := 16) (by decide) ?_
    refine j_sub [2, 3, 4, 5, 0] rfl ?_
    exact ih (x4 + 1) fw_8 h
set_option maxRecDepth 20000 in
set_option maxHeartbeats 4000000 in
theorem wk_X4_choose_99 {Γ : GT} {a : Nat → Nat} {q : Nat → ClassId} {x3 : Int32}  {sz : Int32} {pr : Nat → Int32} {pm : Nat → Nat} {kv : Nat → Int32} {kn : Nat → Int32} {kr : Nat → Int32} {kt : Nat → Int32} {kb : Nat → Int32} {ks : Nat → Int32} {kj : Nat → Int32} {kg : Nat → Int32} {wd : Nat → Nat → Int64} {fw : Nat → Nat → Int32} {ad : Nat → Int32} {bk : Nat → Int32} {md : Int32} {cr : Int32} {ow : Int32} {hd : Int32} {K : Int32 → (Nat → Int32) → (Nat → Nat → Int32) → Prop} {X : Int32 → (Nat → Int32) → Prop} (g : gd Γ cX4_choose RX4 7 (rmz 2 60) q) (hret : rtZ_2 Γ cX4_choose 7 (fun (kw : Nat → Int32) (fw : Nat → Nat → Int32) => (cgW a q sz pr pm kv kn kr kt kb ks kj kw kg wd fw ad bk md cr ow hd)) K) (hX : ∀ (x4 : Int32) (kw : Nat → Int32) , X x4 kw → jw Γ 7 0 0 (cgW a q sz pr pm kv kn kr kt kb ks kj kw kg wd fw ad bk md cr ow hd) [(4, .int x4)] [] 163) :
    ∀ (n : Nat) (x4 : Int32) (x5 : Int32) (kw : Nat → Int32) , wp_X4_choose_99 x3 pm kv kn kt ks fw K X n x4 x5 kw → jw Γ 7 0 0 (cgW a q sz pr pm kv kn kr kt kb ks kj kw kg wd fw ad bk md cr ow hd) [(0, .ref (a 6)), (1, .ref (a 1)), (3, .int x3), (4, .int x4), (5, .int x5)] [] 99 := by
  intro n
  induction n with
  | zero =>
    intro _ _ _ h
    exact False.elim h
  | succ n ih =>
    intro x4 x5 kw h
    unfold wp_X4_choose_99 at h
    refine j_iload g 4 rfl dX4_choose_99 ?_
    refine j_if_lt g dX4_choose_101 (tgt := 163) (by decide) (fun c1 => ?_) (fun c1 => ?_)
    · replace h := h.1 c1
      refine j_sub [3] rfl ?_
      exact hX x4 kw h
    replace h := h.2 c1
    refine j_aload_n g 1 rfl dX4_choose_104 ?_
    refine j_get g fl_X4_34 1 cg_1 rfl dX4_choose_105 ?_
    refine j_iload g 4 rfl dX4_choose_108 ?_
    obtain ⟨hv2, hv2p, h⟩ := h
    refine j_aald g 3 3 cg_3 rfl (by decide) hv2 rfl dX4_choose_110 ?_
    refine j_astore g (lv' := [(6, .ref (a (11 + (pm x5.toNatClampNeg)))), (0, .ref (a 6)), (1, .ref (a 1)), (3, .int x3), (4, .int x4), (5, .int x5)]) (by decide) rfl dX4_choose_111 ?_
    refine j_aload g 0 rfl dX4_choose_113 ?_
    refine j_aload_n g 1 rfl dX4_choose_115 ?_
    refine j_get g fl_X4_11 6 cg_6 rfl dX4_choose_116 ?_
    refine j_iload g 5 rfl dX4_choose_119 ?_
    obtain ⟨hv3, h⟩ := h
    refine j_aald g 7 5 cg_7 rfl (by decide) hv3 rfl dX4_choose_121 ?_
    refine j_iload g 4 rfl dX4_choose_122 ?_
    refine j_aload g 0 rfl dX4_choose_124 ?_
    refine j_get g fl_X4_38 (11 + (pm x5.toNatClampNeg)) (cg_K hv2p) rfl dX4_choose_126 ?_
    refine j_aload g 0 rfl dX4_choose_129 ?_
    refine j_iload_n g 3 rfl dX4_choose_131 ?_
    refine j_callVI_0 g (As := [.int x3]) (st := [.int (kv (pm x5.toNatClampNeg)), .int x4, .ref (a (29 + x5.toNatClampNeg)), .ref (a (11 + (pm x5.toNatClampNeg)))]) (c_X0_spare hv2p h) cl_X4_43 (11 + (pm x5.toNatClampNeg)) 0 (cg_K hv2p) rfl rfl (Nat.le_of_ble_eq_true rfl) (Nat.le_of_ble_eq_true rfl) (Nat.zero_le _) (Nat.zero_le _) rfl rfl (Nat.le_of_ble_eq_true rfl) dX4_choose_132 (fun r_4   h => ?_)
    refine j_callSI_0 g (As := [.ref (a (29 + x5.toNatClampNeg)), .int x4, .int (kv (pm x5.toNatClampNeg)), .int r_4]) (st := [.ref (a (11 + (pm x5.toNatClampNeg)))]) (c_X4_mostOfFewest (vp_lt hv3) h) cl_X4_51 (Nat.le_of_ble_eq_true rfl) (Nat.le_of_ble_eq_true rfl) (Nat.zero_le _) (Nat.zero_le _) rfl rfl (Nat.le_of_ble_eq_true rfl) dX4_choose_135 (fun r_5   h => ?_)
    refine j_put g fl_X4_55 fp_X0_7 (11 + (pm x5.toNatClampNeg)) (cg_K hv2p) rfl rfl (Nat.le_of_ble_eq_true rfl) (ws' := (cgW a q sz pr pm kv kn kr kt kb ks kj (upd kw (pm x5.toNatClampNeg) r_5) kg wd fw ad bk md cr ow hd)) (cg_s_kw hv2p) dX4_choose_138 ?_
    refine j_iload g 4 rfl dX4_choose_141 ?_
    refine j_aload g 0 rfl dX4_choose_143 ?_
    refine j_get g fl_X4_55 (11 + (pm x5.toNatClampNeg)) (cg_K hv2p) rfl dX4_choose_145 ?_
    refine j_aload g 0 rfl dX4_choose_148 ?_
    refine j_get g fl_X4_38 (11 + (pm x5.toNatClampNeg)) (cg_K hv2p) rfl dX4_choose_150 ?_
    refine j_imul g dX4_choose_153 ?_
    refine j_isub g dX4_choose_154 ?_
    refine j_istore g (lv' := [(4, .int (x4 - (((upd kw (pm x5.toNatClampNeg) r_5) (pm x5.toNatClampNeg)) * (kv (pm x5.toNatClampNeg))))), (6, .ref (a (11 + (pm x5.toNatClampNeg)))), (0, .ref (a 6)), (1, .ref (a 1)), (3, .int x3), (5, .int x5)]) (by decide) rfl dX4_choose_155 ?_
    refine j_iinc g 5 (n := -1) (v := x5 + (-1 : Int32)) (lv' := [(5, .int (x5 + (-1 : Int32))), (4, .int (x4 - (((upd kw (pm x5.toNatClampNeg) r_5) (pm x5.toNatClampNeg)) * (kv (pm x5.toNatClampNeg))))), (6, .ref (a (11 + (pm x5.toNatClampNeg)))), (0, .ref (a 6)), (1, .ref (a 1)), (3, .int x3)]) rfl rfl (by decide) rfl dX4_choose_157 ?_
    refine j_goto g dX4_choose_160 (tgt := 99) (by decide) ?_
    refine j_sub [3, 4, 5, 1, 0] rfl ?_
    exact ih (x4 - (((upd kw (pm x5.toNatClampNeg) r_5) (pm x5.toNatClampNeg)) * (kv (pm x5.toNatClampNeg)))) (x5 + (-1 : Int32)) (upd kw (pm x5.toNatClampNeg) r_5) h
set_option maxRecDepth 20000 in
set_option maxHeartbeats 4000000 in
theorem c_X4_choose {a : Nat → Nat} {q : Nat → ClassId} {x2 : Int32} {x3 : Int32}  {sz : Int32} {pr : Nat → Int32} {pm : Nat → Nat} {kv : Nat → Int32} {kn : Nat → Int32} {kr : Nat → Int32} {kt : Nat → Int32} {kb : Nat → Int32} {ks : Nat → Int32} {kj : Nat → Int32} {kw : Nat → Int32} {kg : Nat → Int32} {wd : Nat → Nat → Int64} {fw : Nat → Nat → Int32} {ad : Nat → Int32} {bk : Nat → Int32} {md : Int32} {cr : Int32} {ow : Int32} {hd : Int32} {K : Int32 → (Nat → Int32) → (Nat → Nat → Int32) → Prop} (h : wp_X4_choose x2 x3 sz pm kv kn kt ks kw fw K) : ctZ_2 q yX4_choose cX4_choose 7 2 60 [.ref (a 6), .ref (a 1), .int x2, .int x3] (cgW a q sz pr pm kv kn kr kt kb ks kj kw kg wd fw ad bk md cr ow hd) (fun (kw : Nat → Int32) (fw : Nat → Nat → Int32) => (cgW a q sz pr pm kv kn kr kt kb ks kj kw kg wd fw ad bk md cr ow hd)) K := by
  refine met_Z_2 (by decide) (Nat.le_of_ble_eq_true rfl) (fun Γ g hret => ?_)
  unfold wp_X4_choose at h
  show jw Γ 7 0 0 (cgW a q sz pr pm kv kn kr kt kb ks kj kw kg wd fw ad bk md cr ow hd) [(0, .ref (a 6)), (1, .ref (a 1)), (2, .int x2), (3, .int x3)] [] 0
  refine j_iload_n g 2 rfl dX4_choose_0 ?_
  refine j_if_lt g dX4_choose_1 (tgt := 11) (by decide) (fun c1 => ?_) (fun c1 => ?_)
  · replace h := h.1 c1
    refine j_iconst g (v := 0) (by decide) dX4_choose_11 ?_
    exact hret.go dX4_choose_12 (Or.inl rfl) h
  replace h := h.2 c1
  refine j_iload_n g 2 rfl dX4_choose_4 ?_
  refine j_sipush g (v := 999) (by decide) dX4_choose_5 ?_
  refine j_icmp_le g dX4_choose_8 (tgt := 13) (by decide) (fun c2 => ?_) (fun c2 => ?_)
  rotate_left
  · replace h := h.2 c2
    refine j_iconst g (v := 0) (by decide) dX4_choose_11 ?_
    exact hret.go dX4_choose_12 (Or.inl rfl) h
  replace h := h.1 c2
  refine j_iconst g (v := 1) (by decide) dX4_choose_13 ?_
  refine j_istore g (lv' := [(4, .int (1 : Int32)), (0, .ref (a 6)), (1, .ref (a 1)), (2, .int x2), (3, .int x3)]) (by decide) rfl dX4_choose_14 ?_
  obtain ⟨n3, h⟩ := h
  refine j_sub [1, 2, 3, 4, 0] rfl ?_
  refine wk_X4_choose_16  g hret (fun fw_3 h => ?_) n3 (1 : Int32) fw h
  refine j_iload_n g 2 rfl dX4_choose_88 ?_
  refine j_istore g (lv' := [(4, .int x2), (0, .ref (a 6)), (1, .ref (a 1)), (2, .int x2), (3, .int x3)]) (by decide) rfl dX4_choose_89 ?_
  refine j_aload_n g 2 rfl dX4_choose_91 ?_
  refine j_get g fl_X4_22 1 cg_1 rfl dX4_choose_92 ?_
  refine j_iconst g (v := 1) (by decide) dX4_choose_95 ?_
  refine j_isub g dX4_choose_96 ?_
  refine j_istore g (lv' := [(5, .int (sz - (1 : Int32))), (4, .int x2), (0, .ref (a 6)), (1, .ref (a 1)), (2, .int x2), (3, .int x3)]) (by decide) rfl dX4_choose_97 ?_
  obtain ⟨n4, h⟩ := h
  refine j_sub [2, 3, 5, 1, 0] rfl ?_
  refine wk_X4_choose_99  g hret (fun x4_4 kw_4 h => ?_) n4 x2 (sz - (1 : Int32)) kw h
  refine j_iload g 0 rfl dX4_choose_163 ?_
  refine j_if_ne g dX4_choose_165 (tgt := 172) (by decide) (fun c5 => ?_) (fun c5 => ?_)
  · replace h := h.1 c5
    refine j_iconst g (v := 0) (by decide) dX4_choose_172 ?_
    exact hret.go dX4_choose_173 (Or.inl rfl) h
  replace h := h.2 c5
  refine j_iconst g (v := 1) (by decide) dX4_choose_168 ?_
  refine j_goto g dX4_choose_169 (tgt := 173) (by decide) ?_
  exact hret.go dX4_choose_173 (Or.inr rfl) h
