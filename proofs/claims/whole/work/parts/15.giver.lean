set_option maxRecDepth 20000 in
def wp_X5_priced (x1 : Int32) (pr : Nat → Int32) (K : Int32 → Prop) : Prop :=
  ((x1 < 0 → K (0 : Int32)) ∧ (¬ x1 < 0 → ((x1 < (6 : Int32) → (vp_in x1 6 ∧ K (pr x1.toNatClampNeg))) ∧ (¬ x1 < (6 : Int32) → K (0 : Int32)))))
theorem dX5_priced_0 : decode cX5_priced 0 = .ok (.iload_n 1, 1) := by decide +kernel
theorem dX5_priced_1 : decode cX5_priced 1 = .ok (.ifCond .lt 9, 3) := by decide +kernel
theorem dX5_priced_4 : decode cX5_priced 4 = .ok (.iload_n 1, 1) := by decide +kernel
theorem dX5_priced_5 : decode cX5_priced 5 = .ok (.bipush 6, 2) := by decide +kernel
theorem dX5_priced_7 : decode cX5_priced 7 = .ok (.if_icmp .lt 7, 3) := by decide +kernel
theorem dX5_priced_10 : decode cX5_priced 10 = .ok (.iconst 0, 1) := by decide +kernel
theorem dX5_priced_11 : decode cX5_priced 11 = .ok (.goto 12, 3) := by decide +kernel
theorem dX5_priced_14 : decode cX5_priced 14 = .ok (.aload_n 0, 1) := by decide +kernel
theorem dX5_priced_15 : decode cX5_priced 15 = .ok (.getfield 12, 3) := by decide +kernel
theorem dX5_priced_18 : decode cX5_priced 18 = .ok (.getfield 58, 3) := by decide +kernel
theorem dX5_priced_21 : decode cX5_priced 21 = .ok (.iload_n 1, 1) := by decide +kernel
theorem dX5_priced_22 : decode cX5_priced 22 = .ok (.iaload, 1) := by decide +kernel
theorem dX5_priced_23 : decode cX5_priced 23 = .ok (.ireturn, 1) := by decide +kernel
set_option maxRecDepth 20000 in
set_option maxHeartbeats 4000000 in
theorem c_X5_priced {a : Nat → Nat} {q : Nat → ClassId} {x1 : Int32}  {sz : Int32} {pr : Nat → Int32} {pm : Nat → Nat} {kv : Nat → Int32} {kn : Nat → Int32} {kr : Nat → Int32} {kt : Nat → Int32} {kb : Nat → Int32} {ks : Nat → Int32} {kj : Nat → Int32} {kw : Nat → Int32} {kg : Nat → Int32} {wd : Nat → Nat → Int64} {fw : Nat → Nat → Int32} {ad : Nat → Int32} {bk : Nat → Int32} {md : Int32} {cr : Int32} {ow : Int32} {hd : Int32} {K : Int32 → Prop} (h : wp_X5_priced x1 pr K) : ctI_0 q yX5_priced cX5_priced 2 0 0 [.ref (a 0), .int x1] (cgW a q sz pr pm kv kn kr kt kb ks kj kw kg wd fw ad bk md cr ow hd) (cgW a q sz pr pm kv kn kr kt kb ks kj kw kg wd fw ad bk md cr ow hd) K := by
  refine met_I_0 (by decide) (Nat.le_of_ble_eq_true rfl) (fun Γ g hret => ?_)
  unfold wp_X5_priced at h
  show jw Γ 2 0 0 (cgW a q sz pr pm kv kn kr kt kb ks kj kw kg wd fw ad bk md cr ow hd) [(0, .ref (a 0)), (1, .int x1)] [] 0
  refine j_iload_n g 1 rfl dX5_priced_0 ?_
  refine j_if_lt g dX5_priced_1 (tgt := 10) (by decide) (fun c1 => ?_) (fun c1 => ?_)
  · replace h := h.1 c1
    refine j_iconst g (v := 0) (by decide) dX5_priced_10 ?_
    refine j_goto g dX5_priced_11 (tgt := 23) (by decide) ?_
    exact hret.go dX5_priced_23 h
  replace h := h.2 c1
  refine j_iload_n g 1 rfl dX5_priced_4 ?_
  refine j_bipush g (v := 6) (by decide) dX5_priced_5 ?_
  refine j_icmp_lt g dX5_priced_7 (tgt := 14) (by decide) (fun c2 => ?_) (fun c2 => ?_)
  rotate_left
  · replace h := h.2 c2
    refine j_iconst g (v := 0) (by decide) dX5_priced_10 ?_
    refine j_goto g dX5_priced_11 (tgt := 23) (by decide) ?_
    exact hret.go dX5_priced_23 h
  replace h := h.1 c2
  refine j_aload_n g 0 rfl dX5_priced_14 ?_
  refine j_get g fl_X5_12 0 cg_0 rfl dX5_priced_15 ?_
  refine j_get g fl_X5_58 1 cg_1 rfl dX5_priced_18 ?_
  refine j_iload_n g 1 rfl dX5_priced_21 ?_
  obtain ⟨hv3, h⟩ := h
  refine j_iald g 4 cg_4 hv3 dX5_priced_22 ?_
  exact hret.go dX5_priced_23 h

set_option maxRecDepth 20000 in
def wp_X5_addKind (x1 : Int32) (x2 : Int32) (x3 : Int32) (sz : Int32) (pm : Nat → Nat) (kv : Nat → Int32) (kn : Nat → Int32) (kr : Nat → Int32) (cr : Int32) (K : Int32 → Int32 → (Nat → Nat) → (Nat → Int32) → (Nat → Int32) → (Nat → Int32) → Prop) : Prop :=
  ((x1 < (1 : Int32) → K (-1 : Int32) sz pm kv kn kr) ∧ (¬ x1 < (1 : Int32) → (((200 : Int32) < x1 → K (-1 : Int32) sz pm kv kn kr) ∧ (¬ (200 : Int32) < x1 → ((cr = 0 → wp_X3_add x1 x2 x3 sz pm kv kn kr (fun (r_4 : Int32) (sz_4 : Int32) (pm_4 : Nat → Nat) (kv_4 : Nat → Int32) (kn_4 : Nat → Int32) (kr_4 : Nat → Int32) => K r_4 sz_4 pm_4 kv_4 kn_4 kr_4)) ∧ (¬ cr = 0 → K (-1 : Int32) sz pm kv kn kr))))))
theorem dX5_addKind_0 : decode cX5_addKind 0 = .ok (.iload_n 1, 1) := by decide +kernel
theorem dX5_addKind_1 : decode cX5_addKind 1 = .ok (.iconst 1, 1) := by decide +kernel
theorem dX5_addKind_2 : decode cX5_addKind 2 = .ok (.if_icmp .lt 17, 3) := by decide +kernel
theorem dX5_addKind_5 : decode cX5_addKind 5 = .ok (.iload_n 1, 1) := by decide +kernel
theorem dX5_addKind_6 : decode cX5_addKind 6 = .ok (.sipush 200, 3) := by decide +kernel
theorem dX5_addKind_9 : decode cX5_addKind 9 = .ok (.if_icmp .gt 10, 3) := by decide +kernel
theorem dX5_addKind_12 : decode cX5_addKind 12 = .ok (.aload_n 0, 1) := by decide +kernel
theorem dX5_addKind_13 : decode cX5_addKind 13 = .ok (.getfield 45, 3) := by decide +kernel
theorem dX5_addKind_16 : decode cX5_addKind 16 = .ok (.ifCond .eq 5, 3) := by decide +kernel
theorem dX5_addKind_19 : decode cX5_addKind 19 = .ok (.iconst (-1), 1) := by decide +kernel
theorem dX5_addKind_20 : decode cX5_addKind 20 = .ok (.ireturn, 1) := by decide +kernel
theorem dX5_addKind_21 : decode cX5_addKind 21 = .ok (.aload_n 0, 1) := by decide +kernel
theorem dX5_addKind_22 : decode cX5_addKind 22 = .ok (.getfield 12, 3) := by decide +kernel
theorem dX5_addKind_25 : decode cX5_addKind 25 = .ok (.iload_n 1, 1) := by decide +kernel
theorem dX5_addKind_26 : decode cX5_addKind 26 = .ok (.iload_n 2, 1) := by decide +kernel
theorem dX5_addKind_27 : decode cX5_addKind 27 = .ok (.iload_n 3, 1) := by decide +kernel
theorem dX5_addKind_28 : decode cX5_addKind 28 = .ok (.invokevirtual 153, 3) := by decide +kernel
theorem dX5_addKind_31 : decode cX5_addKind 31 = .ok (.ireturn, 1) := by decide +kernel
set_option maxRecDepth 20000 in
set_option maxHeartbeats 4000000 in
theorem c_X5_addKind {a : Nat → Nat} {q : Nat → ClassId} {x1 : Int32} {x2 : Int32} {x3 : Int32} (hz3 : x3 = 0 ∨ x3 = 1) {sz : Int32} {pr : Nat → Int32} {pm : Nat → Nat} {kv : Nat → Int32} {kn : Nat → Int32} {kr : Nat → Int32} {kt : Nat → Int32} {kb : Nat → Int32} {ks : Nat → Int32} {kj : Nat → Int32} {kw : Nat → Int32} {kg : Nat → Int32} {wd : Nat → Nat → Int64} {fw : Nat → Nat → Int32} {ad : Nat → Int32} {bk : Nat → Int32} {md : Int32} {cr : Int32} {ow : Int32} {hd : Int32} {K : Int32 → Int32 → (Nat → Nat) → (Nat → Int32) → (Nat → Int32) → (Nat → Int32) → Prop} (h : wp_X5_addKind x1 x2 x3 sz pm kv kn kr cr K) : ctI_5 q yX5_addKind cX5_addKind 4 2 47 [.ref (a 0), .int x1, .int x2, .int x3] (cgW a q sz pr pm kv kn kr kt kb ks kj kw kg wd fw ad bk md cr ow hd) (fun (sz : Int32) (pm : Nat → Nat) (kv : Nat → Int32) (kn : Nat → Int32) (kr : Nat → Int32) => (cgW a q sz pr pm kv kn kr kt kb ks kj kw kg wd fw ad bk md cr ow hd)) K := by
  refine met_I_5 (by decide) (Nat.le_of_ble_eq_true rfl) (fun Γ g hret => ?_)
  unfold wp_X5_addKind at h
  show jw Γ 4 0 0 (cgW a q sz pr pm kv kn kr kt kb ks kj kw kg wd fw ad bk md cr ow hd) [(0, .ref (a 0)), (1, .int x1), (2, .int x2), (3, .int x3)] [] 0
  refine j_iload_n g 1 rfl dX5_addKind_0 ?_
  refine j_iconst g (v := 1) (by decide) dX5_addKind_1 ?_
  refine j_icmp_lt g dX5_addKind_2 (tgt := 19) (by decide) (fun c1 => ?_) (fun c1 => ?_)
  · replace h := h.1 c1
    refine j_iconst g (v := -1) (by decide) dX5_addKind_19 ?_
    exact hret.go dX5_addKind_20 h
  replace h := h.2 c1
  refine j_iload_n g 1 rfl dX5_addKind_5 ?_
  refine j_sipush g (v := 200) (by decide) dX5_addKind_6 ?_
  refine j_icmp_gt g dX5_addKind_9 (tgt := 19) (by decide) (fun c2 => ?_) (fun c2 => ?_)
  · replace h := h.1 c2
    refine j_iconst g (v := -1) (by decide) dX5_addKind_19 ?_
    exact hret.go dX5_addKind_20 h
  replace h := h.2 c2
  refine j_aload_n g 0 rfl dX5_addKind_12 ?_
  refine j_get g fl_X5_45 0 cg_0 rfl dX5_addKind_13 ?_
  refine j_if_eq g dX5_addKind_16 (tgt := 21) (by decide) (fun c3 => ?_) (fun c3 => ?_)
  rotate_left
  · replace h := h.2 c3
    refine j_iconst g (v := -1) (by decide) dX5_addKind_19 ?_
    exact hret.go dX5_addKind_20 h
  replace h := h.1 c3
  refine j_aload_n g 0 rfl dX5_addKind_21 ?_
  refine j_get g fl_X5_12 0 cg_0 rfl dX5_addKind_22 ?_
  refine j_iload_n g 1 rfl dX5_addKind_25 ?_
  refine j_iload_n g 2 rfl dX5_addKind_26 ?_
  refine j_iload_n g 3 rfl dX5_addKind_27 ?_
  refine j_callVI_5 g (As := [.int x1, .int x2, .int x3]) (st := []) (c_X3_add hz3 h) cl_X5_153 1 3 cg_1 rfl rfl (Nat.le_of_ble_eq_true rfl) (Nat.le_of_ble_eq_true rfl) (Nat.zero_le _) (Nat.zero_le _) rfl rfl (Nat.le_of_ble_eq_true rfl) dX5_addKind_28 (fun r_4 sz_4 pm_4 kv_4 kn_4 kr_4  h => ?_)
  refine j_ws (ws' := (cgW a q sz_4 pr pm_4 kv_4 kn_4 kr_4 kt kb ks kj kw kg wd fw ad bk md cr ow hd)) rfl ?_
  exact hret.go dX5_addKind_31 h

set_option maxRecDepth 20000 in
def wp_X5_coin (x1 : Int32) (x2 : Int32) (sz : Int32) (pm : Nat → Nat) (kv : Nat → Int32) (kn : Nat → Int32) (kr : Nat → Int32) (cr : Int32) (K : Int32 → Int32 → (Nat → Nat) → (Nat → Int32) → (Nat → Int32) → (Nat → Int32) → Prop) : Prop :=
  ((x2 < 0 → K (-1 : Int32) sz pm kv kn kr) ∧ (¬ x2 < 0 → ((x2 ≤ (20 : Int32) → wp_X5_addKind x1 x2 (0 : Int32) sz pm kv kn kr cr (fun (r_3 : Int32) (sz_3 : Int32) (pm_3 : Nat → Nat) (kv_3 : Nat → Int32) (kn_3 : Nat → Int32) (kr_3 : Nat → Int32) => K r_3 sz_3 pm_3 kv_3 kn_3 kr_3)) ∧ (¬ x2 ≤ (20 : Int32) → K (-1 : Int32) sz pm kv kn kr))))
theorem dX5_coin_0 : decode cX5_coin 0 = .ok (.iload_n 2, 1) := by decide +kernel
theorem dX5_coin_1 : decode cX5_coin 1 = .ok (.ifCond .lt 9, 3) := by decide +kernel
theorem dX5_coin_4 : decode cX5_coin 4 = .ok (.iload_n 2, 1) := by decide +kernel
theorem dX5_coin_5 : decode cX5_coin 5 = .ok (.bipush 20, 2) := by decide +kernel
theorem dX5_coin_7 : decode cX5_coin 7 = .ok (.if_icmp .le 5, 3) := by decide +kernel
theorem dX5_coin_10 : decode cX5_coin 10 = .ok (.iconst (-1), 1) := by decide +kernel
theorem dX5_coin_11 : decode cX5_coin 11 = .ok (.ireturn, 1) := by decide +kernel
theorem dX5_coin_12 : decode cX5_coin 12 = .ok (.aload_n 0, 1) := by decide +kernel
theorem dX5_coin_13 : decode cX5_coin 13 = .ok (.iload_n 1, 1) := by decide +kernel
theorem dX5_coin_14 : decode cX5_coin 14 = .ok (.iload_n 2, 1) := by decide +kernel
theorem dX5_coin_15 : decode cX5_coin 15 = .ok (.iconst 0, 1) := by decide +kernel
theorem dX5_coin_16 : decode cX5_coin 16 = .ok (.invokevirtual 54, 3) := by decide +kernel
theorem dX5_coin_19 : decode cX5_coin 19 = .ok (.ireturn, 1) := by decide +kernel
set_option maxRecDepth 20000 in
set_option maxHeartbeats 4000000 in
theorem c_X5_coin {a : Nat → Nat} {q : Nat → ClassId} {x1 : Int32} {x2 : Int32}  {sz : Int32} {pr : Nat → Int32} {pm : Nat → Nat} {kv : Nat → Int32} {kn : Nat → Int32} {kr : Nat → Int32} {kt : Nat → Int32} {kb : Nat → Int32} {ks : Nat → Int32} {kj : Nat → Int32} {kw : Nat → Int32} {kg : Nat → Int32} {wd : Nat → Nat → Int64} {fw : Nat → Nat → Int32} {ad : Nat → Int32} {bk : Nat → Int32} {md : Int32} {cr : Int32} {ow : Int32} {hd : Int32} {K : Int32 → Int32 → (Nat → Nat) → (Nat → Int32) → (Nat → Int32) → (Nat → Int32) → Prop} (h : wp_X5_coin x1 x2 sz pm kv kn kr cr K) : ctI_5 q yX5_coin cX5_coin 3 3 70 [.ref (a 0), .int x1, .int x2] (cgW a q sz pr pm kv kn kr kt kb ks kj kw kg wd fw ad bk md cr ow hd) (fun (sz : Int32) (pm : Nat → Nat) (kv : Nat → Int32) (kn : Nat → Int32) (kr : Nat → Int32) => (cgW a q sz pr pm kv kn kr kt kb ks kj kw kg wd fw ad bk md cr ow hd)) K := by
  refine met_I_5 (by decide) (Nat.le_of_ble_eq_true rfl) (fun Γ g hret => ?_)
  unfold wp_X5_coin at h
  show jw Γ 3 0 0 (cgW a q sz pr pm kv kn kr kt kb ks kj kw kg wd fw ad bk md cr ow hd) [(0, .ref (a 0)), (1, .int x1), (2, .int x2)] [] 0
  refine j_iload_n g 2 rfl dX5_coin_0 ?_
  refine j_if_lt g dX5_coin_1 (tgt := 10) (by decide) (fun c1 => ?_) (fun c1 => ?_)
  · replace h := h.1 c1
    refine j_iconst g (v := -1) (by decide) dX5_coin_10 ?_
    exact hret.go dX5_coin_11 h
  replace h := h.2 c1
  refine j_iload_n g 2 rfl dX5_coin_4 ?_
  refine j_bipush g (v := 20) (by decide) dX5_coin_5 ?_
  refine j_icmp_le g dX5_coin_7 (tgt := 12) (by decide) (fun c2 => ?_) (fun c2 => ?_)
  rotate_left
  · replace h := h.2 c2
    refine j_iconst g (v := -1) (by decide) dX5_coin_10 ?_
    exact hret.go dX5_coin_11 h
  replace h := h.1 c2
  refine j_aload_n g 0 rfl dX5_coin_12 ?_
  refine j_iload_n g 1 rfl dX5_coin_13 ?_
  refine j_iload_n g 2 rfl dX5_coin_14 ?_
  refine j_iconst g (v := 0) (by decide) dX5_coin_15 ?_
  refine j_callVI_5 g (As := [.int x1, .int x2, .int (0 : Int32)]) (st := []) (c_X5_addKind (Or.inl rfl) h) cl_X5_54 0 5 cg_0 rfl rfl (Nat.le_of_ble_eq_true rfl) (Nat.le_of_ble_eq_true rfl) (Nat.zero_le _) (Nat.zero_le _) rfl rfl (Nat.le_of_ble_eq_true rfl) dX5_coin_16 (fun r_3 sz_3 pm_3 kv_3 kn_3 kr_3  h => ?_)
  refine j_ws (ws' := (cgW a q sz_3 pr pm_3 kv_3 kn_3 kr_3 kt kb ks kj kw kg wd fw ad bk md cr ow hd)) rfl ?_
  exact hret.go dX5_coin_19 h

set_option maxRecDepth 20000 in
def wp_X5_note (x1 : Int32) (sz : Int32) (pm : Nat → Nat) (kv : Nat → Int32) (kn : Nat → Int32) (kr : Nat → Int32) (cr : Int32) (K : Int32 → Int32 → (Nat → Nat) → (Nat → Int32) → (Nat → Int32) → (Nat → Int32) → Prop) : Prop :=
  wp_X5_addKind x1 (0 : Int32) (1 : Int32) sz pm kv kn kr cr (fun (r_1 : Int32) (sz_1 : Int32) (pm_1 : Nat → Nat) (kv_1 : Nat → Int32) (kn_1 : Nat → Int32) (kr_1 : Nat → Int32) => K r_1 sz_1 pm_1 kv_1 kn_1 kr_1)
theorem dX5_note_0 : decode cX5_note 0 = .ok (.aload_n 0, 1) := by decide +kernel
theorem dX5_note_1 : decode cX5_note 1 = .ok (.iload_n 1, 1) := by decide +kernel
theorem dX5_note_2 : decode cX5_note 2 = .ok (.iconst 0, 1) := by decide +kernel
theorem dX5_note_3 : decode cX5_note 3 = .ok (.iconst 1, 1) := by decide +kernel
theorem dX5_note_4 : decode cX5_note 4 = .ok (.invokevirtual 54, 3) := by decide +kernel
theorem dX5_note_7 : decode cX5_note 7 = .ok (.ireturn, 1) := by decide +kernel
set_option maxRecDepth 20000 in
set_option maxHeartbeats 4000000 in
theorem c_X5_note {a : Nat → Nat} {q : Nat → ClassId} {x1 : Int32}  {sz : Int32} {pr : Nat → Int32} {pm : Nat → Nat} {kv : Nat → Int32} {kn : Nat → Int32} {kr : Nat → Int32} {kt : Nat → Int32} {kb : Nat → Int32} {ks : Nat → Int32} {kj : Nat → Int32} {kw : Nat → Int32} {kg : Nat → Int32} {wd : Nat → Nat → Int64} {fw : Nat → Nat → Int32} {ad : Nat → Int32} {bk : Nat → Int32} {md : Int32} {cr : Int32} {ow : Int32} {hd : Int32} {K : Int32 → Int32 → (Nat → Nat) → (Nat → Int32) → (Nat → Int32) → (Nat → Int32) → Prop} (h : wp_X5_note x1 sz pm kv kn kr cr K) : ctI_5 q yX5_note cX5_note 2 3 70 [.ref (a 0), .int x1] (cgW a q sz pr pm kv kn kr kt kb ks kj kw kg wd fw ad bk md cr ow hd) (fun (sz : Int32) (pm : Nat → Nat) (kv : Nat → Int32) (kn : Nat → Int32) (kr : Nat → Int32) => (cgW a q sz pr pm kv kn kr kt kb ks kj kw kg wd fw ad bk md cr ow hd)) K := by
  refine met_I_5 (by decide) (Nat.le_of_ble_eq_true rfl) (fun Γ g hret => ?_)
  unfold wp_X5_note at h
  show jw Γ 2 0 0 (cgW a q sz pr pm kv kn kr kt kb ks kj kw kg wd fw ad bk md cr ow hd) [(0, .ref (a 0)), (1, .int x1)] [] 0
  refine j_aload_n g 0 rfl dX5_note_0 ?_
  refine j_iload_n g 1 rfl dX5_note_1 ?_
  refine j_iconst g (v := 0) (by decide) dX5_note_2 ?_
  refine j_iconst g (v := 1) (by decide) dX5_note_3 ?_
  refine j_callVI_5 g (As := [.int x1, .int (0 : Int32), .int (1 : Int32)]) (st := []) (c_X5_addKind (Or.inr rfl) h) cl_X5_54 0 5 cg_0 rfl rfl (Nat.le_of_ble_eq_true rfl) (Nat.le_of_ble_eq_true rfl) (Nat.zero_le _) (Nat.zero_le _) rfl rfl (Nat.le_of_ble_eq_true rfl) dX5_note_4 (fun r_1 sz_1 pm_1 kv_1 kn_1 kr_1  h => ?_)
  refine j_ws (ws' := (cgW a q sz_1 pr pm_1 kv_1 kn_1 kr_1 kt kb ks kj kw kg wd fw ad bk md cr ow hd)) rfl ?_
  exact hret.go dX5_note_7 h

set_option maxRecDepth 20000 in
def wp_X5_price (x1 : Int32) (x2 : Int32) (pr : Nat → Int32) (cr : Int32) (K : Int32 → (Nat → Int32) → Prop) : Prop :=
  ((x1 < 0 → K (0 : Int32) pr) ∧ (¬ x1 < 0 → (((6 : Int32) ≤ x1 → K (0 : Int32) pr) ∧ (¬ (6 : Int32) ≤ x1 → ((x2 < 0 → K (0 : Int32) pr) ∧ (¬ x2 < 0 → (((300 : Int32) < x2 → K (0 : Int32) pr) ∧ (¬ (300 : Int32) < x2 → ((cr = 0 → (vp_in x1 6 ∧ K (1 : Int32) (upd pr x1.toNatClampNeg x2))) ∧ (¬ cr = 0 → K (0 : Int32) pr))))))))))
theorem dX5_price_0 : decode cX5_price 0 = .ok (.iload_n 1, 1) := by decide +kernel
theorem dX5_price_1 : decode cX5_price 1 = .ok (.ifCond .lt 27, 3) := by decide +kernel
theorem dX5_price_4 : decode cX5_price 4 = .ok (.iload_n 1, 1) := by decide +kernel
theorem dX5_price_5 : decode cX5_price 5 = .ok (.bipush 6, 2) := by decide +kernel
theorem dX5_price_7 : decode cX5_price 7 = .ok (.if_icmp .ge 21, 3) := by decide +kernel
theorem dX5_price_10 : decode cX5_price 10 = .ok (.iload_n 2, 1) := by decide +kernel
theorem dX5_price_11 : decode cX5_price 11 = .ok (.ifCond .lt 17, 3) := by decide +kernel
theorem dX5_price_14 : decode cX5_price 14 = .ok (.iload_n 2, 1) := by decide +kernel
theorem dX5_price_15 : decode cX5_price 15 = .ok (.sipush 300, 3) := by decide +kernel
theorem dX5_price_18 : decode cX5_price 18 = .ok (.if_icmp .gt 10, 3) := by decide +kernel
theorem dX5_price_21 : decode cX5_price 21 = .ok (.aload_n 0, 1) := by decide +kernel
theorem dX5_price_22 : decode cX5_price 22 = .ok (.getfield 45, 3) := by decide +kernel
theorem dX5_price_25 : decode cX5_price 25 = .ok (.ifCond .eq 5, 3) := by decide +kernel
theorem dX5_price_28 : decode cX5_price 28 = .ok (.iconst 0, 1) := by decide +kernel
theorem dX5_price_29 : decode cX5_price 29 = .ok (.ireturn, 1) := by decide +kernel
theorem dX5_price_30 : decode cX5_price 30 = .ok (.aload_n 0, 1) := by decide +kernel
theorem dX5_price_31 : decode cX5_price 31 = .ok (.getfield 12, 3) := by decide +kernel
theorem dX5_price_34 : decode cX5_price 34 = .ok (.getfield 58, 3) := by decide +kernel
theorem dX5_price_37 : decode cX5_price 37 = .ok (.iload_n 1, 1) := by decide +kernel
theorem dX5_price_38 : decode cX5_price 38 = .ok (.iload_n 2, 1) := by decide +kernel
theorem dX5_price_39 : decode cX5_price 39 = .ok (.iastore, 1) := by decide +kernel
theorem dX5_price_40 : decode cX5_price 40 = .ok (.iconst 1, 1) := by decide +kernel
theorem dX5_price_41 : decode cX5_price 41 = .ok (.ireturn, 1) := by decide +kernel
set_option maxRecDepth 20000 in
set_option maxHeartbeats 4000000 in
theorem c_X5_price {a : Nat → Nat} {q : Nat → ClassId} {x1 : Int32} {x2 : Int32}  {sz : Int32} {pr : Nat → Int32} {pm : Nat → Nat} {kv : Nat → Int32} {kn : Nat → Int32} {kr : Nat → Int32} {kt : Nat → Int32} {kb : Nat → Int32} {ks : Nat → Int32} {kj : Nat → Int32} {kw : Nat → Int32} {kg : Nat → Int32} {wd : Nat → Nat → Int64} {fw : Nat → Nat → Int32} {ad : Nat → Int32} {bk : Nat → Int32} {md : Int32} {cr : Int32} {ow : Int32} {hd : Int32} {K : Int32 → (Nat → Int32) → Prop} (h : wp_X5_price x1 x2 pr cr K) : ctZ_1 q yX5_price cX5_price 3 0 0 [.ref (a 0), .int x1, .int x2] (cgW a q sz pr pm kv kn kr kt kb ks kj kw kg wd fw ad bk md cr ow hd) (fun (pr : Nat → Int32) => (cgW a q sz pr pm kv kn kr kt kb ks kj kw kg wd fw ad bk md cr ow hd)) K := by
  refine met_Z_1 (by decide) (Nat.le_of_ble_eq_true rfl) (fun Γ g hret => ?_)
  unfold wp_X5_price at h
  show jw Γ 3 0 0 (cgW a q sz pr pm kv kn kr kt kb ks kj kw kg wd fw ad bk md cr ow hd) [(0, .ref (a 0)), (1, .int x1), (2, .int x2)] [] 0
  refine j_iload_n g 1 rfl dX5_price_0 ?_
  refine j_if_lt g dX5_price_1 (tgt := 28) (by decide) (fun c1 => ?_) (fun c1 => ?_)
  · replace h := h.1 c1
    refine j_iconst g (v := 0) (by decide) dX5_price_28 ?_
    exact hret.go dX5_price_29 (Or.inl rfl) h
  replace h := h.2 c1
  refine j_iload_n g 1 rfl dX5_price_4 ?_
  refine j_bipush g (v := 6) (by decide) dX5_price_5 ?_
  refine j_icmp_ge g dX5_price_7 (tgt := 28) (by decide) (fun c2 => ?_) (fun c2 => ?_)
  · replace h := h.1 c2
    refine j_iconst g (v := 0) (by decide) dX5_price_28 ?_
    exact hret.go dX5_price_29 (Or.inl rfl) h
  replace h := h.2 c2
  refine j_iload_n g 2 rfl dX5_price_10 ?_
  refine j_if_lt g dX5_price_11 (tgt := 28) (by decide) (fun c3 => ?_) (fun c3 => ?_)
  · replace h := h.1 c3
    refine j_iconst g (v := 0) (by decide) dX5_price_28 ?_
    exact hret.go dX5_price_29 (Or.inl rfl) h
  replace h := h.2 c3
  refine j_iload_n g 2 rfl dX5_price_14 ?_
  refine j_sipush g (v := 300) (by decide) dX5_price_15 ?_
  refine j_icmp_gt g dX5_price_18 (tgt := 28) (by decide) (fun c4 => ?_) (fun c4 => ?_)
  · replace h := h.1 c4
    refine j_iconst g (v := 0) (by decide) dX5_price_28 ?_
    exact hret.go dX5_price_29 (Or.inl rfl) h
  replace h := h.2 c4
  refine j_aload_n g 0 rfl dX5_price_21 ?_
  refine j_get g fl_X5_45 0 cg_0 rfl dX5_price_22 ?_
  refine j_if_eq g dX5_price_25 (tgt := 30) (by decide) (fun c5 => ?_) (fun c5 => ?_)
  rotate_left
  · replace h := h.2 c5
    refine j_iconst g (v := 0) (by decide) dX5_price_28 ?_
    exact hret.go dX5_price_29 (Or.inl rfl) h
  replace h := h.1 c5
  refine j_aload_n g 0 rfl dX5_price_30 ?_
  refine j_get g fl_X5_12 0 cg_0 rfl dX5_price_31 ?_
  refine j_get g fl_X5_58 1 cg_1 rfl dX5_price_34 ?_
  refine j_iload_n g 1 rfl dX5_price_37 ?_
  refine j_iload_n g 2 rfl dX5_price_38 ?_
  obtain ⟨hv6, h⟩ := h
  refine j_iast g 4 cg_4 hv6 (ws' := (cgW a q sz (upd pr x1.toNatClampNeg x2) pm kv kn kr kt kb ks kj kw kg wd fw ad bk md cr ow hd)) rfl dX5_price_39 ?_
  refine j_iconst g (v := 1) (by decide) dX5_price_40 ?_
  exact hret.go dX5_price_41 (Or.inr rfl) h

set_option maxRecDepth 20000 in
def wp_X5_mode (x1 : Int32) (md : Int32) (K : Int32 → Int32 → Prop) : Prop :=
  ((x1 = 0 → K (1 : Int32) x1) ∧ (¬ x1 = 0 → ((x1 = (1 : Int32) → K (1 : Int32) x1) ∧ (¬ x1 = (1 : Int32) → K (0 : Int32) md))))
theorem dX5_mode_0 : decode cX5_mode 0 = .ok (.iload_n 1, 1) := by decide +kernel
theorem dX5_mode_1 : decode cX5_mode 1 = .ok (.ifCond .eq 10, 3) := by decide +kernel
theorem dX5_mode_4 : decode cX5_mode 4 = .ok (.iload_n 1, 1) := by decide +kernel
theorem dX5_mode_5 : decode cX5_mode 5 = .ok (.iconst 1, 1) := by decide +kernel
theorem dX5_mode_6 : decode cX5_mode 6 = .ok (.if_icmp .eq 5, 3) := by decide +kernel
theorem dX5_mode_9 : decode cX5_mode 9 = .ok (.iconst 0, 1) := by decide +kernel
theorem dX5_mode_10 : decode cX5_mode 10 = .ok (.ireturn, 1) := by decide +kernel
theorem dX5_mode_11 : decode cX5_mode 11 = .ok (.aload_n 0, 1) := by decide +kernel
theorem dX5_mode_12 : decode cX5_mode 12 = .ok (.iload_n 1, 1) := by decide +kernel
theorem dX5_mode_13 : decode cX5_mode 13 = .ok (.putfield 41, 3) := by decide +kernel
theorem dX5_mode_16 : decode cX5_mode 16 = .ok (.iconst 1, 1) := by decide +kernel
theorem dX5_mode_17 : decode cX5_mode 17 = .ok (.ireturn, 1) := by decide +kernel
set_option maxRecDepth 20000 in
set_option maxHeartbeats 4000000 in
theorem c_X5_mode {a : Nat → Nat} {q : Nat → ClassId} {x1 : Int32}  {sz : Int32} {pr : Nat → Int32} {pm : Nat → Nat} {kv : Nat → Int32} {kn : Nat → Int32} {kr : Nat → Int32} {kt : Nat → Int32} {kb : Nat → Int32} {ks : Nat → Int32} {kj : Nat → Int32} {kw : Nat → Int32} {kg : Nat → Int32} {wd : Nat → Nat → Int64} {fw : Nat → Nat → Int32} {ad : Nat → Int32} {bk : Nat → Int32} {md : Int32} {cr : Int32} {ow : Int32} {hd : Int32} {K : Int32 → Int32 → Prop} (h : wp_X5_mode x1 md K) : ctZ_1 q yX5_mode cX5_mode 2 0 0 [.ref (a 0), .int x1] (cgW a q sz pr pm kv kn kr kt kb ks kj kw kg wd fw ad bk md cr ow hd) (fun (md : Int32) => (cgW a q sz pr pm kv kn kr kt kb ks kj kw kg wd fw ad bk md cr ow hd)) K := by
  refine met_Z_1 (by decide) (Nat.le_of_ble_eq_true rfl) (fun Γ g hret => ?_)
  unfold wp_X5_mode at h
  show jw Γ 2 0 0 (cgW a q sz pr pm kv kn kr kt kb ks kj kw kg wd fw ad bk md cr ow hd) [(0, .ref (a 0)), (1, .int x1)] [] 0
  refine j_iload_n g 1 rfl dX5_mode_0 ?_
  refine j_if_eq g dX5_mode_1 (tgt := 11) (by decide) (fun c1 => ?_) (fun c1 => ?_)
  · replace h := h.1 c1
    refine j_aload_n g 0 rfl dX5_mode_11 ?_
    refine j_iload_n g 1 rfl dX5_mode_12 ?_
    refine j_put g fl_X5_41 fp_X5_5 0 cg_0 rfl rfl (Nat.le_of_ble_eq_true rfl) (ws' := (cgW a q sz pr pm kv kn kr kt kb ks kj kw kg wd fw ad bk x1 cr ow hd)) rfl dX5_mode_13 ?_
    refine j_iconst g (v := 1) (by decide) dX5_mode_16 ?_
    exact hret.go dX5_mode_17 (Or.inr rfl) h
  replace h := h.2 c1
  refine j_iload_n g 1 rfl dX5_mode_4 ?_
  refine j_iconst g (v := 1) (by decide) dX5_mode_5 ?_
  refine j_icmp_eq g dX5_mode_6 (tgt := 11) (by decide) (fun c2 => ?_) (fun c2 => ?_)
  rotate_left
  · replace h := h.2 c2
    refine j_iconst g (v := 0) (by decide) dX5_mode_9 ?_
    exact hret.go dX5_mode_10 (Or.inl rfl) h
  replace h := h.1 c2
  refine j_aload_n g 0 rfl dX5_mode_11 ?_
  refine j_iload_n g 1 rfl dX5_mode_12 ?_
  refine j_put g fl_X5_41 fp_X5_5 0 cg_0 rfl rfl (Nat.le_of_ble_eq_true rfl) (ws' := (cgW a q sz pr pm kv kn kr kt kb ks kj kw kg wd fw ad bk x1 cr ow hd)) rfl dX5_mode_13 ?_
  refine j_iconst g (v := 1) (by decide) dX5_mode_16 ?_
  exact hret.go dX5_mode_17 (Or.inr rfl) h

set_option maxRecDepth 20000 in
def wp_X5_fill (x1 : Int32) (x2 : Int32) (sz : Int32) (kv : Nat → Int32) (kn : Nat → Int32) (kr : Nat → Int32) (kt : Nat → Int32) (bk : Nat → Int32) (K : Int32 → (Nat → Int32) → (Nat → Int32) → Prop) : Prop :=
  wp_X3_findCoin x1 sz kn (fun (o_1 : Option Nat)  => (o_1 = none → K (0 : Int32) kt bk) ∧ (∀ i_1 : Nat, o_1 = some i_1 → i_1 < 6 → ((x2 < 0 → K (0 : Int32) kt bk) ∧ (¬ x2 < 0 → wp_X0_free i_1 kr kt (fun (r_3 : Int32)  => ((x2 ≤ r_3 → (vp_in (3 : Int32) 6 ∧ (vp_in (3 : Int32) 6 ∧ K (1 : Int32) (upd kt i_1 ((kt i_1) + x2)) (upd bk (3 : Int32).toNatClampNeg ((bk (3 : Int32).toNatClampNeg) + (x2 * (kv i_1))))))) ∧ (¬ x2 ≤ r_3 → K (0 : Int32) kt bk)))))))
theorem dX5_fill_0 : decode cX5_fill 0 = .ok (.aload_n 0, 1) := by decide +kernel
theorem dX5_fill_1 : decode cX5_fill 1 = .ok (.getfield 12, 3) := by decide +kernel
theorem dX5_fill_4 : decode cX5_fill 4 = .ok (.iload_n 1, 1) := by decide +kernel
theorem dX5_fill_5 : decode cX5_fill 5 = .ok (.invokevirtual 61, 3) := by decide +kernel
theorem dX5_fill_8 : decode cX5_fill 8 = .ok (.astore_n 3, 1) := by decide +kernel
theorem dX5_fill_9 : decode cX5_fill 9 = .ok (.aload_n 3, 1) := by decide +kernel
theorem dX5_fill_10 : decode cX5_fill 10 = .ok (.ifnull 15, 3) := by decide +kernel
theorem dX5_fill_13 : decode cX5_fill 13 = .ok (.iload_n 2, 1) := by decide +kernel
theorem dX5_fill_14 : decode cX5_fill 14 = .ok (.ifCond .lt 11, 3) := by decide +kernel
theorem dX5_fill_17 : decode cX5_fill 17 = .ok (.iload_n 2, 1) := by decide +kernel
theorem dX5_fill_18 : decode cX5_fill 18 = .ok (.aload_n 3, 1) := by decide +kernel
theorem dX5_fill_19 : decode cX5_fill 19 = .ok (.invokevirtual 65, 3) := by decide +kernel
theorem dX5_fill_22 : decode cX5_fill 22 = .ok (.if_icmp .le 5, 3) := by decide +kernel
theorem dX5_fill_25 : decode cX5_fill 25 = .ok (.iconst 0, 1) := by decide +kernel
theorem dX5_fill_26 : decode cX5_fill 26 = .ok (.ireturn, 1) := by decide +kernel
theorem dX5_fill_27 : decode cX5_fill 27 = .ok (.aload_n 3, 1) := by decide +kernel
theorem dX5_fill_28 : decode cX5_fill 28 = .ok (.dup, 1) := by decide +kernel
theorem dX5_fill_29 : decode cX5_fill 29 = .ok (.getfield 71, 3) := by decide +kernel
theorem dX5_fill_32 : decode cX5_fill 32 = .ok (.iload_n 2, 1) := by decide +kernel
theorem dX5_fill_33 : decode cX5_fill 33 = .ok (.iadd, 1) := by decide +kernel
theorem dX5_fill_34 : decode cX5_fill 34 = .ok (.putfield 71, 3) := by decide +kernel
theorem dX5_fill_37 : decode cX5_fill 37 = .ok (.aload_n 0, 1) := by decide +kernel
theorem dX5_fill_38 : decode cX5_fill 38 = .ok (.getfield 37, 3) := by decide +kernel
theorem dX5_fill_41 : decode cX5_fill 41 = .ok (.iconst 3, 1) := by decide +kernel
theorem dX5_fill_42 : decode cX5_fill 42 = .ok (.dup2, 1) := by decide +kernel
theorem dX5_fill_43 : decode cX5_fill 43 = .ok (.iaload, 1) := by decide +kernel
theorem dX5_fill_44 : decode cX5_fill 44 = .ok (.iload_n 2, 1) := by decide +kernel
theorem dX5_fill_45 : decode cX5_fill 45 = .ok (.aload_n 3, 1) := by decide +kernel
theorem dX5_fill_46 : decode cX5_fill 46 = .ok (.getfield 74, 3) := by decide +kernel
theorem dX5_fill_49 : decode cX5_fill 49 = .ok (.imul, 1) := by decide +kernel
theorem dX5_fill_50 : decode cX5_fill 50 = .ok (.iadd, 1) := by decide +kernel
theorem dX5_fill_51 : decode cX5_fill 51 = .ok (.iastore, 1) := by decide +kernel
theorem dX5_fill_52 : decode cX5_fill 52 = .ok (.iconst 1, 1) := by decide +kernel
theorem dX5_fill_53 : decode cX5_fill 53 = .ok (.ireturn, 1) := by decide +kernel
set_option maxRecDepth 20000 in
set_option maxHeartbeats 4000000 in
theorem c_X5_fill {a : Nat → Nat} {q : Nat → ClassId} {x1 : Int32} {x2 : Int32}  {sz : Int32} {pr : Nat → Int32} {pm : Nat → Nat} {kv : Nat → Int32} {kn : Nat → Int32} {kr : Nat → Int32} {kt : Nat → Int32} {kb : Nat → Int32} {ks : Nat → Int32} {kj : Nat → Int32} {kw : Nat → Int32} {kg : Nat → Int32} {wd : Nat → Nat → Int64} {fw : Nat → Nat → Int32} {ad : Nat → Int32} {bk : Nat → Int32} {md : Int32} {cr : Int32} {ow : Int32} {hd : Int32} {K : Int32 → (Nat → Int32) → (Nat → Int32) → Prop} (h : wp_X5_fill x1 x2 sz kv kn kr kt bk K) : ctZ_2 q yX5_fill cX5_fill 4 2 43 [.ref (a 0), .int x1, .int x2] (cgW a q sz pr pm kv kn kr kt kb ks kj kw kg wd fw ad bk md cr ow hd) (fun (kt : Nat → Int32) (bk : Nat → Int32) => (cgW a q sz pr pm kv kn kr kt kb ks kj kw kg wd fw ad bk md cr ow hd)) K := by
  refine met_Z_2 (by decide) (Nat.le_of_ble_eq_true rfl) (fun Γ g hret => ?_)
  unfold wp_X5_fill at h
  show jw Γ 4 0 0 (cgW a q sz pr pm kv kn kr kt kb ks kj kw kg wd fw ad bk md cr ow hd) [(0, .ref (a 0)), (1, .int x1), (2, .int x2)] [] 0
  refine j_aload_n g 0 rfl dX5_fill_0 ?_
  refine j_get g fl_X5_12 0 cg_0 rfl dX5_fill_1 ?_
  refine j_iload_n g 1 rfl dX5_fill_4 ?_
  refine j_callVQ_0 g (As := [.int x1]) (st := []) (c_X3_findCoin  h) cl_X5_61 1 3 cg_1 rfl rfl (Nat.le_of_ble_eq_true rfl) (Nat.le_of_ble_eq_true rfl) (Nat.zero_le _) (Nat.zero_le _) rfl rfl (Nat.le_of_ble_eq_true rfl) dX5_fill_5 (fun  h => ?_) (fun i_1  hi_1 h => ?_)
  · replace h := h.1 rfl
    refine j_astore_nN g (lv' := [(3, .null), (0, .ref (a 0)), (1, .int x1), (2, .int x2)]) (by decide) rfl dX5_fill_8 ?_
    refine j_aload_nN g 0 rfl dX5_fill_9 ?_
    refine j_ifnullN g dX5_fill_10 (tgt := 25) (by decide) ?_
    refine j_iconst g (v := 0) (by decide) dX5_fill_25 ?_
    exact hret.go dX5_fill_26 (Or.inl rfl) h
  replace h := h.2 i_1 rfl hi_1
  refine j_astore_n g (lv' := [(3, .ref (a (11 + i_1))), (0, .ref (a 0)), (1, .int x1), (2, .int x2)]) (by decide) rfl dX5_fill_8 ?_
  refine j_aload_n g 0 rfl dX5_fill_9 ?_
  refine j_ifnull g dX5_fill_10 ?_
  refine j_iload_n g 3 rfl dX5_fill_13 ?_
  refine j_if_lt g dX5_fill_14 (tgt := 25) (by decide) (fun c2 => ?_) (fun c2 => ?_)
  · replace h := h.1 c2
    refine j_iconst g (v := 0) (by decide) dX5_fill_25 ?_
    exact hret.go dX5_fill_26 (Or.inl rfl) h
  replace h := h.2 c2
  refine j_iload_n g 3 rfl dX5_fill_17 ?_
  refine j_aload_n g 0 rfl dX5_fill_18 ?_
  refine j_callVI_0 g (As := []) (st := [.int x2]) (c_X0_free hi_1 h) cl_X5_65 (11 + i_1) 0 (cg_K hi_1) rfl rfl (Nat.le_of_ble_eq_true rfl) (Nat.le_of_ble_eq_true rfl) (Nat.zero_le _) (Nat.zero_le _) rfl rfl (Nat.le_of_ble_eq_true rfl) dX5_fill_19 (fun r_3   h => ?_)
  refine j_icmp_le g dX5_fill_22 (tgt := 27) (by decide) (fun c4 => ?_) (fun c4 => ?_)
  rotate_left
  · replace h := h.2 c4
    refine j_iconst g (v := 0) (by decide) dX5_fill_25 ?_
    exact hret.go dX5_fill_26 (Or.inl rfl) h
  replace h := h.1 c4
  refine j_aload_n g 0 rfl dX5_fill_27 ?_
  refine j_dup g rfl dX5_fill_28 ?_
  refine j_get g fl_X5_71 (11 + i_1) (cg_K hi_1) rfl dX5_fill_29 ?_
  refine j_iload_n g 3 rfl dX5_fill_32 ?_
  refine j_iadd g dX5_fill_33 ?_
  refine j_put g fl_X5_71 fp_X0_3 (11 + i_1) (cg_K hi_1) rfl rfl (Nat.le_of_ble_eq_true rfl) (ws' := (cgW a q sz pr pm kv kn kr (upd kt i_1 ((kt i_1) + x2)) kb ks kj kw kg wd fw ad bk md cr ow hd)) (cg_s_kt hi_1) dX5_fill_34 ?_
  refine j_aload_n g 1 rfl dX5_fill_37 ?_
  refine j_get g fl_X5_37 0 cg_0 rfl dX5_fill_38 ?_
  refine j_iconst g (v := 3) (by decide) dX5_fill_41 ?_
  refine j_dup2 g rfl rfl dX5_fill_42 ?_
  obtain ⟨hv5, h⟩ := h
  refine j_iald g 5 cg_5 hv5 dX5_fill_43 ?_
  refine j_iload_n g 3 rfl dX5_fill_44 ?_
  refine j_aload_n g 0 rfl dX5_fill_45 ?_
  refine j_get g fl_X5_74 (11 + i_1) (cg_K hi_1) rfl dX5_fill_46 ?_
  refine j_imul g dX5_fill_49 ?_
  refine j_iadd g dX5_fill_50 ?_
  obtain ⟨hv6, h⟩ := h
  refine j_iast g 5 cg_5 hv6 (ws' := (cgW a q sz pr pm kv kn kr (upd kt i_1 ((kt i_1) + x2)) kb ks kj kw kg wd fw ad (upd bk (3 : Int32).toNatClampNeg ((bk (3 : Int32).toNatClampNeg) + (x2 * (kv i_1)))) md cr ow hd)) rfl dX5_fill_51 ?_
  refine j_iconst g (v := 1) (by decide) dX5_fill_52 ?_
  exact hret.go dX5_fill_53 (Or.inr rfl) h

set_option maxRecDepth 20000 in
def wp_X5_stuck (x1 : Int32) (x2 : Int32) (sz : Int32) (kn : Nat → Int32) (ks : Nat → Int32) (K : Int32 → (Nat → Int32) → Prop) : Prop :=
  wp_X3_findCoin x1 sz kn (fun (o_1 : Option Nat)  => (o_1 = none → K (0 : Int32) ks) ∧ (∀ i_1 : Nat, o_1 = some i_1 → i_1 < 6 → ((¬ ks i_1 = x2 → K (1 : Int32) (upd ks i_1 x2)) ∧ (ks i_1 = x2 → K (0 : Int32) ks))))
theorem dX5_stuck_0 : decode cX5_stuck 0 = .ok (.aload_n 0, 1) := by decide +kernel
theorem dX5_stuck_1 : decode cX5_stuck 1 = .ok (.getfield 12, 3) := by decide +kernel
theorem dX5_stuck_4 : decode cX5_stuck 4 = .ok (.iload_n 1, 1) := by decide +kernel
theorem dX5_stuck_5 : decode cX5_stuck 5 = .ok (.invokevirtual 61, 3) := by decide +kernel
theorem dX5_stuck_8 : decode cX5_stuck 8 = .ok (.astore_n 3, 1) := by decide +kernel
theorem dX5_stuck_9 : decode cX5_stuck 9 = .ok (.aload_n 3, 1) := by decide +kernel
theorem dX5_stuck_10 : decode cX5_stuck 10 = .ok (.ifnull 11, 3) := by decide +kernel
theorem dX5_stuck_13 : decode cX5_stuck 13 = .ok (.aload_n 3, 1) := by decide +kernel
theorem dX5_stuck_14 : decode cX5_stuck 14 = .ok (.getfield 77, 3) := by decide +kernel
theorem dX5_stuck_17 : decode cX5_stuck 17 = .ok (.iload_n 2, 1) := by decide +kernel
theorem dX5_stuck_18 : decode cX5_stuck 18 = .ok (.if_icmp .ne 5, 3) := by decide +kernel
theorem dX5_stuck_21 : decode cX5_stuck 21 = .ok (.iconst 0, 1) := by decide +kernel
theorem dX5_stuck_22 : decode cX5_stuck 22 = .ok (.ireturn, 1) := by decide +kernel
theorem dX5_stuck_23 : decode cX5_stuck 23 = .ok (.aload_n 3, 1) := by decide +kernel
theorem dX5_stuck_24 : decode cX5_stuck 24 = .ok (.iload_n 2, 1) := by decide +kernel
theorem dX5_stuck_25 : decode cX5_stuck 25 = .ok (.putfield 77, 3) := by decide +kernel
theorem dX5_stuck_28 : decode cX5_stuck 28 = .ok (.iconst 1, 1) := by decide +kernel
theorem dX5_stuck_29 : decode cX5_stuck 29 = .ok (.ireturn, 1) := by decide +kernel
set_option maxRecDepth 20000 in
set_option maxHeartbeats 4000000 in
theorem c_X5_stuck {a : Nat → Nat} {q : Nat → ClassId} {x1 : Int32} {x2 : Int32} (hz2 : x2 = 0 ∨ x2 = 1) {sz : Int32} {pr : Nat → Int32} {pm : Nat → Nat} {kv : Nat → Int32} {kn : Nat → Int32} {kr : Nat → Int32} {kt : Nat → Int32} {kb : Nat → Int32} {ks : Nat → Int32} {kj : Nat → Int32} {kw : Nat → Int32} {kg : Nat → Int32} {wd : Nat → Nat → Int64} {fw : Nat → Nat → Int32} {ad : Nat → Int32} {bk : Nat → Int32} {md : Int32} {cr : Int32} {ow : Int32} {hd : Int32} {K : Int32 → (Nat → Int32) → Prop} (h : wp_X5_stuck x1 x2 sz kn ks K) : ctZ_1 q yX5_stuck cX5_stuck 4 2 43 [.ref (a 0), .int x1, .int x2] (cgW a q sz pr pm kv kn kr kt kb ks kj kw kg wd fw ad bk md cr ow hd) (fun (ks : Nat → Int32) => (cgW a q sz pr pm kv kn kr kt kb ks kj kw kg wd fw ad bk md cr ow hd)) K := by
  refine met_Z_1 (by decide) (Nat.le_of_ble_eq_true rfl) (fun Γ g hret => ?_)
  unfold wp_X5_stuck at h
  show jw Γ 4 0 0 (cgW a q sz pr pm kv kn kr kt kb ks kj kw kg wd fw ad bk md cr ow hd) [(0, .ref (a 0)), (1, .int x1), (2, .int x2)] [] 0
  refine j_aload_n g 0 rfl dX5_stuck_0 ?_
  refine j_get g fl_X5_12 0 cg_0 rfl dX5_stuck_1 ?_
  refine j_iload_n g 1 rfl dX5_stuck_4 ?_
  refine j_callVQ_0 g (As := [.int x1]) (st := []) (c_X3_findCoin  h) cl_X5_61 1 3 cg_1 rfl rfl (Nat.le_of_ble_eq_true rfl) (Nat.le_of_ble_eq_true rfl) (Nat.zero_le _) (Nat.zero_le _) rfl rfl (Nat.le_of_ble_eq_true rfl) dX5_stuck_5 (fun  h => ?_) (fun i_1  hi_1 h => ?_)
  · replace h := h.1 rfl
    refine j_astore_nN g (lv' := [(3, .null), (0, .ref (a 0)), (1, .int x1), (2, .int x2)]) (by decide) rfl dX5_stuck_8 ?_
    refine j_aload_nN g 0 rfl dX5_stuck_9 ?_
    refine j_ifnullN g dX5_stuck_10 (tgt := 21) (by decide) ?_
    refine j_iconst g (v := 0) (by decide) dX5_stuck_21 ?_
    exact hret.go dX5_stuck_22 (Or.inl rfl) h
  replace h := h.2 i_1 rfl hi_1
  refine j_astore_n g (lv' := [(3, .ref (a (11 + i_1))), (0, .ref (a 0)), (1, .int x1), (2, .int x2)]) (by decide) rfl dX5_stuck_8 ?_
  refine j_aload_n g 0 rfl dX5_stuck_9 ?_
  refine j_ifnull g dX5_stuck_10 ?_
  refine j_aload_n g 0 rfl dX5_stuck_13 ?_
  refine j_get g fl_X5_77 (11 + i_1) (cg_K hi_1) rfl dX5_stuck_14 ?_
  refine j_iload_n g 3 rfl dX5_stuck_17 ?_
  refine j_icmp_ne g dX5_stuck_18 (tgt := 23) (by decide) (fun c2 => ?_) (fun c2 => ?_)
  rotate_left
  · replace h := h.2 c2
    refine j_iconst g (v := 0) (by decide) dX5_stuck_21 ?_
    exact hret.go dX5_stuck_22 (Or.inl rfl) h
  replace h := h.1 c2
  refine j_aload_n g 0 rfl dX5_stuck_23 ?_
  refine j_iload_n g 3 rfl dX5_stuck_24 ?_
  refine j_put g fl_X5_77 fp_X0_5 (11 + i_1) (cg_K hi_1) (nz_z hz2) (nz_f hz2) (Nat.le_of_ble_eq_true rfl) (ws' := (cgW a q sz pr pm kv kn kr kt kb (upd ks i_1 x2) kj kw kg wd fw ad bk md cr ow hd)) (cg_s_ks hi_1) dX5_stuck_25 ?_
  refine j_iconst g (v := 1) (by decide) dX5_stuck_28 ?_
  exact hret.go dX5_stuck_29 (Or.inr rfl) h

set_option maxRecDepth 20000 in
def wp_X5_jam (x1 : Int32) (x2 : Int32) (sz : Int32) (kn : Nat → Int32) (kj : Nat → Int32) (K : Int32 → (Nat → Int32) → Prop) : Prop :=
  wp_X3_findCoin x1 sz kn (fun (o_1 : Option Nat)  => (o_1 = none → K (0 : Int32) kj) ∧ (∀ i_1 : Nat, o_1 = some i_1 → i_1 < 6 → ((x2 < (-1 : Int32) → K (0 : Int32) kj) ∧ (¬ x2 < (-1 : Int32) → ((x2 ≤ (99 : Int32) → K (1 : Int32) (upd kj i_1 x2)) ∧ (¬ x2 ≤ (99 : Int32) → K (0 : Int32) kj))))))
theorem dX5_jam_0 : decode cX5_jam 0 = .ok (.aload_n 0, 1) := by decide +kernel
theorem dX5_jam_1 : decode cX5_jam 1 = .ok (.getfield 12, 3) := by decide +kernel
theorem dX5_jam_4 : decode cX5_jam 4 = .ok (.iload_n 1, 1) := by decide +kernel
theorem dX5_jam_5 : decode cX5_jam 5 = .ok (.invokevirtual 61, 3) := by decide +kernel
theorem dX5_jam_8 : decode cX5_jam 8 = .ok (.astore_n 3, 1) := by decide +kernel
theorem dX5_jam_9 : decode cX5_jam 9 = .ok (.aload_n 3, 1) := by decide +kernel
theorem dX5_jam_10 : decode cX5_jam 10 = .ok (.ifnull 14, 3) := by decide +kernel
theorem dX5_jam_13 : decode cX5_jam 13 = .ok (.iload_n 2, 1) := by decide +kernel
theorem dX5_jam_14 : decode cX5_jam 14 = .ok (.iconst (-1), 1) := by decide +kernel
theorem dX5_jam_15 : decode cX5_jam 15 = .ok (.if_icmp .lt 9, 3) := by decide +kernel
theorem dX5_jam_18 : decode cX5_jam 18 = .ok (.iload_n 2, 1) := by decide +kernel
theorem dX5_jam_19 : decode cX5_jam 19 = .ok (.bipush 99, 2) := by decide +kernel
theorem dX5_jam_21 : decode cX5_jam 21 = .ok (.if_icmp .le 5, 3) := by decide +kernel
theorem dX5_jam_24 : decode cX5_jam 24 = .ok (.iconst 0, 1) := by decide +kernel
theorem dX5_jam_25 : decode cX5_jam 25 = .ok (.ireturn, 1) := by decide +kernel
theorem dX5_jam_26 : decode cX5_jam 26 = .ok (.aload_n 3, 1) := by decide +kernel
theorem dX5_jam_27 : decode cX5_jam 27 = .ok (.iload_n 2, 1) := by decide +kernel
theorem dX5_jam_28 : decode cX5_jam 28 = .ok (.putfield 81, 3) := by decide +kernel
theorem dX5_jam_31 : decode cX5_jam 31 = .ok (.iconst 1, 1) := by decide +kernel
theorem dX5_jam_32 : decode cX5_jam 32 = .ok (.ireturn, 1) := by decide +kernel
set_option maxRecDepth 20000 in
set_option maxHeartbeats 4000000 in
theorem c_X5_jam {a : Nat → Nat} {q : Nat → ClassId} {x1 : Int32} {x2 : Int32}  {sz : Int32} {pr : Nat → Int32} {pm : Nat → Nat} {kv : Nat → Int32} {kn : Nat → Int32} {kr : Nat → Int32} {kt : Nat → Int32} {kb : Nat → Int32} {ks : Nat → Int32} {kj : Nat → Int32} {kw : Nat → Int32} {kg : Nat → Int32} {wd : Nat → Nat → Int64} {fw : Nat → Nat → Int32} {ad : Nat → Int32} {bk : Nat → Int32} {md : Int32} {cr : Int32} {ow : Int32} {hd : Int32} {K : Int32 → (Nat → Int32) → Prop} (h : wp_X5_jam x1 x2 sz kn kj K) : ctZ_1 q yX5_jam cX5_jam 4 2 43 [.ref (a 0), .int x1, .int x2] (cgW a q sz pr pm kv kn kr kt kb ks kj kw kg wd fw ad bk md cr ow hd) (fun (kj : Nat → Int32) => (cgW a q sz pr pm kv kn kr kt kb ks kj kw kg wd fw ad bk md cr ow hd)) K := by
  refine met_Z_1 (by decide) (Nat.le_of_ble_eq_true rfl) (fun Γ g hret => ?_)
  unfold wp_X5_jam at h
  show jw Γ 4 0 0 (cgW a q sz pr pm kv kn kr kt kb ks kj kw kg wd fw ad bk md cr ow hd) [(0, .ref (a 0)), (1, .int x1), (2, .int x2)] [] 0
  refine j_aload_n g 0 rfl dX5_jam_0 ?_
  refine j_get g fl_X5_12 0 cg_0 rfl dX5_jam_1 ?_
  refine j_iload_n g 1 rfl dX5_jam_4 ?_
  refine j_callVQ_0 g (As := [.int x1]) (st := []) (c_X3_findCoin  h) cl_X5_61 1 3 cg_1 rfl rfl (Nat.le_of_ble_eq_true rfl) (Nat.le_of_ble_eq_true rfl) (Nat.zero_le _) (Nat.zero_le _) rfl rfl (Nat.le_of_ble_eq_true rfl) dX5_jam_5 (fun  h => ?_) (fun i_1  hi_1 h => ?_)
  · replace h := h.1 rfl
    refine j_astore_nN g (lv' := [(3, .null), (0, .ref (a 0)), (1, .int x1), (2, .int x2)]) (by decide) rfl dX5_jam_8 ?_
    refine j_aload_nN g 0 rfl dX5_jam_9 ?_
    refine j_ifnullN g dX5_jam_10 (tgt := 24) (by decide) ?_
    refine j_iconst g (v := 0) (by decide) dX5_jam_24 ?_
    exact hret.go dX5_jam_25 (Or.inl rfl) h
  replace h := h.2 i_1 rfl hi_1
  refine j_astore_n g (lv' := [(3, .ref (a (11 + i_1))), (0, .ref (a 0)), (1, .int x1), (2, .int x2)]) (by decide) rfl dX5_jam_8 ?_
  refine j_aload_n g 0 rfl dX5_jam_9 ?_
  refine j_ifnull g dX5_jam_10 ?_
  refine j_iload_n g 3 rfl dX5_jam_13 ?_
  refine j_iconst g (v := -1) (by decide) dX5_jam_14 ?_
  refine j_icmp_lt g dX5_jam_15 (tgt := 24) (by decide) (fun c2 => ?_) (fun c2 => ?_)
  · replace h := h.1 c2
    refine j_iconst g (v := 0) (by decide) dX5_jam_24 ?_
    exact hret.go dX5_jam_25 (Or.inl rfl) h
  replace h := h.2 c2
  refine j_iload_n g 3 rfl dX5_jam_18 ?_
  refine j_bipush g (v := 99) (by decide) dX5_jam_19 ?_
  refine j_icmp_le g dX5_jam_21 (tgt := 26) (by decide) (fun c3 => ?_) (fun c3 => ?_)
  rotate_left
  · replace h := h.2 c3
    refine j_iconst g (v := 0) (by decide) dX5_jam_24 ?_
    exact hret.go dX5_jam_25 (Or.inl rfl) h
  replace h := h.1 c3
  refine j_aload_n g 0 rfl dX5_jam_26 ?_
  refine j_iload_n g 3 rfl dX5_jam_27 ?_
  refine j_put g fl_X5_81 fp_X0_6 (11 + i_1) (cg_K hi_1) rfl rfl (Nat.le_of_ble_eq_true rfl) (ws' := (cgW a q sz pr pm kv kn kr kt kb ks (upd kj i_1 x2) kw kg wd fw ad bk md cr ow hd)) (cg_s_kj hi_1) dX5_jam_28 ?_
  refine j_iconst g (v := 1) (by decide) dX5_jam_31 ?_
  exact hret.go dX5_jam_32 (Or.inr rfl) h

set_option maxRecDepth 20000 in
def wp_X5_heldValue  (sz : Int32) (kv : Nat → Int32) (hd : Int32) (K : Int32 → Prop) : Prop :=
  wp_X3_find hd sz (fun (o_1 : Option Nat)  => (o_1 = none → K (0 : Int32)) ∧ (∀ i_1 : Nat, o_1 = some i_1 → i_1 < 6 → K (kv i_1)))
theorem dX5_heldValue_0 : decode cX5_heldValue 0 = .ok (.aload_n 0, 1) := by decide +kernel
theorem dX5_heldValue_1 : decode cX5_heldValue 1 = .ok (.getfield 12, 3) := by decide +kernel
theorem dX5_heldValue_4 : decode cX5_heldValue 4 = .ok (.aload_n 0, 1) := by decide +kernel
theorem dX5_heldValue_5 : decode cX5_heldValue 5 = .ok (.getfield 51, 3) := by decide +kernel
theorem dX5_heldValue_8 : decode cX5_heldValue 8 = .ok (.invokevirtual 84, 3) := by decide +kernel
theorem dX5_heldValue_11 : decode cX5_heldValue 11 = .ok (.astore_n 1, 1) := by decide +kernel
theorem dX5_heldValue_12 : decode cX5_heldValue 12 = .ok (.aload_n 1, 1) := by decide +kernel
theorem dX5_heldValue_13 : decode cX5_heldValue 13 = .ok (.ifnonnull 7, 3) := by decide +kernel
theorem dX5_heldValue_16 : decode cX5_heldValue 16 = .ok (.iconst 0, 1) := by decide +kernel
theorem dX5_heldValue_17 : decode cX5_heldValue 17 = .ok (.goto 7, 3) := by decide +kernel
theorem dX5_heldValue_20 : decode cX5_heldValue 20 = .ok (.aload_n 1, 1) := by decide +kernel
theorem dX5_heldValue_21 : decode cX5_heldValue 21 = .ok (.getfield 74, 3) := by decide +kernel
theorem dX5_heldValue_24 : decode cX5_heldValue 24 = .ok (.ireturn, 1) := by decide +kernel
set_option maxRecDepth 20000 in
set_option maxHeartbeats 4000000 in
theorem c_X5_heldValue {a : Nat → Nat} {q : Nat → ClassId}   {sz : Int32} {pr : Nat → Int32} {pm : Nat → Nat} {kv : Nat → Int32} {kn : Nat → Int32} {kr : Nat → Int32} {kt : Nat → Int32} {kb : Nat → Int32} {ks : Nat → Int32} {kj : Nat → Int32} {kw : Nat → Int32} {kg : Nat → Int32} {wd : Nat → Nat → Int64} {fw : Nat → Nat → Int32} {ad : Nat → Int32} {bk : Nat → Int32} {md : Int32} {cr : Int32} {ow : Int32} {hd : Int32} {K : Int32 → Prop} (h : wp_X5_heldValue sz kv hd K) : ctI_0 q yX5_heldValue cX5_heldValue 2 1 21 [.ref (a 0)] (cgW a q sz pr pm kv kn kr kt kb ks kj kw kg wd fw ad bk md cr ow hd) (cgW a q sz pr pm kv kn kr kt kb ks kj kw kg wd fw ad bk md cr ow hd) K := by
  refine met_I_0 (by decide) (Nat.le_of_ble_eq_true rfl) (fun Γ g hret => ?_)
  unfold wp_X5_heldValue at h
  show jw Γ 2 0 0 (cgW a q sz pr pm kv kn kr kt kb ks kj kw kg wd fw ad bk md cr ow hd) [(0, .ref (a 0))] [] 0
  refine j_aload_n g 0 rfl dX5_heldValue_0 ?_
  refine j_get g fl_X5_12 0 cg_0 rfl dX5_heldValue_1 ?_
  refine j_aload_n g 0 rfl dX5_heldValue_4 ?_
  refine j_get g fl_X5_51 0 cg_0 rfl dX5_heldValue_5 ?_
  refine j_callVQ_0 g (As := [.int hd]) (st := []) (c_X3_find  h) cl_X5_84 1 3 cg_1 rfl rfl (Nat.le_of_ble_eq_true rfl) (Nat.le_of_ble_eq_true rfl) (Nat.zero_le _) (Nat.zero_le _) rfl rfl (Nat.le_of_ble_eq_true rfl) dX5_heldValue_8 (fun  h => ?_) (fun i_1  hi_1 h => ?_)
  · replace h := h.1 rfl
    refine j_astore_nN g (lv' := [(1, .null), (0, .ref (a 0))]) (by decide) rfl dX5_heldValue_11 ?_
    refine j_aload_nN g 0 rfl dX5_heldValue_12 ?_
    refine j_ifnonnullN g dX5_heldValue_13 ?_
    refine j_iconst g (v := 0) (by decide) dX5_heldValue_16 ?_
    refine j_goto g dX5_heldValue_17 (tgt := 24) (by decide) ?_
    exact hret.go dX5_heldValue_24 h
  replace h := h.2 i_1 rfl hi_1
  refine j_astore_n g (lv' := [(1, .ref (a (11 + i_1))), (0, .ref (a 0))]) (by decide) rfl dX5_heldValue_11 ?_
  refine j_aload_n g 0 rfl dX5_heldValue_12 ?_
  refine j_ifnonnull g dX5_heldValue_13 (tgt := 20) (by decide) ?_
  refine j_aload_n g 0 rfl dX5_heldValue_20 ?_
  refine j_get g fl_X5_74 (11 + i_1) (cg_K hi_1) rfl dX5_heldValue_21 ?_
  exact hret.go dX5_heldValue_24 h

set_option maxRecDepth 20000 in
def wp_X5_canTake (i1 : Nat) (sz : Int32) (pr : Nat → Int32) (kv : Nat → Int32) (kn : Nat → Int32) (kr : Nat → Int32) (kt : Nat → Int32) (ks : Nat → Int32) (wd : Nat → Nat → Int64) (cr : Int32) (hd : Int32) (K : Int32 → (Nat → Nat → Int64) → Prop) : Prop :=
  jn (fun (Z1 : Prop) => ((kn i1 = 0 → Z1) ∧ (¬ kn i1 = 0 → ((hd = (-1 : Int32) → Z1) ∧ (¬ hd = (-1 : Int32) → K (0 : Int32) wd))))) (wp_X3_collect 0 (0 : Int32) sz kv kn kt ks wd (fun (wd_2 : Nat → Nat → Int64) => jn (fun (Z3 : Int32 → Prop) => ((kn i1 = 0 → wp_X5_heldValue sz kv hd (fun (r_9 : Int32)  => Z3 r_9)) ∧ (¬ kn i1 = 0 → Z3 (kv i1)))) (fun (xs0_3 : Int32) => wp_X0_free i1 kr kt (fun (r_4 : Int32)  => jn (fun (Z5 : Int32 → Prop) => ((r_4 ≤ 0 → Z5 (0 : Int32)) ∧ (¬ r_4 ≤ 0 → Z5 (1 : Int32)))) (fun (xs0_5 : Int32) => wp_X3_mayTake i1 xs0_5 0 (cr + (kv i1)) xs0_3 pr kv kn ks wd_2 (fun (r_6 : Int32)  => K r_6 wd_2))))))
theorem dX5_canTake_0 : decode cX5_canTake 0 = .ok (.aload_n 1, 1) := by decide +kernel
theorem dX5_canTake_1 : decode cX5_canTake 1 = .ok (.getfield 91, 3) := by decide +kernel
theorem dX5_canTake_4 : decode cX5_canTake 4 = .ok (.ifCond .eq 13, 3) := by decide +kernel
theorem dX5_canTake_7 : decode cX5_canTake 7 = .ok (.aload_n 0, 1) := by decide +kernel
theorem dX5_canTake_8 : decode cX5_canTake 8 = .ok (.getfield 51, 3) := by decide +kernel
theorem dX5_canTake_11 : decode cX5_canTake 11 = .ok (.iconst (-1), 1) := by decide +kernel
theorem dX5_canTake_12 : decode cX5_canTake 12 = .ok (.if_icmp .eq 5, 3) := by decide +kernel
theorem dX5_canTake_15 : decode cX5_canTake 15 = .ok (.iconst 0, 1) := by decide +kernel
theorem dX5_canTake_16 : decode cX5_canTake 16 = .ok (.ireturn, 1) := by decide +kernel
theorem dX5_canTake_17 : decode cX5_canTake 17 = .ok (.aload_n 0, 1) := by decide +kernel
theorem dX5_canTake_18 : decode cX5_canTake 18 = .ok (.getfield 12, 3) := by decide +kernel
theorem dX5_canTake_21 : decode cX5_canTake 21 = .ok (.aload_n 0, 1) := by decide +kernel
theorem dX5_canTake_22 : decode cX5_canTake 22 = .ok (.getfield 19, 3) := by decide +kernel
theorem dX5_canTake_25 : decode cX5_canTake 25 = .ok (.iconst 0, 1) := by decide +kernel
theorem dX5_canTake_26 : decode cX5_canTake 26 = .ok (.invokevirtual 123, 3) := by decide +kernel
theorem dX5_canTake_29 : decode cX5_canTake 29 = .ok (.aload_n 1, 1) := by decide +kernel
theorem dX5_canTake_30 : decode cX5_canTake 30 = .ok (.getfield 91, 3) := by decide +kernel
theorem dX5_canTake_33 : decode cX5_canTake 33 = .ok (.ifCond .eq 10, 3) := by decide +kernel
theorem dX5_canTake_36 : decode cX5_canTake 36 = .ok (.aload_n 1, 1) := by decide +kernel
theorem dX5_canTake_37 : decode cX5_canTake 37 = .ok (.getfield 74, 3) := by decide +kernel
theorem dX5_canTake_40 : decode cX5_canTake 40 = .ok (.goto 7, 3) := by decide +kernel
theorem dX5_canTake_43 : decode cX5_canTake 43 = .ok (.aload_n 0, 1) := by decide +kernel
theorem dX5_canTake_44 : decode cX5_canTake 44 = .ok (.invokevirtual 107, 3) := by decide +kernel
theorem dX5_canTake_47 : decode cX5_canTake 47 = .ok (.istore_n 2, 1) := by decide +kernel
theorem dX5_canTake_48 : decode cX5_canTake 48 = .ok (.aload_n 0, 1) := by decide +kernel
theorem dX5_canTake_49 : decode cX5_canTake 49 = .ok (.getfield 12, 3) := by decide +kernel
theorem dX5_canTake_52 : decode cX5_canTake 52 = .ok (.aload_n 1, 1) := by decide +kernel
theorem dX5_canTake_53 : decode cX5_canTake 53 = .ok (.aload_n 1, 1) := by decide +kernel
theorem dX5_canTake_54 : decode cX5_canTake 54 = .ok (.invokevirtual 65, 3) := by decide +kernel
theorem dX5_canTake_57 : decode cX5_canTake 57 = .ok (.ifCond .le 7, 3) := by decide +kernel
theorem dX5_canTake_60 : decode cX5_canTake 60 = .ok (.iconst 1, 1) := by decide +kernel
theorem dX5_canTake_61 : decode cX5_canTake 61 = .ok (.goto 4, 3) := by decide +kernel
theorem dX5_canTake_64 : decode cX5_canTake 64 = .ok (.iconst 0, 1) := by decide +kernel
theorem dX5_canTake_65 : decode cX5_canTake 65 = .ok (.aload_n 0, 1) := by decide +kernel
theorem dX5_canTake_66 : decode cX5_canTake 66 = .ok (.getfield 19, 3) := by decide +kernel
theorem dX5_canTake_69 : decode cX5_canTake 69 = .ok (.aload_n 0, 1) := by decide +kernel
theorem dX5_canTake_70 : decode cX5_canTake 70 = .ok (.getfield 45, 3) := by decide +kernel
theorem dX5_canTake_73 : decode cX5_canTake 73 = .ok (.aload_n 1, 1) := by decide +kernel
theorem dX5_canTake_74 : decode cX5_canTake 74 = .ok (.getfield 74, 3) := by decide +kernel
theorem dX5_canTake_77 : decode cX5_canTake 77 = .ok (.iadd, 1) := by decide +kernel
theorem dX5_canTake_78 : decode cX5_canTake 78 = .ok (.iload_n 2, 1) := by decide +kernel
theorem dX5_canTake_79 : decode cX5_canTake 79 = .ok (.invokevirtual 156, 3) := by decide +kernel
theorem dX5_canTake_82 : decode cX5_canTake 82 = .ok (.ireturn, 1) := by decide +kernel
set_option maxRecDepth 20000 in
set_option maxHeartbeats 4000000 in
theorem c_X5_canTake {a : Nat → Nat} {q : Nat → ClassId} {i1 : Nat} (hi1 : i1 < 6) {sz : Int32} {pr : Nat → Int32} {pm : Nat → Nat} {kv : Nat → Int32} {kn : Nat → Int32} {kr : Nat → Int32} {kt : Nat → Int32} {kb : Nat → Int32} {ks : Nat → Int32} {kj : Nat → Int32} {kw : Nat → Int32} {kg : Nat → Int32} {wd : Nat → Nat → Int64} {fw : Nat → Nat → Int32} {ad : Nat → Int32} {bk : Nat → Int32} {md : Int32} {cr : Int32} {ow : Int32} {hd : Int32} {K : Int32 → (Nat → Nat → Int64) → Prop} (h : wp_X5_canTake i1 sz pr kv kn kr kt ks wd cr hd K) : ctZ_1 q yX5_canTake cX5_canTake 3 3 74 [.ref (a 0), .ref (a (11 + i1))] (cgW a q sz pr pm kv kn kr kt kb ks kj kw kg wd fw ad bk md cr ow hd) (fun (wd : Nat → Nat → Int64) => (cgW a q sz pr pm kv kn kr kt kb ks kj kw kg wd fw ad bk md cr ow hd)) K := by
  refine met_Z_1 (by decide) (Nat.le_of_ble_eq_true rfl) (fun Γ g hret => ?_)
  unfold wp_X5_canTake at h
  show jw Γ 3 0 0 (cgW a q sz pr pm kv kn kr kt kb ks kj kw kg wd fw ad bk md cr ow hd) [(0, .ref (a 0)), (1, .ref (a (11 + i1)))] [] 0
  refine j_aload_n g 1 rfl dX5_canTake_0 ?_
  refine j_get g fl_X5_91 (11 + i1) (cg_K hi1) rfl dX5_canTake_1 ?_
  refine jn_cut h (fun Z1 eZ1 h => ?_)
  have hZ1 : Z1 → jw Γ 3 0 0 (cgW a q sz pr pm kv kn kr kt kb ks kj kw kg wd fw ad bk md cr ow hd) [(0, .ref (a 0)), (1, .ref (a (11 + i1)))] [] 17 := by
    intro h
    rw [eZ1] at h
    refine j_aload_n g 0 rfl dX5_canTake_17 ?_
    refine j_get g fl_X5_12 0 cg_0 rfl dX5_canTake_18 ?_
    refine j_aload_n g 0 rfl dX5_canTake_21 ?_
    refine j_get g fl_X5_19 0 cg_0 rfl dX5_canTake_22 ?_
    refine j_iconst g (v := 0) (by decide) dX5_canTake_25 ?_
    refine j_callVV_1 g (As := [.ref (a (17 + 0)), .int (0 : Int32)]) (st := []) (c_X3_collect (Nat.zero_lt_succ 5) h) cl_X5_123 1 3 cg_1 rfl rfl (Nat.le_of_ble_eq_true rfl) (Nat.le_of_ble_eq_true rfl) (Nat.zero_le _) (Nat.zero_le _) rfl rfl (Nat.le_of_ble_eq_true rfl) dX5_canTake_26 (fun wd_2 h => ?_)
    refine j_ws (ws' := (cgW a q sz pr pm kv kn kr kt kb ks kj kw kg wd_2 fw ad bk md cr ow hd)) rfl ?_
    refine j_aload_n g 1 rfl dX5_canTake_29 ?_
    refine j_get g fl_X5_91 (11 + i1) (cg_K hi1) rfl dX5_canTake_30 ?_
    refine jn_cut h (fun Z3 eZ3 h => ?_)
    have hZ3 : ∀ (xs0_3 : Int32), Z3 xs0_3 → jw Γ 3 0 0 (cgW a q sz pr pm kv kn kr kt kb ks kj kw kg wd_2 fw ad bk md cr ow hd) [(0, .ref (a 0)), (1, .ref (a (11 + i1)))] [.int xs0_3] 47 := by
      intro xs0_3 h
      rw [eZ3] at h
      refine j_istore_n g (lv' := [(2, .int xs0_3), (0, .ref (a 0)), (1, .ref (a (11 + i1)))]) (by decide) rfl dX5_canTake_47 ?_
      refine j_aload_n g 1 rfl dX5_canTake_48 ?_
      refine j_get g fl_X5_12 0 cg_0 rfl dX5_canTake_49 ?_
      refine j_aload_n g 2 rfl dX5_canTake_52 ?_
      refine j_aload_n g 2 rfl dX5_canTake_53 ?_
      refine j_callVI_0 g (As := []) (st := [.ref (a (11 + i1)), .ref (a 1)]) (c_X0_free hi1 h) cl_X5_65 (11 + i1) 0 (cg_K hi1) rfl rfl (Nat.le_of_ble_eq_true rfl) (Nat.le_of_ble_eq_true rfl) (Nat.zero_le _) (Nat.zero_le _) rfl rfl (Nat.le_of_ble_eq_true rfl) dX5_canTake_54 (fun r_4   h => ?_)
      refine jn_cut h (fun Z5 eZ5 h => ?_)
      have hZ5 : ∀ (xs0_5 : Int32), (xs0_5 = 0 ∨ xs0_5 = 1) → Z5 xs0_5 → jw Γ 3 0 0 (cgW a q sz pr pm kv kn kr kt kb ks kj kw kg wd_2 fw ad bk md cr ow hd) [(0, .ref (a 0)), (1, .ref (a (11 + i1))), (2, .int xs0_3)] [.int xs0_5, .ref (a (11 + i1)), .ref (a 1)] 65 := by
        intro xs0_5 hbs0_5 h
        rw [eZ5] at h
        refine j_aload_n g 0 rfl dX5_canTake_65 ?_
        refine j_get g fl_X5_19 0 cg_0 rfl dX5_canTake_66 ?_
        refine j_aload_n g 0 rfl dX5_canTake_69 ?_
        refine j_get g fl_X5_45 0 cg_0 rfl dX5_canTake_70 ?_
        refine j_aload_n g 1 rfl dX5_canTake_73 ?_
        refine j_get g fl_X5_74 (11 + i1) (cg_K hi1) rfl dX5_canTake_74 ?_
        refine j_iadd g dX5_canTake_77 ?_
        refine j_iload_n g 2 rfl dX5_canTake_78 ?_
        refine j_callVZ_0 g (As := [.ref (a (11 + i1)), .int xs0_5, .ref (a (17 + 0)), .int (cr + (kv i1)), .int xs0_3]) (st := []) (c_X3_mayTake hi1 hbs0_5 (Nat.zero_lt_succ 5) h) cl_X5_156 1 3 cg_1 rfl rfl (Nat.le_of_ble_eq_true rfl) (Nat.le_of_ble_eq_true rfl) (Nat.zero_le _) (Nat.zero_le _) rfl rfl (Nat.le_of_ble_eq_true rfl) dX5_canTake_79 (fun r_6  hz_6 h => ?_)
        exact hret.go dX5_canTake_82 hz_6 h
      refine j_if_le g dX5_canTake_57 (tgt := 64) (by decide) (fun c7 => ?_) (fun c7 => ?_)
      · replace h := h.1 c7
        refine j_iconst g (v := 0) (by decide) dX5_canTake_64 ?_
        refine j_sub [1, 2, 0] rfl ?_
        exact hZ5 (0 : Int32) (Or.inl rfl) h
      replace h := h.2 c7
      refine j_iconst g (v := 1) (by decide) dX5_canTake_60 ?_
      refine j_goto g dX5_canTake_61 (tgt := 65) (by decide) ?_
      refine j_sub [1, 2, 0] rfl ?_
      exact hZ5 (1 : Int32) (Or.inr rfl) h
    refine j_if_eq g dX5_canTake_33 (tgt := 43) (by decide) (fun c8 => ?_) (fun c8 => ?_)
    · replace h := h.1 c8
      refine j_aload_n g 0 rfl dX5_canTake_43 ?_
      refine j_callVI_0 g (As := []) (st := []) (c_X5_heldValue  h) cl_X5_107 0 5 cg_0 rfl rfl (Nat.le_of_ble_eq_true rfl) (Nat.le_of_ble_eq_true rfl) (Nat.zero_le _) (Nat.zero_le _) rfl rfl (Nat.le_of_ble_eq_true rfl) dX5_canTake_44 (fun r_9   h => ?_)
      exact hZ3 r_9 h
    replace h := h.2 c8
    refine j_aload_n g 1 rfl dX5_canTake_36 ?_
    refine j_get g fl_X5_74 (11 + i1) (cg_K hi1) rfl dX5_canTake_37 ?_
    refine j_goto g dX5_canTake_40 (tgt := 47) (by decide) ?_
    exact hZ3 (kv i1) h
  refine j_if_eq g dX5_canTake_4 (tgt := 17) (by decide) (fun c10 => ?_) (fun c10 => ?_)
  · replace h := h.1 c10
    exact hZ1 h
  replace h := h.2 c10
  refine j_aload_n g 0 rfl dX5_canTake_7 ?_
  refine j_get g fl_X5_51 0 cg_0 rfl dX5_canTake_8 ?_
  refine j_iconst g (v := -1) (by decide) dX5_canTake_11 ?_
  refine j_icmp_eq g dX5_canTake_12 (tgt := 17) (by decide) (fun c11 => ?_) (fun c11 => ?_)
  · replace h := h.1 c11
    exact hZ1 h
  replace h := h.2 c11
  refine j_iconst g (v := 0) (by decide) dX5_canTake_15 ?_
  exact hret.go dX5_canTake_16 (Or.inl rfl) h

set_option maxRecDepth 20000 in
def wp_X5_put (x1 : Int32) (sz : Int32) (pr : Nat → Int32) (kv : Nat → Int32) (kn : Nat → Int32) (kr : Nat → Int32) (kt : Nat → Int32) (kb : Nat → Int32) (ks : Nat → Int32) (wd : Nat → Nat → Int64) (bk : Nat → Int32) (cr : Int32) (hd : Int32) (K : Int32 → (Nat → Int32) → (Nat → Int32) → (Nat → Nat → Int64) → (Nat → Int32) → Int32 → Int32 → Prop) : Prop :=
  wp_X3_find x1 sz (fun (o_1 : Option Nat)  => (o_1 = none → K (-1 : Int32) kt kb wd bk cr hd) ∧ (∀ i_1 : Nat, o_1 = some i_1 → i_1 < 6 → wp_X5_canTake i_1 sz pr kv kn kr kt ks wd cr hd (fun (r_2 : Int32) (wd_2 : Nat → Nat → Int64) => ((¬ r_2 = 0 → (vp_in (0 : Int32) 6 ∧ (vp_in (0 : Int32) 6 ∧ ((kn i_1 = 0 → wp_X0_free i_1 kr kt (fun (r_7 : Int32)  => ((r_7 ≤ 0 → K (1 : Int32) kt (upd kb i_1 ((kb i_1) + (1 : Int32))) wd_2 (upd bk (0 : Int32).toNatClampNeg ((bk (0 : Int32).toNatClampNeg) + (kv i_1))) (cr + (kv i_1)) hd) ∧ (¬ r_7 ≤ 0 → K (1 : Int32) (upd kt i_1 ((kt i_1) + (1 : Int32))) kb wd_2 (upd bk (0 : Int32).toNatClampNeg ((bk (0 : Int32).toNatClampNeg) + (kv i_1))) (cr + (kv i_1)) hd)))) ∧ (¬ kn i_1 = 0 → K (1 : Int32) kt kb wd_2 (upd bk (0 : Int32).toNatClampNeg ((bk (0 : Int32).toNatClampNeg) + (kv i_1))) (cr + (kv i_1)) x1))))) ∧ (r_2 = 0 → K (0 : Int32) kt kb wd_2 bk cr hd)))))
theorem dX5_put_0 : decode cX5_put 0 = .ok (.aload_n 0, 1) := by decide +kernel
theorem dX5_put_1 : decode cX5_put 1 = .ok (.getfield 12, 3) := by decide +kernel
theorem dX5_put_4 : decode cX5_put 4 = .ok (.iload_n 1, 1) := by decide +kernel
theorem dX5_put_5 : decode cX5_put 5 = .ok (.invokevirtual 84, 3) := by decide +kernel
theorem dX5_put_8 : decode cX5_put 8 = .ok (.astore_n 2, 1) := by decide +kernel
theorem dX5_put_9 : decode cX5_put 9 = .ok (.aload_n 2, 1) := by decide +kernel
theorem dX5_put_10 : decode cX5_put 10 = .ok (.ifnonnull 5, 3) := by decide +kernel
theorem dX5_put_13 : decode cX5_put 13 = .ok (.iconst (-1), 1) := by decide +kernel
theorem dX5_put_14 : decode cX5_put 14 = .ok (.ireturn, 1) := by decide +kernel
theorem dX5_put_15 : decode cX5_put 15 = .ok (.aload_n 0, 1) := by decide +kernel
theorem dX5_put_16 : decode cX5_put 16 = .ok (.aload_n 2, 1) := by decide +kernel
theorem dX5_put_17 : decode cX5_put 17 = .ok (.invokevirtual 87, 3) := by decide +kernel
theorem dX5_put_20 : decode cX5_put 20 = .ok (.ifCond .ne 5, 3) := by decide +kernel
theorem dX5_put_23 : decode cX5_put 23 = .ok (.iconst 0, 1) := by decide +kernel
theorem dX5_put_24 : decode cX5_put 24 = .ok (.ireturn, 1) := by decide +kernel
theorem dX5_put_25 : decode cX5_put 25 = .ok (.aload_n 0, 1) := by decide +kernel
theorem dX5_put_26 : decode cX5_put 26 = .ok (.dup, 1) := by decide +kernel
theorem dX5_put_27 : decode cX5_put 27 = .ok (.getfield 45, 3) := by decide +kernel
theorem dX5_put_30 : decode cX5_put 30 = .ok (.aload_n 2, 1) := by decide +kernel
theorem dX5_put_31 : decode cX5_put 31 = .ok (.getfield 74, 3) := by decide +kernel
theorem dX5_put_34 : decode cX5_put 34 = .ok (.iadd, 1) := by decide +kernel
theorem dX5_put_35 : decode cX5_put 35 = .ok (.putfield 45, 3) := by decide +kernel
theorem dX5_put_38 : decode cX5_put 38 = .ok (.aload_n 0, 1) := by decide +kernel
theorem dX5_put_39 : decode cX5_put 39 = .ok (.getfield 37, 3) := by decide +kernel
theorem dX5_put_42 : decode cX5_put 42 = .ok (.iconst 0, 1) := by decide +kernel
theorem dX5_put_43 : decode cX5_put 43 = .ok (.dup2, 1) := by decide +kernel
theorem dX5_put_44 : decode cX5_put 44 = .ok (.iaload, 1) := by decide +kernel
theorem dX5_put_45 : decode cX5_put 45 = .ok (.aload_n 2, 1) := by decide +kernel
theorem dX5_put_46 : decode cX5_put 46 = .ok (.getfield 74, 3) := by decide +kernel
theorem dX5_put_49 : decode cX5_put 49 = .ok (.iadd, 1) := by decide +kernel
theorem dX5_put_50 : decode cX5_put 50 = .ok (.iastore, 1) := by decide +kernel
theorem dX5_put_51 : decode cX5_put 51 = .ok (.aload_n 2, 1) := by decide +kernel
theorem dX5_put_52 : decode cX5_put 52 = .ok (.getfield 91, 3) := by decide +kernel
theorem dX5_put_55 : decode cX5_put 55 = .ok (.ifCond .eq 11, 3) := by decide +kernel
theorem dX5_put_58 : decode cX5_put 58 = .ok (.aload_n 0, 1) := by decide +kernel
theorem dX5_put_59 : decode cX5_put 59 = .ok (.iload_n 1, 1) := by decide +kernel
theorem dX5_put_60 : decode cX5_put 60 = .ok (.putfield 51, 3) := by decide +kernel
theorem dX5_put_63 : decode cX5_put 63 = .ok (.goto 33, 3) := by decide +kernel
theorem dX5_put_66 : decode cX5_put 66 = .ok (.aload_n 2, 1) := by decide +kernel
theorem dX5_put_67 : decode cX5_put 67 = .ok (.invokevirtual 65, 3) := by decide +kernel
theorem dX5_put_70 : decode cX5_put 70 = .ok (.ifCond .le 16, 3) := by decide +kernel
theorem dX5_put_73 : decode cX5_put 73 = .ok (.aload_n 2, 1) := by decide +kernel
theorem dX5_put_74 : decode cX5_put 74 = .ok (.dup, 1) := by decide +kernel
theorem dX5_put_75 : decode cX5_put 75 = .ok (.getfield 71, 3) := by decide +kernel
theorem dX5_put_78 : decode cX5_put 78 = .ok (.iconst 1, 1) := by decide +kernel
theorem dX5_put_79 : decode cX5_put 79 = .ok (.iadd, 1) := by decide +kernel
theorem dX5_put_80 : decode cX5_put 80 = .ok (.putfield 71, 3) := by decide +kernel
theorem dX5_put_83 : decode cX5_put 83 = .ok (.goto 13, 3) := by decide +kernel
theorem dX5_put_86 : decode cX5_put 86 = .ok (.aload_n 2, 1) := by decide +kernel
theorem dX5_put_87 : decode cX5_put 87 = .ok (.dup, 1) := by decide +kernel
theorem dX5_put_88 : decode cX5_put 88 = .ok (.getfield 94, 3) := by decide +kernel
theorem dX5_put_91 : decode cX5_put 91 = .ok (.iconst 1, 1) := by decide +kernel
theorem dX5_put_92 : decode cX5_put 92 = .ok (.iadd, 1) := by decide +kernel
theorem dX5_put_93 : decode cX5_put 93 = .ok (.putfield 94, 3) := by decide +kernel
theorem dX5_put_96 : decode cX5_put 96 = .ok (.iconst 1, 1) := by decide +kernel
theorem dX5_put_97 : decode cX5_put 97 = .ok (.ireturn, 1) := by decide +kernel
set_option maxRecDepth 20000 in
set_option maxHeartbeats 4000000 in
theorem c_X5_put {a : Nat → Nat} {q : Nat → ClassId} {x1 : Int32}  {sz : Int32} {pr : Nat → Int32} {pm : Nat → Nat} {kv : Nat → Int32} {kn : Nat → Int32} {kr : Nat → Int32} {kt : Nat → Int32} {kb : Nat → Int32} {ks : Nat → Int32} {kj : Nat → Int32} {kw : Nat → Int32} {kg : Nat → Int32} {wd : Nat → Nat → Int64} {fw : Nat → Nat → Int32} {ad : Nat → Int32} {bk : Nat → Int32} {md : Int32} {cr : Int32} {ow : Int32} {hd : Int32} {K : Int32 → (Nat → Int32) → (Nat → Int32) → (Nat → Nat → Int64) → (Nat → Int32) → Int32 → Int32 → Prop} (h : wp_X5_put x1 sz pr kv kn kr kt kb ks wd bk cr hd K) : ctI_6 q yX5_put cX5_put 3 4 96 [.ref (a 0), .int x1] (cgW a q sz pr pm kv kn kr kt kb ks kj kw kg wd fw ad bk md cr ow hd) (fun (kt : Nat → Int32) (kb : Nat → Int32) (wd : Nat → Nat → Int64) (bk : Nat → Int32) (cr : Int32) (hd : Int32) => (cgW a q sz pr pm kv kn kr kt kb ks kj kw kg wd fw ad bk md cr ow hd)) K := by
  refine met_I_6 (by decide) (Nat.le_of_ble_eq_true rfl) (fun Γ g hret => ?_)
  unfold wp_X5_put at h
  show jw Γ 3 0 0 (cgW a q sz pr pm kv kn kr kt kb ks kj kw kg wd fw ad bk md cr ow hd) [(0, .ref (a 0)), (1, .int x1)] [] 0
  refine j_aload_n g 0 rfl dX5_put_0 ?_
  refine j_get g fl_X5_12 0 cg_0 rfl dX5_put_1 ?_
  refine j_iload_n g 1 rfl dX5_put_4 ?_
  refine j_callVQ_0 g (As := [.int x1]) (st := []) (c_X3_find  h) cl_X5_84 1 3 cg_1 rfl rfl (Nat.le_of_ble_eq_true rfl) (Nat.le_of_ble_eq_true rfl) (Nat.zero_le _) (Nat.zero_le _) rfl rfl (Nat.le_of_ble_eq_true rfl) dX5_put_5 (fun  h => ?_) (fun i_1  hi_1 h => ?_)
  · replace h := h.1 rfl
    refine j_astore_nN g (lv' := [(2, .null), (0, .ref (a 0)), (1, .int x1)]) (by decide) rfl dX5_put_8 ?_
    refine j_aload_nN g 0 rfl dX5_put_9 ?_
    refine j_ifnonnullN g dX5_put_10 ?_
    refine j_iconst g (v := -1) (by decide) dX5_put_13 ?_
    exact hret.go dX5_put_14 h
  replace h := h.2 i_1 rfl hi_1
  refine j_astore_n g (lv' := [(2, .ref (a (11 + i_1))), (0, .ref (a 0)), (1, .int x1)]) (by decide) rfl dX5_put_8 ?_
  refine j_aload_n g 0 rfl dX5_put_9 ?_
  refine j_ifnonnull g dX5_put_10 (tgt := 15) (by decide) ?_
  refine j_aload_n g 1 rfl dX5_put_15 ?_
  refine j_aload_n g 0 rfl dX5_put_16 ?_
  refine j_callVZ_1 g (As := [.ref (a (11 + i_1))]) (st := []) (c_X5_canTake hi_1 h) cl_X5_87 0 5 cg_0 rfl rfl (Nat.le_of_ble_eq_true rfl) (Nat.le_of_ble_eq_true rfl) (Nat.zero_le _) (Nat.zero_le _) rfl rfl (Nat.le_of_ble_eq_true rfl) dX5_put_17 (fun r_2 wd_2 hz_2 h => ?_)
  refine j_ws (ws' := (cgW a q sz pr pm kv kn kr kt kb ks kj kw kg wd_2 fw ad bk md cr ow hd)) rfl ?_
  refine j_if_ne g dX5_put_20 (tgt := 25) (by decide) (fun c3 => ?_) (fun c3 => ?_)
  rotate_left
  · replace h := h.2 c3
    refine j_iconst g (v := 0) (by decide) dX5_put_23 ?_
    exact hret.go dX5_put_24 h
  replace h := h.1 c3
  refine j_aload_n g 1 rfl dX5_put_25 ?_
  refine j_dup g rfl dX5_put_26 ?_
  refine j_get g fl_X5_45 0 cg_0 rfl dX5_put_27 ?_
  refine j_aload_n g 0 rfl dX5_put_30 ?_
  refine j_get g fl_X5_74 (11 + i_1) (cg_K hi_1) rfl dX5_put_31 ?_
  refine j_iadd g dX5_put_34 ?_
  refine j_put g fl_X5_45 fp_X5_6 0 cg_0 rfl rfl (Nat.le_of_ble_eq_true rfl) (ws' := (cgW a q sz pr pm kv kn kr kt kb ks kj kw kg wd_2 fw ad bk md (cr + (kv i_1)) ow hd)) rfl dX5_put_35 ?_
  refine j_aload_n g 1 rfl dX5_put_38 ?_
  refine j_get g fl_X5_37 0 cg_0 rfl dX5_put_39 ?_
  refine j_iconst g (v := 0) (by decide) dX5_put_42 ?_
  refine j_dup2 g rfl rfl dX5_put_43 ?_
  obtain ⟨hv4, h⟩ := h
  refine j_iald g 5 cg_5 hv4 dX5_put_44 ?_
  refine j_aload_n g 0 rfl dX5_put_45 ?_
  refine j_get g fl_X5_74 (11 + i_1) (cg_K hi_1) rfl dX5_put_46 ?_
  refine j_iadd g dX5_put_49 ?_
  obtain ⟨hv5, h⟩ := h
  refine j_iast g 5 cg_5 hv5 (ws' := (cgW a q sz pr pm kv kn kr kt kb ks kj kw kg wd_2 fw ad (upd bk (0 : Int32).toNatClampNeg ((bk (0 : Int32).toNatClampNeg) + (kv i_1))) md (cr + (kv i_1)) ow hd)) rfl dX5_put_50 ?_
  refine j_aload_n g 0 rfl dX5_put_51 ?_
  refine j_get g fl_X5_91 (11 + i_1) (cg_K hi_1) rfl dX5_put_52 ?_
  refine j_if_eq g dX5_put_55 (tgt := 66) (by decide) (fun c6 => ?_) (fun c6 => ?_)
  rotate_left
  · replace h := h.2 c6
    refine j_aload_n g 1 rfl dX5_put_58 ?_
    refine j_iload_n g 2 rfl dX5_put_59 ?_
    refine j_put g fl_X5_51 fp_X5_8 0 cg_0 rfl rfl (Nat.le_of_ble_eq_true rfl) (ws' := (cgW a q sz pr pm kv kn kr kt kb ks kj kw kg wd_2 fw ad (upd bk (0 : Int32).toNatClampNeg ((bk (0 : Int32).toNatClampNeg) + (kv i_1))) md (cr + (kv i_1)) ow x1)) rfl dX5_put_60 ?_
    refine j_goto g dX5_put_63 (tgt := 96) (by decide) ?_
    refine j_iconst g (v := 1) (by decide) dX5_put_96 ?_
    exact hret.go dX5_put_97 h
  replace h := h.1 c6
  refine j_aload_n g 0 rfl dX5_put_66 ?_
  refine j_callVI_0 g (As := []) (st := []) (c_X0_free hi_1 h) cl_X5_65 (11 + i_1) 0 (cg_K hi_1) rfl rfl (Nat.le_of_ble_eq_true rfl) (Nat.le_of_ble_eq_true rfl) (Nat.zero_le _) (Nat.zero_le _) rfl rfl (Nat.le_of_ble_eq_true rfl) dX5_put_67 (fun r_7   h => ?_)
  refine j_if_le g dX5_put_70 (tgt := 86) (by decide) (fun c8 => ?_) (fun c8 => ?_)
  · replace h := h.1 c8
    refine j_aload_n g 0 rfl dX5_put_86 ?_
    refine j_dup g rfl dX5_put_87 ?_
    refine j_get g fl_X5_94 (11 + i_1) (cg_K hi_1) rfl dX5_put_88 ?_
    refine j_iconst g (v := 1) (by decide) dX5_put_91 ?_
    refine j_iadd g dX5_put_92 ?_
    refine j_put g fl_X5_94 fp_X0_4 (11 + i_1) (cg_K hi_1) rfl rfl (Nat.le_of_ble_eq_true rfl) (ws' := (cgW a q sz pr pm kv kn kr kt (upd kb i_1 ((kb i_1) + (1 : Int32))) ks kj kw kg wd_2 fw ad (upd bk (0 : Int32).toNatClampNeg ((bk (0 : Int32).toNatClampNeg) + (kv i_1))) md (cr + (kv i_1)) ow hd)) (cg_s_kb hi_1) dX5_put_93 ?_
    refine j_iconst g (v := 1) (by decide) dX5_put_96 ?_
    exact hret.go dX5_put_97 h
  replace h := h.2 c8
  refine j_aload_n g 0 rfl dX5_put_73 ?_
  refine j_dup g rfl dX5_put_74 ?_
  refine j_get g fl_X5_71 (11 + i_1) (cg_K hi_1) rfl dX5_put_75 ?_
  refine j_iconst g (v := 1) (by decide) dX5_put_78 ?_
  refine j_iadd g dX5_put_79 ?_
  refine j_put g fl_X5_71 fp_X0_3 (11 + i_1) (cg_K hi_1) rfl rfl (Nat.le_of_ble_eq_true rfl) (ws' := (cgW a q sz pr pm kv kn kr (upd kt i_1 ((kt i_1) + (1 : Int32))) kb ks kj kw kg wd_2 fw ad (upd bk (0 : Int32).toNatClampNeg ((bk (0 : Int32).toNatClampNeg) + (kv i_1))) md (cr + (kv i_1)) ow hd)) (cg_s_kt hi_1) dX5_put_80 ?_
  refine j_goto g dX5_put_83 (tgt := 96) (by decide) ?_
  refine j_iconst g (v := 1) (by decide) dX5_put_96 ?_
  exact hret.go dX5_put_97 h

set_option maxRecDepth 20000 in
def wp_X5_takes (x1 : Int32) (sz : Int32) (pr : Nat → Int32) (kv : Nat → Int32) (kn : Nat → Int32) (kr : Nat → Int32) (kt : Nat → Int32) (ks : Nat → Int32) (wd : Nat → Nat → Int64) (cr : Int32) (hd : Int32) (K : Int32 → (Nat → Nat → Int64) → Prop) : Prop :=
  wp_X3_find x1 sz (fun (o_1 : Option Nat)  => (o_1 = none → K (-1 : Int32) wd) ∧ (∀ i_1 : Nat, o_1 = some i_1 → i_1 < 6 → wp_X5_canTake i_1 sz pr kv kn kr kt ks wd cr hd (fun (r_2 : Int32) (wd_2 : Nat → Nat → Int64) => ((r_2 = 0 → K (0 : Int32) wd_2) ∧ (¬ r_2 = 0 → K (1 : Int32) wd_2)))))
theorem dX5_takes_0 : decode cX5_takes 0 = .ok (.aload_n 0, 1) := by decide +kernel
theorem dX5_takes_1 : decode cX5_takes 1 = .ok (.getfield 12, 3) := by decide +kernel
theorem dX5_takes_4 : decode cX5_takes 4 = .ok (.iload_n 1, 1) := by decide +kernel
theorem dX5_takes_5 : decode cX5_takes 5 = .ok (.invokevirtual 84, 3) := by decide +kernel
theorem dX5_takes_8 : decode cX5_takes 8 = .ok (.astore_n 2, 1) := by decide +kernel
theorem dX5_takes_9 : decode cX5_takes 9 = .ok (.aload_n 2, 1) := by decide +kernel
theorem dX5_takes_10 : decode cX5_takes 10 = .ok (.ifnonnull 5, 3) := by decide +kernel
theorem dX5_takes_13 : decode cX5_takes 13 = .ok (.iconst (-1), 1) := by decide +kernel
theorem dX5_takes_14 : decode cX5_takes 14 = .ok (.ireturn, 1) := by decide +kernel
theorem dX5_takes_15 : decode cX5_takes 15 = .ok (.aload_n 0, 1) := by decide +kernel
theorem dX5_takes_16 : decode cX5_takes 16 = .ok (.aload_n 2, 1) := by decide +kernel
theorem dX5_takes_17 : decode cX5_takes 17 = .ok (.invokevirtual 87, 3) := by decide +kernel
theorem dX5_takes_20 : decode cX5_takes 20 = .ok (.ifCond .eq 7, 3) := by decide +kernel
theorem dX5_takes_23 : decode cX5_takes 23 = .ok (.iconst 1, 1) := by decide +kernel
theorem dX5_takes_24 : decode cX5_takes 24 = .ok (.goto 4, 3) := by decide +kernel
theorem dX5_takes_27 : decode cX5_takes 27 = .ok (.iconst 0, 1) := by decide +kernel
theorem dX5_takes_28 : decode cX5_takes 28 = .ok (.ireturn, 1) := by decide +kernel
set_option maxRecDepth 20000 in
set_option maxHeartbeats 4000000 in
theorem c_X5_takes {a : Nat → Nat} {q : Nat → ClassId} {x1 : Int32}  {sz : Int32} {pr : Nat → Int32} {pm : Nat → Nat} {kv : Nat → Int32} {kn : Nat → Int32} {kr : Nat → Int32} {kt : Nat → Int32} {kb : Nat → Int32} {ks : Nat → Int32} {kj : Nat → Int32} {kw : Nat → Int32} {kg : Nat → Int32} {wd : Nat → Nat → Int64} {fw : Nat → Nat → Int32} {ad : Nat → Int32} {bk : Nat → Int32} {md : Int32} {cr : Int32} {ow : Int32} {hd : Int32} {K : Int32 → (Nat → Nat → Int64) → Prop} (h : wp_X5_takes x1 sz pr kv kn kr kt ks wd cr hd K) : ctI_1 q yX5_takes cX5_takes 3 4 96 [.ref (a 0), .int x1] (cgW a q sz pr pm kv kn kr kt kb ks kj kw kg wd fw ad bk md cr ow hd) (fun (wd : Nat → Nat → Int64) => (cgW a q sz pr pm kv kn kr kt kb ks kj kw kg wd fw ad bk md cr ow hd)) K := by
  refine met_I_1 (by decide) (Nat.le_of_ble_eq_true rfl) (fun Γ g hret => ?_)
  unfold wp_X5_takes at h
  show jw Γ 3 0 0 (cgW a q sz pr pm kv kn kr kt kb ks kj kw kg wd fw ad bk md cr ow hd) [(0, .ref (a 0)), (1, .int x1)] [] 0
  refine j_aload_n g 0 rfl dX5_takes_0 ?_
  refine j_get g fl_X5_12 0 cg_0 rfl dX5_takes_1 ?_
  refine j_iload_n g 1 rfl dX5_takes_4 ?_
  refine j_callVQ_0 g (As := [.int x1]) (st := []) (c_X3_find  h) cl_X5_84 1 3 cg_1 rfl rfl (Nat.le_of_ble_eq_true rfl) (Nat.le_of_ble_eq_true rfl) (Nat.zero_le _) (Nat.zero_le _) rfl rfl (Nat.le_of_ble_eq_true rfl) dX5_takes_5 (fun  h => ?_) (fun i_1  hi_1 h => ?_)
  · replace h := h.1 rfl
    refine j_astore_nN g (lv' := [(2, .null), (0, .ref (a 0)), (1, .int x1)]) (by decide) rfl dX5_takes_8 ?_
    refine j_aload_nN g 0 rfl dX5_takes_9 ?_
    refine j_ifnonnullN g dX5_takes_10 ?_
    refine j_iconst g (v := -1) (by decide) dX5_takes_13 ?_
    exact hret.go dX5_takes_14 h
  replace h := h.2 i_1 rfl hi_1
  refine j_astore_n g (lv' := [(2, .ref (a (11 + i_1))), (0, .ref (a 0)), (1, .int x1)]) (by decide) rfl dX5_takes_8 ?_
  refine j_aload_n g 0 rfl dX5_takes_9 ?_
  refine j_ifnonnull g dX5_takes_10 (tgt := 15) (by decide) ?_
  refine j_aload_n g 1 rfl dX5_takes_15 ?_
  refine j_aload_n g 0 rfl dX5_takes_16 ?_
  refine j_callVZ_1 g (As := [.ref (a (11 + i_1))]) (st := []) (c_X5_canTake hi_1 h) cl_X5_87 0 5 cg_0 rfl rfl (Nat.le_of_ble_eq_true rfl) (Nat.le_of_ble_eq_true rfl) (Nat.zero_le _) (Nat.zero_le _) rfl rfl (Nat.le_of_ble_eq_true rfl) dX5_takes_17 (fun r_2 wd_2 hz_2 h => ?_)
  refine j_ws (ws' := (cgW a q sz pr pm kv kn kr kt kb ks kj kw kg wd_2 fw ad bk md cr ow hd)) rfl ?_
  refine j_if_eq g dX5_takes_20 (tgt := 27) (by decide) (fun c3 => ?_) (fun c3 => ?_)
  · replace h := h.1 c3
    refine j_iconst g (v := 0) (by decide) dX5_takes_27 ?_
    exact hret.go dX5_takes_28 h
  replace h := h.2 c3
  refine j_iconst g (v := 1) (by decide) dX5_takes_23 ?_
  refine j_goto g dX5_takes_24 (tgt := 28) (by decide) ?_
  exact hret.go dX5_takes_28 h

set_option maxRecDepth 20000 in
def wp_X5_endCredit  (cr : Int32) (hd : Int32) (K : Int32 → Int32 → Prop) : Prop :=
  K (0 : Int32) (-1 : Int32)
theorem dX5_endCredit_0 : decode cX5_endCredit 0 = .ok (.aload_n 0, 1) := by decide +kernel
theorem dX5_endCredit_1 : decode cX5_endCredit 1 = .ok (.iconst 0, 1) := by decide +kernel
theorem dX5_endCredit_2 : decode cX5_endCredit 2 = .ok (.putfield 45, 3) := by decide +kernel
theorem dX5_endCredit_5 : decode cX5_endCredit 5 = .ok (.aload_n 0, 1) := by decide +kernel
theorem dX5_endCredit_6 : decode cX5_endCredit 6 = .ok (.iconst (-1), 1) := by decide +kernel
theorem dX5_endCredit_7 : decode cX5_endCredit 7 = .ok (.putfield 51, 3) := by decide +kernel
theorem dX5_endCredit_10 : decode cX5_endCredit 10 = .ok (.return_, 1) := by decide +kernel
set_option maxRecDepth 20000 in
set_option maxHeartbeats 4000000 in
theorem c_X5_endCredit {a : Nat → Nat} {q : Nat → ClassId}   {sz : Int32} {pr : Nat → Int32} {pm : Nat → Nat} {kv : Nat → Int32} {kn : Nat → Int32} {kr : Nat → Int32} {kt : Nat → Int32} {kb : Nat → Int32} {ks : Nat → Int32} {kj : Nat → Int32} {kw : Nat → Int32} {kg : Nat → Int32} {wd : Nat → Nat → Int64} {fw : Nat → Nat → Int32} {ad : Nat → Int32} {bk : Nat → Int32} {md : Int32} {cr : Int32} {ow : Int32} {hd : Int32} {K : Int32 → Int32 → Prop} (h : wp_X5_endCredit cr hd K) : ctV_2 q yX5_endCredit cX5_endCredit 1 0 0 [.ref (a 0)] (cgW a q sz pr pm kv kn kr kt kb ks kj kw kg wd fw ad bk md cr ow hd) (fun (cr : Int32) (hd : Int32) => (cgW a q sz pr pm kv kn kr kt kb ks kj kw kg wd fw ad bk md cr ow hd)) K := by
  refine met_V_2 (by decide) (Nat.le_of_ble_eq_true rfl) (fun Γ g hret => ?_)
  unfold wp_X5_endCredit at h
  show jw Γ 1 0 0 (cgW a q sz pr pm kv kn kr kt kb ks kj kw kg wd fw ad bk md cr ow hd) [(0, .ref (a 0))] [] 0
  refine j_aload_n g 0 rfl dX5_endCredit_0 ?_
  refine j_iconst g (v := 0) (by decide) dX5_endCredit_1 ?_
  refine j_put g fl_X5_45 fp_X5_6 0 cg_0 rfl rfl (Nat.le_of_ble_eq_true rfl) (ws' := (cgW a q sz pr pm kv kn kr kt kb ks kj kw kg wd fw ad bk md (0 : Int32) ow hd)) rfl dX5_endCredit_2 ?_
  refine j_aload_n g 0 rfl dX5_endCredit_5 ?_
  refine j_iconst g (v := -1) (by decide) dX5_endCredit_6 ?_
  refine j_put g fl_X5_51 fp_X5_8 0 cg_0 rfl rfl (Nat.le_of_ble_eq_true rfl) (ws' := (cgW a q sz pr pm kv kn kr kt kb ks kj kw kg wd fw ad bk md (0 : Int32) ow (-1 : Int32))) rfl dX5_endCredit_7 ?_
  exact hret.go dX5_endCredit_10 h

set_option maxRecDepth 20000 in
def wp_X5_plan_45 (x1 : Int32) (sz : Int32) (kv : Nat → Int32) (kn : Nat → Int32) (ks : Nat → Int32) (K : Int32 → (Nat → Int32) → (Nat → Nat → Int64) → (Nat → Nat → Int32) → Prop) (X : Int32 → (Nat → Nat → Int64) → Prop) : Nat → Int32 → (Nat → Nat → Int64) → Prop
  | 0, _, _ => False
  | n + 1, x2, wd => ((x2 ≤ 0 → X x2 wd) ∧ (¬ x2 ≤ 0 → wp_X2_has 0 x1 wd (fun (r_2 : Int32)  => ((¬ r_2 = 0 → X x2 wd) ∧ (r_2 = 0 → wp_X3_collectOneOfEach 0 sz kv kn ks wd (fun (wd_4 : Nat → Nat → Int64) => wp_X5_plan_45 x1 sz kv kn ks K X n (x2 + (-1 : Int32)) wd_4))))))
set_option maxRecDepth 20000 in
def wp_X5_plan (x1 : Int32) (sz : Int32) (pm : Nat → Nat) (kv : Nat → Int32) (kn : Nat → Int32) (kt : Nat → Int32) (ks : Nat → Int32) (kw : Nat → Int32) (wd : Nat → Nat → Int64) (fw : Nat → Nat → Int32) (md : Int32) (K : Int32 → (Nat → Int32) → (Nat → Nat → Int64) → (Nat → Nat → Int32) → Prop) : Prop :=
  ((x1 < 0 → K (0 : Int32) kw wd fw) ∧ (¬ x1 < 0 → ((x1 ≤ (999 : Int32) → jn (fun (Z3 : Int32 → Prop) => ((¬ md = (1 : Int32) → Z3 (0 : Int32)) ∧ (md = (1 : Int32) → wp_X3_fewestInTube sz kn kt ks (fun (r_11 : Int32)  => Z3 r_11)))) (fun (xs0_3 : Int32) => wp_X3_collect 0 xs0_3 sz kv kn kt ks wd (fun (wd_4 : Nat → Nat → Int64) => ∃ n5 : Nat, wp_X5_plan_45 x1 sz kv kn ks K (fun (x2_5 : Int32) (wd_5 : Nat → Nat → Int64) => wp_X2_has 0 x1 wd_5 (fun (r_6 : Int32)  => ((r_6 = 0 → K (0 : Int32) kw wd_5 fw) ∧ (¬ r_6 = 0 → wp_X4_choose x1 x2_5 sz pm kv kn kt ks kw fw (fun (r_8 : Int32) (kw_8 : Nat → Int32) (fw_8 : Nat → Nat → Int32) => ((r_8 = 0 → K (0 : Int32) kw_8 wd_5 fw_8) ∧ (¬ r_8 = 0 → K (1 : Int32) kw_8 wd_5 fw_8))))))) n5 xs0_3 wd_4))) ∧ (¬ x1 ≤ (999 : Int32) → K (0 : Int32) kw wd fw))))
theorem dX5_plan_0 : decode cX5_plan 0 = .ok (.iload_n 1, 1) := by decide +kernel
theorem dX5_plan_1 : decode cX5_plan 1 = .ok (.ifCond .lt 10, 3) := by decide +kernel
theorem dX5_plan_4 : decode cX5_plan 4 = .ok (.iload_n 1, 1) := by decide +kernel
theorem dX5_plan_5 : decode cX5_plan 5 = .ok (.sipush 999, 3) := by decide +kernel
theorem dX5_plan_8 : decode cX5_plan 8 = .ok (.if_icmp .le 5, 3) := by decide +kernel
theorem dX5_plan_11 : decode cX5_plan 11 = .ok (.iconst 0, 1) := by decide +kernel
theorem dX5_plan_12 : decode cX5_plan 12 = .ok (.ireturn, 1) := by decide +kernel
theorem dX5_plan_13 : decode cX5_plan 13 = .ok (.aload_n 0, 1) := by decide +kernel
theorem dX5_plan_14 : decode cX5_plan 14 = .ok (.getfield 41, 3) := by decide +kernel
theorem dX5_plan_17 : decode cX5_plan 17 = .ok (.iconst 1, 1) := by decide +kernel
theorem dX5_plan_18 : decode cX5_plan 18 = .ok (.if_icmp .ne 13, 3) := by decide +kernel
theorem dX5_plan_21 : decode cX5_plan 21 = .ok (.aload_n 0, 1) := by decide +kernel
theorem dX5_plan_22 : decode cX5_plan 22 = .ok (.getfield 12, 3) := by decide +kernel
theorem dX5_plan_25 : decode cX5_plan 25 = .ok (.invokevirtual 160, 3) := by decide +kernel
theorem dX5_plan_28 : decode cX5_plan 28 = .ok (.goto 4, 3) := by decide +kernel
theorem dX5_plan_31 : decode cX5_plan 31 = .ok (.iconst 0, 1) := by decide +kernel
theorem dX5_plan_32 : decode cX5_plan 32 = .ok (.istore_n 2, 1) := by decide +kernel
theorem dX5_plan_33 : decode cX5_plan 33 = .ok (.aload_n 0, 1) := by decide +kernel
theorem dX5_plan_34 : decode cX5_plan 34 = .ok (.getfield 12, 3) := by decide +kernel
theorem dX5_plan_37 : decode cX5_plan 37 = .ok (.aload_n 0, 1) := by decide +kernel
theorem dX5_plan_38 : decode cX5_plan 38 = .ok (.getfield 19, 3) := by decide +kernel
theorem dX5_plan_41 : decode cX5_plan 41 = .ok (.iload_n 2, 1) := by decide +kernel
theorem dX5_plan_42 : decode cX5_plan 42 = .ok (.invokevirtual 123, 3) := by decide +kernel
theorem dX5_plan_45 : decode cX5_plan 45 = .ok (.iload_n 2, 1) := by decide +kernel
theorem dX5_plan_46 : decode cX5_plan 46 = .ok (.ifCond .le 31, 3) := by decide +kernel
theorem dX5_plan_49 : decode cX5_plan 49 = .ok (.aload_n 0, 1) := by decide +kernel
theorem dX5_plan_50 : decode cX5_plan 50 = .ok (.getfield 19, 3) := by decide +kernel
theorem dX5_plan_53 : decode cX5_plan 53 = .ok (.iload_n 1, 1) := by decide +kernel
theorem dX5_plan_54 : decode cX5_plan 54 = .ok (.invokevirtual 163, 3) := by decide +kernel
theorem dX5_plan_57 : decode cX5_plan 57 = .ok (.ifCond .ne 20, 3) := by decide +kernel
theorem dX5_plan_60 : decode cX5_plan 60 = .ok (.aload_n 0, 1) := by decide +kernel
theorem dX5_plan_61 : decode cX5_plan 61 = .ok (.getfield 12, 3) := by decide +kernel
theorem dX5_plan_64 : decode cX5_plan 64 = .ok (.aload_n 0, 1) := by decide +kernel
theorem dX5_plan_65 : decode cX5_plan 65 = .ok (.getfield 19, 3) := by decide +kernel
theorem dX5_plan_68 : decode cX5_plan 68 = .ok (.invokevirtual 166, 3) := by decide +kernel
theorem dX5_plan_71 : decode cX5_plan 71 = .ok (.iinc 2 (-1), 3) := by decide +kernel
theorem dX5_plan_74 : decode cX5_plan 74 = .ok (.goto (-29), 3) := by decide +kernel
theorem dX5_plan_77 : decode cX5_plan 77 = .ok (.aload_n 0, 1) := by decide +kernel
theorem dX5_plan_78 : decode cX5_plan 78 = .ok (.getfield 19, 3) := by decide +kernel
theorem dX5_plan_81 : decode cX5_plan 81 = .ok (.iload_n 1, 1) := by decide +kernel
theorem dX5_plan_82 : decode cX5_plan 82 = .ok (.invokevirtual 163, 3) := by decide +kernel
theorem dX5_plan_85 : decode cX5_plan 85 = .ok (.ifCond .eq 23, 3) := by decide +kernel
theorem dX5_plan_88 : decode cX5_plan 88 = .ok (.aload_n 0, 1) := by decide +kernel
theorem dX5_plan_89 : decode cX5_plan 89 = .ok (.getfield 26, 3) := by decide +kernel
theorem dX5_plan_92 : decode cX5_plan 92 = .ok (.aload_n 0, 1) := by decide +kernel
theorem dX5_plan_93 : decode cX5_plan 93 = .ok (.getfield 12, 3) := by decide +kernel
theorem dX5_plan_96 : decode cX5_plan 96 = .ok (.iload_n 1, 1) := by decide +kernel
theorem dX5_plan_97 : decode cX5_plan 97 = .ok (.iload_n 2, 1) := by decide +kernel
theorem dX5_plan_98 : decode cX5_plan 98 = .ok (.invokevirtual 170, 3) := by decide +kernel
theorem dX5_plan_101 : decode cX5_plan 101 = .ok (.ifCond .eq 7, 3) := by decide +kernel
theorem dX5_plan_104 : decode cX5_plan 104 = .ok (.iconst 1, 1) := by decide +kernel
theorem dX5_plan_105 : decode cX5_plan 105 = .ok (.goto 4, 3) := by decide +kernel
theorem dX5_plan_108 : decode cX5_plan 108 = .ok (.iconst 0, 1) := by decide +kernel
theorem dX5_plan_109 : decode cX5_plan 109 = .ok (.ireturn, 1) := by decide +kernel
set_option maxRecDepth 20000 in
set_option maxHeartbeats 4000000 in
theorem wk_X5_plan_45 {Γ : GT} {a : Nat → Nat} {q : Nat → ClassId} {x1 : Int32}  {sz : Int32} {pr : Nat → Int32} {pm : Nat → Nat} {kv : Nat → Int32} {kn : Nat → Int32} {kr : Nat → Int32} {kt : Nat → Int32} {kb : Nat → Int32} {ks : Nat → Int32} {kj : Nat → Int32} {kw : Nat → Int32} {kg : Nat → Int32} {fw : Nat → Nat → Int32} {ad : Nat → Int32} {bk : Nat → Int32} {md : Int32} {cr : Int32} {ow : Int32} {hd : Int32} {K : Int32 → (Nat → Int32) → (Nat → Nat → Int64) → (Nat → Nat → Int32) → Prop} {X : Int32 → (Nat → Nat → Int64) → Prop} (g : gd Γ cX5_plan RX5 3 (rmz 3 86) q) (hret : rtZ_3 Γ cX5_plan 3 (fun (kw : Nat → Int32) (wd : Nat → Nat → Int64) (fw : Nat → Nat → Int32) => (cgW a q sz pr pm kv kn kr kt kb ks kj kw kg wd fw ad bk md cr ow hd)) K) (hX : ∀ (x2 : Int32) (wd : Nat → Nat → Int64) , X x2 wd → jw Γ 3 0 0 (cgW a q sz pr pm kv kn kr kt kb ks kj kw kg wd fw ad bk md cr ow hd) [(0, .ref (a 0)), (1, .int x1), (2, .int x2)] [] 77) :
    ∀ (n : Nat) (x2 : Int32) (wd : Nat → Nat → Int64) , wp_X5_plan_45 x1 sz kv kn ks K X n x2 wd → jw Γ 3 0 0 (cgW a q sz pr pm kv kn kr kt kb ks kj kw kg wd fw ad bk md cr ow hd) [(0, .ref (a 0)), (1, .int x1), (2, .int x2)] [] 45 := by
  intro n
  induction n with
  | zero =>
    intro _ _ h
    exact False.elim h
  | succ n ih =>
    intro x2 wd h
    unfold wp_X5_plan_45 at h
    refine j_iload_n g 2 rfl dX5_plan_45 ?_
    refine j_if_le g dX5_plan_46 (tgt := 77) (by decide) (fun c1 => ?_) (fun c1 => ?_)
    · replace h := h.1 c1
      exact hX x2 wd h
    replace h := h.2 c1
    refine j_aload_n g 0 rfl dX5_plan_49 ?_
    refine j_get g fl_X5_19 0 cg_0 rfl dX5_plan_50 ?_
    refine j_iload_n g 1 rfl dX5_plan_53 ?_
    refine j_callVZ_0 g (As := [.int x1]) (st := []) (c_X2_has (Nat.zero_lt_succ 5) h) cl_X5_163 (17 + 0) 2 (cg_S (Nat.zero_lt_succ 5)) rfl rfl (Nat.le_of_ble_eq_true rfl) (Nat.le_of_ble_eq_true rfl) (Nat.zero_le _) (Nat.zero_le _) rfl rfl (Nat.le_of_ble_eq_true rfl) dX5_plan_54 (fun r_2  hz_2 h => ?_)
    refine j_if_ne g dX5_plan_57 (tgt := 77) (by decide) (fun c3 => ?_) (fun c3 => ?_)
    · replace h := h.1 c3
      exact hX x2 wd h
    replace h := h.2 c3
    refine j_aload_n g 0 rfl dX5_plan_60 ?_
    refine j_get g fl_X5_12 0 cg_0 rfl dX5_plan_61 ?_
    refine j_aload_n g 0 rfl dX5_plan_64 ?_
    refine j_get g fl_X5_19 0 cg_0 rfl dX5_plan_65 ?_
    refine j_callVV_1 g (As := [.ref (a (17 + 0))]) (st := []) (c_X3_collectOneOfEach (Nat.zero_lt_succ 5) h) cl_X5_166 1 3 cg_1 rfl rfl (Nat.le_of_ble_eq_true rfl) (Nat.le_of_ble_eq_true rfl) (Nat.zero_le _) (Nat.zero_le _) rfl rfl (Nat.le_of_ble_eq_true rfl) dX5_plan_68 (fun wd_4 h => ?_)
    refine j_ws (ws' := (cgW a q sz pr pm kv kn kr kt kb ks kj kw kg wd_4 fw ad bk md cr ow hd)) rfl ?_
    refine j_iinc g 2 (n := -1) (v := x2 + (-1 : Int32)) (lv' := [(2, .int (x2 + (-1 : Int32))), (0, .ref (a 0)), (1, .int x1)]) rfl rfl (by decide) rfl dX5_plan_71 ?_
    refine j_goto g dX5_plan_74 (tgt := 45) (by decide) ?_
    refine j_sub [1, 2, 0] rfl ?_
    exact ih (x2 + (-1 : Int32)) wd_4 h
set_option maxRecDepth 20000 in
set_option maxHeartbeats 4000000 in
theorem c_X5_plan {a : Nat → Nat} {q : Nat → ClassId} {x1 : Int32}  {sz : Int32} {pr : Nat → Int32} {pm : Nat → Nat} {kv : Nat → Int32} {kn : Nat → Int32} {kr : Nat → Int32} {kt : Nat → Int32} {kb : Nat → Int32} {ks : Nat → Int32} {kj : Nat → Int32} {kw : Nat → Int32} {kg : Nat → Int32} {wd : Nat → Nat → Int64} {fw : Nat → Nat → Int32} {ad : Nat → Int32} {bk : Nat → Int32} {md : Int32} {cr : Int32} {ow : Int32} {hd : Int32} {K : Int32 → (Nat → Int32) → (Nat → Nat → Int64) → (Nat → Nat → Int32) → Prop} (h : wp_X5_plan x1 sz pm kv kn kt ks kw wd fw md K) : ctZ_3 q yX5_plan cX5_plan 3 3 86 [.ref (a 0), .int x1] (cgW a q sz pr pm kv kn kr kt kb ks kj kw kg wd fw ad bk md cr ow hd) (fun (kw : Nat → Int32) (wd : Nat → Nat → Int64) (fw : Nat → Nat → Int32) => (cgW a q sz pr pm kv kn kr kt kb ks kj kw kg wd fw ad bk md cr ow hd)) K := by
  refine met_Z_3 (by decide) (Nat.le_of_ble_eq_true rfl) (fun Γ g hret => ?_)
  unfold wp_X5_plan at h
  show jw Γ 3 0 0 (cgW a q sz pr pm kv kn kr kt kb ks kj kw kg wd fw ad bk md cr ow hd) [(0, .ref (a 0)), (1, .int x1)] [] 0
  refine j_iload_n g 1 rfl dX5_plan_0 ?_
  refine j_if_lt g dX5_plan_1 (tgt := 11) (by decide) (fun c1 => ?_) (fun c1 => ?_)
  · replace h := h.1 c1
    refine j_iconst g (v := 0) (by decide) dX5_plan_11 ?_
    exact hret.go dX5_plan_12 (Or.inl rfl) h
  replace h := h.2 c1
  refine j_iload_n g 1 rfl dX5_plan_4 ?_
  refine j_sipush g (v := 999) (by decide) dX5_plan_5 ?_
  refine j_icmp_le g dX5_plan_8 (tgt := 13) (by decide) (fun c2 => ?_) (fun c2 => ?_)
  rotate_left
  · replace h := h.2 c2
    refine j_iconst g (v := 0) (by decide) dX5_plan_11 ?_
    exact hret.go dX5_plan_12 (Or.inl rfl) h
  replace h := h.1 c2
  refine j_aload_n g 0 rfl dX5_plan_13 ?_
  refine j_get g fl_X5_41 0 cg_0 rfl dX5_plan_14 ?_
  refine j_iconst g (v := 1) (by decide) dX5_plan_17 ?_
  refine jn_cut h (fun Z3 eZ3 h => ?_)
  have hZ3 : ∀ (xs0_3 : Int32), Z3 xs0_3 → jw Γ 3 0 0 (cgW a q sz pr pm kv kn kr kt kb ks kj kw kg wd fw ad bk md cr ow hd) [(0, .ref (a 0)), (1, .int x1)] [.int xs0_3] 32 := by
    intro xs0_3 h
    rw [eZ3] at h
    refine j_istore_n g (lv' := [(2, .int xs0_3), (0, .ref (a 0)), (1, .int x1)]) (by decide) rfl dX5_plan_32 ?_
    refine j_aload_n g 1 rfl dX5_plan_33 ?_
    refine j_get g fl_X5_12 0 cg_0 rfl dX5_plan_34 ?_
    refine j_aload_n g 1 rfl dX5_plan_37 ?_
    refine j_get g fl_X5_19 0 cg_0 rfl dX5_plan_38 ?_
    refine j_iload_n g 0 rfl dX5_plan_41 ?_
    refine j_callVV_1 g (As := [.ref (a (17 + 0)), .int xs0_3]) (st := []) (c_X3_collect (Nat.zero_lt_succ 5) h) cl_X5_123 1 3 cg_1 rfl rfl (Nat.le_of_ble_eq_true rfl) (Nat.le_of_ble_eq_true rfl) (Nat.zero_le _) (Nat.zero_le _) rfl rfl (Nat.le_of_ble_eq_true rfl) dX5_plan_42 (fun wd_4 h => ?_)
    refine j_ws (ws' := (cgW a q sz pr pm kv kn kr kt kb ks kj kw kg wd_4 fw ad bk md cr ow hd)) rfl ?_
    obtain ⟨n5, h⟩ := h
    refine j_sub [1, 2, 0] rfl ?_
    refine wk_X5_plan_45  g hret (fun x2_5 wd_5 h => ?_) n5 xs0_3 wd_4 h
    refine j_aload_n g 0 rfl dX5_plan_77 ?_
    refine j_get g fl_X5_19 0 cg_0 rfl dX5_plan_78 ?_
    refine j_iload_n g 1 rfl dX5_plan_81 ?_
    refine j_callVZ_0 g (As := [.int x1]) (st := []) (c_X2_has (Nat.zero_lt_succ 5) h) cl_X5_163 (17 + 0) 2 (cg_S (Nat.zero_lt_succ 5)) rfl rfl (Nat.le_of_ble_eq_true rfl) (Nat.le_of_ble_eq_true rfl) (Nat.zero_le _) (Nat.zero_le _) rfl rfl (Nat.le_of_ble_eq_true rfl) dX5_plan_82 (fun r_6  hz_6 h => ?_)
    refine j_if_eq g dX5_plan_85 (tgt := 108) (by decide) (fun c7 => ?_) (fun c7 => ?_)
    · replace h := h.1 c7
      refine j_iconst g (v := 0) (by decide) dX5_plan_108 ?_
      exact hret.go dX5_plan_109 (Or.inl rfl) h
    replace h := h.2 c7
    refine j_aload_n g 0 rfl dX5_plan_88 ?_
    refine j_get g fl_X5_26 0 cg_0 rfl dX5_plan_89 ?_
    refine j_aload_n g 0 rfl dX5_plan_92 ?_
    refine j_get g fl_X5_12 0 cg_0 rfl dX5_plan_93 ?_
    refine j_iload_n g 1 rfl dX5_plan_96 ?_
    refine j_iload_n g 2 rfl dX5_plan_97 ?_
    refine j_callVZ_2 g (As := [.ref (a 1), .int x1, .int x2_5]) (st := []) (c_X4_choose  h) cl_X5_170 6 4 cg_6 rfl rfl (Nat.le_of_ble_eq_true rfl) (Nat.le_of_ble_eq_true rfl) (Nat.zero_le _) (Nat.zero_le _) rfl rfl (Nat.le_of_ble_eq_true rfl) dX5_plan_98 (fun r_8 kw_8 fw_8 hz_8 h => ?_)
    refine j_ws (ws' := (cgW a q sz pr pm kv kn kr kt kb ks kj kw_8 kg wd_5 fw_8 ad bk md cr ow hd)) rfl ?_
    refine j_if_eq g dX5_plan_101 (tgt := 108) (by decide) (fun c9 => ?_) (fun c9 => ?_)
    · replace h := h.1 c9
      refine j_iconst g (v := 0) (by decide) dX5_plan_108 ?_
      exact hret.go dX5_plan_109 (Or.inl rfl) h
    replace h := h.2 c9
    refine j_iconst g (v := 1) (by decide) dX5_plan_104 ?_
    refine j_goto g dX5_plan_105 (tgt := 109) (by decide) ?_
    exact hret.go dX5_plan_109 (Or.inr rfl) h
  refine j_icmp_ne g dX5_plan_18 (tgt := 31) (by decide) (fun c10 => ?_) (fun c10 => ?_)
  · replace h := h.1 c10
    refine j_iconst g (v := 0) (by decide) dX5_plan_31 ?_
    exact hZ3 (0 : Int32) h
  replace h := h.2 c10
  refine j_aload_n g 0 rfl dX5_plan_21 ?_
  refine j_get g fl_X5_12 0 cg_0 rfl dX5_plan_22 ?_
  refine j_callVI_0 g (As := []) (st := []) (c_X3_fewestInTube  h) cl_X5_160 1 3 cg_1 rfl rfl (Nat.le_of_ble_eq_true rfl) (Nat.le_of_ble_eq_true rfl) (Nat.zero_le _) (Nat.zero_le _) rfl rfl (Nat.le_of_ble_eq_true rfl) dX5_plan_25 (fun r_11   h => ?_)
  refine j_goto g dX5_plan_28 (tgt := 32) (by decide) ?_
  exact hZ3 r_11 h

set_option maxRecDepth 20000 in
def wp_X5_giveByWay_37 (x3 : Int32) (i4 : Nat) (x5 : Int32) (kv : Nat → Int32) (K : Int32 → (Nat → Int32) → (Nat → Int32) → (Nat → Int32) → (Nat → Int32) → Prop) (X : Int32 → (Nat → Int32) → (Nat → Int32) → (Nat → Int32) → (Nat → Int32) → Prop) : Nat → Int32 → Int32 → (Nat → Int32) → (Nat → Int32) → (Nat → Int32) → (Nat → Int32) → Prop
  | 0, _, _, _, _, _, _ => False
  | n + 1, x2, x6, kt, ks, kj, kg => ((x5 ≤ x6 → X x2 kt ks kj kg) ∧ (¬ x5 ≤ x6 → wp_X0_release i4 kt ks kj kg (fun (r_2 : Int32) (kt_2 : Nat → Int32) (ks_2 : Nat → Int32) (kj_2 : Nat → Int32) (kg_2 : Nat → Int32) => ((¬ r_2 = 0 → wp_X5_giveByWay_37 x3 i4 x5 kv K X n (x2 - (kv i4)) (x6 + 1) kt_2 ks_2 kj_2 kg_2) ∧ (r_2 = 0 → K x2 kt_2 ks_2 kj_2 kg_2)))))
set_option maxRecDepth 20000 in
def wp_X5_giveByWay_12  (pm : Nat → Nat) (kv : Nat → Int32) (kw : Nat → Int32) (K : Int32 → (Nat → Int32) → (Nat → Int32) → (Nat → Int32) → (Nat → Int32) → Prop) (X : Int32 → (Nat → Int32) → (Nat → Int32) → (Nat → Int32) → (Nat → Int32) → Prop) : Nat → Int32 → Int32 → (Nat → Int32) → (Nat → Int32) → (Nat → Int32) → (Nat → Int32) → Prop
  | 0, _, _, _, _, _, _ => False
  | n + 1, x2, x3, kt, ks, kj, kg => ((x3 < 0 → X x2 kt ks kj kg) ∧ (¬ x3 < 0 → (vp_in x3 6 ∧ pm x3.toNatClampNeg < 6 ∧ ∃ n3 : Nat, wp_X5_giveByWay_37 x3 (pm x3.toNatClampNeg) (kw (pm x3.toNatClampNeg)) kv K (fun (x2_3 : Int32) (kt_3 : Nat → Int32) (ks_3 : Nat → Int32) (kj_3 : Nat → Int32) (kg_3 : Nat → Int32) => wp_X5_giveByWay_12 pm kv kw K X n x2_3 (x3 + (-1 : Int32)) kt_3 ks_3 kj_3 kg_3) n3 x2 (0 : Int32) kt ks kj kg)))
set_option maxRecDepth 20000 in
def wp_X5_giveByWay (x1 : Int32) (sz : Int32) (pm : Nat → Nat) (kv : Nat → Int32) (kt : Nat → Int32) (ks : Nat → Int32) (kj : Nat → Int32) (kw : Nat → Int32) (kg : Nat → Int32) (K : Int32 → (Nat → Int32) → (Nat → Int32) → (Nat → Int32) → (Nat → Int32) → Prop) : Prop :=
  ∃ n1 : Nat, wp_X5_giveByWay_12 pm kv kw K (fun (x2_1 : Int32) (kt_1 : Nat → Int32) (ks_1 : Nat → Int32) (kj_1 : Nat → Int32) (kg_1 : Nat → Int32) => K x2_1 kt_1 ks_1 kj_1 kg_1) n1 x1 (sz - (1 : Int32)) kt ks kj kg
theorem dX5_giveByWay_0 : decode cX5_giveByWay 0 = .ok (.iload_n 1, 1) := by decide +kernel
theorem dX5_giveByWay_1 : decode cX5_giveByWay 1 = .ok (.istore_n 2, 1) := by decide +kernel
theorem dX5_giveByWay_2 : decode cX5_giveByWay 2 = .ok (.aload_n 0, 1) := by decide +kernel
theorem dX5_giveByWay_3 : decode cX5_giveByWay 3 = .ok (.getfield 12, 3) := by decide +kernel
theorem dX5_giveByWay_6 : decode cX5_giveByWay 6 = .ok (.getfield 137, 3) := by decide +kernel
theorem dX5_giveByWay_9 : decode cX5_giveByWay 9 = .ok (.iconst 1, 1) := by decide +kernel
theorem dX5_giveByWay_10 : decode cX5_giveByWay 10 = .ok (.isub, 1) := by decide +kernel
theorem dX5_giveByWay_11 : decode cX5_giveByWay 11 = .ok (.istore_n 3, 1) := by decide +kernel
theorem dX5_giveByWay_12 : decode cX5_giveByWay 12 = .ok (.iload_n 3, 1) := by decide +kernel
theorem dX5_giveByWay_13 : decode cX5_giveByWay 13 = .ok (.ifCond .lt 61, 3) := by decide +kernel
theorem dX5_giveByWay_16 : decode cX5_giveByWay 16 = .ok (.aload_n 0, 1) := by decide +kernel
theorem dX5_giveByWay_17 : decode cX5_giveByWay 17 = .ok (.getfield 12, 3) := by decide +kernel
theorem dX5_giveByWay_20 : decode cX5_giveByWay 20 = .ok (.getfield 183, 3) := by decide +kernel
theorem dX5_giveByWay_23 : decode cX5_giveByWay 23 = .ok (.iload_n 3, 1) := by decide +kernel
theorem dX5_giveByWay_24 : decode cX5_giveByWay 24 = .ok (.aaload, 1) := by decide +kernel
theorem dX5_giveByWay_25 : decode cX5_giveByWay 25 = .ok (.astore 4, 2) := by decide +kernel
theorem dX5_giveByWay_27 : decode cX5_giveByWay 27 = .ok (.aload 4, 2) := by decide +kernel
theorem dX5_giveByWay_29 : decode cX5_giveByWay 29 = .ok (.getfield 117, 3) := by decide +kernel
theorem dX5_giveByWay_32 : decode cX5_giveByWay 32 = .ok (.istore 5, 2) := by decide +kernel
theorem dX5_giveByWay_34 : decode cX5_giveByWay 34 = .ok (.iconst 0, 1) := by decide +kernel
theorem dX5_giveByWay_35 : decode cX5_giveByWay 35 = .ok (.istore 6, 2) := by decide +kernel
theorem dX5_giveByWay_37 : decode cX5_giveByWay 37 = .ok (.iload 6, 2) := by decide +kernel
theorem dX5_giveByWay_39 : decode cX5_giveByWay 39 = .ok (.iload 5, 2) := by decide +kernel
theorem dX5_giveByWay_41 : decode cX5_giveByWay 41 = .ok (.if_icmp .ge 27, 3) := by decide +kernel
theorem dX5_giveByWay_44 : decode cX5_giveByWay 44 = .ok (.aload 4, 2) := by decide +kernel
theorem dX5_giveByWay_46 : decode cX5_giveByWay 46 = .ok (.invokevirtual 187, 3) := by decide +kernel
theorem dX5_giveByWay_49 : decode cX5_giveByWay 49 = .ok (.ifCond .ne 5, 3) := by decide +kernel
theorem dX5_giveByWay_52 : decode cX5_giveByWay 52 = .ok (.iload_n 2, 1) := by decide +kernel
theorem dX5_giveByWay_53 : decode cX5_giveByWay 53 = .ok (.ireturn, 1) := by decide +kernel
theorem dX5_giveByWay_54 : decode cX5_giveByWay 54 = .ok (.iload_n 2, 1) := by decide +kernel
theorem dX5_giveByWay_55 : decode cX5_giveByWay 55 = .ok (.aload 4, 2) := by decide +kernel
theorem dX5_giveByWay_57 : decode cX5_giveByWay 57 = .ok (.getfield 74, 3) := by decide +kernel
theorem dX5_giveByWay_60 : decode cX5_giveByWay 60 = .ok (.isub, 1) := by decide +kernel
theorem dX5_giveByWay_61 : decode cX5_giveByWay 61 = .ok (.istore_n 2, 1) := by decide +kernel
theorem dX5_giveByWay_62 : decode cX5_giveByWay 62 = .ok (.iinc 6 1, 3) := by decide +kernel
theorem dX5_giveByWay_65 : decode cX5_giveByWay 65 = .ok (.goto (-28), 3) := by decide +kernel
theorem dX5_giveByWay_68 : decode cX5_giveByWay 68 = .ok (.iinc 3 (-1), 3) := by decide +kernel
theorem dX5_giveByWay_71 : decode cX5_giveByWay 71 = .ok (.goto (-59), 3) := by decide +kernel
theorem dX5_giveByWay_74 : decode cX5_giveByWay 74 = .ok (.iload_n 2, 1) := by decide +kernel
theorem dX5_giveByWay_75 : decode cX5_giveByWay 75 = .ok (.ireturn, 1) := by decide +kernel
set_option maxRecDepth 20000 in
set_option maxHeartbeats 4000000 in
theorem wk_X5_giveByWay_37 {Γ : GT} {a : Nat → Nat} {q : Nat → ClassId} {x3 : Int32} {i4 : Nat} {x5 : Int32} (hi4 : i4 < 6) {sz : Int32} {pr : Nat → Int32} {pm : Nat → Nat} {kv : Nat → Int32} {kn : Nat → Int32} {kr : Nat → Int32} {kb : Nat → Int32} {kw : Nat → Int32} {wd : Nat → Nat → Int64} {fw : Nat → Nat → Int32} {ad : Nat → Int32} {bk : Nat → Int32} {md : Int32} {cr : Int32} {ow : Int32} {hd : Int32} {K : Int32 → (Nat → Int32) → (Nat → Int32) → (Nat → Int32) → (Nat → Int32) → Prop} {X : Int32 → (Nat → Int32) → (Nat → Int32) → (Nat → Int32) → (Nat → Int32) → Prop} (g : gd Γ cX5_giveByWay RX5 7 (rmz 1 20) q) (hret : rtI_4 Γ cX5_giveByWay 7 (fun (kt : Nat → Int32) (ks : Nat → Int32) (kj : Nat → Int32) (kg : Nat → Int32) => (cgW a q sz pr pm kv kn kr kt kb ks kj kw kg wd fw ad bk md cr ow hd)) K) (hX : ∀ (x2 : Int32) (kt : Nat → Int32) (ks : Nat → Int32) (kj : Nat → Int32) (kg : Nat → Int32) , X x2 kt ks kj kg → jw Γ 7 0 0 (cgW a q sz pr pm kv kn kr kt kb ks kj kw kg wd fw ad bk md cr ow hd) [(0, .ref (a 0)), (2, .int x2), (3, .int x3)] [] 68) :
    ∀ (n : Nat) (x2 : Int32) (x6 : Int32) (kt : Nat → Int32) (ks : Nat → Int32) (kj : Nat → Int32) (kg : Nat → Int32) , wp_X5_giveByWay_37 x3 i4 x5 kv K X n x2 x6 kt ks kj kg → jw Γ 7 0 0 (cgW a q sz pr pm kv kn kr kt kb ks kj kw kg wd fw ad bk md cr ow hd) [(0, .ref (a 0)), (2, .int x2), (3, .int x3), (4, .ref (a (11 + i4))), (5, .int x5), (6, .int x6)] [] 37 := by
  intro n
  induction n with
  | zero =>
    intro _ _ _ _ _ _ h
    exact False.elim h
  | succ n ih =>
    intro x2 x6 kt ks kj kg h
    unfold wp_X5_giveByWay_37 at h
    refine j_iload g 5 rfl dX5_giveByWay_37 ?_
    refine j_iload g 4 rfl dX5_giveByWay_39 ?_
    refine j_icmp_ge g dX5_giveByWay_41 (tgt := 68) (by decide) (fun c1 => ?_) (fun c1 => ?_)
    · replace h := h.1 c1
      refine j_sub [0, 1, 2] rfl ?_
      exact hX x2 kt ks kj kg h
    replace h := h.2 c1
    refine j_aload g 3 rfl dX5_giveByWay_44 ?_
    refine j_callVZ_4 g (As := []) (st := []) (c_X0_release hi4 h) cl_X5_187 (11 + i4) 0 (cg_K hi4) rfl rfl (Nat.le_of_ble_eq_true rfl) (Nat.le_of_ble_eq_true rfl) (Nat.zero_le _) (Nat.zero_le _) rfl rfl (Nat.le_of_ble_eq_true rfl) dX5_giveByWay_46 (fun r_2 kt_2 ks_2 kj_2 kg_2 hz_2 h => ?_)
    refine j_ws (ws' := (cgW a q sz pr pm kv kn kr kt_2 kb ks_2 kj_2 kw kg_2 wd fw ad bk md cr ow hd)) rfl ?_
    refine j_if_ne g dX5_giveByWay_49 (tgt := 54) (by decide) (fun c3 => ?_) (fun c3 => ?_)
    rotate_left
    · replace h := h.2 c3
      refine j_iload_n g 1 rfl dX5_giveByWay_52 ?_
      exact hret.go dX5_giveByWay_53 h
    replace h := h.1 c3
    refine j_iload_n g 1 rfl dX5_giveByWay_54 ?_
    refine j_aload g 3 rfl dX5_giveByWay_55 ?_
    refine j_get g fl_X5_74 (11 + i4) (cg_K hi4) rfl dX5_giveByWay_57 ?_
    refine j_isub g dX5_giveByWay_60 ?_
    refine j_istore_n g (lv' := [(2, .int (x2 - (kv i4))), (0, .ref (a 0)), (3, .int x3), (4, .ref (a (11 + i4))), (5, .int x5), (6, .int x6)]) (by decide) rfl dX5_giveByWay_61 ?_
    refine j_iinc g 5 (n := 1) (v := x6 + 1) (lv' := [(6, .int (x6 + 1)), (2, .int (x2 - (kv i4))), (0, .ref (a 0)), (3, .int x3), (4, .ref (a (11 + i4))), (5, .int x5)]) rfl rfl (by decide) rfl dX5_giveByWay_62 ?_
    refine j_goto g dX5_giveByWay_65 (tgt := 37) (by decide) ?_
    refine j_sub [2, 1, 3, 4, 5, 0] rfl ?_
    exact ih (x2 - (kv i4)) (x6 + 1) kt_2 ks_2 kj_2 kg_2 h
set_option maxRecDepth 20000 in
set_option maxHeartbeats 4000000 in
theorem wk_X5_giveByWay_12 {Γ : GT} {a : Nat → Nat} {q : Nat → ClassId}   {sz : Int32} {pr : Nat → Int32} {pm : Nat → Nat} {kv : Nat → Int32} {kn : Nat → Int32} {kr : Nat → Int32} {kb : Nat → Int32} {kw : Nat → Int32} {wd : Nat → Nat → Int64} {fw : Nat → Nat → Int32} {ad : Nat → Int32} {bk : Nat → Int32} {md : Int32} {cr : Int32} {ow : Int32} {hd : Int32} {K : Int32 → (Nat → Int32) → (Nat → Int32) → (Nat → Int32) → (Nat → Int32) → Prop} {X : Int32 → (Nat → Int32) → (Nat → Int32) → (Nat → Int32) → (Nat → Int32) → Prop} (g : gd Γ cX5_giveByWay RX5 7 (rmz 1 20) q) (hret : rtI_4 Γ cX5_giveByWay 7 (fun (kt : Nat → Int32) (ks : Nat → Int32) (kj : Nat → Int32) (kg : Nat → Int32) => (cgW a q sz pr pm kv kn kr kt kb ks kj kw kg wd fw ad bk md cr ow hd)) K) (hX : ∀ (x2 : Int32) (kt : Nat → Int32) (ks : Nat → Int32) (kj : Nat → Int32) (kg : Nat → Int32) , X x2 kt ks kj kg → jw Γ 7 0 0 (cgW a q sz pr pm kv kn kr kt kb ks kj kw kg wd fw ad bk md cr ow hd) [(2, .int x2)] [] 74) :
    ∀ (n : Nat) (x2 : Int32) (x3 : Int32) (kt : Nat → Int32) (ks : Nat → Int32) (kj : Nat → Int32) (kg : Nat → Int32) , wp_X5_giveByWay_12 pm kv kw K X n x2 x3 kt ks kj kg → jw Γ 7 0 0 (cgW a q sz pr pm kv kn kr kt kb ks kj kw kg wd fw ad bk md cr ow hd) [(0, .ref (a 0)), (2, .int x2), (3, .int x3)] [] 12 := by
  intro n
  induction n with
  | zero =>
    intro _ _ _ _ _ _ h
    exact False.elim h
  | succ n ih =>
    intro x2 x3 kt ks kj kg h
    unfold wp_X5_giveByWay_12 at h
    refine j_iload_n g 2 rfl dX5_giveByWay_12 ?_
    refine j_if_lt g dX5_giveByWay_13 (tgt := 74) (by decide) (fun c1 => ?_) (fun c1 => ?_)
    · replace h := h.1 c1
      refine j_sub [1] rfl ?_
      exact hX x2 kt ks kj kg h
    replace h := h.2 c1
    refine j_aload_n g 0 rfl dX5_giveByWay_16 ?_
    refine j_get g fl_X5_12 0 cg_0 rfl dX5_giveByWay_17 ?_
    refine j_get g fl_X5_183 1 cg_1 rfl dX5_giveByWay_20 ?_
    refine j_iload_n g 2 rfl dX5_giveByWay_23 ?_
    obtain ⟨hv2, hv2p, h⟩ := h
    refine j_aald g 3 3 cg_3 rfl (by decide) hv2 rfl dX5_giveByWay_24 ?_
    refine j_astore g (lv' := [(4, .ref (a (11 + (pm x3.toNatClampNeg)))), (0, .ref (a 0)), (2, .int x2), (3, .int x3)]) (by decide) rfl dX5_giveByWay_25 ?_
    refine j_aload g 0 rfl dX5_giveByWay_27 ?_
    refine j_get g fl_X5_117 (11 + (pm x3.toNatClampNeg)) (cg_K hv2p) rfl dX5_giveByWay_29 ?_
    refine j_istore g (lv' := [(5, .int (kw (pm x3.toNatClampNeg))), (4, .ref (a (11 + (pm x3.toNatClampNeg)))), (0, .ref (a 0)), (2, .int x2), (3, .int x3)]) (by decide) rfl dX5_giveByWay_32 ?_
    refine j_iconst g (v := 0) (by decide) dX5_giveByWay_34 ?_
    refine j_istore g (lv' := [(6, .int (0 : Int32)), (5, .int (kw (pm x3.toNatClampNeg))), (4, .ref (a (11 + (pm x3.toNatClampNeg)))), (0, .ref (a 0)), (2, .int x2), (3, .int x3)]) (by decide) rfl dX5_giveByWay_35 ?_
    obtain ⟨n3, h⟩ := h
    refine j_sub [3, 4, 5, 2, 1, 0] rfl ?_
    refine wk_X5_giveByWay_37 hv2p g hret (fun x2_3 kt_3 ks_3 kj_3 kg_3 h => ?_) n3 x2 (0 : Int32) kt ks kj kg h
    refine j_iinc g 2 (n := -1) (v := x3 + (-1 : Int32)) (lv' := [(3, .int (x3 + (-1 : Int32))), (0, .ref (a 0)), (2, .int x2_3)]) rfl rfl (by decide) rfl dX5_giveByWay_68 ?_
    refine j_goto g dX5_giveByWay_71 (tgt := 12) (by decide) ?_
    refine j_sub [1, 2, 0] rfl ?_
    exact ih x2_3 (x3 + (-1 : Int32)) kt_3 ks_3 kj_3 kg_3 h
set_option maxRecDepth 20000 in
set_option maxHeartbeats 4000000 in
theorem c_X5_giveByWay {a : Nat → Nat} {q : Nat → ClassId} {x1 : Int32}  {sz : Int32} {pr : Nat → Int32} {pm : Nat → Nat} {kv : Nat → Int32} {kn : Nat → Int32} {kr : Nat → Int32} {kt : Nat → Int32} {kb : Nat → Int32} {ks : Nat → Int32} {kj : Nat → Int32} {kw : Nat → Int32} {kg : Nat → Int32} {wd : Nat → Nat → Int64} {fw : Nat → Nat → Int32} {ad : Nat → Int32} {bk : Nat → Int32} {md : Int32} {cr : Int32} {ow : Int32} {hd : Int32} {K : Int32 → (Nat → Int32) → (Nat → Int32) → (Nat → Int32) → (Nat → Int32) → Prop} (h : wp_X5_giveByWay x1 sz pm kv kt ks kj kw kg K) : ctI_4 q yX5_giveByWay cX5_giveByWay 7 1 20 [.ref (a 0), .int x1] (cgW a q sz pr pm kv kn kr kt kb ks kj kw kg wd fw ad bk md cr ow hd) (fun (kt : Nat → Int32) (ks : Nat → Int32) (kj : Nat → Int32) (kg : Nat → Int32) => (cgW a q sz pr pm kv kn kr kt kb ks kj kw kg wd fw ad bk md cr ow hd)) K := by
  refine met_I_4 (by decide) (Nat.le_of_ble_eq_true rfl) (fun Γ g hret => ?_)
  unfold wp_X5_giveByWay at h
  show jw Γ 7 0 0 (cgW a q sz pr pm kv kn kr kt kb ks kj kw kg wd fw ad bk md cr ow hd) [(0, .ref (a 0)), (1, .int x1)] [] 0
  refine j_iload_n g 1 rfl dX5_giveByWay_0 ?_
  refine j_istore_n g (lv' := [(2, .int x1), (0, .ref (a 0)), (1, .int x1)]) (by decide) rfl dX5_giveByWay_1 ?_
  refine j_aload_n g 1 rfl dX5_giveByWay_2 ?_
  refine j_get g fl_X5_12 0 cg_0 rfl dX5_giveByWay_3 ?_
  refine j_get g fl_X5_137 1 cg_1 rfl dX5_giveByWay_6 ?_
  refine j_iconst g (v := 1) (by decide) dX5_giveByWay_9 ?_
  refine j_isub g dX5_giveByWay_10 ?_
  refine j_istore_n g (lv' := [(3, .int (sz - (1 : Int32))), (2, .int x1), (0, .ref (a 0)), (1, .int x1)]) (by decide) rfl dX5_giveByWay_11 ?_
  obtain ⟨n1, h⟩ := h
  refine j_sub [2, 1, 0] rfl ?_
  refine wk_X5_giveByWay_12  g hret (fun x2_1 kt_1 ks_1 kj_1 kg_1 h => ?_) n1 x1 (sz - (1 : Int32)) kt ks kj kg h
  refine j_iload_n g 0 rfl dX5_giveByWay_74 ?_
  exact hret.go dX5_giveByWay_75 h

set_option maxRecDepth 20000 in
def wp_X5_giveOut_11 (x1 : Int32) (sz : Int32) (pm : Nat → Nat) (kv : Nat → Int32) (kn : Nat → Int32) (md : Int32) (K : Int32 → (Nat → Int32) → (Nat → Int32) → (Nat → Int32) → (Nat → Int32) → (Nat → Int32) → (Nat → Nat → Int64) → (Nat → Nat → Int32) → (Nat → Int32) → Int32 → Prop) (X : Int32 → (Nat → Int32) → (Nat → Int32) → (Nat → Int32) → (Nat → Int32) → (Nat → Int32) → (Nat → Nat → Int64) → (Nat → Nat → Int32) → Prop) : Nat → Int32 → Int32 → (Nat → Int32) → (Nat → Int32) → (Nat → Int32) → (Nat → Int32) → (Nat → Int32) → (Nat → Nat → Int64) → (Nat → Nat → Int32) → Prop
  | 0, _, _, _, _, _, _, _, _, _ => False
  | n + 1, x2, x3, kt, ks, kj, kw, kg, wd, fw => (((6 : Int32) ≤ x3 → X x2 kt ks kj kw kg wd fw) ∧ (¬ (6 : Int32) ≤ x3 → ((x2 ≤ 0 → X x2 kt ks kj kw kg wd fw) ∧ (¬ x2 ≤ 0 → wp_X5_plan x2 sz pm kv kn kt ks kw wd fw md (fun (r_3 : Int32) (kw_3 : Nat → Int32) (wd_3 : Nat → Nat → Int64) (fw_3 : Nat → Nat → Int32) => ((r_3 = 0 → X x2 kt ks kj kw_3 kg wd_3 fw_3) ∧ (¬ r_3 = 0 → wp_X5_giveByWay x2 sz pm kv kt ks kj kw_3 kg (fun (r_5 : Int32) (kt_5 : Nat → Int32) (ks_5 : Nat → Int32) (kj_5 : Nat → Int32) (kg_5 : Nat → Int32) => wp_X5_giveOut_11 x1 sz pm kv kn md K X n r_5 (x3 + 1) kt_5 ks_5 kj_5 kw_3 kg_5 wd_3 fw_3))))))))
set_option maxRecDepth 20000 in
def wp_X5_giveOut (x1 : Int32) (sz : Int32) (pm : Nat → Nat) (kv : Nat → Int32) (kn : Nat → Int32) (kt : Nat → Int32) (ks : Nat → Int32) (kj : Nat → Int32) (kw : Nat → Int32) (kg : Nat → Int32) (wd : Nat → Nat → Int64) (fw : Nat → Nat → Int32) (bk : Nat → Int32) (md : Int32) (ow : Int32) (K : Int32 → (Nat → Int32) → (Nat → Int32) → (Nat → Int32) → (Nat → Int32) → (Nat → Int32) → (Nat → Nat → Int64) → (Nat → Nat → Int32) → (Nat → Int32) → Int32 → Prop) : Prop :=
  wp_X3_forgetGiven sz kg (fun (kg_1 : Nat → Int32) => ∃ n2 : Nat, wp_X5_giveOut_11 x1 sz pm kv kn md K (fun (x2_2 : Int32) (kt_2 : Nat → Int32) (ks_2 : Nat → Int32) (kj_2 : Nat → Int32) (kw_2 : Nat → Int32) (kg_2 : Nat → Int32) (wd_2 : Nat → Nat → Int64) (fw_2 : Nat → Nat → Int32) => (vp_in (2 : Int32) 6 ∧ (vp_in (2 : Int32) 6 ∧ wp_X3_coinsGiven sz kg_2 (fun (r_5 : Int32)  => K r_5 kt_2 ks_2 kj_2 kw_2 kg_2 wd_2 fw_2 (upd bk (2 : Int32).toNatClampNeg ((bk (2 : Int32).toNatClampNeg) + (x1 - x2_2))) (ow + x2_2))))) n2 x1 (0 : Int32) kt ks kj kw kg_1 wd fw)
theorem dX5_giveOut_0 : decode cX5_giveOut 0 = .ok (.aload_n 0, 1) := by decide +kernel
theorem dX5_giveOut_1 : decode cX5_giveOut 1 = .ok (.getfield 12, 3) := by decide +kernel
theorem dX5_giveOut_4 : decode cX5_giveOut 4 = .ok (.invokevirtual 174, 3) := by decide +kernel
theorem dX5_giveOut_7 : decode cX5_giveOut 7 = .ok (.iload_n 1, 1) := by decide +kernel
theorem dX5_giveOut_8 : decode cX5_giveOut 8 = .ok (.istore_n 2, 1) := by decide +kernel
theorem dX5_giveOut_9 : decode cX5_giveOut 9 = .ok (.iconst 0, 1) := by decide +kernel
theorem dX5_giveOut_10 : decode cX5_giveOut 10 = .ok (.istore_n 3, 1) := by decide +kernel
theorem dX5_giveOut_11 : decode cX5_giveOut 11 = .ok (.iload_n 3, 1) := by decide +kernel
theorem dX5_giveOut_12 : decode cX5_giveOut 12 = .ok (.bipush 6, 2) := by decide +kernel
theorem dX5_giveOut_14 : decode cX5_giveOut 14 = .ok (.if_icmp .ge 27, 3) := by decide +kernel
theorem dX5_giveOut_17 : decode cX5_giveOut 17 = .ok (.iload_n 2, 1) := by decide +kernel
theorem dX5_giveOut_18 : decode cX5_giveOut 18 = .ok (.ifCond .le 23, 3) := by decide +kernel
theorem dX5_giveOut_21 : decode cX5_giveOut 21 = .ok (.aload_n 0, 1) := by decide +kernel
theorem dX5_giveOut_22 : decode cX5_giveOut 22 = .ok (.iload_n 2, 1) := by decide +kernel
theorem dX5_giveOut_23 : decode cX5_giveOut 23 = .ok (.invokevirtual 110, 3) := by decide +kernel
theorem dX5_giveOut_26 : decode cX5_giveOut 26 = .ok (.ifCond .eq 15, 3) := by decide +kernel
theorem dX5_giveOut_29 : decode cX5_giveOut 29 = .ok (.aload_n 0, 1) := by decide +kernel
theorem dX5_giveOut_30 : decode cX5_giveOut 30 = .ok (.iload_n 2, 1) := by decide +kernel
theorem dX5_giveOut_31 : decode cX5_giveOut 31 = .ok (.invokevirtual 177, 3) := by decide +kernel
theorem dX5_giveOut_34 : decode cX5_giveOut 34 = .ok (.istore_n 2, 1) := by decide +kernel
theorem dX5_giveOut_35 : decode cX5_giveOut 35 = .ok (.iinc 3 1, 3) := by decide +kernel
theorem dX5_giveOut_38 : decode cX5_giveOut 38 = .ok (.goto (-27), 3) := by decide +kernel
theorem dX5_giveOut_41 : decode cX5_giveOut 41 = .ok (.aload_n 0, 1) := by decide +kernel
theorem dX5_giveOut_42 : decode cX5_giveOut 42 = .ok (.dup, 1) := by decide +kernel
theorem dX5_giveOut_43 : decode cX5_giveOut 43 = .ok (.getfield 48, 3) := by decide +kernel
theorem dX5_giveOut_46 : decode cX5_giveOut 46 = .ok (.iload_n 2, 1) := by decide +kernel
theorem dX5_giveOut_47 : decode cX5_giveOut 47 = .ok (.iadd, 1) := by decide +kernel
theorem dX5_giveOut_48 : decode cX5_giveOut 48 = .ok (.putfield 48, 3) := by decide +kernel
theorem dX5_giveOut_51 : decode cX5_giveOut 51 = .ok (.aload_n 0, 1) := by decide +kernel
theorem dX5_giveOut_52 : decode cX5_giveOut 52 = .ok (.getfield 37, 3) := by decide +kernel
theorem dX5_giveOut_55 : decode cX5_giveOut 55 = .ok (.iconst 2, 1) := by decide +kernel
theorem dX5_giveOut_56 : decode cX5_giveOut 56 = .ok (.dup2, 1) := by decide +kernel
theorem dX5_giveOut_57 : decode cX5_giveOut 57 = .ok (.iaload, 1) := by decide +kernel
theorem dX5_giveOut_58 : decode cX5_giveOut 58 = .ok (.iload_n 1, 1) := by decide +kernel
theorem dX5_giveOut_59 : decode cX5_giveOut 59 = .ok (.iload_n 2, 1) := by decide +kernel
theorem dX5_giveOut_60 : decode cX5_giveOut 60 = .ok (.isub, 1) := by decide +kernel
theorem dX5_giveOut_61 : decode cX5_giveOut 61 = .ok (.iadd, 1) := by decide +kernel
theorem dX5_giveOut_62 : decode cX5_giveOut 62 = .ok (.iastore, 1) := by decide +kernel
theorem dX5_giveOut_63 : decode cX5_giveOut 63 = .ok (.aload_n 0, 1) := by decide +kernel
theorem dX5_giveOut_64 : decode cX5_giveOut 64 = .ok (.getfield 12, 3) := by decide +kernel
theorem dX5_giveOut_67 : decode cX5_giveOut 67 = .ok (.invokevirtual 180, 3) := by decide +kernel
theorem dX5_giveOut_70 : decode cX5_giveOut 70 = .ok (.ireturn, 1) := by decide +kernel
set_option maxRecDepth 20000 in
set_option maxHeartbeats 4000000 in
theorem wk_X5_giveOut_11 {Γ : GT} {a : Nat → Nat} {q : Nat → ClassId} {x1 : Int32}  {sz : Int32} {pr : Nat → Int32} {pm : Nat → Nat} {kv : Nat → Int32} {kn : Nat → Int32} {kr : Nat → Int32} {kb : Nat → Int32} {ad : Nat → Int32} {bk : Nat → Int32} {md : Int32} {cr : Int32} {ow : Int32} {hd : Int32} {K : Int32 → (Nat → Int32) → (Nat → Int32) → (Nat → Int32) → (Nat → Int32) → (Nat → Int32) → (Nat → Nat → Int64) → (Nat → Nat → Int32) → (Nat → Int32) → Int32 → Prop} {X : Int32 → (Nat → Int32) → (Nat → Int32) → (Nat → Int32) → (Nat → Int32) → (Nat → Int32) → (Nat → Nat → Int64) → (Nat → Nat → Int32) → Prop} (g : gd Γ cX5_giveOut RX5 4 (rmz 4 108) q) (hret : rtI_9 Γ cX5_giveOut 4 (fun (kt : Nat → Int32) (ks : Nat → Int32) (kj : Nat → Int32) (kw : Nat → Int32) (kg : Nat → Int32) (wd : Nat → Nat → Int64) (fw : Nat → Nat → Int32) (bk : Nat → Int32) (ow : Int32) => (cgW a q sz pr pm kv kn kr kt kb ks kj kw kg wd fw ad bk md cr ow hd)) K) (hX : ∀ (x2 : Int32) (kt : Nat → Int32) (ks : Nat → Int32) (kj : Nat → Int32) (kw : Nat → Int32) (kg : Nat → Int32) (wd : Nat → Nat → Int64) (fw : Nat → Nat → Int32) , X x2 kt ks kj kw kg wd fw → jw Γ 4 0 0 (cgW a q sz pr pm kv kn kr kt kb ks kj kw kg wd fw ad bk md cr ow hd) [(0, .ref (a 0)), (1, .int x1), (2, .int x2)] [] 41) :
    ∀ (n : Nat) (x2 : Int32) (x3 : Int32) (kt : Nat → Int32) (ks : Nat → Int32) (kj : Nat → Int32) (kw : Nat → Int32) (kg : Nat → Int32) (wd : Nat → Nat → Int64) (fw : Nat → Nat → Int32) , wp_X5_giveOut_11 x1 sz pm kv kn md K X n x2 x3 kt ks kj kw kg wd fw → jw Γ 4 0 0 (cgW a q sz pr pm kv kn kr kt kb ks kj kw kg wd fw ad bk md cr ow hd) [(0, .ref (a 0)), (1, .int x1), (2, .int x2), (3, .int x3)] [] 11 := by
  intro n
  induction n with
  | zero =>
    intro _ _ _ _ _ _ _ _ _ h
    exact False.elim h
  | succ n ih =>
    intro x2 x3 kt ks kj kw kg wd fw h
    unfold wp_X5_giveOut_11 at h
    refine j_iload_n g 3 rfl dX5_giveOut_11 ?_
    refine j_bipush g (v := 6) (by decide) dX5_giveOut_12 ?_
    refine j_icmp_ge g dX5_giveOut_14 (tgt := 41) (by decide) (fun c1 => ?_) (fun c1 => ?_)
    · replace h := h.1 c1
      refine j_sub [0, 1, 2] rfl ?_
      exact hX x2 kt ks kj kw kg wd fw h
    replace h := h.2 c1
    refine j_iload_n g 2 rfl dX5_giveOut_17 ?_
    refine j_if_le g dX5_giveOut_18 (tgt := 41) (by decide) (fun c2 => ?_) (fun c2 => ?_)
    · replace h := h.1 c2
      refine j_sub [0, 1, 2] rfl ?_
      exact hX x2 kt ks kj kw kg wd fw h
    replace h := h.2 c2
    refine j_aload_n g 0 rfl dX5_giveOut_21 ?_
    refine j_iload_n g 2 rfl dX5_giveOut_22 ?_
    refine j_callVZ_3 g (As := [.int x2]) (st := []) (c_X5_plan  h) cl_X5_110 0 5 cg_0 rfl rfl (Nat.le_of_ble_eq_true rfl) (Nat.le_of_ble_eq_true rfl) (Nat.zero_le _) (Nat.zero_le _) rfl rfl (Nat.le_of_ble_eq_true rfl) dX5_giveOut_23 (fun r_3 kw_3 wd_3 fw_3 hz_3 h => ?_)
    refine j_ws (ws' := (cgW a q sz pr pm kv kn kr kt kb ks kj kw_3 kg wd_3 fw_3 ad bk md cr ow hd)) rfl ?_
    refine j_if_eq g dX5_giveOut_26 (tgt := 41) (by decide) (fun c4 => ?_) (fun c4 => ?_)
    · replace h := h.1 c4
      refine j_sub [0, 1, 2] rfl ?_
      exact hX x2 kt ks kj kw_3 kg wd_3 fw_3 h
    replace h := h.2 c4
    refine j_aload_n g 0 rfl dX5_giveOut_29 ?_
    refine j_iload_n g 2 rfl dX5_giveOut_30 ?_
    refine j_callVI_4 g (As := [.int x2]) (st := []) (c_X5_giveByWay  h) cl_X5_177 0 5 cg_0 rfl rfl (Nat.le_of_ble_eq_true rfl) (Nat.le_of_ble_eq_true rfl) (Nat.zero_le _) (Nat.zero_le _) rfl rfl (Nat.le_of_ble_eq_true rfl) dX5_giveOut_31 (fun r_5 kt_5 ks_5 kj_5 kg_5  h => ?_)
    refine j_ws (ws' := (cgW a q sz pr pm kv kn kr kt_5 kb ks_5 kj_5 kw_3 kg_5 wd_3 fw_3 ad bk md cr ow hd)) rfl ?_
    refine j_istore_n g (lv' := [(2, .int r_5), (0, .ref (a 0)), (1, .int x1), (3, .int x3)]) (by decide) rfl dX5_giveOut_34 ?_
    refine j_iinc g 3 (n := 1) (v := x3 + 1) (lv' := [(3, .int (x3 + 1)), (2, .int r_5), (0, .ref (a 0)), (1, .int x1)]) rfl rfl (by decide) rfl dX5_giveOut_35 ?_
    refine j_goto g dX5_giveOut_38 (tgt := 11) (by decide) ?_
    refine j_sub [2, 3, 1, 0] rfl ?_
    exact ih r_5 (x3 + 1) kt_5 ks_5 kj_5 kw_3 kg_5 wd_3 fw_3 h
set_option maxRecDepth 20000 in
set_option maxHeartbeats 4000000 in
theorem c_X5_giveOut {a : Nat → Nat} {q : Nat → ClassId} {x1 : Int32}  {sz : Int32} {pr : Nat → Int32} {pm : Nat → Nat} {kv : Nat → Int32} {kn : Nat → Int32} {kr : Nat → Int32} {kt : Nat → Int32} {kb : Nat → Int32} {ks : Nat → Int32} {kj : Nat → Int32} {kw : Nat → Int32} {kg : Nat → Int32} {wd : Nat → Nat → Int64} {fw : Nat → Nat → Int32} {ad : Nat → Int32} {bk : Nat → Int32} {md : Int32} {cr : Int32} {ow : Int32} {hd : Int32} {K : Int32 → (Nat → Int32) → (Nat → Int32) → (Nat → Int32) → (Nat → Int32) → (Nat → Int32) → (Nat → Nat → Int64) → (Nat → Nat → Int32) → (Nat → Int32) → Int32 → Prop} (h : wp_X5_giveOut x1 sz pm kv kn kt ks kj kw kg wd fw bk md ow K) : ctI_9 q yX5_giveOut cX5_giveOut 4 4 108 [.ref (a 0), .int x1] (cgW a q sz pr pm kv kn kr kt kb ks kj kw kg wd fw ad bk md cr ow hd) (fun (kt : Nat → Int32) (ks : Nat → Int32) (kj : Nat → Int32) (kw : Nat → Int32) (kg : Nat → Int32) (wd : Nat → Nat → Int64) (fw : Nat → Nat → Int32) (bk : Nat → Int32) (ow : Int32) => (cgW a q sz pr pm kv kn kr kt kb ks kj kw kg wd fw ad bk md cr ow hd)) K := by
  refine met_I_9 (by decide) (Nat.le_of_ble_eq_true rfl) (fun Γ g hret => ?_)
  unfold wp_X5_giveOut at h
  show jw Γ 4 0 0 (cgW a q sz pr pm kv kn kr kt kb ks kj kw kg wd fw ad bk md cr ow hd) [(0, .ref (a 0)), (1, .int x1)] [] 0
  refine j_aload_n g 0 rfl dX5_giveOut_0 ?_
  refine j_get g fl_X5_12 0 cg_0 rfl dX5_giveOut_1 ?_
  refine j_callVV_1 g (As := []) (st := []) (c_X3_forgetGiven  h) cl_X5_174 1 3 cg_1 rfl rfl (Nat.le_of_ble_eq_true rfl) (Nat.le_of_ble_eq_true rfl) (Nat.zero_le _) (Nat.zero_le _) rfl rfl (Nat.le_of_ble_eq_true rfl) dX5_giveOut_4 (fun kg_1 h => ?_)
  refine j_ws (ws' := (cgW a q sz pr pm kv kn kr kt kb ks kj kw kg_1 wd fw ad bk md cr ow hd)) rfl ?_
  refine j_iload_n g 1 rfl dX5_giveOut_7 ?_
  refine j_istore_n g (lv' := [(2, .int x1), (0, .ref (a 0)), (1, .int x1)]) (by decide) rfl dX5_giveOut_8 ?_
  refine j_iconst g (v := 0) (by decide) dX5_giveOut_9 ?_
  refine j_istore_n g (lv' := [(3, .int (0 : Int32)), (2, .int x1), (0, .ref (a 0)), (1, .int x1)]) (by decide) rfl dX5_giveOut_10 ?_
  obtain ⟨n2, h⟩ := h
  refine j_sub [2, 3, 1, 0] rfl ?_
  refine wk_X5_giveOut_11  g hret (fun x2_2 kt_2 ks_2 kj_2 kw_2 kg_2 wd_2 fw_2 h => ?_) n2 x1 (0 : Int32) kt ks kj kw kg_1 wd fw h
  refine j_aload_n g 0 rfl dX5_giveOut_41 ?_
  refine j_dup g rfl dX5_giveOut_42 ?_
  refine j_get g fl_X5_48 0 cg_0 rfl dX5_giveOut_43 ?_
  refine j_iload_n g 2 rfl dX5_giveOut_46 ?_
  refine j_iadd g dX5_giveOut_47 ?_
  refine j_put g fl_X5_48 fp_X5_7 0 cg_0 rfl rfl (Nat.le_of_ble_eq_true rfl) (ws' := (cgW a q sz pr pm kv kn kr kt_2 kb ks_2 kj_2 kw_2 kg_2 wd_2 fw_2 ad bk md cr (ow + x2_2) hd)) rfl dX5_giveOut_48 ?_
  refine j_aload_n g 0 rfl dX5_giveOut_51 ?_
  refine j_get g fl_X5_37 0 cg_0 rfl dX5_giveOut_52 ?_
  refine j_iconst g (v := 2) (by decide) dX5_giveOut_55 ?_
  refine j_dup2 g rfl rfl dX5_giveOut_56 ?_
  obtain ⟨hv3, h⟩ := h
  refine j_iald g 5 cg_5 hv3 dX5_giveOut_57 ?_
  refine j_iload_n g 1 rfl dX5_giveOut_58 ?_
  refine j_iload_n g 2 rfl dX5_giveOut_59 ?_
  refine j_isub g dX5_giveOut_60 ?_
  refine j_iadd g dX5_giveOut_61 ?_
  obtain ⟨hv4, h⟩ := h
  refine j_iast g 5 cg_5 hv4 (ws' := (cgW a q sz pr pm kv kn kr kt_2 kb ks_2 kj_2 kw_2 kg_2 wd_2 fw_2 ad (upd bk (2 : Int32).toNatClampNeg ((bk (2 : Int32).toNatClampNeg) + (x1 - x2_2))) md cr (ow + x2_2) hd)) rfl dX5_giveOut_62 ?_
  refine j_aload_n g 0 rfl dX5_giveOut_63 ?_
  refine j_get g fl_X5_12 0 cg_0 rfl dX5_giveOut_64 ?_
  refine j_callVI_0 g (As := []) (st := []) (c_X3_coinsGiven  h) cl_X5_180 1 3 cg_1 rfl rfl (Nat.le_of_ble_eq_true rfl) (Nat.le_of_ble_eq_true rfl) (Nat.zero_le _) (Nat.zero_le _) rfl rfl (Nat.le_of_ble_eq_true rfl) dX5_giveOut_67 (fun r_5   h => ?_)
  exact hret.go dX5_giveOut_70 h
