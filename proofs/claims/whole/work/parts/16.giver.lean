set_option maxRecDepth 20000 in
def wp_X5_buy (x1 : Int32) (sz : Int32) (pr : Nat → Int32) (pm : Nat → Nat) (kv : Nat → Int32) (kn : Nat → Int32) (kt : Nat → Int32) (kb : Nat → Int32) (ks : Nat → Int32) (kj : Nat → Int32) (kw : Nat → Int32) (kg : Nat → Int32) (wd : Nat → Nat → Int64) (fw : Nat → Nat → Int32) (bk : Nat → Int32) (md : Int32) (cr : Int32) (ow : Int32) (hd : Int32) (K : Int32 → (Nat → Int32) → (Nat → Int32) → (Nat → Int32) → (Nat → Int32) → (Nat → Int32) → (Nat → Int32) → (Nat → Nat → Int64) → (Nat → Nat → Int32) → (Nat → Int32) → Int32 → Int32 → Int32 → Prop) : Prop :=
  wp_X5_priced x1 pr (fun (r_1 : Int32)  => ((r_1 = 0 → K (-1 : Int32) kt kb ks kj kw kg wd fw bk cr ow hd) ∧ (¬ r_1 = 0 → ((r_1 ≤ cr → wp_X3_find hd sz (fun (o_4 : Option Nat)  => (o_4 = none → (vp_in (1 : Int32) 6 ∧ (vp_in (1 : Int32) 6 ∧ wp_X5_endCredit cr hd (fun (cr_7 : Int32) (hd_7 : Int32) => wp_X5_giveOut (cr - r_1) sz pm kv kn kt ks kj kw kg wd fw (upd bk (1 : Int32).toNatClampNeg ((bk (1 : Int32).toNatClampNeg) + r_1)) md ow (fun (r_8 : Int32) (kt_8 : Nat → Int32) (ks_8 : Nat → Int32) (kj_8 : Nat → Int32) (kw_8 : Nat → Int32) (kg_8 : Nat → Int32) (wd_8 : Nat → Nat → Int64) (fw_8 : Nat → Nat → Int32) (bk_8 : Nat → Int32) (ow_8 : Int32) => K r_8 kt_8 kb ks_8 kj_8 kw_8 kg_8 wd_8 fw_8 bk_8 cr_7 ow_8 hd_7))))) ∧ (∀ i_4 : Nat, o_4 = some i_4 → i_4 < 6 → (vp_in (1 : Int32) 6 ∧ (vp_in (1 : Int32) 6 ∧ wp_X5_endCredit cr hd (fun (cr_11 : Int32) (hd_11 : Int32) => wp_X5_giveOut (cr - r_1) sz pm kv kn kt ks kj kw kg wd fw (upd bk (1 : Int32).toNatClampNeg ((bk (1 : Int32).toNatClampNeg) + r_1)) md ow (fun (r_12 : Int32) (kt_12 : Nat → Int32) (ks_12 : Nat → Int32) (kj_12 : Nat → Int32) (kw_12 : Nat → Int32) (kg_12 : Nat → Int32) (wd_12 : Nat → Nat → Int64) (fw_12 : Nat → Nat → Int32) (bk_12 : Nat → Int32) (ow_12 : Int32) => K r_12 kt_12 (upd kb i_4 ((kb i_4) + (1 : Int32))) ks_12 kj_12 kw_12 kg_12 wd_12 fw_12 bk_12 cr_11 ow_12 hd_11))))))) ∧ (¬ r_1 ≤ cr → K (-1 : Int32) kt kb ks kj kw kg wd fw bk cr ow hd)))))
theorem dX5_buy_0 : decode cX5_buy 0 = .ok (.aload_n 0, 1) := by decide +kernel
theorem dX5_buy_1 : decode cX5_buy 1 = .ok (.iload_n 1, 1) := by decide +kernel
theorem dX5_buy_2 : decode cX5_buy 2 = .ok (.invokevirtual 97, 3) := by decide +kernel
theorem dX5_buy_5 : decode cX5_buy 5 = .ok (.istore_n 2, 1) := by decide +kernel
theorem dX5_buy_6 : decode cX5_buy 6 = .ok (.iload_n 2, 1) := by decide +kernel
theorem dX5_buy_7 : decode cX5_buy 7 = .ok (.ifCond .eq 11, 3) := by decide +kernel
theorem dX5_buy_10 : decode cX5_buy 10 = .ok (.iload_n 2, 1) := by decide +kernel
theorem dX5_buy_11 : decode cX5_buy 11 = .ok (.aload_n 0, 1) := by decide +kernel
theorem dX5_buy_12 : decode cX5_buy 12 = .ok (.getfield 45, 3) := by decide +kernel
theorem dX5_buy_15 : decode cX5_buy 15 = .ok (.if_icmp .le 5, 3) := by decide +kernel
theorem dX5_buy_18 : decode cX5_buy 18 = .ok (.iconst (-1), 1) := by decide +kernel
theorem dX5_buy_19 : decode cX5_buy 19 = .ok (.ireturn, 1) := by decide +kernel
theorem dX5_buy_20 : decode cX5_buy 20 = .ok (.aload_n 0, 1) := by decide +kernel
theorem dX5_buy_21 : decode cX5_buy 21 = .ok (.getfield 12, 3) := by decide +kernel
theorem dX5_buy_24 : decode cX5_buy 24 = .ok (.aload_n 0, 1) := by decide +kernel
theorem dX5_buy_25 : decode cX5_buy 25 = .ok (.getfield 51, 3) := by decide +kernel
theorem dX5_buy_28 : decode cX5_buy 28 = .ok (.invokevirtual 84, 3) := by decide +kernel
theorem dX5_buy_31 : decode cX5_buy 31 = .ok (.astore_n 3, 1) := by decide +kernel
theorem dX5_buy_32 : decode cX5_buy 32 = .ok (.aload_n 3, 1) := by decide +kernel
theorem dX5_buy_33 : decode cX5_buy 33 = .ok (.ifnull 13, 3) := by decide +kernel
theorem dX5_buy_36 : decode cX5_buy 36 = .ok (.aload_n 3, 1) := by decide +kernel
theorem dX5_buy_37 : decode cX5_buy 37 = .ok (.dup, 1) := by decide +kernel
theorem dX5_buy_38 : decode cX5_buy 38 = .ok (.getfield 94, 3) := by decide +kernel
theorem dX5_buy_41 : decode cX5_buy 41 = .ok (.iconst 1, 1) := by decide +kernel
theorem dX5_buy_42 : decode cX5_buy 42 = .ok (.iadd, 1) := by decide +kernel
theorem dX5_buy_43 : decode cX5_buy 43 = .ok (.putfield 94, 3) := by decide +kernel
theorem dX5_buy_46 : decode cX5_buy 46 = .ok (.aload_n 0, 1) := by decide +kernel
theorem dX5_buy_47 : decode cX5_buy 47 = .ok (.getfield 37, 3) := by decide +kernel
theorem dX5_buy_50 : decode cX5_buy 50 = .ok (.iconst 1, 1) := by decide +kernel
theorem dX5_buy_51 : decode cX5_buy 51 = .ok (.dup2, 1) := by decide +kernel
theorem dX5_buy_52 : decode cX5_buy 52 = .ok (.iaload, 1) := by decide +kernel
theorem dX5_buy_53 : decode cX5_buy 53 = .ok (.iload_n 2, 1) := by decide +kernel
theorem dX5_buy_54 : decode cX5_buy 54 = .ok (.iadd, 1) := by decide +kernel
theorem dX5_buy_55 : decode cX5_buy 55 = .ok (.iastore, 1) := by decide +kernel
theorem dX5_buy_56 : decode cX5_buy 56 = .ok (.aload_n 0, 1) := by decide +kernel
theorem dX5_buy_57 : decode cX5_buy 57 = .ok (.getfield 45, 3) := by decide +kernel
theorem dX5_buy_60 : decode cX5_buy 60 = .ok (.iload_n 2, 1) := by decide +kernel
theorem dX5_buy_61 : decode cX5_buy 61 = .ok (.isub, 1) := by decide +kernel
theorem dX5_buy_62 : decode cX5_buy 62 = .ok (.istore 4, 2) := by decide +kernel
theorem dX5_buy_64 : decode cX5_buy 64 = .ok (.aload_n 0, 1) := by decide +kernel
theorem dX5_buy_65 : decode cX5_buy 65 = .ok (.invokevirtual 101, 3) := by decide +kernel
theorem dX5_buy_68 : decode cX5_buy 68 = .ok (.aload_n 0, 1) := by decide +kernel
theorem dX5_buy_69 : decode cX5_buy 69 = .ok (.iload 4, 2) := by decide +kernel
theorem dX5_buy_71 : decode cX5_buy 71 = .ok (.invokevirtual 104, 3) := by decide +kernel
theorem dX5_buy_74 : decode cX5_buy 74 = .ok (.ireturn, 1) := by decide +kernel
set_option maxRecDepth 20000 in
set_option maxHeartbeats 4000000 in
theorem c_X5_buy {a : Nat → Nat} {q : Nat → ClassId} {x1 : Int32}  {sz : Int32} {pr : Nat → Int32} {pm : Nat → Nat} {kv : Nat → Int32} {kn : Nat → Int32} {kr : Nat → Int32} {kt : Nat → Int32} {kb : Nat → Int32} {ks : Nat → Int32} {kj : Nat → Int32} {kw : Nat → Int32} {kg : Nat → Int32} {wd : Nat → Nat → Int64} {fw : Nat → Nat → Int32} {ad : Nat → Int32} {bk : Nat → Int32} {md : Int32} {cr : Int32} {ow : Int32} {hd : Int32} {K : Int32 → (Nat → Int32) → (Nat → Int32) → (Nat → Int32) → (Nat → Int32) → (Nat → Int32) → (Nat → Int32) → (Nat → Nat → Int64) → (Nat → Nat → Int32) → (Nat → Int32) → Int32 → Int32 → Int32 → Prop} (h : wp_X5_buy x1 sz pr pm kv kn kt kb ks kj kw kg wd fw bk md cr ow hd K) : ctI_12 q yX5_buy cX5_buy 5 5 131 [.ref (a 0), .int x1] (cgW a q sz pr pm kv kn kr kt kb ks kj kw kg wd fw ad bk md cr ow hd) (fun (kt : Nat → Int32) (kb : Nat → Int32) (ks : Nat → Int32) (kj : Nat → Int32) (kw : Nat → Int32) (kg : Nat → Int32) (wd : Nat → Nat → Int64) (fw : Nat → Nat → Int32) (bk : Nat → Int32) (cr : Int32) (ow : Int32) (hd : Int32) => (cgW a q sz pr pm kv kn kr kt kb ks kj kw kg wd fw ad bk md cr ow hd)) K := by
  refine met_I_12 (by decide) (Nat.le_of_ble_eq_true rfl) (fun Γ g hret => ?_)
  unfold wp_X5_buy at h
  show jw Γ 5 0 0 (cgW a q sz pr pm kv kn kr kt kb ks kj kw kg wd fw ad bk md cr ow hd) [(0, .ref (a 0)), (1, .int x1)] [] 0
  refine j_aload_n g 0 rfl dX5_buy_0 ?_
  refine j_iload_n g 1 rfl dX5_buy_1 ?_
  refine j_callVI_0 g (As := [.int x1]) (st := []) (c_X5_priced  h) cl_X5_97 0 5 cg_0 rfl rfl (Nat.le_of_ble_eq_true rfl) (Nat.le_of_ble_eq_true rfl) (Nat.zero_le _) (Nat.zero_le _) rfl rfl (Nat.le_of_ble_eq_true rfl) dX5_buy_2 (fun r_1   h => ?_)
  refine j_istore_n g (lv' := [(2, .int r_1), (0, .ref (a 0)), (1, .int x1)]) (by decide) rfl dX5_buy_5 ?_
  refine j_iload_n g 0 rfl dX5_buy_6 ?_
  refine j_if_eq g dX5_buy_7 (tgt := 18) (by decide) (fun c2 => ?_) (fun c2 => ?_)
  · replace h := h.1 c2
    refine j_iconst g (v := -1) (by decide) dX5_buy_18 ?_
    exact hret.go dX5_buy_19 h
  replace h := h.2 c2
  refine j_iload_n g 0 rfl dX5_buy_10 ?_
  refine j_aload_n g 1 rfl dX5_buy_11 ?_
  refine j_get g fl_X5_45 0 cg_0 rfl dX5_buy_12 ?_
  refine j_icmp_le g dX5_buy_15 (tgt := 20) (by decide) (fun c3 => ?_) (fun c3 => ?_)
  rotate_left
  · replace h := h.2 c3
    refine j_iconst g (v := -1) (by decide) dX5_buy_18 ?_
    exact hret.go dX5_buy_19 h
  replace h := h.1 c3
  refine j_aload_n g 1 rfl dX5_buy_20 ?_
  refine j_get g fl_X5_12 0 cg_0 rfl dX5_buy_21 ?_
  refine j_aload_n g 1 rfl dX5_buy_24 ?_
  refine j_get g fl_X5_51 0 cg_0 rfl dX5_buy_25 ?_
  refine j_callVQ_0 g (As := [.int hd]) (st := []) (c_X3_find  h) cl_X5_84 1 3 cg_1 rfl rfl (Nat.le_of_ble_eq_true rfl) (Nat.le_of_ble_eq_true rfl) (Nat.zero_le _) (Nat.zero_le _) rfl rfl (Nat.le_of_ble_eq_true rfl) dX5_buy_28 (fun  h => ?_) (fun i_4  hi_4 h => ?_)
  · replace h := h.1 rfl
    refine j_astore_nN g (lv' := [(3, .null), (2, .int r_1), (0, .ref (a 0)), (1, .int x1)]) (by decide) rfl dX5_buy_31 ?_
    refine j_aload_nN g 0 rfl dX5_buy_32 ?_
    refine j_ifnullN g dX5_buy_33 (tgt := 46) (by decide) ?_
    refine j_aload_n g 2 rfl dX5_buy_46 ?_
    refine j_get g fl_X5_37 0 cg_0 rfl dX5_buy_47 ?_
    refine j_iconst g (v := 1) (by decide) dX5_buy_50 ?_
    refine j_dup2 g rfl rfl dX5_buy_51 ?_
    obtain ⟨hv5, h⟩ := h
    refine j_iald g 5 cg_5 hv5 dX5_buy_52 ?_
    refine j_iload_n g 1 rfl dX5_buy_53 ?_
    refine j_iadd g dX5_buy_54 ?_
    obtain ⟨hv6, h⟩ := h
    refine j_iast g 5 cg_5 hv6 (ws' := (cgW a q sz pr pm kv kn kr kt kb ks kj kw kg wd fw ad (upd bk (1 : Int32).toNatClampNeg ((bk (1 : Int32).toNatClampNeg) + r_1)) md cr ow hd)) rfl dX5_buy_55 ?_
    refine j_aload_n g 2 rfl dX5_buy_56 ?_
    refine j_get g fl_X5_45 0 cg_0 rfl dX5_buy_57 ?_
    refine j_iload_n g 1 rfl dX5_buy_60 ?_
    refine j_isub g dX5_buy_61 ?_
    refine j_istore g (lv' := [(4, .int (cr - r_1)), (3, .null), (2, .int r_1), (0, .ref (a 0)), (1, .int x1)]) (by decide) rfl dX5_buy_62 ?_
    refine j_aload_n g 3 rfl dX5_buy_64 ?_
    refine j_callVV_2 g (As := []) (st := []) (c_X5_endCredit  h) cl_X5_101 0 5 cg_0 rfl rfl (Nat.le_of_ble_eq_true rfl) (Nat.le_of_ble_eq_true rfl) (Nat.zero_le _) (Nat.zero_le _) rfl rfl (Nat.le_of_ble_eq_true rfl) dX5_buy_65 (fun cr_7 hd_7 h => ?_)
    refine j_ws (ws' := (cgW a q sz pr pm kv kn kr kt kb ks kj kw kg wd fw ad (upd bk (1 : Int32).toNatClampNeg ((bk (1 : Int32).toNatClampNeg) + r_1)) md cr_7 ow hd_7)) rfl ?_
    refine j_aload_n g 3 rfl dX5_buy_68 ?_
    refine j_iload g 0 rfl dX5_buy_69 ?_
    refine j_callVI_9 g (As := [.int (cr - r_1)]) (st := []) (c_X5_giveOut  h) cl_X5_104 0 5 cg_0 rfl rfl (Nat.le_of_ble_eq_true rfl) (Nat.le_of_ble_eq_true rfl) (Nat.zero_le _) (Nat.zero_le _) rfl rfl (Nat.le_of_ble_eq_true rfl) dX5_buy_71 (fun r_8 kt_8 ks_8 kj_8 kw_8 kg_8 wd_8 fw_8 bk_8 ow_8  h => ?_)
    refine j_ws (ws' := (cgW a q sz pr pm kv kn kr kt_8 kb ks_8 kj_8 kw_8 kg_8 wd_8 fw_8 ad bk_8 md cr_7 ow_8 hd_7)) rfl ?_
    exact hret.go dX5_buy_74 h
  replace h := h.2 i_4 rfl hi_4
  refine j_astore_n g (lv' := [(3, .ref (a (11 + i_4))), (2, .int r_1), (0, .ref (a 0)), (1, .int x1)]) (by decide) rfl dX5_buy_31 ?_
  refine j_aload_n g 0 rfl dX5_buy_32 ?_
  refine j_ifnull g dX5_buy_33 ?_
  refine j_aload_n g 0 rfl dX5_buy_36 ?_
  refine j_dup g rfl dX5_buy_37 ?_
  refine j_get g fl_X5_94 (11 + i_4) (cg_K hi_4) rfl dX5_buy_38 ?_
  refine j_iconst g (v := 1) (by decide) dX5_buy_41 ?_
  refine j_iadd g dX5_buy_42 ?_
  refine j_put g fl_X5_94 fp_X0_4 (11 + i_4) (cg_K hi_4) rfl rfl (Nat.le_of_ble_eq_true rfl) (ws' := (cgW a q sz pr pm kv kn kr kt (upd kb i_4 ((kb i_4) + (1 : Int32))) ks kj kw kg wd fw ad bk md cr ow hd)) (cg_s_kb hi_4) dX5_buy_43 ?_
  refine j_aload_n g 2 rfl dX5_buy_46 ?_
  refine j_get g fl_X5_37 0 cg_0 rfl dX5_buy_47 ?_
  refine j_iconst g (v := 1) (by decide) dX5_buy_50 ?_
  refine j_dup2 g rfl rfl dX5_buy_51 ?_
  obtain ⟨hv9, h⟩ := h
  refine j_iald g 5 cg_5 hv9 dX5_buy_52 ?_
  refine j_iload_n g 1 rfl dX5_buy_53 ?_
  refine j_iadd g dX5_buy_54 ?_
  obtain ⟨hv10, h⟩ := h
  refine j_iast g 5 cg_5 hv10 (ws' := (cgW a q sz pr pm kv kn kr kt (upd kb i_4 ((kb i_4) + (1 : Int32))) ks kj kw kg wd fw ad (upd bk (1 : Int32).toNatClampNeg ((bk (1 : Int32).toNatClampNeg) + r_1)) md cr ow hd)) rfl dX5_buy_55 ?_
  refine j_aload_n g 2 rfl dX5_buy_56 ?_
  refine j_get g fl_X5_45 0 cg_0 rfl dX5_buy_57 ?_
  refine j_iload_n g 1 rfl dX5_buy_60 ?_
  refine j_isub g dX5_buy_61 ?_
  refine j_istore g (lv' := [(4, .int (cr - r_1)), (3, .ref (a (11 + i_4))), (2, .int r_1), (0, .ref (a 0)), (1, .int x1)]) (by decide) rfl dX5_buy_62 ?_
  refine j_aload_n g 3 rfl dX5_buy_64 ?_
  refine j_callVV_2 g (As := []) (st := []) (c_X5_endCredit  h) cl_X5_101 0 5 cg_0 rfl rfl (Nat.le_of_ble_eq_true rfl) (Nat.le_of_ble_eq_true rfl) (Nat.zero_le _) (Nat.zero_le _) rfl rfl (Nat.le_of_ble_eq_true rfl) dX5_buy_65 (fun cr_11 hd_11 h => ?_)
  refine j_ws (ws' := (cgW a q sz pr pm kv kn kr kt (upd kb i_4 ((kb i_4) + (1 : Int32))) ks kj kw kg wd fw ad (upd bk (1 : Int32).toNatClampNeg ((bk (1 : Int32).toNatClampNeg) + r_1)) md cr_11 ow hd_11)) rfl ?_
  refine j_aload_n g 3 rfl dX5_buy_68 ?_
  refine j_iload g 0 rfl dX5_buy_69 ?_
  refine j_callVI_9 g (As := [.int (cr - r_1)]) (st := []) (c_X5_giveOut  h) cl_X5_104 0 5 cg_0 rfl rfl (Nat.le_of_ble_eq_true rfl) (Nat.le_of_ble_eq_true rfl) (Nat.zero_le _) (Nat.zero_le _) rfl rfl (Nat.le_of_ble_eq_true rfl) dX5_buy_71 (fun r_12 kt_12 ks_12 kj_12 kw_12 kg_12 wd_12 fw_12 bk_12 ow_12  h => ?_)
  refine j_ws (ws' := (cgW a q sz pr pm kv kn kr kt_12 (upd kb i_4 ((kb i_4) + (1 : Int32))) ks_12 kj_12 kw_12 kg_12 wd_12 fw_12 ad bk_12 md cr_11 ow_12 hd_11)) rfl ?_
  exact hret.go dX5_buy_74 h

set_option maxRecDepth 20000 in
def wp_X5_refund  (sz : Int32) (pm : Nat → Nat) (kv : Nat → Int32) (kn : Nat → Int32) (kt : Nat → Int32) (ks : Nat → Int32) (kj : Nat → Int32) (kw : Nat → Int32) (kg : Nat → Int32) (wd : Nat → Nat → Int64) (fw : Nat → Nat → Int32) (bk : Nat → Int32) (md : Int32) (cr : Int32) (ow : Int32) (hd : Int32) (K : Int32 → (Nat → Int32) → (Nat → Int32) → (Nat → Int32) → (Nat → Int32) → (Nat → Int32) → (Nat → Nat → Int64) → (Nat → Nat → Int32) → (Nat → Int32) → Int32 → Int32 → Int32 → Prop) : Prop :=
  ((¬ cr = 0 → wp_X5_heldValue sz kv hd (fun (r_2 : Int32)  => (vp_in (2 : Int32) 6 ∧ (vp_in (2 : Int32) 6 ∧ wp_X5_endCredit cr hd (fun (cr_5 : Int32) (hd_5 : Int32) => wp_X5_giveOut (cr - r_2) sz pm kv kn kt ks kj kw kg wd fw (upd bk (2 : Int32).toNatClampNeg ((bk (2 : Int32).toNatClampNeg) + r_2)) md ow (fun (r_6 : Int32) (kt_6 : Nat → Int32) (ks_6 : Nat → Int32) (kj_6 : Nat → Int32) (kw_6 : Nat → Int32) (kg_6 : Nat → Int32) (wd_6 : Nat → Nat → Int64) (fw_6 : Nat → Nat → Int32) (bk_6 : Nat → Int32) (ow_6 : Int32) => K r_6 kt_6 ks_6 kj_6 kw_6 kg_6 wd_6 fw_6 bk_6 cr_5 ow_6 hd_5)))))) ∧ (cr = 0 → K (-1 : Int32) kt ks kj kw kg wd fw bk cr ow hd))
theorem dX5_refund_0 : decode cX5_refund 0 = .ok (.aload_n 0, 1) := by decide +kernel
theorem dX5_refund_1 : decode cX5_refund 1 = .ok (.getfield 45, 3) := by decide +kernel
theorem dX5_refund_4 : decode cX5_refund 4 = .ok (.ifCond .ne 5, 3) := by decide +kernel
theorem dX5_refund_7 : decode cX5_refund 7 = .ok (.iconst (-1), 1) := by decide +kernel
theorem dX5_refund_8 : decode cX5_refund 8 = .ok (.ireturn, 1) := by decide +kernel
theorem dX5_refund_9 : decode cX5_refund 9 = .ok (.aload_n 0, 1) := by decide +kernel
theorem dX5_refund_10 : decode cX5_refund 10 = .ok (.invokevirtual 107, 3) := by decide +kernel
theorem dX5_refund_13 : decode cX5_refund 13 = .ok (.istore_n 1, 1) := by decide +kernel
theorem dX5_refund_14 : decode cX5_refund 14 = .ok (.aload_n 0, 1) := by decide +kernel
theorem dX5_refund_15 : decode cX5_refund 15 = .ok (.getfield 37, 3) := by decide +kernel
theorem dX5_refund_18 : decode cX5_refund 18 = .ok (.iconst 2, 1) := by decide +kernel
theorem dX5_refund_19 : decode cX5_refund 19 = .ok (.dup2, 1) := by decide +kernel
theorem dX5_refund_20 : decode cX5_refund 20 = .ok (.iaload, 1) := by decide +kernel
theorem dX5_refund_21 : decode cX5_refund 21 = .ok (.iload_n 1, 1) := by decide +kernel
theorem dX5_refund_22 : decode cX5_refund 22 = .ok (.iadd, 1) := by decide +kernel
theorem dX5_refund_23 : decode cX5_refund 23 = .ok (.iastore, 1) := by decide +kernel
theorem dX5_refund_24 : decode cX5_refund 24 = .ok (.aload_n 0, 1) := by decide +kernel
theorem dX5_refund_25 : decode cX5_refund 25 = .ok (.getfield 45, 3) := by decide +kernel
theorem dX5_refund_28 : decode cX5_refund 28 = .ok (.iload_n 1, 1) := by decide +kernel
theorem dX5_refund_29 : decode cX5_refund 29 = .ok (.isub, 1) := by decide +kernel
theorem dX5_refund_30 : decode cX5_refund 30 = .ok (.istore_n 2, 1) := by decide +kernel
theorem dX5_refund_31 : decode cX5_refund 31 = .ok (.aload_n 0, 1) := by decide +kernel
theorem dX5_refund_32 : decode cX5_refund 32 = .ok (.invokevirtual 101, 3) := by decide +kernel
theorem dX5_refund_35 : decode cX5_refund 35 = .ok (.aload_n 0, 1) := by decide +kernel
theorem dX5_refund_36 : decode cX5_refund 36 = .ok (.iload_n 2, 1) := by decide +kernel
theorem dX5_refund_37 : decode cX5_refund 37 = .ok (.invokevirtual 104, 3) := by decide +kernel
theorem dX5_refund_40 : decode cX5_refund 40 = .ok (.ireturn, 1) := by decide +kernel
set_option maxRecDepth 20000 in
set_option maxHeartbeats 4000000 in
theorem c_X5_refund {a : Nat → Nat} {q : Nat → ClassId}   {sz : Int32} {pr : Nat → Int32} {pm : Nat → Nat} {kv : Nat → Int32} {kn : Nat → Int32} {kr : Nat → Int32} {kt : Nat → Int32} {kb : Nat → Int32} {ks : Nat → Int32} {kj : Nat → Int32} {kw : Nat → Int32} {kg : Nat → Int32} {wd : Nat → Nat → Int64} {fw : Nat → Nat → Int32} {ad : Nat → Int32} {bk : Nat → Int32} {md : Int32} {cr : Int32} {ow : Int32} {hd : Int32} {K : Int32 → (Nat → Int32) → (Nat → Int32) → (Nat → Int32) → (Nat → Int32) → (Nat → Int32) → (Nat → Nat → Int64) → (Nat → Nat → Int32) → (Nat → Int32) → Int32 → Int32 → Int32 → Prop} (h : wp_X5_refund sz pm kv kn kt ks kj kw kg wd fw bk md cr ow hd K) : ctI_11 q yX5_refund cX5_refund 3 5 131 [.ref (a 0)] (cgW a q sz pr pm kv kn kr kt kb ks kj kw kg wd fw ad bk md cr ow hd) (fun (kt : Nat → Int32) (ks : Nat → Int32) (kj : Nat → Int32) (kw : Nat → Int32) (kg : Nat → Int32) (wd : Nat → Nat → Int64) (fw : Nat → Nat → Int32) (bk : Nat → Int32) (cr : Int32) (ow : Int32) (hd : Int32) => (cgW a q sz pr pm kv kn kr kt kb ks kj kw kg wd fw ad bk md cr ow hd)) K := by
  refine met_I_11 (by decide) (Nat.le_of_ble_eq_true rfl) (fun Γ g hret => ?_)
  unfold wp_X5_refund at h
  show jw Γ 3 0 0 (cgW a q sz pr pm kv kn kr kt kb ks kj kw kg wd fw ad bk md cr ow hd) [(0, .ref (a 0))] [] 0
  refine j_aload_n g 0 rfl dX5_refund_0 ?_
  refine j_get g fl_X5_45 0 cg_0 rfl dX5_refund_1 ?_
  refine j_if_ne g dX5_refund_4 (tgt := 9) (by decide) (fun c1 => ?_) (fun c1 => ?_)
  rotate_left
  · replace h := h.2 c1
    refine j_iconst g (v := -1) (by decide) dX5_refund_7 ?_
    exact hret.go dX5_refund_8 h
  replace h := h.1 c1
  refine j_aload_n g 0 rfl dX5_refund_9 ?_
  refine j_callVI_0 g (As := []) (st := []) (c_X5_heldValue  h) cl_X5_107 0 5 cg_0 rfl rfl (Nat.le_of_ble_eq_true rfl) (Nat.le_of_ble_eq_true rfl) (Nat.zero_le _) (Nat.zero_le _) rfl rfl (Nat.le_of_ble_eq_true rfl) dX5_refund_10 (fun r_2   h => ?_)
  refine j_istore_n g (lv' := [(1, .int r_2), (0, .ref (a 0))]) (by decide) rfl dX5_refund_13 ?_
  refine j_aload_n g 1 rfl dX5_refund_14 ?_
  refine j_get g fl_X5_37 0 cg_0 rfl dX5_refund_15 ?_
  refine j_iconst g (v := 2) (by decide) dX5_refund_18 ?_
  refine j_dup2 g rfl rfl dX5_refund_19 ?_
  obtain ⟨hv3, h⟩ := h
  refine j_iald g 5 cg_5 hv3 dX5_refund_20 ?_
  refine j_iload_n g 0 rfl dX5_refund_21 ?_
  refine j_iadd g dX5_refund_22 ?_
  obtain ⟨hv4, h⟩ := h
  refine j_iast g 5 cg_5 hv4 (ws' := (cgW a q sz pr pm kv kn kr kt kb ks kj kw kg wd fw ad (upd bk (2 : Int32).toNatClampNeg ((bk (2 : Int32).toNatClampNeg) + r_2)) md cr ow hd)) rfl dX5_refund_23 ?_
  refine j_aload_n g 1 rfl dX5_refund_24 ?_
  refine j_get g fl_X5_45 0 cg_0 rfl dX5_refund_25 ?_
  refine j_iload_n g 0 rfl dX5_refund_28 ?_
  refine j_isub g dX5_refund_29 ?_
  refine j_istore_n g (lv' := [(2, .int (cr - r_2)), (1, .int r_2), (0, .ref (a 0))]) (by decide) rfl dX5_refund_30 ?_
  refine j_aload_n g 2 rfl dX5_refund_31 ?_
  refine j_callVV_2 g (As := []) (st := []) (c_X5_endCredit  h) cl_X5_101 0 5 cg_0 rfl rfl (Nat.le_of_ble_eq_true rfl) (Nat.le_of_ble_eq_true rfl) (Nat.zero_le _) (Nat.zero_le _) rfl rfl (Nat.le_of_ble_eq_true rfl) dX5_refund_32 (fun cr_5 hd_5 h => ?_)
  refine j_ws (ws' := (cgW a q sz pr pm kv kn kr kt kb ks kj kw kg wd fw ad (upd bk (2 : Int32).toNatClampNeg ((bk (2 : Int32).toNatClampNeg) + r_2)) md cr_5 ow hd_5)) rfl ?_
  refine j_aload_n g 2 rfl dX5_refund_35 ?_
  refine j_iload_n g 0 rfl dX5_refund_36 ?_
  refine j_callVI_9 g (As := [.int (cr - r_2)]) (st := []) (c_X5_giveOut  h) cl_X5_104 0 5 cg_0 rfl rfl (Nat.le_of_ble_eq_true rfl) (Nat.le_of_ble_eq_true rfl) (Nat.zero_le _) (Nat.zero_le _) rfl rfl (Nat.le_of_ble_eq_true rfl) dX5_refund_37 (fun r_6 kt_6 ks_6 kj_6 kw_6 kg_6 wd_6 fw_6 bk_6 ow_6  h => ?_)
  refine j_ws (ws' := (cgW a q sz pr pm kv kn kr kt_6 kb ks_6 kj_6 kw_6 kg_6 wd_6 fw_6 ad bk_6 md cr_5 ow_6 hd_5)) rfl ?_
  exact hret.go dX5_refund_40 h

set_option maxRecDepth 20000 in
def wp_X5_pay  (sz : Int32) (pm : Nat → Nat) (kv : Nat → Int32) (kn : Nat → Int32) (kt : Nat → Int32) (ks : Nat → Int32) (kj : Nat → Int32) (kw : Nat → Int32) (kg : Nat → Int32) (wd : Nat → Nat → Int64) (fw : Nat → Nat → Int32) (bk : Nat → Int32) (md : Int32) (ow : Int32) (K : Int32 → (Nat → Int32) → (Nat → Int32) → (Nat → Int32) → (Nat → Int32) → (Nat → Int32) → (Nat → Nat → Int64) → (Nat → Nat → Int32) → (Nat → Int32) → Int32 → Prop) : Prop :=
  ((ow = 0 → K (-1 : Int32) kt ks kj kw kg wd fw bk ow) ∧ (¬ ow = 0 → wp_X5_plan ow sz pm kv kn kt ks kw wd fw md (fun (r_2 : Int32) (kw_2 : Nat → Int32) (wd_2 : Nat → Nat → Int64) (fw_2 : Nat → Nat → Int32) => ((¬ r_2 = 0 → wp_X5_giveOut ow sz pm kv kn kt ks kj kw_2 kg wd_2 fw_2 bk md (0 : Int32) (fun (r_4 : Int32) (kt_4 : Nat → Int32) (ks_4 : Nat → Int32) (kj_4 : Nat → Int32) (kw_4 : Nat → Int32) (kg_4 : Nat → Int32) (wd_4 : Nat → Nat → Int64) (fw_4 : Nat → Nat → Int32) (bk_4 : Nat → Int32) (ow_4 : Int32) => K r_4 kt_4 ks_4 kj_4 kw_4 kg_4 wd_4 fw_4 bk_4 ow_4)) ∧ (r_2 = 0 → K (-1 : Int32) kt ks kj kw_2 kg wd_2 fw_2 bk ow)))))
theorem dX5_pay_0 : decode cX5_pay 0 = .ok (.aload_n 0, 1) := by decide +kernel
theorem dX5_pay_1 : decode cX5_pay 1 = .ok (.getfield 48, 3) := by decide +kernel
theorem dX5_pay_4 : decode cX5_pay 4 = .ok (.ifCond .eq 14, 3) := by decide +kernel
theorem dX5_pay_7 : decode cX5_pay 7 = .ok (.aload_n 0, 1) := by decide +kernel
theorem dX5_pay_8 : decode cX5_pay 8 = .ok (.aload_n 0, 1) := by decide +kernel
theorem dX5_pay_9 : decode cX5_pay 9 = .ok (.getfield 48, 3) := by decide +kernel
theorem dX5_pay_12 : decode cX5_pay 12 = .ok (.invokevirtual 110, 3) := by decide +kernel
theorem dX5_pay_15 : decode cX5_pay 15 = .ok (.ifCond .ne 5, 3) := by decide +kernel
theorem dX5_pay_18 : decode cX5_pay 18 = .ok (.iconst (-1), 1) := by decide +kernel
theorem dX5_pay_19 : decode cX5_pay 19 = .ok (.ireturn, 1) := by decide +kernel
theorem dX5_pay_20 : decode cX5_pay 20 = .ok (.aload_n 0, 1) := by decide +kernel
theorem dX5_pay_21 : decode cX5_pay 21 = .ok (.getfield 48, 3) := by decide +kernel
theorem dX5_pay_24 : decode cX5_pay 24 = .ok (.istore_n 1, 1) := by decide +kernel
theorem dX5_pay_25 : decode cX5_pay 25 = .ok (.aload_n 0, 1) := by decide +kernel
theorem dX5_pay_26 : decode cX5_pay 26 = .ok (.iconst 0, 1) := by decide +kernel
theorem dX5_pay_27 : decode cX5_pay 27 = .ok (.putfield 48, 3) := by decide +kernel
theorem dX5_pay_30 : decode cX5_pay 30 = .ok (.aload_n 0, 1) := by decide +kernel
theorem dX5_pay_31 : decode cX5_pay 31 = .ok (.iload_n 1, 1) := by decide +kernel
theorem dX5_pay_32 : decode cX5_pay 32 = .ok (.invokevirtual 104, 3) := by decide +kernel
theorem dX5_pay_35 : decode cX5_pay 35 = .ok (.ireturn, 1) := by decide +kernel
set_option maxRecDepth 20000 in
set_option maxHeartbeats 4000000 in
theorem c_X5_pay {a : Nat → Nat} {q : Nat → ClassId}   {sz : Int32} {pr : Nat → Int32} {pm : Nat → Nat} {kv : Nat → Int32} {kn : Nat → Int32} {kr : Nat → Int32} {kt : Nat → Int32} {kb : Nat → Int32} {ks : Nat → Int32} {kj : Nat → Int32} {kw : Nat → Int32} {kg : Nat → Int32} {wd : Nat → Nat → Int64} {fw : Nat → Nat → Int32} {ad : Nat → Int32} {bk : Nat → Int32} {md : Int32} {cr : Int32} {ow : Int32} {hd : Int32} {K : Int32 → (Nat → Int32) → (Nat → Int32) → (Nat → Int32) → (Nat → Int32) → (Nat → Int32) → (Nat → Nat → Int64) → (Nat → Nat → Int32) → (Nat → Int32) → Int32 → Prop} (h : wp_X5_pay sz pm kv kn kt ks kj kw kg wd fw bk md ow K) : ctI_9 q yX5_pay cX5_pay 2 5 131 [.ref (a 0)] (cgW a q sz pr pm kv kn kr kt kb ks kj kw kg wd fw ad bk md cr ow hd) (fun (kt : Nat → Int32) (ks : Nat → Int32) (kj : Nat → Int32) (kw : Nat → Int32) (kg : Nat → Int32) (wd : Nat → Nat → Int64) (fw : Nat → Nat → Int32) (bk : Nat → Int32) (ow : Int32) => (cgW a q sz pr pm kv kn kr kt kb ks kj kw kg wd fw ad bk md cr ow hd)) K := by
  refine met_I_9 (by decide) (Nat.le_of_ble_eq_true rfl) (fun Γ g hret => ?_)
  unfold wp_X5_pay at h
  show jw Γ 2 0 0 (cgW a q sz pr pm kv kn kr kt kb ks kj kw kg wd fw ad bk md cr ow hd) [(0, .ref (a 0))] [] 0
  refine j_aload_n g 0 rfl dX5_pay_0 ?_
  refine j_get g fl_X5_48 0 cg_0 rfl dX5_pay_1 ?_
  refine j_if_eq g dX5_pay_4 (tgt := 18) (by decide) (fun c1 => ?_) (fun c1 => ?_)
  · replace h := h.1 c1
    refine j_iconst g (v := -1) (by decide) dX5_pay_18 ?_
    exact hret.go dX5_pay_19 h
  replace h := h.2 c1
  refine j_aload_n g 0 rfl dX5_pay_7 ?_
  refine j_aload_n g 0 rfl dX5_pay_8 ?_
  refine j_get g fl_X5_48 0 cg_0 rfl dX5_pay_9 ?_
  refine j_callVZ_3 g (As := [.int ow]) (st := []) (c_X5_plan  h) cl_X5_110 0 5 cg_0 rfl rfl (Nat.le_of_ble_eq_true rfl) (Nat.le_of_ble_eq_true rfl) (Nat.zero_le _) (Nat.zero_le _) rfl rfl (Nat.le_of_ble_eq_true rfl) dX5_pay_12 (fun r_2 kw_2 wd_2 fw_2 hz_2 h => ?_)
  refine j_ws (ws' := (cgW a q sz pr pm kv kn kr kt kb ks kj kw_2 kg wd_2 fw_2 ad bk md cr ow hd)) rfl ?_
  refine j_if_ne g dX5_pay_15 (tgt := 20) (by decide) (fun c3 => ?_) (fun c3 => ?_)
  rotate_left
  · replace h := h.2 c3
    refine j_iconst g (v := -1) (by decide) dX5_pay_18 ?_
    exact hret.go dX5_pay_19 h
  replace h := h.1 c3
  refine j_aload_n g 0 rfl dX5_pay_20 ?_
  refine j_get g fl_X5_48 0 cg_0 rfl dX5_pay_21 ?_
  refine j_istore_n g (lv' := [(1, .int ow), (0, .ref (a 0))]) (by decide) rfl dX5_pay_24 ?_
  refine j_aload_n g 1 rfl dX5_pay_25 ?_
  refine j_iconst g (v := 0) (by decide) dX5_pay_26 ?_
  refine j_put g fl_X5_48 fp_X5_7 0 cg_0 rfl rfl (Nat.le_of_ble_eq_true rfl) (ws' := (cgW a q sz pr pm kv kn kr kt kb ks kj kw_2 kg wd_2 fw_2 ad bk md cr (0 : Int32) hd)) rfl dX5_pay_27 ?_
  refine j_aload_n g 1 rfl dX5_pay_30 ?_
  refine j_iload_n g 0 rfl dX5_pay_31 ?_
  refine j_callVI_9 g (As := [.int ow]) (st := []) (c_X5_giveOut  h) cl_X5_104 0 5 cg_0 rfl rfl (Nat.le_of_ble_eq_true rfl) (Nat.le_of_ble_eq_true rfl) (Nat.zero_le _) (Nat.zero_le _) rfl rfl (Nat.le_of_ble_eq_true rfl) dX5_pay_32 (fun r_4 kt_4 ks_4 kj_4 kw_4 kg_4 wd_4 fw_4 bk_4 ow_4  h => ?_)
  refine j_ws (ws' := (cgW a q sz pr pm kv kn kr kt_4 kb ks_4 kj_4 kw_4 kg_4 wd_4 fw_4 ad bk_4 md cr ow_4 hd)) rfl ?_
  exact hret.go dX5_pay_35 h

set_option maxRecDepth 20000 in
def wp_X5_gave (x1 : Int32) (sz : Int32) (kg : Nat → Int32) (K : Int32 → Prop) : Prop :=
  wp_X3_find x1 sz (fun (o_1 : Option Nat)  => (o_1 = none → K (-1 : Int32)) ∧ (∀ i_1 : Nat, o_1 = some i_1 → i_1 < 6 → K (kg i_1)))
theorem dX5_gave_0 : decode cX5_gave 0 = .ok (.aload_n 0, 1) := by decide +kernel
theorem dX5_gave_1 : decode cX5_gave 1 = .ok (.getfield 12, 3) := by decide +kernel
theorem dX5_gave_4 : decode cX5_gave 4 = .ok (.iload_n 1, 1) := by decide +kernel
theorem dX5_gave_5 : decode cX5_gave 5 = .ok (.invokevirtual 84, 3) := by decide +kernel
theorem dX5_gave_8 : decode cX5_gave 8 = .ok (.astore_n 2, 1) := by decide +kernel
theorem dX5_gave_9 : decode cX5_gave 9 = .ok (.aload_n 2, 1) := by decide +kernel
theorem dX5_gave_10 : decode cX5_gave 10 = .ok (.ifnonnull 7, 3) := by decide +kernel
theorem dX5_gave_13 : decode cX5_gave 13 = .ok (.iconst (-1), 1) := by decide +kernel
theorem dX5_gave_14 : decode cX5_gave 14 = .ok (.goto 7, 3) := by decide +kernel
theorem dX5_gave_17 : decode cX5_gave 17 = .ok (.aload_n 2, 1) := by decide +kernel
theorem dX5_gave_18 : decode cX5_gave 18 = .ok (.getfield 114, 3) := by decide +kernel
theorem dX5_gave_21 : decode cX5_gave 21 = .ok (.ireturn, 1) := by decide +kernel
set_option maxRecDepth 20000 in
set_option maxHeartbeats 4000000 in
theorem c_X5_gave {a : Nat → Nat} {q : Nat → ClassId} {x1 : Int32}  {sz : Int32} {pr : Nat → Int32} {pm : Nat → Nat} {kv : Nat → Int32} {kn : Nat → Int32} {kr : Nat → Int32} {kt : Nat → Int32} {kb : Nat → Int32} {ks : Nat → Int32} {kj : Nat → Int32} {kw : Nat → Int32} {kg : Nat → Int32} {wd : Nat → Nat → Int64} {fw : Nat → Nat → Int32} {ad : Nat → Int32} {bk : Nat → Int32} {md : Int32} {cr : Int32} {ow : Int32} {hd : Int32} {K : Int32 → Prop} (h : wp_X5_gave x1 sz kg K) : ctI_0 q yX5_gave cX5_gave 3 1 21 [.ref (a 0), .int x1] (cgW a q sz pr pm kv kn kr kt kb ks kj kw kg wd fw ad bk md cr ow hd) (cgW a q sz pr pm kv kn kr kt kb ks kj kw kg wd fw ad bk md cr ow hd) K := by
  refine met_I_0 (by decide) (Nat.le_of_ble_eq_true rfl) (fun Γ g hret => ?_)
  unfold wp_X5_gave at h
  show jw Γ 3 0 0 (cgW a q sz pr pm kv kn kr kt kb ks kj kw kg wd fw ad bk md cr ow hd) [(0, .ref (a 0)), (1, .int x1)] [] 0
  refine j_aload_n g 0 rfl dX5_gave_0 ?_
  refine j_get g fl_X5_12 0 cg_0 rfl dX5_gave_1 ?_
  refine j_iload_n g 1 rfl dX5_gave_4 ?_
  refine j_callVQ_0 g (As := [.int x1]) (st := []) (c_X3_find  h) cl_X5_84 1 3 cg_1 rfl rfl (Nat.le_of_ble_eq_true rfl) (Nat.le_of_ble_eq_true rfl) (Nat.zero_le _) (Nat.zero_le _) rfl rfl (Nat.le_of_ble_eq_true rfl) dX5_gave_5 (fun  h => ?_) (fun i_1  hi_1 h => ?_)
  · replace h := h.1 rfl
    refine j_astore_nN g (lv' := [(2, .null), (0, .ref (a 0)), (1, .int x1)]) (by decide) rfl dX5_gave_8 ?_
    refine j_aload_nN g 0 rfl dX5_gave_9 ?_
    refine j_ifnonnullN g dX5_gave_10 ?_
    refine j_iconst g (v := -1) (by decide) dX5_gave_13 ?_
    refine j_goto g dX5_gave_14 (tgt := 21) (by decide) ?_
    exact hret.go dX5_gave_21 h
  replace h := h.2 i_1 rfl hi_1
  refine j_astore_n g (lv' := [(2, .ref (a (11 + i_1))), (0, .ref (a 0)), (1, .int x1)]) (by decide) rfl dX5_gave_8 ?_
  refine j_aload_n g 0 rfl dX5_gave_9 ?_
  refine j_ifnonnull g dX5_gave_10 (tgt := 17) (by decide) ?_
  refine j_aload_n g 0 rfl dX5_gave_17 ?_
  refine j_get g fl_X5_114 (11 + i_1) (cg_K hi_1) rfl dX5_gave_18 ?_
  exact hret.go dX5_gave_21 h

set_option maxRecDepth 20000 in
def wp_X5_way (x1 : Int32) (x2 : Int32) (sz : Int32) (pm : Nat → Nat) (kv : Nat → Int32) (kn : Nat → Int32) (kt : Nat → Int32) (ks : Nat → Int32) (kw : Nat → Int32) (wd : Nat → Nat → Int64) (fw : Nat → Nat → Int32) (md : Int32) (K : Int32 → (Nat → Int32) → (Nat → Nat → Int64) → (Nat → Nat → Int32) → Prop) : Prop :=
  wp_X3_find x2 sz (fun (o_1 : Option Nat)  => (o_1 = none → K (-1 : Int32) kw wd fw) ∧ (∀ i_1 : Nat, o_1 = some i_1 → i_1 < 6 → wp_X5_plan x1 sz pm kv kn kt ks kw wd fw md (fun (r_2 : Int32) (kw_2 : Nat → Int32) (wd_2 : Nat → Nat → Int64) (fw_2 : Nat → Nat → Int32) => ((¬ r_2 = 0 → K (kw_2 i_1) kw_2 wd_2 fw_2) ∧ (r_2 = 0 → K (-1 : Int32) kw_2 wd_2 fw_2)))))
theorem dX5_way_0 : decode cX5_way 0 = .ok (.aload_n 0, 1) := by decide +kernel
theorem dX5_way_1 : decode cX5_way 1 = .ok (.getfield 12, 3) := by decide +kernel
theorem dX5_way_4 : decode cX5_way 4 = .ok (.iload_n 2, 1) := by decide +kernel
theorem dX5_way_5 : decode cX5_way 5 = .ok (.invokevirtual 84, 3) := by decide +kernel
theorem dX5_way_8 : decode cX5_way 8 = .ok (.astore_n 3, 1) := by decide +kernel
theorem dX5_way_9 : decode cX5_way 9 = .ok (.aload_n 3, 1) := by decide +kernel
theorem dX5_way_10 : decode cX5_way 10 = .ok (.ifnull 11, 3) := by decide +kernel
theorem dX5_way_13 : decode cX5_way 13 = .ok (.aload_n 0, 1) := by decide +kernel
theorem dX5_way_14 : decode cX5_way 14 = .ok (.iload_n 1, 1) := by decide +kernel
theorem dX5_way_15 : decode cX5_way 15 = .ok (.invokevirtual 110, 3) := by decide +kernel
theorem dX5_way_18 : decode cX5_way 18 = .ok (.ifCond .ne 5, 3) := by decide +kernel
theorem dX5_way_21 : decode cX5_way 21 = .ok (.iconst (-1), 1) := by decide +kernel
theorem dX5_way_22 : decode cX5_way 22 = .ok (.ireturn, 1) := by decide +kernel
theorem dX5_way_23 : decode cX5_way 23 = .ok (.aload_n 3, 1) := by decide +kernel
theorem dX5_way_24 : decode cX5_way 24 = .ok (.getfield 117, 3) := by decide +kernel
theorem dX5_way_27 : decode cX5_way 27 = .ok (.ireturn, 1) := by decide +kernel
set_option maxRecDepth 20000 in
set_option maxHeartbeats 4000000 in
theorem c_X5_way {a : Nat → Nat} {q : Nat → ClassId} {x1 : Int32} {x2 : Int32}  {sz : Int32} {pr : Nat → Int32} {pm : Nat → Nat} {kv : Nat → Int32} {kn : Nat → Int32} {kr : Nat → Int32} {kt : Nat → Int32} {kb : Nat → Int32} {ks : Nat → Int32} {kj : Nat → Int32} {kw : Nat → Int32} {kg : Nat → Int32} {wd : Nat → Nat → Int64} {fw : Nat → Nat → Int32} {ad : Nat → Int32} {bk : Nat → Int32} {md : Int32} {cr : Int32} {ow : Int32} {hd : Int32} {K : Int32 → (Nat → Int32) → (Nat → Nat → Int64) → (Nat → Nat → Int32) → Prop} (h : wp_X5_way x1 x2 sz pm kv kn kt ks kw wd fw md K) : ctI_3 q yX5_way cX5_way 4 4 108 [.ref (a 0), .int x1, .int x2] (cgW a q sz pr pm kv kn kr kt kb ks kj kw kg wd fw ad bk md cr ow hd) (fun (kw : Nat → Int32) (wd : Nat → Nat → Int64) (fw : Nat → Nat → Int32) => (cgW a q sz pr pm kv kn kr kt kb ks kj kw kg wd fw ad bk md cr ow hd)) K := by
  refine met_I_3 (by decide) (Nat.le_of_ble_eq_true rfl) (fun Γ g hret => ?_)
  unfold wp_X5_way at h
  show jw Γ 4 0 0 (cgW a q sz pr pm kv kn kr kt kb ks kj kw kg wd fw ad bk md cr ow hd) [(0, .ref (a 0)), (1, .int x1), (2, .int x2)] [] 0
  refine j_aload_n g 0 rfl dX5_way_0 ?_
  refine j_get g fl_X5_12 0 cg_0 rfl dX5_way_1 ?_
  refine j_iload_n g 2 rfl dX5_way_4 ?_
  refine j_callVQ_0 g (As := [.int x2]) (st := []) (c_X3_find  h) cl_X5_84 1 3 cg_1 rfl rfl (Nat.le_of_ble_eq_true rfl) (Nat.le_of_ble_eq_true rfl) (Nat.zero_le _) (Nat.zero_le _) rfl rfl (Nat.le_of_ble_eq_true rfl) dX5_way_5 (fun  h => ?_) (fun i_1  hi_1 h => ?_)
  · replace h := h.1 rfl
    refine j_astore_nN g (lv' := [(3, .null), (0, .ref (a 0)), (1, .int x1), (2, .int x2)]) (by decide) rfl dX5_way_8 ?_
    refine j_aload_nN g 0 rfl dX5_way_9 ?_
    refine j_ifnullN g dX5_way_10 (tgt := 21) (by decide) ?_
    refine j_iconst g (v := -1) (by decide) dX5_way_21 ?_
    exact hret.go dX5_way_22 h
  replace h := h.2 i_1 rfl hi_1
  refine j_astore_n g (lv' := [(3, .ref (a (11 + i_1))), (0, .ref (a 0)), (1, .int x1), (2, .int x2)]) (by decide) rfl dX5_way_8 ?_
  refine j_aload_n g 0 rfl dX5_way_9 ?_
  refine j_ifnull g dX5_way_10 ?_
  refine j_aload_n g 1 rfl dX5_way_13 ?_
  refine j_iload_n g 2 rfl dX5_way_14 ?_
  refine j_callVZ_3 g (As := [.int x1]) (st := []) (c_X5_plan  h) cl_X5_110 0 5 cg_0 rfl rfl (Nat.le_of_ble_eq_true rfl) (Nat.le_of_ble_eq_true rfl) (Nat.zero_le _) (Nat.zero_le _) rfl rfl (Nat.le_of_ble_eq_true rfl) dX5_way_15 (fun r_2 kw_2 wd_2 fw_2 hz_2 h => ?_)
  refine j_ws (ws' := (cgW a q sz pr pm kv kn kr kt kb ks kj kw_2 kg wd_2 fw_2 ad bk md cr ow hd)) rfl ?_
  refine j_if_ne g dX5_way_18 (tgt := 23) (by decide) (fun c3 => ?_) (fun c3 => ?_)
  rotate_left
  · replace h := h.2 c3
    refine j_iconst g (v := -1) (by decide) dX5_way_21 ?_
    exact hret.go dX5_way_22 h
  replace h := h.1 c3
  refine j_aload_n g 0 rfl dX5_way_23 ?_
  refine j_get g fl_X5_117 (11 + i_1) (cg_K hi_1) rfl dX5_way_24 ?_
  exact hret.go dX5_way_27 h

set_option maxRecDepth 20000 in
def wp_X5_coins (x1 : Int32) (sz : Int32) (pm : Nat → Nat) (kv : Nat → Int32) (kn : Nat → Int32) (kt : Nat → Int32) (ks : Nat → Int32) (kw : Nat → Int32) (wd : Nat → Nat → Int64) (fw : Nat → Nat → Int32) (md : Int32) (K : Int32 → (Nat → Int32) → (Nat → Nat → Int64) → (Nat → Nat → Int32) → Prop) : Prop :=
  wp_X5_plan x1 sz pm kv kn kt ks kw wd fw md (fun (r_1 : Int32) (kw_1 : Nat → Int32) (wd_1 : Nat → Nat → Int64) (fw_1 : Nat → Nat → Int32) => ((r_1 = 0 → K (-1 : Int32) kw_1 wd_1 fw_1) ∧ (¬ r_1 = 0 → wp_X3_coinsInWay sz kw_1 (fun (r_3 : Int32)  => K r_3 kw_1 wd_1 fw_1))))
theorem dX5_coins_0 : decode cX5_coins 0 = .ok (.aload_n 0, 1) := by decide +kernel
theorem dX5_coins_1 : decode cX5_coins 1 = .ok (.iload_n 1, 1) := by decide +kernel
theorem dX5_coins_2 : decode cX5_coins 2 = .ok (.invokevirtual 110, 3) := by decide +kernel
theorem dX5_coins_5 : decode cX5_coins 5 = .ok (.ifCond .eq 13, 3) := by decide +kernel
theorem dX5_coins_8 : decode cX5_coins 8 = .ok (.aload_n 0, 1) := by decide +kernel
theorem dX5_coins_9 : decode cX5_coins 9 = .ok (.getfield 12, 3) := by decide +kernel
theorem dX5_coins_12 : decode cX5_coins 12 = .ok (.invokevirtual 120, 3) := by decide +kernel
theorem dX5_coins_15 : decode cX5_coins 15 = .ok (.goto 4, 3) := by decide +kernel
theorem dX5_coins_18 : decode cX5_coins 18 = .ok (.iconst (-1), 1) := by decide +kernel
theorem dX5_coins_19 : decode cX5_coins 19 = .ok (.ireturn, 1) := by decide +kernel
set_option maxRecDepth 20000 in
set_option maxHeartbeats 4000000 in
theorem c_X5_coins {a : Nat → Nat} {q : Nat → ClassId} {x1 : Int32}  {sz : Int32} {pr : Nat → Int32} {pm : Nat → Nat} {kv : Nat → Int32} {kn : Nat → Int32} {kr : Nat → Int32} {kt : Nat → Int32} {kb : Nat → Int32} {ks : Nat → Int32} {kj : Nat → Int32} {kw : Nat → Int32} {kg : Nat → Int32} {wd : Nat → Nat → Int64} {fw : Nat → Nat → Int32} {ad : Nat → Int32} {bk : Nat → Int32} {md : Int32} {cr : Int32} {ow : Int32} {hd : Int32} {K : Int32 → (Nat → Int32) → (Nat → Nat → Int64) → (Nat → Nat → Int32) → Prop} (h : wp_X5_coins x1 sz pm kv kn kt ks kw wd fw md K) : ctI_3 q yX5_coins cX5_coins 2 4 108 [.ref (a 0), .int x1] (cgW a q sz pr pm kv kn kr kt kb ks kj kw kg wd fw ad bk md cr ow hd) (fun (kw : Nat → Int32) (wd : Nat → Nat → Int64) (fw : Nat → Nat → Int32) => (cgW a q sz pr pm kv kn kr kt kb ks kj kw kg wd fw ad bk md cr ow hd)) K := by
  refine met_I_3 (by decide) (Nat.le_of_ble_eq_true rfl) (fun Γ g hret => ?_)
  unfold wp_X5_coins at h
  show jw Γ 2 0 0 (cgW a q sz pr pm kv kn kr kt kb ks kj kw kg wd fw ad bk md cr ow hd) [(0, .ref (a 0)), (1, .int x1)] [] 0
  refine j_aload_n g 0 rfl dX5_coins_0 ?_
  refine j_iload_n g 1 rfl dX5_coins_1 ?_
  refine j_callVZ_3 g (As := [.int x1]) (st := []) (c_X5_plan  h) cl_X5_110 0 5 cg_0 rfl rfl (Nat.le_of_ble_eq_true rfl) (Nat.le_of_ble_eq_true rfl) (Nat.zero_le _) (Nat.zero_le _) rfl rfl (Nat.le_of_ble_eq_true rfl) dX5_coins_2 (fun r_1 kw_1 wd_1 fw_1 hz_1 h => ?_)
  refine j_ws (ws' := (cgW a q sz pr pm kv kn kr kt kb ks kj kw_1 kg wd_1 fw_1 ad bk md cr ow hd)) rfl ?_
  refine j_if_eq g dX5_coins_5 (tgt := 18) (by decide) (fun c2 => ?_) (fun c2 => ?_)
  · replace h := h.1 c2
    refine j_iconst g (v := -1) (by decide) dX5_coins_18 ?_
    exact hret.go dX5_coins_19 h
  replace h := h.2 c2
  refine j_aload_n g 0 rfl dX5_coins_8 ?_
  refine j_get g fl_X5_12 0 cg_0 rfl dX5_coins_9 ?_
  refine j_callVI_0 g (As := []) (st := []) (c_X3_coinsInWay  h) cl_X5_120 1 3 cg_1 rfl rfl (Nat.le_of_ble_eq_true rfl) (Nat.le_of_ble_eq_true rfl) (Nat.zero_le _) (Nat.zero_le _) rfl rfl (Nat.le_of_ble_eq_true rfl) dX5_coins_12 (fun r_3   h => ?_)
  refine j_goto g dX5_coins_15 (tgt := 19) (by decide) ?_
  exact hret.go dX5_coins_19 h

set_option maxRecDepth 20000 in
def wp_X5_givable (x1 : Int32) (sz : Int32) (kv : Nat → Int32) (kn : Nat → Int32) (kt : Nat → Int32) (ks : Nat → Int32) (wd : Nat → Nat → Int64) (K : Int32 → (Nat → Nat → Int64) → Prop) : Prop :=
  ((x1 < 0 → K (-1 : Int32) wd) ∧ (¬ x1 < 0 → ((x1 ≤ (999 : Int32) → wp_X3_collect 0 (0 : Int32) sz kv kn kt ks wd (fun (wd_3 : Nat → Nat → Int64) => wp_X2_howMany 0 x1 wd_3 (fun (r_4 : Int32)  => K r_4 wd_3))) ∧ (¬ x1 ≤ (999 : Int32) → K (-1 : Int32) wd))))
theorem dX5_givable_0 : decode cX5_givable 0 = .ok (.iload_n 1, 1) := by decide +kernel
theorem dX5_givable_1 : decode cX5_givable 1 = .ok (.ifCond .lt 10, 3) := by decide +kernel
theorem dX5_givable_4 : decode cX5_givable 4 = .ok (.iload_n 1, 1) := by decide +kernel
theorem dX5_givable_5 : decode cX5_givable 5 = .ok (.sipush 999, 3) := by decide +kernel
theorem dX5_givable_8 : decode cX5_givable 8 = .ok (.if_icmp .le 5, 3) := by decide +kernel
theorem dX5_givable_11 : decode cX5_givable 11 = .ok (.iconst (-1), 1) := by decide +kernel
theorem dX5_givable_12 : decode cX5_givable 12 = .ok (.ireturn, 1) := by decide +kernel
theorem dX5_givable_13 : decode cX5_givable 13 = .ok (.aload_n 0, 1) := by decide +kernel
theorem dX5_givable_14 : decode cX5_givable 14 = .ok (.getfield 12, 3) := by decide +kernel
theorem dX5_givable_17 : decode cX5_givable 17 = .ok (.aload_n 0, 1) := by decide +kernel
theorem dX5_givable_18 : decode cX5_givable 18 = .ok (.getfield 19, 3) := by decide +kernel
theorem dX5_givable_21 : decode cX5_givable 21 = .ok (.iconst 0, 1) := by decide +kernel
theorem dX5_givable_22 : decode cX5_givable 22 = .ok (.invokevirtual 123, 3) := by decide +kernel
theorem dX5_givable_25 : decode cX5_givable 25 = .ok (.aload_n 0, 1) := by decide +kernel
theorem dX5_givable_26 : decode cX5_givable 26 = .ok (.getfield 19, 3) := by decide +kernel
theorem dX5_givable_29 : decode cX5_givable 29 = .ok (.iload_n 1, 1) := by decide +kernel
theorem dX5_givable_30 : decode cX5_givable 30 = .ok (.invokevirtual 127, 3) := by decide +kernel
theorem dX5_givable_33 : decode cX5_givable 33 = .ok (.ireturn, 1) := by decide +kernel
set_option maxRecDepth 20000 in
set_option maxHeartbeats 4000000 in
theorem c_X5_givable {a : Nat → Nat} {q : Nat → ClassId} {x1 : Int32}  {sz : Int32} {pr : Nat → Int32} {pm : Nat → Nat} {kv : Nat → Int32} {kn : Nat → Int32} {kr : Nat → Int32} {kt : Nat → Int32} {kb : Nat → Int32} {ks : Nat → Int32} {kj : Nat → Int32} {kw : Nat → Int32} {kg : Nat → Int32} {wd : Nat → Nat → Int64} {fw : Nat → Nat → Int32} {ad : Nat → Int32} {bk : Nat → Int32} {md : Int32} {cr : Int32} {ow : Int32} {hd : Int32} {K : Int32 → (Nat → Nat → Int64) → Prop} (h : wp_X5_givable x1 sz kv kn kt ks wd K) : ctI_1 q yX5_givable cX5_givable 2 3 74 [.ref (a 0), .int x1] (cgW a q sz pr pm kv kn kr kt kb ks kj kw kg wd fw ad bk md cr ow hd) (fun (wd : Nat → Nat → Int64) => (cgW a q sz pr pm kv kn kr kt kb ks kj kw kg wd fw ad bk md cr ow hd)) K := by
  refine met_I_1 (by decide) (Nat.le_of_ble_eq_true rfl) (fun Γ g hret => ?_)
  unfold wp_X5_givable at h
  show jw Γ 2 0 0 (cgW a q sz pr pm kv kn kr kt kb ks kj kw kg wd fw ad bk md cr ow hd) [(0, .ref (a 0)), (1, .int x1)] [] 0
  refine j_iload_n g 1 rfl dX5_givable_0 ?_
  refine j_if_lt g dX5_givable_1 (tgt := 11) (by decide) (fun c1 => ?_) (fun c1 => ?_)
  · replace h := h.1 c1
    refine j_iconst g (v := -1) (by decide) dX5_givable_11 ?_
    exact hret.go dX5_givable_12 h
  replace h := h.2 c1
  refine j_iload_n g 1 rfl dX5_givable_4 ?_
  refine j_sipush g (v := 999) (by decide) dX5_givable_5 ?_
  refine j_icmp_le g dX5_givable_8 (tgt := 13) (by decide) (fun c2 => ?_) (fun c2 => ?_)
  rotate_left
  · replace h := h.2 c2
    refine j_iconst g (v := -1) (by decide) dX5_givable_11 ?_
    exact hret.go dX5_givable_12 h
  replace h := h.1 c2
  refine j_aload_n g 0 rfl dX5_givable_13 ?_
  refine j_get g fl_X5_12 0 cg_0 rfl dX5_givable_14 ?_
  refine j_aload_n g 0 rfl dX5_givable_17 ?_
  refine j_get g fl_X5_19 0 cg_0 rfl dX5_givable_18 ?_
  refine j_iconst g (v := 0) (by decide) dX5_givable_21 ?_
  refine j_callVV_1 g (As := [.ref (a (17 + 0)), .int (0 : Int32)]) (st := []) (c_X3_collect (Nat.zero_lt_succ 5) h) cl_X5_123 1 3 cg_1 rfl rfl (Nat.le_of_ble_eq_true rfl) (Nat.le_of_ble_eq_true rfl) (Nat.zero_le _) (Nat.zero_le _) rfl rfl (Nat.le_of_ble_eq_true rfl) dX5_givable_22 (fun wd_3 h => ?_)
  refine j_ws (ws' := (cgW a q sz pr pm kv kn kr kt kb ks kj kw kg wd_3 fw ad bk md cr ow hd)) rfl ?_
  refine j_aload_n g 0 rfl dX5_givable_25 ?_
  refine j_get g fl_X5_19 0 cg_0 rfl dX5_givable_26 ?_
  refine j_iload_n g 1 rfl dX5_givable_29 ?_
  refine j_callVI_0 g (As := [.int x1]) (st := []) (c_X2_howMany (Nat.zero_lt_succ 5) h) cl_X5_127 (17 + 0) 2 (cg_S (Nat.zero_lt_succ 5)) rfl rfl (Nat.le_of_ble_eq_true rfl) (Nat.le_of_ble_eq_true rfl) (Nat.zero_le _) (Nat.zero_le _) rfl rfl (Nat.le_of_ble_eq_true rfl) dX5_givable_30 (fun r_4   h => ?_)
  exact hret.go dX5_givable_33 h

set_option maxRecDepth 20000 in
def wp_X5_light  (sz : Int32) (pr : Nat → Int32) (kv : Nat → Int32) (kn : Nat → Int32) (kr : Nat → Int32) (kt : Nat → Int32) (ks : Nat → Int32) (wd : Nat → Nat → Int64) (ad : Nat → Int32) (K : Int32 → (Nat → Nat → Int64) → (Nat → Int32) → Prop) : Prop :=
  wp_X1_fewest (0 : Int32) sz pr kv kn kr kt ks wd ad (fun (r_1 : Int32) (wd_1 : Nat → Nat → Int64) (ad_1 : Nat → Int32) => ((¬ r_1 = (-1 : Int32) → K (0 : Int32) wd_1 ad_1) ∧ (r_1 = (-1 : Int32) → K (1 : Int32) wd_1 ad_1)))
theorem dX5_light_0 : decode cX5_light 0 = .ok (.aload_n 0, 1) := by decide +kernel
theorem dX5_light_1 : decode cX5_light 1 = .ok (.getfield 33, 3) := by decide +kernel
theorem dX5_light_4 : decode cX5_light 4 = .ok (.aload_n 0, 1) := by decide +kernel
theorem dX5_light_5 : decode cX5_light 5 = .ok (.getfield 12, 3) := by decide +kernel
theorem dX5_light_8 : decode cX5_light 8 = .ok (.iconst 0, 1) := by decide +kernel
theorem dX5_light_9 : decode cX5_light 9 = .ok (.invokevirtual 130, 3) := by decide +kernel
theorem dX5_light_12 : decode cX5_light 12 = .ok (.iconst (-1), 1) := by decide +kernel
theorem dX5_light_13 : decode cX5_light 13 = .ok (.if_icmp .ne 7, 3) := by decide +kernel
theorem dX5_light_16 : decode cX5_light 16 = .ok (.iconst 1, 1) := by decide +kernel
theorem dX5_light_17 : decode cX5_light 17 = .ok (.goto 4, 3) := by decide +kernel
theorem dX5_light_20 : decode cX5_light 20 = .ok (.iconst 0, 1) := by decide +kernel
theorem dX5_light_21 : decode cX5_light 21 = .ok (.ireturn, 1) := by decide +kernel
set_option maxRecDepth 20000 in
set_option maxHeartbeats 4000000 in
theorem c_X5_light {a : Nat → Nat} {q : Nat → ClassId}   {sz : Int32} {pr : Nat → Int32} {pm : Nat → Nat} {kv : Nat → Int32} {kn : Nat → Int32} {kr : Nat → Int32} {kt : Nat → Int32} {kb : Nat → Int32} {ks : Nat → Int32} {kj : Nat → Int32} {kw : Nat → Int32} {kg : Nat → Int32} {wd : Nat → Nat → Int64} {fw : Nat → Nat → Int32} {ad : Nat → Int32} {bk : Nat → Int32} {md : Int32} {cr : Int32} {ow : Int32} {hd : Int32} {K : Int32 → (Nat → Nat → Int64) → (Nat → Int32) → Prop} (h : wp_X5_light sz pr kv kn kr kt ks wd ad K) : ctZ_2 q yX5_light cX5_light 1 12 302 [.ref (a 0)] (cgW a q sz pr pm kv kn kr kt kb ks kj kw kg wd fw ad bk md cr ow hd) (fun (wd : Nat → Nat → Int64) (ad : Nat → Int32) => (cgW a q sz pr pm kv kn kr kt kb ks kj kw kg wd fw ad bk md cr ow hd)) K := by
  refine met_Z_2 (by decide) (Nat.le_of_ble_eq_true rfl) (fun Γ g hret => ?_)
  unfold wp_X5_light at h
  show jw Γ 1 0 0 (cgW a q sz pr pm kv kn kr kt kb ks kj kw kg wd fw ad bk md cr ow hd) [(0, .ref (a 0))] [] 0
  refine j_aload_n g 0 rfl dX5_light_0 ?_
  refine j_get g fl_X5_33 0 cg_0 rfl dX5_light_1 ?_
  refine j_aload_n g 0 rfl dX5_light_4 ?_
  refine j_get g fl_X5_12 0 cg_0 rfl dX5_light_5 ?_
  refine j_iconst g (v := 0) (by decide) dX5_light_8 ?_
  refine j_callVI_2 g (As := [.ref (a 1), .int (0 : Int32)]) (st := []) (c_X1_fewest  h) cl_X5_130 8 1 cg_8 rfl rfl (Nat.le_of_ble_eq_true rfl) (Nat.le_of_ble_eq_true rfl) (Nat.zero_le _) (Nat.zero_le _) rfl rfl (Nat.le_of_ble_eq_true rfl) dX5_light_9 (fun r_1 wd_1 ad_1  h => ?_)
  refine j_ws (ws' := (cgW a q sz pr pm kv kn kr kt kb ks kj kw kg wd_1 fw ad_1 bk md cr ow hd)) rfl ?_
  refine j_iconst g (v := -1) (by decide) dX5_light_12 ?_
  refine j_icmp_ne g dX5_light_13 (tgt := 20) (by decide) (fun c2 => ?_) (fun c2 => ?_)
  · replace h := h.1 c2
    refine j_iconst g (v := 0) (by decide) dX5_light_20 ?_
    exact hret.go dX5_light_21 (Or.inl rfl) h
  replace h := h.2 c2
  refine j_iconst g (v := 1) (by decide) dX5_light_16 ?_
  refine j_goto g dX5_light_17 (tgt := 21) (by decide) ?_
  exact hret.go dX5_light_21 (Or.inr rfl) h

set_option maxRecDepth 20000 in
def wp_X5_need (x1 : Int32) (sz : Int32) (pr : Nat → Int32) (kv : Nat → Int32) (kn : Nat → Int32) (kr : Nat → Int32) (kt : Nat → Int32) (ks : Nat → Int32) (wd : Nat → Nat → Int64) (ad : Nat → Int32) (K : Int32 → (Nat → Nat → Int64) → (Nat → Int32) → Prop) : Prop :=
  (((10 : Int32) ≤ x1 → wp_X3_find (x1 - (10 : Int32)) sz (fun (o_3 : Option Nat)  => (o_3 = none → ((x1 = 0 → wp_X1_fewest (4 : Int32) sz pr kv kn kr kt ks wd ad (fun (r_5 : Int32) (wd_5 : Nat → Nat → Int64) (ad_5 : Nat → Int32) => ((r_5 = (-1 : Int32) → K r_5 wd_5 ad_5) ∧ (¬ r_5 = (-1 : Int32) → K r_5 wd_5 ad_5)))) ∧ (¬ x1 = 0 → K (-1 : Int32) wd ad))) ∧ (∀ i_3 : Nat, o_3 = some i_3 → i_3 < 6 → jn (fun (Z7 : Prop) => ((x1 = 0 → Z7) ∧ (¬ x1 = 0 → Z7))) (wp_X1_fewest (4 : Int32) sz pr kv kn kr kt ks wd ad (fun (r_8 : Int32) (wd_8 : Nat → Nat → Int64) (ad_8 : Nat → Int32) => ((r_8 = (-1 : Int32) → K r_8 wd_8 ad_8) ∧ (¬ r_8 = (-1 : Int32) → (vp_in (x1 - (10 : Int32)) 6 ∧ K (ad_8 (x1 - (10 : Int32)).toNatClampNeg) wd_8 ad_8)))))))) ∧ (¬ (10 : Int32) ≤ x1 → ((x1 = 0 → wp_X1_fewest (4 : Int32) sz pr kv kn kr kt ks wd ad (fun (r_13 : Int32) (wd_13 : Nat → Nat → Int64) (ad_13 : Nat → Int32) => ((r_13 = (-1 : Int32) → K r_13 wd_13 ad_13) ∧ (¬ r_13 = (-1 : Int32) → K r_13 wd_13 ad_13)))) ∧ (¬ x1 = 0 → K (-1 : Int32) wd ad))))
theorem dX5_need_0 : decode cX5_need 0 = .ok (.iload_n 1, 1) := by decide +kernel
theorem dX5_need_1 : decode cX5_need 1 = .ok (.bipush 10, 2) := by decide +kernel
theorem dX5_need_3 : decode cX5_need 3 = .ok (.if_icmp .ge 7, 3) := by decide +kernel
theorem dX5_need_6 : decode cX5_need 6 = .ok (.aconst_null, 1) := by decide +kernel
theorem dX5_need_7 : decode cX5_need 7 = .ok (.goto 14, 3) := by decide +kernel
theorem dX5_need_10 : decode cX5_need 10 = .ok (.aload_n 0, 1) := by decide +kernel
theorem dX5_need_11 : decode cX5_need 11 = .ok (.getfield 12, 3) := by decide +kernel
theorem dX5_need_14 : decode cX5_need 14 = .ok (.iload_n 1, 1) := by decide +kernel
theorem dX5_need_15 : decode cX5_need 15 = .ok (.bipush 10, 2) := by decide +kernel
theorem dX5_need_17 : decode cX5_need 17 = .ok (.isub, 1) := by decide +kernel
theorem dX5_need_18 : decode cX5_need 18 = .ok (.invokevirtual 84, 3) := by decide +kernel
theorem dX5_need_21 : decode cX5_need 21 = .ok (.astore_n 2, 1) := by decide +kernel
theorem dX5_need_22 : decode cX5_need 22 = .ok (.iload_n 1, 1) := by decide +kernel
theorem dX5_need_23 : decode cX5_need 23 = .ok (.ifCond .eq 9, 3) := by decide +kernel
theorem dX5_need_26 : decode cX5_need 26 = .ok (.aload_n 2, 1) := by decide +kernel
theorem dX5_need_27 : decode cX5_need 27 = .ok (.ifnonnull 5, 3) := by decide +kernel
theorem dX5_need_30 : decode cX5_need 30 = .ok (.iconst (-1), 1) := by decide +kernel
theorem dX5_need_31 : decode cX5_need 31 = .ok (.ireturn, 1) := by decide +kernel
theorem dX5_need_32 : decode cX5_need 32 = .ok (.aload_n 0, 1) := by decide +kernel
theorem dX5_need_33 : decode cX5_need 33 = .ok (.getfield 33, 3) := by decide +kernel
theorem dX5_need_36 : decode cX5_need 36 = .ok (.aload_n 0, 1) := by decide +kernel
theorem dX5_need_37 : decode cX5_need 37 = .ok (.getfield 12, 3) := by decide +kernel
theorem dX5_need_40 : decode cX5_need 40 = .ok (.iconst 4, 1) := by decide +kernel
theorem dX5_need_41 : decode cX5_need 41 = .ok (.invokevirtual 130, 3) := by decide +kernel
theorem dX5_need_44 : decode cX5_need 44 = .ok (.istore_n 3, 1) := by decide +kernel
theorem dX5_need_45 : decode cX5_need 45 = .ok (.iload_n 3, 1) := by decide +kernel
theorem dX5_need_46 : decode cX5_need 46 = .ok (.iconst (-1), 1) := by decide +kernel
theorem dX5_need_47 : decode cX5_need 47 = .ok (.if_icmp .eq 7, 3) := by decide +kernel
theorem dX5_need_50 : decode cX5_need 50 = .ok (.aload_n 2, 1) := by decide +kernel
theorem dX5_need_51 : decode cX5_need 51 = .ok (.ifnonnull 5, 3) := by decide +kernel
theorem dX5_need_54 : decode cX5_need 54 = .ok (.iload_n 3, 1) := by decide +kernel
theorem dX5_need_55 : decode cX5_need 55 = .ok (.ireturn, 1) := by decide +kernel
theorem dX5_need_56 : decode cX5_need 56 = .ok (.aload_n 0, 1) := by decide +kernel
theorem dX5_need_57 : decode cX5_need 57 = .ok (.getfield 33, 3) := by decide +kernel
theorem dX5_need_60 : decode cX5_need 60 = .ok (.getfield 134, 3) := by decide +kernel
theorem dX5_need_63 : decode cX5_need 63 = .ok (.iload_n 1, 1) := by decide +kernel
theorem dX5_need_64 : decode cX5_need 64 = .ok (.bipush 10, 2) := by decide +kernel
theorem dX5_need_66 : decode cX5_need 66 = .ok (.isub, 1) := by decide +kernel
theorem dX5_need_67 : decode cX5_need 67 = .ok (.iaload, 1) := by decide +kernel
theorem dX5_need_68 : decode cX5_need 68 = .ok (.ireturn, 1) := by decide +kernel
set_option maxRecDepth 20000 in
set_option maxHeartbeats 4000000 in
theorem c_X5_need {a : Nat → Nat} {q : Nat → ClassId} {x1 : Int32}  {sz : Int32} {pr : Nat → Int32} {pm : Nat → Nat} {kv : Nat → Int32} {kn : Nat → Int32} {kr : Nat → Int32} {kt : Nat → Int32} {kb : Nat → Int32} {ks : Nat → Int32} {kj : Nat → Int32} {kw : Nat → Int32} {kg : Nat → Int32} {wd : Nat → Nat → Int64} {fw : Nat → Nat → Int32} {ad : Nat → Int32} {bk : Nat → Int32} {md : Int32} {cr : Int32} {ow : Int32} {hd : Int32} {K : Int32 → (Nat → Nat → Int64) → (Nat → Int32) → Prop} (h : wp_X5_need x1 sz pr kv kn kr kt ks wd ad K) : ctI_2 q yX5_need cX5_need 4 12 302 [.ref (a 0), .int x1] (cgW a q sz pr pm kv kn kr kt kb ks kj kw kg wd fw ad bk md cr ow hd) (fun (wd : Nat → Nat → Int64) (ad : Nat → Int32) => (cgW a q sz pr pm kv kn kr kt kb ks kj kw kg wd fw ad bk md cr ow hd)) K := by
  refine met_I_2 (by decide) (Nat.le_of_ble_eq_true rfl) (fun Γ g hret => ?_)
  unfold wp_X5_need at h
  show jw Γ 4 0 0 (cgW a q sz pr pm kv kn kr kt kb ks kj kw kg wd fw ad bk md cr ow hd) [(0, .ref (a 0)), (1, .int x1)] [] 0
  refine j_iload_n g 1 rfl dX5_need_0 ?_
  refine j_bipush g (v := 10) (by decide) dX5_need_1 ?_
  refine j_icmp_ge g dX5_need_3 (tgt := 10) (by decide) (fun c2 => ?_) (fun c2 => ?_)
  rotate_left
  · replace h := h.2 c2
    refine j_null g dX5_need_6 ?_
    refine j_goto g dX5_need_7 (tgt := 21) (by decide) ?_
    refine j_astore_nN g (lv' := [(2, .null), (0, .ref (a 0)), (1, .int x1)]) (by decide) rfl dX5_need_21 ?_
    refine j_iload_n g 2 rfl dX5_need_22 ?_
    refine j_if_eq g dX5_need_23 (tgt := 32) (by decide) (fun c12 => ?_) (fun c12 => ?_)
    rotate_left
    · replace h := h.2 c12
      refine j_aload_nN g 0 rfl dX5_need_26 ?_
      refine j_ifnonnullN g dX5_need_27 ?_
      refine j_iconst g (v := -1) (by decide) dX5_need_30 ?_
      exact hret.go dX5_need_31 h
    replace h := h.1 c12
    refine j_aload_n g 1 rfl dX5_need_32 ?_
    refine j_get g fl_X5_33 0 cg_0 rfl dX5_need_33 ?_
    refine j_aload_n g 1 rfl dX5_need_36 ?_
    refine j_get g fl_X5_12 0 cg_0 rfl dX5_need_37 ?_
    refine j_iconst g (v := 4) (by decide) dX5_need_40 ?_
    refine j_callVI_2 g (As := [.ref (a 1), .int (4 : Int32)]) (st := []) (c_X1_fewest  h) cl_X5_130 8 1 cg_8 rfl rfl (Nat.le_of_ble_eq_true rfl) (Nat.le_of_ble_eq_true rfl) (Nat.zero_le _) (Nat.zero_le _) rfl rfl (Nat.le_of_ble_eq_true rfl) dX5_need_41 (fun r_13 wd_13 ad_13  h => ?_)
    refine j_ws (ws' := (cgW a q sz pr pm kv kn kr kt kb ks kj kw kg wd_13 fw ad_13 bk md cr ow hd)) rfl ?_
    refine j_istore_n g (lv' := [(3, .int r_13), (2, .null), (0, .ref (a 0)), (1, .int x1)]) (by decide) rfl dX5_need_44 ?_
    refine j_iload_n g 0 rfl dX5_need_45 ?_
    refine j_iconst g (v := -1) (by decide) dX5_need_46 ?_
    refine j_icmp_eq g dX5_need_47 (tgt := 54) (by decide) (fun c14 => ?_) (fun c14 => ?_)
    · replace h := h.1 c14
      refine j_iload_n g 0 rfl dX5_need_54 ?_
      exact hret.go dX5_need_55 h
    replace h := h.2 c14
    refine j_aload_nN g 1 rfl dX5_need_50 ?_
    refine j_ifnonnullN g dX5_need_51 ?_
    refine j_iload_n g 0 rfl dX5_need_54 ?_
    exact hret.go dX5_need_55 h
  replace h := h.1 c2
  refine j_aload_n g 0 rfl dX5_need_10 ?_
  refine j_get g fl_X5_12 0 cg_0 rfl dX5_need_11 ?_
  refine j_iload_n g 1 rfl dX5_need_14 ?_
  refine j_bipush g (v := 10) (by decide) dX5_need_15 ?_
  refine j_isub g dX5_need_17 ?_
  refine j_callVQ_0 g (As := [.int (x1 - (10 : Int32))]) (st := []) (c_X3_find  h) cl_X5_84 1 3 cg_1 rfl rfl (Nat.le_of_ble_eq_true rfl) (Nat.le_of_ble_eq_true rfl) (Nat.zero_le _) (Nat.zero_le _) rfl rfl (Nat.le_of_ble_eq_true rfl) dX5_need_18 (fun  h => ?_) (fun i_3  hi_3 h => ?_)
  · replace h := h.1 rfl
    refine j_astore_nN g (lv' := [(2, .null), (0, .ref (a 0)), (1, .int x1)]) (by decide) rfl dX5_need_21 ?_
    refine j_iload_n g 2 rfl dX5_need_22 ?_
    refine j_if_eq g dX5_need_23 (tgt := 32) (by decide) (fun c4 => ?_) (fun c4 => ?_)
    rotate_left
    · replace h := h.2 c4
      refine j_aload_nN g 0 rfl dX5_need_26 ?_
      refine j_ifnonnullN g dX5_need_27 ?_
      refine j_iconst g (v := -1) (by decide) dX5_need_30 ?_
      exact hret.go dX5_need_31 h
    replace h := h.1 c4
    refine j_aload_n g 1 rfl dX5_need_32 ?_
    refine j_get g fl_X5_33 0 cg_0 rfl dX5_need_33 ?_
    refine j_aload_n g 1 rfl dX5_need_36 ?_
    refine j_get g fl_X5_12 0 cg_0 rfl dX5_need_37 ?_
    refine j_iconst g (v := 4) (by decide) dX5_need_40 ?_
    refine j_callVI_2 g (As := [.ref (a 1), .int (4 : Int32)]) (st := []) (c_X1_fewest  h) cl_X5_130 8 1 cg_8 rfl rfl (Nat.le_of_ble_eq_true rfl) (Nat.le_of_ble_eq_true rfl) (Nat.zero_le _) (Nat.zero_le _) rfl rfl (Nat.le_of_ble_eq_true rfl) dX5_need_41 (fun r_5 wd_5 ad_5  h => ?_)
    refine j_ws (ws' := (cgW a q sz pr pm kv kn kr kt kb ks kj kw kg wd_5 fw ad_5 bk md cr ow hd)) rfl ?_
    refine j_istore_n g (lv' := [(3, .int r_5), (2, .null), (0, .ref (a 0)), (1, .int x1)]) (by decide) rfl dX5_need_44 ?_
    refine j_iload_n g 0 rfl dX5_need_45 ?_
    refine j_iconst g (v := -1) (by decide) dX5_need_46 ?_
    refine j_icmp_eq g dX5_need_47 (tgt := 54) (by decide) (fun c6 => ?_) (fun c6 => ?_)
    · replace h := h.1 c6
      refine j_iload_n g 0 rfl dX5_need_54 ?_
      exact hret.go dX5_need_55 h
    replace h := h.2 c6
    refine j_aload_nN g 1 rfl dX5_need_50 ?_
    refine j_ifnonnullN g dX5_need_51 ?_
    refine j_iload_n g 0 rfl dX5_need_54 ?_
    exact hret.go dX5_need_55 h
  replace h := h.2 i_3 rfl hi_3
  refine j_astore_n g (lv' := [(2, .ref (a (11 + i_3))), (0, .ref (a 0)), (1, .int x1)]) (by decide) rfl dX5_need_21 ?_
  refine j_iload_n g 2 rfl dX5_need_22 ?_
  refine jn_cut h (fun Z7 eZ7 h => ?_)
  have hZ7 : Z7 → jw Γ 4 0 0 (cgW a q sz pr pm kv kn kr kt kb ks kj kw kg wd fw ad bk md cr ow hd) [(0, .ref (a 0)), (1, .int x1), (2, .ref (a (11 + i_3)))] [] 32 := by
    intro h
    rw [eZ7] at h
    refine j_aload_n g 0 rfl dX5_need_32 ?_
    refine j_get g fl_X5_33 0 cg_0 rfl dX5_need_33 ?_
    refine j_aload_n g 0 rfl dX5_need_36 ?_
    refine j_get g fl_X5_12 0 cg_0 rfl dX5_need_37 ?_
    refine j_iconst g (v := 4) (by decide) dX5_need_40 ?_
    refine j_callVI_2 g (As := [.ref (a 1), .int (4 : Int32)]) (st := []) (c_X1_fewest  h) cl_X5_130 8 1 cg_8 rfl rfl (Nat.le_of_ble_eq_true rfl) (Nat.le_of_ble_eq_true rfl) (Nat.zero_le _) (Nat.zero_le _) rfl rfl (Nat.le_of_ble_eq_true rfl) dX5_need_41 (fun r_8 wd_8 ad_8  h => ?_)
    refine j_ws (ws' := (cgW a q sz pr pm kv kn kr kt kb ks kj kw kg wd_8 fw ad_8 bk md cr ow hd)) rfl ?_
    refine j_istore_n g (lv' := [(3, .int r_8), (0, .ref (a 0)), (1, .int x1), (2, .ref (a (11 + i_3)))]) (by decide) rfl dX5_need_44 ?_
    refine j_iload_n g 0 rfl dX5_need_45 ?_
    refine j_iconst g (v := -1) (by decide) dX5_need_46 ?_
    refine j_icmp_eq g dX5_need_47 (tgt := 54) (by decide) (fun c9 => ?_) (fun c9 => ?_)
    · replace h := h.1 c9
      refine j_iload_n g 0 rfl dX5_need_54 ?_
      exact hret.go dX5_need_55 h
    replace h := h.2 c9
    refine j_aload_n g 3 rfl dX5_need_50 ?_
    refine j_ifnonnull g dX5_need_51 (tgt := 56) (by decide) ?_
    refine j_aload_n g 1 rfl dX5_need_56 ?_
    refine j_get g fl_X5_33 0 cg_0 rfl dX5_need_57 ?_
    refine j_get g fl_X5_134 8 cg_8 rfl dX5_need_60 ?_
    refine j_iload_n g 2 rfl dX5_need_63 ?_
    refine j_bipush g (v := 10) (by decide) dX5_need_64 ?_
    refine j_isub g dX5_need_66 ?_
    obtain ⟨hv10, h⟩ := h
    refine j_iald g 9 cg_9 hv10 dX5_need_67 ?_
    exact hret.go dX5_need_68 h
  refine j_if_eq g dX5_need_23 (tgt := 32) (by decide) (fun c11 => ?_) (fun c11 => ?_)
  · replace h := h.1 c11
    refine j_sub [1, 2, 0] rfl ?_
    exact hZ7 h
  replace h := h.2 c11
  refine j_aload_n g 0 rfl dX5_need_26 ?_
  refine j_ifnonnull g dX5_need_27 (tgt := 32) (by decide) ?_
  refine j_sub [1, 2, 0] rfl ?_
  exact hZ7 h

set_option maxRecDepth 20000 in
def wp_X5_look (x1 : Int32) (sz : Int32) (kv : Nat → Int32) (kt : Nat → Int32) (kb : Nat → Int32) (bk : Nat → Int32) (md : Int32) (cr : Int32) (ow : Int32) (hd : Int32) (K : Int32 → Prop) : Prop :=
  jn (fun (Z1 : Prop) => ((x1 < (10 : Int32) → Z1) ∧ (¬ x1 < (10 : Int32) → (((16 : Int32) ≤ x1 → Z1) ∧ (¬ (16 : Int32) ≤ x1 → (vp_in (x1 - (10 : Int32)) 6 ∧ K (bk (x1 - (10 : Int32)).toNatClampNeg))))))) (((x1 = (0 : Int32) → K sz) ∧ (x1 = (1 : Int32) → K cr) ∧ (x1 = (2 : Int32) → K ow) ∧ (x1 = (3 : Int32) → K hd) ∧ (x1 = (4 : Int32) → K md) ∧ (x1 = (5 : Int32) → wp_X3_tubesValue sz kv kt (fun (r_3 : Int32)  => wp_X3_boxValue sz kv kb (fun (r_4 : Int32)  => wp_X5_heldValue sz kv hd (fun (r_5 : Int32)  => K ((r_3 + r_4) + r_5))))) ∧ (x1 = (6 : Int32) → wp_X3_boxValue sz kv kb (fun (r_6 : Int32)  => K r_6)) ∧ (¬ x1 = (0 : Int32) → ¬ x1 = (1 : Int32) → ¬ x1 = (2 : Int32) → ¬ x1 = (3 : Int32) → ¬ x1 = (4 : Int32) → ¬ x1 = (5 : Int32) → ¬ x1 = (6 : Int32) → K (-1000000 : Int32))))
theorem dX5_look_0 : decode cX5_look 0 = .ok (.iload_n 1, 1) := by decide +kernel
theorem dX5_look_1 : decode cX5_look 1 = .ok (.bipush 10, 2) := by decide +kernel
theorem dX5_look_3 : decode cX5_look 3 = .ok (.if_icmp .lt 19, 3) := by decide +kernel
theorem dX5_look_6 : decode cX5_look 6 = .ok (.iload_n 1, 1) := by decide +kernel
theorem dX5_look_7 : decode cX5_look 7 = .ok (.bipush 16, 2) := by decide +kernel
theorem dX5_look_9 : decode cX5_look 9 = .ok (.if_icmp .ge 13, 3) := by decide +kernel
theorem dX5_look_12 : decode cX5_look 12 = .ok (.aload_n 0, 1) := by decide +kernel
theorem dX5_look_13 : decode cX5_look 13 = .ok (.getfield 37, 3) := by decide +kernel
theorem dX5_look_16 : decode cX5_look 16 = .ok (.iload_n 1, 1) := by decide +kernel
theorem dX5_look_17 : decode cX5_look 17 = .ok (.bipush 10, 2) := by decide +kernel
theorem dX5_look_19 : decode cX5_look 19 = .ok (.isub, 1) := by decide +kernel
theorem dX5_look_20 : decode cX5_look 20 = .ok (.iaload, 1) := by decide +kernel
theorem dX5_look_21 : decode cX5_look 21 = .ok (.ireturn, 1) := by decide +kernel
theorem dX5_look_22 : decode cX5_look 22 = .ok (.iload_n 1, 1) := by decide +kernel
theorem dX5_look_23 : decode cX5_look 23 = .ok (.tableswitch 98 0 6 #[41, 49, 54, 59, 64, 69, 90], 41) := by decide +kernel
theorem dX5_look_64 : decode cX5_look 64 = .ok (.aload_n 0, 1) := by decide +kernel
theorem dX5_look_65 : decode cX5_look 65 = .ok (.getfield 12, 3) := by decide +kernel
theorem dX5_look_68 : decode cX5_look 68 = .ok (.getfield 137, 3) := by decide +kernel
theorem dX5_look_71 : decode cX5_look 71 = .ok (.ireturn, 1) := by decide +kernel
theorem dX5_look_72 : decode cX5_look 72 = .ok (.aload_n 0, 1) := by decide +kernel
theorem dX5_look_73 : decode cX5_look 73 = .ok (.getfield 45, 3) := by decide +kernel
theorem dX5_look_76 : decode cX5_look 76 = .ok (.ireturn, 1) := by decide +kernel
theorem dX5_look_77 : decode cX5_look 77 = .ok (.aload_n 0, 1) := by decide +kernel
theorem dX5_look_78 : decode cX5_look 78 = .ok (.getfield 48, 3) := by decide +kernel
theorem dX5_look_81 : decode cX5_look 81 = .ok (.ireturn, 1) := by decide +kernel
theorem dX5_look_82 : decode cX5_look 82 = .ok (.aload_n 0, 1) := by decide +kernel
theorem dX5_look_83 : decode cX5_look 83 = .ok (.getfield 51, 3) := by decide +kernel
theorem dX5_look_86 : decode cX5_look 86 = .ok (.ireturn, 1) := by decide +kernel
theorem dX5_look_87 : decode cX5_look 87 = .ok (.aload_n 0, 1) := by decide +kernel
theorem dX5_look_88 : decode cX5_look 88 = .ok (.getfield 41, 3) := by decide +kernel
theorem dX5_look_91 : decode cX5_look 91 = .ok (.ireturn, 1) := by decide +kernel
theorem dX5_look_92 : decode cX5_look 92 = .ok (.aload_n 0, 1) := by decide +kernel
theorem dX5_look_93 : decode cX5_look 93 = .ok (.getfield 12, 3) := by decide +kernel
theorem dX5_look_96 : decode cX5_look 96 = .ok (.invokevirtual 140, 3) := by decide +kernel
theorem dX5_look_99 : decode cX5_look 99 = .ok (.aload_n 0, 1) := by decide +kernel
theorem dX5_look_100 : decode cX5_look 100 = .ok (.getfield 12, 3) := by decide +kernel
theorem dX5_look_103 : decode cX5_look 103 = .ok (.invokevirtual 143, 3) := by decide +kernel
theorem dX5_look_106 : decode cX5_look 106 = .ok (.iadd, 1) := by decide +kernel
theorem dX5_look_107 : decode cX5_look 107 = .ok (.aload_n 0, 1) := by decide +kernel
theorem dX5_look_108 : decode cX5_look 108 = .ok (.invokevirtual 107, 3) := by decide +kernel
theorem dX5_look_111 : decode cX5_look 111 = .ok (.iadd, 1) := by decide +kernel
theorem dX5_look_112 : decode cX5_look 112 = .ok (.ireturn, 1) := by decide +kernel
theorem dX5_look_113 : decode cX5_look 113 = .ok (.aload_n 0, 1) := by decide +kernel
theorem dX5_look_114 : decode cX5_look 114 = .ok (.getfield 12, 3) := by decide +kernel
theorem dX5_look_117 : decode cX5_look 117 = .ok (.invokevirtual 143, 3) := by decide +kernel
theorem dX5_look_120 : decode cX5_look 120 = .ok (.ireturn, 1) := by decide +kernel
theorem dX5_look_121 : decode cX5_look 121 = .ok (.ldc 146, 2) := by decide +kernel
theorem dX5_look_123 : decode cX5_look 123 = .ok (.ireturn, 1) := by decide +kernel
set_option maxRecDepth 20000 in
set_option maxHeartbeats 4000000 in
theorem c_X5_look {a : Nat → Nat} {q : Nat → ClassId} {x1 : Int32}  {sz : Int32} {pr : Nat → Int32} {pm : Nat → Nat} {kv : Nat → Int32} {kn : Nat → Int32} {kr : Nat → Int32} {kt : Nat → Int32} {kb : Nat → Int32} {ks : Nat → Int32} {kj : Nat → Int32} {kw : Nat → Int32} {kg : Nat → Int32} {wd : Nat → Nat → Int64} {fw : Nat → Nat → Int32} {ad : Nat → Int32} {bk : Nat → Int32} {md : Int32} {cr : Int32} {ow : Int32} {hd : Int32} {K : Int32 → Prop} (h : wp_X5_look x1 sz kv kt kb bk md cr ow hd K) : ctI_0 q yX5_look cX5_look 2 2 42 [.ref (a 0), .int x1] (cgW a q sz pr pm kv kn kr kt kb ks kj kw kg wd fw ad bk md cr ow hd) (cgW a q sz pr pm kv kn kr kt kb ks kj kw kg wd fw ad bk md cr ow hd) K := by
  refine met_I_0 (by decide) (Nat.le_of_ble_eq_true rfl) (fun Γ g hret => ?_)
  unfold wp_X5_look at h
  show jw Γ 2 0 0 (cgW a q sz pr pm kv kn kr kt kb ks kj kw kg wd fw ad bk md cr ow hd) [(0, .ref (a 0)), (1, .int x1)] [] 0
  refine j_iload_n g 1 rfl dX5_look_0 ?_
  refine j_bipush g (v := 10) (by decide) dX5_look_1 ?_
  refine jn_cut h (fun Z1 eZ1 h => ?_)
  have hZ1 : Z1 → jw Γ 2 0 0 (cgW a q sz pr pm kv kn kr kt kb ks kj kw kg wd fw ad bk md cr ow hd) [(0, .ref (a 0)), (1, .int x1)] [] 22 := by
    intro h
    rw [eZ1] at h
    refine j_iload_n g 1 rfl dX5_look_22 ?_
    by_cases c2_0 : x1 = (0 : Int32)
    · replace h := h.1 c2_0
      refine j_swI g dX5_look_23 (sw_lo c2_0 (by decide)) (sw_hi c2_0 (by decide)) (sw_at (n := 0) c2_0 (by decide) rfl) (tgt := 64) (by decide) ?_
      refine j_aload_n g 0 rfl dX5_look_64 ?_
      refine j_get g fl_X5_12 0 cg_0 rfl dX5_look_65 ?_
      refine j_get g fl_X5_137 1 cg_1 rfl dX5_look_68 ?_
      exact hret.go dX5_look_71 h
    by_cases c2_1 : x1 = (1 : Int32)
    · replace h := h.2.1 c2_1
      refine j_swI g dX5_look_23 (sw_lo c2_1 (by decide)) (sw_hi c2_1 (by decide)) (sw_at (n := 1) c2_1 (by decide) rfl) (tgt := 72) (by decide) ?_
      refine j_aload_n g 0 rfl dX5_look_72 ?_
      refine j_get g fl_X5_45 0 cg_0 rfl dX5_look_73 ?_
      exact hret.go dX5_look_76 h
    by_cases c2_2 : x1 = (2 : Int32)
    · replace h := h.2.2.1 c2_2
      refine j_swI g dX5_look_23 (sw_lo c2_2 (by decide)) (sw_hi c2_2 (by decide)) (sw_at (n := 2) c2_2 (by decide) rfl) (tgt := 77) (by decide) ?_
      refine j_aload_n g 0 rfl dX5_look_77 ?_
      refine j_get g fl_X5_48 0 cg_0 rfl dX5_look_78 ?_
      exact hret.go dX5_look_81 h
    by_cases c2_3 : x1 = (3 : Int32)
    · replace h := h.2.2.2.1 c2_3
      refine j_swI g dX5_look_23 (sw_lo c2_3 (by decide)) (sw_hi c2_3 (by decide)) (sw_at (n := 3) c2_3 (by decide) rfl) (tgt := 82) (by decide) ?_
      refine j_aload_n g 0 rfl dX5_look_82 ?_
      refine j_get g fl_X5_51 0 cg_0 rfl dX5_look_83 ?_
      exact hret.go dX5_look_86 h
    by_cases c2_4 : x1 = (4 : Int32)
    · replace h := h.2.2.2.2.1 c2_4
      refine j_swI g dX5_look_23 (sw_lo c2_4 (by decide)) (sw_hi c2_4 (by decide)) (sw_at (n := 4) c2_4 (by decide) rfl) (tgt := 87) (by decide) ?_
      refine j_aload_n g 0 rfl dX5_look_87 ?_
      refine j_get g fl_X5_41 0 cg_0 rfl dX5_look_88 ?_
      exact hret.go dX5_look_91 h
    by_cases c2_5 : x1 = (5 : Int32)
    · replace h := h.2.2.2.2.2.1 c2_5
      refine j_swI g dX5_look_23 (sw_lo c2_5 (by decide)) (sw_hi c2_5 (by decide)) (sw_at (n := 5) c2_5 (by decide) rfl) (tgt := 92) (by decide) ?_
      refine j_aload_n g 0 rfl dX5_look_92 ?_
      refine j_get g fl_X5_12 0 cg_0 rfl dX5_look_93 ?_
      refine j_callVI_0 g (As := []) (st := []) (c_X3_tubesValue  h) cl_X5_140 1 3 cg_1 rfl rfl (Nat.le_of_ble_eq_true rfl) (Nat.le_of_ble_eq_true rfl) (Nat.zero_le _) (Nat.zero_le _) rfl rfl (Nat.le_of_ble_eq_true rfl) dX5_look_96 (fun r_3   h => ?_)
      refine j_aload_n g 0 rfl dX5_look_99 ?_
      refine j_get g fl_X5_12 0 cg_0 rfl dX5_look_100 ?_
      refine j_callVI_0 g (As := []) (st := [.int r_3]) (c_X3_boxValue  h) cl_X5_143 1 3 cg_1 rfl rfl (Nat.le_of_ble_eq_true rfl) (Nat.le_of_ble_eq_true rfl) (Nat.zero_le _) (Nat.zero_le _) rfl rfl (Nat.le_of_ble_eq_true rfl) dX5_look_103 (fun r_4   h => ?_)
      refine j_iadd g dX5_look_106 ?_
      refine j_aload_n g 0 rfl dX5_look_107 ?_
      refine j_callVI_0 g (As := []) (st := [.int (r_3 + r_4)]) (c_X5_heldValue  h) cl_X5_107 0 5 cg_0 rfl rfl (Nat.le_of_ble_eq_true rfl) (Nat.le_of_ble_eq_true rfl) (Nat.zero_le _) (Nat.zero_le _) rfl rfl (Nat.le_of_ble_eq_true rfl) dX5_look_108 (fun r_5   h => ?_)
      refine j_iadd g dX5_look_111 ?_
      exact hret.go dX5_look_112 h
    by_cases c2_6 : x1 = (6 : Int32)
    · replace h := h.2.2.2.2.2.2.1 c2_6
      refine j_swI g dX5_look_23 (sw_lo c2_6 (by decide)) (sw_hi c2_6 (by decide)) (sw_at (n := 6) c2_6 (by decide) rfl) (tgt := 113) (by decide) ?_
      refine j_aload_n g 0 rfl dX5_look_113 ?_
      refine j_get g fl_X5_12 0 cg_0 rfl dX5_look_114 ?_
      refine j_callVI_0 g (As := []) (st := []) (c_X3_boxValue  h) cl_X5_143 1 3 cg_1 rfl rfl (Nat.le_of_ble_eq_true rfl) (Nat.le_of_ble_eq_true rfl) (Nat.zero_le _) (Nat.zero_le _) rfl rfl (Nat.le_of_ble_eq_true rfl) dX5_look_117 (fun r_6   h => ?_)
      exact hret.go dX5_look_120 h
    replace h := h.2.2.2.2.2.2.2 c2_0 c2_1 c2_2 c2_3 c2_4 c2_5 c2_6
    refine j_swO g dX5_look_23 (sw_out7 c2_0 c2_1 c2_2 c2_3 c2_4 c2_5 c2_6) (tgt := 121) (by decide) ?_
    refine j_ldc g (v := -1000000) ld_X5_146 dX5_look_121 ?_
    exact hret.go dX5_look_123 h
  refine j_icmp_lt g dX5_look_3 (tgt := 22) (by decide) (fun c7 => ?_) (fun c7 => ?_)
  · replace h := h.1 c7
    exact hZ1 h
  replace h := h.2 c7
  refine j_iload_n g 1 rfl dX5_look_6 ?_
  refine j_bipush g (v := 16) (by decide) dX5_look_7 ?_
  refine j_icmp_ge g dX5_look_9 (tgt := 22) (by decide) (fun c8 => ?_) (fun c8 => ?_)
  · replace h := h.1 c8
    exact hZ1 h
  replace h := h.2 c8
  refine j_aload_n g 0 rfl dX5_look_12 ?_
  refine j_get g fl_X5_37 0 cg_0 rfl dX5_look_13 ?_
  refine j_iload_n g 1 rfl dX5_look_16 ?_
  refine j_bipush g (v := 10) (by decide) dX5_look_17 ?_
  refine j_isub g dX5_look_19 ?_
  obtain ⟨hv9, h⟩ := h
  refine j_iald g 5 cg_5 hv9 dX5_look_20 ?_
  exact hret.go dX5_look_21 h

set_option maxRecDepth 20000 in
def wp_X5_kind (x1 : Int32) (x2 : Int32) (sz : Int32) (kv : Nat → Int32) (kn : Nat → Int32) (kr : Nat → Int32) (kt : Nat → Int32) (kb : Nat → Int32) (ks : Nat → Int32) (kj : Nat → Int32) (K : Int32 → Prop) : Prop :=
  wp_X3_find x1 sz (fun (o_1 : Option Nat)  => (o_1 = none → K (-2 : Int32)) ∧ (∀ i_1 : Nat, o_1 = some i_1 → i_1 < 6 → ((x2 = (0 : Int32) → K (kv i_1)) ∧ (x2 = (1 : Int32) → ((kn i_1 = 0 → K (0 : Int32)) ∧ (¬ kn i_1 = 0 → K (1 : Int32)))) ∧ (x2 = (2 : Int32) → K (kr i_1)) ∧ (x2 = (3 : Int32) → K (kt i_1)) ∧ (x2 = (4 : Int32) → K (kb i_1)) ∧ (x2 = (5 : Int32) → ((ks i_1 = 0 → K (0 : Int32)) ∧ (¬ ks i_1 = 0 → K (1 : Int32)))) ∧ (x2 = (6 : Int32) → K (kj i_1)) ∧ (¬ x2 = (0 : Int32) → ¬ x2 = (1 : Int32) → ¬ x2 = (2 : Int32) → ¬ x2 = (3 : Int32) → ¬ x2 = (4 : Int32) → ¬ x2 = (5 : Int32) → ¬ x2 = (6 : Int32) → K (-2 : Int32)))))
theorem dX5_kind_0 : decode cX5_kind 0 = .ok (.aload_n 0, 1) := by decide +kernel
theorem dX5_kind_1 : decode cX5_kind 1 = .ok (.getfield 12, 3) := by decide +kernel
theorem dX5_kind_4 : decode cX5_kind 4 = .ok (.iload_n 1, 1) := by decide +kernel
theorem dX5_kind_5 : decode cX5_kind 5 = .ok (.invokevirtual 84, 3) := by decide +kernel
theorem dX5_kind_8 : decode cX5_kind 8 = .ok (.astore_n 3, 1) := by decide +kernel
theorem dX5_kind_9 : decode cX5_kind 9 = .ok (.aload_n 3, 1) := by decide +kernel
theorem dX5_kind_10 : decode cX5_kind 10 = .ok (.ifnonnull 6, 3) := by decide +kernel
theorem dX5_kind_13 : decode cX5_kind 13 = .ok (.bipush (-2), 2) := by decide +kernel
theorem dX5_kind_15 : decode cX5_kind 15 = .ok (.ireturn, 1) := by decide +kernel
theorem dX5_kind_16 : decode cX5_kind 16 = .ok (.iload_n 2, 1) := by decide +kernel
theorem dX5_kind_17 : decode cX5_kind 17 = .ok (.tableswitch 94 0 6 #[43, 48, 61, 66, 71, 76, 89], 43) := by decide +kernel
theorem dX5_kind_60 : decode cX5_kind 60 = .ok (.aload_n 3, 1) := by decide +kernel
theorem dX5_kind_61 : decode cX5_kind 61 = .ok (.getfield 74, 3) := by decide +kernel
theorem dX5_kind_64 : decode cX5_kind 64 = .ok (.ireturn, 1) := by decide +kernel
theorem dX5_kind_65 : decode cX5_kind 65 = .ok (.aload_n 3, 1) := by decide +kernel
theorem dX5_kind_66 : decode cX5_kind 66 = .ok (.getfield 91, 3) := by decide +kernel
theorem dX5_kind_69 : decode cX5_kind 69 = .ok (.ifCond .eq 7, 3) := by decide +kernel
theorem dX5_kind_72 : decode cX5_kind 72 = .ok (.iconst 1, 1) := by decide +kernel
theorem dX5_kind_73 : decode cX5_kind 73 = .ok (.goto 4, 3) := by decide +kernel
theorem dX5_kind_76 : decode cX5_kind 76 = .ok (.iconst 0, 1) := by decide +kernel
theorem dX5_kind_77 : decode cX5_kind 77 = .ok (.ireturn, 1) := by decide +kernel
theorem dX5_kind_78 : decode cX5_kind 78 = .ok (.aload_n 3, 1) := by decide +kernel
theorem dX5_kind_79 : decode cX5_kind 79 = .ok (.getfield 147, 3) := by decide +kernel
theorem dX5_kind_82 : decode cX5_kind 82 = .ok (.ireturn, 1) := by decide +kernel
theorem dX5_kind_83 : decode cX5_kind 83 = .ok (.aload_n 3, 1) := by decide +kernel
theorem dX5_kind_84 : decode cX5_kind 84 = .ok (.getfield 71, 3) := by decide +kernel
theorem dX5_kind_87 : decode cX5_kind 87 = .ok (.ireturn, 1) := by decide +kernel
theorem dX5_kind_88 : decode cX5_kind 88 = .ok (.aload_n 3, 1) := by decide +kernel
theorem dX5_kind_89 : decode cX5_kind 89 = .ok (.getfield 94, 3) := by decide +kernel
theorem dX5_kind_92 : decode cX5_kind 92 = .ok (.ireturn, 1) := by decide +kernel
theorem dX5_kind_93 : decode cX5_kind 93 = .ok (.aload_n 3, 1) := by decide +kernel
theorem dX5_kind_94 : decode cX5_kind 94 = .ok (.getfield 77, 3) := by decide +kernel
theorem dX5_kind_97 : decode cX5_kind 97 = .ok (.ifCond .eq 7, 3) := by decide +kernel
theorem dX5_kind_100 : decode cX5_kind 100 = .ok (.iconst 1, 1) := by decide +kernel
theorem dX5_kind_101 : decode cX5_kind 101 = .ok (.goto 4, 3) := by decide +kernel
theorem dX5_kind_104 : decode cX5_kind 104 = .ok (.iconst 0, 1) := by decide +kernel
theorem dX5_kind_105 : decode cX5_kind 105 = .ok (.ireturn, 1) := by decide +kernel
theorem dX5_kind_106 : decode cX5_kind 106 = .ok (.aload_n 3, 1) := by decide +kernel
theorem dX5_kind_107 : decode cX5_kind 107 = .ok (.getfield 81, 3) := by decide +kernel
theorem dX5_kind_110 : decode cX5_kind 110 = .ok (.ireturn, 1) := by decide +kernel
theorem dX5_kind_111 : decode cX5_kind 111 = .ok (.bipush (-2), 2) := by decide +kernel
theorem dX5_kind_113 : decode cX5_kind 113 = .ok (.ireturn, 1) := by decide +kernel
set_option maxRecDepth 20000 in
set_option maxHeartbeats 4000000 in
theorem c_X5_kind {a : Nat → Nat} {q : Nat → ClassId} {x1 : Int32} {x2 : Int32}  {sz : Int32} {pr : Nat → Int32} {pm : Nat → Nat} {kv : Nat → Int32} {kn : Nat → Int32} {kr : Nat → Int32} {kt : Nat → Int32} {kb : Nat → Int32} {ks : Nat → Int32} {kj : Nat → Int32} {kw : Nat → Int32} {kg : Nat → Int32} {wd : Nat → Nat → Int64} {fw : Nat → Nat → Int32} {ad : Nat → Int32} {bk : Nat → Int32} {md : Int32} {cr : Int32} {ow : Int32} {hd : Int32} {K : Int32 → Prop} (h : wp_X5_kind x1 x2 sz kv kn kr kt kb ks kj K) : ctI_0 q yX5_kind cX5_kind 4 1 21 [.ref (a 0), .int x1, .int x2] (cgW a q sz pr pm kv kn kr kt kb ks kj kw kg wd fw ad bk md cr ow hd) (cgW a q sz pr pm kv kn kr kt kb ks kj kw kg wd fw ad bk md cr ow hd) K := by
  refine met_I_0 (by decide) (Nat.le_of_ble_eq_true rfl) (fun Γ g hret => ?_)
  unfold wp_X5_kind at h
  show jw Γ 4 0 0 (cgW a q sz pr pm kv kn kr kt kb ks kj kw kg wd fw ad bk md cr ow hd) [(0, .ref (a 0)), (1, .int x1), (2, .int x2)] [] 0
  refine j_aload_n g 0 rfl dX5_kind_0 ?_
  refine j_get g fl_X5_12 0 cg_0 rfl dX5_kind_1 ?_
  refine j_iload_n g 1 rfl dX5_kind_4 ?_
  refine j_callVQ_0 g (As := [.int x1]) (st := []) (c_X3_find  h) cl_X5_84 1 3 cg_1 rfl rfl (Nat.le_of_ble_eq_true rfl) (Nat.le_of_ble_eq_true rfl) (Nat.zero_le _) (Nat.zero_le _) rfl rfl (Nat.le_of_ble_eq_true rfl) dX5_kind_5 (fun  h => ?_) (fun i_1  hi_1 h => ?_)
  · replace h := h.1 rfl
    refine j_astore_nN g (lv' := [(3, .null), (0, .ref (a 0)), (1, .int x1), (2, .int x2)]) (by decide) rfl dX5_kind_8 ?_
    refine j_aload_nN g 0 rfl dX5_kind_9 ?_
    refine j_ifnonnullN g dX5_kind_10 ?_
    refine j_bipush g (v := -2) (by decide) dX5_kind_13 ?_
    exact hret.go dX5_kind_15 h
  replace h := h.2 i_1 rfl hi_1
  refine j_astore_n g (lv' := [(3, .ref (a (11 + i_1))), (0, .ref (a 0)), (1, .int x1), (2, .int x2)]) (by decide) rfl dX5_kind_8 ?_
  refine j_aload_n g 0 rfl dX5_kind_9 ?_
  refine j_ifnonnull g dX5_kind_10 (tgt := 16) (by decide) ?_
  refine j_iload_n g 3 rfl dX5_kind_16 ?_
  by_cases c2_0 : x2 = (0 : Int32)
  · replace h := h.1 c2_0
    refine j_swI g dX5_kind_17 (sw_lo c2_0 (by decide)) (sw_hi c2_0 (by decide)) (sw_at (n := 0) c2_0 (by decide) rfl) (tgt := 60) (by decide) ?_
    refine j_aload_n g 0 rfl dX5_kind_60 ?_
    refine j_get g fl_X5_74 (11 + i_1) (cg_K hi_1) rfl dX5_kind_61 ?_
    exact hret.go dX5_kind_64 h
  by_cases c2_1 : x2 = (1 : Int32)
  · replace h := h.2.1 c2_1
    refine j_swI g dX5_kind_17 (sw_lo c2_1 (by decide)) (sw_hi c2_1 (by decide)) (sw_at (n := 1) c2_1 (by decide) rfl) (tgt := 65) (by decide) ?_
    refine j_aload_n g 0 rfl dX5_kind_65 ?_
    refine j_get g fl_X5_91 (11 + i_1) (cg_K hi_1) rfl dX5_kind_66 ?_
    refine j_if_eq g dX5_kind_69 (tgt := 76) (by decide) (fun c3 => ?_) (fun c3 => ?_)
    · replace h := h.1 c3
      refine j_iconst g (v := 0) (by decide) dX5_kind_76 ?_
      exact hret.go dX5_kind_77 h
    replace h := h.2 c3
    refine j_iconst g (v := 1) (by decide) dX5_kind_72 ?_
    refine j_goto g dX5_kind_73 (tgt := 77) (by decide) ?_
    exact hret.go dX5_kind_77 h
  by_cases c2_2 : x2 = (2 : Int32)
  · replace h := h.2.2.1 c2_2
    refine j_swI g dX5_kind_17 (sw_lo c2_2 (by decide)) (sw_hi c2_2 (by decide)) (sw_at (n := 2) c2_2 (by decide) rfl) (tgt := 78) (by decide) ?_
    refine j_aload_n g 0 rfl dX5_kind_78 ?_
    refine j_get g fl_X5_147 (11 + i_1) (cg_K hi_1) rfl dX5_kind_79 ?_
    exact hret.go dX5_kind_82 h
  by_cases c2_3 : x2 = (3 : Int32)
  · replace h := h.2.2.2.1 c2_3
    refine j_swI g dX5_kind_17 (sw_lo c2_3 (by decide)) (sw_hi c2_3 (by decide)) (sw_at (n := 3) c2_3 (by decide) rfl) (tgt := 83) (by decide) ?_
    refine j_aload_n g 0 rfl dX5_kind_83 ?_
    refine j_get g fl_X5_71 (11 + i_1) (cg_K hi_1) rfl dX5_kind_84 ?_
    exact hret.go dX5_kind_87 h
  by_cases c2_4 : x2 = (4 : Int32)
  · replace h := h.2.2.2.2.1 c2_4
    refine j_swI g dX5_kind_17 (sw_lo c2_4 (by decide)) (sw_hi c2_4 (by decide)) (sw_at (n := 4) c2_4 (by decide) rfl) (tgt := 88) (by decide) ?_
    refine j_aload_n g 0 rfl dX5_kind_88 ?_
    refine j_get g fl_X5_94 (11 + i_1) (cg_K hi_1) rfl dX5_kind_89 ?_
    exact hret.go dX5_kind_92 h
  by_cases c2_5 : x2 = (5 : Int32)
  · replace h := h.2.2.2.2.2.1 c2_5
    refine j_swI g dX5_kind_17 (sw_lo c2_5 (by decide)) (sw_hi c2_5 (by decide)) (sw_at (n := 5) c2_5 (by decide) rfl) (tgt := 93) (by decide) ?_
    refine j_aload_n g 0 rfl dX5_kind_93 ?_
    refine j_get g fl_X5_77 (11 + i_1) (cg_K hi_1) rfl dX5_kind_94 ?_
    refine j_if_eq g dX5_kind_97 (tgt := 104) (by decide) (fun c4 => ?_) (fun c4 => ?_)
    · replace h := h.1 c4
      refine j_iconst g (v := 0) (by decide) dX5_kind_104 ?_
      exact hret.go dX5_kind_105 h
    replace h := h.2 c4
    refine j_iconst g (v := 1) (by decide) dX5_kind_100 ?_
    refine j_goto g dX5_kind_101 (tgt := 105) (by decide) ?_
    exact hret.go dX5_kind_105 h
  by_cases c2_6 : x2 = (6 : Int32)
  · replace h := h.2.2.2.2.2.2.1 c2_6
    refine j_swI g dX5_kind_17 (sw_lo c2_6 (by decide)) (sw_hi c2_6 (by decide)) (sw_at (n := 6) c2_6 (by decide) rfl) (tgt := 106) (by decide) ?_
    refine j_aload_n g 0 rfl dX5_kind_106 ?_
    refine j_get g fl_X5_81 (11 + i_1) (cg_K hi_1) rfl dX5_kind_107 ?_
    exact hret.go dX5_kind_110 h
  replace h := h.2.2.2.2.2.2.2 c2_0 c2_1 c2_2 c2_3 c2_4 c2_5 c2_6
  refine j_swO g dX5_kind_17 (sw_out7 c2_0 c2_1 c2_2 c2_3 c2_4 c2_5 c2_6) (tgt := 111) (by decide) ?_
  refine j_bipush g (v := -2) (by decide) dX5_kind_111 ?_
  exact hret.go dX5_kind_113 h

set_option maxRecDepth 20000 in
def wp_X5_empty  (sz : Int32) (kv : Nat → Int32) (kb : Nat → Int32) (bk : Nat → Int32) (K : Int32 → (Nat → Int32) → (Nat → Int32) → Prop) : Prop :=
  wp_X3_boxValue sz kv kb (fun (r_1 : Int32)  => wp_X3_clearBox sz kb (fun (kb_2 : Nat → Int32) => (vp_in (4 : Int32) 6 ∧ (vp_in (4 : Int32) 6 ∧ K r_1 kb_2 (upd bk (4 : Int32).toNatClampNeg ((bk (4 : Int32).toNatClampNeg) + r_1))))))
theorem dX5_empty_0 : decode cX5_empty 0 = .ok (.aload_n 0, 1) := by decide +kernel
theorem dX5_empty_1 : decode cX5_empty 1 = .ok (.getfield 12, 3) := by decide +kernel
theorem dX5_empty_4 : decode cX5_empty 4 = .ok (.invokevirtual 143, 3) := by decide +kernel
theorem dX5_empty_7 : decode cX5_empty 7 = .ok (.istore_n 1, 1) := by decide +kernel
theorem dX5_empty_8 : decode cX5_empty 8 = .ok (.aload_n 0, 1) := by decide +kernel
theorem dX5_empty_9 : decode cX5_empty 9 = .ok (.getfield 12, 3) := by decide +kernel
theorem dX5_empty_12 : decode cX5_empty 12 = .ok (.invokevirtual 150, 3) := by decide +kernel
theorem dX5_empty_15 : decode cX5_empty 15 = .ok (.aload_n 0, 1) := by decide +kernel
theorem dX5_empty_16 : decode cX5_empty 16 = .ok (.getfield 37, 3) := by decide +kernel
theorem dX5_empty_19 : decode cX5_empty 19 = .ok (.iconst 4, 1) := by decide +kernel
theorem dX5_empty_20 : decode cX5_empty 20 = .ok (.dup2, 1) := by decide +kernel
theorem dX5_empty_21 : decode cX5_empty 21 = .ok (.iaload, 1) := by decide +kernel
theorem dX5_empty_22 : decode cX5_empty 22 = .ok (.iload_n 1, 1) := by decide +kernel
theorem dX5_empty_23 : decode cX5_empty 23 = .ok (.iadd, 1) := by decide +kernel
theorem dX5_empty_24 : decode cX5_empty 24 = .ok (.iastore, 1) := by decide +kernel
theorem dX5_empty_25 : decode cX5_empty 25 = .ok (.iload_n 1, 1) := by decide +kernel
theorem dX5_empty_26 : decode cX5_empty 26 = .ok (.ireturn, 1) := by decide +kernel
set_option maxRecDepth 20000 in
set_option maxHeartbeats 4000000 in
theorem c_X5_empty {a : Nat → Nat} {q : Nat → ClassId}   {sz : Int32} {pr : Nat → Int32} {pm : Nat → Nat} {kv : Nat → Int32} {kn : Nat → Int32} {kr : Nat → Int32} {kt : Nat → Int32} {kb : Nat → Int32} {ks : Nat → Int32} {kj : Nat → Int32} {kw : Nat → Int32} {kg : Nat → Int32} {wd : Nat → Nat → Int64} {fw : Nat → Nat → Int32} {ad : Nat → Int32} {bk : Nat → Int32} {md : Int32} {cr : Int32} {ow : Int32} {hd : Int32} {K : Int32 → (Nat → Int32) → (Nat → Int32) → Prop} (h : wp_X5_empty sz kv kb bk K) : ctI_2 q yX5_empty cX5_empty 2 1 22 [.ref (a 0)] (cgW a q sz pr pm kv kn kr kt kb ks kj kw kg wd fw ad bk md cr ow hd) (fun (kb : Nat → Int32) (bk : Nat → Int32) => (cgW a q sz pr pm kv kn kr kt kb ks kj kw kg wd fw ad bk md cr ow hd)) K := by
  refine met_I_2 (by decide) (Nat.le_of_ble_eq_true rfl) (fun Γ g hret => ?_)
  unfold wp_X5_empty at h
  show jw Γ 2 0 0 (cgW a q sz pr pm kv kn kr kt kb ks kj kw kg wd fw ad bk md cr ow hd) [(0, .ref (a 0))] [] 0
  refine j_aload_n g 0 rfl dX5_empty_0 ?_
  refine j_get g fl_X5_12 0 cg_0 rfl dX5_empty_1 ?_
  refine j_callVI_0 g (As := []) (st := []) (c_X3_boxValue  h) cl_X5_143 1 3 cg_1 rfl rfl (Nat.le_of_ble_eq_true rfl) (Nat.le_of_ble_eq_true rfl) (Nat.zero_le _) (Nat.zero_le _) rfl rfl (Nat.le_of_ble_eq_true rfl) dX5_empty_4 (fun r_1   h => ?_)
  refine j_istore_n g (lv' := [(1, .int r_1), (0, .ref (a 0))]) (by decide) rfl dX5_empty_7 ?_
  refine j_aload_n g 1 rfl dX5_empty_8 ?_
  refine j_get g fl_X5_12 0 cg_0 rfl dX5_empty_9 ?_
  refine j_callVV_1 g (As := []) (st := []) (c_X3_clearBox  h) cl_X5_150 1 3 cg_1 rfl rfl (Nat.le_of_ble_eq_true rfl) (Nat.le_of_ble_eq_true rfl) (Nat.zero_le _) (Nat.zero_le _) rfl rfl (Nat.le_of_ble_eq_true rfl) dX5_empty_12 (fun kb_2 h => ?_)
  refine j_ws (ws' := (cgW a q sz pr pm kv kn kr kt kb_2 ks kj kw kg wd fw ad bk md cr ow hd)) rfl ?_
  refine j_aload_n g 1 rfl dX5_empty_15 ?_
  refine j_get g fl_X5_37 0 cg_0 rfl dX5_empty_16 ?_
  refine j_iconst g (v := 4) (by decide) dX5_empty_19 ?_
  refine j_dup2 g rfl rfl dX5_empty_20 ?_
  obtain ⟨hv3, h⟩ := h
  refine j_iald g 5 cg_5 hv3 dX5_empty_21 ?_
  refine j_iload_n g 0 rfl dX5_empty_22 ?_
  refine j_iadd g dX5_empty_23 ?_
  obtain ⟨hv4, h⟩ := h
  refine j_iast g 5 cg_5 hv4 (ws' := (cgW a q sz pr pm kv kn kr kt kb_2 ks kj kw kg wd fw ad (upd bk (4 : Int32).toNatClampNeg ((bk (4 : Int32).toNatClampNeg) + r_1)) md cr ow hd)) rfl dX5_empty_24 ?_
  refine j_iload_n g 0 rfl dX5_empty_25 ?_
  exact hret.go dX5_empty_26 h

set_option maxRecDepth 20000 in
def wp_X5_drain (x1 : Int32) (x2 : Int32) (sz : Int32) (kv : Nat → Int32) (kn : Nat → Int32) (kt : Nat → Int32) (bk : Nat → Int32) (cr : Int32) (K : Int32 → (Nat → Int32) → (Nat → Int32) → Prop) : Prop :=
  wp_X3_findCoin x1 sz kn (fun (o_1 : Option Nat)  => (o_1 = none → K (0 : Int32) kt bk) ∧ (∀ i_1 : Nat, o_1 = some i_1 → i_1 < 6 → ((x2 < 0 → K (0 : Int32) kt bk) ∧ (¬ x2 < 0 → ((kt i_1 < x2 → K (0 : Int32) kt bk) ∧ (¬ kt i_1 < x2 → ((cr = 0 → (vp_in (4 : Int32) 6 ∧ (vp_in (4 : Int32) 6 ∧ K (1 : Int32) (upd kt i_1 ((kt i_1) - x2)) (upd bk (4 : Int32).toNatClampNeg ((bk (4 : Int32).toNatClampNeg) + (x2 * (kv i_1))))))) ∧ (¬ cr = 0 → K (0 : Int32) kt bk))))))))
theorem dX5_drain_0 : decode cX5_drain 0 = .ok (.aload_n 0, 1) := by decide +kernel
theorem dX5_drain_1 : decode cX5_drain 1 = .ok (.getfield 12, 3) := by decide +kernel
theorem dX5_drain_4 : decode cX5_drain 4 = .ok (.iload_n 1, 1) := by decide +kernel
theorem dX5_drain_5 : decode cX5_drain 5 = .ok (.invokevirtual 61, 3) := by decide +kernel
theorem dX5_drain_8 : decode cX5_drain 8 = .ok (.astore_n 3, 1) := by decide +kernel
theorem dX5_drain_9 : decode cX5_drain 9 = .ok (.aload_n 3, 1) := by decide +kernel
theorem dX5_drain_10 : decode cX5_drain 10 = .ok (.ifnull 22, 3) := by decide +kernel
theorem dX5_drain_13 : decode cX5_drain 13 = .ok (.iload_n 2, 1) := by decide +kernel
theorem dX5_drain_14 : decode cX5_drain 14 = .ok (.ifCond .lt 18, 3) := by decide +kernel
theorem dX5_drain_17 : decode cX5_drain 17 = .ok (.iload_n 2, 1) := by decide +kernel
theorem dX5_drain_18 : decode cX5_drain 18 = .ok (.aload_n 3, 1) := by decide +kernel
theorem dX5_drain_19 : decode cX5_drain 19 = .ok (.getfield 71, 3) := by decide +kernel
theorem dX5_drain_22 : decode cX5_drain 22 = .ok (.if_icmp .gt 10, 3) := by decide +kernel
theorem dX5_drain_25 : decode cX5_drain 25 = .ok (.aload_n 0, 1) := by decide +kernel
theorem dX5_drain_26 : decode cX5_drain 26 = .ok (.getfield 45, 3) := by decide +kernel
theorem dX5_drain_29 : decode cX5_drain 29 = .ok (.ifCond .eq 5, 3) := by decide +kernel
theorem dX5_drain_32 : decode cX5_drain 32 = .ok (.iconst 0, 1) := by decide +kernel
theorem dX5_drain_33 : decode cX5_drain 33 = .ok (.ireturn, 1) := by decide +kernel
theorem dX5_drain_34 : decode cX5_drain 34 = .ok (.aload_n 3, 1) := by decide +kernel
theorem dX5_drain_35 : decode cX5_drain 35 = .ok (.dup, 1) := by decide +kernel
theorem dX5_drain_36 : decode cX5_drain 36 = .ok (.getfield 71, 3) := by decide +kernel
theorem dX5_drain_39 : decode cX5_drain 39 = .ok (.iload_n 2, 1) := by decide +kernel
theorem dX5_drain_40 : decode cX5_drain 40 = .ok (.isub, 1) := by decide +kernel
theorem dX5_drain_41 : decode cX5_drain 41 = .ok (.putfield 71, 3) := by decide +kernel
theorem dX5_drain_44 : decode cX5_drain 44 = .ok (.aload_n 0, 1) := by decide +kernel
theorem dX5_drain_45 : decode cX5_drain 45 = .ok (.getfield 37, 3) := by decide +kernel
theorem dX5_drain_48 : decode cX5_drain 48 = .ok (.iconst 4, 1) := by decide +kernel
theorem dX5_drain_49 : decode cX5_drain 49 = .ok (.dup2, 1) := by decide +kernel
theorem dX5_drain_50 : decode cX5_drain 50 = .ok (.iaload, 1) := by decide +kernel
theorem dX5_drain_51 : decode cX5_drain 51 = .ok (.iload_n 2, 1) := by decide +kernel
theorem dX5_drain_52 : decode cX5_drain 52 = .ok (.aload_n 3, 1) := by decide +kernel
theorem dX5_drain_53 : decode cX5_drain 53 = .ok (.getfield 74, 3) := by decide +kernel
theorem dX5_drain_56 : decode cX5_drain 56 = .ok (.imul, 1) := by decide +kernel
theorem dX5_drain_57 : decode cX5_drain 57 = .ok (.iadd, 1) := by decide +kernel
theorem dX5_drain_58 : decode cX5_drain 58 = .ok (.iastore, 1) := by decide +kernel
theorem dX5_drain_59 : decode cX5_drain 59 = .ok (.iconst 1, 1) := by decide +kernel
theorem dX5_drain_60 : decode cX5_drain 60 = .ok (.ireturn, 1) := by decide +kernel
set_option maxRecDepth 20000 in
set_option maxHeartbeats 4000000 in
theorem c_X5_drain {a : Nat → Nat} {q : Nat → ClassId} {x1 : Int32} {x2 : Int32}  {sz : Int32} {pr : Nat → Int32} {pm : Nat → Nat} {kv : Nat → Int32} {kn : Nat → Int32} {kr : Nat → Int32} {kt : Nat → Int32} {kb : Nat → Int32} {ks : Nat → Int32} {kj : Nat → Int32} {kw : Nat → Int32} {kg : Nat → Int32} {wd : Nat → Nat → Int64} {fw : Nat → Nat → Int32} {ad : Nat → Int32} {bk : Nat → Int32} {md : Int32} {cr : Int32} {ow : Int32} {hd : Int32} {K : Int32 → (Nat → Int32) → (Nat → Int32) → Prop} (h : wp_X5_drain x1 x2 sz kv kn kt bk cr K) : ctZ_2 q yX5_drain cX5_drain 4 2 43 [.ref (a 0), .int x1, .int x2] (cgW a q sz pr pm kv kn kr kt kb ks kj kw kg wd fw ad bk md cr ow hd) (fun (kt : Nat → Int32) (bk : Nat → Int32) => (cgW a q sz pr pm kv kn kr kt kb ks kj kw kg wd fw ad bk md cr ow hd)) K := by
  refine met_Z_2 (by decide) (Nat.le_of_ble_eq_true rfl) (fun Γ g hret => ?_)
  unfold wp_X5_drain at h
  show jw Γ 4 0 0 (cgW a q sz pr pm kv kn kr kt kb ks kj kw kg wd fw ad bk md cr ow hd) [(0, .ref (a 0)), (1, .int x1), (2, .int x2)] [] 0
  refine j_aload_n g 0 rfl dX5_drain_0 ?_
  refine j_get g fl_X5_12 0 cg_0 rfl dX5_drain_1 ?_
  refine j_iload_n g 1 rfl dX5_drain_4 ?_
  refine j_callVQ_0 g (As := [.int x1]) (st := []) (c_X3_findCoin  h) cl_X5_61 1 3 cg_1 rfl rfl (Nat.le_of_ble_eq_true rfl) (Nat.le_of_ble_eq_true rfl) (Nat.zero_le _) (Nat.zero_le _) rfl rfl (Nat.le_of_ble_eq_true rfl) dX5_drain_5 (fun  h => ?_) (fun i_1  hi_1 h => ?_)
  · replace h := h.1 rfl
    refine j_astore_nN g (lv' := [(3, .null), (0, .ref (a 0)), (1, .int x1), (2, .int x2)]) (by decide) rfl dX5_drain_8 ?_
    refine j_aload_nN g 0 rfl dX5_drain_9 ?_
    refine j_ifnullN g dX5_drain_10 (tgt := 32) (by decide) ?_
    refine j_iconst g (v := 0) (by decide) dX5_drain_32 ?_
    exact hret.go dX5_drain_33 (Or.inl rfl) h
  replace h := h.2 i_1 rfl hi_1
  refine j_astore_n g (lv' := [(3, .ref (a (11 + i_1))), (0, .ref (a 0)), (1, .int x1), (2, .int x2)]) (by decide) rfl dX5_drain_8 ?_
  refine j_aload_n g 0 rfl dX5_drain_9 ?_
  refine j_ifnull g dX5_drain_10 ?_
  refine j_iload_n g 3 rfl dX5_drain_13 ?_
  refine j_if_lt g dX5_drain_14 (tgt := 32) (by decide) (fun c2 => ?_) (fun c2 => ?_)
  · replace h := h.1 c2
    refine j_iconst g (v := 0) (by decide) dX5_drain_32 ?_
    exact hret.go dX5_drain_33 (Or.inl rfl) h
  replace h := h.2 c2
  refine j_iload_n g 3 rfl dX5_drain_17 ?_
  refine j_aload_n g 0 rfl dX5_drain_18 ?_
  refine j_get g fl_X5_71 (11 + i_1) (cg_K hi_1) rfl dX5_drain_19 ?_
  refine j_icmp_gt g dX5_drain_22 (tgt := 32) (by decide) (fun c3 => ?_) (fun c3 => ?_)
  · replace h := h.1 c3
    refine j_iconst g (v := 0) (by decide) dX5_drain_32 ?_
    exact hret.go dX5_drain_33 (Or.inl rfl) h
  replace h := h.2 c3
  refine j_aload_n g 1 rfl dX5_drain_25 ?_
  refine j_get g fl_X5_45 0 cg_0 rfl dX5_drain_26 ?_
  refine j_if_eq g dX5_drain_29 (tgt := 34) (by decide) (fun c4 => ?_) (fun c4 => ?_)
  rotate_left
  · replace h := h.2 c4
    refine j_iconst g (v := 0) (by decide) dX5_drain_32 ?_
    exact hret.go dX5_drain_33 (Or.inl rfl) h
  replace h := h.1 c4
  refine j_aload_n g 0 rfl dX5_drain_34 ?_
  refine j_dup g rfl dX5_drain_35 ?_
  refine j_get g fl_X5_71 (11 + i_1) (cg_K hi_1) rfl dX5_drain_36 ?_
  refine j_iload_n g 3 rfl dX5_drain_39 ?_
  refine j_isub g dX5_drain_40 ?_
  refine j_put g fl_X5_71 fp_X0_3 (11 + i_1) (cg_K hi_1) rfl rfl (Nat.le_of_ble_eq_true rfl) (ws' := (cgW a q sz pr pm kv kn kr (upd kt i_1 ((kt i_1) - x2)) kb ks kj kw kg wd fw ad bk md cr ow hd)) (cg_s_kt hi_1) dX5_drain_41 ?_
  refine j_aload_n g 1 rfl dX5_drain_44 ?_
  refine j_get g fl_X5_37 0 cg_0 rfl dX5_drain_45 ?_
  refine j_iconst g (v := 4) (by decide) dX5_drain_48 ?_
  refine j_dup2 g rfl rfl dX5_drain_49 ?_
  obtain ⟨hv5, h⟩ := h
  refine j_iald g 5 cg_5 hv5 dX5_drain_50 ?_
  refine j_iload_n g 3 rfl dX5_drain_51 ?_
  refine j_aload_n g 0 rfl dX5_drain_52 ?_
  refine j_get g fl_X5_74 (11 + i_1) (cg_K hi_1) rfl dX5_drain_53 ?_
  refine j_imul g dX5_drain_56 ?_
  refine j_iadd g dX5_drain_57 ?_
  obtain ⟨hv6, h⟩ := h
  refine j_iast g 5 cg_5 hv6 (ws' := (cgW a q sz pr pm kv kn kr (upd kt i_1 ((kt i_1) - x2)) kb ks kj kw kg wd fw ad (upd bk (4 : Int32).toNatClampNeg ((bk (4 : Int32).toNatClampNeg) + (x2 * (kv i_1)))) md cr ow hd)) rfl dX5_drain_58 ?_
  refine j_iconst g (v := 1) (by decide) dX5_drain_59 ?_
  exact hret.go dX5_drain_60 (Or.inr rfl) h

set_option maxRecDepth 20000 in
def wp_X5_count (x1 : Int32) (x2 : Int32) (sz : Int32) (kv : Nat → Int32) (kn : Nat → Int32) (kr : Nat → Int32) (kt : Nat → Int32) (bk : Nat → Int32) (cr : Int32) (K : Int32 → (Nat → Int32) → (Nat → Int32) → Prop) : Prop :=
  wp_X3_findCoin x1 sz kn (fun (o_1 : Option Nat)  => (o_1 = none → K (-1000000 : Int32) kt bk) ∧ (∀ i_1 : Nat, o_1 = some i_1 → i_1 < 6 → ((x2 < 0 → K (-1000000 : Int32) kt bk) ∧ (¬ x2 < 0 → ((kr i_1 < x2 → K (-1000000 : Int32) kt bk) ∧ (¬ kr i_1 < x2 → ((cr = 0 → (vp_in (5 : Int32) 6 ∧ (vp_in (5 : Int32) 6 ∧ K (((kt i_1) - x2) * (kv i_1)) (upd kt i_1 x2) (upd bk (5 : Int32).toNatClampNeg ((bk (5 : Int32).toNatClampNeg) + (((kt i_1) - x2) * (kv i_1))))))) ∧ (¬ cr = 0 → K (-1000000 : Int32) kt bk))))))))
theorem dX5_count_0 : decode cX5_count 0 = .ok (.aload_n 0, 1) := by decide +kernel
theorem dX5_count_1 : decode cX5_count 1 = .ok (.getfield 12, 3) := by decide +kernel
theorem dX5_count_4 : decode cX5_count 4 = .ok (.iload_n 1, 1) := by decide +kernel
theorem dX5_count_5 : decode cX5_count 5 = .ok (.invokevirtual 61, 3) := by decide +kernel
theorem dX5_count_8 : decode cX5_count 8 = .ok (.astore_n 3, 1) := by decide +kernel
theorem dX5_count_9 : decode cX5_count 9 = .ok (.aload_n 3, 1) := by decide +kernel
theorem dX5_count_10 : decode cX5_count 10 = .ok (.ifnull 22, 3) := by decide +kernel
theorem dX5_count_13 : decode cX5_count 13 = .ok (.iload_n 2, 1) := by decide +kernel
theorem dX5_count_14 : decode cX5_count 14 = .ok (.ifCond .lt 18, 3) := by decide +kernel
theorem dX5_count_17 : decode cX5_count 17 = .ok (.iload_n 2, 1) := by decide +kernel
theorem dX5_count_18 : decode cX5_count 18 = .ok (.aload_n 3, 1) := by decide +kernel
theorem dX5_count_19 : decode cX5_count 19 = .ok (.getfield 147, 3) := by decide +kernel
theorem dX5_count_22 : decode cX5_count 22 = .ok (.if_icmp .gt 10, 3) := by decide +kernel
theorem dX5_count_25 : decode cX5_count 25 = .ok (.aload_n 0, 1) := by decide +kernel
theorem dX5_count_26 : decode cX5_count 26 = .ok (.getfield 45, 3) := by decide +kernel
theorem dX5_count_29 : decode cX5_count 29 = .ok (.ifCond .eq 6, 3) := by decide +kernel
theorem dX5_count_32 : decode cX5_count 32 = .ok (.ldc 146, 2) := by decide +kernel
theorem dX5_count_34 : decode cX5_count 34 = .ok (.ireturn, 1) := by decide +kernel
theorem dX5_count_35 : decode cX5_count 35 = .ok (.aload_n 3, 1) := by decide +kernel
theorem dX5_count_36 : decode cX5_count 36 = .ok (.getfield 71, 3) := by decide +kernel
theorem dX5_count_39 : decode cX5_count 39 = .ok (.iload_n 2, 1) := by decide +kernel
theorem dX5_count_40 : decode cX5_count 40 = .ok (.isub, 1) := by decide +kernel
theorem dX5_count_41 : decode cX5_count 41 = .ok (.aload_n 3, 1) := by decide +kernel
theorem dX5_count_42 : decode cX5_count 42 = .ok (.getfield 74, 3) := by decide +kernel
theorem dX5_count_45 : decode cX5_count 45 = .ok (.imul, 1) := by decide +kernel
theorem dX5_count_46 : decode cX5_count 46 = .ok (.istore 4, 2) := by decide +kernel
theorem dX5_count_48 : decode cX5_count 48 = .ok (.aload_n 3, 1) := by decide +kernel
theorem dX5_count_49 : decode cX5_count 49 = .ok (.iload_n 2, 1) := by decide +kernel
theorem dX5_count_50 : decode cX5_count 50 = .ok (.putfield 71, 3) := by decide +kernel
theorem dX5_count_53 : decode cX5_count 53 = .ok (.aload_n 0, 1) := by decide +kernel
theorem dX5_count_54 : decode cX5_count 54 = .ok (.getfield 37, 3) := by decide +kernel
theorem dX5_count_57 : decode cX5_count 57 = .ok (.iconst 5, 1) := by decide +kernel
theorem dX5_count_58 : decode cX5_count 58 = .ok (.dup2, 1) := by decide +kernel
theorem dX5_count_59 : decode cX5_count 59 = .ok (.iaload, 1) := by decide +kernel
theorem dX5_count_60 : decode cX5_count 60 = .ok (.iload 4, 2) := by decide +kernel
theorem dX5_count_62 : decode cX5_count 62 = .ok (.iadd, 1) := by decide +kernel
theorem dX5_count_63 : decode cX5_count 63 = .ok (.iastore, 1) := by decide +kernel
theorem dX5_count_64 : decode cX5_count 64 = .ok (.iload 4, 2) := by decide +kernel
theorem dX5_count_66 : decode cX5_count 66 = .ok (.ireturn, 1) := by decide +kernel
set_option maxRecDepth 20000 in
set_option maxHeartbeats 4000000 in
theorem c_X5_count {a : Nat → Nat} {q : Nat → ClassId} {x1 : Int32} {x2 : Int32}  {sz : Int32} {pr : Nat → Int32} {pm : Nat → Nat} {kv : Nat → Int32} {kn : Nat → Int32} {kr : Nat → Int32} {kt : Nat → Int32} {kb : Nat → Int32} {ks : Nat → Int32} {kj : Nat → Int32} {kw : Nat → Int32} {kg : Nat → Int32} {wd : Nat → Nat → Int64} {fw : Nat → Nat → Int32} {ad : Nat → Int32} {bk : Nat → Int32} {md : Int32} {cr : Int32} {ow : Int32} {hd : Int32} {K : Int32 → (Nat → Int32) → (Nat → Int32) → Prop} (h : wp_X5_count x1 x2 sz kv kn kr kt bk cr K) : ctI_2 q yX5_count cX5_count 5 2 43 [.ref (a 0), .int x1, .int x2] (cgW a q sz pr pm kv kn kr kt kb ks kj kw kg wd fw ad bk md cr ow hd) (fun (kt : Nat → Int32) (bk : Nat → Int32) => (cgW a q sz pr pm kv kn kr kt kb ks kj kw kg wd fw ad bk md cr ow hd)) K := by
  refine met_I_2 (by decide) (Nat.le_of_ble_eq_true rfl) (fun Γ g hret => ?_)
  unfold wp_X5_count at h
  show jw Γ 5 0 0 (cgW a q sz pr pm kv kn kr kt kb ks kj kw kg wd fw ad bk md cr ow hd) [(0, .ref (a 0)), (1, .int x1), (2, .int x2)] [] 0
  refine j_aload_n g 0 rfl dX5_count_0 ?_
  refine j_get g fl_X5_12 0 cg_0 rfl dX5_count_1 ?_
  refine j_iload_n g 1 rfl dX5_count_4 ?_
  refine j_callVQ_0 g (As := [.int x1]) (st := []) (c_X3_findCoin  h) cl_X5_61 1 3 cg_1 rfl rfl (Nat.le_of_ble_eq_true rfl) (Nat.le_of_ble_eq_true rfl) (Nat.zero_le _) (Nat.zero_le _) rfl rfl (Nat.le_of_ble_eq_true rfl) dX5_count_5 (fun  h => ?_) (fun i_1  hi_1 h => ?_)
  · replace h := h.1 rfl
    refine j_astore_nN g (lv' := [(3, .null), (0, .ref (a 0)), (1, .int x1), (2, .int x2)]) (by decide) rfl dX5_count_8 ?_
    refine j_aload_nN g 0 rfl dX5_count_9 ?_
    refine j_ifnullN g dX5_count_10 (tgt := 32) (by decide) ?_
    refine j_ldc g (v := -1000000) ld_X5_146 dX5_count_32 ?_
    exact hret.go dX5_count_34 h
  replace h := h.2 i_1 rfl hi_1
  refine j_astore_n g (lv' := [(3, .ref (a (11 + i_1))), (0, .ref (a 0)), (1, .int x1), (2, .int x2)]) (by decide) rfl dX5_count_8 ?_
  refine j_aload_n g 0 rfl dX5_count_9 ?_
  refine j_ifnull g dX5_count_10 ?_
  refine j_iload_n g 3 rfl dX5_count_13 ?_
  refine j_if_lt g dX5_count_14 (tgt := 32) (by decide) (fun c2 => ?_) (fun c2 => ?_)
  · replace h := h.1 c2
    refine j_ldc g (v := -1000000) ld_X5_146 dX5_count_32 ?_
    exact hret.go dX5_count_34 h
  replace h := h.2 c2
  refine j_iload_n g 3 rfl dX5_count_17 ?_
  refine j_aload_n g 0 rfl dX5_count_18 ?_
  refine j_get g fl_X5_147 (11 + i_1) (cg_K hi_1) rfl dX5_count_19 ?_
  refine j_icmp_gt g dX5_count_22 (tgt := 32) (by decide) (fun c3 => ?_) (fun c3 => ?_)
  · replace h := h.1 c3
    refine j_ldc g (v := -1000000) ld_X5_146 dX5_count_32 ?_
    exact hret.go dX5_count_34 h
  replace h := h.2 c3
  refine j_aload_n g 1 rfl dX5_count_25 ?_
  refine j_get g fl_X5_45 0 cg_0 rfl dX5_count_26 ?_
  refine j_if_eq g dX5_count_29 (tgt := 35) (by decide) (fun c4 => ?_) (fun c4 => ?_)
  rotate_left
  · replace h := h.2 c4
    refine j_ldc g (v := -1000000) ld_X5_146 dX5_count_32 ?_
    exact hret.go dX5_count_34 h
  replace h := h.1 c4
  refine j_aload_n g 0 rfl dX5_count_35 ?_
  refine j_get g fl_X5_71 (11 + i_1) (cg_K hi_1) rfl dX5_count_36 ?_
  refine j_iload_n g 3 rfl dX5_count_39 ?_
  refine j_isub g dX5_count_40 ?_
  refine j_aload_n g 0 rfl dX5_count_41 ?_
  refine j_get g fl_X5_74 (11 + i_1) (cg_K hi_1) rfl dX5_count_42 ?_
  refine j_imul g dX5_count_45 ?_
  refine j_istore g (lv' := [(4, .int (((kt i_1) - x2) * (kv i_1))), (3, .ref (a (11 + i_1))), (0, .ref (a 0)), (1, .int x1), (2, .int x2)]) (by decide) rfl dX5_count_46 ?_
  refine j_aload_n g 1 rfl dX5_count_48 ?_
  refine j_iload_n g 4 rfl dX5_count_49 ?_
  refine j_put g fl_X5_71 fp_X0_3 (11 + i_1) (cg_K hi_1) rfl rfl (Nat.le_of_ble_eq_true rfl) (ws' := (cgW a q sz pr pm kv kn kr (upd kt i_1 x2) kb ks kj kw kg wd fw ad bk md cr ow hd)) (cg_s_kt hi_1) dX5_count_50 ?_
  refine j_aload_n g 2 rfl dX5_count_53 ?_
  refine j_get g fl_X5_37 0 cg_0 rfl dX5_count_54 ?_
  refine j_iconst g (v := 5) (by decide) dX5_count_57 ?_
  refine j_dup2 g rfl rfl dX5_count_58 ?_
  obtain ⟨hv5, h⟩ := h
  refine j_iald g 5 cg_5 hv5 dX5_count_59 ?_
  refine j_iload g 0 rfl dX5_count_60 ?_
  refine j_iadd g dX5_count_62 ?_
  obtain ⟨hv6, h⟩ := h
  refine j_iast g 5 cg_5 hv6 (ws' := (cgW a q sz pr pm kv kn kr (upd kt i_1 x2) kb ks kj kw kg wd fw ad (upd bk (5 : Int32).toNatClampNeg ((bk (5 : Int32).toNatClampNeg) + (((kt i_1) - x2) * (kv i_1)))) md cr ow hd)) rfl dX5_count_63 ?_
  refine j_iload g 0 rfl dX5_count_64 ?_
  exact hret.go dX5_count_66 h
