set_option maxRecDepth 20000 in
def wp_X0_free (i0 : Nat) (kr : Nat → Int32) (kt : Nat → Int32) (K : Int32 → Prop) : Prop :=
  K ((kr i0) - (kt i0))
theorem dX0_free_0 : decode cX0_free 0 = .ok (.aload_n 0, 1) := by decide +kernel
theorem dX0_free_1 : decode cX0_free 1 = .ok (.getfield 19, 3) := by decide +kernel
theorem dX0_free_4 : decode cX0_free 4 = .ok (.aload_n 0, 1) := by decide +kernel
theorem dX0_free_5 : decode cX0_free 5 = .ok (.getfield 22, 3) := by decide +kernel
theorem dX0_free_8 : decode cX0_free 8 = .ok (.isub, 1) := by decide +kernel
theorem dX0_free_9 : decode cX0_free 9 = .ok (.ireturn, 1) := by decide +kernel
set_option maxRecDepth 20000 in
set_option maxHeartbeats 4000000 in
theorem c_X0_free {a : Nat → Nat} {q : Nat → ClassId} {i0 : Nat} (hi0 : i0 < 6) {sz : Int32} {pr : Nat → Int32} {pm : Nat → Nat} {kv : Nat → Int32} {kn : Nat → Int32} {kr : Nat → Int32} {kt : Nat → Int32} {kb : Nat → Int32} {ks : Nat → Int32} {kj : Nat → Int32} {kw : Nat → Int32} {kg : Nat → Int32} {wd : Nat → Nat → Int64} {fw : Nat → Nat → Int32} {ad : Nat → Int32} {bk : Nat → Int32} {md : Int32} {cr : Int32} {ow : Int32} {hd : Int32} {K : Int32 → Prop} (h : wp_X0_free i0 kr kt K) : ctI_0 q yX0_free cX0_free 1 0 0 [.ref (a (11 + i0))] (cgW a q sz pr pm kv kn kr kt kb ks kj kw kg wd fw ad bk md cr ow hd) (cgW a q sz pr pm kv kn kr kt kb ks kj kw kg wd fw ad bk md cr ow hd) K := by
  refine met_I_0 (by decide) (Nat.le_of_ble_eq_true rfl) (fun Γ g hret => ?_)
  unfold wp_X0_free at h
  show jw Γ 1 0 0 (cgW a q sz pr pm kv kn kr kt kb ks kj kw kg wd fw ad bk md cr ow hd) [(0, .ref (a (11 + i0)))] [] 0
  refine j_aload_n g 0 rfl dX0_free_0 ?_
  refine j_get g fl_X0_19 (11 + i0) (cg_K hi0) rfl dX0_free_1 ?_
  refine j_aload_n g 0 rfl dX0_free_4 ?_
  refine j_get g fl_X0_22 (11 + i0) (cg_K hi0) rfl dX0_free_5 ?_
  refine j_isub g dX0_free_8 ?_
  exact hret.go dX0_free_9 h

set_option maxRecDepth 20000 in
def wp_X0_gives (i0 : Nat) (kn : Nat → Int32) (ks : Nat → Int32) (K : Int32 → Prop) : Prop :=
  ((¬ kn i0 = 0 → K (0 : Int32)) ∧ (kn i0 = 0 → ((¬ ks i0 = 0 → K (0 : Int32)) ∧ (ks i0 = 0 → K (1 : Int32)))))
theorem dX0_gives_0 : decode cX0_gives 0 = .ok (.aload_n 0, 1) := by decide +kernel
theorem dX0_gives_1 : decode cX0_gives 1 = .ok (.getfield 15, 3) := by decide +kernel
theorem dX0_gives_4 : decode cX0_gives 4 = .ok (.ifCond .ne 14, 3) := by decide +kernel
theorem dX0_gives_7 : decode cX0_gives 7 = .ok (.aload_n 0, 1) := by decide +kernel
theorem dX0_gives_8 : decode cX0_gives 8 = .ok (.getfield 28, 3) := by decide +kernel
theorem dX0_gives_11 : decode cX0_gives 11 = .ok (.ifCond .ne 7, 3) := by decide +kernel
theorem dX0_gives_14 : decode cX0_gives 14 = .ok (.iconst 1, 1) := by decide +kernel
theorem dX0_gives_15 : decode cX0_gives 15 = .ok (.goto 4, 3) := by decide +kernel
theorem dX0_gives_18 : decode cX0_gives 18 = .ok (.iconst 0, 1) := by decide +kernel
theorem dX0_gives_19 : decode cX0_gives 19 = .ok (.ireturn, 1) := by decide +kernel
set_option maxRecDepth 20000 in
set_option maxHeartbeats 4000000 in
theorem c_X0_gives {a : Nat → Nat} {q : Nat → ClassId} {i0 : Nat} (hi0 : i0 < 6) {sz : Int32} {pr : Nat → Int32} {pm : Nat → Nat} {kv : Nat → Int32} {kn : Nat → Int32} {kr : Nat → Int32} {kt : Nat → Int32} {kb : Nat → Int32} {ks : Nat → Int32} {kj : Nat → Int32} {kw : Nat → Int32} {kg : Nat → Int32} {wd : Nat → Nat → Int64} {fw : Nat → Nat → Int32} {ad : Nat → Int32} {bk : Nat → Int32} {md : Int32} {cr : Int32} {ow : Int32} {hd : Int32} {K : Int32 → Prop} (h : wp_X0_gives i0 kn ks K) : ctZ_0 q yX0_gives cX0_gives 1 0 0 [.ref (a (11 + i0))] (cgW a q sz pr pm kv kn kr kt kb ks kj kw kg wd fw ad bk md cr ow hd) (cgW a q sz pr pm kv kn kr kt kb ks kj kw kg wd fw ad bk md cr ow hd) K := by
  refine met_Z_0 (by decide) (Nat.le_of_ble_eq_true rfl) (fun Γ g hret => ?_)
  unfold wp_X0_gives at h
  show jw Γ 1 0 0 (cgW a q sz pr pm kv kn kr kt kb ks kj kw kg wd fw ad bk md cr ow hd) [(0, .ref (a (11 + i0)))] [] 0
  refine j_aload_n g 0 rfl dX0_gives_0 ?_
  refine j_get g fl_X0_15 (11 + i0) (cg_K hi0) rfl dX0_gives_1 ?_
  refine j_if_ne g dX0_gives_4 (tgt := 18) (by decide) (fun c1 => ?_) (fun c1 => ?_)
  · replace h := h.1 c1
    refine j_iconst g (v := 0) (by decide) dX0_gives_18 ?_
    exact hret.go dX0_gives_19 (Or.inl rfl) h
  replace h := h.2 c1
  refine j_aload_n g 0 rfl dX0_gives_7 ?_
  refine j_get g fl_X0_28 (11 + i0) (cg_K hi0) rfl dX0_gives_8 ?_
  refine j_if_ne g dX0_gives_11 (tgt := 18) (by decide) (fun c2 => ?_) (fun c2 => ?_)
  · replace h := h.1 c2
    refine j_iconst g (v := 0) (by decide) dX0_gives_18 ?_
    exact hret.go dX0_gives_19 (Or.inl rfl) h
  replace h := h.2 c2
  refine j_iconst g (v := 1) (by decide) dX0_gives_14 ?_
  refine j_goto g dX0_gives_15 (tgt := 19) (by decide) ?_
  exact hret.go dX0_gives_19 (Or.inr rfl) h

set_option maxRecDepth 20000 in
def wp_X0_spare (i0 : Nat) (x1 : Int32) (kn : Nat → Int32) (kt : Nat → Int32) (ks : Nat → Int32) (K : Int32 → Prop) : Prop :=
  wp_X0_gives i0 kn ks (fun (r_1 : Int32)  => ((r_1 = 0 → K (0 : Int32)) ∧ (¬ r_1 = 0 → K (if (0 : Int32) < (kt i0) - x1 then (kt i0) - x1 else (0 : Int32)))))
theorem dX0_spare_0 : decode cX0_spare 0 = .ok (.aload_n 0, 1) := by decide +kernel
theorem dX0_spare_1 : decode cX0_spare 1 = .ok (.invokevirtual 40, 3) := by decide +kernel
theorem dX0_spare_4 : decode cX0_spare 4 = .ok (.ifCond .eq 16, 3) := by decide +kernel
theorem dX0_spare_7 : decode cX0_spare 7 = .ok (.iconst 0, 1) := by decide +kernel
theorem dX0_spare_8 : decode cX0_spare 8 = .ok (.aload_n 0, 1) := by decide +kernel
theorem dX0_spare_9 : decode cX0_spare 9 = .ok (.getfield 22, 3) := by decide +kernel
theorem dX0_spare_12 : decode cX0_spare 12 = .ok (.iload_n 1, 1) := by decide +kernel
theorem dX0_spare_13 : decode cX0_spare 13 = .ok (.isub, 1) := by decide +kernel
theorem dX0_spare_14 : decode cX0_spare 14 = .ok (.invokestatic 44, 3) := by decide +kernel
theorem dX0_spare_17 : decode cX0_spare 17 = .ok (.goto 4, 3) := by decide +kernel
theorem dX0_spare_20 : decode cX0_spare 20 = .ok (.iconst 0, 1) := by decide +kernel
theorem dX0_spare_21 : decode cX0_spare 21 = .ok (.ireturn, 1) := by decide +kernel
set_option maxRecDepth 20000 in
set_option maxHeartbeats 4000000 in
theorem c_X0_spare {a : Nat → Nat} {q : Nat → ClassId} {i0 : Nat} {x1 : Int32} (hi0 : i0 < 6) {sz : Int32} {pr : Nat → Int32} {pm : Nat → Nat} {kv : Nat → Int32} {kn : Nat → Int32} {kr : Nat → Int32} {kt : Nat → Int32} {kb : Nat → Int32} {ks : Nat → Int32} {kj : Nat → Int32} {kw : Nat → Int32} {kg : Nat → Int32} {wd : Nat → Nat → Int64} {fw : Nat → Nat → Int32} {ad : Nat → Int32} {bk : Nat → Int32} {md : Int32} {cr : Int32} {ow : Int32} {hd : Int32} {K : Int32 → Prop} (h : wp_X0_spare i0 x1 kn kt ks K) : ctI_0 q yX0_spare cX0_spare 2 1 21 [.ref (a (11 + i0)), .int x1] (cgW a q sz pr pm kv kn kr kt kb ks kj kw kg wd fw ad bk md cr ow hd) (cgW a q sz pr pm kv kn kr kt kb ks kj kw kg wd fw ad bk md cr ow hd) K := by
  refine met_I_0 (by decide) (Nat.le_of_ble_eq_true rfl) (fun Γ g hret => ?_)
  unfold wp_X0_spare at h
  show jw Γ 2 0 0 (cgW a q sz pr pm kv kn kr kt kb ks kj kw kg wd fw ad bk md cr ow hd) [(0, .ref (a (11 + i0))), (1, .int x1)] [] 0
  refine j_aload_n g 0 rfl dX0_spare_0 ?_
  refine j_callVZ_0 g (As := []) (st := []) (c_X0_gives hi0 h) cl_X0_40 (11 + i0) 0 (cg_K hi0) rfl rfl (Nat.le_of_ble_eq_true rfl) (Nat.le_of_ble_eq_true rfl) (Nat.zero_le _) (Nat.zero_le _) rfl rfl (Nat.le_of_ble_eq_true rfl) dX0_spare_1 (fun r_1  hz_1 h => ?_)
  refine j_if_eq g dX0_spare_4 (tgt := 20) (by decide) (fun c2 => ?_) (fun c2 => ?_)
  · replace h := h.1 c2
    refine j_iconst g (v := 0) (by decide) dX0_spare_20 ?_
    exact hret.go dX0_spare_21 h
  replace h := h.2 c2
  refine j_iconst g (v := 0) (by decide) dX0_spare_7 ?_
  refine j_aload_n g 0 rfl dX0_spare_8 ?_
  refine j_get g fl_X0_22 (11 + i0) (cg_K hi0) rfl dX0_spare_9 ?_
  refine j_iload_n g 1 rfl dX0_spare_12 ?_
  refine j_isub g dX0_spare_13 ?_
  refine j_mmax g lm_X0_44 lm_max_s lm_i lm_max_c (Nat.le_of_ble_eq_true rfl) (Nat.le_of_ble_eq_true rfl) (Nat.zero_le _) (Nat.zero_le _) dX0_spare_14 ?_
  refine j_goto g dX0_spare_17 (tgt := 21) (by decide) ?_
  exact hret.go dX0_spare_21 h

set_option maxRecDepth 20000 in
def wp_X0_release (i0 : Nat) (kt : Nat → Int32) (ks : Nat → Int32) (kj : Nat → Int32) (kg : Nat → Int32) (K : Int32 → (Nat → Int32) → (Nat → Int32) → (Nat → Int32) → (Nat → Int32) → Prop) : Prop :=
  ((¬ kj i0 = 0 → jn (fun (Z2 : (Nat → Int32) → Prop) => ((kj i0 ≤ 0 → Z2 kj) ∧ (¬ kj i0 ≤ 0 → Z2 (upd kj i0 ((kj i0) - (1 : Int32)))))) (fun (kj_2 : Nat → Int32) => K (1 : Int32) (upd kt i0 ((kt i0) - (1 : Int32))) ks kj_2 (upd kg i0 ((kg i0) + (1 : Int32))))) ∧ (kj i0 = 0 → K (0 : Int32) kt (upd ks i0 (1 : Int32)) (upd kj i0 (-1 : Int32)) kg))
theorem dX0_release_0 : decode cX0_release 0 = .ok (.aload_n 0, 1) := by decide +kernel
theorem dX0_release_1 : decode cX0_release 1 = .ok (.getfield 31, 3) := by decide +kernel
theorem dX0_release_4 : decode cX0_release 4 = .ok (.ifCond .ne 15, 3) := by decide +kernel
theorem dX0_release_7 : decode cX0_release 7 = .ok (.aload_n 0, 1) := by decide +kernel
theorem dX0_release_8 : decode cX0_release 8 = .ok (.iconst 1, 1) := by decide +kernel
theorem dX0_release_9 : decode cX0_release 9 = .ok (.putfield 28, 3) := by decide +kernel
theorem dX0_release_12 : decode cX0_release 12 = .ok (.aload_n 0, 1) := by decide +kernel
theorem dX0_release_13 : decode cX0_release 13 = .ok (.iconst (-1), 1) := by decide +kernel
theorem dX0_release_14 : decode cX0_release 14 = .ok (.putfield 31, 3) := by decide +kernel
theorem dX0_release_17 : decode cX0_release 17 = .ok (.iconst 0, 1) := by decide +kernel
theorem dX0_release_18 : decode cX0_release 18 = .ok (.ireturn, 1) := by decide +kernel
theorem dX0_release_19 : decode cX0_release 19 = .ok (.aload_n 0, 1) := by decide +kernel
theorem dX0_release_20 : decode cX0_release 20 = .ok (.getfield 31, 3) := by decide +kernel
theorem dX0_release_23 : decode cX0_release 23 = .ok (.ifCond .le 13, 3) := by decide +kernel
theorem dX0_release_26 : decode cX0_release 26 = .ok (.aload_n 0, 1) := by decide +kernel
theorem dX0_release_27 : decode cX0_release 27 = .ok (.dup, 1) := by decide +kernel
theorem dX0_release_28 : decode cX0_release 28 = .ok (.getfield 31, 3) := by decide +kernel
theorem dX0_release_31 : decode cX0_release 31 = .ok (.iconst 1, 1) := by decide +kernel
theorem dX0_release_32 : decode cX0_release 32 = .ok (.isub, 1) := by decide +kernel
theorem dX0_release_33 : decode cX0_release 33 = .ok (.putfield 31, 3) := by decide +kernel
theorem dX0_release_36 : decode cX0_release 36 = .ok (.aload_n 0, 1) := by decide +kernel
theorem dX0_release_37 : decode cX0_release 37 = .ok (.dup, 1) := by decide +kernel
theorem dX0_release_38 : decode cX0_release 38 = .ok (.getfield 22, 3) := by decide +kernel
theorem dX0_release_41 : decode cX0_release 41 = .ok (.iconst 1, 1) := by decide +kernel
theorem dX0_release_42 : decode cX0_release 42 = .ok (.isub, 1) := by decide +kernel
theorem dX0_release_43 : decode cX0_release 43 = .ok (.putfield 22, 3) := by decide +kernel
theorem dX0_release_46 : decode cX0_release 46 = .ok (.aload_n 0, 1) := by decide +kernel
theorem dX0_release_47 : decode cX0_release 47 = .ok (.dup, 1) := by decide +kernel
theorem dX0_release_48 : decode cX0_release 48 = .ok (.getfield 37, 3) := by decide +kernel
theorem dX0_release_51 : decode cX0_release 51 = .ok (.iconst 1, 1) := by decide +kernel
theorem dX0_release_52 : decode cX0_release 52 = .ok (.iadd, 1) := by decide +kernel
theorem dX0_release_53 : decode cX0_release 53 = .ok (.putfield 37, 3) := by decide +kernel
theorem dX0_release_56 : decode cX0_release 56 = .ok (.iconst 1, 1) := by decide +kernel
theorem dX0_release_57 : decode cX0_release 57 = .ok (.ireturn, 1) := by decide +kernel
set_option maxRecDepth 20000 in
set_option maxHeartbeats 4000000 in
theorem c_X0_release {a : Nat → Nat} {q : Nat → ClassId} {i0 : Nat} (hi0 : i0 < 6) {sz : Int32} {pr : Nat → Int32} {pm : Nat → Nat} {kv : Nat → Int32} {kn : Nat → Int32} {kr : Nat → Int32} {kt : Nat → Int32} {kb : Nat → Int32} {ks : Nat → Int32} {kj : Nat → Int32} {kw : Nat → Int32} {kg : Nat → Int32} {wd : Nat → Nat → Int64} {fw : Nat → Nat → Int32} {ad : Nat → Int32} {bk : Nat → Int32} {md : Int32} {cr : Int32} {ow : Int32} {hd : Int32} {K : Int32 → (Nat → Int32) → (Nat → Int32) → (Nat → Int32) → (Nat → Int32) → Prop} (h : wp_X0_release i0 kt ks kj kg K) : ctZ_4 q yX0_release cX0_release 1 0 0 [.ref (a (11 + i0))] (cgW a q sz pr pm kv kn kr kt kb ks kj kw kg wd fw ad bk md cr ow hd) (fun (kt : Nat → Int32) (ks : Nat → Int32) (kj : Nat → Int32) (kg : Nat → Int32) => (cgW a q sz pr pm kv kn kr kt kb ks kj kw kg wd fw ad bk md cr ow hd)) K := by
  refine met_Z_4 (by decide) (Nat.le_of_ble_eq_true rfl) (fun Γ g hret => ?_)
  unfold wp_X0_release at h
  show jw Γ 1 0 0 (cgW a q sz pr pm kv kn kr kt kb ks kj kw kg wd fw ad bk md cr ow hd) [(0, .ref (a (11 + i0)))] [] 0
  refine j_aload_n g 0 rfl dX0_release_0 ?_
  refine j_get g fl_X0_31 (11 + i0) (cg_K hi0) rfl dX0_release_1 ?_
  refine j_if_ne g dX0_release_4 (tgt := 19) (by decide) (fun c1 => ?_) (fun c1 => ?_)
  rotate_left
  · replace h := h.2 c1
    refine j_aload_n g 0 rfl dX0_release_7 ?_
    refine j_iconst g (v := 1) (by decide) dX0_release_8 ?_
    refine j_put g fl_X0_28 fp_X0_5 (11 + i0) (cg_K hi0) (nz_z (Or.inr rfl)) (nz_f (Or.inr rfl)) (Nat.le_of_ble_eq_true rfl) (ws' := (cgW a q sz pr pm kv kn kr kt kb (upd ks i0 (1 : Int32)) kj kw kg wd fw ad bk md cr ow hd)) (cg_s_ks hi0) dX0_release_9 ?_
    refine j_aload_n g 0 rfl dX0_release_12 ?_
    refine j_iconst g (v := -1) (by decide) dX0_release_13 ?_
    refine j_put g fl_X0_31 fp_X0_6 (11 + i0) (cg_K hi0) rfl rfl (Nat.le_of_ble_eq_true rfl) (ws' := (cgW a q sz pr pm kv kn kr kt kb (upd ks i0 (1 : Int32)) (upd kj i0 (-1 : Int32)) kw kg wd fw ad bk md cr ow hd)) (cg_s_kj hi0) dX0_release_14 ?_
    refine j_iconst g (v := 0) (by decide) dX0_release_17 ?_
    exact hret.go dX0_release_18 (Or.inl rfl) h
  replace h := h.1 c1
  refine j_aload_n g 0 rfl dX0_release_19 ?_
  refine j_get g fl_X0_31 (11 + i0) (cg_K hi0) rfl dX0_release_20 ?_
  refine jn_cut h (fun Z2 eZ2 h => ?_)
  have hZ2 : ∀ (kj_2 : Nat → Int32), Z2 kj_2 → jw Γ 1 0 0 (cgW a q sz pr pm kv kn kr kt kb ks kj_2 kw kg wd fw ad bk md cr ow hd) [(0, .ref (a (11 + i0)))] [] 36 := by
    intro kj_2 h
    rw [eZ2] at h
    refine j_aload_n g 0 rfl dX0_release_36 ?_
    refine j_dup g rfl dX0_release_37 ?_
    refine j_get g fl_X0_22 (11 + i0) (cg_K hi0) rfl dX0_release_38 ?_
    refine j_iconst g (v := 1) (by decide) dX0_release_41 ?_
    refine j_isub g dX0_release_42 ?_
    refine j_put g fl_X0_22 fp_X0_3 (11 + i0) (cg_K hi0) rfl rfl (Nat.le_of_ble_eq_true rfl) (ws' := (cgW a q sz pr pm kv kn kr (upd kt i0 ((kt i0) - (1 : Int32))) kb ks kj_2 kw kg wd fw ad bk md cr ow hd)) (cg_s_kt hi0) dX0_release_43 ?_
    refine j_aload_n g 0 rfl dX0_release_46 ?_
    refine j_dup g rfl dX0_release_47 ?_
    refine j_get g fl_X0_37 (11 + i0) (cg_K hi0) rfl dX0_release_48 ?_
    refine j_iconst g (v := 1) (by decide) dX0_release_51 ?_
    refine j_iadd g dX0_release_52 ?_
    refine j_put g fl_X0_37 fp_X0_8 (11 + i0) (cg_K hi0) rfl rfl (Nat.le_of_ble_eq_true rfl) (ws' := (cgW a q sz pr pm kv kn kr (upd kt i0 ((kt i0) - (1 : Int32))) kb ks kj_2 kw (upd kg i0 ((kg i0) + (1 : Int32))) wd fw ad bk md cr ow hd)) (cg_s_kg hi0) dX0_release_53 ?_
    refine j_iconst g (v := 1) (by decide) dX0_release_56 ?_
    exact hret.go dX0_release_57 (Or.inr rfl) h
  refine j_if_le g dX0_release_23 (tgt := 36) (by decide) (fun c3 => ?_) (fun c3 => ?_)
  · replace h := h.1 c3
    exact hZ2 kj h
  replace h := h.2 c3
  refine j_aload_n g 0 rfl dX0_release_26 ?_
  refine j_dup g rfl dX0_release_27 ?_
  refine j_get g fl_X0_31 (11 + i0) (cg_K hi0) rfl dX0_release_28 ?_
  refine j_iconst g (v := 1) (by decide) dX0_release_31 ?_
  refine j_isub g dX0_release_32 ?_
  refine j_put g fl_X0_31 fp_X0_6 (11 + i0) (cg_K hi0) rfl rfl (Nat.le_of_ble_eq_true rfl) (ws' := (cgW a q sz pr pm kv kn kr kt kb ks (upd kj i0 ((kj i0) - (1 : Int32))) kw kg wd fw ad bk md cr ow hd)) (cg_s_kj hi0) dX0_release_33 ?_
  exact hZ2 (upd kj i0 ((kj i0) - (1 : Int32))) h
