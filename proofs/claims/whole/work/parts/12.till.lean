set_option maxRecDepth 20000 in
def wp_X3_find (x1 : Int32) (sz : Int32) (K : Option Nat → Prop) : Prop :=
  ((x1 < 0 → K none) ∧ (¬ x1 < 0 → ((x1 < sz → (vp_in x1 6 ∧ K (some x1.toNatClampNeg))) ∧ (¬ x1 < sz → K none))))
theorem dX3_find_0 : decode cX3_find 0 = .ok (.iload_n 1, 1) := by decide +kernel
theorem dX3_find_1 : decode cX3_find 1 = .ok (.ifCond .lt 11, 3) := by decide +kernel
theorem dX3_find_4 : decode cX3_find 4 = .ok (.iload_n 1, 1) := by decide +kernel
theorem dX3_find_5 : decode cX3_find 5 = .ok (.aload_n 0, 1) := by decide +kernel
theorem dX3_find_6 : decode cX3_find 6 = .ok (.getfield 24, 3) := by decide +kernel
theorem dX3_find_9 : decode cX3_find 9 = .ok (.if_icmp .lt 7, 3) := by decide +kernel
theorem dX3_find_12 : decode cX3_find 12 = .ok (.aconst_null, 1) := by decide +kernel
theorem dX3_find_13 : decode cX3_find 13 = .ok (.goto 9, 3) := by decide +kernel
theorem dX3_find_16 : decode cX3_find 16 = .ok (.aload_n 0, 1) := by decide +kernel
theorem dX3_find_17 : decode cX3_find 17 = .ok (.getfield 11, 3) := by decide +kernel
theorem dX3_find_20 : decode cX3_find 20 = .ok (.iload_n 1, 1) := by decide +kernel
theorem dX3_find_21 : decode cX3_find 21 = .ok (.aaload, 1) := by decide +kernel
theorem dX3_find_22 : decode cX3_find 22 = .ok (.areturn, 1) := by decide +kernel
set_option maxRecDepth 20000 in
set_option maxHeartbeats 4000000 in
theorem c_X3_find {a : Nat → Nat} {q : Nat → ClassId} {x1 : Int32}  {sz : Int32} {pr : Nat → Int32} {pm : Nat → Nat} {kv : Nat → Int32} {kn : Nat → Int32} {kr : Nat → Int32} {kt : Nat → Int32} {kb : Nat → Int32} {ks : Nat → Int32} {kj : Nat → Int32} {kw : Nat → Int32} {kg : Nat → Int32} {wd : Nat → Nat → Int64} {fw : Nat → Nat → Int32} {ad : Nat → Int32} {bk : Nat → Int32} {md : Int32} {cr : Int32} {ow : Int32} {hd : Int32} {K : Option Nat → Prop} (h : wp_X3_find x1 sz K) : ctQ_0 q yX3_find cX3_find 2 0 0 [.ref (a 1), .int x1] (cgW a q sz pr pm kv kn kr kt kb ks kj kw kg wd fw ad bk md cr ow hd) (fun i => a (11 + i)) (cgW a q sz pr pm kv kn kr kt kb ks kj kw kg wd fw ad bk md cr ow hd) K := by
  refine met_Q_0 (by decide) (Nat.le_of_ble_eq_true rfl) (fun Γ g hret => ?_)
  unfold wp_X3_find at h
  show jw Γ 2 0 0 (cgW a q sz pr pm kv kn kr kt kb ks kj kw kg wd fw ad bk md cr ow hd) [(0, .ref (a 1)), (1, .int x1)] [] 0
  refine j_iload_n g 1 rfl dX3_find_0 ?_
  refine j_if_lt g dX3_find_1 (tgt := 12) (by decide) (fun c1 => ?_) (fun c1 => ?_)
  · replace h := h.1 c1
    refine j_null g dX3_find_12 ?_
    refine j_goto g dX3_find_13 (tgt := 22) (by decide) ?_
    exact hret.goN dX3_find_22 h
  replace h := h.2 c1
  refine j_iload_n g 1 rfl dX3_find_4 ?_
  refine j_aload_n g 0 rfl dX3_find_5 ?_
  refine j_get g fl_X3_24 1 cg_1 rfl dX3_find_6 ?_
  refine j_icmp_lt g dX3_find_9 (tgt := 16) (by decide) (fun c2 => ?_) (fun c2 => ?_)
  rotate_left
  · replace h := h.2 c2
    refine j_null g dX3_find_12 ?_
    refine j_goto g dX3_find_13 (tgt := 22) (by decide) ?_
    exact hret.goN dX3_find_22 h
  replace h := h.1 c2
  refine j_aload_n g 0 rfl dX3_find_16 ?_
  refine j_get g fl_X3_11 1 cg_1 rfl dX3_find_17 ?_
  refine j_iload_n g 1 rfl dX3_find_20 ?_
  obtain ⟨hv3, h⟩ := h
  refine j_aald g 2 3 cg_2 rfl (by decide) hv3 rfl dX3_find_21 ?_
  exact hret.go dX3_find_22 (vp_lt hv3) h

set_option maxRecDepth 20000 in
def wp_X3_findCoin (x1 : Int32) (sz : Int32) (kn : Nat → Int32) (K : Option Nat → Prop) : Prop :=
  wp_X3_find x1 sz (fun (o_1 : Option Nat)  => (o_1 = none → K none) ∧ (∀ i_1 : Nat, o_1 = some i_1 → i_1 < 6 → ((kn i_1 = 0 → K (some i_1)) ∧ (¬ kn i_1 = 0 → K none))))
theorem dX3_findCoin_0 : decode cX3_findCoin 0 = .ok (.aload_n 0, 1) := by decide +kernel
theorem dX3_findCoin_1 : decode cX3_findCoin 1 = .ok (.iload_n 1, 1) := by decide +kernel
theorem dX3_findCoin_2 : decode cX3_findCoin 2 = .ok (.invokevirtual 29, 3) := by decide +kernel
theorem dX3_findCoin_5 : decode cX3_findCoin 5 = .ok (.astore_n 2, 1) := by decide +kernel
theorem dX3_findCoin_6 : decode cX3_findCoin 6 = .ok (.aload_n 2, 1) := by decide +kernel
theorem dX3_findCoin_7 : decode cX3_findCoin 7 = .ok (.ifnull 10, 3) := by decide +kernel
theorem dX3_findCoin_10 : decode cX3_findCoin 10 = .ok (.aload_n 2, 1) := by decide +kernel
theorem dX3_findCoin_11 : decode cX3_findCoin 11 = .ok (.getfield 33, 3) := by decide +kernel
theorem dX3_findCoin_14 : decode cX3_findCoin 14 = .ok (.ifCond .eq 7, 3) := by decide +kernel
theorem dX3_findCoin_17 : decode cX3_findCoin 17 = .ok (.aconst_null, 1) := by decide +kernel
theorem dX3_findCoin_18 : decode cX3_findCoin 18 = .ok (.goto 4, 3) := by decide +kernel
theorem dX3_findCoin_21 : decode cX3_findCoin 21 = .ok (.aload_n 2, 1) := by decide +kernel
theorem dX3_findCoin_22 : decode cX3_findCoin 22 = .ok (.areturn, 1) := by decide +kernel
set_option maxRecDepth 20000 in
set_option maxHeartbeats 4000000 in
theorem c_X3_findCoin {a : Nat → Nat} {q : Nat → ClassId} {x1 : Int32}  {sz : Int32} {pr : Nat → Int32} {pm : Nat → Nat} {kv : Nat → Int32} {kn : Nat → Int32} {kr : Nat → Int32} {kt : Nat → Int32} {kb : Nat → Int32} {ks : Nat → Int32} {kj : Nat → Int32} {kw : Nat → Int32} {kg : Nat → Int32} {wd : Nat → Nat → Int64} {fw : Nat → Nat → Int32} {ad : Nat → Int32} {bk : Nat → Int32} {md : Int32} {cr : Int32} {ow : Int32} {hd : Int32} {K : Option Nat → Prop} (h : wp_X3_findCoin x1 sz kn K) : ctQ_0 q yX3_findCoin cX3_findCoin 3 1 21 [.ref (a 1), .int x1] (cgW a q sz pr pm kv kn kr kt kb ks kj kw kg wd fw ad bk md cr ow hd) (fun i => a (11 + i)) (cgW a q sz pr pm kv kn kr kt kb ks kj kw kg wd fw ad bk md cr ow hd) K := by
  refine met_Q_0 (by decide) (Nat.le_of_ble_eq_true rfl) (fun Γ g hret => ?_)
  unfold wp_X3_findCoin at h
  show jw Γ 3 0 0 (cgW a q sz pr pm kv kn kr kt kb ks kj kw kg wd fw ad bk md cr ow hd) [(0, .ref (a 1)), (1, .int x1)] [] 0
  refine j_aload_n g 0 rfl dX3_findCoin_0 ?_
  refine j_iload_n g 1 rfl dX3_findCoin_1 ?_
  refine j_callVQ_0 g (As := [.int x1]) (st := []) (c_X3_find  h) cl_X3_29 1 3 cg_1 rfl rfl (Nat.le_of_ble_eq_true rfl) (Nat.le_of_ble_eq_true rfl) (Nat.zero_le _) (Nat.zero_le _) rfl rfl (Nat.le_of_ble_eq_true rfl) dX3_findCoin_2 (fun  h => ?_) (fun i_1  hi_1 h => ?_)
  · replace h := h.1 rfl
    refine j_astore_nN g (lv' := [(2, .null), (0, .ref (a 1)), (1, .int x1)]) (by decide) rfl dX3_findCoin_5 ?_
    refine j_aload_nN g 0 rfl dX3_findCoin_6 ?_
    refine j_ifnullN g dX3_findCoin_7 (tgt := 17) (by decide) ?_
    refine j_null g dX3_findCoin_17 ?_
    refine j_goto g dX3_findCoin_18 (tgt := 22) (by decide) ?_
    exact hret.goN dX3_findCoin_22 h
  replace h := h.2 i_1 rfl hi_1
  refine j_astore_n g (lv' := [(2, .ref (a (11 + i_1))), (0, .ref (a 1)), (1, .int x1)]) (by decide) rfl dX3_findCoin_5 ?_
  refine j_aload_n g 0 rfl dX3_findCoin_6 ?_
  refine j_ifnull g dX3_findCoin_7 ?_
  refine j_aload_n g 0 rfl dX3_findCoin_10 ?_
  refine j_get g fl_X3_33 (11 + i_1) (cg_K hi_1) rfl dX3_findCoin_11 ?_
  refine j_if_eq g dX3_findCoin_14 (tgt := 21) (by decide) (fun c2 => ?_) (fun c2 => ?_)
  · replace h := h.1 c2
    refine j_aload_n g 0 rfl dX3_findCoin_21 ?_
    exact hret.go dX3_findCoin_22 hi_1 h
  replace h := h.2 c2
  refine j_null g dX3_findCoin_17 ?_
  refine j_goto g dX3_findCoin_18 (tgt := 22) (by decide) ?_
  exact hret.goN dX3_findCoin_22 h

set_option maxRecDepth 20000 in
def wp_X3_hasValue_2 (x1 : Int32) (sz : Int32) (kv : Nat → Int32) (K : Int32 → Prop) (X : Prop) : Nat → Int32 → Prop
  | 0, _ => False
  | n + 1, x2 => ((sz ≤ x2 → X) ∧ (¬ sz ≤ x2 → (vp_in x2 6 ∧ ((¬ kv x2.toNatClampNeg = x1 → wp_X3_hasValue_2 x1 sz kv K X n (x2 + 1)) ∧ (kv x2.toNatClampNeg = x1 → K (1 : Int32))))))
set_option maxRecDepth 20000 in
def wp_X3_hasValue (x1 : Int32) (sz : Int32) (kv : Nat → Int32) (K : Int32 → Prop) : Prop :=
  ∃ n1 : Nat, wp_X3_hasValue_2 x1 sz kv K (K (0 : Int32)) n1 (0 : Int32)
theorem dX3_hasValue_0 : decode cX3_hasValue 0 = .ok (.iconst 0, 1) := by decide +kernel
theorem dX3_hasValue_1 : decode cX3_hasValue 1 = .ok (.istore_n 2, 1) := by decide +kernel
theorem dX3_hasValue_2 : decode cX3_hasValue 2 = .ok (.iload_n 2, 1) := by decide +kernel
theorem dX3_hasValue_3 : decode cX3_hasValue 3 = .ok (.aload_n 0, 1) := by decide +kernel
theorem dX3_hasValue_4 : decode cX3_hasValue 4 = .ok (.getfield 24, 3) := by decide +kernel
theorem dX3_hasValue_7 : decode cX3_hasValue 7 = .ok (.if_icmp .ge 24, 3) := by decide +kernel
theorem dX3_hasValue_10 : decode cX3_hasValue 10 = .ok (.aload_n 0, 1) := by decide +kernel
theorem dX3_hasValue_11 : decode cX3_hasValue 11 = .ok (.getfield 11, 3) := by decide +kernel
theorem dX3_hasValue_14 : decode cX3_hasValue 14 = .ok (.iload_n 2, 1) := by decide +kernel
theorem dX3_hasValue_15 : decode cX3_hasValue 15 = .ok (.aaload, 1) := by decide +kernel
theorem dX3_hasValue_16 : decode cX3_hasValue 16 = .ok (.getfield 41, 3) := by decide +kernel
theorem dX3_hasValue_19 : decode cX3_hasValue 19 = .ok (.iload_n 1, 1) := by decide +kernel
theorem dX3_hasValue_20 : decode cX3_hasValue 20 = .ok (.if_icmp .ne 5, 3) := by decide +kernel
theorem dX3_hasValue_23 : decode cX3_hasValue 23 = .ok (.iconst 1, 1) := by decide +kernel
theorem dX3_hasValue_24 : decode cX3_hasValue 24 = .ok (.ireturn, 1) := by decide +kernel
theorem dX3_hasValue_25 : decode cX3_hasValue 25 = .ok (.iinc 2 1, 3) := by decide +kernel
theorem dX3_hasValue_28 : decode cX3_hasValue 28 = .ok (.goto (-26), 3) := by decide +kernel
theorem dX3_hasValue_31 : decode cX3_hasValue 31 = .ok (.iconst 0, 1) := by decide +kernel
theorem dX3_hasValue_32 : decode cX3_hasValue 32 = .ok (.ireturn, 1) := by decide +kernel
set_option maxRecDepth 20000 in
set_option maxHeartbeats 4000000 in
theorem wk_X3_hasValue_2 {Γ : GT} {a : Nat → Nat} {q : Nat → ClassId} {x1 : Int32}  {sz : Int32} {pr : Nat → Int32} {pm : Nat → Nat} {kv : Nat → Int32} {kn : Nat → Int32} {kr : Nat → Int32} {kt : Nat → Int32} {kb : Nat → Int32} {ks : Nat → Int32} {kj : Nat → Int32} {kw : Nat → Int32} {kg : Nat → Int32} {wd : Nat → Nat → Int64} {fw : Nat → Nat → Int32} {ad : Nat → Int32} {bk : Nat → Int32} {md : Int32} {cr : Int32} {ow : Int32} {hd : Int32} {K : Int32 → Prop} {X : Prop} (g : gd Γ cX3_hasValue RX3 3 (rmz 0 0) q) (hret : rtZ_0 Γ cX3_hasValue 3 (cgW a q sz pr pm kv kn kr kt kb ks kj kw kg wd fw ad bk md cr ow hd) K) (hX : X → jw Γ 3 0 0 (cgW a q sz pr pm kv kn kr kt kb ks kj kw kg wd fw ad bk md cr ow hd) [] [] 31) :
    ∀ (n : Nat) (x2 : Int32) , wp_X3_hasValue_2 x1 sz kv K X n x2 → jw Γ 3 0 0 (cgW a q sz pr pm kv kn kr kt kb ks kj kw kg wd fw ad bk md cr ow hd) [(0, .ref (a 1)), (1, .int x1), (2, .int x2)] [] 2 := by
  intro n
  induction n with
  | zero =>
    intro _ h
    exact False.elim h
  | succ n ih =>
    intro x2 h
    unfold wp_X3_hasValue_2 at h
    refine j_iload_n g 2 rfl dX3_hasValue_2 ?_
    refine j_aload_n g 0 rfl dX3_hasValue_3 ?_
    refine j_get g fl_X3_24 1 cg_1 rfl dX3_hasValue_4 ?_
    refine j_icmp_ge g dX3_hasValue_7 (tgt := 31) (by decide) (fun c1 => ?_) (fun c1 => ?_)
    · replace h := h.1 c1
      refine j_sub [] rfl ?_
      exact hX h
    replace h := h.2 c1
    refine j_aload_n g 0 rfl dX3_hasValue_10 ?_
    refine j_get g fl_X3_11 1 cg_1 rfl dX3_hasValue_11 ?_
    refine j_iload_n g 2 rfl dX3_hasValue_14 ?_
    obtain ⟨hv2, h⟩ := h
    refine j_aald g 2 3 cg_2 rfl (by decide) hv2 rfl dX3_hasValue_15 ?_
    refine j_get g fl_X3_41 (11 + x2.toNatClampNeg) (cg_K (vp_lt hv2)) rfl dX3_hasValue_16 ?_
    refine j_iload_n g 1 rfl dX3_hasValue_19 ?_
    refine j_icmp_ne g dX3_hasValue_20 (tgt := 25) (by decide) (fun c3 => ?_) (fun c3 => ?_)
    rotate_left
    · replace h := h.2 c3
      refine j_iconst g (v := 1) (by decide) dX3_hasValue_23 ?_
      exact hret.go dX3_hasValue_24 (Or.inr rfl) h
    replace h := h.1 c3
    refine j_iinc g 2 (n := 1) (v := x2 + 1) (lv' := [(2, .int (x2 + 1)), (0, .ref (a 1)), (1, .int x1)]) rfl rfl (by decide) rfl dX3_hasValue_25 ?_
    refine j_goto g dX3_hasValue_28 (tgt := 2) (by decide) ?_
    refine j_sub [1, 2, 0] rfl ?_
    exact ih (x2 + 1) h
set_option maxRecDepth 20000 in
set_option maxHeartbeats 4000000 in
theorem c_X3_hasValue {a : Nat → Nat} {q : Nat → ClassId} {x1 : Int32}  {sz : Int32} {pr : Nat → Int32} {pm : Nat → Nat} {kv : Nat → Int32} {kn : Nat → Int32} {kr : Nat → Int32} {kt : Nat → Int32} {kb : Nat → Int32} {ks : Nat → Int32} {kj : Nat → Int32} {kw : Nat → Int32} {kg : Nat → Int32} {wd : Nat → Nat → Int64} {fw : Nat → Nat → Int32} {ad : Nat → Int32} {bk : Nat → Int32} {md : Int32} {cr : Int32} {ow : Int32} {hd : Int32} {K : Int32 → Prop} (h : wp_X3_hasValue x1 sz kv K) : ctZ_0 q yX3_hasValue cX3_hasValue 3 0 0 [.ref (a 1), .int x1] (cgW a q sz pr pm kv kn kr kt kb ks kj kw kg wd fw ad bk md cr ow hd) (cgW a q sz pr pm kv kn kr kt kb ks kj kw kg wd fw ad bk md cr ow hd) K := by
  refine met_Z_0 (by decide) (Nat.le_of_ble_eq_true rfl) (fun Γ g hret => ?_)
  unfold wp_X3_hasValue at h
  show jw Γ 3 0 0 (cgW a q sz pr pm kv kn kr kt kb ks kj kw kg wd fw ad bk md cr ow hd) [(0, .ref (a 1)), (1, .int x1)] [] 0
  refine j_iconst g (v := 0) (by decide) dX3_hasValue_0 ?_
  refine j_istore_n g (lv' := [(2, .int (0 : Int32)), (0, .ref (a 1)), (1, .int x1)]) (by decide) rfl dX3_hasValue_1 ?_
  obtain ⟨n1, h⟩ := h
  refine j_sub [1, 2, 0] rfl ?_
  refine wk_X3_hasValue_2  g hret (fun h => ?_) n1 (0 : Int32) h
  refine j_iconst g (v := 0) (by decide) dX3_hasValue_31 ?_
  exact hret.go dX3_hasValue_32 (Or.inl rfl) h

set_option maxRecDepth 20000 in
def wp_X3_add_54 (x1 : Int32) (i4 : Nat) (kv : Nat → Int32) (K : Int32 → Int32 → (Nat → Nat) → (Nat → Int32) → (Nat → Int32) → (Nat → Int32) → Prop) (X : Int32 → (Nat → Nat) → Prop) : Nat → Int32 → (Nat → Nat) → Prop
  | 0, _, _ => False
  | n + 1, x5, pm => ((x5 ≤ 0 → X x5 pm) ∧ (¬ x5 ≤ 0 → (vp_in (x5 - (1 : Int32)) 6 ∧ pm (x5 - (1 : Int32)).toNatClampNeg < 6 ∧ ((kv (pm (x5 - (1 : Int32)).toNatClampNeg) ≤ x1 → X x5 pm) ∧ (¬ kv (pm (x5 - (1 : Int32)).toNatClampNeg) ≤ x1 → (vp_in (x5 - (1 : Int32)) 6 ∧ pm (x5 - (1 : Int32)).toNatClampNeg < 6 ∧ (vp_in x5 6 ∧ wp_X3_add_54 x1 i4 kv K X n (x5 + (-1 : Int32)) (va_up pm x5.toNatClampNeg (pm (x5 - (1 : Int32)).toNatClampNeg)))))))))
set_option maxRecDepth 20000 in
def wp_X3_add (x1 : Int32) (x2 : Int32) (x3 : Int32) (sz : Int32) (pm : Nat → Nat) (kv : Nat → Int32) (kn : Nat → Int32) (kr : Nat → Int32) (K : Int32 → Int32 → (Nat → Nat) → (Nat → Int32) → (Nat → Int32) → (Nat → Int32) → Prop) : Prop :=
  (((6 : Int32) ≤ sz → K (-1 : Int32) sz pm kv kn kr) ∧ (¬ (6 : Int32) ≤ sz → wp_X3_hasValue x1 sz kv (fun (r_2 : Int32)  => ((r_2 = 0 → (vp_in sz 6 ∧ ∃ n5 : Nat, wp_X3_add_54 x1 sz.toNatClampNeg (upd kv sz.toNatClampNeg x1) K (fun (x5_5 : Int32) (pm_5 : Nat → Nat) => (vp_in x5_5 6 ∧ K ((sz + (1 : Int32)) - (1 : Int32)) (sz + (1 : Int32)) (va_up pm_5 x5_5.toNatClampNeg sz.toNatClampNeg) (upd kv sz.toNatClampNeg x1) (upd kn sz.toNatClampNeg x3) (upd kr sz.toNatClampNeg x2))) n5 sz pm)) ∧ (¬ r_2 = 0 → K (-1 : Int32) sz pm kv kn kr)))))
theorem dX3_add_0 : decode cX3_add 0 = .ok (.aload_n 0, 1) := by decide +kernel
theorem dX3_add_1 : decode cX3_add 1 = .ok (.getfield 24, 3) := by decide +kernel
theorem dX3_add_4 : decode cX3_add 4 = .ok (.bipush 6, 2) := by decide +kernel
theorem dX3_add_6 : decode cX3_add 6 = .ok (.if_icmp .ge 11, 3) := by decide +kernel
theorem dX3_add_9 : decode cX3_add 9 = .ok (.aload_n 0, 1) := by decide +kernel
theorem dX3_add_10 : decode cX3_add 10 = .ok (.iload_n 1, 1) := by decide +kernel
theorem dX3_add_11 : decode cX3_add 11 = .ok (.invokevirtual 37, 3) := by decide +kernel
theorem dX3_add_14 : decode cX3_add 14 = .ok (.ifCond .eq 5, 3) := by decide +kernel
theorem dX3_add_17 : decode cX3_add 17 = .ok (.iconst (-1), 1) := by decide +kernel
theorem dX3_add_18 : decode cX3_add 18 = .ok (.ireturn, 1) := by decide +kernel
theorem dX3_add_19 : decode cX3_add 19 = .ok (.aload_n 0, 1) := by decide +kernel
theorem dX3_add_20 : decode cX3_add 20 = .ok (.getfield 11, 3) := by decide +kernel
theorem dX3_add_23 : decode cX3_add 23 = .ok (.aload_n 0, 1) := by decide +kernel
theorem dX3_add_24 : decode cX3_add 24 = .ok (.getfield 24, 3) := by decide +kernel
theorem dX3_add_27 : decode cX3_add 27 = .ok (.aaload, 1) := by decide +kernel
theorem dX3_add_28 : decode cX3_add 28 = .ok (.astore 4, 2) := by decide +kernel
theorem dX3_add_30 : decode cX3_add 30 = .ok (.aload 4, 2) := by decide +kernel
theorem dX3_add_32 : decode cX3_add 32 = .ok (.iload_n 1, 1) := by decide +kernel
theorem dX3_add_33 : decode cX3_add 33 = .ok (.putfield 41, 3) := by decide +kernel
theorem dX3_add_36 : decode cX3_add 36 = .ok (.aload 4, 2) := by decide +kernel
theorem dX3_add_38 : decode cX3_add 38 = .ok (.iload_n 2, 1) := by decide +kernel
theorem dX3_add_39 : decode cX3_add 39 = .ok (.putfield 44, 3) := by decide +kernel
theorem dX3_add_42 : decode cX3_add 42 = .ok (.aload 4, 2) := by decide +kernel
theorem dX3_add_44 : decode cX3_add 44 = .ok (.iload_n 3, 1) := by decide +kernel
theorem dX3_add_45 : decode cX3_add 45 = .ok (.putfield 33, 3) := by decide +kernel
theorem dX3_add_48 : decode cX3_add 48 = .ok (.aload_n 0, 1) := by decide +kernel
theorem dX3_add_49 : decode cX3_add 49 = .ok (.getfield 24, 3) := by decide +kernel
theorem dX3_add_52 : decode cX3_add 52 = .ok (.istore 5, 2) := by decide +kernel
theorem dX3_add_54 : decode cX3_add 54 = .ok (.iload 5, 2) := by decide +kernel
theorem dX3_add_56 : decode cX3_add 56 = .ok (.ifCond .le 41, 3) := by decide +kernel
theorem dX3_add_59 : decode cX3_add 59 = .ok (.aload_n 0, 1) := by decide +kernel
theorem dX3_add_60 : decode cX3_add 60 = .ok (.getfield 17, 3) := by decide +kernel
theorem dX3_add_63 : decode cX3_add 63 = .ok (.iload 5, 2) := by decide +kernel
theorem dX3_add_65 : decode cX3_add 65 = .ok (.iconst 1, 1) := by decide +kernel
theorem dX3_add_66 : decode cX3_add 66 = .ok (.isub, 1) := by decide +kernel
theorem dX3_add_67 : decode cX3_add 67 = .ok (.aaload, 1) := by decide +kernel
theorem dX3_add_68 : decode cX3_add 68 = .ok (.getfield 41, 3) := by decide +kernel
theorem dX3_add_71 : decode cX3_add 71 = .ok (.iload_n 1, 1) := by decide +kernel
theorem dX3_add_72 : decode cX3_add 72 = .ok (.if_icmp .le 25, 3) := by decide +kernel
theorem dX3_add_75 : decode cX3_add 75 = .ok (.aload_n 0, 1) := by decide +kernel
theorem dX3_add_76 : decode cX3_add 76 = .ok (.getfield 17, 3) := by decide +kernel
theorem dX3_add_79 : decode cX3_add 79 = .ok (.iload 5, 2) := by decide +kernel
theorem dX3_add_81 : decode cX3_add 81 = .ok (.aload_n 0, 1) := by decide +kernel
theorem dX3_add_82 : decode cX3_add 82 = .ok (.getfield 17, 3) := by decide +kernel
theorem dX3_add_85 : decode cX3_add 85 = .ok (.iload 5, 2) := by decide +kernel
theorem dX3_add_87 : decode cX3_add 87 = .ok (.iconst 1, 1) := by decide +kernel
theorem dX3_add_88 : decode cX3_add 88 = .ok (.isub, 1) := by decide +kernel
theorem dX3_add_89 : decode cX3_add 89 = .ok (.aaload, 1) := by decide +kernel
theorem dX3_add_90 : decode cX3_add 90 = .ok (.aastore, 1) := by decide +kernel
theorem dX3_add_91 : decode cX3_add 91 = .ok (.iinc 5 (-1), 3) := by decide +kernel
theorem dX3_add_94 : decode cX3_add 94 = .ok (.goto (-40), 3) := by decide +kernel
theorem dX3_add_97 : decode cX3_add 97 = .ok (.aload_n 0, 1) := by decide +kernel
theorem dX3_add_98 : decode cX3_add 98 = .ok (.getfield 17, 3) := by decide +kernel
theorem dX3_add_101 : decode cX3_add 101 = .ok (.iload 5, 2) := by decide +kernel
theorem dX3_add_103 : decode cX3_add 103 = .ok (.aload 4, 2) := by decide +kernel
theorem dX3_add_105 : decode cX3_add 105 = .ok (.aastore, 1) := by decide +kernel
theorem dX3_add_106 : decode cX3_add 106 = .ok (.aload_n 0, 1) := by decide +kernel
theorem dX3_add_107 : decode cX3_add 107 = .ok (.dup, 1) := by decide +kernel
theorem dX3_add_108 : decode cX3_add 108 = .ok (.getfield 24, 3) := by decide +kernel
theorem dX3_add_111 : decode cX3_add 111 = .ok (.iconst 1, 1) := by decide +kernel
theorem dX3_add_112 : decode cX3_add 112 = .ok (.iadd, 1) := by decide +kernel
theorem dX3_add_113 : decode cX3_add 113 = .ok (.putfield 24, 3) := by decide +kernel
theorem dX3_add_116 : decode cX3_add 116 = .ok (.aload_n 0, 1) := by decide +kernel
theorem dX3_add_117 : decode cX3_add 117 = .ok (.getfield 24, 3) := by decide +kernel
theorem dX3_add_120 : decode cX3_add 120 = .ok (.iconst 1, 1) := by decide +kernel
theorem dX3_add_121 : decode cX3_add 121 = .ok (.isub, 1) := by decide +kernel
theorem dX3_add_122 : decode cX3_add 122 = .ok (.ireturn, 1) := by decide +kernel
set_option maxRecDepth 20000 in
set_option maxHeartbeats 4000000 in
theorem wk_X3_add_54 {Γ : GT} {a : Nat → Nat} {q : Nat → ClassId} {x1 : Int32} {i4 : Nat} (hi4 : i4 < 6) {sz : Int32} {pr : Nat → Int32} {kv : Nat → Int32} {kn : Nat → Int32} {kr : Nat → Int32} {kt : Nat → Int32} {kb : Nat → Int32} {ks : Nat → Int32} {kj : Nat → Int32} {kw : Nat → Int32} {kg : Nat → Int32} {wd : Nat → Nat → Int64} {fw : Nat → Nat → Int32} {ad : Nat → Int32} {bk : Nat → Int32} {md : Int32} {cr : Int32} {ow : Int32} {hd : Int32} {K : Int32 → Int32 → (Nat → Nat) → (Nat → Int32) → (Nat → Int32) → (Nat → Int32) → Prop} {X : Int32 → (Nat → Nat) → Prop} (g : gd Γ cX3_add RX3 6 (rmz 1 22) q) (hret : rtI_5 Γ cX3_add 6 (fun (sz : Int32) (pm : Nat → Nat) (kv : Nat → Int32) (kn : Nat → Int32) (kr : Nat → Int32) => (cgW a q sz pr pm kv kn kr kt kb ks kj kw kg wd fw ad bk md cr ow hd)) K) (hX : ∀ (x5 : Int32) (pm : Nat → Nat) , X x5 pm → jw Γ 6 0 0 (cgW a q sz pr pm kv kn kr kt kb ks kj kw kg wd fw ad bk md cr ow hd) [(0, .ref (a 1)), (4, .ref (a (11 + i4))), (5, .int x5)] [] 97) :
    ∀ (n : Nat) (x5 : Int32) (pm : Nat → Nat) , wp_X3_add_54 x1 i4 kv K X n x5 pm → jw Γ 6 0 0 (cgW a q sz pr pm kv kn kr kt kb ks kj kw kg wd fw ad bk md cr ow hd) [(0, .ref (a 1)), (1, .int x1), (4, .ref (a (11 + i4))), (5, .int x5)] [] 54 := by
  intro n
  induction n with
  | zero =>
    intro _ _ h
    exact False.elim h
  | succ n ih =>
    intro x5 pm h
    unfold wp_X3_add_54 at h
    refine j_iload g 3 rfl dX3_add_54 ?_
    refine j_if_le g dX3_add_56 (tgt := 97) (by decide) (fun c1 => ?_) (fun c1 => ?_)
    · replace h := h.1 c1
      refine j_sub [0, 2, 3] rfl ?_
      exact hX x5 pm h
    replace h := h.2 c1
    refine j_aload_n g 0 rfl dX3_add_59 ?_
    refine j_get g fl_X3_17 1 cg_1 rfl dX3_add_60 ?_
    refine j_iload g 3 rfl dX3_add_63 ?_
    refine j_iconst g (v := 1) (by decide) dX3_add_65 ?_
    refine j_isub g dX3_add_66 ?_
    obtain ⟨hv2, hv2p, h⟩ := h
    refine j_aald g 3 3 cg_3 rfl (by decide) hv2 rfl dX3_add_67 ?_
    refine j_get g fl_X3_41 (11 + (pm (x5 - (1 : Int32)).toNatClampNeg)) (cg_K hv2p) rfl dX3_add_68 ?_
    refine j_iload_n g 1 rfl dX3_add_71 ?_
    refine j_icmp_le g dX3_add_72 (tgt := 97) (by decide) (fun c3 => ?_) (fun c3 => ?_)
    · replace h := h.1 c3
      refine j_sub [0, 2, 3] rfl ?_
      exact hX x5 pm h
    replace h := h.2 c3
    refine j_aload_n g 0 rfl dX3_add_75 ?_
    refine j_get g fl_X3_17 1 cg_1 rfl dX3_add_76 ?_
    refine j_iload g 3 rfl dX3_add_79 ?_
    refine j_aload_n g 0 rfl dX3_add_81 ?_
    refine j_get g fl_X3_17 1 cg_1 rfl dX3_add_82 ?_
    refine j_iload g 3 rfl dX3_add_85 ?_
    refine j_iconst g (v := 1) (by decide) dX3_add_87 ?_
    refine j_isub g dX3_add_88 ?_
    obtain ⟨hv4, hv4p, h⟩ := h
    refine j_aald g 3 3 cg_3 rfl (by decide) hv4 rfl dX3_add_89 ?_
    obtain ⟨hv5, h⟩ := h
    refine j_aast g 3 3 (11 + (pm (x5 - (1 : Int32)).toNatClampNeg)) 0 cg_3 rfl (cg_K hv4p) rfl hv5 (ws' := (cgW a q sz pr (va_up pm x5.toNatClampNeg (pm (x5 - (1 : Int32)).toNatClampNeg)) kv kn kr kt kb ks kj kw kg wd fw ad bk md cr ow hd)) cg_s_pm dX3_add_90 ?_
    refine j_iinc g 3 (n := -1) (v := x5 + (-1 : Int32)) (lv' := [(5, .int (x5 + (-1 : Int32))), (0, .ref (a 1)), (1, .int x1), (4, .ref (a (11 + i4)))]) rfl rfl (by decide) rfl dX3_add_91 ?_
    refine j_goto g dX3_add_94 (tgt := 54) (by decide) ?_
    refine j_sub [1, 2, 3, 0] rfl ?_
    exact ih (x5 + (-1 : Int32)) (va_up pm x5.toNatClampNeg (pm (x5 - (1 : Int32)).toNatClampNeg)) h
set_option maxRecDepth 20000 in
set_option maxHeartbeats 4000000 in
theorem c_X3_add {a : Nat → Nat} {q : Nat → ClassId} {x1 : Int32} {x2 : Int32} {x3 : Int32} (hz3 : x3 = 0 ∨ x3 = 1) {sz : Int32} {pr : Nat → Int32} {pm : Nat → Nat} {kv : Nat → Int32} {kn : Nat → Int32} {kr : Nat → Int32} {kt : Nat → Int32} {kb : Nat → Int32} {ks : Nat → Int32} {kj : Nat → Int32} {kw : Nat → Int32} {kg : Nat → Int32} {wd : Nat → Nat → Int64} {fw : Nat → Nat → Int32} {ad : Nat → Int32} {bk : Nat → Int32} {md : Int32} {cr : Int32} {ow : Int32} {hd : Int32} {K : Int32 → Int32 → (Nat → Nat) → (Nat → Int32) → (Nat → Int32) → (Nat → Int32) → Prop} (h : wp_X3_add x1 x2 x3 sz pm kv kn kr K) : ctI_5 q yX3_add cX3_add 6 1 22 [.ref (a 1), .int x1, .int x2, .int x3] (cgW a q sz pr pm kv kn kr kt kb ks kj kw kg wd fw ad bk md cr ow hd) (fun (sz : Int32) (pm : Nat → Nat) (kv : Nat → Int32) (kn : Nat → Int32) (kr : Nat → Int32) => (cgW a q sz pr pm kv kn kr kt kb ks kj kw kg wd fw ad bk md cr ow hd)) K := by
  refine met_I_5 (by decide) (Nat.le_of_ble_eq_true rfl) (fun Γ g hret => ?_)
  unfold wp_X3_add at h
  show jw Γ 6 0 0 (cgW a q sz pr pm kv kn kr kt kb ks kj kw kg wd fw ad bk md cr ow hd) [(0, .ref (a 1)), (1, .int x1), (2, .int x2), (3, .int x3)] [] 0
  refine j_aload_n g 0 rfl dX3_add_0 ?_
  refine j_get g fl_X3_24 1 cg_1 rfl dX3_add_1 ?_
  refine j_bipush g (v := 6) (by decide) dX3_add_4 ?_
  refine j_icmp_ge g dX3_add_6 (tgt := 17) (by decide) (fun c1 => ?_) (fun c1 => ?_)
  · replace h := h.1 c1
    refine j_iconst g (v := -1) (by decide) dX3_add_17 ?_
    exact hret.go dX3_add_18 h
  replace h := h.2 c1
  refine j_aload_n g 0 rfl dX3_add_9 ?_
  refine j_iload_n g 1 rfl dX3_add_10 ?_
  refine j_callVZ_0 g (As := [.int x1]) (st := []) (c_X3_hasValue  h) cl_X3_37 1 3 cg_1 rfl rfl (Nat.le_of_ble_eq_true rfl) (Nat.le_of_ble_eq_true rfl) (Nat.zero_le _) (Nat.zero_le _) rfl rfl (Nat.le_of_ble_eq_true rfl) dX3_add_11 (fun r_2  hz_2 h => ?_)
  refine j_if_eq g dX3_add_14 (tgt := 19) (by decide) (fun c3 => ?_) (fun c3 => ?_)
  rotate_left
  · replace h := h.2 c3
    refine j_iconst g (v := -1) (by decide) dX3_add_17 ?_
    exact hret.go dX3_add_18 h
  replace h := h.1 c3
  refine j_aload_n g 0 rfl dX3_add_19 ?_
  refine j_get g fl_X3_11 1 cg_1 rfl dX3_add_20 ?_
  refine j_aload_n g 0 rfl dX3_add_23 ?_
  refine j_get g fl_X3_24 1 cg_1 rfl dX3_add_24 ?_
  obtain ⟨hv4, h⟩ := h
  refine j_aald g 2 3 cg_2 rfl (by decide) hv4 rfl dX3_add_27 ?_
  refine j_astore g (lv' := [(4, .ref (a (11 + sz.toNatClampNeg))), (0, .ref (a 1)), (1, .int x1), (2, .int x2), (3, .int x3)]) (by decide) rfl dX3_add_28 ?_
  refine j_aload g 0 rfl dX3_add_30 ?_
  refine j_iload_n g 2 rfl dX3_add_32 ?_
  refine j_put g fl_X3_41 fp_X0_0 (11 + sz.toNatClampNeg) (cg_K (vp_lt hv4)) rfl rfl (Nat.le_of_ble_eq_true rfl) (ws' := (cgW a q sz pr pm (upd kv sz.toNatClampNeg x1) kn kr kt kb ks kj kw kg wd fw ad bk md cr ow hd)) (cg_s_kv (vp_lt hv4)) dX3_add_33 ?_
  refine j_aload g 0 rfl dX3_add_36 ?_
  refine j_iload_n g 3 rfl dX3_add_38 ?_
  refine j_put g fl_X3_44 fp_X0_2 (11 + sz.toNatClampNeg) (cg_K (vp_lt hv4)) rfl rfl (Nat.le_of_ble_eq_true rfl) (ws' := (cgW a q sz pr pm (upd kv sz.toNatClampNeg x1) kn (upd kr sz.toNatClampNeg x2) kt kb ks kj kw kg wd fw ad bk md cr ow hd)) (cg_s_kr (vp_lt hv4)) dX3_add_39 ?_
  refine j_aload g 0 rfl dX3_add_42 ?_
  refine j_iload_n g 4 rfl dX3_add_44 ?_
  refine j_put g fl_X3_33 fp_X0_1 (11 + sz.toNatClampNeg) (cg_K (vp_lt hv4)) (nz_z hz3) (nz_f hz3) (Nat.le_of_ble_eq_true rfl) (ws' := (cgW a q sz pr pm (upd kv sz.toNatClampNeg x1) (upd kn sz.toNatClampNeg x3) (upd kr sz.toNatClampNeg x2) kt kb ks kj kw kg wd fw ad bk md cr ow hd)) (cg_s_kn (vp_lt hv4)) dX3_add_45 ?_
  refine j_aload_n g 1 rfl dX3_add_48 ?_
  refine j_get g fl_X3_24 1 cg_1 rfl dX3_add_49 ?_
  refine j_istore g (lv' := [(5, .int sz), (4, .ref (a (11 + sz.toNatClampNeg))), (0, .ref (a 1)), (1, .int x1), (2, .int x2), (3, .int x3)]) (by decide) rfl dX3_add_52 ?_
  obtain ⟨n5, h⟩ := h
  refine j_sub [2, 3, 1, 0] rfl ?_
  refine wk_X3_add_54 (vp_lt hv4) g hret (fun x5_5 pm_5 h => ?_) n5 sz pm h
  refine j_aload_n g 0 rfl dX3_add_97 ?_
  refine j_get g fl_X3_17 1 cg_1 rfl dX3_add_98 ?_
  refine j_iload g 2 rfl dX3_add_101 ?_
  refine j_aload g 1 rfl dX3_add_103 ?_
  obtain ⟨hv6, h⟩ := h
  refine j_aast g 3 3 (11 + sz.toNatClampNeg) 0 cg_3 rfl (cg_K (vp_lt hv4)) rfl hv6 (ws' := (cgW a q sz pr (va_up pm_5 x5_5.toNatClampNeg sz.toNatClampNeg) (upd kv sz.toNatClampNeg x1) (upd kn sz.toNatClampNeg x3) (upd kr sz.toNatClampNeg x2) kt kb ks kj kw kg wd fw ad bk md cr ow hd)) cg_s_pm dX3_add_105 ?_
  refine j_aload_n g 0 rfl dX3_add_106 ?_
  refine j_dup g rfl dX3_add_107 ?_
  refine j_get g fl_X3_24 1 cg_1 rfl dX3_add_108 ?_
  refine j_iconst g (v := 1) (by decide) dX3_add_111 ?_
  refine j_iadd g dX3_add_112 ?_
  refine j_put g fl_X3_24 fp_X3_3 1 cg_1 rfl rfl (Nat.le_of_ble_eq_true rfl) (ws' := (cgW a q (sz + (1 : Int32)) pr (va_up pm_5 x5_5.toNatClampNeg sz.toNatClampNeg) (upd kv sz.toNatClampNeg x1) (upd kn sz.toNatClampNeg x3) (upd kr sz.toNatClampNeg x2) kt kb ks kj kw kg wd fw ad bk md cr ow hd)) rfl dX3_add_113 ?_
  refine j_aload_n g 0 rfl dX3_add_116 ?_
  refine j_get g fl_X3_24 1 cg_1 rfl dX3_add_117 ?_
  refine j_iconst g (v := 1) (by decide) dX3_add_120 ?_
  refine j_isub g dX3_add_121 ?_
  exact hret.go dX3_add_122 h

set_option maxRecDepth 20000 in
def wp_X3_fewestInTube_4  (sz : Int32) (kn : Nat → Int32) (kt : Nat → Int32) (ks : Nat → Int32) (K : Int32 → Prop) (X : Int32 → Prop) : Nat → Int32 → Int32 → Prop
  | 0, _, _ => False
  | n + 1, x1, x2 => ((sz ≤ x2 → X x1) ∧ (¬ sz ≤ x2 → (vp_in x2 6 ∧ wp_X0_gives x2.toNatClampNeg kn ks (fun (r_3 : Int32)  => ((r_3 = 0 → wp_X3_fewestInTube_4 sz kn kt ks K X n x1 (x2 + 1)) ∧ (¬ r_3 = 0 → ((x1 = (-1 : Int32) → wp_X3_fewestInTube_4 sz kn kt ks K X n (kt x2.toNatClampNeg) (x2 + 1)) ∧ (¬ x1 = (-1 : Int32) → ((x1 ≤ kt x2.toNatClampNeg → wp_X3_fewestInTube_4 sz kn kt ks K X n x1 (x2 + 1)) ∧ (¬ x1 ≤ kt x2.toNatClampNeg → wp_X3_fewestInTube_4 sz kn kt ks K X n (kt x2.toNatClampNeg) (x2 + 1)))))))))))
set_option maxRecDepth 20000 in
def wp_X3_fewestInTube  (sz : Int32) (kn : Nat → Int32) (kt : Nat → Int32) (ks : Nat → Int32) (K : Int32 → Prop) : Prop :=
  ∃ n1 : Nat, wp_X3_fewestInTube_4 sz kn kt ks K (fun (x1_1 : Int32) => K (if (0 : Int32) < x1_1 then x1_1 else (0 : Int32))) n1 (-1 : Int32) (0 : Int32)
theorem dX3_fewestInTube_0 : decode cX3_fewestInTube 0 = .ok (.iconst (-1), 1) := by decide +kernel
theorem dX3_fewestInTube_1 : decode cX3_fewestInTube 1 = .ok (.istore_n 1, 1) := by decide +kernel
theorem dX3_fewestInTube_2 : decode cX3_fewestInTube 2 = .ok (.iconst 0, 1) := by decide +kernel
theorem dX3_fewestInTube_3 : decode cX3_fewestInTube 3 = .ok (.istore_n 2, 1) := by decide +kernel
theorem dX3_fewestInTube_4 : decode cX3_fewestInTube 4 = .ok (.iload_n 2, 1) := by decide +kernel
theorem dX3_fewestInTube_5 : decode cX3_fewestInTube 5 = .ok (.aload_n 0, 1) := by decide +kernel
theorem dX3_fewestInTube_6 : decode cX3_fewestInTube 6 = .ok (.getfield 24, 3) := by decide +kernel
theorem dX3_fewestInTube_9 : decode cX3_fewestInTube 9 = .ok (.if_icmp .ge 41, 3) := by decide +kernel
theorem dX3_fewestInTube_12 : decode cX3_fewestInTube 12 = .ok (.aload_n 0, 1) := by decide +kernel
theorem dX3_fewestInTube_13 : decode cX3_fewestInTube 13 = .ok (.getfield 11, 3) := by decide +kernel
theorem dX3_fewestInTube_16 : decode cX3_fewestInTube 16 = .ok (.iload_n 2, 1) := by decide +kernel
theorem dX3_fewestInTube_17 : decode cX3_fewestInTube 17 = .ok (.aaload, 1) := by decide +kernel
theorem dX3_fewestInTube_18 : decode cX3_fewestInTube 18 = .ok (.astore_n 3, 1) := by decide +kernel
theorem dX3_fewestInTube_19 : decode cX3_fewestInTube 19 = .ok (.aload_n 3, 1) := by decide +kernel
theorem dX3_fewestInTube_20 : decode cX3_fewestInTube 20 = .ok (.invokevirtual 47, 3) := by decide +kernel
theorem dX3_fewestInTube_23 : decode cX3_fewestInTube 23 = .ok (.ifCond .eq 21, 3) := by decide +kernel
theorem dX3_fewestInTube_26 : decode cX3_fewestInTube 26 = .ok (.iload_n 1, 1) := by decide +kernel
theorem dX3_fewestInTube_27 : decode cX3_fewestInTube 27 = .ok (.iconst (-1), 1) := by decide +kernel
theorem dX3_fewestInTube_28 : decode cX3_fewestInTube 28 = .ok (.if_icmp .eq 11, 3) := by decide +kernel
theorem dX3_fewestInTube_31 : decode cX3_fewestInTube 31 = .ok (.aload_n 3, 1) := by decide +kernel
theorem dX3_fewestInTube_32 : decode cX3_fewestInTube 32 = .ok (.getfield 51, 3) := by decide +kernel
theorem dX3_fewestInTube_35 : decode cX3_fewestInTube 35 = .ok (.iload_n 1, 1) := by decide +kernel
theorem dX3_fewestInTube_36 : decode cX3_fewestInTube 36 = .ok (.if_icmp .ge 8, 3) := by decide +kernel
theorem dX3_fewestInTube_39 : decode cX3_fewestInTube 39 = .ok (.aload_n 3, 1) := by decide +kernel
theorem dX3_fewestInTube_40 : decode cX3_fewestInTube 40 = .ok (.getfield 51, 3) := by decide +kernel
theorem dX3_fewestInTube_43 : decode cX3_fewestInTube 43 = .ok (.istore_n 1, 1) := by decide +kernel
theorem dX3_fewestInTube_44 : decode cX3_fewestInTube 44 = .ok (.iinc 2 1, 3) := by decide +kernel
theorem dX3_fewestInTube_47 : decode cX3_fewestInTube 47 = .ok (.goto (-43), 3) := by decide +kernel
theorem dX3_fewestInTube_50 : decode cX3_fewestInTube 50 = .ok (.iconst 0, 1) := by decide +kernel
theorem dX3_fewestInTube_51 : decode cX3_fewestInTube 51 = .ok (.iload_n 1, 1) := by decide +kernel
theorem dX3_fewestInTube_52 : decode cX3_fewestInTube 52 = .ok (.invokestatic 54, 3) := by decide +kernel
theorem dX3_fewestInTube_55 : decode cX3_fewestInTube 55 = .ok (.ireturn, 1) := by decide +kernel
set_option maxRecDepth 20000 in
set_option maxHeartbeats 4000000 in
theorem wk_X3_fewestInTube_4 {Γ : GT} {a : Nat → Nat} {q : Nat → ClassId}   {sz : Int32} {pr : Nat → Int32} {pm : Nat → Nat} {kv : Nat → Int32} {kn : Nat → Int32} {kr : Nat → Int32} {kt : Nat → Int32} {kb : Nat → Int32} {ks : Nat → Int32} {kj : Nat → Int32} {kw : Nat → Int32} {kg : Nat → Int32} {wd : Nat → Nat → Int64} {fw : Nat → Nat → Int32} {ad : Nat → Int32} {bk : Nat → Int32} {md : Int32} {cr : Int32} {ow : Int32} {hd : Int32} {K : Int32 → Prop} {X : Int32 → Prop} (g : gd Γ cX3_fewestInTube RX3 4 (rmz 1 21) q) (hret : rtI_0 Γ cX3_fewestInTube 4 (cgW a q sz pr pm kv kn kr kt kb ks kj kw kg wd fw ad bk md cr ow hd) K) (hX : ∀ (x1 : Int32) , X x1 → jw Γ 4 0 0 (cgW a q sz pr pm kv kn kr kt kb ks kj kw kg wd fw ad bk md cr ow hd) [(1, .int x1)] [] 50) :
    ∀ (n : Nat) (x1 : Int32) (x2 : Int32) , wp_X3_fewestInTube_4 sz kn kt ks K X n x1 x2 → jw Γ 4 0 0 (cgW a q sz pr pm kv kn kr kt kb ks kj kw kg wd fw ad bk md cr ow hd) [(0, .ref (a 1)), (1, .int x1), (2, .int x2)] [] 4 := by
  intro n
  induction n with
  | zero =>
    intro _ _ h
    exact False.elim h
  | succ n ih =>
    intro x1 x2 h
    unfold wp_X3_fewestInTube_4 at h
    refine j_iload_n g 2 rfl dX3_fewestInTube_4 ?_
    refine j_aload_n g 0 rfl dX3_fewestInTube_5 ?_
    refine j_get g fl_X3_24 1 cg_1 rfl dX3_fewestInTube_6 ?_
    refine j_icmp_ge g dX3_fewestInTube_9 (tgt := 50) (by decide) (fun c1 => ?_) (fun c1 => ?_)
    · replace h := h.1 c1
      refine j_sub [1] rfl ?_
      exact hX x1 h
    replace h := h.2 c1
    refine j_aload_n g 0 rfl dX3_fewestInTube_12 ?_
    refine j_get g fl_X3_11 1 cg_1 rfl dX3_fewestInTube_13 ?_
    refine j_iload_n g 2 rfl dX3_fewestInTube_16 ?_
    obtain ⟨hv2, h⟩ := h
    refine j_aald g 2 3 cg_2 rfl (by decide) hv2 rfl dX3_fewestInTube_17 ?_
    refine j_astore_n g (lv' := [(3, .ref (a (11 + x2.toNatClampNeg))), (0, .ref (a 1)), (1, .int x1), (2, .int x2)]) (by decide) rfl dX3_fewestInTube_18 ?_
    refine j_aload_n g 0 rfl dX3_fewestInTube_19 ?_
    refine j_callVZ_0 g (As := []) (st := []) (c_X0_gives (vp_lt hv2) h) cl_X3_47 (11 + x2.toNatClampNeg) 0 (cg_K (vp_lt hv2)) rfl rfl (Nat.le_of_ble_eq_true rfl) (Nat.le_of_ble_eq_true rfl) (Nat.zero_le _) (Nat.zero_le _) rfl rfl (Nat.le_of_ble_eq_true rfl) dX3_fewestInTube_20 (fun r_3  hz_3 h => ?_)
    refine j_if_eq g dX3_fewestInTube_23 (tgt := 44) (by decide) (fun c4 => ?_) (fun c4 => ?_)
    · replace h := h.1 c4
      refine j_iinc g 3 (n := 1) (v := x2 + 1) (lv' := [(2, .int (x2 + 1)), (3, .ref (a (11 + x2.toNatClampNeg))), (0, .ref (a 1)), (1, .int x1)]) rfl rfl (by decide) rfl dX3_fewestInTube_44 ?_
      refine j_goto g dX3_fewestInTube_47 (tgt := 4) (by decide) ?_
      refine j_sub [2, 3, 0] rfl ?_
      exact ih x1 (x2 + 1) h
    replace h := h.2 c4
    refine j_iload_n g 2 rfl dX3_fewestInTube_26 ?_
    refine j_iconst g (v := -1) (by decide) dX3_fewestInTube_27 ?_
    refine j_icmp_eq g dX3_fewestInTube_28 (tgt := 39) (by decide) (fun c5 => ?_) (fun c5 => ?_)
    · replace h := h.1 c5
      refine j_aload_n g 0 rfl dX3_fewestInTube_39 ?_
      refine j_get g fl_X3_51 (11 + x2.toNatClampNeg) (cg_K (vp_lt hv2)) rfl dX3_fewestInTube_40 ?_
      refine j_istore_n g (lv' := [(1, .int (kt x2.toNatClampNeg)), (3, .ref (a (11 + x2.toNatClampNeg))), (0, .ref (a 1)), (2, .int x2)]) (by decide) rfl dX3_fewestInTube_43 ?_
      refine j_iinc g 3 (n := 1) (v := x2 + 1) (lv' := [(2, .int (x2 + 1)), (1, .int (kt x2.toNatClampNeg)), (3, .ref (a (11 + x2.toNatClampNeg))), (0, .ref (a 1))]) rfl rfl (by decide) rfl dX3_fewestInTube_44 ?_
      refine j_goto g dX3_fewestInTube_47 (tgt := 4) (by decide) ?_
      refine j_sub [3, 1, 0] rfl ?_
      exact ih (kt x2.toNatClampNeg) (x2 + 1) h
    replace h := h.2 c5
    refine j_aload_n g 0 rfl dX3_fewestInTube_31 ?_
    refine j_get g fl_X3_51 (11 + x2.toNatClampNeg) (cg_K (vp_lt hv2)) rfl dX3_fewestInTube_32 ?_
    refine j_iload_n g 2 rfl dX3_fewestInTube_35 ?_
    refine j_icmp_ge g dX3_fewestInTube_36 (tgt := 44) (by decide) (fun c6 => ?_) (fun c6 => ?_)
    · replace h := h.1 c6
      refine j_iinc g 3 (n := 1) (v := x2 + 1) (lv' := [(2, .int (x2 + 1)), (3, .ref (a (11 + x2.toNatClampNeg))), (0, .ref (a 1)), (1, .int x1)]) rfl rfl (by decide) rfl dX3_fewestInTube_44 ?_
      refine j_goto g dX3_fewestInTube_47 (tgt := 4) (by decide) ?_
      refine j_sub [2, 3, 0] rfl ?_
      exact ih x1 (x2 + 1) h
    replace h := h.2 c6
    refine j_aload_n g 0 rfl dX3_fewestInTube_39 ?_
    refine j_get g fl_X3_51 (11 + x2.toNatClampNeg) (cg_K (vp_lt hv2)) rfl dX3_fewestInTube_40 ?_
    refine j_istore_n g (lv' := [(1, .int (kt x2.toNatClampNeg)), (3, .ref (a (11 + x2.toNatClampNeg))), (0, .ref (a 1)), (2, .int x2)]) (by decide) rfl dX3_fewestInTube_43 ?_
    refine j_iinc g 3 (n := 1) (v := x2 + 1) (lv' := [(2, .int (x2 + 1)), (1, .int (kt x2.toNatClampNeg)), (3, .ref (a (11 + x2.toNatClampNeg))), (0, .ref (a 1))]) rfl rfl (by decide) rfl dX3_fewestInTube_44 ?_
    refine j_goto g dX3_fewestInTube_47 (tgt := 4) (by decide) ?_
    refine j_sub [3, 1, 0] rfl ?_
    exact ih (kt x2.toNatClampNeg) (x2 + 1) h
set_option maxRecDepth 20000 in
set_option maxHeartbeats 4000000 in
theorem c_X3_fewestInTube {a : Nat → Nat} {q : Nat → ClassId}   {sz : Int32} {pr : Nat → Int32} {pm : Nat → Nat} {kv : Nat → Int32} {kn : Nat → Int32} {kr : Nat → Int32} {kt : Nat → Int32} {kb : Nat → Int32} {ks : Nat → Int32} {kj : Nat → Int32} {kw : Nat → Int32} {kg : Nat → Int32} {wd : Nat → Nat → Int64} {fw : Nat → Nat → Int32} {ad : Nat → Int32} {bk : Nat → Int32} {md : Int32} {cr : Int32} {ow : Int32} {hd : Int32} {K : Int32 → Prop} (h : wp_X3_fewestInTube sz kn kt ks K) : ctI_0 q yX3_fewestInTube cX3_fewestInTube 4 1 21 [.ref (a 1)] (cgW a q sz pr pm kv kn kr kt kb ks kj kw kg wd fw ad bk md cr ow hd) (cgW a q sz pr pm kv kn kr kt kb ks kj kw kg wd fw ad bk md cr ow hd) K := by
  refine met_I_0 (by decide) (Nat.le_of_ble_eq_true rfl) (fun Γ g hret => ?_)
  unfold wp_X3_fewestInTube at h
  show jw Γ 4 0 0 (cgW a q sz pr pm kv kn kr kt kb ks kj kw kg wd fw ad bk md cr ow hd) [(0, .ref (a 1))] [] 0
  refine j_iconst g (v := -1) (by decide) dX3_fewestInTube_0 ?_
  refine j_istore_n g (lv' := [(1, .int (-1 : Int32)), (0, .ref (a 1))]) (by decide) rfl dX3_fewestInTube_1 ?_
  refine j_iconst g (v := 0) (by decide) dX3_fewestInTube_2 ?_
  refine j_istore_n g (lv' := [(2, .int (0 : Int32)), (1, .int (-1 : Int32)), (0, .ref (a 1))]) (by decide) rfl dX3_fewestInTube_3 ?_
  obtain ⟨n1, h⟩ := h
  refine j_sub [2, 1, 0] rfl ?_
  refine wk_X3_fewestInTube_4  g hret (fun x1_1 h => ?_) n1 (-1 : Int32) (0 : Int32) h
  refine j_iconst g (v := 0) (by decide) dX3_fewestInTube_50 ?_
  refine j_iload_n g 0 rfl dX3_fewestInTube_51 ?_
  refine j_mmax g lm_X3_54 lm_max_s lm_i lm_max_c (Nat.le_of_ble_eq_true rfl) (Nat.le_of_ble_eq_true rfl) (Nat.zero_le _) (Nat.zero_le _) dX3_fewestInTube_52 ?_
  exact hret.go dX3_fewestInTube_55 h

set_option maxRecDepth 20000 in
def wp_X3_collect_6 (i1 : Nat) (x2 : Int32) (sz : Int32) (kv : Nat → Int32) (kn : Nat → Int32) (kt : Nat → Int32) (ks : Nat → Int32) (K : (Nat → Nat → Int64) → Prop) (X : (Nat → Nat → Int64) → Prop) : Nat → Int32 → (Nat → Nat → Int64) → Prop
  | 0, _, _ => False
  | n + 1, x3, wd => ((sz ≤ x3 → X wd) ∧ (¬ sz ≤ x3 → (vp_in x3 6 ∧ (vp_in x3 6 ∧ wp_X0_spare x3.toNatClampNeg x2 kn kt ks (fun (r_4 : Int32)  => wp_X2_addCoins i1 (kv x3.toNatClampNeg) r_4 wd (fun (wd_5 : Nat → Nat → Int64) => wp_X3_collect_6 i1 x2 sz kv kn kt ks K X n (x3 + 1) wd_5))))))
set_option maxRecDepth 20000 in
def wp_X3_collect (j1 : Nat) (x2 : Int32) (sz : Int32) (kv : Nat → Int32) (kn : Nat → Int32) (kt : Nat → Int32) (ks : Nat → Int32) (wd : Nat → Nat → Int64) (K : (Nat → Nat → Int64) → Prop) : Prop :=
  wp_X2_onlyZero j1 wd (fun (wd_1 : Nat → Nat → Int64) => ∃ n2 : Nat, wp_X3_collect_6 j1 x2 sz kv kn kt ks K (fun (wd_2 : Nat → Nat → Int64) => K wd_2) n2 (0 : Int32) wd_1)
theorem dX3_collect_0 : decode cX3_collect 0 = .ok (.aload_n 1, 1) := by decide +kernel
theorem dX3_collect_1 : decode cX3_collect 1 = .ok (.invokevirtual 60, 3) := by decide +kernel
theorem dX3_collect_4 : decode cX3_collect 4 = .ok (.iconst 0, 1) := by decide +kernel
theorem dX3_collect_5 : decode cX3_collect 5 = .ok (.istore_n 3, 1) := by decide +kernel
theorem dX3_collect_6 : decode cX3_collect 6 = .ok (.iload_n 3, 1) := by decide +kernel
theorem dX3_collect_7 : decode cX3_collect 7 = .ok (.aload_n 0, 1) := by decide +kernel
theorem dX3_collect_8 : decode cX3_collect 8 = .ok (.getfield 24, 3) := by decide +kernel
theorem dX3_collect_11 : decode cX3_collect 11 = .ok (.if_icmp .ge 32, 3) := by decide +kernel
theorem dX3_collect_14 : decode cX3_collect 14 = .ok (.aload_n 1, 1) := by decide +kernel
theorem dX3_collect_15 : decode cX3_collect 15 = .ok (.aload_n 0, 1) := by decide +kernel
theorem dX3_collect_16 : decode cX3_collect 16 = .ok (.getfield 11, 3) := by decide +kernel
theorem dX3_collect_19 : decode cX3_collect 19 = .ok (.iload_n 3, 1) := by decide +kernel
theorem dX3_collect_20 : decode cX3_collect 20 = .ok (.aaload, 1) := by decide +kernel
theorem dX3_collect_21 : decode cX3_collect 21 = .ok (.getfield 41, 3) := by decide +kernel
theorem dX3_collect_24 : decode cX3_collect 24 = .ok (.aload_n 0, 1) := by decide +kernel
theorem dX3_collect_25 : decode cX3_collect 25 = .ok (.getfield 11, 3) := by decide +kernel
theorem dX3_collect_28 : decode cX3_collect 28 = .ok (.iload_n 3, 1) := by decide +kernel
theorem dX3_collect_29 : decode cX3_collect 29 = .ok (.aaload, 1) := by decide +kernel
theorem dX3_collect_30 : decode cX3_collect 30 = .ok (.iload_n 2, 1) := by decide +kernel
theorem dX3_collect_31 : decode cX3_collect 31 = .ok (.invokevirtual 65, 3) := by decide +kernel
theorem dX3_collect_34 : decode cX3_collect 34 = .ok (.invokevirtual 69, 3) := by decide +kernel
theorem dX3_collect_37 : decode cX3_collect 37 = .ok (.iinc 3 1, 3) := by decide +kernel
theorem dX3_collect_40 : decode cX3_collect 40 = .ok (.goto (-34), 3) := by decide +kernel
theorem dX3_collect_43 : decode cX3_collect 43 = .ok (.return_, 1) := by decide +kernel
set_option maxRecDepth 20000 in
set_option maxHeartbeats 4000000 in
theorem wk_X3_collect_6 {Γ : GT} {a : Nat → Nat} {q : Nat → ClassId} {i1 : Nat} {x2 : Int32} (hi1 : i1 < 6) {sz : Int32} {pr : Nat → Int32} {pm : Nat → Nat} {kv : Nat → Int32} {kn : Nat → Int32} {kr : Nat → Int32} {kt : Nat → Int32} {kb : Nat → Int32} {ks : Nat → Int32} {kj : Nat → Int32} {kw : Nat → Int32} {kg : Nat → Int32} {fw : Nat → Nat → Int32} {ad : Nat → Int32} {bk : Nat → Int32} {md : Int32} {cr : Int32} {ow : Int32} {hd : Int32} {K : (Nat → Nat → Int64) → Prop} {X : (Nat → Nat → Int64) → Prop} (g : gd Γ cX3_collect RX3 4 (rmz 2 51) q) (hret : rtV_1 Γ cX3_collect 4 (fun (wd : Nat → Nat → Int64) => (cgW a q sz pr pm kv kn kr kt kb ks kj kw kg wd fw ad bk md cr ow hd)) K) (hX : ∀ (wd : Nat → Nat → Int64) , X wd → jw Γ 4 0 0 (cgW a q sz pr pm kv kn kr kt kb ks kj kw kg wd fw ad bk md cr ow hd) [] [] 43) :
    ∀ (n : Nat) (x3 : Int32) (wd : Nat → Nat → Int64) , wp_X3_collect_6 i1 x2 sz kv kn kt ks K X n x3 wd → jw Γ 4 0 0 (cgW a q sz pr pm kv kn kr kt kb ks kj kw kg wd fw ad bk md cr ow hd) [(0, .ref (a 1)), (1, .ref (a (17 + i1))), (2, .int x2), (3, .int x3)] [] 6 := by
  intro n
  induction n with
  | zero =>
    intro _ _ h
    exact False.elim h
  | succ n ih =>
    intro x3 wd h
    unfold wp_X3_collect_6 at h
    refine j_iload_n g 3 rfl dX3_collect_6 ?_
    refine j_aload_n g 0 rfl dX3_collect_7 ?_
    refine j_get g fl_X3_24 1 cg_1 rfl dX3_collect_8 ?_
    refine j_icmp_ge g dX3_collect_11 (tgt := 43) (by decide) (fun c1 => ?_) (fun c1 => ?_)
    · replace h := h.1 c1
      refine j_sub [] rfl ?_
      exact hX wd h
    replace h := h.2 c1
    refine j_aload_n g 1 rfl dX3_collect_14 ?_
    refine j_aload_n g 0 rfl dX3_collect_15 ?_
    refine j_get g fl_X3_11 1 cg_1 rfl dX3_collect_16 ?_
    refine j_iload_n g 3 rfl dX3_collect_19 ?_
    obtain ⟨hv2, h⟩ := h
    refine j_aald g 2 3 cg_2 rfl (by decide) hv2 rfl dX3_collect_20 ?_
    refine j_get g fl_X3_41 (11 + x3.toNatClampNeg) (cg_K (vp_lt hv2)) rfl dX3_collect_21 ?_
    refine j_aload_n g 0 rfl dX3_collect_24 ?_
    refine j_get g fl_X3_11 1 cg_1 rfl dX3_collect_25 ?_
    refine j_iload_n g 3 rfl dX3_collect_28 ?_
    obtain ⟨hv3, h⟩ := h
    refine j_aald g 2 3 cg_2 rfl (by decide) hv3 rfl dX3_collect_29 ?_
    refine j_iload_n g 2 rfl dX3_collect_30 ?_
    refine j_callVI_0 g (As := [.int x2]) (st := [.int (kv x3.toNatClampNeg), .ref (a (17 + i1))]) (c_X0_spare (vp_lt hv3) h) cl_X3_65 (11 + x3.toNatClampNeg) 0 (cg_K (vp_lt hv3)) rfl rfl (Nat.le_of_ble_eq_true rfl) (Nat.le_of_ble_eq_true rfl) (Nat.zero_le _) (Nat.zero_le _) rfl rfl (Nat.le_of_ble_eq_true rfl) dX3_collect_31 (fun r_4   h => ?_)
    refine j_callVV_1 g (As := [.int (kv x3.toNatClampNeg), .int r_4]) (st := []) (c_X2_addCoins hi1 h) cl_X3_69 (17 + i1) 2 (cg_S hi1) rfl rfl (Nat.le_of_ble_eq_true rfl) (Nat.le_of_ble_eq_true rfl) (Nat.zero_le _) (Nat.zero_le _) rfl rfl (Nat.le_of_ble_eq_true rfl) dX3_collect_34 (fun wd_5 h => ?_)
    refine j_ws (ws' := (cgW a q sz pr pm kv kn kr kt kb ks kj kw kg wd_5 fw ad bk md cr ow hd)) rfl ?_
    refine j_iinc g 3 (n := 1) (v := x3 + 1) (lv' := [(3, .int (x3 + 1)), (0, .ref (a 1)), (1, .ref (a (17 + i1))), (2, .int x2)]) rfl rfl (by decide) rfl dX3_collect_37 ?_
    refine j_goto g dX3_collect_40 (tgt := 6) (by decide) ?_
    refine j_sub [1, 2, 3, 0] rfl ?_
    exact ih (x3 + 1) wd_5 h
set_option maxRecDepth 20000 in
set_option maxHeartbeats 4000000 in
theorem c_X3_collect {a : Nat → Nat} {q : Nat → ClassId} {j1 : Nat} {x2 : Int32} (hj1 : j1 < 6) {sz : Int32} {pr : Nat → Int32} {pm : Nat → Nat} {kv : Nat → Int32} {kn : Nat → Int32} {kr : Nat → Int32} {kt : Nat → Int32} {kb : Nat → Int32} {ks : Nat → Int32} {kj : Nat → Int32} {kw : Nat → Int32} {kg : Nat → Int32} {wd : Nat → Nat → Int64} {fw : Nat → Nat → Int32} {ad : Nat → Int32} {bk : Nat → Int32} {md : Int32} {cr : Int32} {ow : Int32} {hd : Int32} {K : (Nat → Nat → Int64) → Prop} (h : wp_X3_collect j1 x2 sz kv kn kt ks wd K) : ctV_1 q yX3_collect cX3_collect 4 2 51 [.ref (a 1), .ref (a (17 + j1)), .int x2] (cgW a q sz pr pm kv kn kr kt kb ks kj kw kg wd fw ad bk md cr ow hd) (fun (wd : Nat → Nat → Int64) => (cgW a q sz pr pm kv kn kr kt kb ks kj kw kg wd fw ad bk md cr ow hd)) K := by
  refine met_V_1 (by decide) (Nat.le_of_ble_eq_true rfl) (fun Γ g hret => ?_)
  unfold wp_X3_collect at h
  show jw Γ 4 0 0 (cgW a q sz pr pm kv kn kr kt kb ks kj kw kg wd fw ad bk md cr ow hd) [(0, .ref (a 1)), (1, .ref (a (17 + j1))), (2, .int x2)] [] 0
  refine j_aload_n g 1 rfl dX3_collect_0 ?_
  refine j_callVV_1 g (As := []) (st := []) (c_X2_onlyZero hj1 h) cl_X3_60 (17 + j1) 2 (cg_S hj1) rfl rfl (Nat.le_of_ble_eq_true rfl) (Nat.le_of_ble_eq_true rfl) (Nat.zero_le _) (Nat.zero_le _) rfl rfl (Nat.le_of_ble_eq_true rfl) dX3_collect_1 (fun wd_1 h => ?_)
  refine j_ws (ws' := (cgW a q sz pr pm kv kn kr kt kb ks kj kw kg wd_1 fw ad bk md cr ow hd)) rfl ?_
  refine j_iconst g (v := 0) (by decide) dX3_collect_4 ?_
  refine j_istore_n g (lv' := [(3, .int (0 : Int32)), (0, .ref (a 1)), (1, .ref (a (17 + j1))), (2, .int x2)]) (by decide) rfl dX3_collect_5 ?_
  obtain ⟨n2, h⟩ := h
  refine j_sub [1, 2, 3, 0] rfl ?_
  refine wk_X3_collect_6 hj1 g hret (fun wd_2 h => ?_) n2 (0 : Int32) wd_1 h
  exact hret.go dX3_collect_43 h

set_option maxRecDepth 20000 in
def wp_X3_collectOneOfEach_2 (i1 : Nat) (sz : Int32) (kv : Nat → Int32) (kn : Nat → Int32) (ks : Nat → Int32) (K : (Nat → Nat → Int64) → Prop) (X : (Nat → Nat → Int64) → Prop) : Nat → Int32 → (Nat → Nat → Int64) → Prop
  | 0, _, _ => False
  | n + 1, x2, wd => ((sz ≤ x2 → X wd) ∧ (¬ sz ≤ x2 → (vp_in x2 6 ∧ wp_X0_gives x2.toNatClampNeg kn ks (fun (r_3 : Int32)  => ((r_3 = 0 → wp_X3_collectOneOfEach_2 i1 sz kv kn ks K X n (x2 + 1) wd) ∧ (¬ r_3 = 0 → (vp_in x2 6 ∧ wp_X2_addCoins i1 (kv x2.toNatClampNeg) (1 : Int32) wd (fun (wd_6 : Nat → Nat → Int64) => wp_X3_collectOneOfEach_2 i1 sz kv kn ks K X n (x2 + 1) wd_6))))))))
set_option maxRecDepth 20000 in
def wp_X3_collectOneOfEach (j1 : Nat) (sz : Int32) (kv : Nat → Int32) (kn : Nat → Int32) (ks : Nat → Int32) (wd : Nat → Nat → Int64) (K : (Nat → Nat → Int64) → Prop) : Prop :=
  ∃ n1 : Nat, wp_X3_collectOneOfEach_2 j1 sz kv kn ks K (fun (wd_1 : Nat → Nat → Int64) => K wd_1) n1 (0 : Int32) wd
theorem dX3_collectOneOfEach_0 : decode cX3_collectOneOfEach 0 = .ok (.iconst 0, 1) := by decide +kernel
theorem dX3_collectOneOfEach_1 : decode cX3_collectOneOfEach 1 = .ok (.istore_n 2, 1) := by decide +kernel
theorem dX3_collectOneOfEach_2 : decode cX3_collectOneOfEach 2 = .ok (.iload_n 2, 1) := by decide +kernel
theorem dX3_collectOneOfEach_3 : decode cX3_collectOneOfEach 3 = .ok (.aload_n 0, 1) := by decide +kernel
theorem dX3_collectOneOfEach_4 : decode cX3_collectOneOfEach 4 = .ok (.getfield 24, 3) := by decide +kernel
theorem dX3_collectOneOfEach_7 : decode cX3_collectOneOfEach 7 = .ok (.if_icmp .ge 35, 3) := by decide +kernel
theorem dX3_collectOneOfEach_10 : decode cX3_collectOneOfEach 10 = .ok (.aload_n 0, 1) := by decide +kernel
theorem dX3_collectOneOfEach_11 : decode cX3_collectOneOfEach 11 = .ok (.getfield 11, 3) := by decide +kernel
theorem dX3_collectOneOfEach_14 : decode cX3_collectOneOfEach 14 = .ok (.iload_n 2, 1) := by decide +kernel
theorem dX3_collectOneOfEach_15 : decode cX3_collectOneOfEach 15 = .ok (.aaload, 1) := by decide +kernel
theorem dX3_collectOneOfEach_16 : decode cX3_collectOneOfEach 16 = .ok (.invokevirtual 47, 3) := by decide +kernel
theorem dX3_collectOneOfEach_19 : decode cX3_collectOneOfEach 19 = .ok (.ifCond .eq 17, 3) := by decide +kernel
theorem dX3_collectOneOfEach_22 : decode cX3_collectOneOfEach 22 = .ok (.aload_n 1, 1) := by decide +kernel
theorem dX3_collectOneOfEach_23 : decode cX3_collectOneOfEach 23 = .ok (.aload_n 0, 1) := by decide +kernel
theorem dX3_collectOneOfEach_24 : decode cX3_collectOneOfEach 24 = .ok (.getfield 11, 3) := by decide +kernel
theorem dX3_collectOneOfEach_27 : decode cX3_collectOneOfEach 27 = .ok (.iload_n 2, 1) := by decide +kernel
theorem dX3_collectOneOfEach_28 : decode cX3_collectOneOfEach 28 = .ok (.aaload, 1) := by decide +kernel
theorem dX3_collectOneOfEach_29 : decode cX3_collectOneOfEach 29 = .ok (.getfield 41, 3) := by decide +kernel
theorem dX3_collectOneOfEach_32 : decode cX3_collectOneOfEach 32 = .ok (.iconst 1, 1) := by decide +kernel
theorem dX3_collectOneOfEach_33 : decode cX3_collectOneOfEach 33 = .ok (.invokevirtual 69, 3) := by decide +kernel
theorem dX3_collectOneOfEach_36 : decode cX3_collectOneOfEach 36 = .ok (.iinc 2 1, 3) := by decide +kernel
theorem dX3_collectOneOfEach_39 : decode cX3_collectOneOfEach 39 = .ok (.goto (-37), 3) := by decide +kernel
theorem dX3_collectOneOfEach_42 : decode cX3_collectOneOfEach 42 = .ok (.return_, 1) := by decide +kernel
set_option maxRecDepth 20000 in
set_option maxHeartbeats 4000000 in
theorem wk_X3_collectOneOfEach_2 {Γ : GT} {a : Nat → Nat} {q : Nat → ClassId} {i1 : Nat} (hi1 : i1 < 6) {sz : Int32} {pr : Nat → Int32} {pm : Nat → Nat} {kv : Nat → Int32} {kn : Nat → Int32} {kr : Nat → Int32} {kt : Nat → Int32} {kb : Nat → Int32} {ks : Nat → Int32} {kj : Nat → Int32} {kw : Nat → Int32} {kg : Nat → Int32} {fw : Nat → Nat → Int32} {ad : Nat → Int32} {bk : Nat → Int32} {md : Int32} {cr : Int32} {ow : Int32} {hd : Int32} {K : (Nat → Nat → Int64) → Prop} {X : (Nat → Nat → Int64) → Prop} (g : gd Γ cX3_collectOneOfEach RX3 3 (rmz 2 51) q) (hret : rtV_1 Γ cX3_collectOneOfEach 3 (fun (wd : Nat → Nat → Int64) => (cgW a q sz pr pm kv kn kr kt kb ks kj kw kg wd fw ad bk md cr ow hd)) K) (hX : ∀ (wd : Nat → Nat → Int64) , X wd → jw Γ 3 0 0 (cgW a q sz pr pm kv kn kr kt kb ks kj kw kg wd fw ad bk md cr ow hd) [] [] 42) :
    ∀ (n : Nat) (x2 : Int32) (wd : Nat → Nat → Int64) , wp_X3_collectOneOfEach_2 i1 sz kv kn ks K X n x2 wd → jw Γ 3 0 0 (cgW a q sz pr pm kv kn kr kt kb ks kj kw kg wd fw ad bk md cr ow hd) [(0, .ref (a 1)), (1, .ref (a (17 + i1))), (2, .int x2)] [] 2 := by
  intro n
  induction n with
  | zero =>
    intro _ _ h
    exact False.elim h
  | succ n ih =>
    intro x2 wd h
    unfold wp_X3_collectOneOfEach_2 at h
    refine j_iload_n g 2 rfl dX3_collectOneOfEach_2 ?_
    refine j_aload_n g 0 rfl dX3_collectOneOfEach_3 ?_
    refine j_get g fl_X3_24 1 cg_1 rfl dX3_collectOneOfEach_4 ?_
    refine j_icmp_ge g dX3_collectOneOfEach_7 (tgt := 42) (by decide) (fun c1 => ?_) (fun c1 => ?_)
    · replace h := h.1 c1
      refine j_sub [] rfl ?_
      exact hX wd h
    replace h := h.2 c1
    refine j_aload_n g 0 rfl dX3_collectOneOfEach_10 ?_
    refine j_get g fl_X3_11 1 cg_1 rfl dX3_collectOneOfEach_11 ?_
    refine j_iload_n g 2 rfl dX3_collectOneOfEach_14 ?_
    obtain ⟨hv2, h⟩ := h
    refine j_aald g 2 3 cg_2 rfl (by decide) hv2 rfl dX3_collectOneOfEach_15 ?_
    refine j_callVZ_0 g (As := []) (st := []) (c_X0_gives (vp_lt hv2) h) cl_X3_47 (11 + x2.toNatClampNeg) 0 (cg_K (vp_lt hv2)) rfl rfl (Nat.le_of_ble_eq_true rfl) (Nat.le_of_ble_eq_true rfl) (Nat.zero_le _) (Nat.zero_le _) rfl rfl (Nat.le_of_ble_eq_true rfl) dX3_collectOneOfEach_16 (fun r_3  hz_3 h => ?_)
    refine j_if_eq g dX3_collectOneOfEach_19 (tgt := 36) (by decide) (fun c4 => ?_) (fun c4 => ?_)
    · replace h := h.1 c4
      refine j_iinc g 2 (n := 1) (v := x2 + 1) (lv' := [(2, .int (x2 + 1)), (0, .ref (a 1)), (1, .ref (a (17 + i1)))]) rfl rfl (by decide) rfl dX3_collectOneOfEach_36 ?_
      refine j_goto g dX3_collectOneOfEach_39 (tgt := 2) (by decide) ?_
      refine j_sub [1, 2, 0] rfl ?_
      exact ih (x2 + 1) wd h
    replace h := h.2 c4
    refine j_aload_n g 1 rfl dX3_collectOneOfEach_22 ?_
    refine j_aload_n g 0 rfl dX3_collectOneOfEach_23 ?_
    refine j_get g fl_X3_11 1 cg_1 rfl dX3_collectOneOfEach_24 ?_
    refine j_iload_n g 2 rfl dX3_collectOneOfEach_27 ?_
    obtain ⟨hv5, h⟩ := h
    refine j_aald g 2 3 cg_2 rfl (by decide) hv5 rfl dX3_collectOneOfEach_28 ?_
    refine j_get g fl_X3_41 (11 + x2.toNatClampNeg) (cg_K (vp_lt hv5)) rfl dX3_collectOneOfEach_29 ?_
    refine j_iconst g (v := 1) (by decide) dX3_collectOneOfEach_32 ?_
    refine j_callVV_1 g (As := [.int (kv x2.toNatClampNeg), .int (1 : Int32)]) (st := []) (c_X2_addCoins hi1 h) cl_X3_69 (17 + i1) 2 (cg_S hi1) rfl rfl (Nat.le_of_ble_eq_true rfl) (Nat.le_of_ble_eq_true rfl) (Nat.zero_le _) (Nat.zero_le _) rfl rfl (Nat.le_of_ble_eq_true rfl) dX3_collectOneOfEach_33 (fun wd_6 h => ?_)
    refine j_ws (ws' := (cgW a q sz pr pm kv kn kr kt kb ks kj kw kg wd_6 fw ad bk md cr ow hd)) rfl ?_
    refine j_iinc g 2 (n := 1) (v := x2 + 1) (lv' := [(2, .int (x2 + 1)), (0, .ref (a 1)), (1, .ref (a (17 + i1)))]) rfl rfl (by decide) rfl dX3_collectOneOfEach_36 ?_
    refine j_goto g dX3_collectOneOfEach_39 (tgt := 2) (by decide) ?_
    refine j_sub [1, 2, 0] rfl ?_
    exact ih (x2 + 1) wd_6 h
set_option maxRecDepth 20000 in
set_option maxHeartbeats 4000000 in
theorem c_X3_collectOneOfEach {a : Nat → Nat} {q : Nat → ClassId} {j1 : Nat} (hj1 : j1 < 6) {sz : Int32} {pr : Nat → Int32} {pm : Nat → Nat} {kv : Nat → Int32} {kn : Nat → Int32} {kr : Nat → Int32} {kt : Nat → Int32} {kb : Nat → Int32} {ks : Nat → Int32} {kj : Nat → Int32} {kw : Nat → Int32} {kg : Nat → Int32} {wd : Nat → Nat → Int64} {fw : Nat → Nat → Int32} {ad : Nat → Int32} {bk : Nat → Int32} {md : Int32} {cr : Int32} {ow : Int32} {hd : Int32} {K : (Nat → Nat → Int64) → Prop} (h : wp_X3_collectOneOfEach j1 sz kv kn ks wd K) : ctV_1 q yX3_collectOneOfEach cX3_collectOneOfEach 3 2 51 [.ref (a 1), .ref (a (17 + j1))] (cgW a q sz pr pm kv kn kr kt kb ks kj kw kg wd fw ad bk md cr ow hd) (fun (wd : Nat → Nat → Int64) => (cgW a q sz pr pm kv kn kr kt kb ks kj kw kg wd fw ad bk md cr ow hd)) K := by
  refine met_V_1 (by decide) (Nat.le_of_ble_eq_true rfl) (fun Γ g hret => ?_)
  unfold wp_X3_collectOneOfEach at h
  show jw Γ 3 0 0 (cgW a q sz pr pm kv kn kr kt kb ks kj kw kg wd fw ad bk md cr ow hd) [(0, .ref (a 1)), (1, .ref (a (17 + j1)))] [] 0
  refine j_iconst g (v := 0) (by decide) dX3_collectOneOfEach_0 ?_
  refine j_istore_n g (lv' := [(2, .int (0 : Int32)), (0, .ref (a 1)), (1, .ref (a (17 + j1)))]) (by decide) rfl dX3_collectOneOfEach_1 ?_
  obtain ⟨n1, h⟩ := h
  refine j_sub [1, 2, 0] rfl ?_
  refine wk_X3_collectOneOfEach_2 hj1 g hret (fun wd_1 h => ?_) n1 (0 : Int32) wd h
  exact hret.go dX3_collectOneOfEach_42 h

set_option maxRecDepth 20000 in
def wp_X3_mayTake_50 (i3 : Nat) (x4 : Int32) (x6 : Int32) (pr : Nat → Int32) (wd : Nat → Nat → Int64) (K : Int32 → Prop) (X : Prop) : Nat → Int32 → Prop
  | 0, _ => False
  | n + 1, x7 => (((6 : Int32) ≤ x7 → X) ∧ (¬ (6 : Int32) ≤ x7 → (vp_in x7 6 ∧ ((pr x7.toNatClampNeg ≤ 0 → wp_X3_mayTake_50 i3 x4 x6 pr wd K X n (x7 + 1)) ∧ (¬ pr x7.toNatClampNeg ≤ 0 → ((x4 < pr x7.toNatClampNeg → wp_X3_mayTake_50 i3 x4 x6 pr wd K X n (x7 + 1)) ∧ (¬ x4 < pr x7.toNatClampNeg → wp_X2_hasWith i3 (x4 - (pr x7.toNatClampNeg)) x6 wd (fun (r_5 : Int32)  => ((¬ r_5 = 0 → wp_X3_mayTake_50 i3 x4 x6 pr wd K X n (x7 + 1)) ∧ (r_5 = 0 → K (0 : Int32)))))))))))
set_option maxRecDepth 20000 in
def wp_X3_mayTake (i1 : Nat) (x2 : Int32) (j3 : Nat) (x4 : Int32) (x5 : Int32) (pr : Nat → Int32) (kv : Nat → Int32) (kn : Nat → Int32) (ks : Nat → Int32) (wd : Nat → Nat → Int64) (K : Int32 → Prop) : Prop :=
  ((x4 ≤ (999 : Int32) → jn (fun (Z2 : Int32 → Prop) => jn (fun (Z6 : Prop) => ((x2 = 0 → Z6) ∧ (¬ x2 = 0 → wp_X0_gives i1 kn ks (fun (r_8 : Int32)  => ((r_8 = 0 → Z6) ∧ (¬ r_8 = 0 → Z2 (kv i1))))))) (Z2 (0 : Int32))) (fun (xs0_2 : Int32) => wp_X2_hasWith j3 (x4 - x5) xs0_2 wd (fun (r_3 : Int32)  => ((¬ r_3 = 0 → ∃ n5 : Nat, wp_X3_mayTake_50 j3 x4 xs0_2 pr wd K (K (1 : Int32)) n5 (0 : Int32)) ∧ (r_3 = 0 → K (0 : Int32)))))) ∧ (¬ x4 ≤ (999 : Int32) → K (0 : Int32)))
theorem dX3_mayTake_0 : decode cX3_mayTake 0 = .ok (.iload 4, 2) := by decide +kernel
theorem dX3_mayTake_2 : decode cX3_mayTake 2 = .ok (.sipush 999, 3) := by decide +kernel
theorem dX3_mayTake_5 : decode cX3_mayTake 5 = .ok (.if_icmp .le 5, 3) := by decide +kernel
theorem dX3_mayTake_8 : decode cX3_mayTake 8 = .ok (.iconst 0, 1) := by decide +kernel
theorem dX3_mayTake_9 : decode cX3_mayTake 9 = .ok (.ireturn, 1) := by decide +kernel
theorem dX3_mayTake_10 : decode cX3_mayTake 10 = .ok (.iload_n 2, 1) := by decide +kernel
theorem dX3_mayTake_11 : decode cX3_mayTake 11 = .ok (.ifCond .eq 17, 3) := by decide +kernel
theorem dX3_mayTake_14 : decode cX3_mayTake 14 = .ok (.aload_n 1, 1) := by decide +kernel
theorem dX3_mayTake_15 : decode cX3_mayTake 15 = .ok (.invokevirtual 47, 3) := by decide +kernel
theorem dX3_mayTake_18 : decode cX3_mayTake 18 = .ok (.ifCond .eq 10, 3) := by decide +kernel
theorem dX3_mayTake_21 : decode cX3_mayTake 21 = .ok (.aload_n 1, 1) := by decide +kernel
theorem dX3_mayTake_22 : decode cX3_mayTake 22 = .ok (.getfield 41, 3) := by decide +kernel
theorem dX3_mayTake_25 : decode cX3_mayTake 25 = .ok (.goto 4, 3) := by decide +kernel
theorem dX3_mayTake_28 : decode cX3_mayTake 28 = .ok (.iconst 0, 1) := by decide +kernel
theorem dX3_mayTake_29 : decode cX3_mayTake 29 = .ok (.istore 6, 2) := by decide +kernel
theorem dX3_mayTake_31 : decode cX3_mayTake 31 = .ok (.aload_n 3, 1) := by decide +kernel
theorem dX3_mayTake_32 : decode cX3_mayTake 32 = .ok (.iload 4, 2) := by decide +kernel
theorem dX3_mayTake_34 : decode cX3_mayTake 34 = .ok (.iload 5, 2) := by decide +kernel
theorem dX3_mayTake_36 : decode cX3_mayTake 36 = .ok (.isub, 1) := by decide +kernel
theorem dX3_mayTake_37 : decode cX3_mayTake 37 = .ok (.iload 6, 2) := by decide +kernel
theorem dX3_mayTake_39 : decode cX3_mayTake 39 = .ok (.invokevirtual 73, 3) := by decide +kernel
theorem dX3_mayTake_42 : decode cX3_mayTake 42 = .ok (.ifCond .ne 5, 3) := by decide +kernel
theorem dX3_mayTake_45 : decode cX3_mayTake 45 = .ok (.iconst 0, 1) := by decide +kernel
theorem dX3_mayTake_46 : decode cX3_mayTake 46 = .ok (.ireturn, 1) := by decide +kernel
theorem dX3_mayTake_47 : decode cX3_mayTake 47 = .ok (.iconst 0, 1) := by decide +kernel
theorem dX3_mayTake_48 : decode cX3_mayTake 48 = .ok (.istore 7, 2) := by decide +kernel
theorem dX3_mayTake_50 : decode cX3_mayTake 50 = .ok (.iload 7, 2) := by decide +kernel
theorem dX3_mayTake_52 : decode cX3_mayTake 52 = .ok (.bipush 6, 2) := by decide +kernel
theorem dX3_mayTake_54 : decode cX3_mayTake 54 = .ok (.if_icmp .ge 46, 3) := by decide +kernel
theorem dX3_mayTake_57 : decode cX3_mayTake 57 = .ok (.aload_n 0, 1) := by decide +kernel
theorem dX3_mayTake_58 : decode cX3_mayTake 58 = .ok (.getfield 20, 3) := by decide +kernel
theorem dX3_mayTake_61 : decode cX3_mayTake 61 = .ok (.iload 7, 2) := by decide +kernel
theorem dX3_mayTake_63 : decode cX3_mayTake 63 = .ok (.iaload, 1) := by decide +kernel
theorem dX3_mayTake_64 : decode cX3_mayTake 64 = .ok (.istore 8, 2) := by decide +kernel
theorem dX3_mayTake_66 : decode cX3_mayTake 66 = .ok (.iload 8, 2) := by decide +kernel
theorem dX3_mayTake_68 : decode cX3_mayTake 68 = .ok (.ifCond .le 26, 3) := by decide +kernel
theorem dX3_mayTake_71 : decode cX3_mayTake 71 = .ok (.iload 8, 2) := by decide +kernel
theorem dX3_mayTake_73 : decode cX3_mayTake 73 = .ok (.iload 4, 2) := by decide +kernel
theorem dX3_mayTake_75 : decode cX3_mayTake 75 = .ok (.if_icmp .gt 19, 3) := by decide +kernel
theorem dX3_mayTake_78 : decode cX3_mayTake 78 = .ok (.aload_n 3, 1) := by decide +kernel
theorem dX3_mayTake_79 : decode cX3_mayTake 79 = .ok (.iload 4, 2) := by decide +kernel
theorem dX3_mayTake_81 : decode cX3_mayTake 81 = .ok (.iload 8, 2) := by decide +kernel
theorem dX3_mayTake_83 : decode cX3_mayTake 83 = .ok (.isub, 1) := by decide +kernel
theorem dX3_mayTake_84 : decode cX3_mayTake 84 = .ok (.iload 6, 2) := by decide +kernel
theorem dX3_mayTake_86 : decode cX3_mayTake 86 = .ok (.invokevirtual 73, 3) := by decide +kernel
theorem dX3_mayTake_89 : decode cX3_mayTake 89 = .ok (.ifCond .ne 5, 3) := by decide +kernel
theorem dX3_mayTake_92 : decode cX3_mayTake 92 = .ok (.iconst 0, 1) := by decide +kernel
theorem dX3_mayTake_93 : decode cX3_mayTake 93 = .ok (.ireturn, 1) := by decide +kernel
theorem dX3_mayTake_94 : decode cX3_mayTake 94 = .ok (.iinc 7 1, 3) := by decide +kernel
theorem dX3_mayTake_97 : decode cX3_mayTake 97 = .ok (.goto (-47), 3) := by decide +kernel
theorem dX3_mayTake_100 : decode cX3_mayTake 100 = .ok (.iconst 1, 1) := by decide +kernel
theorem dX3_mayTake_101 : decode cX3_mayTake 101 = .ok (.ireturn, 1) := by decide +kernel
set_option maxRecDepth 20000 in
set_option maxHeartbeats 4000000 in
theorem wk_X3_mayTake_50 {Γ : GT} {a : Nat → Nat} {q : Nat → ClassId} {i3 : Nat} {x4 : Int32} {x6 : Int32} (hi3 : i3 < 6) {sz : Int32} {pr : Nat → Int32} {pm : Nat → Nat} {kv : Nat → Int32} {kn : Nat → Int32} {kr : Nat → Int32} {kt : Nat → Int32} {kb : Nat → Int32} {ks : Nat → Int32} {kj : Nat → Int32} {kw : Nat → Int32} {kg : Nat → Int32} {wd : Nat → Nat → Int64} {fw : Nat → Nat → Int32} {ad : Nat → Int32} {bk : Nat → Int32} {md : Int32} {cr : Int32} {ow : Int32} {hd : Int32} {K : Int32 → Prop} {X : Prop} (g : gd Γ cX3_mayTake RX3 9 (rmz 2 43) q) (hret : rtZ_0 Γ cX3_mayTake 9 (cgW a q sz pr pm kv kn kr kt kb ks kj kw kg wd fw ad bk md cr ow hd) K) (hX : X → jw Γ 9 0 0 (cgW a q sz pr pm kv kn kr kt kb ks kj kw kg wd fw ad bk md cr ow hd) [] [] 100) :
    ∀ (n : Nat) (x7 : Int32) , wp_X3_mayTake_50 i3 x4 x6 pr wd K X n x7 → jw Γ 9 0 0 (cgW a q sz pr pm kv kn kr kt kb ks kj kw kg wd fw ad bk md cr ow hd) [(0, .ref (a 1)), (3, .ref (a (17 + i3))), (4, .int x4), (6, .int x6), (7, .int x7)] [] 50 := by
  intro n
  induction n with
  | zero =>
    intro _ h
    exact False.elim h
  | succ n ih =>
    intro x7 h
    unfold wp_X3_mayTake_50 at h
    refine j_iload g 4 rfl dX3_mayTake_50 ?_
    refine j_bipush g (v := 6) (by decide) dX3_mayTake_52 ?_
    refine j_icmp_ge g dX3_mayTake_54 (tgt := 100) (by decide) (fun c1 => ?_) (fun c1 => ?_)
    · replace h := h.1 c1
      refine j_sub [] rfl ?_
      exact hX h
    replace h := h.2 c1
    refine j_aload_n g 0 rfl dX3_mayTake_57 ?_
    refine j_get g fl_X3_20 1 cg_1 rfl dX3_mayTake_58 ?_
    refine j_iload g 4 rfl dX3_mayTake_61 ?_
    obtain ⟨hv2, h⟩ := h
    refine j_iald g 4 cg_4 hv2 dX3_mayTake_63 ?_
    refine j_istore g (lv' := [(8, .int (pr x7.toNatClampNeg)), (0, .ref (a 1)), (3, .ref (a (17 + i3))), (4, .int x4), (6, .int x6), (7, .int x7)]) (by decide) rfl dX3_mayTake_64 ?_
    refine j_iload g 0 rfl dX3_mayTake_66 ?_
    refine j_if_le g dX3_mayTake_68 (tgt := 94) (by decide) (fun c3 => ?_) (fun c3 => ?_)
    · replace h := h.1 c3
      refine j_iinc g 5 (n := 1) (v := x7 + 1) (lv' := [(7, .int (x7 + 1)), (8, .int (pr x7.toNatClampNeg)), (0, .ref (a 1)), (3, .ref (a (17 + i3))), (4, .int x4), (6, .int x6)]) rfl rfl (by decide) rfl dX3_mayTake_94 ?_
      refine j_goto g dX3_mayTake_97 (tgt := 50) (by decide) ?_
      refine j_sub [2, 3, 4, 5, 0] rfl ?_
      exact ih (x7 + 1) h
    replace h := h.2 c3
    refine j_iload g 0 rfl dX3_mayTake_71 ?_
    refine j_iload g 3 rfl dX3_mayTake_73 ?_
    refine j_icmp_gt g dX3_mayTake_75 (tgt := 94) (by decide) (fun c4 => ?_) (fun c4 => ?_)
    · replace h := h.1 c4
      refine j_iinc g 5 (n := 1) (v := x7 + 1) (lv' := [(7, .int (x7 + 1)), (8, .int (pr x7.toNatClampNeg)), (0, .ref (a 1)), (3, .ref (a (17 + i3))), (4, .int x4), (6, .int x6)]) rfl rfl (by decide) rfl dX3_mayTake_94 ?_
      refine j_goto g dX3_mayTake_97 (tgt := 50) (by decide) ?_
      refine j_sub [2, 3, 4, 5, 0] rfl ?_
      exact ih (x7 + 1) h
    replace h := h.2 c4
    refine j_aload_n g 2 rfl dX3_mayTake_78 ?_
    refine j_iload g 3 rfl dX3_mayTake_79 ?_
    refine j_iload g 0 rfl dX3_mayTake_81 ?_
    refine j_isub g dX3_mayTake_83 ?_
    refine j_iload g 4 rfl dX3_mayTake_84 ?_
    refine j_callVZ_0 g (As := [.int (x4 - (pr x7.toNatClampNeg)), .int x6]) (st := []) (c_X2_hasWith hi3 h) cl_X3_73 (17 + i3) 2 (cg_S hi3) rfl rfl (Nat.le_of_ble_eq_true rfl) (Nat.le_of_ble_eq_true rfl) (Nat.zero_le _) (Nat.zero_le _) rfl rfl (Nat.le_of_ble_eq_true rfl) dX3_mayTake_86 (fun r_5  hz_5 h => ?_)
    refine j_if_ne g dX3_mayTake_89 (tgt := 94) (by decide) (fun c6 => ?_) (fun c6 => ?_)
    rotate_left
    · replace h := h.2 c6
      refine j_iconst g (v := 0) (by decide) dX3_mayTake_92 ?_
      exact hret.go dX3_mayTake_93 (Or.inl rfl) h
    replace h := h.1 c6
    refine j_iinc g 5 (n := 1) (v := x7 + 1) (lv' := [(7, .int (x7 + 1)), (8, .int (pr x7.toNatClampNeg)), (0, .ref (a 1)), (3, .ref (a (17 + i3))), (4, .int x4), (6, .int x6)]) rfl rfl (by decide) rfl dX3_mayTake_94 ?_
    refine j_goto g dX3_mayTake_97 (tgt := 50) (by decide) ?_
    refine j_sub [2, 3, 4, 5, 0] rfl ?_
    exact ih (x7 + 1) h
set_option maxRecDepth 20000 in
set_option maxHeartbeats 4000000 in
theorem c_X3_mayTake {a : Nat → Nat} {q : Nat → ClassId} {i1 : Nat} {x2 : Int32} {j3 : Nat} {x4 : Int32} {x5 : Int32} (hi1 : i1 < 6) (hz2 : x2 = 0 ∨ x2 = 1) (hj3 : j3 < 6) {sz : Int32} {pr : Nat → Int32} {pm : Nat → Nat} {kv : Nat → Int32} {kn : Nat → Int32} {kr : Nat → Int32} {kt : Nat → Int32} {kb : Nat → Int32} {ks : Nat → Int32} {kj : Nat → Int32} {kw : Nat → Int32} {kg : Nat → Int32} {wd : Nat → Nat → Int64} {fw : Nat → Nat → Int32} {ad : Nat → Int32} {bk : Nat → Int32} {md : Int32} {cr : Int32} {ow : Int32} {hd : Int32} {K : Int32 → Prop} (h : wp_X3_mayTake i1 x2 j3 x4 x5 pr kv kn ks wd K) : ctZ_0 q yX3_mayTake cX3_mayTake 9 2 43 [.ref (a 1), .ref (a (11 + i1)), .int x2, .ref (a (17 + j3)), .int x4, .int x5] (cgW a q sz pr pm kv kn kr kt kb ks kj kw kg wd fw ad bk md cr ow hd) (cgW a q sz pr pm kv kn kr kt kb ks kj kw kg wd fw ad bk md cr ow hd) K := by
  refine met_Z_0 (by decide) (Nat.le_of_ble_eq_true rfl) (fun Γ g hret => ?_)
  unfold wp_X3_mayTake at h
  show jw Γ 9 0 0 (cgW a q sz pr pm kv kn kr kt kb ks kj kw kg wd fw ad bk md cr ow hd) [(0, .ref (a 1)), (1, .ref (a (11 + i1))), (2, .int x2), (3, .ref (a (17 + j3))), (4, .int x4), (5, .int x5)] [] 0
  refine j_iload g 4 rfl dX3_mayTake_0 ?_
  refine j_sipush g (v := 999) (by decide) dX3_mayTake_2 ?_
  refine j_icmp_le g dX3_mayTake_5 (tgt := 10) (by decide) (fun c1 => ?_) (fun c1 => ?_)
  rotate_left
  · replace h := h.2 c1
    refine j_iconst g (v := 0) (by decide) dX3_mayTake_8 ?_
    exact hret.go dX3_mayTake_9 (Or.inl rfl) h
  replace h := h.1 c1
  refine j_iload_n g 2 rfl dX3_mayTake_10 ?_
  refine jn_cut h (fun Z2 eZ2 h => ?_)
  have hZ2 : ∀ (xs0_2 : Int32), Z2 xs0_2 → jw Γ 9 0 0 (cgW a q sz pr pm kv kn kr kt kb ks kj kw kg wd fw ad bk md cr ow hd) [(0, .ref (a 1)), (3, .ref (a (17 + j3))), (4, .int x4), (5, .int x5)] [.int xs0_2] 29 := by
    intro xs0_2 h
    rw [eZ2] at h
    refine j_istore g (lv' := [(6, .int xs0_2), (0, .ref (a 1)), (3, .ref (a (17 + j3))), (4, .int x4), (5, .int x5)]) (by decide) rfl dX3_mayTake_29 ?_
    refine j_aload_n g 2 rfl dX3_mayTake_31 ?_
    refine j_iload g 3 rfl dX3_mayTake_32 ?_
    refine j_iload g 4 rfl dX3_mayTake_34 ?_
    refine j_isub g dX3_mayTake_36 ?_
    refine j_iload g 0 rfl dX3_mayTake_37 ?_
    refine j_callVZ_0 g (As := [.int (x4 - x5), .int xs0_2]) (st := []) (c_X2_hasWith hj3 h) cl_X3_73 (17 + j3) 2 (cg_S hj3) rfl rfl (Nat.le_of_ble_eq_true rfl) (Nat.le_of_ble_eq_true rfl) (Nat.zero_le _) (Nat.zero_le _) rfl rfl (Nat.le_of_ble_eq_true rfl) dX3_mayTake_39 (fun r_3  hz_3 h => ?_)
    refine j_if_ne g dX3_mayTake_42 (tgt := 47) (by decide) (fun c4 => ?_) (fun c4 => ?_)
    rotate_left
    · replace h := h.2 c4
      refine j_iconst g (v := 0) (by decide) dX3_mayTake_45 ?_
      exact hret.go dX3_mayTake_46 (Or.inl rfl) h
    replace h := h.1 c4
    refine j_iconst g (v := 0) (by decide) dX3_mayTake_47 ?_
    refine j_istore g (lv' := [(7, .int (0 : Int32)), (6, .int xs0_2), (0, .ref (a 1)), (3, .ref (a (17 + j3))), (4, .int x4), (5, .int x5)]) (by decide) rfl dX3_mayTake_48 ?_
    obtain ⟨n5, h⟩ := h
    refine j_sub [2, 3, 4, 1, 0] rfl ?_
    refine wk_X3_mayTake_50 hj3 g hret (fun h => ?_) n5 (0 : Int32) h
    refine j_iconst g (v := 1) (by decide) dX3_mayTake_100 ?_
    exact hret.go dX3_mayTake_101 (Or.inr rfl) h
  refine jn_cut h (fun Z6 eZ6 h => ?_)
  have hZ6 : Z6 → jw Γ 9 0 0 (cgW a q sz pr pm kv kn kr kt kb ks kj kw kg wd fw ad bk md cr ow hd) [(0, .ref (a 1)), (3, .ref (a (17 + j3))), (4, .int x4), (5, .int x5)] [] 28 := by
    intro h
    rw [eZ6] at h
    refine j_iconst g (v := 0) (by decide) dX3_mayTake_28 ?_
    exact hZ2 (0 : Int32) h
  refine j_if_eq g dX3_mayTake_11 (tgt := 28) (by decide) (fun c7 => ?_) (fun c7 => ?_)
  · replace h := h.1 c7
    refine j_sub [0, 3, 4, 5] rfl ?_
    exact hZ6 h
  replace h := h.2 c7
  refine j_aload_n g 1 rfl dX3_mayTake_14 ?_
  refine j_callVZ_0 g (As := []) (st := []) (c_X0_gives hi1 h) cl_X3_47 (11 + i1) 0 (cg_K hi1) rfl rfl (Nat.le_of_ble_eq_true rfl) (Nat.le_of_ble_eq_true rfl) (Nat.zero_le _) (Nat.zero_le _) rfl rfl (Nat.le_of_ble_eq_true rfl) dX3_mayTake_15 (fun r_8  hz_8 h => ?_)
  refine j_if_eq g dX3_mayTake_18 (tgt := 28) (by decide) (fun c9 => ?_) (fun c9 => ?_)
  · replace h := h.1 c9
    refine j_sub [0, 3, 4, 5] rfl ?_
    exact hZ6 h
  replace h := h.2 c9
  refine j_aload_n g 1 rfl dX3_mayTake_21 ?_
  refine j_get g fl_X3_41 (11 + i1) (cg_K hi1) rfl dX3_mayTake_22 ?_
  refine j_goto g dX3_mayTake_25 (tgt := 29) (by decide) ?_
  refine j_sub [0, 3, 4, 5] rfl ?_
  exact hZ2 (kv i1) h

set_option maxRecDepth 20000 in
def wp_X3_coinsInWay_4  (sz : Int32) (kw : Nat → Int32) (K : Int32 → Prop) (X : Int32 → Prop) : Nat → Int32 → Int32 → Prop
  | 0, _, _ => False
  | n + 1, x1, x2 => ((sz ≤ x2 → X x1) ∧ (¬ sz ≤ x2 → (vp_in x2 6 ∧ wp_X3_coinsInWay_4 sz kw K X n (x1 + (kw x2.toNatClampNeg)) (x2 + 1))))
set_option maxRecDepth 20000 in
def wp_X3_coinsInWay  (sz : Int32) (kw : Nat → Int32) (K : Int32 → Prop) : Prop :=
  ∃ n1 : Nat, wp_X3_coinsInWay_4 sz kw K (fun (x1_1 : Int32) => K x1_1) n1 (0 : Int32) (0 : Int32)
theorem dX3_coinsInWay_0 : decode cX3_coinsInWay 0 = .ok (.iconst 0, 1) := by decide +kernel
theorem dX3_coinsInWay_1 : decode cX3_coinsInWay 1 = .ok (.istore_n 1, 1) := by decide +kernel
theorem dX3_coinsInWay_2 : decode cX3_coinsInWay 2 = .ok (.iconst 0, 1) := by decide +kernel
theorem dX3_coinsInWay_3 : decode cX3_coinsInWay 3 = .ok (.istore_n 2, 1) := by decide +kernel
theorem dX3_coinsInWay_4 : decode cX3_coinsInWay 4 = .ok (.iload_n 2, 1) := by decide +kernel
theorem dX3_coinsInWay_5 : decode cX3_coinsInWay 5 = .ok (.aload_n 0, 1) := by decide +kernel
theorem dX3_coinsInWay_6 : decode cX3_coinsInWay 6 = .ok (.getfield 24, 3) := by decide +kernel
theorem dX3_coinsInWay_9 : decode cX3_coinsInWay 9 = .ok (.if_icmp .ge 21, 3) := by decide +kernel
theorem dX3_coinsInWay_12 : decode cX3_coinsInWay 12 = .ok (.iload_n 1, 1) := by decide +kernel
theorem dX3_coinsInWay_13 : decode cX3_coinsInWay 13 = .ok (.aload_n 0, 1) := by decide +kernel
theorem dX3_coinsInWay_14 : decode cX3_coinsInWay 14 = .ok (.getfield 11, 3) := by decide +kernel
theorem dX3_coinsInWay_17 : decode cX3_coinsInWay 17 = .ok (.iload_n 2, 1) := by decide +kernel
theorem dX3_coinsInWay_18 : decode cX3_coinsInWay 18 = .ok (.aaload, 1) := by decide +kernel
theorem dX3_coinsInWay_19 : decode cX3_coinsInWay 19 = .ok (.getfield 77, 3) := by decide +kernel
theorem dX3_coinsInWay_22 : decode cX3_coinsInWay 22 = .ok (.iadd, 1) := by decide +kernel
theorem dX3_coinsInWay_23 : decode cX3_coinsInWay 23 = .ok (.istore_n 1, 1) := by decide +kernel
theorem dX3_coinsInWay_24 : decode cX3_coinsInWay 24 = .ok (.iinc 2 1, 3) := by decide +kernel
theorem dX3_coinsInWay_27 : decode cX3_coinsInWay 27 = .ok (.goto (-23), 3) := by decide +kernel
theorem dX3_coinsInWay_30 : decode cX3_coinsInWay 30 = .ok (.iload_n 1, 1) := by decide +kernel
theorem dX3_coinsInWay_31 : decode cX3_coinsInWay 31 = .ok (.ireturn, 1) := by decide +kernel
set_option maxRecDepth 20000 in
set_option maxHeartbeats 4000000 in
theorem wk_X3_coinsInWay_4 {Γ : GT} {a : Nat → Nat} {q : Nat → ClassId}   {sz : Int32} {pr : Nat → Int32} {pm : Nat → Nat} {kv : Nat → Int32} {kn : Nat → Int32} {kr : Nat → Int32} {kt : Nat → Int32} {kb : Nat → Int32} {ks : Nat → Int32} {kj : Nat → Int32} {kw : Nat → Int32} {kg : Nat → Int32} {wd : Nat → Nat → Int64} {fw : Nat → Nat → Int32} {ad : Nat → Int32} {bk : Nat → Int32} {md : Int32} {cr : Int32} {ow : Int32} {hd : Int32} {K : Int32 → Prop} {X : Int32 → Prop} (g : gd Γ cX3_coinsInWay RX3 3 (rmz 0 0) q) (hret : rtI_0 Γ cX3_coinsInWay 3 (cgW a q sz pr pm kv kn kr kt kb ks kj kw kg wd fw ad bk md cr ow hd) K) (hX : ∀ (x1 : Int32) , X x1 → jw Γ 3 0 0 (cgW a q sz pr pm kv kn kr kt kb ks kj kw kg wd fw ad bk md cr ow hd) [(1, .int x1)] [] 30) :
    ∀ (n : Nat) (x1 : Int32) (x2 : Int32) , wp_X3_coinsInWay_4 sz kw K X n x1 x2 → jw Γ 3 0 0 (cgW a q sz pr pm kv kn kr kt kb ks kj kw kg wd fw ad bk md cr ow hd) [(0, .ref (a 1)), (1, .int x1), (2, .int x2)] [] 4 := by
  intro n
  induction n with
  | zero =>
    intro _ _ h
    exact False.elim h
  | succ n ih =>
    intro x1 x2 h
    unfold wp_X3_coinsInWay_4 at h
    refine j_iload_n g 2 rfl dX3_coinsInWay_4 ?_
    refine j_aload_n g 0 rfl dX3_coinsInWay_5 ?_
    refine j_get g fl_X3_24 1 cg_1 rfl dX3_coinsInWay_6 ?_
    refine j_icmp_ge g dX3_coinsInWay_9 (tgt := 30) (by decide) (fun c1 => ?_) (fun c1 => ?_)
    · replace h := h.1 c1
      refine j_sub [1] rfl ?_
      exact hX x1 h
    replace h := h.2 c1
    refine j_iload_n g 1 rfl dX3_coinsInWay_12 ?_
    refine j_aload_n g 0 rfl dX3_coinsInWay_13 ?_
    refine j_get g fl_X3_11 1 cg_1 rfl dX3_coinsInWay_14 ?_
    refine j_iload_n g 2 rfl dX3_coinsInWay_17 ?_
    obtain ⟨hv2, h⟩ := h
    refine j_aald g 2 3 cg_2 rfl (by decide) hv2 rfl dX3_coinsInWay_18 ?_
    refine j_get g fl_X3_77 (11 + x2.toNatClampNeg) (cg_K (vp_lt hv2)) rfl dX3_coinsInWay_19 ?_
    refine j_iadd g dX3_coinsInWay_22 ?_
    refine j_istore_n g (lv' := [(1, .int (x1 + (kw x2.toNatClampNeg))), (0, .ref (a 1)), (2, .int x2)]) (by decide) rfl dX3_coinsInWay_23 ?_
    refine j_iinc g 2 (n := 1) (v := x2 + 1) (lv' := [(2, .int (x2 + 1)), (1, .int (x1 + (kw x2.toNatClampNeg))), (0, .ref (a 1))]) rfl rfl (by decide) rfl dX3_coinsInWay_24 ?_
    refine j_goto g dX3_coinsInWay_27 (tgt := 4) (by decide) ?_
    refine j_sub [2, 1, 0] rfl ?_
    exact ih (x1 + (kw x2.toNatClampNeg)) (x2 + 1) h
set_option maxRecDepth 20000 in
set_option maxHeartbeats 4000000 in
theorem c_X3_coinsInWay {a : Nat → Nat} {q : Nat → ClassId}   {sz : Int32} {pr : Nat → Int32} {pm : Nat → Nat} {kv : Nat → Int32} {kn : Nat → Int32} {kr : Nat → Int32} {kt : Nat → Int32} {kb : Nat → Int32} {ks : Nat → Int32} {kj : Nat → Int32} {kw : Nat → Int32} {kg : Nat → Int32} {wd : Nat → Nat → Int64} {fw : Nat → Nat → Int32} {ad : Nat → Int32} {bk : Nat → Int32} {md : Int32} {cr : Int32} {ow : Int32} {hd : Int32} {K : Int32 → Prop} (h : wp_X3_coinsInWay sz kw K) : ctI_0 q yX3_coinsInWay cX3_coinsInWay 3 0 0 [.ref (a 1)] (cgW a q sz pr pm kv kn kr kt kb ks kj kw kg wd fw ad bk md cr ow hd) (cgW a q sz pr pm kv kn kr kt kb ks kj kw kg wd fw ad bk md cr ow hd) K := by
  refine met_I_0 (by decide) (Nat.le_of_ble_eq_true rfl) (fun Γ g hret => ?_)
  unfold wp_X3_coinsInWay at h
  show jw Γ 3 0 0 (cgW a q sz pr pm kv kn kr kt kb ks kj kw kg wd fw ad bk md cr ow hd) [(0, .ref (a 1))] [] 0
  refine j_iconst g (v := 0) (by decide) dX3_coinsInWay_0 ?_
  refine j_istore_n g (lv' := [(1, .int (0 : Int32)), (0, .ref (a 1))]) (by decide) rfl dX3_coinsInWay_1 ?_
  refine j_iconst g (v := 0) (by decide) dX3_coinsInWay_2 ?_
  refine j_istore_n g (lv' := [(2, .int (0 : Int32)), (1, .int (0 : Int32)), (0, .ref (a 1))]) (by decide) rfl dX3_coinsInWay_3 ?_
  obtain ⟨n1, h⟩ := h
  refine j_sub [2, 1, 0] rfl ?_
  refine wk_X3_coinsInWay_4  g hret (fun x1_1 h => ?_) n1 (0 : Int32) (0 : Int32) h
  refine j_iload_n g 0 rfl dX3_coinsInWay_30 ?_
  exact hret.go dX3_coinsInWay_31 h

set_option maxRecDepth 20000 in
def wp_X3_coinsGiven_4  (sz : Int32) (kg : Nat → Int32) (K : Int32 → Prop) (X : Int32 → Prop) : Nat → Int32 → Int32 → Prop
  | 0, _, _ => False
  | n + 1, x1, x2 => ((sz ≤ x2 → X x1) ∧ (¬ sz ≤ x2 → (vp_in x2 6 ∧ wp_X3_coinsGiven_4 sz kg K X n (x1 + (kg x2.toNatClampNeg)) (x2 + 1))))
set_option maxRecDepth 20000 in
def wp_X3_coinsGiven  (sz : Int32) (kg : Nat → Int32) (K : Int32 → Prop) : Prop :=
  ∃ n1 : Nat, wp_X3_coinsGiven_4 sz kg K (fun (x1_1 : Int32) => K x1_1) n1 (0 : Int32) (0 : Int32)
theorem dX3_coinsGiven_0 : decode cX3_coinsGiven 0 = .ok (.iconst 0, 1) := by decide +kernel
theorem dX3_coinsGiven_1 : decode cX3_coinsGiven 1 = .ok (.istore_n 1, 1) := by decide +kernel
theorem dX3_coinsGiven_2 : decode cX3_coinsGiven 2 = .ok (.iconst 0, 1) := by decide +kernel
theorem dX3_coinsGiven_3 : decode cX3_coinsGiven 3 = .ok (.istore_n 2, 1) := by decide +kernel
theorem dX3_coinsGiven_4 : decode cX3_coinsGiven 4 = .ok (.iload_n 2, 1) := by decide +kernel
theorem dX3_coinsGiven_5 : decode cX3_coinsGiven 5 = .ok (.aload_n 0, 1) := by decide +kernel
theorem dX3_coinsGiven_6 : decode cX3_coinsGiven 6 = .ok (.getfield 24, 3) := by decide +kernel
theorem dX3_coinsGiven_9 : decode cX3_coinsGiven 9 = .ok (.if_icmp .ge 21, 3) := by decide +kernel
theorem dX3_coinsGiven_12 : decode cX3_coinsGiven 12 = .ok (.iload_n 1, 1) := by decide +kernel
theorem dX3_coinsGiven_13 : decode cX3_coinsGiven 13 = .ok (.aload_n 0, 1) := by decide +kernel
theorem dX3_coinsGiven_14 : decode cX3_coinsGiven 14 = .ok (.getfield 11, 3) := by decide +kernel
theorem dX3_coinsGiven_17 : decode cX3_coinsGiven 17 = .ok (.iload_n 2, 1) := by decide +kernel
theorem dX3_coinsGiven_18 : decode cX3_coinsGiven 18 = .ok (.aaload, 1) := by decide +kernel
theorem dX3_coinsGiven_19 : decode cX3_coinsGiven 19 = .ok (.getfield 80, 3) := by decide +kernel
theorem dX3_coinsGiven_22 : decode cX3_coinsGiven 22 = .ok (.iadd, 1) := by decide +kernel
theorem dX3_coinsGiven_23 : decode cX3_coinsGiven 23 = .ok (.istore_n 1, 1) := by decide +kernel
theorem dX3_coinsGiven_24 : decode cX3_coinsGiven 24 = .ok (.iinc 2 1, 3) := by decide +kernel
theorem dX3_coinsGiven_27 : decode cX3_coinsGiven 27 = .ok (.goto (-23), 3) := by decide +kernel
theorem dX3_coinsGiven_30 : decode cX3_coinsGiven 30 = .ok (.iload_n 1, 1) := by decide +kernel
theorem dX3_coinsGiven_31 : decode cX3_coinsGiven 31 = .ok (.ireturn, 1) := by decide +kernel
set_option maxRecDepth 20000 in
set_option maxHeartbeats 4000000 in
theorem wk_X3_coinsGiven_4 {Γ : GT} {a : Nat → Nat} {q : Nat → ClassId}   {sz : Int32} {pr : Nat → Int32} {pm : Nat → Nat} {kv : Nat → Int32} {kn : Nat → Int32} {kr : Nat → Int32} {kt : Nat → Int32} {kb : Nat → Int32} {ks : Nat → Int32} {kj : Nat → Int32} {kw : Nat → Int32} {kg : Nat → Int32} {wd : Nat → Nat → Int64} {fw : Nat → Nat → Int32} {ad : Nat → Int32} {bk : Nat → Int32} {md : Int32} {cr : Int32} {ow : Int32} {hd : Int32} {K : Int32 → Prop} {X : Int32 → Prop} (g : gd Γ cX3_coinsGiven RX3 3 (rmz 0 0) q) (hret : rtI_0 Γ cX3_coinsGiven 3 (cgW a q sz pr pm kv kn kr kt kb ks kj kw kg wd fw ad bk md cr ow hd) K) (hX : ∀ (x1 : Int32) , X x1 → jw Γ 3 0 0 (cgW a q sz pr pm kv kn kr kt kb ks kj kw kg wd fw ad bk md cr ow hd) [(1, .int x1)] [] 30) :
    ∀ (n : Nat) (x1 : Int32) (x2 : Int32) , wp_X3_coinsGiven_4 sz kg K X n x1 x2 → jw Γ 3 0 0 (cgW a q sz pr pm kv kn kr kt kb ks kj kw kg wd fw ad bk md cr ow hd) [(0, .ref (a 1)), (1, .int x1), (2, .int x2)] [] 4 := by
  intro n
  induction n with
  | zero =>
    intro _ _ h
    exact False.elim h
  | succ n ih =>
    intro x1 x2 h
    unfold wp_X3_coinsGiven_4 at h
    refine j_iload_n g 2 rfl dX3_coinsGiven_4 ?_
    refine j_aload_n g 0 rfl dX3_coinsGiven_5 ?_
    refine j_get g fl_X3_24 1 cg_1 rfl dX3_coinsGiven_6 ?_
    refine j_icmp_ge g dX3_coinsGiven_9 (tgt := 30) (by decide) (fun c1 => ?_) (fun c1 => ?_)
    · replace h := h.1 c1
      refine j_sub [1] rfl ?_
      exact hX x1 h
    replace h := h.2 c1
    refine j_iload_n g 1 rfl dX3_coinsGiven_12 ?_
    refine j_aload_n g 0 rfl dX3_coinsGiven_13 ?_
    refine j_get g fl_X3_11 1 cg_1 rfl dX3_coinsGiven_14 ?_
    refine j_iload_n g 2 rfl dX3_coinsGiven_17 ?_
    obtain ⟨hv2, h⟩ := h
    refine j_aald g 2 3 cg_2 rfl (by decide) hv2 rfl dX3_coinsGiven_18 ?_
    refine j_get g fl_X3_80 (11 + x2.toNatClampNeg) (cg_K (vp_lt hv2)) rfl dX3_coinsGiven_19 ?_
    refine j_iadd g dX3_coinsGiven_22 ?_
    refine j_istore_n g (lv' := [(1, .int (x1 + (kg x2.toNatClampNeg))), (0, .ref (a 1)), (2, .int x2)]) (by decide) rfl dX3_coinsGiven_23 ?_
    refine j_iinc g 2 (n := 1) (v := x2 + 1) (lv' := [(2, .int (x2 + 1)), (1, .int (x1 + (kg x2.toNatClampNeg))), (0, .ref (a 1))]) rfl rfl (by decide) rfl dX3_coinsGiven_24 ?_
    refine j_goto g dX3_coinsGiven_27 (tgt := 4) (by decide) ?_
    refine j_sub [2, 1, 0] rfl ?_
    exact ih (x1 + (kg x2.toNatClampNeg)) (x2 + 1) h
set_option maxRecDepth 20000 in
set_option maxHeartbeats 4000000 in
theorem c_X3_coinsGiven {a : Nat → Nat} {q : Nat → ClassId}   {sz : Int32} {pr : Nat → Int32} {pm : Nat → Nat} {kv : Nat → Int32} {kn : Nat → Int32} {kr : Nat → Int32} {kt : Nat → Int32} {kb : Nat → Int32} {ks : Nat → Int32} {kj : Nat → Int32} {kw : Nat → Int32} {kg : Nat → Int32} {wd : Nat → Nat → Int64} {fw : Nat → Nat → Int32} {ad : Nat → Int32} {bk : Nat → Int32} {md : Int32} {cr : Int32} {ow : Int32} {hd : Int32} {K : Int32 → Prop} (h : wp_X3_coinsGiven sz kg K) : ctI_0 q yX3_coinsGiven cX3_coinsGiven 3 0 0 [.ref (a 1)] (cgW a q sz pr pm kv kn kr kt kb ks kj kw kg wd fw ad bk md cr ow hd) (cgW a q sz pr pm kv kn kr kt kb ks kj kw kg wd fw ad bk md cr ow hd) K := by
  refine met_I_0 (by decide) (Nat.le_of_ble_eq_true rfl) (fun Γ g hret => ?_)
  unfold wp_X3_coinsGiven at h
  show jw Γ 3 0 0 (cgW a q sz pr pm kv kn kr kt kb ks kj kw kg wd fw ad bk md cr ow hd) [(0, .ref (a 1))] [] 0
  refine j_iconst g (v := 0) (by decide) dX3_coinsGiven_0 ?_
  refine j_istore_n g (lv' := [(1, .int (0 : Int32)), (0, .ref (a 1))]) (by decide) rfl dX3_coinsGiven_1 ?_
  refine j_iconst g (v := 0) (by decide) dX3_coinsGiven_2 ?_
  refine j_istore_n g (lv' := [(2, .int (0 : Int32)), (1, .int (0 : Int32)), (0, .ref (a 1))]) (by decide) rfl dX3_coinsGiven_3 ?_
  obtain ⟨n1, h⟩ := h
  refine j_sub [2, 1, 0] rfl ?_
  refine wk_X3_coinsGiven_4  g hret (fun x1_1 h => ?_) n1 (0 : Int32) (0 : Int32) h
  refine j_iload_n g 0 rfl dX3_coinsGiven_30 ?_
  exact hret.go dX3_coinsGiven_31 h

set_option maxRecDepth 20000 in
def wp_X3_forgetGiven_2  (sz : Int32) (K : (Nat → Int32) → Prop) (X : (Nat → Int32) → Prop) : Nat → Int32 → (Nat → Int32) → Prop
  | 0, _, _ => False
  | n + 1, x1, kg => ((sz ≤ x1 → X kg) ∧ (¬ sz ≤ x1 → (vp_in x1 6 ∧ wp_X3_forgetGiven_2 sz K X n (x1 + 1) (upd kg x1.toNatClampNeg (0 : Int32)))))
set_option maxRecDepth 20000 in
def wp_X3_forgetGiven  (sz : Int32) (kg : Nat → Int32) (K : (Nat → Int32) → Prop) : Prop :=
  ∃ n1 : Nat, wp_X3_forgetGiven_2 sz K (fun (kg_1 : Nat → Int32) => K kg_1) n1 (0 : Int32) kg
theorem dX3_forgetGiven_0 : decode cX3_forgetGiven 0 = .ok (.iconst 0, 1) := by decide +kernel
theorem dX3_forgetGiven_1 : decode cX3_forgetGiven 1 = .ok (.istore_n 1, 1) := by decide +kernel
theorem dX3_forgetGiven_2 : decode cX3_forgetGiven 2 = .ok (.iload_n 1, 1) := by decide +kernel
theorem dX3_forgetGiven_3 : decode cX3_forgetGiven 3 = .ok (.aload_n 0, 1) := by decide +kernel
theorem dX3_forgetGiven_4 : decode cX3_forgetGiven 4 = .ok (.getfield 24, 3) := by decide +kernel
theorem dX3_forgetGiven_7 : decode cX3_forgetGiven 7 = .ok (.if_icmp .ge 19, 3) := by decide +kernel
theorem dX3_forgetGiven_10 : decode cX3_forgetGiven 10 = .ok (.aload_n 0, 1) := by decide +kernel
theorem dX3_forgetGiven_11 : decode cX3_forgetGiven 11 = .ok (.getfield 11, 3) := by decide +kernel
theorem dX3_forgetGiven_14 : decode cX3_forgetGiven 14 = .ok (.iload_n 1, 1) := by decide +kernel
theorem dX3_forgetGiven_15 : decode cX3_forgetGiven 15 = .ok (.aaload, 1) := by decide +kernel
theorem dX3_forgetGiven_16 : decode cX3_forgetGiven 16 = .ok (.iconst 0, 1) := by decide +kernel
theorem dX3_forgetGiven_17 : decode cX3_forgetGiven 17 = .ok (.putfield 80, 3) := by decide +kernel
theorem dX3_forgetGiven_20 : decode cX3_forgetGiven 20 = .ok (.iinc 1 1, 3) := by decide +kernel
theorem dX3_forgetGiven_23 : decode cX3_forgetGiven 23 = .ok (.goto (-21), 3) := by decide +kernel
theorem dX3_forgetGiven_26 : decode cX3_forgetGiven 26 = .ok (.return_, 1) := by decide +kernel
set_option maxRecDepth 20000 in
set_option maxHeartbeats 4000000 in
theorem wk_X3_forgetGiven_2 {Γ : GT} {a : Nat → Nat} {q : Nat → ClassId}   {sz : Int32} {pr : Nat → Int32} {pm : Nat → Nat} {kv : Nat → Int32} {kn : Nat → Int32} {kr : Nat → Int32} {kt : Nat → Int32} {kb : Nat → Int32} {ks : Nat → Int32} {kj : Nat → Int32} {kw : Nat → Int32} {wd : Nat → Nat → Int64} {fw : Nat → Nat → Int32} {ad : Nat → Int32} {bk : Nat → Int32} {md : Int32} {cr : Int32} {ow : Int32} {hd : Int32} {K : (Nat → Int32) → Prop} {X : (Nat → Int32) → Prop} (g : gd Γ cX3_forgetGiven RX3 2 (rmz 0 0) q) (hret : rtV_1 Γ cX3_forgetGiven 2 (fun (kg : Nat → Int32) => (cgW a q sz pr pm kv kn kr kt kb ks kj kw kg wd fw ad bk md cr ow hd)) K) (hX : ∀ (kg : Nat → Int32) , X kg → jw Γ 2 0 0 (cgW a q sz pr pm kv kn kr kt kb ks kj kw kg wd fw ad bk md cr ow hd) [] [] 26) :
    ∀ (n : Nat) (x1 : Int32) (kg : Nat → Int32) , wp_X3_forgetGiven_2 sz K X n x1 kg → jw Γ 2 0 0 (cgW a q sz pr pm kv kn kr kt kb ks kj kw kg wd fw ad bk md cr ow hd) [(0, .ref (a 1)), (1, .int x1)] [] 2 := by
  intro n
  induction n with
  | zero =>
    intro _ _ h
    exact False.elim h
  | succ n ih =>
    intro x1 kg h
    unfold wp_X3_forgetGiven_2 at h
    refine j_iload_n g 1 rfl dX3_forgetGiven_2 ?_
    refine j_aload_n g 0 rfl dX3_forgetGiven_3 ?_
    refine j_get g fl_X3_24 1 cg_1 rfl dX3_forgetGiven_4 ?_
    refine j_icmp_ge g dX3_forgetGiven_7 (tgt := 26) (by decide) (fun c1 => ?_) (fun c1 => ?_)
    · replace h := h.1 c1
      refine j_sub [] rfl ?_
      exact hX kg h
    replace h := h.2 c1
    refine j_aload_n g 0 rfl dX3_forgetGiven_10 ?_
    refine j_get g fl_X3_11 1 cg_1 rfl dX3_forgetGiven_11 ?_
    refine j_iload_n g 1 rfl dX3_forgetGiven_14 ?_
    obtain ⟨hv2, h⟩ := h
    refine j_aald g 2 3 cg_2 rfl (by decide) hv2 rfl dX3_forgetGiven_15 ?_
    refine j_iconst g (v := 0) (by decide) dX3_forgetGiven_16 ?_
    refine j_put g fl_X3_80 fp_X0_8 (11 + x1.toNatClampNeg) (cg_K (vp_lt hv2)) rfl rfl (Nat.le_of_ble_eq_true rfl) (ws' := (cgW a q sz pr pm kv kn kr kt kb ks kj kw (upd kg x1.toNatClampNeg (0 : Int32)) wd fw ad bk md cr ow hd)) (cg_s_kg (vp_lt hv2)) dX3_forgetGiven_17 ?_
    refine j_iinc g 1 (n := 1) (v := x1 + 1) (lv' := [(1, .int (x1 + 1)), (0, .ref (a 1))]) rfl rfl (by decide) rfl dX3_forgetGiven_20 ?_
    refine j_goto g dX3_forgetGiven_23 (tgt := 2) (by decide) ?_
    refine j_sub [1, 0] rfl ?_
    exact ih (x1 + 1) (upd kg x1.toNatClampNeg (0 : Int32)) h
set_option maxRecDepth 20000 in
set_option maxHeartbeats 4000000 in
theorem c_X3_forgetGiven {a : Nat → Nat} {q : Nat → ClassId}   {sz : Int32} {pr : Nat → Int32} {pm : Nat → Nat} {kv : Nat → Int32} {kn : Nat → Int32} {kr : Nat → Int32} {kt : Nat → Int32} {kb : Nat → Int32} {ks : Nat → Int32} {kj : Nat → Int32} {kw : Nat → Int32} {kg : Nat → Int32} {wd : Nat → Nat → Int64} {fw : Nat → Nat → Int32} {ad : Nat → Int32} {bk : Nat → Int32} {md : Int32} {cr : Int32} {ow : Int32} {hd : Int32} {K : (Nat → Int32) → Prop} (h : wp_X3_forgetGiven sz kg K) : ctV_1 q yX3_forgetGiven cX3_forgetGiven 2 0 0 [.ref (a 1)] (cgW a q sz pr pm kv kn kr kt kb ks kj kw kg wd fw ad bk md cr ow hd) (fun (kg : Nat → Int32) => (cgW a q sz pr pm kv kn kr kt kb ks kj kw kg wd fw ad bk md cr ow hd)) K := by
  refine met_V_1 (by decide) (Nat.le_of_ble_eq_true rfl) (fun Γ g hret => ?_)
  unfold wp_X3_forgetGiven at h
  show jw Γ 2 0 0 (cgW a q sz pr pm kv kn kr kt kb ks kj kw kg wd fw ad bk md cr ow hd) [(0, .ref (a 1))] [] 0
  refine j_iconst g (v := 0) (by decide) dX3_forgetGiven_0 ?_
  refine j_istore_n g (lv' := [(1, .int (0 : Int32)), (0, .ref (a 1))]) (by decide) rfl dX3_forgetGiven_1 ?_
  obtain ⟨n1, h⟩ := h
  refine j_sub [1, 0] rfl ?_
  refine wk_X3_forgetGiven_2  g hret (fun kg_1 h => ?_) n1 (0 : Int32) kg h
  exact hret.go dX3_forgetGiven_26 h

set_option maxRecDepth 20000 in
def wp_X3_tubesValue_4  (sz : Int32) (kv : Nat → Int32) (kt : Nat → Int32) (K : Int32 → Prop) (X : Int32 → Prop) : Nat → Int32 → Int32 → Prop
  | 0, _, _ => False
  | n + 1, x1, x2 => ((sz ≤ x2 → X x1) ∧ (¬ sz ≤ x2 → (vp_in x2 6 ∧ (vp_in x2 6 ∧ wp_X3_tubesValue_4 sz kv kt K X n (x1 + ((kt x2.toNatClampNeg) * (kv x2.toNatClampNeg))) (x2 + 1)))))
set_option maxRecDepth 20000 in
def wp_X3_tubesValue  (sz : Int32) (kv : Nat → Int32) (kt : Nat → Int32) (K : Int32 → Prop) : Prop :=
  ∃ n1 : Nat, wp_X3_tubesValue_4 sz kv kt K (fun (x1_1 : Int32) => K x1_1) n1 (0 : Int32) (0 : Int32)
theorem dX3_tubesValue_0 : decode cX3_tubesValue 0 = .ok (.iconst 0, 1) := by decide +kernel
theorem dX3_tubesValue_1 : decode cX3_tubesValue 1 = .ok (.istore_n 1, 1) := by decide +kernel
theorem dX3_tubesValue_2 : decode cX3_tubesValue 2 = .ok (.iconst 0, 1) := by decide +kernel
theorem dX3_tubesValue_3 : decode cX3_tubesValue 3 = .ok (.istore_n 2, 1) := by decide +kernel
theorem dX3_tubesValue_4 : decode cX3_tubesValue 4 = .ok (.iload_n 2, 1) := by decide +kernel
theorem dX3_tubesValue_5 : decode cX3_tubesValue 5 = .ok (.aload_n 0, 1) := by decide +kernel
theorem dX3_tubesValue_6 : decode cX3_tubesValue 6 = .ok (.getfield 24, 3) := by decide +kernel
theorem dX3_tubesValue_9 : decode cX3_tubesValue 9 = .ok (.if_icmp .ge 31, 3) := by decide +kernel
theorem dX3_tubesValue_12 : decode cX3_tubesValue 12 = .ok (.iload_n 1, 1) := by decide +kernel
theorem dX3_tubesValue_13 : decode cX3_tubesValue 13 = .ok (.aload_n 0, 1) := by decide +kernel
theorem dX3_tubesValue_14 : decode cX3_tubesValue 14 = .ok (.getfield 11, 3) := by decide +kernel
theorem dX3_tubesValue_17 : decode cX3_tubesValue 17 = .ok (.iload_n 2, 1) := by decide +kernel
theorem dX3_tubesValue_18 : decode cX3_tubesValue 18 = .ok (.aaload, 1) := by decide +kernel
theorem dX3_tubesValue_19 : decode cX3_tubesValue 19 = .ok (.getfield 51, 3) := by decide +kernel
theorem dX3_tubesValue_22 : decode cX3_tubesValue 22 = .ok (.aload_n 0, 1) := by decide +kernel
theorem dX3_tubesValue_23 : decode cX3_tubesValue 23 = .ok (.getfield 11, 3) := by decide +kernel
theorem dX3_tubesValue_26 : decode cX3_tubesValue 26 = .ok (.iload_n 2, 1) := by decide +kernel
theorem dX3_tubesValue_27 : decode cX3_tubesValue 27 = .ok (.aaload, 1) := by decide +kernel
theorem dX3_tubesValue_28 : decode cX3_tubesValue 28 = .ok (.getfield 41, 3) := by decide +kernel
theorem dX3_tubesValue_31 : decode cX3_tubesValue 31 = .ok (.imul, 1) := by decide +kernel
theorem dX3_tubesValue_32 : decode cX3_tubesValue 32 = .ok (.iadd, 1) := by decide +kernel
theorem dX3_tubesValue_33 : decode cX3_tubesValue 33 = .ok (.istore_n 1, 1) := by decide +kernel
theorem dX3_tubesValue_34 : decode cX3_tubesValue 34 = .ok (.iinc 2 1, 3) := by decide +kernel
theorem dX3_tubesValue_37 : decode cX3_tubesValue 37 = .ok (.goto (-33), 3) := by decide +kernel
theorem dX3_tubesValue_40 : decode cX3_tubesValue 40 = .ok (.iload_n 1, 1) := by decide +kernel
theorem dX3_tubesValue_41 : decode cX3_tubesValue 41 = .ok (.ireturn, 1) := by decide +kernel
set_option maxRecDepth 20000 in
set_option maxHeartbeats 4000000 in
theorem wk_X3_tubesValue_4 {Γ : GT} {a : Nat → Nat} {q : Nat → ClassId}   {sz : Int32} {pr : Nat → Int32} {pm : Nat → Nat} {kv : Nat → Int32} {kn : Nat → Int32} {kr : Nat → Int32} {kt : Nat → Int32} {kb : Nat → Int32} {ks : Nat → Int32} {kj : Nat → Int32} {kw : Nat → Int32} {kg : Nat → Int32} {wd : Nat → Nat → Int64} {fw : Nat → Nat → Int32} {ad : Nat → Int32} {bk : Nat → Int32} {md : Int32} {cr : Int32} {ow : Int32} {hd : Int32} {K : Int32 → Prop} {X : Int32 → Prop} (g : gd Γ cX3_tubesValue RX3 3 (rmz 0 0) q) (hret : rtI_0 Γ cX3_tubesValue 3 (cgW a q sz pr pm kv kn kr kt kb ks kj kw kg wd fw ad bk md cr ow hd) K) (hX : ∀ (x1 : Int32) , X x1 → jw Γ 3 0 0 (cgW a q sz pr pm kv kn kr kt kb ks kj kw kg wd fw ad bk md cr ow hd) [(1, .int x1)] [] 40) :
    ∀ (n : Nat) (x1 : Int32) (x2 : Int32) , wp_X3_tubesValue_4 sz kv kt K X n x1 x2 → jw Γ 3 0 0 (cgW a q sz pr pm kv kn kr kt kb ks kj kw kg wd fw ad bk md cr ow hd) [(0, .ref (a 1)), (1, .int x1), (2, .int x2)] [] 4 := by
  intro n
  induction n with
  | zero =>
    intro _ _ h
    exact False.elim h
  | succ n ih =>
    intro x1 x2 h
    unfold wp_X3_tubesValue_4 at h
    refine j_iload_n g 2 rfl dX3_tubesValue_4 ?_
    refine j_aload_n g 0 rfl dX3_tubesValue_5 ?_
    refine j_get g fl_X3_24 1 cg_1 rfl dX3_tubesValue_6 ?_
    refine j_icmp_ge g dX3_tubesValue_9 (tgt := 40) (by decide) (fun c1 => ?_) (fun c1 => ?_)
    · replace h := h.1 c1
      refine j_sub [1] rfl ?_
      exact hX x1 h
    replace h := h.2 c1
    refine j_iload_n g 1 rfl dX3_tubesValue_12 ?_
    refine j_aload_n g 0 rfl dX3_tubesValue_13 ?_
    refine j_get g fl_X3_11 1 cg_1 rfl dX3_tubesValue_14 ?_
    refine j_iload_n g 2 rfl dX3_tubesValue_17 ?_
    obtain ⟨hv2, h⟩ := h
    refine j_aald g 2 3 cg_2 rfl (by decide) hv2 rfl dX3_tubesValue_18 ?_
    refine j_get g fl_X3_51 (11 + x2.toNatClampNeg) (cg_K (vp_lt hv2)) rfl dX3_tubesValue_19 ?_
    refine j_aload_n g 0 rfl dX3_tubesValue_22 ?_
    refine j_get g fl_X3_11 1 cg_1 rfl dX3_tubesValue_23 ?_
    refine j_iload_n g 2 rfl dX3_tubesValue_26 ?_
    obtain ⟨hv3, h⟩ := h
    refine j_aald g 2 3 cg_2 rfl (by decide) hv3 rfl dX3_tubesValue_27 ?_
    refine j_get g fl_X3_41 (11 + x2.toNatClampNeg) (cg_K (vp_lt hv3)) rfl dX3_tubesValue_28 ?_
    refine j_imul g dX3_tubesValue_31 ?_
    refine j_iadd g dX3_tubesValue_32 ?_
    refine j_istore_n g (lv' := [(1, .int (x1 + ((kt x2.toNatClampNeg) * (kv x2.toNatClampNeg)))), (0, .ref (a 1)), (2, .int x2)]) (by decide) rfl dX3_tubesValue_33 ?_
    refine j_iinc g 2 (n := 1) (v := x2 + 1) (lv' := [(2, .int (x2 + 1)), (1, .int (x1 + ((kt x2.toNatClampNeg) * (kv x2.toNatClampNeg)))), (0, .ref (a 1))]) rfl rfl (by decide) rfl dX3_tubesValue_34 ?_
    refine j_goto g dX3_tubesValue_37 (tgt := 4) (by decide) ?_
    refine j_sub [2, 1, 0] rfl ?_
    exact ih (x1 + ((kt x2.toNatClampNeg) * (kv x2.toNatClampNeg))) (x2 + 1) h
set_option maxRecDepth 20000 in
set_option maxHeartbeats 4000000 in
theorem c_X3_tubesValue {a : Nat → Nat} {q : Nat → ClassId}   {sz : Int32} {pr : Nat → Int32} {pm : Nat → Nat} {kv : Nat → Int32} {kn : Nat → Int32} {kr : Nat → Int32} {kt : Nat → Int32} {kb : Nat → Int32} {ks : Nat → Int32} {kj : Nat → Int32} {kw : Nat → Int32} {kg : Nat → Int32} {wd : Nat → Nat → Int64} {fw : Nat → Nat → Int32} {ad : Nat → Int32} {bk : Nat → Int32} {md : Int32} {cr : Int32} {ow : Int32} {hd : Int32} {K : Int32 → Prop} (h : wp_X3_tubesValue sz kv kt K) : ctI_0 q yX3_tubesValue cX3_tubesValue 3 0 0 [.ref (a 1)] (cgW a q sz pr pm kv kn kr kt kb ks kj kw kg wd fw ad bk md cr ow hd) (cgW a q sz pr pm kv kn kr kt kb ks kj kw kg wd fw ad bk md cr ow hd) K := by
  refine met_I_0 (by decide) (Nat.le_of_ble_eq_true rfl) (fun Γ g hret => ?_)
  unfold wp_X3_tubesValue at h
  show jw Γ 3 0 0 (cgW a q sz pr pm kv kn kr kt kb ks kj kw kg wd fw ad bk md cr ow hd) [(0, .ref (a 1))] [] 0
  refine j_iconst g (v := 0) (by decide) dX3_tubesValue_0 ?_
  refine j_istore_n g (lv' := [(1, .int (0 : Int32)), (0, .ref (a 1))]) (by decide) rfl dX3_tubesValue_1 ?_
  refine j_iconst g (v := 0) (by decide) dX3_tubesValue_2 ?_
  refine j_istore_n g (lv' := [(2, .int (0 : Int32)), (1, .int (0 : Int32)), (0, .ref (a 1))]) (by decide) rfl dX3_tubesValue_3 ?_
  obtain ⟨n1, h⟩ := h
  refine j_sub [2, 1, 0] rfl ?_
  refine wk_X3_tubesValue_4  g hret (fun x1_1 h => ?_) n1 (0 : Int32) (0 : Int32) h
  refine j_iload_n g 0 rfl dX3_tubesValue_40 ?_
  exact hret.go dX3_tubesValue_41 h

set_option maxRecDepth 20000 in
def wp_X3_boxValue_4  (sz : Int32) (kv : Nat → Int32) (kb : Nat → Int32) (K : Int32 → Prop) (X : Int32 → Prop) : Nat → Int32 → Int32 → Prop
  | 0, _, _ => False
  | n + 1, x1, x2 => ((sz ≤ x2 → X x1) ∧ (¬ sz ≤ x2 → (vp_in x2 6 ∧ (vp_in x2 6 ∧ wp_X3_boxValue_4 sz kv kb K X n (x1 + ((kb x2.toNatClampNeg) * (kv x2.toNatClampNeg))) (x2 + 1)))))
set_option maxRecDepth 20000 in
def wp_X3_boxValue  (sz : Int32) (kv : Nat → Int32) (kb : Nat → Int32) (K : Int32 → Prop) : Prop :=
  ∃ n1 : Nat, wp_X3_boxValue_4 sz kv kb K (fun (x1_1 : Int32) => K x1_1) n1 (0 : Int32) (0 : Int32)
theorem dX3_boxValue_0 : decode cX3_boxValue 0 = .ok (.iconst 0, 1) := by decide +kernel
theorem dX3_boxValue_1 : decode cX3_boxValue 1 = .ok (.istore_n 1, 1) := by decide +kernel
theorem dX3_boxValue_2 : decode cX3_boxValue 2 = .ok (.iconst 0, 1) := by decide +kernel
theorem dX3_boxValue_3 : decode cX3_boxValue 3 = .ok (.istore_n 2, 1) := by decide +kernel
theorem dX3_boxValue_4 : decode cX3_boxValue 4 = .ok (.iload_n 2, 1) := by decide +kernel
theorem dX3_boxValue_5 : decode cX3_boxValue 5 = .ok (.aload_n 0, 1) := by decide +kernel
theorem dX3_boxValue_6 : decode cX3_boxValue 6 = .ok (.getfield 24, 3) := by decide +kernel
theorem dX3_boxValue_9 : decode cX3_boxValue 9 = .ok (.if_icmp .ge 31, 3) := by decide +kernel
theorem dX3_boxValue_12 : decode cX3_boxValue 12 = .ok (.iload_n 1, 1) := by decide +kernel
theorem dX3_boxValue_13 : decode cX3_boxValue 13 = .ok (.aload_n 0, 1) := by decide +kernel
theorem dX3_boxValue_14 : decode cX3_boxValue 14 = .ok (.getfield 11, 3) := by decide +kernel
theorem dX3_boxValue_17 : decode cX3_boxValue 17 = .ok (.iload_n 2, 1) := by decide +kernel
theorem dX3_boxValue_18 : decode cX3_boxValue 18 = .ok (.aaload, 1) := by decide +kernel
theorem dX3_boxValue_19 : decode cX3_boxValue 19 = .ok (.getfield 83, 3) := by decide +kernel
theorem dX3_boxValue_22 : decode cX3_boxValue 22 = .ok (.aload_n 0, 1) := by decide +kernel
theorem dX3_boxValue_23 : decode cX3_boxValue 23 = .ok (.getfield 11, 3) := by decide +kernel
theorem dX3_boxValue_26 : decode cX3_boxValue 26 = .ok (.iload_n 2, 1) := by decide +kernel
theorem dX3_boxValue_27 : decode cX3_boxValue 27 = .ok (.aaload, 1) := by decide +kernel
theorem dX3_boxValue_28 : decode cX3_boxValue 28 = .ok (.getfield 41, 3) := by decide +kernel
theorem dX3_boxValue_31 : decode cX3_boxValue 31 = .ok (.imul, 1) := by decide +kernel
theorem dX3_boxValue_32 : decode cX3_boxValue 32 = .ok (.iadd, 1) := by decide +kernel
theorem dX3_boxValue_33 : decode cX3_boxValue 33 = .ok (.istore_n 1, 1) := by decide +kernel
theorem dX3_boxValue_34 : decode cX3_boxValue 34 = .ok (.iinc 2 1, 3) := by decide +kernel
theorem dX3_boxValue_37 : decode cX3_boxValue 37 = .ok (.goto (-33), 3) := by decide +kernel
theorem dX3_boxValue_40 : decode cX3_boxValue 40 = .ok (.iload_n 1, 1) := by decide +kernel
theorem dX3_boxValue_41 : decode cX3_boxValue 41 = .ok (.ireturn, 1) := by decide +kernel
set_option maxRecDepth 20000 in
set_option maxHeartbeats 4000000 in
theorem wk_X3_boxValue_4 {Γ : GT} {a : Nat → Nat} {q : Nat → ClassId}   {sz : Int32} {pr : Nat → Int32} {pm : Nat → Nat} {kv : Nat → Int32} {kn : Nat → Int32} {kr : Nat → Int32} {kt : Nat → Int32} {kb : Nat → Int32} {ks : Nat → Int32} {kj : Nat → Int32} {kw : Nat → Int32} {kg : Nat → Int32} {wd : Nat → Nat → Int64} {fw : Nat → Nat → Int32} {ad : Nat → Int32} {bk : Nat → Int32} {md : Int32} {cr : Int32} {ow : Int32} {hd : Int32} {K : Int32 → Prop} {X : Int32 → Prop} (g : gd Γ cX3_boxValue RX3 3 (rmz 0 0) q) (hret : rtI_0 Γ cX3_boxValue 3 (cgW a q sz pr pm kv kn kr kt kb ks kj kw kg wd fw ad bk md cr ow hd) K) (hX : ∀ (x1 : Int32) , X x1 → jw Γ 3 0 0 (cgW a q sz pr pm kv kn kr kt kb ks kj kw kg wd fw ad bk md cr ow hd) [(1, .int x1)] [] 40) :
    ∀ (n : Nat) (x1 : Int32) (x2 : Int32) , wp_X3_boxValue_4 sz kv kb K X n x1 x2 → jw Γ 3 0 0 (cgW a q sz pr pm kv kn kr kt kb ks kj kw kg wd fw ad bk md cr ow hd) [(0, .ref (a 1)), (1, .int x1), (2, .int x2)] [] 4 := by
  intro n
  induction n with
  | zero =>
    intro _ _ h
    exact False.elim h
  | succ n ih =>
    intro x1 x2 h
    unfold wp_X3_boxValue_4 at h
    refine j_iload_n g 2 rfl dX3_boxValue_4 ?_
    refine j_aload_n g 0 rfl dX3_boxValue_5 ?_
    refine j_get g fl_X3_24 1 cg_1 rfl dX3_boxValue_6 ?_
    refine j_icmp_ge g dX3_boxValue_9 (tgt := 40) (by decide) (fun c1 => ?_) (fun c1 => ?_)
    · replace h := h.1 c1
      refine j_sub [1] rfl ?_
      exact hX x1 h
    replace h := h.2 c1
    refine j_iload_n g 1 rfl dX3_boxValue_12 ?_
    refine j_aload_n g 0 rfl dX3_boxValue_13 ?_
    refine j_get g fl_X3_11 1 cg_1 rfl dX3_boxValue_14 ?_
    refine j_iload_n g 2 rfl dX3_boxValue_17 ?_
    obtain ⟨hv2, h⟩ := h
    refine j_aald g 2 3 cg_2 rfl (by decide) hv2 rfl dX3_boxValue_18 ?_
    refine j_get g fl_X3_83 (11 + x2.toNatClampNeg) (cg_K (vp_lt hv2)) rfl dX3_boxValue_19 ?_
    refine j_aload_n g 0 rfl dX3_boxValue_22 ?_
    refine j_get g fl_X3_11 1 cg_1 rfl dX3_boxValue_23 ?_
    refine j_iload_n g 2 rfl dX3_boxValue_26 ?_
    obtain ⟨hv3, h⟩ := h
    refine j_aald g 2 3 cg_2 rfl (by decide) hv3 rfl dX3_boxValue_27 ?_
    refine j_get g fl_X3_41 (11 + x2.toNatClampNeg) (cg_K (vp_lt hv3)) rfl dX3_boxValue_28 ?_
    refine j_imul g dX3_boxValue_31 ?_
    refine j_iadd g dX3_boxValue_32 ?_
    refine j_istore_n g (lv' := [(1, .int (x1 + ((kb x2.toNatClampNeg) * (kv x2.toNatClampNeg)))), (0, .ref (a 1)), (2, .int x2)]) (by decide) rfl dX3_boxValue_33 ?_
    refine j_iinc g 2 (n := 1) (v := x2 + 1) (lv' := [(2, .int (x2 + 1)), (1, .int (x1 + ((kb x2.toNatClampNeg) * (kv x2.toNatClampNeg)))), (0, .ref (a 1))]) rfl rfl (by decide) rfl dX3_boxValue_34 ?_
    refine j_goto g dX3_boxValue_37 (tgt := 4) (by decide) ?_
    refine j_sub [2, 1, 0] rfl ?_
    exact ih (x1 + ((kb x2.toNatClampNeg) * (kv x2.toNatClampNeg))) (x2 + 1) h
set_option maxRecDepth 20000 in
set_option maxHeartbeats 4000000 in
theorem c_X3_boxValue {a : Nat → Nat} {q : Nat → ClassId}   {sz : Int32} {pr : Nat → Int32} {pm : Nat → Nat} {kv : Nat → Int32} {kn : Nat → Int32} {kr : Nat → Int32} {kt : Nat → Int32} {kb : Nat → Int32} {ks : Nat → Int32} {kj : Nat → Int32} {kw : Nat → Int32} {kg : Nat → Int32} {wd : Nat → Nat → Int64} {fw : Nat → Nat → Int32} {ad : Nat → Int32} {bk : Nat → Int32} {md : Int32} {cr : Int32} {ow : Int32} {hd : Int32} {K : Int32 → Prop} (h : wp_X3_boxValue sz kv kb K) : ctI_0 q yX3_boxValue cX3_boxValue 3 0 0 [.ref (a 1)] (cgW a q sz pr pm kv kn kr kt kb ks kj kw kg wd fw ad bk md cr ow hd) (cgW a q sz pr pm kv kn kr kt kb ks kj kw kg wd fw ad bk md cr ow hd) K := by
  refine met_I_0 (by decide) (Nat.le_of_ble_eq_true rfl) (fun Γ g hret => ?_)
  unfold wp_X3_boxValue at h
  show jw Γ 3 0 0 (cgW a q sz pr pm kv kn kr kt kb ks kj kw kg wd fw ad bk md cr ow hd) [(0, .ref (a 1))] [] 0
  refine j_iconst g (v := 0) (by decide) dX3_boxValue_0 ?_
  refine j_istore_n g (lv' := [(1, .int (0 : Int32)), (0, .ref (a 1))]) (by decide) rfl dX3_boxValue_1 ?_
  refine j_iconst g (v := 0) (by decide) dX3_boxValue_2 ?_
  refine j_istore_n g (lv' := [(2, .int (0 : Int32)), (1, .int (0 : Int32)), (0, .ref (a 1))]) (by decide) rfl dX3_boxValue_3 ?_
  obtain ⟨n1, h⟩ := h
  refine j_sub [2, 1, 0] rfl ?_
  refine wk_X3_boxValue_4  g hret (fun x1_1 h => ?_) n1 (0 : Int32) (0 : Int32) h
  refine j_iload_n g 0 rfl dX3_boxValue_40 ?_
  exact hret.go dX3_boxValue_41 h

set_option maxRecDepth 20000 in
def wp_X3_clearBox_2  (sz : Int32) (K : (Nat → Int32) → Prop) (X : (Nat → Int32) → Prop) : Nat → Int32 → (Nat → Int32) → Prop
  | 0, _, _ => False
  | n + 1, x1, kb => ((sz ≤ x1 → X kb) ∧ (¬ sz ≤ x1 → (vp_in x1 6 ∧ wp_X3_clearBox_2 sz K X n (x1 + 1) (upd kb x1.toNatClampNeg (0 : Int32)))))
set_option maxRecDepth 20000 in
def wp_X3_clearBox  (sz : Int32) (kb : Nat → Int32) (K : (Nat → Int32) → Prop) : Prop :=
  ∃ n1 : Nat, wp_X3_clearBox_2 sz K (fun (kb_1 : Nat → Int32) => K kb_1) n1 (0 : Int32) kb
theorem dX3_clearBox_0 : decode cX3_clearBox 0 = .ok (.iconst 0, 1) := by decide +kernel
theorem dX3_clearBox_1 : decode cX3_clearBox 1 = .ok (.istore_n 1, 1) := by decide +kernel
theorem dX3_clearBox_2 : decode cX3_clearBox 2 = .ok (.iload_n 1, 1) := by decide +kernel
theorem dX3_clearBox_3 : decode cX3_clearBox 3 = .ok (.aload_n 0, 1) := by decide +kernel
theorem dX3_clearBox_4 : decode cX3_clearBox 4 = .ok (.getfield 24, 3) := by decide +kernel
theorem dX3_clearBox_7 : decode cX3_clearBox 7 = .ok (.if_icmp .ge 19, 3) := by decide +kernel
theorem dX3_clearBox_10 : decode cX3_clearBox 10 = .ok (.aload_n 0, 1) := by decide +kernel
theorem dX3_clearBox_11 : decode cX3_clearBox 11 = .ok (.getfield 11, 3) := by decide +kernel
theorem dX3_clearBox_14 : decode cX3_clearBox 14 = .ok (.iload_n 1, 1) := by decide +kernel
theorem dX3_clearBox_15 : decode cX3_clearBox 15 = .ok (.aaload, 1) := by decide +kernel
theorem dX3_clearBox_16 : decode cX3_clearBox 16 = .ok (.iconst 0, 1) := by decide +kernel
theorem dX3_clearBox_17 : decode cX3_clearBox 17 = .ok (.putfield 83, 3) := by decide +kernel
theorem dX3_clearBox_20 : decode cX3_clearBox 20 = .ok (.iinc 1 1, 3) := by decide +kernel
theorem dX3_clearBox_23 : decode cX3_clearBox 23 = .ok (.goto (-21), 3) := by decide +kernel
theorem dX3_clearBox_26 : decode cX3_clearBox 26 = .ok (.return_, 1) := by decide +kernel
set_option maxRecDepth 20000 in
set_option maxHeartbeats 4000000 in
theorem wk_X3_clearBox_2 {Γ : GT} {a : Nat → Nat} {q : Nat → ClassId}   {sz : Int32} {pr : Nat → Int32} {pm : Nat → Nat} {kv : Nat → Int32} {kn : Nat → Int32} {kr : Nat → Int32} {kt : Nat → Int32} {ks : Nat → Int32} {kj : Nat → Int32} {kw : Nat → Int32} {kg : Nat → Int32} {wd : Nat → Nat → Int64} {fw : Nat → Nat → Int32} {ad : Nat → Int32} {bk : Nat → Int32} {md : Int32} {cr : Int32} {ow : Int32} {hd : Int32} {K : (Nat → Int32) → Prop} {X : (Nat → Int32) → Prop} (g : gd Γ cX3_clearBox RX3 2 (rmz 0 0) q) (hret : rtV_1 Γ cX3_clearBox 2 (fun (kb : Nat → Int32) => (cgW a q sz pr pm kv kn kr kt kb ks kj kw kg wd fw ad bk md cr ow hd)) K) (hX : ∀ (kb : Nat → Int32) , X kb → jw Γ 2 0 0 (cgW a q sz pr pm kv kn kr kt kb ks kj kw kg wd fw ad bk md cr ow hd) [] [] 26) :
    ∀ (n : Nat) (x1 : Int32) (kb : Nat → Int32) , wp_X3_clearBox_2 sz K X n x1 kb → jw Γ 2 0 0 (cgW a q sz pr pm kv kn kr kt kb ks kj kw kg wd fw ad bk md cr ow hd) [(0, .ref (a 1)), (1, .int x1)] [] 2 := by
  intro n
  induction n with
  | zero =>
    intro _ _ h
    exact False.elim h
  | succ n ih =>
    intro x1 kb h
    unfold wp_X3_clearBox_2 at h
    refine j_iload_n g 1 rfl dX3_clearBox_2 ?_
    refine j_aload_n g 0 rfl dX3_clearBox_3 ?_
    refine j_get g fl_X3_24 1 cg_1 rfl dX3_clearBox_4 ?_
    refine j_icmp_ge g dX3_clearBox_7 (tgt := 26) (by decide) (fun c1 => ?_) (fun c1 => ?_)
    · replace h := h.1 c1
      refine j_sub [] rfl ?_
      exact hX kb h
    replace h := h.2 c1
    refine j_aload_n g 0 rfl dX3_clearBox_10 ?_
    refine j_get g fl_X3_11 1 cg_1 rfl dX3_clearBox_11 ?_
    refine j_iload_n g 1 rfl dX3_clearBox_14 ?_
    obtain ⟨hv2, h⟩ := h
    refine j_aald g 2 3 cg_2 rfl (by decide) hv2 rfl dX3_clearBox_15 ?_
    refine j_iconst g (v := 0) (by decide) dX3_clearBox_16 ?_
    refine j_put g fl_X3_83 fp_X0_4 (11 + x1.toNatClampNeg) (cg_K (vp_lt hv2)) rfl rfl (Nat.le_of_ble_eq_true rfl) (ws' := (cgW a q sz pr pm kv kn kr kt (upd kb x1.toNatClampNeg (0 : Int32)) ks kj kw kg wd fw ad bk md cr ow hd)) (cg_s_kb (vp_lt hv2)) dX3_clearBox_17 ?_
    refine j_iinc g 1 (n := 1) (v := x1 + 1) (lv' := [(1, .int (x1 + 1)), (0, .ref (a 1))]) rfl rfl (by decide) rfl dX3_clearBox_20 ?_
    refine j_goto g dX3_clearBox_23 (tgt := 2) (by decide) ?_
    refine j_sub [1, 0] rfl ?_
    exact ih (x1 + 1) (upd kb x1.toNatClampNeg (0 : Int32)) h
set_option maxRecDepth 20000 in
set_option maxHeartbeats 4000000 in
theorem c_X3_clearBox {a : Nat → Nat} {q : Nat → ClassId}   {sz : Int32} {pr : Nat → Int32} {pm : Nat → Nat} {kv : Nat → Int32} {kn : Nat → Int32} {kr : Nat → Int32} {kt : Nat → Int32} {kb : Nat → Int32} {ks : Nat → Int32} {kj : Nat → Int32} {kw : Nat → Int32} {kg : Nat → Int32} {wd : Nat → Nat → Int64} {fw : Nat → Nat → Int32} {ad : Nat → Int32} {bk : Nat → Int32} {md : Int32} {cr : Int32} {ow : Int32} {hd : Int32} {K : (Nat → Int32) → Prop} (h : wp_X3_clearBox sz kb K) : ctV_1 q yX3_clearBox cX3_clearBox 2 0 0 [.ref (a 1)] (cgW a q sz pr pm kv kn kr kt kb ks kj kw kg wd fw ad bk md cr ow hd) (fun (kb : Nat → Int32) => (cgW a q sz pr pm kv kn kr kt kb ks kj kw kg wd fw ad bk md cr ow hd)) K := by
  refine met_V_1 (by decide) (Nat.le_of_ble_eq_true rfl) (fun Γ g hret => ?_)
  unfold wp_X3_clearBox at h
  show jw Γ 2 0 0 (cgW a q sz pr pm kv kn kr kt kb ks kj kw kg wd fw ad bk md cr ow hd) [(0, .ref (a 1))] [] 0
  refine j_iconst g (v := 0) (by decide) dX3_clearBox_0 ?_
  refine j_istore_n g (lv' := [(1, .int (0 : Int32)), (0, .ref (a 1))]) (by decide) rfl dX3_clearBox_1 ?_
  obtain ⟨n1, h⟩ := h
  refine j_sub [1, 0] rfl ?_
  refine wk_X3_clearBox_2  g hret (fun kb_1 h => ?_) n1 (0 : Int32) kb h
  exact hret.go dX3_clearBox_26 h
