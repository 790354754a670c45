set_option maxRecDepth 20000 in
def wp_X6_isLit_2  (mnk : Int32) (mva : Nat → Int32) (mno : Nat → Int32) (mro : Nat → Int32) (mst : Nat → Int32) (mpr : Nat → Int32) (K : Int32 → (Nat → Int32) → (Nat → Int32) → (Nat → Int32) → Prop) (X : (Nat → Int32) → (Nat → Int32) → (Nat → Int32) → Prop) : Nat → Int32 → (Nat → Int32) → (Nat → Int32) → (Nat → Int32) → Prop
  | 0, _, _, _, _ => False
  | n + 1, x1, mtu, mca, mfr => ((mnk ≤ x1 → X mtu mca mfr) ∧ (¬ mnk ≤ x1 → wp_X6_wouldTake x1 (0 : Int32) (0 : Int32) mnk mva mno mro mtu mst mpr mca mfr (fun (r_2 : Int32) (mtu_2 : Nat → Int32) (mca_2 : Nat → Int32) (mfr_2 : Nat → Int32) => ((¬ r_2 = 0 → wp_X6_isLit_2 mnk mva mno mro mst mpr K X n (x1 + 1) mtu_2 mca_2 mfr_2) ∧ (r_2 = 0 → K (1 : Int32) mtu_2 mca_2 mfr_2)))))
set_option maxRecDepth 20000 in
def wp_X6_isLit  (mnk : Int32) (mva : Nat → Int32) (mno : Nat → Int32) (mro : Nat → Int32) (mtu : Nat → Int32) (mst : Nat → Int32) (mpr : Nat → Int32) (mca : Nat → Int32) (mfr : Nat → Int32) (K : Int32 → (Nat → Int32) → (Nat → Int32) → (Nat → Int32) → Prop) : Prop :=
  ∃ n1 : Nat, wp_X6_isLit_2 mnk mva mno mro mst mpr K (fun (mtu_1 : Nat → Int32) (mca_1 : Nat → Int32) (mfr_1 : Nat → Int32) => K (0 : Int32) mtu_1 mca_1 mfr_1) n1 (0 : Int32) mtu mca mfr
theorem dX6_isLit_0 : decode cX6_isLit 0 = .ok (.iconst 0, 1) := by decide +kernel
theorem dX6_isLit_1 : decode cX6_isLit 1 = .ok (.istore_n 1, 1) := by decide +kernel
theorem dX6_isLit_2 : decode cX6_isLit 2 = .ok (.iload_n 1, 1) := by decide +kernel
theorem dX6_isLit_3 : decode cX6_isLit 3 = .ok (.aload_n 0, 1) := by decide +kernel
theorem dX6_isLit_4 : decode cX6_isLit 4 = .ok (.getfield 66, 3) := by decide +kernel
theorem dX6_isLit_7 : decode cX6_isLit 7 = .ok (.if_icmp .ge 21, 3) := by decide +kernel
theorem dX6_isLit_10 : decode cX6_isLit 10 = .ok (.aload_n 0, 1) := by decide +kernel
theorem dX6_isLit_11 : decode cX6_isLit 11 = .ok (.iload_n 1, 1) := by decide +kernel
theorem dX6_isLit_12 : decode cX6_isLit 12 = .ok (.iconst 0, 1) := by decide +kernel
theorem dX6_isLit_13 : decode cX6_isLit 13 = .ok (.iconst 0, 1) := by decide +kernel
theorem dX6_isLit_14 : decode cX6_isLit 14 = .ok (.invokevirtual 110, 3) := by decide +kernel
theorem dX6_isLit_17 : decode cX6_isLit 17 = .ok (.ifCond .ne 5, 3) := by decide +kernel
theorem dX6_isLit_20 : decode cX6_isLit 20 = .ok (.iconst 1, 1) := by decide +kernel
theorem dX6_isLit_21 : decode cX6_isLit 21 = .ok (.ireturn, 1) := by decide +kernel
theorem dX6_isLit_22 : decode cX6_isLit 22 = .ok (.iinc 1 1, 3) := by decide +kernel
theorem dX6_isLit_25 : decode cX6_isLit 25 = .ok (.goto (-23), 3) := by decide +kernel
theorem dX6_isLit_28 : decode cX6_isLit 28 = .ok (.iconst 0, 1) := by decide +kernel
theorem dX6_isLit_29 : decode cX6_isLit 29 = .ok (.ireturn, 1) := by decide +kernel
set_option maxRecDepth 20000 in
set_option maxHeartbeats 4000000 in
theorem wk_X6_isLit_2 {Γ : GT} {a : Nat → Nat} {q : Nat → ClassId}   {mtd : Int32} {mnk : Int32} {mva : Nat → Int32} {mno : Nat → Int32} {mro : Nat → Int32} {mbx : Nat → Int32} {mst : Nat → Int32} {mja : Nat → Int32} {mpr : Nat → Int32} {mcr : Int32} {mow : Int32} {mhd : Int32} {mmo : Int32} {mbk : Nat → Int32} {mrs : Int32} {mrk : Nat → Int32} {mfe : Nat → Int32} {mus : Nat → Int32} {mgi : Nat → Int32} {maj : Nat → Int32} {K : Int32 → (Nat → Int32) → (Nat → Int32) → (Nat → Int32) → Prop} {X : (Nat → Int32) → (Nat → Int32) → (Nat → Int32) → Prop} (g : gd Γ cX6_isLit RX6 2 (rmz 2 49) q) (hret : rtZ_3 Γ cX6_isLit 2 (fun (mtu : Nat → Int32) (mca : Nat → Int32) (mfr : Nat → Int32) => (mdW a q mtd mnk mva mno mro mtu mbx mst mja mpr mcr mow mhd mmo mbk mca mfr mrs mrk mfe mus mgi maj)) K) (hX : ∀ (mtu : Nat → Int32) (mca : Nat → Int32) (mfr : Nat → Int32) , X mtu mca mfr → jw Γ 2 0 0 (mdW a q mtd mnk mva mno mro mtu mbx mst mja mpr mcr mow mhd mmo mbk mca mfr mrs mrk mfe mus mgi maj) [] [] 28) :
    ∀ (n : Nat) (x1 : Int32) (mtu : Nat → Int32) (mca : Nat → Int32) (mfr : Nat → Int32) , wp_X6_isLit_2 mnk mva mno mro mst mpr K X n x1 mtu mca mfr → jw Γ 2 0 0 (mdW a q mtd mnk mva mno mro mtu mbx mst mja mpr mcr mow mhd mmo mbk mca mfr mrs mrk mfe mus mgi maj) [(0, .ref (a 0)), (1, .int x1)] [] 2 := by
  intro n
  induction n with
  | zero =>
    intro _ _ _ _ h
    exact False.elim h
  | succ n ih =>
    intro x1 mtu mca mfr h
    unfold wp_X6_isLit_2 at h
    refine j_iload_n g 1 rfl dX6_isLit_2 ?_
    refine j_aload_n g 0 rfl dX6_isLit_3 ?_
    refine j_get g fl_X6_66 0 md_0 rfl dX6_isLit_4 ?_
    refine j_icmp_ge g dX6_isLit_7 (tgt := 28) (by decide) (fun c1 => ?_) (fun c1 => ?_)
    · replace h := h.1 c1
      refine j_sub [] rfl ?_
      exact hX mtu mca mfr h
    replace h := h.2 c1
    refine j_aload_n g 0 rfl dX6_isLit_10 ?_
    refine j_iload_n g 1 rfl dX6_isLit_11 ?_
    refine j_iconst g (v := 0) (by decide) dX6_isLit_12 ?_
    refine j_iconst g (v := 0) (by decide) dX6_isLit_13 ?_
    refine j_callVZ_3 g (As := [.int x1, .int (0 : Int32), .int (0 : Int32)]) (st := []) (c_X6_wouldTake  h) cl_X6_110 0 6 md_0 rfl rfl (Nat.le_of_ble_eq_true rfl) (Nat.le_of_ble_eq_true rfl) (Nat.zero_le _) (Nat.zero_le _) rfl rfl (Nat.le_of_ble_eq_true rfl) dX6_isLit_14 (fun r_2 mtu_2 mca_2 mfr_2 hz_2 h => ?_)
    refine j_ws (ws' := (mdW a q mtd mnk mva mno mro mtu_2 mbx mst mja mpr mcr mow mhd mmo mbk mca_2 mfr_2 mrs mrk mfe mus mgi maj)) rfl ?_
    refine j_if_ne g dX6_isLit_17 (tgt := 22) (by decide) (fun c3 => ?_) (fun c3 => ?_)
    rotate_left
    · replace h := h.2 c3
      refine j_iconst g (v := 1) (by decide) dX6_isLit_20 ?_
      exact hret.go dX6_isLit_21 (Or.inr rfl) h
    replace h := h.1 c3
    refine j_iinc g 1 (n := 1) (v := x1 + 1) (lv' := [(1, .int (x1 + 1)), (0, .ref (a 0))]) rfl rfl (by decide) rfl dX6_isLit_22 ?_
    refine j_goto g dX6_isLit_25 (tgt := 2) (by decide) ?_
    refine j_sub [1, 0] rfl ?_
    exact ih (x1 + 1) mtu_2 mca_2 mfr_2 h
set_option maxRecDepth 20000 in
set_option maxHeartbeats 4000000 in
theorem c_X6_isLit {a : Nat → Nat} {q : Nat → ClassId}   {mtd : Int32} {mnk : Int32} {mva : Nat → Int32} {mno : Nat → Int32} {mro : Nat → Int32} {mtu : Nat → Int32} {mbx : Nat → Int32} {mst : Nat → Int32} {mja : Nat → Int32} {mpr : Nat → Int32} {mcr : Int32} {mow : Int32} {mhd : Int32} {mmo : Int32} {mbk : Nat → Int32} {mca : Nat → Int32} {mfr : Nat → Int32} {mrs : Int32} {mrk : Nat → Int32} {mfe : Nat → Int32} {mus : Nat → Int32} {mgi : Nat → Int32} {maj : Nat → Int32} {K : Int32 → (Nat → Int32) → (Nat → Int32) → (Nat → Int32) → Prop} (h : wp_X6_isLit mnk mva mno mro mtu mst mpr mca mfr K) : ctZ_3 q yX6_isLit cX6_isLit 2 2 49 [.ref (a 0)] (mdW a q mtd mnk mva mno mro mtu mbx mst mja mpr mcr mow mhd mmo mbk mca mfr mrs mrk mfe mus mgi maj) (fun (mtu : Nat → Int32) (mca : Nat → Int32) (mfr : Nat → Int32) => (mdW a q mtd mnk mva mno mro mtu mbx mst mja mpr mcr mow mhd mmo mbk mca mfr mrs mrk mfe mus mgi maj)) K := by
  refine met_Z_3 (by decide) (Nat.le_of_ble_eq_true rfl) (fun Γ g hret => ?_)
  unfold wp_X6_isLit at h
  show jw Γ 2 0 0 (mdW a q mtd mnk mva mno mro mtu mbx mst mja mpr mcr mow mhd mmo mbk mca mfr mrs mrk mfe mus mgi maj) [(0, .ref (a 0))] [] 0
  refine j_iconst g (v := 0) (by decide) dX6_isLit_0 ?_
  refine j_istore_n g (lv' := [(1, .int (0 : Int32)), (0, .ref (a 0))]) (by decide) rfl dX6_isLit_1 ?_
  obtain ⟨n1, h⟩ := h
  refine j_sub [1, 0] rfl ?_
  refine wk_X6_isLit_2  g hret (fun mtu_1 mca_1 mfr_1 h => ?_) n1 (0 : Int32) mtu mca mfr h
  refine j_iconst g (v := 0) (by decide) dX6_isLit_28 ?_
  exact hret.go dX6_isLit_29 (Or.inl rfl) h

set_option maxRecDepth 20000 in
def wp_X6_light  (mtd : Int32) (mnk : Int32) (mva : Nat → Int32) (mno : Nat → Int32) (mro : Nat → Int32) (mtu : Nat → Int32) (mst : Nat → Int32) (mpr : Nat → Int32) (mca : Nat → Int32) (mfr : Nat → Int32) (K : Int32 → Int32 → (Nat → Int32) → (Nat → Int32) → (Nat → Int32) → Prop) : Prop :=
  wp_X6_isLit mnk mva mno mro mtu mst mpr mca mfr (fun (r_1 : Int32) (mtu_1 : Nat → Int32) (mca_1 : Nat → Int32) (mfr_1 : Nat → Int32) => K r_1 (0 : Int32) mtu_1 mca_1 mfr_1)
theorem dX6_light_0 : decode cX6_light 0 = .ok (.aload_n 0, 1) := by decide +kernel
theorem dX6_light_1 : decode cX6_light 1 = .ok (.iconst 0, 1) := by decide +kernel
theorem dX6_light_2 : decode cX6_light 2 = .ok (.putfield 63, 3) := by decide +kernel
theorem dX6_light_5 : decode cX6_light 5 = .ok (.aload_n 0, 1) := by decide +kernel
theorem dX6_light_6 : decode cX6_light 6 = .ok (.invokevirtual 124, 3) := by decide +kernel
theorem dX6_light_9 : decode cX6_light 9 = .ok (.ireturn, 1) := by decide +kernel
set_option maxRecDepth 20000 in
set_option maxHeartbeats 4000000 in
theorem c_X6_light {a : Nat → Nat} {q : Nat → ClassId}   {mtd : Int32} {mnk : Int32} {mva : Nat → Int32} {mno : Nat → Int32} {mro : Nat → Int32} {mtu : Nat → Int32} {mbx : Nat → Int32} {mst : Nat → Int32} {mja : Nat → Int32} {mpr : Nat → Int32} {mcr : Int32} {mow : Int32} {mhd : Int32} {mmo : Int32} {mbk : Nat → Int32} {mca : Nat → Int32} {mfr : Nat → Int32} {mrs : Int32} {mrk : Nat → Int32} {mfe : Nat → Int32} {mus : Nat → Int32} {mgi : Nat → Int32} {maj : Nat → Int32} {K : Int32 → Int32 → (Nat → Int32) → (Nat → Int32) → (Nat → Int32) → Prop} (h : wp_X6_light mtd mnk mva mno mro mtu mst mpr mca mfr K) : ctZ_4 q yX6_light cX6_light 1 3 70 [.ref (a 0)] (mdW a q mtd mnk mva mno mro mtu mbx mst mja mpr mcr mow mhd mmo mbk mca mfr mrs mrk mfe mus mgi maj) (fun (mtd : Int32) (mtu : Nat → Int32) (mca : Nat → Int32) (mfr : Nat → Int32) => (mdW a q mtd mnk mva mno mro mtu mbx mst mja mpr mcr mow mhd mmo mbk mca mfr mrs mrk mfe mus mgi maj)) K := by
  refine met_Z_4 (by decide) (Nat.le_of_ble_eq_true rfl) (fun Γ g hret => ?_)
  unfold wp_X6_light at h
  show jw Γ 1 0 0 (mdW a q mtd mnk mva mno mro mtu mbx mst mja mpr mcr mow mhd mmo mbk mca mfr mrs mrk mfe mus mgi maj) [(0, .ref (a 0))] [] 0
  refine j_aload_n g 0 rfl dX6_light_0 ?_
  refine j_iconst g (v := 0) (by decide) dX6_light_1 ?_
  refine j_put g fl_X6_63 fp_X6_0 0 md_0 rfl rfl (Nat.le_of_ble_eq_true rfl) (ws' := (mdW a q (0 : Int32) mnk mva mno mro mtu mbx mst mja mpr mcr mow mhd mmo mbk mca mfr mrs mrk mfe mus mgi maj)) rfl dX6_light_2 ?_
  refine j_aload_n g 0 rfl dX6_light_5 ?_
  refine j_callVZ_3 g (As := []) (st := []) (c_X6_isLit  h) cl_X6_124 0 6 md_0 rfl rfl (Nat.le_of_ble_eq_true rfl) (Nat.le_of_ble_eq_true rfl) (Nat.zero_le _) (Nat.zero_le _) rfl rfl (Nat.le_of_ble_eq_true rfl) dX6_light_6 (fun r_1 mtu_1 mca_1 mfr_1 hz_1 h => ?_)
  refine j_ws (ws' := (mdW a q (0 : Int32) mnk mva mno mro mtu_1 mbx mst mja mpr mcr mow mhd mmo mbk mca_1 mfr_1 mrs mrk mfe mus mgi maj)) rfl ?_
  exact hret.go dX6_light_9 hz_1 h

set_option maxRecDepth 20000 in
def wp_X6_goesOn_9 (x2 : Int32) (maj : Nat → Int32) (K : Int32 → (Nat → Int32) → Prop) (X : Int32 → Prop) : Nat → Int32 → Prop
  | 0, _ => False
  | n + 1, x1 => ((x1 < 0 → X x1) ∧ (¬ x1 < 0 → (vp_in x1 6 ∧ ((¬ maj x1.toNatClampNeg = 0 → X x1) ∧ (maj x1.toNatClampNeg = 0 → wp_X6_goesOn_9 x2 maj K X n (x1 - (1 : Int32)))))))
set_option maxRecDepth 20000 in
def wp_X6_goesOn  (maj : Nat → Int32) (K : Int32 → (Nat → Int32) → Prop) : Prop :=
  (vp_in (5 : Int32) 6 ∧ ∃ n2 : Nat, wp_X6_goesOn_9 (maj (5 : Int32).toNatClampNeg) maj K (fun (x1_2 : Int32) => ((0 ≤ x1_2 → (vp_in (5 : Int32) 6 ∧ (vp_in x1_2 6 ∧ (vp_in x1_2 6 ∧ (vp_in (x1_2 + (1 : Int32)) 6 ∧ K (1 : Int32) (upd (upd (upd maj (5 : Int32).toNatClampNeg (0 : Int32)) x1_2.toNatClampNeg (((upd maj (5 : Int32).toNatClampNeg (0 : Int32)) x1_2.toNatClampNeg) - (1 : Int32))) (x1_2 + (1 : Int32)).toNatClampNeg ((maj (5 : Int32).toNatClampNeg) + (1 : Int32)))))))) ∧ (¬ 0 ≤ x1_2 → K (0 : Int32) maj))) n2 (4 : Int32))
theorem dX6_goesOn_0 : decode cX6_goesOn 0 = .ok (.iconst 4, 1) := by decide +kernel
theorem dX6_goesOn_1 : decode cX6_goesOn 1 = .ok (.istore_n 1, 1) := by decide +kernel
theorem dX6_goesOn_2 : decode cX6_goesOn 2 = .ok (.aload_n 0, 1) := by decide +kernel
theorem dX6_goesOn_3 : decode cX6_goesOn 3 = .ok (.getfield 60, 3) := by decide +kernel
theorem dX6_goesOn_6 : decode cX6_goesOn 6 = .ok (.iconst 5, 1) := by decide +kernel
theorem dX6_goesOn_7 : decode cX6_goesOn 7 = .ok (.iaload, 1) := by decide +kernel
theorem dX6_goesOn_8 : decode cX6_goesOn 8 = .ok (.istore_n 2, 1) := by decide +kernel
theorem dX6_goesOn_9 : decode cX6_goesOn 9 = .ok (.iload_n 1, 1) := by decide +kernel
theorem dX6_goesOn_10 : decode cX6_goesOn 10 = .ok (.ifCond .lt 19, 3) := by decide +kernel
theorem dX6_goesOn_13 : decode cX6_goesOn 13 = .ok (.aload_n 0, 1) := by decide +kernel
theorem dX6_goesOn_14 : decode cX6_goesOn 14 = .ok (.getfield 60, 3) := by decide +kernel
theorem dX6_goesOn_17 : decode cX6_goesOn 17 = .ok (.iload_n 1, 1) := by decide +kernel
theorem dX6_goesOn_18 : decode cX6_goesOn 18 = .ok (.iaload, 1) := by decide +kernel
theorem dX6_goesOn_19 : decode cX6_goesOn 19 = .ok (.ifCond .ne 10, 3) := by decide +kernel
theorem dX6_goesOn_22 : decode cX6_goesOn 22 = .ok (.iload_n 1, 1) := by decide +kernel
theorem dX6_goesOn_23 : decode cX6_goesOn 23 = .ok (.iconst 1, 1) := by decide +kernel
theorem dX6_goesOn_24 : decode cX6_goesOn 24 = .ok (.isub, 1) := by decide +kernel
theorem dX6_goesOn_25 : decode cX6_goesOn 25 = .ok (.istore_n 1, 1) := by decide +kernel
theorem dX6_goesOn_26 : decode cX6_goesOn 26 = .ok (.goto (-17), 3) := by decide +kernel
theorem dX6_goesOn_29 : decode cX6_goesOn 29 = .ok (.iload_n 1, 1) := by decide +kernel
theorem dX6_goesOn_30 : decode cX6_goesOn 30 = .ok (.ifCond .ge 5, 3) := by decide +kernel
theorem dX6_goesOn_33 : decode cX6_goesOn 33 = .ok (.iconst 0, 1) := by decide +kernel
theorem dX6_goesOn_34 : decode cX6_goesOn 34 = .ok (.ireturn, 1) := by decide +kernel
theorem dX6_goesOn_35 : decode cX6_goesOn 35 = .ok (.aload_n 0, 1) := by decide +kernel
theorem dX6_goesOn_36 : decode cX6_goesOn 36 = .ok (.getfield 60, 3) := by decide +kernel
theorem dX6_goesOn_39 : decode cX6_goesOn 39 = .ok (.iconst 5, 1) := by decide +kernel
theorem dX6_goesOn_40 : decode cX6_goesOn 40 = .ok (.iconst 0, 1) := by decide +kernel
theorem dX6_goesOn_41 : decode cX6_goesOn 41 = .ok (.iastore, 1) := by decide +kernel
theorem dX6_goesOn_42 : decode cX6_goesOn 42 = .ok (.aload_n 0, 1) := by decide +kernel
theorem dX6_goesOn_43 : decode cX6_goesOn 43 = .ok (.getfield 60, 3) := by decide +kernel
theorem dX6_goesOn_46 : decode cX6_goesOn 46 = .ok (.iload_n 1, 1) := by decide +kernel
theorem dX6_goesOn_47 : decode cX6_goesOn 47 = .ok (.aload_n 0, 1) := by decide +kernel
theorem dX6_goesOn_48 : decode cX6_goesOn 48 = .ok (.getfield 60, 3) := by decide +kernel
theorem dX6_goesOn_51 : decode cX6_goesOn 51 = .ok (.iload_n 1, 1) := by decide +kernel
theorem dX6_goesOn_52 : decode cX6_goesOn 52 = .ok (.iaload, 1) := by decide +kernel
theorem dX6_goesOn_53 : decode cX6_goesOn 53 = .ok (.iconst 1, 1) := by decide +kernel
theorem dX6_goesOn_54 : decode cX6_goesOn 54 = .ok (.isub, 1) := by decide +kernel
theorem dX6_goesOn_55 : decode cX6_goesOn 55 = .ok (.iastore, 1) := by decide +kernel
theorem dX6_goesOn_56 : decode cX6_goesOn 56 = .ok (.aload_n 0, 1) := by decide +kernel
theorem dX6_goesOn_57 : decode cX6_goesOn 57 = .ok (.getfield 60, 3) := by decide +kernel
theorem dX6_goesOn_60 : decode cX6_goesOn 60 = .ok (.iload_n 1, 1) := by decide +kernel
theorem dX6_goesOn_61 : decode cX6_goesOn 61 = .ok (.iconst 1, 1) := by decide +kernel
theorem dX6_goesOn_62 : decode cX6_goesOn 62 = .ok (.iadd, 1) := by decide +kernel
theorem dX6_goesOn_63 : decode cX6_goesOn 63 = .ok (.iload_n 2, 1) := by decide +kernel
theorem dX6_goesOn_64 : decode cX6_goesOn 64 = .ok (.iconst 1, 1) := by decide +kernel
theorem dX6_goesOn_65 : decode cX6_goesOn 65 = .ok (.iadd, 1) := by decide +kernel
theorem dX6_goesOn_66 : decode cX6_goesOn 66 = .ok (.iastore, 1) := by decide +kernel
theorem dX6_goesOn_67 : decode cX6_goesOn 67 = .ok (.iconst 1, 1) := by decide +kernel
theorem dX6_goesOn_68 : decode cX6_goesOn 68 = .ok (.ireturn, 1) := by decide +kernel
set_option maxRecDepth 20000 in
set_option maxHeartbeats 4000000 in
theorem wk_X6_goesOn_9 {Γ : GT} {a : Nat → Nat} {q : Nat → ClassId} {x2 : Int32}  {mtd : Int32} {mnk : Int32} {mva : Nat → Int32} {mno : Nat → Int32} {mro : Nat → Int32} {mtu : Nat → Int32} {mbx : Nat → Int32} {mst : Nat → Int32} {mja : Nat → Int32} {mpr : Nat → Int32} {mcr : Int32} {mow : Int32} {mhd : Int32} {mmo : Int32} {mbk : Nat → Int32} {mca : Nat → Int32} {mfr : Nat → Int32} {mrs : Int32} {mrk : Nat → Int32} {mfe : Nat → Int32} {mus : Nat → Int32} {mgi : Nat → Int32} {maj : Nat → Int32} {K : Int32 → (Nat → Int32) → Prop} {X : Int32 → Prop} (g : gd Γ cX6_goesOn RX6 3 (rmz 0 0) q) (hret : rtZ_1 Γ cX6_goesOn 3 (fun (maj : Nat → Int32) => (mdW a q mtd mnk mva mno mro mtu mbx mst mja mpr mcr mow mhd mmo mbk mca mfr mrs mrk mfe mus mgi maj)) K) (hX : ∀ (x1 : Int32) , X x1 → jw Γ 3 0 0 (mdW a q mtd mnk mva mno mro mtu mbx mst mja mpr mcr mow mhd mmo mbk mca mfr mrs mrk mfe mus mgi maj) [(0, .ref (a 0)), (1, .int x1), (2, .int x2)] [] 29) :
    ∀ (n : Nat) (x1 : Int32) , wp_X6_goesOn_9 x2 maj K X n x1 → jw Γ 3 0 0 (mdW a q mtd mnk mva mno mro mtu mbx mst mja mpr mcr mow mhd mmo mbk mca mfr mrs mrk mfe mus mgi maj) [(0, .ref (a 0)), (1, .int x1), (2, .int x2)] [] 9 := by
  intro n
  induction n with
  | zero =>
    intro _ h
    exact False.elim h
  | succ n ih =>
    intro x1 h
    unfold wp_X6_goesOn_9 at h
    refine j_iload_n g 1 rfl dX6_goesOn_9 ?_
    refine j_if_lt g dX6_goesOn_10 (tgt := 29) (by decide) (fun c1 => ?_) (fun c1 => ?_)
    · replace h := h.1 c1
      exact hX x1 h
    replace h := h.2 c1
    refine j_aload_n g 0 rfl dX6_goesOn_13 ?_
    refine j_get g fl_X6_60 0 md_0 rfl dX6_goesOn_14 ?_
    refine j_iload_n g 1 rfl dX6_goesOn_17 ?_
    obtain ⟨hv2, h⟩ := h
    refine j_iald g 16 md_16 hv2 dX6_goesOn_18 ?_
    refine j_if_ne g dX6_goesOn_19 (tgt := 29) (by decide) (fun c3 => ?_) (fun c3 => ?_)
    · replace h := h.1 c3
      exact hX x1 h
    replace h := h.2 c3
    refine j_iload_n g 1 rfl dX6_goesOn_22 ?_
    refine j_iconst g (v := 1) (by decide) dX6_goesOn_23 ?_
    refine j_isub g dX6_goesOn_24 ?_
    refine j_istore_n g (lv' := [(1, .int (x1 - (1 : Int32))), (0, .ref (a 0)), (2, .int x2)]) (by decide) rfl dX6_goesOn_25 ?_
    refine j_goto g dX6_goesOn_26 (tgt := 9) (by decide) ?_
    refine j_sub [1, 0, 2] rfl ?_
    exact ih (x1 - (1 : Int32)) h
set_option maxRecDepth 20000 in
set_option maxHeartbeats 4000000 in
theorem c_X6_goesOn {a : Nat → Nat} {q : Nat → ClassId}   {mtd : Int32} {mnk : Int32} {mva : Nat → Int32} {mno : Nat → Int32} {mro : Nat → Int32} {mtu : Nat → Int32} {mbx : Nat → Int32} {mst : Nat → Int32} {mja : Nat → Int32} {mpr : Nat → Int32} {mcr : Int32} {mow : Int32} {mhd : Int32} {mmo : Int32} {mbk : Nat → Int32} {mca : Nat → Int32} {mfr : Nat → Int32} {mrs : Int32} {mrk : Nat → Int32} {mfe : Nat → Int32} {mus : Nat → Int32} {mgi : Nat → Int32} {maj : Nat → Int32} {K : Int32 → (Nat → Int32) → Prop} (h : wp_X6_goesOn maj K) : ctZ_1 q yX6_goesOn cX6_goesOn 3 0 0 [.ref (a 0)] (mdW a q mtd mnk mva mno mro mtu mbx mst mja mpr mcr mow mhd mmo mbk mca mfr mrs mrk mfe mus mgi maj) (fun (maj : Nat → Int32) => (mdW a q mtd mnk mva mno mro mtu mbx mst mja mpr mcr mow mhd mmo mbk mca mfr mrs mrk mfe mus mgi maj)) K := by
  refine met_Z_1 (by decide) (Nat.le_of_ble_eq_true rfl) (fun Γ g hret => ?_)
  unfold wp_X6_goesOn at h
  show jw Γ 3 0 0 (mdW a q mtd mnk mva mno mro mtu mbx mst mja mpr mcr mow mhd mmo mbk mca mfr mrs mrk mfe mus mgi maj) [(0, .ref (a 0))] [] 0
  refine j_iconst g (v := 4) (by decide) dX6_goesOn_0 ?_
  refine j_istore_n g (lv' := [(1, .int (4 : Int32)), (0, .ref (a 0))]) (by decide) rfl dX6_goesOn_1 ?_
  refine j_aload_n g 1 rfl dX6_goesOn_2 ?_
  refine j_get g fl_X6_60 0 md_0 rfl dX6_goesOn_3 ?_
  refine j_iconst g (v := 5) (by decide) dX6_goesOn_6 ?_
  obtain ⟨hv1, h⟩ := h
  refine j_iald g 16 md_16 hv1 dX6_goesOn_7 ?_
  refine j_istore_n g (lv' := [(2, .int (maj (5 : Int32).toNatClampNeg)), (1, .int (4 : Int32)), (0, .ref (a 0))]) (by decide) rfl dX6_goesOn_8 ?_
  obtain ⟨n2, h⟩ := h
  refine j_sub [2, 1, 0] rfl ?_
  refine wk_X6_goesOn_9  g hret (fun x1_2 h => ?_) n2 (4 : Int32) h
  refine j_iload_n g 1 rfl dX6_goesOn_29 ?_
  refine j_if_ge g dX6_goesOn_30 (tgt := 35) (by decide) (fun c3 => ?_) (fun c3 => ?_)
  rotate_left
  · replace h := h.2 c3
    refine j_iconst g (v := 0) (by decide) dX6_goesOn_33 ?_
    exact hret.go dX6_goesOn_34 (Or.inl rfl) h
  replace h := h.1 c3
  refine j_aload_n g 0 rfl dX6_goesOn_35 ?_
  refine j_get g fl_X6_60 0 md_0 rfl dX6_goesOn_36 ?_
  refine j_iconst g (v := 5) (by decide) dX6_goesOn_39 ?_
  refine j_iconst g (v := 0) (by decide) dX6_goesOn_40 ?_
  obtain ⟨hv4, h⟩ := h
  refine j_iast g 16 md_16 hv4 (ws' := (mdW a q mtd mnk mva mno mro mtu mbx mst mja mpr mcr mow mhd mmo mbk mca mfr mrs mrk mfe mus mgi (upd maj (5 : Int32).toNatClampNeg (0 : Int32)))) rfl dX6_goesOn_41 ?_
  refine j_aload_n g 0 rfl dX6_goesOn_42 ?_
  refine j_get g fl_X6_60 0 md_0 rfl dX6_goesOn_43 ?_
  refine j_iload_n g 1 rfl dX6_goesOn_46 ?_
  refine j_aload_n g 0 rfl dX6_goesOn_47 ?_
  refine j_get g fl_X6_60 0 md_0 rfl dX6_goesOn_48 ?_
  refine j_iload_n g 1 rfl dX6_goesOn_51 ?_
  obtain ⟨hv5, h⟩ := h
  refine j_iald g 16 md_16 hv5 dX6_goesOn_52 ?_
  refine j_iconst g (v := 1) (by decide) dX6_goesOn_53 ?_
  refine j_isub g dX6_goesOn_54 ?_
  obtain ⟨hv6, h⟩ := h
  refine j_iast g 16 md_16 hv6 (ws' := (mdW a q mtd mnk mva mno mro mtu mbx mst mja mpr mcr mow mhd mmo mbk mca mfr mrs mrk mfe mus mgi (upd (upd maj (5 : Int32).toNatClampNeg (0 : Int32)) x1_2.toNatClampNeg (((upd maj (5 : Int32).toNatClampNeg (0 : Int32)) x1_2.toNatClampNeg) - (1 : Int32))))) rfl dX6_goesOn_55 ?_
  refine j_aload_n g 0 rfl dX6_goesOn_56 ?_
  refine j_get g fl_X6_60 0 md_0 rfl dX6_goesOn_57 ?_
  refine j_iload_n g 1 rfl dX6_goesOn_60 ?_
  refine j_iconst g (v := 1) (by decide) dX6_goesOn_61 ?_
  refine j_iadd g dX6_goesOn_62 ?_
  refine j_iload_n g 2 rfl dX6_goesOn_63 ?_
  refine j_iconst g (v := 1) (by decide) dX6_goesOn_64 ?_
  refine j_iadd g dX6_goesOn_65 ?_
  obtain ⟨hv7, h⟩ := h
  refine j_iast g 16 md_16 hv7 (ws' := (mdW a q mtd mnk mva mno mro mtu mbx mst mja mpr mcr mow mhd mmo mbk mca mfr mrs mrk mfe mus mgi (upd (upd (upd maj (5 : Int32).toNatClampNeg (0 : Int32)) x1_2.toNatClampNeg (((upd maj (5 : Int32).toNatClampNeg (0 : Int32)) x1_2.toNatClampNeg) - (1 : Int32))) (x1_2 + (1 : Int32)).toNatClampNeg ((maj (5 : Int32).toNatClampNeg) + (1 : Int32))))) rfl dX6_goesOn_66 ?_
  refine j_iconst g (v := 1) (by decide) dX6_goesOn_67 ?_
  exact hret.go dX6_goesOn_68 (Or.inr rfl) h

set_option maxRecDepth 20000 in
def wp_X6_canAdd_2  (mnk : Int32) (mno : Nat → Int32) (mro : Nat → Int32) (mtu : Nat → Int32) (maj : Nat → Int32) (K : Int32 → Prop) (X : Prop) : Nat → Int32 → Prop
  | 0, _ => False
  | n + 1, x1 => (((6 : Int32) ≤ x1 → X) ∧ (¬ (6 : Int32) ≤ x1 → (vp_in x1 6 ∧ ((maj x1.toNatClampNeg ≤ 0 → wp_X6_canAdd_2 mnk mno mro mtu maj K X n (x1 + 1)) ∧ (¬ maj x1.toNatClampNeg ≤ 0 → wp_X6_isCoin x1 mnk mno (fun (r_4 : Int32)  => ((r_4 = 0 → K (0 : Int32)) ∧ (¬ r_4 = 0 → (vp_in x1 6 ∧ (vp_in x1 6 ∧ (vp_in x1 6 ∧ (((mtu x1.toNatClampNeg) + (maj x1.toNatClampNeg) ≤ mro x1.toNatClampNeg → wp_X6_canAdd_2 mnk mno mro mtu maj K X n (x1 + 1)) ∧ (¬ (mtu x1.toNatClampNeg) + (maj x1.toNatClampNeg) ≤ mro x1.toNatClampNeg → K (0 : Int32))))))))))))))
set_option maxRecDepth 20000 in
def wp_X6_canAdd  (mnk : Int32) (mno : Nat → Int32) (mro : Nat → Int32) (mtu : Nat → Int32) (maj : Nat → Int32) (K : Int32 → Prop) : Prop :=
  ∃ n1 : Nat, wp_X6_canAdd_2 mnk mno mro mtu maj K (K (1 : Int32)) n1 (0 : Int32)
theorem dX6_canAdd_0 : decode cX6_canAdd 0 = .ok (.iconst 0, 1) := by decide +kernel
theorem dX6_canAdd_1 : decode cX6_canAdd 1 = .ok (.istore_n 1, 1) := by decide +kernel
theorem dX6_canAdd_2 : decode cX6_canAdd 2 = .ok (.iload_n 1, 1) := by decide +kernel
theorem dX6_canAdd_3 : decode cX6_canAdd 3 = .ok (.bipush 6, 2) := by decide +kernel
theorem dX6_canAdd_5 : decode cX6_canAdd 5 = .ok (.if_icmp .ge 50, 3) := by decide +kernel
theorem dX6_canAdd_8 : decode cX6_canAdd 8 = .ok (.aload_n 0, 1) := by decide +kernel
theorem dX6_canAdd_9 : decode cX6_canAdd 9 = .ok (.getfield 60, 3) := by decide +kernel
theorem dX6_canAdd_12 : decode cX6_canAdd 12 = .ok (.iload_n 1, 1) := by decide +kernel
theorem dX6_canAdd_13 : decode cX6_canAdd 13 = .ok (.iaload, 1) := by decide +kernel
theorem dX6_canAdd_14 : decode cX6_canAdd 14 = .ok (.ifCond .le 35, 3) := by decide +kernel
theorem dX6_canAdd_17 : decode cX6_canAdd 17 = .ok (.aload_n 0, 1) := by decide +kernel
theorem dX6_canAdd_18 : decode cX6_canAdd 18 = .ok (.iload_n 1, 1) := by decide +kernel
theorem dX6_canAdd_19 : decode cX6_canAdd 19 = .ok (.invokevirtual 82, 3) := by decide +kernel
theorem dX6_canAdd_22 : decode cX6_canAdd 22 = .ok (.ifCond .eq 25, 3) := by decide +kernel
theorem dX6_canAdd_25 : decode cX6_canAdd 25 = .ok (.aload_n 0, 1) := by decide +kernel
theorem dX6_canAdd_26 : decode cX6_canAdd 26 = .ok (.getfield 20, 3) := by decide +kernel
theorem dX6_canAdd_29 : decode cX6_canAdd 29 = .ok (.iload_n 1, 1) := by decide +kernel
theorem dX6_canAdd_30 : decode cX6_canAdd 30 = .ok (.iaload, 1) := by decide +kernel
theorem dX6_canAdd_31 : decode cX6_canAdd 31 = .ok (.aload_n 0, 1) := by decide +kernel
theorem dX6_canAdd_32 : decode cX6_canAdd 32 = .ok (.getfield 60, 3) := by decide +kernel
theorem dX6_canAdd_35 : decode cX6_canAdd 35 = .ok (.iload_n 1, 1) := by decide +kernel
theorem dX6_canAdd_36 : decode cX6_canAdd 36 = .ok (.iaload, 1) := by decide +kernel
theorem dX6_canAdd_37 : decode cX6_canAdd 37 = .ok (.iadd, 1) := by decide +kernel
theorem dX6_canAdd_38 : decode cX6_canAdd 38 = .ok (.aload_n 0, 1) := by decide +kernel
theorem dX6_canAdd_39 : decode cX6_canAdd 39 = .ok (.getfield 17, 3) := by decide +kernel
theorem dX6_canAdd_42 : decode cX6_canAdd 42 = .ok (.iload_n 1, 1) := by decide +kernel
theorem dX6_canAdd_43 : decode cX6_canAdd 43 = .ok (.iaload, 1) := by decide +kernel
theorem dX6_canAdd_44 : decode cX6_canAdd 44 = .ok (.if_icmp .le 5, 3) := by decide +kernel
theorem dX6_canAdd_47 : decode cX6_canAdd 47 = .ok (.iconst 0, 1) := by decide +kernel
theorem dX6_canAdd_48 : decode cX6_canAdd 48 = .ok (.ireturn, 1) := by decide +kernel
theorem dX6_canAdd_49 : decode cX6_canAdd 49 = .ok (.iinc 1 1, 3) := by decide +kernel
theorem dX6_canAdd_52 : decode cX6_canAdd 52 = .ok (.goto (-50), 3) := by decide +kernel
theorem dX6_canAdd_55 : decode cX6_canAdd 55 = .ok (.iconst 1, 1) := by decide +kernel
theorem dX6_canAdd_56 : decode cX6_canAdd 56 = .ok (.ireturn, 1) := by decide +kernel
set_option maxRecDepth 20000 in
set_option maxHeartbeats 4000000 in
theorem wk_X6_canAdd_2 {Γ : GT} {a : Nat → Nat} {q : Nat → ClassId}   {mtd : Int32} {mnk : Int32} {mva : Nat → Int32} {mno : Nat → Int32} {mro : Nat → Int32} {mtu : Nat → Int32} {mbx : Nat → Int32} {mst : Nat → Int32} {mja : Nat → Int32} {mpr : Nat → Int32} {mcr : Int32} {mow : Int32} {mhd : Int32} {mmo : Int32} {mbk : Nat → Int32} {mca : Nat → Int32} {mfr : Nat → Int32} {mrs : Int32} {mrk : Nat → Int32} {mfe : Nat → Int32} {mus : Nat → Int32} {mgi : Nat → Int32} {maj : Nat → Int32} {K : Int32 → Prop} {X : Prop} (g : gd Γ cX6_canAdd RX6 2 (rmz 2 42) q) (hret : rtZ_0 Γ cX6_canAdd 2 (mdW a q mtd mnk mva mno mro mtu mbx mst mja mpr mcr mow mhd mmo mbk mca mfr mrs mrk mfe mus mgi maj) K) (hX : X → jw Γ 2 0 0 (mdW a q mtd mnk mva mno mro mtu mbx mst mja mpr mcr mow mhd mmo mbk mca mfr mrs mrk mfe mus mgi maj) [] [] 55) :
    ∀ (n : Nat) (x1 : Int32) , wp_X6_canAdd_2 mnk mno mro mtu maj K X n x1 → jw Γ 2 0 0 (mdW a q mtd mnk mva mno mro mtu mbx mst mja mpr mcr mow mhd mmo mbk mca mfr mrs mrk mfe mus mgi maj) [(0, .ref (a 0)), (1, .int x1)] [] 2 := by
  intro n
  induction n with
  | zero =>
    intro _ h
    exact False.elim h
  | succ n ih =>
    intro x1 h
    unfold wp_X6_canAdd_2 at h
    refine j_iload_n g 1 rfl dX6_canAdd_2 ?_
    refine j_bipush g (v := 6) (by decide) dX6_canAdd_3 ?_
    refine j_icmp_ge g dX6_canAdd_5 (tgt := 55) (by decide) (fun c1 => ?_) (fun c1 => ?_)
    · replace h := h.1 c1
      refine j_sub [] rfl ?_
      exact hX h
    replace h := h.2 c1
    refine j_aload_n g 0 rfl dX6_canAdd_8 ?_
    refine j_get g fl_X6_60 0 md_0 rfl dX6_canAdd_9 ?_
    refine j_iload_n g 1 rfl dX6_canAdd_12 ?_
    obtain ⟨hv2, h⟩ := h
    refine j_iald g 16 md_16 hv2 dX6_canAdd_13 ?_
    refine j_if_le g dX6_canAdd_14 (tgt := 49) (by decide) (fun c3 => ?_) (fun c3 => ?_)
    · replace h := h.1 c3
      refine j_iinc g 1 (n := 1) (v := x1 + 1) (lv' := [(1, .int (x1 + 1)), (0, .ref (a 0))]) rfl rfl (by decide) rfl dX6_canAdd_49 ?_
      refine j_goto g dX6_canAdd_52 (tgt := 2) (by decide) ?_
      refine j_sub [1, 0] rfl ?_
      exact ih (x1 + 1) h
    replace h := h.2 c3
    refine j_aload_n g 0 rfl dX6_canAdd_17 ?_
    refine j_iload_n g 1 rfl dX6_canAdd_18 ?_
    refine j_callVZ_0 g (As := [.int x1]) (st := []) (c_X6_isCoin  h) cl_X6_82 0 6 md_0 rfl rfl (Nat.le_of_ble_eq_true rfl) (Nat.le_of_ble_eq_true rfl) (Nat.zero_le _) (Nat.zero_le _) rfl rfl (Nat.le_of_ble_eq_true rfl) dX6_canAdd_19 (fun r_4  hz_4 h => ?_)
    refine j_if_eq g dX6_canAdd_22 (tgt := 47) (by decide) (fun c5 => ?_) (fun c5 => ?_)
    · replace h := h.1 c5
      refine j_iconst g (v := 0) (by decide) dX6_canAdd_47 ?_
      exact hret.go dX6_canAdd_48 (Or.inl rfl) h
    replace h := h.2 c5
    refine j_aload_n g 0 rfl dX6_canAdd_25 ?_
    refine j_get g fl_X6_20 0 md_0 rfl dX6_canAdd_26 ?_
    refine j_iload_n g 1 rfl dX6_canAdd_29 ?_
    obtain ⟨hv6, h⟩ := h
    refine j_iald g 4 md_4 hv6 dX6_canAdd_30 ?_
    refine j_aload_n g 0 rfl dX6_canAdd_31 ?_
    refine j_get g fl_X6_60 0 md_0 rfl dX6_canAdd_32 ?_
    refine j_iload_n g 1 rfl dX6_canAdd_35 ?_
    obtain ⟨hv7, h⟩ := h
    refine j_iald g 16 md_16 hv7 dX6_canAdd_36 ?_
    refine j_iadd g dX6_canAdd_37 ?_
    refine j_aload_n g 0 rfl dX6_canAdd_38 ?_
    refine j_get g fl_X6_17 0 md_0 rfl dX6_canAdd_39 ?_
    refine j_iload_n g 1 rfl dX6_canAdd_42 ?_
    obtain ⟨hv8, h⟩ := h
    refine j_iald g 3 md_3 hv8 dX6_canAdd_43 ?_
    refine j_icmp_le g dX6_canAdd_44 (tgt := 49) (by decide) (fun c9 => ?_) (fun c9 => ?_)
    rotate_left
    · replace h := h.2 c9
      refine j_iconst g (v := 0) (by decide) dX6_canAdd_47 ?_
      exact hret.go dX6_canAdd_48 (Or.inl rfl) h
    replace h := h.1 c9
    refine j_iinc g 1 (n := 1) (v := x1 + 1) (lv' := [(1, .int (x1 + 1)), (0, .ref (a 0))]) rfl rfl (by decide) rfl dX6_canAdd_49 ?_
    refine j_goto g dX6_canAdd_52 (tgt := 2) (by decide) ?_
    refine j_sub [1, 0] rfl ?_
    exact ih (x1 + 1) h
set_option maxRecDepth 20000 in
set_option maxHeartbeats 4000000 in
theorem c_X6_canAdd {a : Nat → Nat} {q : Nat → ClassId}   {mtd : Int32} {mnk : Int32} {mva : Nat → Int32} {mno : Nat → Int32} {mro : Nat → Int32} {mtu : Nat → Int32} {mbx : Nat → Int32} {mst : Nat → Int32} {mja : Nat → Int32} {mpr : Nat → Int32} {mcr : Int32} {mow : Int32} {mhd : Int32} {mmo : Int32} {mbk : Nat → Int32} {mca : Nat → Int32} {mfr : Nat → Int32} {mrs : Int32} {mrk : Nat → Int32} {mfe : Nat → Int32} {mus : Nat → Int32} {mgi : Nat → Int32} {maj : Nat → Int32} {K : Int32 → Prop} (h : wp_X6_canAdd mnk mno mro mtu maj K) : ctZ_0 q yX6_canAdd cX6_canAdd 2 2 42 [.ref (a 0)] (mdW a q mtd mnk mva mno mro mtu mbx mst mja mpr mcr mow mhd mmo mbk mca mfr mrs mrk mfe mus mgi maj) (mdW a q mtd mnk mva mno mro mtu mbx mst mja mpr mcr mow mhd mmo mbk mca mfr mrs mrk mfe mus mgi maj) K := by
  refine met_Z_0 (by decide) (Nat.le_of_ble_eq_true rfl) (fun Γ g hret => ?_)
  unfold wp_X6_canAdd at h
  show jw Γ 2 0 0 (mdW a q mtd mnk mva mno mro mtu mbx mst mja mpr mcr mow mhd mmo mbk mca mfr mrs mrk mfe mus mgi maj) [(0, .ref (a 0))] [] 0
  refine j_iconst g (v := 0) (by decide) dX6_canAdd_0 ?_
  refine j_istore_n g (lv' := [(1, .int (0 : Int32)), (0, .ref (a 0))]) (by decide) rfl dX6_canAdd_1 ?_
  obtain ⟨n1, h⟩ := h
  refine j_sub [1, 0] rfl ?_
  refine wk_X6_canAdd_2  g hret (fun h => ?_) n1 (0 : Int32) h
  refine j_iconst g (v := 1) (by decide) dX6_canAdd_55 ?_
  exact hret.go dX6_canAdd_56 (Or.inr rfl) h

set_option maxRecDepth 20000 in
def wp_X6_isOutBy_2 (x1 : Int32)  (K : Int32 → (Nat → Int32) → (Nat → Int32) → (Nat → Int32) → (Nat → Int32) → Prop) (X : (Nat → Int32) → Prop) : Nat → Int32 → (Nat → Int32) → Prop
  | 0, _, _ => False
  | n + 1, x2, maj => (((6 : Int32) ≤ x2 → X maj) ∧ (¬ (6 : Int32) ≤ x2 → ((¬ x2 = 0 → (vp_in x2 6 ∧ wp_X6_isOutBy_2 x1 K X n (x2 + 1) (upd maj x2.toNatClampNeg (0 : Int32)))) ∧ (x2 = 0 → (vp_in x2 6 ∧ wp_X6_isOutBy_2 x1 K X n (x2 + 1) (upd maj x2.toNatClampNeg x1))))))
set_option maxRecDepth 20000 in
def wp_X6_isOutBy_44  (maj : Nat → Int32) (K : Int32 → (Nat → Int32) → (Nat → Int32) → (Nat → Int32) → (Nat → Int32) → Prop) (X : (Nat → Int32) → Prop) : Nat → Int32 → (Nat → Int32) → Prop
  | 0, _, _ => False
  | n + 1, x3, mtu => (((6 : Int32) ≤ x3 → X mtu) ∧ (¬ (6 : Int32) ≤ x3 → (vp_in x3 6 ∧ (vp_in x3 6 ∧ (vp_in x3 6 ∧ wp_X6_isOutBy_44 maj K X n (x3 + 1) (upd mtu x3.toNatClampNeg ((mtu x3.toNatClampNeg) + (maj x3.toNatClampNeg))))))))
set_option maxRecDepth 20000 in
def wp_X6_isOutBy_83 (x3 : Int32) (maj : Nat → Int32) (K : Int32 → (Nat → Int32) → (Nat → Int32) → (Nat → Int32) → (Nat → Int32) → Prop) (X : (Nat → Int32) → Prop) : Nat → Int32 → (Nat → Int32) → Prop
  | 0, _, _ => False
  | n + 1, x4, mtu => (((6 : Int32) ≤ x4 → X mtu) ∧ (¬ (6 : Int32) ≤ x4 → (vp_in x4 6 ∧ (vp_in x4 6 ∧ (vp_in x4 6 ∧ wp_X6_isOutBy_83 x3 maj K X n (x4 + 1) (upd mtu x4.toNatClampNeg ((mtu x4.toNatClampNeg) - (maj x4.toNatClampNeg))))))))
set_option maxRecDepth 20000 in
def wp_X6_isOutBy_31  (mnk : Int32) (mva : Nat → Int32) (mno : Nat → Int32) (mro : Nat → Int32) (mst : Nat → Int32) (mpr : Nat → Int32) (K : Int32 → (Nat → Int32) → (Nat → Int32) → (Nat → Int32) → (Nat → Int32) → Prop) (X : (Nat → Int32) → (Nat → Int32) → (Nat → Int32) → (Nat → Int32) → Prop) : Nat → Int32 → (Nat → Int32) → (Nat → Int32) → (Nat → Int32) → (Nat → Int32) → Prop
  | 0, _, _, _, _, _ => False
  | n + 1, x2, mtu, mca, mfr, maj => ((x2 = 0 → X mtu mca mfr maj) ∧ (¬ x2 = 0 → wp_X6_canAdd mnk mno mro mtu maj (fun (r_2 : Int32)  => ((r_2 = 0 → wp_X6_goesOn maj (fun (r_4 : Int32) (maj_4 : Nat → Int32) => wp_X6_isOutBy_31 mnk mva mno mro mst mpr K X n r_4 mtu mca mfr maj_4)) ∧ (¬ r_2 = 0 → ∃ n5 : Nat, wp_X6_isOutBy_44 maj K (fun (mtu_5 : Nat → Int32) => wp_X6_isLit mnk mva mno mro mtu_5 mst mpr mca mfr (fun (r_6 : Int32) (mtu_6 : Nat → Int32) (mca_6 : Nat → Int32) (mfr_6 : Nat → Int32) => ∃ n7 : Nat, wp_X6_isOutBy_83 r_6 maj K (fun (mtu_7 : Nat → Int32) => ((¬ r_6 = 0 → wp_X6_goesOn maj (fun (r_9 : Int32) (maj_9 : Nat → Int32) => wp_X6_isOutBy_31 mnk mva mno mro mst mpr K X n r_9 mtu_7 mca_6 mfr_6 maj_9)) ∧ (r_6 = 0 → K (1 : Int32) mtu_7 mca_6 mfr_6 maj))) n7 (0 : Int32) mtu_6)) n5 (0 : Int32) mtu)))))
set_option maxRecDepth 20000 in
def wp_X6_isOutBy (x1 : Int32) (mnk : Int32) (mva : Nat → Int32) (mno : Nat → Int32) (mro : Nat → Int32) (mtu : Nat → Int32) (mst : Nat → Int32) (mpr : Nat → Int32) (mca : Nat → Int32) (mfr : Nat → Int32) (maj : Nat → Int32) (K : Int32 → (Nat → Int32) → (Nat → Int32) → (Nat → Int32) → (Nat → Int32) → Prop) : Prop :=
  ∃ n1 : Nat, wp_X6_isOutBy_2 x1 K (fun (maj_1 : Nat → Int32) => ∃ n2 : Nat, wp_X6_isOutBy_31 mnk mva mno mro mst mpr K (fun (mtu_2 : Nat → Int32) (mca_2 : Nat → Int32) (mfr_2 : Nat → Int32) (maj_2 : Nat → Int32) => K (0 : Int32) mtu_2 mca_2 mfr_2 maj_2) n2 (1 : Int32) mtu mca mfr maj_1) n1 (0 : Int32) maj
theorem dX6_isOutBy_0 : decode cX6_isOutBy 0 = .ok (.iconst 0, 1) := by decide +kernel
theorem dX6_isOutBy_1 : decode cX6_isOutBy 1 = .ok (.istore_n 2, 1) := by decide +kernel
theorem dX6_isOutBy_2 : decode cX6_isOutBy 2 = .ok (.iload_n 2, 1) := by decide +kernel
theorem dX6_isOutBy_3 : decode cX6_isOutBy 3 = .ok (.bipush 6, 2) := by decide +kernel
theorem dX6_isOutBy_5 : decode cX6_isOutBy 5 = .ok (.if_icmp .ge 24, 3) := by decide +kernel
theorem dX6_isOutBy_8 : decode cX6_isOutBy 8 = .ok (.aload_n 0, 1) := by decide +kernel
theorem dX6_isOutBy_9 : decode cX6_isOutBy 9 = .ok (.getfield 60, 3) := by decide +kernel
theorem dX6_isOutBy_12 : decode cX6_isOutBy 12 = .ok (.iload_n 2, 1) := by decide +kernel
theorem dX6_isOutBy_13 : decode cX6_isOutBy 13 = .ok (.iload_n 2, 1) := by decide +kernel
theorem dX6_isOutBy_14 : decode cX6_isOutBy 14 = .ok (.ifCond .ne 7, 3) := by decide +kernel
theorem dX6_isOutBy_17 : decode cX6_isOutBy 17 = .ok (.iload_n 1, 1) := by decide +kernel
theorem dX6_isOutBy_18 : decode cX6_isOutBy 18 = .ok (.goto 4, 3) := by decide +kernel
theorem dX6_isOutBy_21 : decode cX6_isOutBy 21 = .ok (.iconst 0, 1) := by decide +kernel
theorem dX6_isOutBy_22 : decode cX6_isOutBy 22 = .ok (.iastore, 1) := by decide +kernel
theorem dX6_isOutBy_23 : decode cX6_isOutBy 23 = .ok (.iinc 2 1, 3) := by decide +kernel
theorem dX6_isOutBy_26 : decode cX6_isOutBy 26 = .ok (.goto (-24), 3) := by decide +kernel
theorem dX6_isOutBy_29 : decode cX6_isOutBy 29 = .ok (.iconst 1, 1) := by decide +kernel
theorem dX6_isOutBy_30 : decode cX6_isOutBy 30 = .ok (.istore_n 2, 1) := by decide +kernel
theorem dX6_isOutBy_31 : decode cX6_isOutBy 31 = .ok (.iload_n 2, 1) := by decide +kernel
theorem dX6_isOutBy_32 : decode cX6_isOutBy 32 = .ok (.ifCond .eq 100, 3) := by decide +kernel
theorem dX6_isOutBy_35 : decode cX6_isOutBy 35 = .ok (.aload_n 0, 1) := by decide +kernel
theorem dX6_isOutBy_36 : decode cX6_isOutBy 36 = .ok (.invokevirtual 128, 3) := by decide +kernel
theorem dX6_isOutBy_39 : decode cX6_isOutBy 39 = .ok (.ifCond .eq 85, 3) := by decide +kernel
theorem dX6_isOutBy_42 : decode cX6_isOutBy 42 = .ok (.iconst 0, 1) := by decide +kernel
theorem dX6_isOutBy_43 : decode cX6_isOutBy 43 = .ok (.istore_n 3, 1) := by decide +kernel
theorem dX6_isOutBy_44 : decode cX6_isOutBy 44 = .ok (.iload_n 3, 1) := by decide +kernel
theorem dX6_isOutBy_45 : decode cX6_isOutBy 45 = .ok (.bipush 6, 2) := by decide +kernel
theorem dX6_isOutBy_47 : decode cX6_isOutBy 47 = .ok (.if_icmp .ge 28, 3) := by decide +kernel
theorem dX6_isOutBy_50 : decode cX6_isOutBy 50 = .ok (.aload_n 0, 1) := by decide +kernel
theorem dX6_isOutBy_51 : decode cX6_isOutBy 51 = .ok (.getfield 20, 3) := by decide +kernel
theorem dX6_isOutBy_54 : decode cX6_isOutBy 54 = .ok (.iload_n 3, 1) := by decide +kernel
theorem dX6_isOutBy_55 : decode cX6_isOutBy 55 = .ok (.aload_n 0, 1) := by decide +kernel
theorem dX6_isOutBy_56 : decode cX6_isOutBy 56 = .ok (.getfield 20, 3) := by decide +kernel
theorem dX6_isOutBy_59 : decode cX6_isOutBy 59 = .ok (.iload_n 3, 1) := by decide +kernel
theorem dX6_isOutBy_60 : decode cX6_isOutBy 60 = .ok (.iaload, 1) := by decide +kernel
theorem dX6_isOutBy_61 : decode cX6_isOutBy 61 = .ok (.aload_n 0, 1) := by decide +kernel
theorem dX6_isOutBy_62 : decode cX6_isOutBy 62 = .ok (.getfield 60, 3) := by decide +kernel
theorem dX6_isOutBy_65 : decode cX6_isOutBy 65 = .ok (.iload_n 3, 1) := by decide +kernel
theorem dX6_isOutBy_66 : decode cX6_isOutBy 66 = .ok (.iaload, 1) := by decide +kernel
theorem dX6_isOutBy_67 : decode cX6_isOutBy 67 = .ok (.iadd, 1) := by decide +kernel
theorem dX6_isOutBy_68 : decode cX6_isOutBy 68 = .ok (.iastore, 1) := by decide +kernel
theorem dX6_isOutBy_69 : decode cX6_isOutBy 69 = .ok (.iinc 3 1, 3) := by decide +kernel
theorem dX6_isOutBy_72 : decode cX6_isOutBy 72 = .ok (.goto (-28), 3) := by decide +kernel
theorem dX6_isOutBy_75 : decode cX6_isOutBy 75 = .ok (.aload_n 0, 1) := by decide +kernel
theorem dX6_isOutBy_76 : decode cX6_isOutBy 76 = .ok (.invokevirtual 124, 3) := by decide +kernel
theorem dX6_isOutBy_79 : decode cX6_isOutBy 79 = .ok (.istore_n 3, 1) := by decide +kernel
theorem dX6_isOutBy_80 : decode cX6_isOutBy 80 = .ok (.iconst 0, 1) := by decide +kernel
theorem dX6_isOutBy_81 : decode cX6_isOutBy 81 = .ok (.istore 4, 2) := by decide +kernel
theorem dX6_isOutBy_83 : decode cX6_isOutBy 83 = .ok (.iload 4, 2) := by decide +kernel
theorem dX6_isOutBy_85 : decode cX6_isOutBy 85 = .ok (.bipush 6, 2) := by decide +kernel
theorem dX6_isOutBy_87 : decode cX6_isOutBy 87 = .ok (.if_icmp .ge 31, 3) := by decide +kernel
theorem dX6_isOutBy_90 : decode cX6_isOutBy 90 = .ok (.aload_n 0, 1) := by decide +kernel
theorem dX6_isOutBy_91 : decode cX6_isOutBy 91 = .ok (.getfield 20, 3) := by decide +kernel
theorem dX6_isOutBy_94 : decode cX6_isOutBy 94 = .ok (.iload 4, 2) := by decide +kernel
theorem dX6_isOutBy_96 : decode cX6_isOutBy 96 = .ok (.aload_n 0, 1) := by decide +kernel
theorem dX6_isOutBy_97 : decode cX6_isOutBy 97 = .ok (.getfield 20, 3) := by decide +kernel
theorem dX6_isOutBy_100 : decode cX6_isOutBy 100 = .ok (.iload 4, 2) := by decide +kernel
theorem dX6_isOutBy_102 : decode cX6_isOutBy 102 = .ok (.iaload, 1) := by decide +kernel
theorem dX6_isOutBy_103 : decode cX6_isOutBy 103 = .ok (.aload_n 0, 1) := by decide +kernel
theorem dX6_isOutBy_104 : decode cX6_isOutBy 104 = .ok (.getfield 60, 3) := by decide +kernel
theorem dX6_isOutBy_107 : decode cX6_isOutBy 107 = .ok (.iload 4, 2) := by decide +kernel
theorem dX6_isOutBy_109 : decode cX6_isOutBy 109 = .ok (.iaload, 1) := by decide +kernel
theorem dX6_isOutBy_110 : decode cX6_isOutBy 110 = .ok (.isub, 1) := by decide +kernel
theorem dX6_isOutBy_111 : decode cX6_isOutBy 111 = .ok (.iastore, 1) := by decide +kernel
theorem dX6_isOutBy_112 : decode cX6_isOutBy 112 = .ok (.iinc 4 1, 3) := by decide +kernel
theorem dX6_isOutBy_115 : decode cX6_isOutBy 115 = .ok (.goto (-32), 3) := by decide +kernel
theorem dX6_isOutBy_118 : decode cX6_isOutBy 118 = .ok (.iload_n 3, 1) := by decide +kernel
theorem dX6_isOutBy_119 : decode cX6_isOutBy 119 = .ok (.ifCond .ne 5, 3) := by decide +kernel
theorem dX6_isOutBy_122 : decode cX6_isOutBy 122 = .ok (.iconst 1, 1) := by decide +kernel
theorem dX6_isOutBy_123 : decode cX6_isOutBy 123 = .ok (.ireturn, 1) := by decide +kernel
theorem dX6_isOutBy_124 : decode cX6_isOutBy 124 = .ok (.aload_n 0, 1) := by decide +kernel
theorem dX6_isOutBy_125 : decode cX6_isOutBy 125 = .ok (.invokevirtual 131, 3) := by decide +kernel
theorem dX6_isOutBy_128 : decode cX6_isOutBy 128 = .ok (.istore_n 2, 1) := by decide +kernel
theorem dX6_isOutBy_129 : decode cX6_isOutBy 129 = .ok (.goto (-98), 3) := by decide +kernel
theorem dX6_isOutBy_132 : decode cX6_isOutBy 132 = .ok (.iconst 0, 1) := by decide +kernel
theorem dX6_isOutBy_133 : decode cX6_isOutBy 133 = .ok (.ireturn, 1) := by decide +kernel
set_option maxRecDepth 20000 in
set_option maxHeartbeats 4000000 in
theorem wk_X6_isOutBy_2 {Γ : GT} {a : Nat → Nat} {q : Nat → ClassId} {x1 : Int32}  {mtd : Int32} {mnk : Int32} {mva : Nat → Int32} {mno : Nat → Int32} {mro : Nat → Int32} {mtu : Nat → Int32} {mbx : Nat → Int32} {mst : Nat → Int32} {mja : Nat → Int32} {mpr : Nat → Int32} {mcr : Int32} {mow : Int32} {mhd : Int32} {mmo : Int32} {mbk : Nat → Int32} {mca : Nat → Int32} {mfr : Nat → Int32} {mrs : Int32} {mrk : Nat → Int32} {mfe : Nat → Int32} {mus : Nat → Int32} {mgi : Nat → Int32} {K : Int32 → (Nat → Int32) → (Nat → Int32) → (Nat → Int32) → (Nat → Int32) → Prop} {X : (Nat → Int32) → Prop} (g : gd Γ cX6_isOutBy RX6 5 (rmz 3 70) q) (hret : rtZ_4 Γ cX6_isOutBy 5 (fun (mtu : Nat → Int32) (mca : Nat → Int32) (mfr : Nat → Int32) (maj : Nat → Int32) => (mdW a q mtd mnk mva mno mro mtu mbx mst mja mpr mcr mow mhd mmo mbk mca mfr mrs mrk mfe mus mgi maj)) K) (hX : ∀ (maj : Nat → Int32) , X maj → jw Γ 5 0 0 (mdW a q mtd mnk mva mno mro mtu mbx mst mja mpr mcr mow mhd mmo mbk mca mfr mrs mrk mfe mus mgi maj) [(0, .ref (a 0))] [] 29) :
    ∀ (n : Nat) (x2 : Int32) (maj : Nat → Int32) , wp_X6_isOutBy_2 x1 K X n x2 maj → jw Γ 5 0 0 (mdW a q mtd mnk mva mno mro mtu mbx mst mja mpr mcr mow mhd mmo mbk mca mfr mrs mrk mfe mus mgi maj) [(0, .ref (a 0)), (1, .int x1), (2, .int x2)] [] 2 := by
  intro n
  induction n with
  | zero =>
    intro _ _ h
    exact False.elim h
  | succ n ih =>
    intro x2 maj h
    unfold wp_X6_isOutBy_2 at h
    refine j_iload_n g 2 rfl dX6_isOutBy_2 ?_
    refine j_bipush g (v := 6) (by decide) dX6_isOutBy_3 ?_
    refine j_icmp_ge g dX6_isOutBy_5 (tgt := 29) (by decide) (fun c1 => ?_) (fun c1 => ?_)
    · replace h := h.1 c1
      refine j_sub [0] rfl ?_
      exact hX maj h
    replace h := h.2 c1
    refine j_aload_n g 0 rfl dX6_isOutBy_8 ?_
    refine j_get g fl_X6_60 0 md_0 rfl dX6_isOutBy_9 ?_
    refine j_iload_n g 2 rfl dX6_isOutBy_12 ?_
    refine j_iload_n g 2 rfl dX6_isOutBy_13 ?_
    refine j_if_ne g dX6_isOutBy_14 (tgt := 21) (by decide) (fun c2 => ?_) (fun c2 => ?_)
    · replace h := h.1 c2
      refine j_iconst g (v := 0) (by decide) dX6_isOutBy_21 ?_
      obtain ⟨hv3, h⟩ := h
      refine j_iast g 16 md_16 hv3 (ws' := (mdW a q mtd mnk mva mno mro mtu mbx mst mja mpr mcr mow mhd mmo mbk mca mfr mrs mrk mfe mus mgi (upd maj x2.toNatClampNeg (0 : Int32)))) rfl dX6_isOutBy_22 ?_
      refine j_iinc g 2 (n := 1) (v := x2 + 1) (lv' := [(2, .int (x2 + 1)), (0, .ref (a 0)), (1, .int x1)]) rfl rfl (by decide) rfl dX6_isOutBy_23 ?_
      refine j_goto g dX6_isOutBy_26 (tgt := 2) (by decide) ?_
      refine j_sub [1, 2, 0] rfl ?_
      exact ih (x2 + 1) (upd maj x2.toNatClampNeg (0 : Int32)) h
    replace h := h.2 c2
    refine j_iload_n g 1 rfl dX6_isOutBy_17 ?_
    refine j_goto g dX6_isOutBy_18 (tgt := 22) (by decide) ?_
    obtain ⟨hv4, h⟩ := h
    refine j_iast g 16 md_16 hv4 (ws' := (mdW a q mtd mnk mva mno mro mtu mbx mst mja mpr mcr mow mhd mmo mbk mca mfr mrs mrk mfe mus mgi (upd maj x2.toNatClampNeg x1))) rfl dX6_isOutBy_22 ?_
    refine j_iinc g 2 (n := 1) (v := x2 + 1) (lv' := [(2, .int (x2 + 1)), (0, .ref (a 0)), (1, .int x1)]) rfl rfl (by decide) rfl dX6_isOutBy_23 ?_
    refine j_goto g dX6_isOutBy_26 (tgt := 2) (by decide) ?_
    refine j_sub [1, 2, 0] rfl ?_
    exact ih (x2 + 1) (upd maj x2.toNatClampNeg x1) h
set_option maxRecDepth 20000 in
set_option maxHeartbeats 4000000 in
theorem wk_X6_isOutBy_44 {Γ : GT} {a : Nat → Nat} {q : Nat → ClassId}   {mtd : Int32} {mnk : Int32} {mva : Nat → Int32} {mno : Nat → Int32} {mro : Nat → Int32} {mbx : Nat → Int32} {mst : Nat → Int32} {mja : Nat → Int32} {mpr : Nat → Int32} {mcr : Int32} {mow : Int32} {mhd : Int32} {mmo : Int32} {mbk : Nat → Int32} {mca : Nat → Int32} {mfr : Nat → Int32} {mrs : Int32} {mrk : Nat → Int32} {mfe : Nat → Int32} {mus : Nat → Int32} {mgi : Nat → Int32} {maj : Nat → Int32} {K : Int32 → (Nat → Int32) → (Nat → Int32) → (Nat → Int32) → (Nat → Int32) → Prop} {X : (Nat → Int32) → Prop} (g : gd Γ cX6_isOutBy RX6 5 (rmz 3 70) q) (hret : rtZ_4 Γ cX6_isOutBy 5 (fun (mtu : Nat → Int32) (mca : Nat → Int32) (mfr : Nat → Int32) (maj : Nat → Int32) => (mdW a q mtd mnk mva mno mro mtu mbx mst mja mpr mcr mow mhd mmo mbk mca mfr mrs mrk mfe mus mgi maj)) K) (hX : ∀ (mtu : Nat → Int32) , X mtu → jw Γ 5 0 0 (mdW a q mtd mnk mva mno mro mtu mbx mst mja mpr mcr mow mhd mmo mbk mca mfr mrs mrk mfe mus mgi maj) [(0, .ref (a 0))] [] 75) :
    ∀ (n : Nat) (x3 : Int32) (mtu : Nat → Int32) , wp_X6_isOutBy_44 maj K X n x3 mtu → jw Γ 5 0 0 (mdW a q mtd mnk mva mno mro mtu mbx mst mja mpr mcr mow mhd mmo mbk mca mfr mrs mrk mfe mus mgi maj) [(0, .ref (a 0)), (3, .int x3)] [] 44 := by
  intro n
  induction n with
  | zero =>
    intro _ _ h
    exact False.elim h
  | succ n ih =>
    intro x3 mtu h
    unfold wp_X6_isOutBy_44 at h
    refine j_iload_n g 1 rfl dX6_isOutBy_44 ?_
    refine j_bipush g (v := 6) (by decide) dX6_isOutBy_45 ?_
    refine j_icmp_ge g dX6_isOutBy_47 (tgt := 75) (by decide) (fun c1 => ?_) (fun c1 => ?_)
    · replace h := h.1 c1
      refine j_sub [0] rfl ?_
      exact hX mtu h
    replace h := h.2 c1
    refine j_aload_n g 0 rfl dX6_isOutBy_50 ?_
    refine j_get g fl_X6_20 0 md_0 rfl dX6_isOutBy_51 ?_
    refine j_iload_n g 1 rfl dX6_isOutBy_54 ?_
    refine j_aload_n g 0 rfl dX6_isOutBy_55 ?_
    refine j_get g fl_X6_20 0 md_0 rfl dX6_isOutBy_56 ?_
    refine j_iload_n g 1 rfl dX6_isOutBy_59 ?_
    obtain ⟨hv2, h⟩ := h
    refine j_iald g 4 md_4 hv2 dX6_isOutBy_60 ?_
    refine j_aload_n g 0 rfl dX6_isOutBy_61 ?_
    refine j_get g fl_X6_60 0 md_0 rfl dX6_isOutBy_62 ?_
    refine j_iload_n g 1 rfl dX6_isOutBy_65 ?_
    obtain ⟨hv3, h⟩ := h
    refine j_iald g 16 md_16 hv3 dX6_isOutBy_66 ?_
    refine j_iadd g dX6_isOutBy_67 ?_
    obtain ⟨hv4, h⟩ := h
    refine j_iast g 4 md_4 hv4 (ws' := (mdW a q mtd mnk mva mno mro (upd mtu x3.toNatClampNeg ((mtu x3.toNatClampNeg) + (maj x3.toNatClampNeg))) mbx mst mja mpr mcr mow mhd mmo mbk mca mfr mrs mrk mfe mus mgi maj)) rfl dX6_isOutBy_68 ?_
    refine j_iinc g 1 (n := 1) (v := x3 + 1) (lv' := [(3, .int (x3 + 1)), (0, .ref (a 0))]) rfl rfl (by decide) rfl dX6_isOutBy_69 ?_
    refine j_goto g dX6_isOutBy_72 (tgt := 44) (by decide) ?_
    refine j_sub [1, 0] rfl ?_
    exact ih (x3 + 1) (upd mtu x3.toNatClampNeg ((mtu x3.toNatClampNeg) + (maj x3.toNatClampNeg))) h
set_option maxRecDepth 20000 in
set_option maxHeartbeats 4000000 in
theorem wk_X6_isOutBy_83 {Γ : GT} {a : Nat → Nat} {q : Nat → ClassId} {x3 : Int32}  {mtd : Int32} {mnk : Int32} {mva : Nat → Int32} {mno : Nat → Int32} {mro : Nat → Int32} {mbx : Nat → Int32} {mst : Nat → Int32} {mja : Nat → Int32} {mpr : Nat → Int32} {mcr : Int32} {mow : Int32} {mhd : Int32} {mmo : Int32} {mbk : Nat → Int32} {mca : Nat → Int32} {mfr : Nat → Int32} {mrs : Int32} {mrk : Nat → Int32} {mfe : Nat → Int32} {mus : Nat → Int32} {mgi : Nat → Int32} {maj : Nat → Int32} {K : Int32 → (Nat → Int32) → (Nat → Int32) → (Nat → Int32) → (Nat → Int32) → Prop} {X : (Nat → Int32) → Prop} (g : gd Γ cX6_isOutBy RX6 5 (rmz 3 70) q) (hret : rtZ_4 Γ cX6_isOutBy 5 (fun (mtu : Nat → Int32) (mca : Nat → Int32) (mfr : Nat → Int32) (maj : Nat → Int32) => (mdW a q mtd mnk mva mno mro mtu mbx mst mja mpr mcr mow mhd mmo mbk mca mfr mrs mrk mfe mus mgi maj)) K) (hX : ∀ (mtu : Nat → Int32) , X mtu → jw Γ 5 0 0 (mdW a q mtd mnk mva mno mro mtu mbx mst mja mpr mcr mow mhd mmo mbk mca mfr mrs mrk mfe mus mgi maj) [(0, .ref (a 0)), (3, .int x3)] [] 118) :
    ∀ (n : Nat) (x4 : Int32) (mtu : Nat → Int32) , wp_X6_isOutBy_83 x3 maj K X n x4 mtu → jw Γ 5 0 0 (mdW a q mtd mnk mva mno mro mtu mbx mst mja mpr mcr mow mhd mmo mbk mca mfr mrs mrk mfe mus mgi maj) [(0, .ref (a 0)), (3, .int x3), (4, .int x4)] [] 83 := by
  intro n
  induction n with
  | zero =>
    intro _ _ h
    exact False.elim h
  | succ n ih =>
    intro x4 mtu h
    unfold wp_X6_isOutBy_83 at h
    refine j_iload g 2 rfl dX6_isOutBy_83 ?_
    refine j_bipush g (v := 6) (by decide) dX6_isOutBy_85 ?_
    refine j_icmp_ge g dX6_isOutBy_87 (tgt := 118) (by decide) (fun c1 => ?_) (fun c1 => ?_)
    · replace h := h.1 c1
      refine j_sub [0, 1] rfl ?_
      exact hX mtu h
    replace h := h.2 c1
    refine j_aload_n g 0 rfl dX6_isOutBy_90 ?_
    refine j_get g fl_X6_20 0 md_0 rfl dX6_isOutBy_91 ?_
    refine j_iload g 2 rfl dX6_isOutBy_94 ?_
    refine j_aload_n g 0 rfl dX6_isOutBy_96 ?_
    refine j_get g fl_X6_20 0 md_0 rfl dX6_isOutBy_97 ?_
    refine j_iload g 2 rfl dX6_isOutBy_100 ?_
    obtain ⟨hv2, h⟩ := h
    refine j_iald g 4 md_4 hv2 dX6_isOutBy_102 ?_
    refine j_aload_n g 0 rfl dX6_isOutBy_103 ?_
    refine j_get g fl_X6_60 0 md_0 rfl dX6_isOutBy_104 ?_
    refine j_iload g 2 rfl dX6_isOutBy_107 ?_
    obtain ⟨hv3, h⟩ := h
    refine j_iald g 16 md_16 hv3 dX6_isOutBy_109 ?_
    refine j_isub g dX6_isOutBy_110 ?_
    obtain ⟨hv4, h⟩ := h
    refine j_iast g 4 md_4 hv4 (ws' := (mdW a q mtd mnk mva mno mro (upd mtu x4.toNatClampNeg ((mtu x4.toNatClampNeg) - (maj x4.toNatClampNeg))) mbx mst mja mpr mcr mow mhd mmo mbk mca mfr mrs mrk mfe mus mgi maj)) rfl dX6_isOutBy_111 ?_
    refine j_iinc g 2 (n := 1) (v := x4 + 1) (lv' := [(4, .int (x4 + 1)), (0, .ref (a 0)), (3, .int x3)]) rfl rfl (by decide) rfl dX6_isOutBy_112 ?_
    refine j_goto g dX6_isOutBy_115 (tgt := 83) (by decide) ?_
    refine j_sub [1, 2, 0] rfl ?_
    exact ih (x4 + 1) (upd mtu x4.toNatClampNeg ((mtu x4.toNatClampNeg) - (maj x4.toNatClampNeg))) h
set_option maxRecDepth 20000 in
set_option maxHeartbeats 4000000 in
theorem wk_X6_isOutBy_31 {Γ : GT} {a : Nat → Nat} {q : Nat → ClassId}   {mtd : Int32} {mnk : Int32} {mva : Nat → Int32} {mno : Nat → Int32} {mro : Nat → Int32} {mbx : Nat → Int32} {mst : Nat → Int32} {mja : Nat → Int32} {mpr : Nat → Int32} {mcr : Int32} {mow : Int32} {mhd : Int32} {mmo : Int32} {mbk : Nat → Int32} {mrs : Int32} {mrk : Nat → Int32} {mfe : Nat → Int32} {mus : Nat → Int32} {mgi : Nat → Int32} {K : Int32 → (Nat → Int32) → (Nat → Int32) → (Nat → Int32) → (Nat → Int32) → Prop} {X : (Nat → Int32) → (Nat → Int32) → (Nat → Int32) → (Nat → Int32) → Prop} (g : gd Γ cX6_isOutBy RX6 5 (rmz 3 70) q) (hret : rtZ_4 Γ cX6_isOutBy 5 (fun (mtu : Nat → Int32) (mca : Nat → Int32) (mfr : Nat → Int32) (maj : Nat → Int32) => (mdW a q mtd mnk mva mno mro mtu mbx mst mja mpr mcr mow mhd mmo mbk mca mfr mrs mrk mfe mus mgi maj)) K) (hX : ∀ (mtu : Nat → Int32) (mca : Nat → Int32) (mfr : Nat → Int32) (maj : Nat → Int32) , X mtu mca mfr maj → jw Γ 5 0 0 (mdW a q mtd mnk mva mno mro mtu mbx mst mja mpr mcr mow mhd mmo mbk mca mfr mrs mrk mfe mus mgi maj) [] [] 132) :
    ∀ (n : Nat) (x2 : Int32) (mtu : Nat → Int32) (mca : Nat → Int32) (mfr : Nat → Int32) (maj : Nat → Int32) , wp_X6_isOutBy_31 mnk mva mno mro mst mpr K X n x2 mtu mca mfr maj → jw Γ 5 0 0 (mdW a q mtd mnk mva mno mro mtu mbx mst mja mpr mcr mow mhd mmo mbk mca mfr mrs mrk mfe mus mgi maj) [(0, .ref (a 0)), (2, .int x2)] [] 31 := by
  intro n
  induction n with
  | zero =>
    intro _ _ _ _ _ h
    exact False.elim h
  | succ n ih =>
    intro x2 mtu mca mfr maj h
    unfold wp_X6_isOutBy_31 at h
    refine j_iload_n g 1 rfl dX6_isOutBy_31 ?_
    refine j_if_eq g dX6_isOutBy_32 (tgt := 132) (by decide) (fun c1 => ?_) (fun c1 => ?_)
    · replace h := h.1 c1
      refine j_sub [] rfl ?_
      exact hX mtu mca mfr maj h
    replace h := h.2 c1
    refine j_aload_n g 0 rfl dX6_isOutBy_35 ?_
    refine j_callVZ_0 g (As := []) (st := []) (c_X6_canAdd  h) cl_X6_128 0 6 md_0 rfl rfl (Nat.le_of_ble_eq_true rfl) (Nat.le_of_ble_eq_true rfl) (Nat.zero_le _) (Nat.zero_le _) rfl rfl (Nat.le_of_ble_eq_true rfl) dX6_isOutBy_36 (fun r_2  hz_2 h => ?_)
    refine j_if_eq g dX6_isOutBy_39 (tgt := 124) (by decide) (fun c3 => ?_) (fun c3 => ?_)
    · replace h := h.1 c3
      refine j_aload_n g 0 rfl dX6_isOutBy_124 ?_
      refine j_callVZ_1 g (As := []) (st := []) (c_X6_goesOn  h) cl_X6_131 0 6 md_0 rfl rfl (Nat.le_of_ble_eq_true rfl) (Nat.le_of_ble_eq_true rfl) (Nat.zero_le _) (Nat.zero_le _) rfl rfl (Nat.le_of_ble_eq_true rfl) dX6_isOutBy_125 (fun r_4 maj_4 hz_4 h => ?_)
      refine j_ws (ws' := (mdW a q mtd mnk mva mno mro mtu mbx mst mja mpr mcr mow mhd mmo mbk mca mfr mrs mrk mfe mus mgi maj_4)) rfl ?_
      refine j_istore_n g (lv' := [(2, .int r_4), (0, .ref (a 0))]) (by decide) rfl dX6_isOutBy_128 ?_
      refine j_goto g dX6_isOutBy_129 (tgt := 31) (by decide) ?_
      refine j_sub [1, 0] rfl ?_
      exact ih r_4 mtu mca mfr maj_4 h
    replace h := h.2 c3
    refine j_iconst g (v := 0) (by decide) dX6_isOutBy_42 ?_
    refine j_istore_n g (lv' := [(3, .int (0 : Int32)), (0, .ref (a 0)), (2, .int x2)]) (by decide) rfl dX6_isOutBy_43 ?_
    obtain ⟨n5, h⟩ := h
    refine j_sub [1, 0] rfl ?_
    refine wk_X6_isOutBy_44  g hret (fun mtu_5 h => ?_) n5 (0 : Int32) mtu h
    refine j_aload_n g 0 rfl dX6_isOutBy_75 ?_
    refine j_callVZ_3 g (As := []) (st := []) (c_X6_isLit  h) cl_X6_124 0 6 md_0 rfl rfl (Nat.le_of_ble_eq_true rfl) (Nat.le_of_ble_eq_true rfl) (Nat.zero_le _) (Nat.zero_le _) rfl rfl (Nat.le_of_ble_eq_true rfl) dX6_isOutBy_76 (fun r_6 mtu_6 mca_6 mfr_6 hz_6 h => ?_)
    refine j_ws (ws' := (mdW a q mtd mnk mva mno mro mtu_6 mbx mst mja mpr mcr mow mhd mmo mbk mca_6 mfr_6 mrs mrk mfe mus mgi maj)) rfl ?_
    refine j_istore_n g (lv' := [(3, .int r_6), (0, .ref (a 0))]) (by decide) rfl dX6_isOutBy_79 ?_
    refine j_iconst g (v := 0) (by decide) dX6_isOutBy_80 ?_
    refine j_istore g (lv' := [(4, .int (0 : Int32)), (3, .int r_6), (0, .ref (a 0))]) (by decide) rfl dX6_isOutBy_81 ?_
    obtain ⟨n7, h⟩ := h
    refine j_sub [2, 1, 0] rfl ?_
    refine wk_X6_isOutBy_83  g hret (fun mtu_7 h => ?_) n7 (0 : Int32) mtu_6 h
    refine j_iload_n g 1 rfl dX6_isOutBy_118 ?_
    refine j_if_ne g dX6_isOutBy_119 (tgt := 124) (by decide) (fun c8 => ?_) (fun c8 => ?_)
    rotate_left
    · replace h := h.2 c8
      refine j_iconst g (v := 1) (by decide) dX6_isOutBy_122 ?_
      exact hret.go dX6_isOutBy_123 (Or.inr rfl) h
    replace h := h.1 c8
    refine j_aload_n g 0 rfl dX6_isOutBy_124 ?_
    refine j_callVZ_1 g (As := []) (st := []) (c_X6_goesOn  h) cl_X6_131 0 6 md_0 rfl rfl (Nat.le_of_ble_eq_true rfl) (Nat.le_of_ble_eq_true rfl) (Nat.zero_le _) (Nat.zero_le _) rfl rfl (Nat.le_of_ble_eq_true rfl) dX6_isOutBy_125 (fun r_9 maj_9 hz_9 h => ?_)
    refine j_ws (ws' := (mdW a q mtd mnk mva mno mro mtu_7 mbx mst mja mpr mcr mow mhd mmo mbk mca_6 mfr_6 mrs mrk mfe mus mgi maj_9)) rfl ?_
    refine j_istore_n g (lv' := [(2, .int r_9), (0, .ref (a 0)), (3, .int r_6)]) (by decide) rfl dX6_isOutBy_128 ?_
    refine j_goto g dX6_isOutBy_129 (tgt := 31) (by decide) ?_
    refine j_sub [1, 0] rfl ?_
    exact ih r_9 mtu_7 mca_6 mfr_6 maj_9 h
set_option maxRecDepth 20000 in
set_option maxHeartbeats 4000000 in
theorem c_X6_isOutBy {a : Nat → Nat} {q : Nat → ClassId} {x1 : Int32}  {mtd : Int32} {mnk : Int32} {mva : Nat → Int32} {mno : Nat → Int32} {mro : Nat → Int32} {mtu : Nat → Int32} {mbx : Nat → Int32} {mst : Nat → Int32} {mja : Nat → Int32} {mpr : Nat → Int32} {mcr : Int32} {mow : Int32} {mhd : Int32} {mmo : Int32} {mbk : Nat → Int32} {mca : Nat → Int32} {mfr : Nat → Int32} {mrs : Int32} {mrk : Nat → Int32} {mfe : Nat → Int32} {mus : Nat → Int32} {mgi : Nat → Int32} {maj : Nat → Int32} {K : Int32 → (Nat → Int32) → (Nat → Int32) → (Nat → Int32) → (Nat → Int32) → Prop} (h : wp_X6_isOutBy x1 mnk mva mno mro mtu mst mpr mca mfr maj K) : ctZ_4 q yX6_isOutBy cX6_isOutBy 5 3 70 [.ref (a 0), .int x1] (mdW a q mtd mnk mva mno mro mtu mbx mst mja mpr mcr mow mhd mmo mbk mca mfr mrs mrk mfe mus mgi maj) (fun (mtu : Nat → Int32) (mca : Nat → Int32) (mfr : Nat → Int32) (maj : Nat → Int32) => (mdW a q mtd mnk mva mno mro mtu mbx mst mja mpr mcr mow mhd mmo mbk mca mfr mrs mrk mfe mus mgi maj)) K := by
  refine met_Z_4 (by decide) (Nat.le_of_ble_eq_true rfl) (fun Γ g hret => ?_)
  unfold wp_X6_isOutBy at h
  show jw Γ 5 0 0 (mdW a q mtd mnk mva mno mro mtu mbx mst mja mpr mcr mow mhd mmo mbk mca mfr mrs mrk mfe mus mgi maj) [(0, .ref (a 0)), (1, .int x1)] [] 0
  refine j_iconst g (v := 0) (by decide) dX6_isOutBy_0 ?_
  refine j_istore_n g (lv' := [(2, .int (0 : Int32)), (0, .ref (a 0)), (1, .int x1)]) (by decide) rfl dX6_isOutBy_1 ?_
  obtain ⟨n1, h⟩ := h
  refine j_sub [1, 2, 0] rfl ?_
  refine wk_X6_isOutBy_2  g hret (fun maj_1 h => ?_) n1 (0 : Int32) maj h
  refine j_iconst g (v := 1) (by decide) dX6_isOutBy_29 ?_
  refine j_istore_n g (lv' := [(2, .int (1 : Int32)), (0, .ref (a 0))]) (by decide) rfl dX6_isOutBy_30 ?_
  obtain ⟨n2, h⟩ := h
  refine j_sub [1, 0] rfl ?_
  refine wk_X6_isOutBy_31  g hret (fun mtu_2 mca_2 mfr_2 maj_2 h => ?_) n2 (1 : Int32) mtu mca mfr maj_1 h
  refine j_iconst g (v := 0) (by decide) dX6_isOutBy_132 ?_
  exact hret.go dX6_isOutBy_133 (Or.inl rfl) h

set_option maxRecDepth 20000 in
def wp_X6_need_40 (x1 : Int32) (mtd : Int32) (mnk : Int32) (mva : Nat → Int32) (mno : Nat → Int32) (mro : Nat → Int32) (mst : Nat → Int32) (mpr : Nat → Int32) (K : Int32 → Int32 → (Nat → Int32) → (Nat → Int32) → (Nat → Int32) → (Nat → Int32) → Prop) (X : (Nat → Int32) → (Nat → Int32) → (Nat → Int32) → (Nat → Int32) → Prop) : Nat → Int32 → (Nat → Int32) → (Nat → Int32) → (Nat → Int32) → (Nat → Int32) → Prop
  | 0, _, _, _, _, _ => False
  | n + 1, x3, mtu, mca, mfr, maj => (((4 : Int32) < x3 → X mtu mca mfr maj) ∧ (¬ (4 : Int32) < x3 → wp_X6_isOutBy x3 mnk mva mno mro mtu mst mpr mca mfr maj (fun (r_2 : Int32) (mtu_2 : Nat → Int32) (mca_2 : Nat → Int32) (mfr_2 : Nat → Int32) (maj_2 : Nat → Int32) => ((r_2 = 0 → wp_X6_need_40 x1 mtd mnk mva mno mro mst mpr K X n (x3 + 1) mtu_2 mca_2 mfr_2 maj_2) ∧ (¬ r_2 = 0 → ((¬ x1 = 0 → (vp_in (x1 - (10 : Int32)) 6 ∧ K (maj_2 (x1 - (10 : Int32)).toNatClampNeg) mtd mtu_2 mca_2 mfr_2 maj_2)) ∧ (x1 = 0 → K x3 mtd mtu_2 mca_2 mfr_2 maj_2)))))))
set_option maxRecDepth 20000 in
def wp_X6_need (x1 : Int32) (mtd : Int32) (mnk : Int32) (mva : Nat → Int32) (mno : Nat → Int32) (mro : Nat → Int32) (mtu : Nat → Int32) (mst : Nat → Int32) (mpr : Nat → Int32) (mca : Nat → Int32) (mfr : Nat → Int32) (maj : Nat → Int32) (K : Int32 → Int32 → (Nat → Int32) → (Nat → Int32) → (Nat → Int32) → (Nat → Int32) → Prop) : Prop :=
  jn (fun (Z1 : Int32 → Prop) => jn (fun (Z4 : Prop) => ((x1 = 0 → Z4) ∧ (¬ x1 = 0 → jn (fun (Z6 : Prop) => ((x1 < (10 : Int32) → Z6) ∧ (¬ x1 < (10 : Int32) → wp_X6_isKind (x1 - (10 : Int32)) mnk (fun (r_8 : Int32)  => ((r_8 = 0 → Z6) ∧ (¬ r_8 = 0 → Z4)))))) (Z1 (0 : Int32))))) (Z1 (1 : Int32))) (fun (xs0_1 : Int32) => ((¬ xs0_1 = 0 → ∃ n3 : Nat, wp_X6_need_40 x1 (0 : Int32) mnk mva mno mro mst mpr K (fun (mtu_3 : Nat → Int32) (mca_3 : Nat → Int32) (mfr_3 : Nat → Int32) (maj_3 : Nat → Int32) => K (-1 : Int32) (0 : Int32) mtu_3 mca_3 mfr_3 maj_3) n3 (0 : Int32) mtu mca mfr maj) ∧ (xs0_1 = 0 → K (-1 : Int32) (0 : Int32) mtu mca mfr maj)))
theorem dX6_need_0 : decode cX6_need 0 = .ok (.aload_n 0, 1) := by decide +kernel
theorem dX6_need_1 : decode cX6_need 1 = .ok (.iconst 0, 1) := by decide +kernel
theorem dX6_need_2 : decode cX6_need 2 = .ok (.putfield 63, 3) := by decide +kernel
theorem dX6_need_5 : decode cX6_need 5 = .ok (.iload_n 1, 1) := by decide +kernel
theorem dX6_need_6 : decode cX6_need 6 = .ok (.ifCond .eq 20, 3) := by decide +kernel
theorem dX6_need_9 : decode cX6_need 9 = .ok (.iload_n 1, 1) := by decide +kernel
theorem dX6_need_10 : decode cX6_need 10 = .ok (.bipush 10, 2) := by decide +kernel
theorem dX6_need_12 : decode cX6_need 12 = .ok (.if_icmp .lt 18, 3) := by decide +kernel
theorem dX6_need_15 : decode cX6_need 15 = .ok (.aload_n 0, 1) := by decide +kernel
theorem dX6_need_16 : decode cX6_need 16 = .ok (.iload_n 1, 1) := by decide +kernel
theorem dX6_need_17 : decode cX6_need 17 = .ok (.bipush 10, 2) := by decide +kernel
theorem dX6_need_19 : decode cX6_need 19 = .ok (.isub, 1) := by decide +kernel
theorem dX6_need_20 : decode cX6_need 20 = .ok (.invokevirtual 69, 3) := by decide +kernel
theorem dX6_need_23 : decode cX6_need 23 = .ok (.ifCond .eq 7, 3) := by decide +kernel
theorem dX6_need_26 : decode cX6_need 26 = .ok (.iconst 1, 1) := by decide +kernel
theorem dX6_need_27 : decode cX6_need 27 = .ok (.goto 4, 3) := by decide +kernel
theorem dX6_need_30 : decode cX6_need 30 = .ok (.iconst 0, 1) := by decide +kernel
theorem dX6_need_31 : decode cX6_need 31 = .ok (.istore_n 2, 1) := by decide +kernel
theorem dX6_need_32 : decode cX6_need 32 = .ok (.iload_n 2, 1) := by decide +kernel
theorem dX6_need_33 : decode cX6_need 33 = .ok (.ifCond .ne 5, 3) := by decide +kernel
theorem dX6_need_36 : decode cX6_need 36 = .ok (.iconst (-1), 1) := by decide +kernel
theorem dX6_need_37 : decode cX6_need 37 = .ok (.ireturn, 1) := by decide +kernel
theorem dX6_need_38 : decode cX6_need 38 = .ok (.iconst 0, 1) := by decide +kernel
theorem dX6_need_39 : decode cX6_need 39 = .ok (.istore_n 3, 1) := by decide +kernel
theorem dX6_need_40 : decode cX6_need 40 = .ok (.iload_n 3, 1) := by decide +kernel
theorem dX6_need_41 : decode cX6_need 41 = .ok (.iconst 4, 1) := by decide +kernel
theorem dX6_need_42 : decode cX6_need 42 = .ok (.if_icmp .gt 35, 3) := by decide +kernel
theorem dX6_need_45 : decode cX6_need 45 = .ok (.aload_n 0, 1) := by decide +kernel
theorem dX6_need_46 : decode cX6_need 46 = .ok (.iload_n 3, 1) := by decide +kernel
theorem dX6_need_47 : decode cX6_need 47 = .ok (.invokevirtual 134, 3) := by decide +kernel
theorem dX6_need_50 : decode cX6_need 50 = .ok (.ifCond .eq 21, 3) := by decide +kernel
theorem dX6_need_53 : decode cX6_need 53 = .ok (.iload_n 1, 1) := by decide +kernel
theorem dX6_need_54 : decode cX6_need 54 = .ok (.ifCond .ne 7, 3) := by decide +kernel
theorem dX6_need_57 : decode cX6_need 57 = .ok (.iload_n 3, 1) := by decide +kernel
theorem dX6_need_58 : decode cX6_need 58 = .ok (.goto 12, 3) := by decide +kernel
theorem dX6_need_61 : decode cX6_need 61 = .ok (.aload_n 0, 1) := by decide +kernel
theorem dX6_need_62 : decode cX6_need 62 = .ok (.getfield 60, 3) := by decide +kernel
theorem dX6_need_65 : decode cX6_need 65 = .ok (.iload_n 1, 1) := by decide +kernel
theorem dX6_need_66 : decode cX6_need 66 = .ok (.bipush 10, 2) := by decide +kernel
theorem dX6_need_68 : decode cX6_need 68 = .ok (.isub, 1) := by decide +kernel
theorem dX6_need_69 : decode cX6_need 69 = .ok (.iaload, 1) := by decide +kernel
theorem dX6_need_70 : decode cX6_need 70 = .ok (.ireturn, 1) := by decide +kernel
theorem dX6_need_71 : decode cX6_need 71 = .ok (.iinc 3 1, 3) := by decide +kernel
theorem dX6_need_74 : decode cX6_need 74 = .ok (.goto (-34), 3) := by decide +kernel
theorem dX6_need_77 : decode cX6_need 77 = .ok (.iconst (-1), 1) := by decide +kernel
theorem dX6_need_78 : decode cX6_need 78 = .ok (.ireturn, 1) := by decide +kernel
set_option maxRecDepth 20000 in
set_option maxHeartbeats 4000000 in
theorem wk_X6_need_40 {Γ : GT} {a : Nat → Nat} {q : Nat → ClassId} {x1 : Int32}  {mtd : Int32} {mnk : Int32} {mva : Nat → Int32} {mno : Nat → Int32} {mro : Nat → Int32} {mbx : Nat → Int32} {mst : Nat → Int32} {mja : Nat → Int32} {mpr : Nat → Int32} {mcr : Int32} {mow : Int32} {mhd : Int32} {mmo : Int32} {mbk : Nat → Int32} {mrs : Int32} {mrk : Nat → Int32} {mfe : Nat → Int32} {mus : Nat → Int32} {mgi : Nat → Int32} {K : Int32 → Int32 → (Nat → Int32) → (Nat → Int32) → (Nat → Int32) → (Nat → Int32) → Prop} {X : (Nat → Int32) → (Nat → Int32) → (Nat → Int32) → (Nat → Int32) → Prop} (g : gd Γ cX6_need RX6 4 (rmz 4 94) q) (hret : rtI_5 Γ cX6_need 4 (fun (mtd : Int32) (mtu : Nat → Int32) (mca : Nat → Int32) (mfr : Nat → Int32) (maj : Nat → Int32) => (mdW a q mtd mnk mva mno mro mtu mbx mst mja mpr mcr mow mhd mmo mbk mca mfr mrs mrk mfe mus mgi maj)) K) (hX : ∀ (mtu : Nat → Int32) (mca : Nat → Int32) (mfr : Nat → Int32) (maj : Nat → Int32) , X mtu mca mfr maj → jw Γ 4 0 0 (mdW a q mtd mnk mva mno mro mtu mbx mst mja mpr mcr mow mhd mmo mbk mca mfr mrs mrk mfe mus mgi maj) [] [] 77) :
    ∀ (n : Nat) (x3 : Int32) (mtu : Nat → Int32) (mca : Nat → Int32) (mfr : Nat → Int32) (maj : Nat → Int32) , wp_X6_need_40 x1 mtd mnk mva mno mro mst mpr K X n x3 mtu mca mfr maj → jw Γ 4 0 0 (mdW a q mtd mnk mva mno mro mtu mbx mst mja mpr mcr mow mhd mmo mbk mca mfr mrs mrk mfe mus mgi maj) [(0, .ref (a 0)), (1, .int x1), (3, .int x3)] [] 40 := by
  intro n
  induction n with
  | zero =>
    intro _ _ _ _ _ h
    exact False.elim h
  | succ n ih =>
    intro x3 mtu mca mfr maj h
    unfold wp_X6_need_40 at h
    refine j_iload_n g 2 rfl dX6_need_40 ?_
    refine j_iconst g (v := 4) (by decide) dX6_need_41 ?_
    refine j_icmp_gt g dX6_need_42 (tgt := 77) (by decide) (fun c1 => ?_) (fun c1 => ?_)
    · replace h := h.1 c1
      refine j_sub [] rfl ?_
      exact hX mtu mca mfr maj h
    replace h := h.2 c1
    refine j_aload_n g 0 rfl dX6_need_45 ?_
    refine j_iload_n g 2 rfl dX6_need_46 ?_
    refine j_callVZ_4 g (As := [.int x3]) (st := []) (c_X6_isOutBy  h) cl_X6_134 0 6 md_0 rfl rfl (Nat.le_of_ble_eq_true rfl) (Nat.le_of_ble_eq_true rfl) (Nat.zero_le _) (Nat.zero_le _) rfl rfl (Nat.le_of_ble_eq_true rfl) dX6_need_47 (fun r_2 mtu_2 mca_2 mfr_2 maj_2 hz_2 h => ?_)
    refine j_ws (ws' := (mdW a q mtd mnk mva mno mro mtu_2 mbx mst mja mpr mcr mow mhd mmo mbk mca_2 mfr_2 mrs mrk mfe mus mgi maj_2)) rfl ?_
    refine j_if_eq g dX6_need_50 (tgt := 71) (by decide) (fun c3 => ?_) (fun c3 => ?_)
    · replace h := h.1 c3
      refine j_iinc g 2 (n := 1) (v := x3 + 1) (lv' := [(3, .int (x3 + 1)), (0, .ref (a 0)), (1, .int x1)]) rfl rfl (by decide) rfl dX6_need_71 ?_
      refine j_goto g dX6_need_74 (tgt := 40) (by decide) ?_
      refine j_sub [1, 2, 0] rfl ?_
      exact ih (x3 + 1) mtu_2 mca_2 mfr_2 maj_2 h
    replace h := h.2 c3
    refine j_iload_n g 1 rfl dX6_need_53 ?_
    refine j_if_ne g dX6_need_54 (tgt := 61) (by decide) (fun c4 => ?_) (fun c4 => ?_)
    rotate_left
    · replace h := h.2 c4
      refine j_iload_n g 2 rfl dX6_need_57 ?_
      refine j_goto g dX6_need_58 (tgt := 70) (by decide) ?_
      exact hret.go dX6_need_70 h
    replace h := h.1 c4
    refine j_aload_n g 0 rfl dX6_need_61 ?_
    refine j_get g fl_X6_60 0 md_0 rfl dX6_need_62 ?_
    refine j_iload_n g 1 rfl dX6_need_65 ?_
    refine j_bipush g (v := 10) (by decide) dX6_need_66 ?_
    refine j_isub g dX6_need_68 ?_
    obtain ⟨hv5, h⟩ := h
    refine j_iald g 16 md_16 hv5 dX6_need_69 ?_
    exact hret.go dX6_need_70 h
set_option maxRecDepth 20000 in
set_option maxHeartbeats 4000000 in
theorem c_X6_need {a : Nat → Nat} {q : Nat → ClassId} {x1 : Int32}  {mtd : Int32} {mnk : Int32} {mva : Nat → Int32} {mno : Nat → Int32} {mro : Nat → Int32} {mtu : Nat → Int32} {mbx : Nat → Int32} {mst : Nat → Int32} {mja : Nat → Int32} {mpr : Nat → Int32} {mcr : Int32} {mow : Int32} {mhd : Int32} {mmo : Int32} {mbk : Nat → Int32} {mca : Nat → Int32} {mfr : Nat → Int32} {mrs : Int32} {mrk : Nat → Int32} {mfe : Nat → Int32} {mus : Nat → Int32} {mgi : Nat → Int32} {maj : Nat → Int32} {K : Int32 → Int32 → (Nat → Int32) → (Nat → Int32) → (Nat → Int32) → (Nat → Int32) → Prop} (h : wp_X6_need x1 mtd mnk mva mno mro mtu mst mpr mca mfr maj K) : ctI_5 q yX6_need cX6_need 4 4 94 [.ref (a 0), .int x1] (mdW a q mtd mnk mva mno mro mtu mbx mst mja mpr mcr mow mhd mmo mbk mca mfr mrs mrk mfe mus mgi maj) (fun (mtd : Int32) (mtu : Nat → Int32) (mca : Nat → Int32) (mfr : Nat → Int32) (maj : Nat → Int32) => (mdW a q mtd mnk mva mno mro mtu mbx mst mja mpr mcr mow mhd mmo mbk mca mfr mrs mrk mfe mus mgi maj)) K := by
  refine met_I_5 (by decide) (Nat.le_of_ble_eq_true rfl) (fun Γ g hret => ?_)
  unfold wp_X6_need at h
  show jw Γ 4 0 0 (mdW a q mtd mnk mva mno mro mtu mbx mst mja mpr mcr mow mhd mmo mbk mca mfr mrs mrk mfe mus mgi maj) [(0, .ref (a 0)), (1, .int x1)] [] 0
  refine j_aload_n g 0 rfl dX6_need_0 ?_
  refine j_iconst g (v := 0) (by decide) dX6_need_1 ?_
  refine j_put g fl_X6_63 fp_X6_0 0 md_0 rfl rfl (Nat.le_of_ble_eq_true rfl) (ws' := (mdW a q (0 : Int32) mnk mva mno mro mtu mbx mst mja mpr mcr mow mhd mmo mbk mca mfr mrs mrk mfe mus mgi maj)) rfl dX6_need_2 ?_
  refine j_iload_n g 1 rfl dX6_need_5 ?_
  refine jn_cut h (fun Z1 eZ1 h => ?_)
  have hZ1 : ∀ (xs0_1 : Int32), (xs0_1 = 0 ∨ xs0_1 = 1) → Z1 xs0_1 → jw Γ 4 0 0 (mdW a q (0 : Int32) mnk mva mno mro mtu mbx mst mja mpr mcr mow mhd mmo mbk mca mfr mrs mrk mfe mus mgi maj) [(0, .ref (a 0)), (1, .int x1)] [.int xs0_1] 31 := by
    intro xs0_1 hbs0_1 h
    rw [eZ1] at h
    refine j_istore_n g (lv' := [(2, .int xs0_1), (0, .ref (a 0)), (1, .int x1)]) (by decide) rfl dX6_need_31 ?_
    refine j_iload_n g 0 rfl dX6_need_32 ?_
    refine j_if_ne g dX6_need_33 (tgt := 38) (by decide) (fun c2 => ?_) (fun c2 => ?_)
    rotate_left
    · replace h := h.2 c2
      refine j_iconst g (v := -1) (by decide) dX6_need_36 ?_
      exact hret.go dX6_need_37 h
    replace h := h.1 c2
    refine j_iconst g (v := 0) (by decide) dX6_need_38 ?_
    refine j_istore_n g (lv' := [(3, .int (0 : Int32)), (2, .int xs0_1), (0, .ref (a 0)), (1, .int x1)]) (by decide) rfl dX6_need_39 ?_
    obtain ⟨n3, h⟩ := h
    refine j_sub [2, 3, 0] rfl ?_
    refine wk_X6_need_40  g hret (fun mtu_3 mca_3 mfr_3 maj_3 h => ?_) n3 (0 : Int32) mtu mca mfr maj h
    refine j_iconst g (v := -1) (by decide) dX6_need_77 ?_
    exact hret.go dX6_need_78 h
  refine jn_cut h (fun Z4 eZ4 h => ?_)
  have hZ4 : Z4 → jw Γ 4 0 0 (mdW a q (0 : Int32) mnk mva mno mro mtu mbx mst mja mpr mcr mow mhd mmo mbk mca mfr mrs mrk mfe mus mgi maj) [(0, .ref (a 0)), (1, .int x1)] [] 26 := by
    intro h
    rw [eZ4] at h
    refine j_iconst g (v := 1) (by decide) dX6_need_26 ?_
    refine j_goto g dX6_need_27 (tgt := 31) (by decide) ?_
    exact hZ1 (1 : Int32) (Or.inr rfl) h
  refine j_if_eq g dX6_need_6 (tgt := 26) (by decide) (fun c5 => ?_) (fun c5 => ?_)
  · replace h := h.1 c5
    exact hZ4 h
  replace h := h.2 c5
  refine j_iload_n g 1 rfl dX6_need_9 ?_
  refine j_bipush g (v := 10) (by decide) dX6_need_10 ?_
  refine jn_cut h (fun Z6 eZ6 h => ?_)
  have hZ6 : Z6 → jw Γ 4 0 0 (mdW a q (0 : Int32) mnk mva mno mro mtu mbx mst mja mpr mcr mow mhd mmo mbk mca mfr mrs mrk mfe mus mgi maj) [(0, .ref (a 0)), (1, .int x1)] [] 30 := by
    intro h
    rw [eZ6] at h
    refine j_iconst g (v := 0) (by decide) dX6_need_30 ?_
    exact hZ1 (0 : Int32) (Or.inl rfl) h
  refine j_icmp_lt g dX6_need_12 (tgt := 30) (by decide) (fun c7 => ?_) (fun c7 => ?_)
  · replace h := h.1 c7
    exact hZ6 h
  replace h := h.2 c7
  refine j_aload_n g 0 rfl dX6_need_15 ?_
  refine j_iload_n g 1 rfl dX6_need_16 ?_
  refine j_bipush g (v := 10) (by decide) dX6_need_17 ?_
  refine j_isub g dX6_need_19 ?_
  refine j_callVZ_0 g (As := [.int (x1 - (10 : Int32))]) (st := []) (c_X6_isKind  h) cl_X6_69 0 6 md_0 rfl rfl (Nat.le_of_ble_eq_true rfl) (Nat.le_of_ble_eq_true rfl) (Nat.zero_le _) (Nat.zero_le _) rfl rfl (Nat.le_of_ble_eq_true rfl) dX6_need_20 (fun r_8  hz_8 h => ?_)
  refine j_if_eq g dX6_need_23 (tgt := 30) (by decide) (fun c9 => ?_) (fun c9 => ?_)
  · replace h := h.1 c9
    exact hZ6 h
  replace h := h.2 c9
  exact hZ4 h

set_option maxRecDepth 20000 in
def wp_X6_boxed_4  (mnk : Int32) (mva : Nat → Int32) (mbx : Nat → Int32) (K : Int32 → Prop) (X : Int32 → Prop) : Nat → Int32 → Int32 → Prop
  | 0, _, _ => False
  | n + 1, x1, x2 => ((mnk ≤ x2 → X x1) ∧ (¬ mnk ≤ x2 → (vp_in x2 6 ∧ (vp_in x2 6 ∧ wp_X6_boxed_4 mnk mva mbx K X n (x1 + ((mbx x2.toNatClampNeg) * (mva x2.toNatClampNeg))) (x2 + 1)))))
set_option maxRecDepth 20000 in
def wp_X6_boxed  (mnk : Int32) (mva : Nat → Int32) (mbx : Nat → Int32) (K : Int32 → Prop) : Prop :=
  ∃ n1 : Nat, wp_X6_boxed_4 mnk mva mbx K (fun (x1_1 : Int32) => K x1_1) n1 (0 : Int32) (0 : Int32)
theorem dX6_boxed_0 : decode cX6_boxed 0 = .ok (.iconst 0, 1) := by decide +kernel
theorem dX6_boxed_1 : decode cX6_boxed 1 = .ok (.istore_n 1, 1) := by decide +kernel
theorem dX6_boxed_2 : decode cX6_boxed 2 = .ok (.iconst 0, 1) := by decide +kernel
theorem dX6_boxed_3 : decode cX6_boxed 3 = .ok (.istore_n 2, 1) := by decide +kernel
theorem dX6_boxed_4 : decode cX6_boxed 4 = .ok (.iload_n 2, 1) := by decide +kernel
theorem dX6_boxed_5 : decode cX6_boxed 5 = .ok (.aload_n 0, 1) := by decide +kernel
theorem dX6_boxed_6 : decode cX6_boxed 6 = .ok (.getfield 66, 3) := by decide +kernel
theorem dX6_boxed_9 : decode cX6_boxed 9 = .ok (.if_icmp .ge 25, 3) := by decide +kernel
theorem dX6_boxed_12 : decode cX6_boxed 12 = .ok (.iload_n 1, 1) := by decide +kernel
theorem dX6_boxed_13 : decode cX6_boxed 13 = .ok (.aload_n 0, 1) := by decide +kernel
theorem dX6_boxed_14 : decode cX6_boxed 14 = .ok (.getfield 23, 3) := by decide +kernel
theorem dX6_boxed_17 : decode cX6_boxed 17 = .ok (.iload_n 2, 1) := by decide +kernel
theorem dX6_boxed_18 : decode cX6_boxed 18 = .ok (.iaload, 1) := by decide +kernel
theorem dX6_boxed_19 : decode cX6_boxed 19 = .ok (.aload_n 0, 1) := by decide +kernel
theorem dX6_boxed_20 : decode cX6_boxed 20 = .ok (.getfield 7, 3) := by decide +kernel
theorem dX6_boxed_23 : decode cX6_boxed 23 = .ok (.iload_n 2, 1) := by decide +kernel
theorem dX6_boxed_24 : decode cX6_boxed 24 = .ok (.iaload, 1) := by decide +kernel
theorem dX6_boxed_25 : decode cX6_boxed 25 = .ok (.imul, 1) := by decide +kernel
theorem dX6_boxed_26 : decode cX6_boxed 26 = .ok (.iadd, 1) := by decide +kernel
theorem dX6_boxed_27 : decode cX6_boxed 27 = .ok (.istore_n 1, 1) := by decide +kernel
theorem dX6_boxed_28 : decode cX6_boxed 28 = .ok (.iinc 2 1, 3) := by decide +kernel
theorem dX6_boxed_31 : decode cX6_boxed 31 = .ok (.goto (-27), 3) := by decide +kernel
theorem dX6_boxed_34 : decode cX6_boxed 34 = .ok (.iload_n 1, 1) := by decide +kernel
theorem dX6_boxed_35 : decode cX6_boxed 35 = .ok (.ireturn, 1) := by decide +kernel
set_option maxRecDepth 20000 in
set_option maxHeartbeats 4000000 in
theorem wk_X6_boxed_4 {Γ : GT} {a : Nat → Nat} {q : Nat → ClassId}   {mtd : Int32} {mnk : Int32} {mva : Nat → Int32} {mno : Nat → Int32} {mro : Nat → Int32} {mtu : Nat → Int32} {mbx : Nat → Int32} {mst : Nat → Int32} {mja : Nat → Int32} {mpr : Nat → Int32} {mcr : Int32} {mow : Int32} {mhd : Int32} {mmo : Int32} {mbk : Nat → Int32} {mca : Nat → Int32} {mfr : Nat → Int32} {mrs : Int32} {mrk : Nat → Int32} {mfe : Nat → Int32} {mus : Nat → Int32} {mgi : Nat → Int32} {maj : Nat → Int32} {K : Int32 → Prop} {X : Int32 → Prop} (g : gd Γ cX6_boxed RX6 3 (rmz 0 0) q) (hret : rtI_0 Γ cX6_boxed 3 (mdW a q mtd mnk mva mno mro mtu mbx mst mja mpr mcr mow mhd mmo mbk mca mfr mrs mrk mfe mus mgi maj) K) (hX : ∀ (x1 : Int32) , X x1 → jw Γ 3 0 0 (mdW a q mtd mnk mva mno mro mtu mbx mst mja mpr mcr mow mhd mmo mbk mca mfr mrs mrk mfe mus mgi maj) [(1, .int x1)] [] 34) :
    ∀ (n : Nat) (x1 : Int32) (x2 : Int32) , wp_X6_boxed_4 mnk mva mbx K X n x1 x2 → jw Γ 3 0 0 (mdW a q mtd mnk mva mno mro mtu mbx mst mja mpr mcr mow mhd mmo mbk mca mfr mrs mrk mfe mus mgi maj) [(0, .ref (a 0)), (1, .int x1), (2, .int x2)] [] 4 := by
  intro n
  induction n with
  | zero =>
    intro _ _ h
    exact False.elim h
  | succ n ih =>
    intro x1 x2 h
    unfold wp_X6_boxed_4 at h
    refine j_iload_n g 2 rfl dX6_boxed_4 ?_
    refine j_aload_n g 0 rfl dX6_boxed_5 ?_
    refine j_get g fl_X6_66 0 md_0 rfl dX6_boxed_6 ?_
    refine j_icmp_ge g dX6_boxed_9 (tgt := 34) (by decide) (fun c1 => ?_) (fun c1 => ?_)
    · replace h := h.1 c1
      refine j_sub [1] rfl ?_
      exact hX x1 h
    replace h := h.2 c1
    refine j_iload_n g 1 rfl dX6_boxed_12 ?_
    refine j_aload_n g 0 rfl dX6_boxed_13 ?_
    refine j_get g fl_X6_23 0 md_0 rfl dX6_boxed_14 ?_
    refine j_iload_n g 2 rfl dX6_boxed_17 ?_
    obtain ⟨hv2, h⟩ := h
    refine j_iald g 5 md_5 hv2 dX6_boxed_18 ?_
    refine j_aload_n g 0 rfl dX6_boxed_19 ?_
    refine j_get g fl_X6_7 0 md_0 rfl dX6_boxed_20 ?_
    refine j_iload_n g 2 rfl dX6_boxed_23 ?_
    obtain ⟨hv3, h⟩ := h
    refine j_iald g 1 md_1 hv3 dX6_boxed_24 ?_
    refine j_imul g dX6_boxed_25 ?_
    refine j_iadd g dX6_boxed_26 ?_
    refine j_istore_n g (lv' := [(1, .int (x1 + ((mbx x2.toNatClampNeg) * (mva x2.toNatClampNeg)))), (0, .ref (a 0)), (2, .int x2)]) (by decide) rfl dX6_boxed_27 ?_
    refine j_iinc g 2 (n := 1) (v := x2 + 1) (lv' := [(2, .int (x2 + 1)), (1, .int (x1 + ((mbx x2.toNatClampNeg) * (mva x2.toNatClampNeg)))), (0, .ref (a 0))]) rfl rfl (by decide) rfl dX6_boxed_28 ?_
    refine j_goto g dX6_boxed_31 (tgt := 4) (by decide) ?_
    refine j_sub [2, 1, 0] rfl ?_
    exact ih (x1 + ((mbx x2.toNatClampNeg) * (mva x2.toNatClampNeg))) (x2 + 1) h
set_option maxRecDepth 20000 in
set_option maxHeartbeats 4000000 in
theorem c_X6_boxed {a : Nat → Nat} {q : Nat → ClassId}   {mtd : Int32} {mnk : Int32} {mva : Nat → Int32} {mno : Nat → Int32} {mro : Nat → Int32} {mtu : Nat → Int32} {mbx : Nat → Int32} {mst : Nat → Int32} {mja : Nat → Int32} {mpr : Nat → Int32} {mcr : Int32} {mow : Int32} {mhd : Int32} {mmo : Int32} {mbk : Nat → Int32} {mca : Nat → Int32} {mfr : Nat → Int32} {mrs : Int32} {mrk : Nat → Int32} {mfe : Nat → Int32} {mus : Nat → Int32} {mgi : Nat → Int32} {maj : Nat → Int32} {K : Int32 → Prop} (h : wp_X6_boxed mnk mva mbx K) : ctI_0 q yX6_boxed cX6_boxed 3 0 0 [.ref (a 0)] (mdW a q mtd mnk mva mno mro mtu mbx mst mja mpr mcr mow mhd mmo mbk mca mfr mrs mrk mfe mus mgi maj) (mdW a q mtd mnk mva mno mro mtu mbx mst mja mpr mcr mow mhd mmo mbk mca mfr mrs mrk mfe mus mgi maj) K := by
  refine met_I_0 (by decide) (Nat.le_of_ble_eq_true rfl) (fun Γ g hret => ?_)
  unfold wp_X6_boxed at h
  show jw Γ 3 0 0 (mdW a q mtd mnk mva mno mro mtu mbx mst mja mpr mcr mow mhd mmo mbk mca mfr mrs mrk mfe mus mgi maj) [(0, .ref (a 0))] [] 0
  refine j_iconst g (v := 0) (by decide) dX6_boxed_0 ?_
  refine j_istore_n g (lv' := [(1, .int (0 : Int32)), (0, .ref (a 0))]) (by decide) rfl dX6_boxed_1 ?_
  refine j_iconst g (v := 0) (by decide) dX6_boxed_2 ?_
  refine j_istore_n g (lv' := [(2, .int (0 : Int32)), (1, .int (0 : Int32)), (0, .ref (a 0))]) (by decide) rfl dX6_boxed_3 ?_
  obtain ⟨n1, h⟩ := h
  refine j_sub [2, 1, 0] rfl ?_
  refine wk_X6_boxed_4  g hret (fun x1_1 h => ?_) n1 (0 : Int32) (0 : Int32) h
  refine j_iload_n g 0 rfl dX6_boxed_34 ?_
  exact hret.go dX6_boxed_35 h

set_option maxRecDepth 20000 in
def wp_X6_look_71  (mnk : Int32) (mva : Nat → Int32) (mtu : Nat → Int32) (K : Int32 → Int32 → Prop) (X : Int32 → Prop) : Nat → Int32 → Int32 → Prop
  | 0, _, _ => False
  | n + 1, x2, x3 => ((mnk ≤ x3 → X x2) ∧ (¬ mnk ≤ x3 → (vp_in x3 6 ∧ (vp_in x3 6 ∧ wp_X6_look_71 mnk mva mtu K X n (x2 + ((mtu x3.toNatClampNeg) * (mva x3.toNatClampNeg))) (x3 + 1)))))
set_option maxRecDepth 20000 in
def wp_X6_look (x1 : Int32) (mtd : Int32) (mnk : Int32) (mva : Nat → Int32) (mtu : Nat → Int32) (mbx : Nat → Int32) (mcr : Int32) (mow : Int32) (mhd : Int32) (mmo : Int32) (mbk : Nat → Int32) (K : Int32 → Int32 → Prop) : Prop :=
  ((¬ x1 = 0 → ((¬ x1 = (1 : Int32) → ((¬ x1 = (2 : Int32) → ((¬ x1 = (3 : Int32) → ((¬ x1 = (4 : Int32) → ((¬ x1 = (5 : Int32) → ((¬ x1 = (6 : Int32) → ((x1 < (10 : Int32) → K (-1000000 : Int32) (0 : Int32)) ∧ (¬ x1 < (10 : Int32) → (((16 : Int32) ≤ x1 → K (-1000000 : Int32) (0 : Int32)) ∧ (¬ (16 : Int32) ≤ x1 → (vp_in (x1 - (10 : Int32)) 6 ∧ K (mbk (x1 - (10 : Int32)).toNatClampNeg) (0 : Int32))))))) ∧ (x1 = (6 : Int32) → wp_X6_boxed mnk mva mbx (fun (r_11 : Int32)  => K r_11 (0 : Int32))))) ∧ (x1 = (5 : Int32) → wp_X6_boxed mnk mva mbx (fun (r_12 : Int32)  => wp_X6_heldValue mva mhd (fun (r_13 : Int32)  => ∃ n14 : Nat, wp_X6_look_71 mnk mva mtu K (fun (x2_14 : Int32) => K x2_14 (0 : Int32)) n14 (r_12 + r_13) (0 : Int32)))))) ∧ (x1 = (4 : Int32) → K mmo (0 : Int32)))) ∧ (x1 = (3 : Int32) → K mhd (0 : Int32)))) ∧ (x1 = (2 : Int32) → K mow (0 : Int32)))) ∧ (x1 = (1 : Int32) → K mcr (0 : Int32)))) ∧ (x1 = 0 → K mnk (0 : Int32)))
theorem dX6_look_0 : decode cX6_look 0 = .ok (.aload_n 0, 1) := by decide +kernel
theorem dX6_look_1 : decode cX6_look 1 = .ok (.iconst 0, 1) := by decide +kernel
theorem dX6_look_2 : decode cX6_look 2 = .ok (.putfield 63, 3) := by decide +kernel
theorem dX6_look_5 : decode cX6_look 5 = .ok (.iload_n 1, 1) := by decide +kernel
theorem dX6_look_6 : decode cX6_look 6 = .ok (.ifCond .ne 8, 3) := by decide +kernel
theorem dX6_look_9 : decode cX6_look 9 = .ok (.aload_n 0, 1) := by decide +kernel
theorem dX6_look_10 : decode cX6_look 10 = .ok (.getfield 66, 3) := by decide +kernel
theorem dX6_look_13 : decode cX6_look 13 = .ok (.ireturn, 1) := by decide +kernel
theorem dX6_look_14 : decode cX6_look 14 = .ok (.iload_n 1, 1) := by decide +kernel
theorem dX6_look_15 : decode cX6_look 15 = .ok (.iconst 1, 1) := by decide +kernel
theorem dX6_look_16 : decode cX6_look 16 = .ok (.if_icmp .ne 8, 3) := by decide +kernel
theorem dX6_look_19 : decode cX6_look 19 = .ok (.aload_n 0, 1) := by decide +kernel
theorem dX6_look_20 : decode cX6_look 20 = .ok (.getfield 73, 3) := by decide +kernel
theorem dX6_look_23 : decode cX6_look 23 = .ok (.ireturn, 1) := by decide +kernel
theorem dX6_look_24 : decode cX6_look 24 = .ok (.iload_n 1, 1) := by decide +kernel
theorem dX6_look_25 : decode cX6_look 25 = .ok (.iconst 2, 1) := by decide +kernel
theorem dX6_look_26 : decode cX6_look 26 = .ok (.if_icmp .ne 8, 3) := by decide +kernel
theorem dX6_look_29 : decode cX6_look 29 = .ok (.aload_n 0, 1) := by decide +kernel
theorem dX6_look_30 : decode cX6_look 30 = .ok (.getfield 117, 3) := by decide +kernel
theorem dX6_look_33 : decode cX6_look 33 = .ok (.ireturn, 1) := by decide +kernel
theorem dX6_look_34 : decode cX6_look 34 = .ok (.iload_n 1, 1) := by decide +kernel
theorem dX6_look_35 : decode cX6_look 35 = .ok (.iconst 3, 1) := by decide +kernel
theorem dX6_look_36 : decode cX6_look 36 = .ok (.if_icmp .ne 8, 3) := by decide +kernel
theorem dX6_look_39 : decode cX6_look 39 = .ok (.aload_n 0, 1) := by decide +kernel
theorem dX6_look_40 : decode cX6_look 40 = .ok (.getfield 35, 3) := by decide +kernel
theorem dX6_look_43 : decode cX6_look 43 = .ok (.ireturn, 1) := by decide +kernel
theorem dX6_look_44 : decode cX6_look 44 = .ok (.iload_n 1, 1) := by decide +kernel
theorem dX6_look_45 : decode cX6_look 45 = .ok (.iconst 4, 1) := by decide +kernel
theorem dX6_look_46 : decode cX6_look 46 = .ok (.if_icmp .ne 8, 3) := by decide +kernel
theorem dX6_look_49 : decode cX6_look 49 = .ok (.aload_n 0, 1) := by decide +kernel
theorem dX6_look_50 : decode cX6_look 50 = .ok (.getfield 79, 3) := by decide +kernel
theorem dX6_look_53 : decode cX6_look 53 = .ok (.ireturn, 1) := by decide +kernel
theorem dX6_look_54 : decode cX6_look 54 = .ok (.iload_n 1, 1) := by decide +kernel
theorem dX6_look_55 : decode cX6_look 55 = .ok (.iconst 5, 1) := by decide +kernel
theorem dX6_look_56 : decode cX6_look 56 = .ok (.if_icmp .ne 47, 3) := by decide +kernel
theorem dX6_look_59 : decode cX6_look 59 = .ok (.aload_n 0, 1) := by decide +kernel
theorem dX6_look_60 : decode cX6_look 60 = .ok (.invokevirtual 137, 3) := by decide +kernel
theorem dX6_look_63 : decode cX6_look 63 = .ok (.aload_n 0, 1) := by decide +kernel
theorem dX6_look_64 : decode cX6_look 64 = .ok (.invokevirtual 106, 3) := by decide +kernel
theorem dX6_look_67 : decode cX6_look 67 = .ok (.iadd, 1) := by decide +kernel
theorem dX6_look_68 : decode cX6_look 68 = .ok (.istore_n 2, 1) := by decide +kernel
theorem dX6_look_69 : decode cX6_look 69 = .ok (.iconst 0, 1) := by decide +kernel
theorem dX6_look_70 : decode cX6_look 70 = .ok (.istore_n 3, 1) := by decide +kernel
theorem dX6_look_71 : decode cX6_look 71 = .ok (.iload_n 3, 1) := by decide +kernel
theorem dX6_look_72 : decode cX6_look 72 = .ok (.aload_n 0, 1) := by decide +kernel
theorem dX6_look_73 : decode cX6_look 73 = .ok (.getfield 66, 3) := by decide +kernel
theorem dX6_look_76 : decode cX6_look 76 = .ok (.if_icmp .ge 25, 3) := by decide +kernel
theorem dX6_look_79 : decode cX6_look 79 = .ok (.iload_n 2, 1) := by decide +kernel
theorem dX6_look_80 : decode cX6_look 80 = .ok (.aload_n 0, 1) := by decide +kernel
theorem dX6_look_81 : decode cX6_look 81 = .ok (.getfield 20, 3) := by decide +kernel
theorem dX6_look_84 : decode cX6_look 84 = .ok (.iload_n 3, 1) := by decide +kernel
theorem dX6_look_85 : decode cX6_look 85 = .ok (.iaload, 1) := by decide +kernel
theorem dX6_look_86 : decode cX6_look 86 = .ok (.aload_n 0, 1) := by decide +kernel
theorem dX6_look_87 : decode cX6_look 87 = .ok (.getfield 7, 3) := by decide +kernel
theorem dX6_look_90 : decode cX6_look 90 = .ok (.iload_n 3, 1) := by decide +kernel
theorem dX6_look_91 : decode cX6_look 91 = .ok (.iaload, 1) := by decide +kernel
theorem dX6_look_92 : decode cX6_look 92 = .ok (.imul, 1) := by decide +kernel
theorem dX6_look_93 : decode cX6_look 93 = .ok (.iadd, 1) := by decide +kernel
theorem dX6_look_94 : decode cX6_look 94 = .ok (.istore_n 2, 1) := by decide +kernel
theorem dX6_look_95 : decode cX6_look 95 = .ok (.iinc 3 1, 3) := by decide +kernel
theorem dX6_look_98 : decode cX6_look 98 = .ok (.goto (-27), 3) := by decide +kernel
theorem dX6_look_101 : decode cX6_look 101 = .ok (.iload_n 2, 1) := by decide +kernel
theorem dX6_look_102 : decode cX6_look 102 = .ok (.ireturn, 1) := by decide +kernel
theorem dX6_look_103 : decode cX6_look 103 = .ok (.iload_n 1, 1) := by decide +kernel
theorem dX6_look_104 : decode cX6_look 104 = .ok (.bipush 6, 2) := by decide +kernel
theorem dX6_look_106 : decode cX6_look 106 = .ok (.if_icmp .ne 8, 3) := by decide +kernel
theorem dX6_look_109 : decode cX6_look 109 = .ok (.aload_n 0, 1) := by decide +kernel
theorem dX6_look_110 : decode cX6_look 110 = .ok (.invokevirtual 137, 3) := by decide +kernel
theorem dX6_look_113 : decode cX6_look 113 = .ok (.ireturn, 1) := by decide +kernel
theorem dX6_look_114 : decode cX6_look 114 = .ok (.iload_n 1, 1) := by decide +kernel
theorem dX6_look_115 : decode cX6_look 115 = .ok (.bipush 10, 2) := by decide +kernel
theorem dX6_look_117 : decode cX6_look 117 = .ok (.if_icmp .lt 21, 3) := by decide +kernel
theorem dX6_look_120 : decode cX6_look 120 = .ok (.iload_n 1, 1) := by decide +kernel
theorem dX6_look_121 : decode cX6_look 121 = .ok (.bipush 16, 2) := by decide +kernel
theorem dX6_look_123 : decode cX6_look 123 = .ok (.if_icmp .ge 15, 3) := by decide +kernel
theorem dX6_look_126 : decode cX6_look 126 = .ok (.aload_n 0, 1) := by decide +kernel
theorem dX6_look_127 : decode cX6_look 127 = .ok (.getfield 39, 3) := by decide +kernel
theorem dX6_look_130 : decode cX6_look 130 = .ok (.iload_n 1, 1) := by decide +kernel
theorem dX6_look_131 : decode cX6_look 131 = .ok (.bipush 10, 2) := by decide +kernel
theorem dX6_look_133 : decode cX6_look 133 = .ok (.isub, 1) := by decide +kernel
theorem dX6_look_134 : decode cX6_look 134 = .ok (.iaload, 1) := by decide +kernel
theorem dX6_look_135 : decode cX6_look 135 = .ok (.goto 5, 3) := by decide +kernel
theorem dX6_look_138 : decode cX6_look 138 = .ok (.ldc 140, 2) := by decide +kernel
theorem dX6_look_140 : decode cX6_look 140 = .ok (.ireturn, 1) := by decide +kernel
set_option maxRecDepth 20000 in
set_option maxHeartbeats 4000000 in
theorem wk_X6_look_71 {Γ : GT} {a : Nat → Nat} {q : Nat → ClassId}   {mtd : Int32} {mnk : Int32} {mva : Nat → Int32} {mno : Nat → Int32} {mro : Nat → Int32} {mtu : Nat → Int32} {mbx : Nat → Int32} {mst : Nat → Int32} {mja : Nat → Int32} {mpr : Nat → Int32} {mcr : Int32} {mow : Int32} {mhd : Int32} {mmo : Int32} {mbk : Nat → Int32} {mca : Nat → Int32} {mfr : Nat → Int32} {mrs : Int32} {mrk : Nat → Int32} {mfe : Nat → Int32} {mus : Nat → Int32} {mgi : Nat → Int32} {maj : Nat → Int32} {K : Int32 → Int32 → Prop} {X : Int32 → Prop} (g : gd Γ cX6_look RX6 4 (rmz 1 22) q) (hret : rtI_1 Γ cX6_look 4 (fun (mtd : Int32) => (mdW a q mtd mnk mva mno mro mtu mbx mst mja mpr mcr mow mhd mmo mbk mca mfr mrs mrk mfe mus mgi maj)) K) (hX : ∀ (x2 : Int32) , X x2 → jw Γ 4 0 0 (mdW a q mtd mnk mva mno mro mtu mbx mst mja mpr mcr mow mhd mmo mbk mca mfr mrs mrk mfe mus mgi maj) [(2, .int x2)] [] 101) :
    ∀ (n : Nat) (x2 : Int32) (x3 : Int32) , wp_X6_look_71 mnk mva mtu K X n x2 x3 → jw Γ 4 0 0 (mdW a q mtd mnk mva mno mro mtu mbx mst mja mpr mcr mow mhd mmo mbk mca mfr mrs mrk mfe mus mgi maj) [(0, .ref (a 0)), (2, .int x2), (3, .int x3)] [] 71 := by
  intro n
  induction n with
  | zero =>
    intro _ _ h
    exact False.elim h
  | succ n ih =>
    intro x2 x3 h
    unfold wp_X6_look_71 at h
    refine j_iload_n g 2 rfl dX6_look_71 ?_
    refine j_aload_n g 0 rfl dX6_look_72 ?_
    refine j_get g fl_X6_66 0 md_0 rfl dX6_look_73 ?_
    refine j_icmp_ge g dX6_look_76 (tgt := 101) (by decide) (fun c1 => ?_) (fun c1 => ?_)
    · replace h := h.1 c1
      refine j_sub [1] rfl ?_
      exact hX x2 h
    replace h := h.2 c1
    refine j_iload_n g 1 rfl dX6_look_79 ?_
    refine j_aload_n g 0 rfl dX6_look_80 ?_
    refine j_get g fl_X6_20 0 md_0 rfl dX6_look_81 ?_
    refine j_iload_n g 2 rfl dX6_look_84 ?_
    obtain ⟨hv2, h⟩ := h
    refine j_iald g 4 md_4 hv2 dX6_look_85 ?_
    refine j_aload_n g 0 rfl dX6_look_86 ?_
    refine j_get g fl_X6_7 0 md_0 rfl dX6_look_87 ?_
    refine j_iload_n g 2 rfl dX6_look_90 ?_
    obtain ⟨hv3, h⟩ := h
    refine j_iald g 1 md_1 hv3 dX6_look_91 ?_
    refine j_imul g dX6_look_92 ?_
    refine j_iadd g dX6_look_93 ?_
    refine j_istore_n g (lv' := [(2, .int (x2 + ((mtu x3.toNatClampNeg) * (mva x3.toNatClampNeg)))), (0, .ref (a 0)), (3, .int x3)]) (by decide) rfl dX6_look_94 ?_
    refine j_iinc g 2 (n := 1) (v := x3 + 1) (lv' := [(3, .int (x3 + 1)), (2, .int (x2 + ((mtu x3.toNatClampNeg) * (mva x3.toNatClampNeg)))), (0, .ref (a 0))]) rfl rfl (by decide) rfl dX6_look_95 ?_
    refine j_goto g dX6_look_98 (tgt := 71) (by decide) ?_
    refine j_sub [2, 1, 0] rfl ?_
    exact ih (x2 + ((mtu x3.toNatClampNeg) * (mva x3.toNatClampNeg))) (x3 + 1) h
set_option maxRecDepth 20000 in
set_option maxHeartbeats 4000000 in
theorem c_X6_look {a : Nat → Nat} {q : Nat → ClassId} {x1 : Int32}  {mtd : Int32} {mnk : Int32} {mva : Nat → Int32} {mno : Nat → Int32} {mro : Nat → Int32} {mtu : Nat → Int32} {mbx : Nat → Int32} {mst : Nat → Int32} {mja : Nat → Int32} {mpr : Nat → Int32} {mcr : Int32} {mow : Int32} {mhd : Int32} {mmo : Int32} {mbk : Nat → Int32} {mca : Nat → Int32} {mfr : Nat → Int32} {mrs : Int32} {mrk : Nat → Int32} {mfe : Nat → Int32} {mus : Nat → Int32} {mgi : Nat → Int32} {maj : Nat → Int32} {K : Int32 → Int32 → Prop} (h : wp_X6_look x1 mtd mnk mva mtu mbx mcr mow mhd mmo mbk K) : ctI_1 q yX6_look cX6_look 4 1 22 [.ref (a 0), .int x1] (mdW a q mtd mnk mva mno mro mtu mbx mst mja mpr mcr mow mhd mmo mbk mca mfr mrs mrk mfe mus mgi maj) (fun (mtd : Int32) => (mdW a q mtd mnk mva mno mro mtu mbx mst mja mpr mcr mow mhd mmo mbk mca mfr mrs mrk mfe mus mgi maj)) K := by
  refine met_I_1 (by decide) (Nat.le_of_ble_eq_true rfl) (fun Γ g hret => ?_)
  unfold wp_X6_look at h
  show jw Γ 4 0 0 (mdW a q mtd mnk mva mno mro mtu mbx mst mja mpr mcr mow mhd mmo mbk mca mfr mrs mrk mfe mus mgi maj) [(0, .ref (a 0)), (1, .int x1)] [] 0
  refine j_aload_n g 0 rfl dX6_look_0 ?_
  refine j_iconst g (v := 0) (by decide) dX6_look_1 ?_
  refine j_put g fl_X6_63 fp_X6_0 0 md_0 rfl rfl (Nat.le_of_ble_eq_true rfl) (ws' := (mdW a q (0 : Int32) mnk mva mno mro mtu mbx mst mja mpr mcr mow mhd mmo mbk mca mfr mrs mrk mfe mus mgi maj)) rfl dX6_look_2 ?_
  refine j_iload_n g 1 rfl dX6_look_5 ?_
  refine j_if_ne g dX6_look_6 (tgt := 14) (by decide) (fun c1 => ?_) (fun c1 => ?_)
  rotate_left
  · replace h := h.2 c1
    refine j_aload_n g 0 rfl dX6_look_9 ?_
    refine j_get g fl_X6_66 0 md_0 rfl dX6_look_10 ?_
    exact hret.go dX6_look_13 h
  replace h := h.1 c1
  refine j_iload_n g 1 rfl dX6_look_14 ?_
  refine j_iconst g (v := 1) (by decide) dX6_look_15 ?_
  refine j_icmp_ne g dX6_look_16 (tgt := 24) (by decide) (fun c2 => ?_) (fun c2 => ?_)
  rotate_left
  · replace h := h.2 c2
    refine j_aload_n g 0 rfl dX6_look_19 ?_
    refine j_get g fl_X6_73 0 md_0 rfl dX6_look_20 ?_
    exact hret.go dX6_look_23 h
  replace h := h.1 c2
  refine j_iload_n g 1 rfl dX6_look_24 ?_
  refine j_iconst g (v := 2) (by decide) dX6_look_25 ?_
  refine j_icmp_ne g dX6_look_26 (tgt := 34) (by decide) (fun c3 => ?_) (fun c3 => ?_)
  rotate_left
  · replace h := h.2 c3
    refine j_aload_n g 0 rfl dX6_look_29 ?_
    refine j_get g fl_X6_117 0 md_0 rfl dX6_look_30 ?_
    exact hret.go dX6_look_33 h
  replace h := h.1 c3
  refine j_iload_n g 1 rfl dX6_look_34 ?_
  refine j_iconst g (v := 3) (by decide) dX6_look_35 ?_
  refine j_icmp_ne g dX6_look_36 (tgt := 44) (by decide) (fun c4 => ?_) (fun c4 => ?_)
  rotate_left
  · replace h := h.2 c4
    refine j_aload_n g 0 rfl dX6_look_39 ?_
    refine j_get g fl_X6_35 0 md_0 rfl dX6_look_40 ?_
    exact hret.go dX6_look_43 h
  replace h := h.1 c4
  refine j_iload_n g 1 rfl dX6_look_44 ?_
  refine j_iconst g (v := 4) (by decide) dX6_look_45 ?_
  refine j_icmp_ne g dX6_look_46 (tgt := 54) (by decide) (fun c5 => ?_) (fun c5 => ?_)
  rotate_left
  · replace h := h.2 c5
    refine j_aload_n g 0 rfl dX6_look_49 ?_
    refine j_get g fl_X6_79 0 md_0 rfl dX6_look_50 ?_
    exact hret.go dX6_look_53 h
  replace h := h.1 c5
  refine j_iload_n g 1 rfl dX6_look_54 ?_
  refine j_iconst g (v := 5) (by decide) dX6_look_55 ?_
  refine j_icmp_ne g dX6_look_56 (tgt := 103) (by decide) (fun c6 => ?_) (fun c6 => ?_)
  rotate_left
  · replace h := h.2 c6
    refine j_aload_n g 0 rfl dX6_look_59 ?_
    refine j_callVI_0 g (As := []) (st := []) (c_X6_boxed  h) cl_X6_137 0 6 md_0 rfl rfl (Nat.le_of_ble_eq_true rfl) (Nat.le_of_ble_eq_true rfl) (Nat.zero_le _) (Nat.zero_le _) rfl rfl (Nat.le_of_ble_eq_true rfl) dX6_look_60 (fun r_12   h => ?_)
    refine j_aload_n g 0 rfl dX6_look_63 ?_
    refine j_callVI_0 g (As := []) (st := [.int r_12]) (c_X6_heldValue  h) cl_X6_106 0 6 md_0 rfl rfl (Nat.le_of_ble_eq_true rfl) (Nat.le_of_ble_eq_true rfl) (Nat.zero_le _) (Nat.zero_le _) rfl rfl (Nat.le_of_ble_eq_true rfl) dX6_look_64 (fun r_13   h => ?_)
    refine j_iadd g dX6_look_67 ?_
    refine j_istore_n g (lv' := [(2, .int (r_12 + r_13)), (0, .ref (a 0)), (1, .int x1)]) (by decide) rfl dX6_look_68 ?_
    refine j_iconst g (v := 0) (by decide) dX6_look_69 ?_
    refine j_istore_n g (lv' := [(3, .int (0 : Int32)), (2, .int (r_12 + r_13)), (0, .ref (a 0)), (1, .int x1)]) (by decide) rfl dX6_look_70 ?_
    obtain ⟨n14, h⟩ := h
    refine j_sub [2, 1, 0] rfl ?_
    refine wk_X6_look_71  g hret (fun x2_14 h => ?_) n14 (r_12 + r_13) (0 : Int32) h
    refine j_iload_n g 0 rfl dX6_look_101 ?_
    exact hret.go dX6_look_102 h
  replace h := h.1 c6
  refine j_iload_n g 1 rfl dX6_look_103 ?_
  refine j_bipush g (v := 6) (by decide) dX6_look_104 ?_
  refine j_icmp_ne g dX6_look_106 (tgt := 114) (by decide) (fun c7 => ?_) (fun c7 => ?_)
  rotate_left
  · replace h := h.2 c7
    refine j_aload_n g 0 rfl dX6_look_109 ?_
    refine j_callVI_0 g (As := []) (st := []) (c_X6_boxed  h) cl_X6_137 0 6 md_0 rfl rfl (Nat.le_of_ble_eq_true rfl) (Nat.le_of_ble_eq_true rfl) (Nat.zero_le _) (Nat.zero_le _) rfl rfl (Nat.le_of_ble_eq_true rfl) dX6_look_110 (fun r_11   h => ?_)
    exact hret.go dX6_look_113 h
  replace h := h.1 c7
  refine j_iload_n g 1 rfl dX6_look_114 ?_
  refine j_bipush g (v := 10) (by decide) dX6_look_115 ?_
  refine j_icmp_lt g dX6_look_117 (tgt := 138) (by decide) (fun c8 => ?_) (fun c8 => ?_)
  · replace h := h.1 c8
    refine j_ldc g (v := -1000000) ld_X6_140 dX6_look_138 ?_
    exact hret.go dX6_look_140 h
  replace h := h.2 c8
  refine j_iload_n g 1 rfl dX6_look_120 ?_
  refine j_bipush g (v := 16) (by decide) dX6_look_121 ?_
  refine j_icmp_ge g dX6_look_123 (tgt := 138) (by decide) (fun c9 => ?_) (fun c9 => ?_)
  · replace h := h.1 c9
    refine j_ldc g (v := -1000000) ld_X6_140 dX6_look_138 ?_
    exact hret.go dX6_look_140 h
  replace h := h.2 c9
  refine j_aload_n g 0 rfl dX6_look_126 ?_
  refine j_get g fl_X6_39 0 md_0 rfl dX6_look_127 ?_
  refine j_iload_n g 1 rfl dX6_look_130 ?_
  refine j_bipush g (v := 10) (by decide) dX6_look_131 ?_
  refine j_isub g dX6_look_133 ?_
  obtain ⟨hv10, h⟩ := h
  refine j_iald g 9 md_9 hv10 dX6_look_134 ?_
  refine j_goto g dX6_look_135 (tgt := 140) (by decide) ?_
  exact hret.go dX6_look_140 h

set_option maxRecDepth 20000 in
def wp_X6_kind (x1 : Int32) (x2 : Int32) (mtd : Int32) (mnk : Int32) (mva : Nat → Int32) (mno : Nat → Int32) (mro : Nat → Int32) (mtu : Nat → Int32) (mbx : Nat → Int32) (mst : Nat → Int32) (mja : Nat → Int32) (K : Int32 → Int32 → Prop) : Prop :=
  wp_X6_isKind x1 mnk (fun (r_1 : Int32)  => ((r_1 = 0 → K (-2 : Int32) (0 : Int32)) ∧ (¬ r_1 = 0 → ((x2 < 0 → K (-2 : Int32) (0 : Int32)) ∧ (¬ x2 < 0 → ((x2 ≤ (6 : Int32) → ((¬ x2 = 0 → ((¬ x2 = (1 : Int32) → ((¬ x2 = (2 : Int32) → ((¬ x2 = (3 : Int32) → ((¬ x2 = (4 : Int32) → ((¬ x2 = (5 : Int32) → (vp_in x1 6 ∧ K (mja x1.toNatClampNeg) (0 : Int32))) ∧ (x2 = (5 : Int32) → (vp_in x1 6 ∧ ((mst x1.toNatClampNeg = 0 → K (0 : Int32) (0 : Int32)) ∧ (¬ mst x1.toNatClampNeg = 0 → K (1 : Int32) (0 : Int32))))))) ∧ (x2 = (4 : Int32) → (vp_in x1 6 ∧ K (mbx x1.toNatClampNeg) (0 : Int32))))) ∧ (x2 = (3 : Int32) → (vp_in x1 6 ∧ K (mtu x1.toNatClampNeg) (0 : Int32))))) ∧ (x2 = (2 : Int32) → (vp_in x1 6 ∧ K (mro x1.toNatClampNeg) (0 : Int32))))) ∧ (x2 = (1 : Int32) → (vp_in x1 6 ∧ ((mno x1.toNatClampNeg = 0 → K (0 : Int32) (0 : Int32)) ∧ (¬ mno x1.toNatClampNeg = 0 → K (1 : Int32) (0 : Int32))))))) ∧ (x2 = 0 → (vp_in x1 6 ∧ K (mva x1.toNatClampNeg) (0 : Int32))))) ∧ (¬ x2 ≤ (6 : Int32) → K (-2 : Int32) (0 : Int32))))))))
theorem dX6_kind_0 : decode cX6_kind 0 = .ok (.aload_n 0, 1) := by decide +kernel
theorem dX6_kind_1 : decode cX6_kind 1 = .ok (.iconst 0, 1) := by decide +kernel
theorem dX6_kind_2 : decode cX6_kind 2 = .ok (.putfield 63, 3) := by decide +kernel
theorem dX6_kind_5 : decode cX6_kind 5 = .ok (.aload_n 0, 1) := by decide +kernel
theorem dX6_kind_6 : decode cX6_kind 6 = .ok (.iload_n 1, 1) := by decide +kernel
theorem dX6_kind_7 : decode cX6_kind 7 = .ok (.invokevirtual 69, 3) := by decide +kernel
theorem dX6_kind_10 : decode cX6_kind 10 = .ok (.ifCond .eq 13, 3) := by decide +kernel
theorem dX6_kind_13 : decode cX6_kind 13 = .ok (.iload_n 2, 1) := by decide +kernel
theorem dX6_kind_14 : decode cX6_kind 14 = .ok (.ifCond .lt 9, 3) := by decide +kernel
theorem dX6_kind_17 : decode cX6_kind 17 = .ok (.iload_n 2, 1) := by decide +kernel
theorem dX6_kind_18 : decode cX6_kind 18 = .ok (.bipush 6, 2) := by decide +kernel
theorem dX6_kind_20 : decode cX6_kind 20 = .ok (.if_icmp .le 6, 3) := by decide +kernel
theorem dX6_kind_23 : decode cX6_kind 23 = .ok (.bipush (-2), 2) := by decide +kernel
theorem dX6_kind_25 : decode cX6_kind 25 = .ok (.ireturn, 1) := by decide +kernel
theorem dX6_kind_26 : decode cX6_kind 26 = .ok (.iload_n 2, 1) := by decide +kernel
theorem dX6_kind_27 : decode cX6_kind 27 = .ok (.ifCond .ne 10, 3) := by decide +kernel
theorem dX6_kind_30 : decode cX6_kind 30 = .ok (.aload_n 0, 1) := by decide +kernel
theorem dX6_kind_31 : decode cX6_kind 31 = .ok (.getfield 7, 3) := by decide +kernel
theorem dX6_kind_34 : decode cX6_kind 34 = .ok (.iload_n 1, 1) := by decide +kernel
theorem dX6_kind_35 : decode cX6_kind 35 = .ok (.iaload, 1) := by decide +kernel
theorem dX6_kind_36 : decode cX6_kind 36 = .ok (.ireturn, 1) := by decide +kernel
theorem dX6_kind_37 : decode cX6_kind 37 = .ok (.iload_n 2, 1) := by decide +kernel
theorem dX6_kind_38 : decode cX6_kind 38 = .ok (.iconst 1, 1) := by decide +kernel
theorem dX6_kind_39 : decode cX6_kind 39 = .ok (.if_icmp .ne 18, 3) := by decide +kernel
theorem dX6_kind_42 : decode cX6_kind 42 = .ok (.aload_n 0, 1) := by decide +kernel
theorem dX6_kind_43 : decode cX6_kind 43 = .ok (.getfield 13, 3) := by decide +kernel
theorem dX6_kind_46 : decode cX6_kind 46 = .ok (.iload_n 1, 1) := by decide +kernel
theorem dX6_kind_47 : decode cX6_kind 47 = .ok (.baload, 1) := by decide +kernel
theorem dX6_kind_48 : decode cX6_kind 48 = .ok (.ifCond .eq 7, 3) := by decide +kernel
theorem dX6_kind_51 : decode cX6_kind 51 = .ok (.iconst 1, 1) := by decide +kernel
theorem dX6_kind_52 : decode cX6_kind 52 = .ok (.goto 4, 3) := by decide +kernel
theorem dX6_kind_55 : decode cX6_kind 55 = .ok (.iconst 0, 1) := by decide +kernel
theorem dX6_kind_56 : decode cX6_kind 56 = .ok (.ireturn, 1) := by decide +kernel
theorem dX6_kind_57 : decode cX6_kind 57 = .ok (.iload_n 2, 1) := by decide +kernel
theorem dX6_kind_58 : decode cX6_kind 58 = .ok (.iconst 2, 1) := by decide +kernel
theorem dX6_kind_59 : decode cX6_kind 59 = .ok (.if_icmp .ne 10, 3) := by decide +kernel
theorem dX6_kind_62 : decode cX6_kind 62 = .ok (.aload_n 0, 1) := by decide +kernel
theorem dX6_kind_63 : decode cX6_kind 63 = .ok (.getfield 17, 3) := by decide +kernel
theorem dX6_kind_66 : decode cX6_kind 66 = .ok (.iload_n 1, 1) := by decide +kernel
theorem dX6_kind_67 : decode cX6_kind 67 = .ok (.iaload, 1) := by decide +kernel
theorem dX6_kind_68 : decode cX6_kind 68 = .ok (.ireturn, 1) := by decide +kernel
theorem dX6_kind_69 : decode cX6_kind 69 = .ok (.iload_n 2, 1) := by decide +kernel
theorem dX6_kind_70 : decode cX6_kind 70 = .ok (.iconst 3, 1) := by decide +kernel
theorem dX6_kind_71 : decode cX6_kind 71 = .ok (.if_icmp .ne 10, 3) := by decide +kernel
theorem dX6_kind_74 : decode cX6_kind 74 = .ok (.aload_n 0, 1) := by decide +kernel
theorem dX6_kind_75 : decode cX6_kind 75 = .ok (.getfield 20, 3) := by decide +kernel
theorem dX6_kind_78 : decode cX6_kind 78 = .ok (.iload_n 1, 1) := by decide +kernel
theorem dX6_kind_79 : decode cX6_kind 79 = .ok (.iaload, 1) := by decide +kernel
theorem dX6_kind_80 : decode cX6_kind 80 = .ok (.ireturn, 1) := by decide +kernel
theorem dX6_kind_81 : decode cX6_kind 81 = .ok (.iload_n 2, 1) := by decide +kernel
theorem dX6_kind_82 : decode cX6_kind 82 = .ok (.iconst 4, 1) := by decide +kernel
theorem dX6_kind_83 : decode cX6_kind 83 = .ok (.if_icmp .ne 10, 3) := by decide +kernel
theorem dX6_kind_86 : decode cX6_kind 86 = .ok (.aload_n 0, 1) := by decide +kernel
theorem dX6_kind_87 : decode cX6_kind 87 = .ok (.getfield 23, 3) := by decide +kernel
theorem dX6_kind_90 : decode cX6_kind 90 = .ok (.iload_n 1, 1) := by decide +kernel
theorem dX6_kind_91 : decode cX6_kind 91 = .ok (.iaload, 1) := by decide +kernel
theorem dX6_kind_92 : decode cX6_kind 92 = .ok (.ireturn, 1) := by decide +kernel
theorem dX6_kind_93 : decode cX6_kind 93 = .ok (.iload_n 2, 1) := by decide +kernel
theorem dX6_kind_94 : decode cX6_kind 94 = .ok (.iconst 5, 1) := by decide +kernel
theorem dX6_kind_95 : decode cX6_kind 95 = .ok (.if_icmp .ne 18, 3) := by decide +kernel
theorem dX6_kind_98 : decode cX6_kind 98 = .ok (.aload_n 0, 1) := by decide +kernel
theorem dX6_kind_99 : decode cX6_kind 99 = .ok (.getfield 26, 3) := by decide +kernel
theorem dX6_kind_102 : decode cX6_kind 102 = .ok (.iload_n 1, 1) := by decide +kernel
theorem dX6_kind_103 : decode cX6_kind 103 = .ok (.baload, 1) := by decide +kernel
theorem dX6_kind_104 : decode cX6_kind 104 = .ok (.ifCond .eq 7, 3) := by decide +kernel
theorem dX6_kind_107 : decode cX6_kind 107 = .ok (.iconst 1, 1) := by decide +kernel
theorem dX6_kind_108 : decode cX6_kind 108 = .ok (.goto 4, 3) := by decide +kernel
theorem dX6_kind_111 : decode cX6_kind 111 = .ok (.iconst 0, 1) := by decide +kernel
theorem dX6_kind_112 : decode cX6_kind 112 = .ok (.ireturn, 1) := by decide +kernel
theorem dX6_kind_113 : decode cX6_kind 113 = .ok (.aload_n 0, 1) := by decide +kernel
theorem dX6_kind_114 : decode cX6_kind 114 = .ok (.getfield 29, 3) := by decide +kernel
theorem dX6_kind_117 : decode cX6_kind 117 = .ok (.iload_n 1, 1) := by decide +kernel
theorem dX6_kind_118 : decode cX6_kind 118 = .ok (.iaload, 1) := by decide +kernel
theorem dX6_kind_119 : decode cX6_kind 119 = .ok (.ireturn, 1) := by decide +kernel
set_option maxRecDepth 20000 in
set_option maxHeartbeats 4000000 in
theorem c_X6_kind {a : Nat → Nat} {q : Nat → ClassId} {x1 : Int32} {x2 : Int32}  {mtd : Int32} {mnk : Int32} {mva : Nat → Int32} {mno : Nat → Int32} {mro : Nat → Int32} {mtu : Nat → Int32} {mbx : Nat → Int32} {mst : Nat → Int32} {mja : Nat → Int32} {mpr : Nat → Int32} {mcr : Int32} {mow : Int32} {mhd : Int32} {mmo : Int32} {mbk : Nat → Int32} {mca : Nat → Int32} {mfr : Nat → Int32} {mrs : Int32} {mrk : Nat → Int32} {mfe : Nat → Int32} {mus : Nat → Int32} {mgi : Nat → Int32} {maj : Nat → Int32} {K : Int32 → Int32 → Prop} (h : wp_X6_kind x1 x2 mtd mnk mva mno mro mtu mbx mst mja K) : ctI_1 q yX6_kind cX6_kind 3 1 21 [.ref (a 0), .int x1, .int x2] (mdW a q mtd mnk mva mno mro mtu mbx mst mja mpr mcr mow mhd mmo mbk mca mfr mrs mrk mfe mus mgi maj) (fun (mtd : Int32) => (mdW a q mtd mnk mva mno mro mtu mbx mst mja mpr mcr mow mhd mmo mbk mca mfr mrs mrk mfe mus mgi maj)) K := by
  refine met_I_1 (by decide) (Nat.le_of_ble_eq_true rfl) (fun Γ g hret => ?_)
  unfold wp_X6_kind at h
  show jw Γ 3 0 0 (mdW a q mtd mnk mva mno mro mtu mbx mst mja mpr mcr mow mhd mmo mbk mca mfr mrs mrk mfe mus mgi maj) [(0, .ref (a 0)), (1, .int x1), (2, .int x2)] [] 0
  refine j_aload_n g 0 rfl dX6_kind_0 ?_
  refine j_iconst g (v := 0) (by decide) dX6_kind_1 ?_
  refine j_put g fl_X6_63 fp_X6_0 0 md_0 rfl rfl (Nat.le_of_ble_eq_true rfl) (ws' := (mdW a q (0 : Int32) mnk mva mno mro mtu mbx mst mja mpr mcr mow mhd mmo mbk mca mfr mrs mrk mfe mus mgi maj)) rfl dX6_kind_2 ?_
  refine j_aload_n g 0 rfl dX6_kind_5 ?_
  refine j_iload_n g 1 rfl dX6_kind_6 ?_
  refine j_callVZ_0 g (As := [.int x1]) (st := []) (c_X6_isKind  h) cl_X6_69 0 6 md_0 rfl rfl (Nat.le_of_ble_eq_true rfl) (Nat.le_of_ble_eq_true rfl) (Nat.zero_le _) (Nat.zero_le _) rfl rfl (Nat.le_of_ble_eq_true rfl) dX6_kind_7 (fun r_1  hz_1 h => ?_)
  refine j_if_eq g dX6_kind_10 (tgt := 23) (by decide) (fun c2 => ?_) (fun c2 => ?_)
  · replace h := h.1 c2
    refine j_bipush g (v := -2) (by decide) dX6_kind_23 ?_
    exact hret.go dX6_kind_25 h
  replace h := h.2 c2
  refine j_iload_n g 2 rfl dX6_kind_13 ?_
  refine j_if_lt g dX6_kind_14 (tgt := 23) (by decide) (fun c3 => ?_) (fun c3 => ?_)
  · replace h := h.1 c3
    refine j_bipush g (v := -2) (by decide) dX6_kind_23 ?_
    exact hret.go dX6_kind_25 h
  replace h := h.2 c3
  refine j_iload_n g 2 rfl dX6_kind_17 ?_
  refine j_bipush g (v := 6) (by decide) dX6_kind_18 ?_
  refine j_icmp_le g dX6_kind_20 (tgt := 26) (by decide) (fun c4 => ?_) (fun c4 => ?_)
  rotate_left
  · replace h := h.2 c4
    refine j_bipush g (v := -2) (by decide) dX6_kind_23 ?_
    exact hret.go dX6_kind_25 h
  replace h := h.1 c4
  refine j_iload_n g 2 rfl dX6_kind_26 ?_
  refine j_if_ne g dX6_kind_27 (tgt := 37) (by decide) (fun c5 => ?_) (fun c5 => ?_)
  rotate_left
  · replace h := h.2 c5
    refine j_aload_n g 0 rfl dX6_kind_30 ?_
    refine j_get g fl_X6_7 0 md_0 rfl dX6_kind_31 ?_
    refine j_iload_n g 1 rfl dX6_kind_34 ?_
    obtain ⟨hv19, h⟩ := h
    refine j_iald g 1 md_1 hv19 dX6_kind_35 ?_
    exact hret.go dX6_kind_36 h
  replace h := h.1 c5
  refine j_iload_n g 2 rfl dX6_kind_37 ?_
  refine j_iconst g (v := 1) (by decide) dX6_kind_38 ?_
  refine j_icmp_ne g dX6_kind_39 (tgt := 57) (by decide) (fun c6 => ?_) (fun c6 => ?_)
  rotate_left
  · replace h := h.2 c6
    refine j_aload_n g 0 rfl dX6_kind_42 ?_
    refine j_get g fl_X6_13 0 md_0 rfl dX6_kind_43 ?_
    refine j_iload_n g 1 rfl dX6_kind_46 ?_
    obtain ⟨hv17, h⟩ := h
    refine j_zald g 2 md_2 hv17 dX6_kind_47 ?_
    refine j_if_eq g dX6_kind_48 (tgt := 55) (by decide) (fun c18 => ?_) (fun c18 => ?_)
    · replace h := h.1 c18
      refine j_iconst g (v := 0) (by decide) dX6_kind_55 ?_
      exact hret.go dX6_kind_56 h
    replace h := h.2 c18
    refine j_iconst g (v := 1) (by decide) dX6_kind_51 ?_
    refine j_goto g dX6_kind_52 (tgt := 56) (by decide) ?_
    exact hret.go dX6_kind_56 h
  replace h := h.1 c6
  refine j_iload_n g 2 rfl dX6_kind_57 ?_
  refine j_iconst g (v := 2) (by decide) dX6_kind_58 ?_
  refine j_icmp_ne g dX6_kind_59 (tgt := 69) (by decide) (fun c7 => ?_) (fun c7 => ?_)
  rotate_left
  · replace h := h.2 c7
    refine j_aload_n g 0 rfl dX6_kind_62 ?_
    refine j_get g fl_X6_17 0 md_0 rfl dX6_kind_63 ?_
    refine j_iload_n g 1 rfl dX6_kind_66 ?_
    obtain ⟨hv16, h⟩ := h
    refine j_iald g 3 md_3 hv16 dX6_kind_67 ?_
    exact hret.go dX6_kind_68 h
  replace h := h.1 c7
  refine j_iload_n g 2 rfl dX6_kind_69 ?_
  refine j_iconst g (v := 3) (by decide) dX6_kind_70 ?_
  refine j_icmp_ne g dX6_kind_71 (tgt := 81) (by decide) (fun c8 => ?_) (fun c8 => ?_)
  rotate_left
  · replace h := h.2 c8
    refine j_aload_n g 0 rfl dX6_kind_74 ?_
    refine j_get g fl_X6_20 0 md_0 rfl dX6_kind_75 ?_
    refine j_iload_n g 1 rfl dX6_kind_78 ?_
    obtain ⟨hv15, h⟩ := h
    refine j_iald g 4 md_4 hv15 dX6_kind_79 ?_
    exact hret.go dX6_kind_80 h
  replace h := h.1 c8
  refine j_iload_n g 2 rfl dX6_kind_81 ?_
  refine j_iconst g (v := 4) (by decide) dX6_kind_82 ?_
  refine j_icmp_ne g dX6_kind_83 (tgt := 93) (by decide) (fun c9 => ?_) (fun c9 => ?_)
  rotate_left
  · replace h := h.2 c9
    refine j_aload_n g 0 rfl dX6_kind_86 ?_
    refine j_get g fl_X6_23 0 md_0 rfl dX6_kind_87 ?_
    refine j_iload_n g 1 rfl dX6_kind_90 ?_
    obtain ⟨hv14, h⟩ := h
    refine j_iald g 5 md_5 hv14 dX6_kind_91 ?_
    exact hret.go dX6_kind_92 h
  replace h := h.1 c9
  refine j_iload_n g 2 rfl dX6_kind_93 ?_
  refine j_iconst g (v := 5) (by decide) dX6_kind_94 ?_
  refine j_icmp_ne g dX6_kind_95 (tgt := 113) (by decide) (fun c10 => ?_) (fun c10 => ?_)
  · replace h := h.1 c10
    refine j_aload_n g 0 rfl dX6_kind_113 ?_
    refine j_get g fl_X6_29 0 md_0 rfl dX6_kind_114 ?_
    refine j_iload_n g 1 rfl dX6_kind_117 ?_
    obtain ⟨hv11, h⟩ := h
    refine j_iald g 7 md_7 hv11 dX6_kind_118 ?_
    exact hret.go dX6_kind_119 h
  replace h := h.2 c10
  refine j_aload_n g 0 rfl dX6_kind_98 ?_
  refine j_get g fl_X6_26 0 md_0 rfl dX6_kind_99 ?_
  refine j_iload_n g 1 rfl dX6_kind_102 ?_
  obtain ⟨hv12, h⟩ := h
  refine j_zald g 6 md_6 hv12 dX6_kind_103 ?_
  refine j_if_eq g dX6_kind_104 (tgt := 111) (by decide) (fun c13 => ?_) (fun c13 => ?_)
  · replace h := h.1 c13
    refine j_iconst g (v := 0) (by decide) dX6_kind_111 ?_
    exact hret.go dX6_kind_112 h
  replace h := h.2 c13
  refine j_iconst g (v := 1) (by decide) dX6_kind_107 ?_
  refine j_goto g dX6_kind_108 (tgt := 112) (by decide) ?_
  exact hret.go dX6_kind_112 h

set_option maxRecDepth 20000 in
def wp_X6_priced (x1 : Int32) (mtd : Int32) (mpr : Nat → Int32) (K : Int32 → Int32 → Prop) : Prop :=
  ((x1 < 0 → K (0 : Int32) (0 : Int32)) ∧ (¬ x1 < 0 → ((x1 ≤ (5 : Int32) → (vp_in x1 6 ∧ K (mpr x1.toNatClampNeg) (0 : Int32))) ∧ (¬ x1 ≤ (5 : Int32) → K (0 : Int32) (0 : Int32)))))
theorem dX6_priced_0 : decode cX6_priced 0 = .ok (.aload_n 0, 1) := by decide +kernel
theorem dX6_priced_1 : decode cX6_priced 1 = .ok (.iconst 0, 1) := by decide +kernel
theorem dX6_priced_2 : decode cX6_priced 2 = .ok (.putfield 63, 3) := by decide +kernel
theorem dX6_priced_5 : decode cX6_priced 5 = .ok (.iload_n 1, 1) := by decide +kernel
theorem dX6_priced_6 : decode cX6_priced 6 = .ok (.ifCond .lt 8, 3) := by decide +kernel
theorem dX6_priced_9 : decode cX6_priced 9 = .ok (.iload_n 1, 1) := by decide +kernel
theorem dX6_priced_10 : decode cX6_priced 10 = .ok (.iconst 5, 1) := by decide +kernel
theorem dX6_priced_11 : decode cX6_priced 11 = .ok (.if_icmp .le 7, 3) := by decide +kernel
theorem dX6_priced_14 : decode cX6_priced 14 = .ok (.iconst 0, 1) := by decide +kernel
theorem dX6_priced_15 : decode cX6_priced 15 = .ok (.goto 9, 3) := by decide +kernel
theorem dX6_priced_18 : decode cX6_priced 18 = .ok (.aload_n 0, 1) := by decide +kernel
theorem dX6_priced_19 : decode cX6_priced 19 = .ok (.getfield 32, 3) := by decide +kernel
theorem dX6_priced_22 : decode cX6_priced 22 = .ok (.iload_n 1, 1) := by decide +kernel
theorem dX6_priced_23 : decode cX6_priced 23 = .ok (.iaload, 1) := by decide +kernel
theorem dX6_priced_24 : decode cX6_priced 24 = .ok (.ireturn, 1) := by decide +kernel
set_option maxRecDepth 20000 in
set_option maxHeartbeats 4000000 in
theorem c_X6_priced {a : Nat → Nat} {q : Nat → ClassId} {x1 : Int32}  {mtd : Int32} {mnk : Int32} {mva : Nat → Int32} {mno : Nat → Int32} {mro : Nat → Int32} {mtu : Nat → Int32} {mbx : Nat → Int32} {mst : Nat → Int32} {mja : Nat → Int32} {mpr : Nat → Int32} {mcr : Int32} {mow : Int32} {mhd : Int32} {mmo : Int32} {mbk : Nat → Int32} {mca : Nat → Int32} {mfr : Nat → Int32} {mrs : Int32} {mrk : Nat → Int32} {mfe : Nat → Int32} {mus : Nat → Int32} {mgi : Nat → Int32} {maj : Nat → Int32} {K : Int32 → Int32 → Prop} (h : wp_X6_priced x1 mtd mpr K) : ctI_1 q yX6_priced cX6_priced 2 0 0 [.ref (a 0), .int x1] (mdW a q mtd mnk mva mno mro mtu mbx mst mja mpr mcr mow mhd mmo mbk mca mfr mrs mrk mfe mus mgi maj) (fun (mtd : Int32) => (mdW a q mtd mnk mva mno mro mtu mbx mst mja mpr mcr mow mhd mmo mbk mca mfr mrs mrk mfe mus mgi maj)) K := by
  refine met_I_1 (by decide) (Nat.le_of_ble_eq_true rfl) (fun Γ g hret => ?_)
  unfold wp_X6_priced at h
  show jw Γ 2 0 0 (mdW a q mtd mnk mva mno mro mtu mbx mst mja mpr mcr mow mhd mmo mbk mca mfr mrs mrk mfe mus mgi maj) [(0, .ref (a 0)), (1, .int x1)] [] 0
  refine j_aload_n g 0 rfl dX6_priced_0 ?_
  refine j_iconst g (v := 0) (by decide) dX6_priced_1 ?_
  refine j_put g fl_X6_63 fp_X6_0 0 md_0 rfl rfl (Nat.le_of_ble_eq_true rfl) (ws' := (mdW a q (0 : Int32) mnk mva mno mro mtu mbx mst mja mpr mcr mow mhd mmo mbk mca mfr mrs mrk mfe mus mgi maj)) rfl dX6_priced_2 ?_
  refine j_iload_n g 1 rfl dX6_priced_5 ?_
  refine j_if_lt g dX6_priced_6 (tgt := 14) (by decide) (fun c1 => ?_) (fun c1 => ?_)
  · replace h := h.1 c1
    refine j_iconst g (v := 0) (by decide) dX6_priced_14 ?_
    refine j_goto g dX6_priced_15 (tgt := 24) (by decide) ?_
    exact hret.go dX6_priced_24 h
  replace h := h.2 c1
  refine j_iload_n g 1 rfl dX6_priced_9 ?_
  refine j_iconst g (v := 5) (by decide) dX6_priced_10 ?_
  refine j_icmp_le g dX6_priced_11 (tgt := 18) (by decide) (fun c2 => ?_) (fun c2 => ?_)
  rotate_left
  · replace h := h.2 c2
    refine j_iconst g (v := 0) (by decide) dX6_priced_14 ?_
    refine j_goto g dX6_priced_15 (tgt := 24) (by decide) ?_
    exact hret.go dX6_priced_24 h
  replace h := h.1 c2
  refine j_aload_n g 0 rfl dX6_priced_18 ?_
  refine j_get g fl_X6_32 0 md_0 rfl dX6_priced_19 ?_
  refine j_iload_n g 1 rfl dX6_priced_22 ?_
  obtain ⟨hv3, h⟩ := h
  refine j_iald g 8 md_8 hv3 dX6_priced_23 ?_
  exact hret.go dX6_priced_24 h

set_option maxRecDepth 20000 in
def wp_X6_empty_12 (x1 : Int32)  (K : Int32 → Int32 → (Nat → Int32) → (Nat → Int32) → Prop) (X : (Nat → Int32) → Prop) : Nat → Int32 → (Nat → Int32) → Prop
  | 0, _, _ => False
  | n + 1, x2, mbx => (((6 : Int32) ≤ x2 → X mbx) ∧ (¬ (6 : Int32) ≤ x2 → (vp_in x2 6 ∧ wp_X6_empty_12 x1 K X n (x2 + 1) (upd mbx x2.toNatClampNeg (0 : Int32)))))
set_option maxRecDepth 20000 in
def wp_X6_empty  (mtd : Int32) (mnk : Int32) (mva : Nat → Int32) (mbx : Nat → Int32) (mbk : Nat → Int32) (K : Int32 → Int32 → (Nat → Int32) → (Nat → Int32) → Prop) : Prop :=
  wp_X6_boxed mnk mva mbx (fun (r_1 : Int32)  => ∃ n2 : Nat, wp_X6_empty_12 r_1 K (fun (mbx_2 : Nat → Int32) => (vp_in (4 : Int32) 6 ∧ (vp_in (4 : Int32) 6 ∧ K r_1 (0 : Int32) mbx_2 (upd mbk (4 : Int32).toNatClampNeg ((mbk (4 : Int32).toNatClampNeg) + r_1))))) n2 (0 : Int32) mbx)
theorem dX6_empty_0 : decode cX6_empty 0 = .ok (.aload_n 0, 1) := by decide +kernel
theorem dX6_empty_1 : decode cX6_empty 1 = .ok (.iconst 0, 1) := by decide +kernel
theorem dX6_empty_2 : decode cX6_empty 2 = .ok (.putfield 63, 3) := by decide +kernel
theorem dX6_empty_5 : decode cX6_empty 5 = .ok (.aload_n 0, 1) := by decide +kernel
theorem dX6_empty_6 : decode cX6_empty 6 = .ok (.invokevirtual 137, 3) := by decide +kernel
theorem dX6_empty_9 : decode cX6_empty 9 = .ok (.istore_n 1, 1) := by decide +kernel
theorem dX6_empty_10 : decode cX6_empty 10 = .ok (.iconst 0, 1) := by decide +kernel
theorem dX6_empty_11 : decode cX6_empty 11 = .ok (.istore_n 2, 1) := by decide +kernel
theorem dX6_empty_12 : decode cX6_empty 12 = .ok (.iload_n 2, 1) := by decide +kernel
theorem dX6_empty_13 : decode cX6_empty 13 = .ok (.bipush 6, 2) := by decide +kernel
theorem dX6_empty_15 : decode cX6_empty 15 = .ok (.if_icmp .ge 16, 3) := by decide +kernel
theorem dX6_empty_18 : decode cX6_empty 18 = .ok (.aload_n 0, 1) := by decide +kernel
theorem dX6_empty_19 : decode cX6_empty 19 = .ok (.getfield 23, 3) := by decide +kernel
theorem dX6_empty_22 : decode cX6_empty 22 = .ok (.iload_n 2, 1) := by decide +kernel
theorem dX6_empty_23 : decode cX6_empty 23 = .ok (.iconst 0, 1) := by decide +kernel
theorem dX6_empty_24 : decode cX6_empty 24 = .ok (.iastore, 1) := by decide +kernel
theorem dX6_empty_25 : decode cX6_empty 25 = .ok (.iinc 2 1, 3) := by decide +kernel
theorem dX6_empty_28 : decode cX6_empty 28 = .ok (.goto (-16), 3) := by decide +kernel
theorem dX6_empty_31 : decode cX6_empty 31 = .ok (.aload_n 0, 1) := by decide +kernel
theorem dX6_empty_32 : decode cX6_empty 32 = .ok (.getfield 39, 3) := by decide +kernel
theorem dX6_empty_35 : decode cX6_empty 35 = .ok (.iconst 4, 1) := by decide +kernel
theorem dX6_empty_36 : decode cX6_empty 36 = .ok (.aload_n 0, 1) := by decide +kernel
theorem dX6_empty_37 : decode cX6_empty 37 = .ok (.getfield 39, 3) := by decide +kernel
theorem dX6_empty_40 : decode cX6_empty 40 = .ok (.iconst 4, 1) := by decide +kernel
theorem dX6_empty_41 : decode cX6_empty 41 = .ok (.iaload, 1) := by decide +kernel
theorem dX6_empty_42 : decode cX6_empty 42 = .ok (.iload_n 1, 1) := by decide +kernel
theorem dX6_empty_43 : decode cX6_empty 43 = .ok (.iadd, 1) := by decide +kernel
theorem dX6_empty_44 : decode cX6_empty 44 = .ok (.iastore, 1) := by decide +kernel
theorem dX6_empty_45 : decode cX6_empty 45 = .ok (.iload_n 1, 1) := by decide +kernel
theorem dX6_empty_46 : decode cX6_empty 46 = .ok (.ireturn, 1) := by decide +kernel
set_option maxRecDepth 20000 in
set_option maxHeartbeats 4000000 in
theorem wk_X6_empty_12 {Γ : GT} {a : Nat → Nat} {q : Nat → ClassId} {x1 : Int32}  {mtd : Int32} {mnk : Int32} {mva : Nat → Int32} {mno : Nat → Int32} {mro : Nat → Int32} {mtu : Nat → Int32} {mst : Nat → Int32} {mja : Nat → Int32} {mpr : Nat → Int32} {mcr : Int32} {mow : Int32} {mhd : Int32} {mmo : Int32} {mbk : Nat → Int32} {mca : Nat → Int32} {mfr : Nat → Int32} {mrs : Int32} {mrk : Nat → Int32} {mfe : Nat → Int32} {mus : Nat → Int32} {mgi : Nat → Int32} {maj : Nat → Int32} {K : Int32 → Int32 → (Nat → Int32) → (Nat → Int32) → Prop} {X : (Nat → Int32) → Prop} (g : gd Γ cX6_empty RX6 3 (rmz 1 22) q) (hret : rtI_3 Γ cX6_empty 3 (fun (mtd : Int32) (mbx : Nat → Int32) (mbk : Nat → Int32) => (mdW a q mtd mnk mva mno mro mtu mbx mst mja mpr mcr mow mhd mmo mbk mca mfr mrs mrk mfe mus mgi maj)) K) (hX : ∀ (mbx : Nat → Int32) , X mbx → jw Γ 3 0 0 (mdW a q mtd mnk mva mno mro mtu mbx mst mja mpr mcr mow mhd mmo mbk mca mfr mrs mrk mfe mus mgi maj) [(0, .ref (a 0)), (1, .int x1)] [] 31) :
    ∀ (n : Nat) (x2 : Int32) (mbx : Nat → Int32) , wp_X6_empty_12 x1 K X n x2 mbx → jw Γ 3 0 0 (mdW a q mtd mnk mva mno mro mtu mbx mst mja mpr mcr mow mhd mmo mbk mca mfr mrs mrk mfe mus mgi maj) [(0, .ref (a 0)), (1, .int x1), (2, .int x2)] [] 12 := by
  intro n
  induction n with
  | zero =>
    intro _ _ h
    exact False.elim h
  | succ n ih =>
    intro x2 mbx h
    unfold wp_X6_empty_12 at h
    refine j_iload_n g 2 rfl dX6_empty_12 ?_
    refine j_bipush g (v := 6) (by decide) dX6_empty_13 ?_
    refine j_icmp_ge g dX6_empty_15 (tgt := 31) (by decide) (fun c1 => ?_) (fun c1 => ?_)
    · replace h := h.1 c1
      refine j_sub [0, 1] rfl ?_
      exact hX mbx h
    replace h := h.2 c1
    refine j_aload_n g 0 rfl dX6_empty_18 ?_
    refine j_get g fl_X6_23 0 md_0 rfl dX6_empty_19 ?_
    refine j_iload_n g 2 rfl dX6_empty_22 ?_
    refine j_iconst g (v := 0) (by decide) dX6_empty_23 ?_
    obtain ⟨hv2, h⟩ := h
    refine j_iast g 5 md_5 hv2 (ws' := (mdW a q mtd mnk mva mno mro mtu (upd mbx x2.toNatClampNeg (0 : Int32)) mst mja mpr mcr mow mhd mmo mbk mca mfr mrs mrk mfe mus mgi maj)) rfl dX6_empty_24 ?_
    refine j_iinc g 2 (n := 1) (v := x2 + 1) (lv' := [(2, .int (x2 + 1)), (0, .ref (a 0)), (1, .int x1)]) rfl rfl (by decide) rfl dX6_empty_25 ?_
    refine j_goto g dX6_empty_28 (tgt := 12) (by decide) ?_
    refine j_sub [1, 2, 0] rfl ?_
    exact ih (x2 + 1) (upd mbx x2.toNatClampNeg (0 : Int32)) h
set_option maxRecDepth 20000 in
set_option maxHeartbeats 4000000 in
theorem c_X6_empty {a : Nat → Nat} {q : Nat → ClassId}   {mtd : Int32} {mnk : Int32} {mva : Nat → Int32} {mno : Nat → Int32} {mro : Nat → Int32} {mtu : Nat → Int32} {mbx : Nat → Int32} {mst : Nat → Int32} {mja : Nat → Int32} {mpr : Nat → Int32} {mcr : Int32} {mow : Int32} {mhd : Int32} {mmo : Int32} {mbk : Nat → Int32} {mca : Nat → Int32} {mfr : Nat → Int32} {mrs : Int32} {mrk : Nat → Int32} {mfe : Nat → Int32} {mus : Nat → Int32} {mgi : Nat → Int32} {maj : Nat → Int32} {K : Int32 → Int32 → (Nat → Int32) → (Nat → Int32) → Prop} (h : wp_X6_empty mtd mnk mva mbx mbk K) : ctI_3 q yX6_empty cX6_empty 3 1 22 [.ref (a 0)] (mdW a q mtd mnk mva mno mro mtu mbx mst mja mpr mcr mow mhd mmo mbk mca mfr mrs mrk mfe mus mgi maj) (fun (mtd : Int32) (mbx : Nat → Int32) (mbk : Nat → Int32) => (mdW a q mtd mnk mva mno mro mtu mbx mst mja mpr mcr mow mhd mmo mbk mca mfr mrs mrk mfe mus mgi maj)) K := by
  refine met_I_3 (by decide) (Nat.le_of_ble_eq_true rfl) (fun Γ g hret => ?_)
  unfold wp_X6_empty at h
  show jw Γ 3 0 0 (mdW a q mtd mnk mva mno mro mtu mbx mst mja mpr mcr mow mhd mmo mbk mca mfr mrs mrk mfe mus mgi maj) [(0, .ref (a 0))] [] 0
  refine j_aload_n g 0 rfl dX6_empty_0 ?_
  refine j_iconst g (v := 0) (by decide) dX6_empty_1 ?_
  refine j_put g fl_X6_63 fp_X6_0 0 md_0 rfl rfl (Nat.le_of_ble_eq_true rfl) (ws' := (mdW a q (0 : Int32) mnk mva mno mro mtu mbx mst mja mpr mcr mow mhd mmo mbk mca mfr mrs mrk mfe mus mgi maj)) rfl dX6_empty_2 ?_
  refine j_aload_n g 0 rfl dX6_empty_5 ?_
  refine j_callVI_0 g (As := []) (st := []) (c_X6_boxed  h) cl_X6_137 0 6 md_0 rfl rfl (Nat.le_of_ble_eq_true rfl) (Nat.le_of_ble_eq_true rfl) (Nat.zero_le _) (Nat.zero_le _) rfl rfl (Nat.le_of_ble_eq_true rfl) dX6_empty_6 (fun r_1   h => ?_)
  refine j_istore_n g (lv' := [(1, .int r_1), (0, .ref (a 0))]) (by decide) rfl dX6_empty_9 ?_
  refine j_iconst g (v := 0) (by decide) dX6_empty_10 ?_
  refine j_istore_n g (lv' := [(2, .int (0 : Int32)), (1, .int r_1), (0, .ref (a 0))]) (by decide) rfl dX6_empty_11 ?_
  obtain ⟨n2, h⟩ := h
  refine j_sub [2, 1, 0] rfl ?_
  refine wk_X6_empty_12  g hret (fun mbx_2 h => ?_) n2 (0 : Int32) mbx h
  refine j_aload_n g 0 rfl dX6_empty_31 ?_
  refine j_get g fl_X6_39 0 md_0 rfl dX6_empty_32 ?_
  refine j_iconst g (v := 4) (by decide) dX6_empty_35 ?_
  refine j_aload_n g 0 rfl dX6_empty_36 ?_
  refine j_get g fl_X6_39 0 md_0 rfl dX6_empty_37 ?_
  refine j_iconst g (v := 4) (by decide) dX6_empty_40 ?_
  obtain ⟨hv3, h⟩ := h
  refine j_iald g 9 md_9 hv3 dX6_empty_41 ?_
  refine j_iload_n g 1 rfl dX6_empty_42 ?_
  refine j_iadd g dX6_empty_43 ?_
  obtain ⟨hv4, h⟩ := h
  refine j_iast g 9 md_9 hv4 (ws' := (mdW a q (0 : Int32) mnk mva mno mro mtu mbx_2 mst mja mpr mcr mow mhd mmo (upd mbk (4 : Int32).toNatClampNeg ((mbk (4 : Int32).toNatClampNeg) + r_1)) mca mfr mrs mrk mfe mus mgi maj)) rfl dX6_empty_44 ?_
  refine j_iload_n g 1 rfl dX6_empty_45 ?_
  exact hret.go dX6_empty_46 h

set_option maxRecDepth 20000 in
def wp_X6_drain (x1 : Int32) (x2 : Int32) (mtd : Int32) (mnk : Int32) (mva : Nat → Int32) (mno : Nat → Int32) (mtu : Nat → Int32) (mcr : Int32) (mbk : Nat → Int32) (K : Int32 → Int32 → (Nat → Int32) → (Nat → Int32) → Prop) : Prop :=
  wp_X6_isCoin x1 mnk mno (fun (r_1 : Int32)  => ((r_1 = 0 → K (0 : Int32) (0 : Int32) mtu mbk) ∧ (¬ r_1 = 0 → ((x2 < 0 → K (0 : Int32) (0 : Int32) mtu mbk) ∧ (¬ x2 < 0 → (vp_in x1 6 ∧ ((mtu x1.toNatClampNeg < x2 → K (0 : Int32) (0 : Int32) mtu mbk) ∧ (¬ mtu x1.toNatClampNeg < x2 → ((mcr ≤ 0 → (vp_in x1 6 ∧ (vp_in x1 6 ∧ (vp_in (4 : Int32) 6 ∧ (vp_in x1 6 ∧ (vp_in (4 : Int32) 6 ∧ K (1 : Int32) (0 : Int32) (upd mtu x1.toNatClampNeg ((mtu x1.toNatClampNeg) - x2)) (upd mbk (4 : Int32).toNatClampNeg ((mbk (4 : Int32).toNatClampNeg) + (x2 * (mva x1.toNatClampNeg)))))))))) ∧ (¬ mcr ≤ 0 → K (0 : Int32) (0 : Int32) mtu mbk))))))))))
theorem dX6_drain_0 : decode cX6_drain 0 = .ok (.aload_n 0, 1) := by decide +kernel
theorem dX6_drain_1 : decode cX6_drain 1 = .ok (.iconst 0, 1) := by decide +kernel
theorem dX6_drain_2 : decode cX6_drain 2 = .ok (.putfield 63, 3) := by decide +kernel
theorem dX6_drain_5 : decode cX6_drain 5 = .ok (.aload_n 0, 1) := by decide +kernel
theorem dX6_drain_6 : decode cX6_drain 6 = .ok (.iload_n 1, 1) := by decide +kernel
theorem dX6_drain_7 : decode cX6_drain 7 = .ok (.invokevirtual 82, 3) := by decide +kernel
theorem dX6_drain_10 : decode cX6_drain 10 = .ok (.ifCond .eq 24, 3) := by decide +kernel
theorem dX6_drain_13 : decode cX6_drain 13 = .ok (.iload_n 2, 1) := by decide +kernel
theorem dX6_drain_14 : decode cX6_drain 14 = .ok (.ifCond .lt 20, 3) := by decide +kernel
theorem dX6_drain_17 : decode cX6_drain 17 = .ok (.iload_n 2, 1) := by decide +kernel
theorem dX6_drain_18 : decode cX6_drain 18 = .ok (.aload_n 0, 1) := by decide +kernel
theorem dX6_drain_19 : decode cX6_drain 19 = .ok (.getfield 20, 3) := by decide +kernel
theorem dX6_drain_22 : decode cX6_drain 22 = .ok (.iload_n 1, 1) := by decide +kernel
theorem dX6_drain_23 : decode cX6_drain 23 = .ok (.iaload, 1) := by decide +kernel
theorem dX6_drain_24 : decode cX6_drain 24 = .ok (.if_icmp .gt 10, 3) := by decide +kernel
theorem dX6_drain_27 : decode cX6_drain 27 = .ok (.aload_n 0, 1) := by decide +kernel
theorem dX6_drain_28 : decode cX6_drain 28 = .ok (.getfield 73, 3) := by decide +kernel
theorem dX6_drain_31 : decode cX6_drain 31 = .ok (.ifCond .le 5, 3) := by decide +kernel
theorem dX6_drain_34 : decode cX6_drain 34 = .ok (.iconst 0, 1) := by decide +kernel
theorem dX6_drain_35 : decode cX6_drain 35 = .ok (.ireturn, 1) := by decide +kernel
theorem dX6_drain_36 : decode cX6_drain 36 = .ok (.aload_n 0, 1) := by decide +kernel
theorem dX6_drain_37 : decode cX6_drain 37 = .ok (.getfield 20, 3) := by decide +kernel
theorem dX6_drain_40 : decode cX6_drain 40 = .ok (.iload_n 1, 1) := by decide +kernel
theorem dX6_drain_41 : decode cX6_drain 41 = .ok (.aload_n 0, 1) := by decide +kernel
theorem dX6_drain_42 : decode cX6_drain 42 = .ok (.getfield 20, 3) := by decide +kernel
theorem dX6_drain_45 : decode cX6_drain 45 = .ok (.iload_n 1, 1) := by decide +kernel
theorem dX6_drain_46 : decode cX6_drain 46 = .ok (.iaload, 1) := by decide +kernel
theorem dX6_drain_47 : decode cX6_drain 47 = .ok (.iload_n 2, 1) := by decide +kernel
theorem dX6_drain_48 : decode cX6_drain 48 = .ok (.isub, 1) := by decide +kernel
theorem dX6_drain_49 : decode cX6_drain 49 = .ok (.iastore, 1) := by decide +kernel
theorem dX6_drain_50 : decode cX6_drain 50 = .ok (.aload_n 0, 1) := by decide +kernel
theorem dX6_drain_51 : decode cX6_drain 51 = .ok (.getfield 39, 3) := by decide +kernel
theorem dX6_drain_54 : decode cX6_drain 54 = .ok (.iconst 4, 1) := by decide +kernel
theorem dX6_drain_55 : decode cX6_drain 55 = .ok (.aload_n 0, 1) := by decide +kernel
theorem dX6_drain_56 : decode cX6_drain 56 = .ok (.getfield 39, 3) := by decide +kernel
theorem dX6_drain_59 : decode cX6_drain 59 = .ok (.iconst 4, 1) := by decide +kernel
theorem dX6_drain_60 : decode cX6_drain 60 = .ok (.iaload, 1) := by decide +kernel
theorem dX6_drain_61 : decode cX6_drain 61 = .ok (.iload_n 2, 1) := by decide +kernel
theorem dX6_drain_62 : decode cX6_drain 62 = .ok (.aload_n 0, 1) := by decide +kernel
theorem dX6_drain_63 : decode cX6_drain 63 = .ok (.getfield 7, 3) := by decide +kernel
theorem dX6_drain_66 : decode cX6_drain 66 = .ok (.iload_n 1, 1) := by decide +kernel
theorem dX6_drain_67 : decode cX6_drain 67 = .ok (.iaload, 1) := by decide +kernel
theorem dX6_drain_68 : decode cX6_drain 68 = .ok (.imul, 1) := by decide +kernel
theorem dX6_drain_69 : decode cX6_drain 69 = .ok (.iadd, 1) := by decide +kernel
theorem dX6_drain_70 : decode cX6_drain 70 = .ok (.iastore, 1) := by decide +kernel
theorem dX6_drain_71 : decode cX6_drain 71 = .ok (.iconst 1, 1) := by decide +kernel
theorem dX6_drain_72 : decode cX6_drain 72 = .ok (.ireturn, 1) := by decide +kernel
set_option maxRecDepth 20000 in
set_option maxHeartbeats 4000000 in
theorem c_X6_drain {a : Nat → Nat} {q : Nat → ClassId} {x1 : Int32} {x2 : Int32}  {mtd : Int32} {mnk : Int32} {mva : Nat → Int32} {mno : Nat → Int32} {mro : Nat → Int32} {mtu : Nat → Int32} {mbx : Nat → Int32} {mst : Nat → Int32} {mja : Nat → Int32} {mpr : Nat → Int32} {mcr : Int32} {mow : Int32} {mhd : Int32} {mmo : Int32} {mbk : Nat → Int32} {mca : Nat → Int32} {mfr : Nat → Int32} {mrs : Int32} {mrk : Nat → Int32} {mfe : Nat → Int32} {mus : Nat → Int32} {mgi : Nat → Int32} {maj : Nat → Int32} {K : Int32 → Int32 → (Nat → Int32) → (Nat → Int32) → Prop} (h : wp_X6_drain x1 x2 mtd mnk mva mno mtu mcr mbk K) : ctZ_3 q yX6_drain cX6_drain 3 2 42 [.ref (a 0), .int x1, .int x2] (mdW a q mtd mnk mva mno mro mtu mbx mst mja mpr mcr mow mhd mmo mbk mca mfr mrs mrk mfe mus mgi maj) (fun (mtd : Int32) (mtu : Nat → Int32) (mbk : Nat → Int32) => (mdW a q mtd mnk mva mno mro mtu mbx mst mja mpr mcr mow mhd mmo mbk mca mfr mrs mrk mfe mus mgi maj)) K := by
  refine met_Z_3 (by decide) (Nat.le_of_ble_eq_true rfl) (fun Γ g hret => ?_)
  unfold wp_X6_drain at h
  show jw Γ 3 0 0 (mdW a q mtd mnk mva mno mro mtu mbx mst mja mpr mcr mow mhd mmo mbk mca mfr mrs mrk mfe mus mgi maj) [(0, .ref (a 0)), (1, .int x1), (2, .int x2)] [] 0
  refine j_aload_n g 0 rfl dX6_drain_0 ?_
  refine j_iconst g (v := 0) (by decide) dX6_drain_1 ?_
  refine j_put g fl_X6_63 fp_X6_0 0 md_0 rfl rfl (Nat.le_of_ble_eq_true rfl) (ws' := (mdW a q (0 : Int32) mnk mva mno mro mtu mbx mst mja mpr mcr mow mhd mmo mbk mca mfr mrs mrk mfe mus mgi maj)) rfl dX6_drain_2 ?_
  refine j_aload_n g 0 rfl dX6_drain_5 ?_
  refine j_iload_n g 1 rfl dX6_drain_6 ?_
  refine j_callVZ_0 g (As := [.int x1]) (st := []) (c_X6_isCoin  h) cl_X6_82 0 6 md_0 rfl rfl (Nat.le_of_ble_eq_true rfl) (Nat.le_of_ble_eq_true rfl) (Nat.zero_le _) (Nat.zero_le _) rfl rfl (Nat.le_of_ble_eq_true rfl) dX6_drain_7 (fun r_1  hz_1 h => ?_)
  refine j_if_eq g dX6_drain_10 (tgt := 34) (by decide) (fun c2 => ?_) (fun c2 => ?_)
  · replace h := h.1 c2
    refine j_iconst g (v := 0) (by decide) dX6_drain_34 ?_
    exact hret.go dX6_drain_35 (Or.inl rfl) h
  replace h := h.2 c2
  refine j_iload_n g 2 rfl dX6_drain_13 ?_
  refine j_if_lt g dX6_drain_14 (tgt := 34) (by decide) (fun c3 => ?_) (fun c3 => ?_)
  · replace h := h.1 c3
    refine j_iconst g (v := 0) (by decide) dX6_drain_34 ?_
    exact hret.go dX6_drain_35 (Or.inl rfl) h
  replace h := h.2 c3
  refine j_iload_n g 2 rfl dX6_drain_17 ?_
  refine j_aload_n g 0 rfl dX6_drain_18 ?_
  refine j_get g fl_X6_20 0 md_0 rfl dX6_drain_19 ?_
  refine j_iload_n g 1 rfl dX6_drain_22 ?_
  obtain ⟨hv4, h⟩ := h
  refine j_iald g 4 md_4 hv4 dX6_drain_23 ?_
  refine j_icmp_gt g dX6_drain_24 (tgt := 34) (by decide) (fun c5 => ?_) (fun c5 => ?_)
  · replace h := h.1 c5
    refine j_iconst g (v := 0) (by decide) dX6_drain_34 ?_
    exact hret.go dX6_drain_35 (Or.inl rfl) h
  replace h := h.2 c5
  refine j_aload_n g 0 rfl dX6_drain_27 ?_
  refine j_get g fl_X6_73 0 md_0 rfl dX6_drain_28 ?_
  refine j_if_le g dX6_drain_31 (tgt := 36) (by decide) (fun c6 => ?_) (fun c6 => ?_)
  rotate_left
  · replace h := h.2 c6
    refine j_iconst g (v := 0) (by decide) dX6_drain_34 ?_
    exact hret.go dX6_drain_35 (Or.inl rfl) h
  replace h := h.1 c6
  refine j_aload_n g 0 rfl dX6_drain_36 ?_
  refine j_get g fl_X6_20 0 md_0 rfl dX6_drain_37 ?_
  refine j_iload_n g 1 rfl dX6_drain_40 ?_
  refine j_aload_n g 0 rfl dX6_drain_41 ?_
  refine j_get g fl_X6_20 0 md_0 rfl dX6_drain_42 ?_
  refine j_iload_n g 1 rfl dX6_drain_45 ?_
  obtain ⟨hv7, h⟩ := h
  refine j_iald g 4 md_4 hv7 dX6_drain_46 ?_
  refine j_iload_n g 2 rfl dX6_drain_47 ?_
  refine j_isub g dX6_drain_48 ?_
  obtain ⟨hv8, h⟩ := h
  refine j_iast g 4 md_4 hv8 (ws' := (mdW a q (0 : Int32) mnk mva mno mro (upd mtu x1.toNatClampNeg ((mtu x1.toNatClampNeg) - x2)) mbx mst mja mpr mcr mow mhd mmo mbk mca mfr mrs mrk mfe mus mgi maj)) rfl dX6_drain_49 ?_
  refine j_aload_n g 0 rfl dX6_drain_50 ?_
  refine j_get g fl_X6_39 0 md_0 rfl dX6_drain_51 ?_
  refine j_iconst g (v := 4) (by decide) dX6_drain_54 ?_
  refine j_aload_n g 0 rfl dX6_drain_55 ?_
  refine j_get g fl_X6_39 0 md_0 rfl dX6_drain_56 ?_
  refine j_iconst g (v := 4) (by decide) dX6_drain_59 ?_
  obtain ⟨hv9, h⟩ := h
  refine j_iald g 9 md_9 hv9 dX6_drain_60 ?_
  refine j_iload_n g 2 rfl dX6_drain_61 ?_
  refine j_aload_n g 0 rfl dX6_drain_62 ?_
  refine j_get g fl_X6_7 0 md_0 rfl dX6_drain_63 ?_
  refine j_iload_n g 1 rfl dX6_drain_66 ?_
  obtain ⟨hv10, h⟩ := h
  refine j_iald g 1 md_1 hv10 dX6_drain_67 ?_
  refine j_imul g dX6_drain_68 ?_
  refine j_iadd g dX6_drain_69 ?_
  obtain ⟨hv11, h⟩ := h
  refine j_iast g 9 md_9 hv11 (ws' := (mdW a q (0 : Int32) mnk mva mno mro (upd mtu x1.toNatClampNeg ((mtu x1.toNatClampNeg) - x2)) mbx mst mja mpr mcr mow mhd mmo (upd mbk (4 : Int32).toNatClampNeg ((mbk (4 : Int32).toNatClampNeg) + (x2 * (mva x1.toNatClampNeg)))) mca mfr mrs mrk mfe mus mgi maj)) rfl dX6_drain_70 ?_
  refine j_iconst g (v := 1) (by decide) dX6_drain_71 ?_
  exact hret.go dX6_drain_72 (Or.inr rfl) h

set_option maxRecDepth 20000 in
def wp_X6_count (x1 : Int32) (x2 : Int32) (mtd : Int32) (mnk : Int32) (mva : Nat → Int32) (mno : Nat → Int32) (mro : Nat → Int32) (mtu : Nat → Int32) (mcr : Int32) (mbk : Nat → Int32) (K : Int32 → Int32 → (Nat → Int32) → (Nat → Int32) → Prop) : Prop :=
  wp_X6_isCoin x1 mnk mno (fun (r_1 : Int32)  => ((r_1 = 0 → K (-1000000 : Int32) (0 : Int32) mtu mbk) ∧ (¬ r_1 = 0 → ((x2 < 0 → K (-1000000 : Int32) (0 : Int32) mtu mbk) ∧ (¬ x2 < 0 → (vp_in x1 6 ∧ ((mro x1.toNatClampNeg < x2 → K (-1000000 : Int32) (0 : Int32) mtu mbk) ∧ (¬ mro x1.toNatClampNeg < x2 → ((mcr ≤ 0 → (vp_in x1 6 ∧ (vp_in x1 6 ∧ (vp_in x1 6 ∧ (vp_in (5 : Int32) 6 ∧ (vp_in (5 : Int32) 6 ∧ K (((mtu x1.toNatClampNeg) - x2) * (mva x1.toNatClampNeg)) (0 : Int32) (upd mtu x1.toNatClampNeg x2) (upd mbk (5 : Int32).toNatClampNeg ((mbk (5 : Int32).toNatClampNeg) + (((mtu x1.toNatClampNeg) - x2) * (mva x1.toNatClampNeg)))))))))) ∧ (¬ mcr ≤ 0 → K (-1000000 : Int32) (0 : Int32) mtu mbk))))))))))
theorem dX6_count_0 : decode cX6_count 0 = .ok (.aload_n 0, 1) := by decide +kernel
theorem dX6_count_1 : decode cX6_count 1 = .ok (.iconst 0, 1) := by decide +kernel
theorem dX6_count_2 : decode cX6_count 2 = .ok (.putfield 63, 3) := by decide +kernel
theorem dX6_count_5 : decode cX6_count 5 = .ok (.aload_n 0, 1) := by decide +kernel
theorem dX6_count_6 : decode cX6_count 6 = .ok (.iload_n 1, 1) := by decide +kernel
theorem dX6_count_7 : decode cX6_count 7 = .ok (.invokevirtual 82, 3) := by decide +kernel
theorem dX6_count_10 : decode cX6_count 10 = .ok (.ifCond .eq 24, 3) := by decide +kernel
theorem dX6_count_13 : decode cX6_count 13 = .ok (.iload_n 2, 1) := by decide +kernel
theorem dX6_count_14 : decode cX6_count 14 = .ok (.ifCond .lt 20, 3) := by decide +kernel
theorem dX6_count_17 : decode cX6_count 17 = .ok (.iload_n 2, 1) := by decide +kernel
theorem dX6_count_18 : decode cX6_count 18 = .ok (.aload_n 0, 1) := by decide +kernel
theorem dX6_count_19 : decode cX6_count 19 = .ok (.getfield 17, 3) := by decide +kernel
theorem dX6_count_22 : decode cX6_count 22 = .ok (.iload_n 1, 1) := by decide +kernel
theorem dX6_count_23 : decode cX6_count 23 = .ok (.iaload, 1) := by decide +kernel
theorem dX6_count_24 : decode cX6_count 24 = .ok (.if_icmp .gt 10, 3) := by decide +kernel
theorem dX6_count_27 : decode cX6_count 27 = .ok (.aload_n 0, 1) := by decide +kernel
theorem dX6_count_28 : decode cX6_count 28 = .ok (.getfield 73, 3) := by decide +kernel
theorem dX6_count_31 : decode cX6_count 31 = .ok (.ifCond .le 6, 3) := by decide +kernel
theorem dX6_count_34 : decode cX6_count 34 = .ok (.ldc 140, 2) := by decide +kernel
theorem dX6_count_36 : decode cX6_count 36 = .ok (.ireturn, 1) := by decide +kernel
theorem dX6_count_37 : decode cX6_count 37 = .ok (.aload_n 0, 1) := by decide +kernel
theorem dX6_count_38 : decode cX6_count 38 = .ok (.getfield 20, 3) := by decide +kernel
theorem dX6_count_41 : decode cX6_count 41 = .ok (.iload_n 1, 1) := by decide +kernel
theorem dX6_count_42 : decode cX6_count 42 = .ok (.iaload, 1) := by decide +kernel
theorem dX6_count_43 : decode cX6_count 43 = .ok (.iload_n 2, 1) := by decide +kernel
theorem dX6_count_44 : decode cX6_count 44 = .ok (.isub, 1) := by decide +kernel
theorem dX6_count_45 : decode cX6_count 45 = .ok (.aload_n 0, 1) := by decide +kernel
theorem dX6_count_46 : decode cX6_count 46 = .ok (.getfield 7, 3) := by decide +kernel
theorem dX6_count_49 : decode cX6_count 49 = .ok (.iload_n 1, 1) := by decide +kernel
theorem dX6_count_50 : decode cX6_count 50 = .ok (.iaload, 1) := by decide +kernel
theorem dX6_count_51 : decode cX6_count 51 = .ok (.imul, 1) := by decide +kernel
theorem dX6_count_52 : decode cX6_count 52 = .ok (.istore_n 3, 1) := by decide +kernel
theorem dX6_count_53 : decode cX6_count 53 = .ok (.aload_n 0, 1) := by decide +kernel
theorem dX6_count_54 : decode cX6_count 54 = .ok (.getfield 20, 3) := by decide +kernel
theorem dX6_count_57 : decode cX6_count 57 = .ok (.iload_n 1, 1) := by decide +kernel
theorem dX6_count_58 : decode cX6_count 58 = .ok (.iload_n 2, 1) := by decide +kernel
theorem dX6_count_59 : decode cX6_count 59 = .ok (.iastore, 1) := by decide +kernel
theorem dX6_count_60 : decode cX6_count 60 = .ok (.aload_n 0, 1) := by decide +kernel
theorem dX6_count_61 : decode cX6_count 61 = .ok (.getfield 39, 3) := by decide +kernel
theorem dX6_count_64 : decode cX6_count 64 = .ok (.iconst 5, 1) := by decide +kernel
theorem dX6_count_65 : decode cX6_count 65 = .ok (.aload_n 0, 1) := by decide +kernel
theorem dX6_count_66 : decode cX6_count 66 = .ok (.getfield 39, 3) := by decide +kernel
theorem dX6_count_69 : decode cX6_count 69 = .ok (.iconst 5, 1) := by decide +kernel
theorem dX6_count_70 : decode cX6_count 70 = .ok (.iaload, 1) := by decide +kernel
theorem dX6_count_71 : decode cX6_count 71 = .ok (.iload_n 3, 1) := by decide +kernel
theorem dX6_count_72 : decode cX6_count 72 = .ok (.iadd, 1) := by decide +kernel
theorem dX6_count_73 : decode cX6_count 73 = .ok (.iastore, 1) := by decide +kernel
theorem dX6_count_74 : decode cX6_count 74 = .ok (.iload_n 3, 1) := by decide +kernel
theorem dX6_count_75 : decode cX6_count 75 = .ok (.ireturn, 1) := by decide +kernel
set_option maxRecDepth 20000 in
set_option maxHeartbeats 4000000 in
theorem c_X6_count {a : Nat → Nat} {q : Nat → ClassId} {x1 : Int32} {x2 : Int32}  {mtd : Int32} {mnk : Int32} {mva : Nat → Int32} {mno : Nat → Int32} {mro : Nat → Int32} {mtu : Nat → Int32} {mbx : Nat → Int32} {mst : Nat → Int32} {mja : Nat → Int32} {mpr : Nat → Int32} {mcr : Int32} {mow : Int32} {mhd : Int32} {mmo : Int32} {mbk : Nat → Int32} {mca : Nat → Int32} {mfr : Nat → Int32} {mrs : Int32} {mrk : Nat → Int32} {mfe : Nat → Int32} {mus : Nat → Int32} {mgi : Nat → Int32} {maj : Nat → Int32} {K : Int32 → Int32 → (Nat → Int32) → (Nat → Int32) → Prop} (h : wp_X6_count x1 x2 mtd mnk mva mno mro mtu mcr mbk K) : ctI_3 q yX6_count cX6_count 4 2 42 [.ref (a 0), .int x1, .int x2] (mdW a q mtd mnk mva mno mro mtu mbx mst mja mpr mcr mow mhd mmo mbk mca mfr mrs mrk mfe mus mgi maj) (fun (mtd : Int32) (mtu : Nat → Int32) (mbk : Nat → Int32) => (mdW a q mtd mnk mva mno mro mtu mbx mst mja mpr mcr mow mhd mmo mbk mca mfr mrs mrk mfe mus mgi maj)) K := by
  refine met_I_3 (by decide) (Nat.le_of_ble_eq_true rfl) (fun Γ g hret => ?_)
  unfold wp_X6_count at h
  show jw Γ 4 0 0 (mdW a q mtd mnk mva mno mro mtu mbx mst mja mpr mcr mow mhd mmo mbk mca mfr mrs mrk mfe mus mgi maj) [(0, .ref (a 0)), (1, .int x1), (2, .int x2)] [] 0
  refine j_aload_n g 0 rfl dX6_count_0 ?_
  refine j_iconst g (v := 0) (by decide) dX6_count_1 ?_
  refine j_put g fl_X6_63 fp_X6_0 0 md_0 rfl rfl (Nat.le_of_ble_eq_true rfl) (ws' := (mdW a q (0 : Int32) mnk mva mno mro mtu mbx mst mja mpr mcr mow mhd mmo mbk mca mfr mrs mrk mfe mus mgi maj)) rfl dX6_count_2 ?_
  refine j_aload_n g 0 rfl dX6_count_5 ?_
  refine j_iload_n g 1 rfl dX6_count_6 ?_
  refine j_callVZ_0 g (As := [.int x1]) (st := []) (c_X6_isCoin  h) cl_X6_82 0 6 md_0 rfl rfl (Nat.le_of_ble_eq_true rfl) (Nat.le_of_ble_eq_true rfl) (Nat.zero_le _) (Nat.zero_le _) rfl rfl (Nat.le_of_ble_eq_true rfl) dX6_count_7 (fun r_1  hz_1 h => ?_)
  refine j_if_eq g dX6_count_10 (tgt := 34) (by decide) (fun c2 => ?_) (fun c2 => ?_)
  · replace h := h.1 c2
    refine j_ldc g (v := -1000000) ld_X6_140 dX6_count_34 ?_
    exact hret.go dX6_count_36 h
  replace h := h.2 c2
  refine j_iload_n g 2 rfl dX6_count_13 ?_
  refine j_if_lt g dX6_count_14 (tgt := 34) (by decide) (fun c3 => ?_) (fun c3 => ?_)
  · replace h := h.1 c3
    refine j_ldc g (v := -1000000) ld_X6_140 dX6_count_34 ?_
    exact hret.go dX6_count_36 h
  replace h := h.2 c3
  refine j_iload_n g 2 rfl dX6_count_17 ?_
  refine j_aload_n g 0 rfl dX6_count_18 ?_
  refine j_get g fl_X6_17 0 md_0 rfl dX6_count_19 ?_
  refine j_iload_n g 1 rfl dX6_count_22 ?_
  obtain ⟨hv4, h⟩ := h
  refine j_iald g 3 md_3 hv4 dX6_count_23 ?_
  refine j_icmp_gt g dX6_count_24 (tgt := 34) (by decide) (fun c5 => ?_) (fun c5 => ?_)
  · replace h := h.1 c5
    refine j_ldc g (v := -1000000) ld_X6_140 dX6_count_34 ?_
    exact hret.go dX6_count_36 h
  replace h := h.2 c5
  refine j_aload_n g 0 rfl dX6_count_27 ?_
  refine j_get g fl_X6_73 0 md_0 rfl dX6_count_28 ?_
  refine j_if_le g dX6_count_31 (tgt := 37) (by decide) (fun c6 => ?_) (fun c6 => ?_)
  rotate_left
  · replace h := h.2 c6
    refine j_ldc g (v := -1000000) ld_X6_140 dX6_count_34 ?_
    exact hret.go dX6_count_36 h
  replace h := h.1 c6
  refine j_aload_n g 0 rfl dX6_count_37 ?_
  refine j_get g fl_X6_20 0 md_0 rfl dX6_count_38 ?_
  refine j_iload_n g 1 rfl dX6_count_41 ?_
  obtain ⟨hv7, h⟩ := h
  refine j_iald g 4 md_4 hv7 dX6_count_42 ?_
  refine j_iload_n g 2 rfl dX6_count_43 ?_
  refine j_isub g dX6_count_44 ?_
  refine j_aload_n g 0 rfl dX6_count_45 ?_
  refine j_get g fl_X6_7 0 md_0 rfl dX6_count_46 ?_
  refine j_iload_n g 1 rfl dX6_count_49 ?_
  obtain ⟨hv8, h⟩ := h
  refine j_iald g 1 md_1 hv8 dX6_count_50 ?_
  refine j_imul g dX6_count_51 ?_
  refine j_istore_n g (lv' := [(3, .int (((mtu x1.toNatClampNeg) - x2) * (mva x1.toNatClampNeg))), (0, .ref (a 0)), (1, .int x1), (2, .int x2)]) (by decide) rfl dX6_count_52 ?_
  refine j_aload_n g 1 rfl dX6_count_53 ?_
  refine j_get g fl_X6_20 0 md_0 rfl dX6_count_54 ?_
  refine j_iload_n g 2 rfl dX6_count_57 ?_
  refine j_iload_n g 3 rfl dX6_count_58 ?_
  obtain ⟨hv9, h⟩ := h
  refine j_iast g 4 md_4 hv9 (ws' := (mdW a q (0 : Int32) mnk mva mno mro (upd mtu x1.toNatClampNeg x2) mbx mst mja mpr mcr mow mhd mmo mbk mca mfr mrs mrk mfe mus mgi maj)) rfl dX6_count_59 ?_
  refine j_aload_n g 1 rfl dX6_count_60 ?_
  refine j_get g fl_X6_39 0 md_0 rfl dX6_count_61 ?_
  refine j_iconst g (v := 5) (by decide) dX6_count_64 ?_
  refine j_aload_n g 1 rfl dX6_count_65 ?_
  refine j_get g fl_X6_39 0 md_0 rfl dX6_count_66 ?_
  refine j_iconst g (v := 5) (by decide) dX6_count_69 ?_
  obtain ⟨hv10, h⟩ := h
  refine j_iald g 9 md_9 hv10 dX6_count_70 ?_
  refine j_iload_n g 0 rfl dX6_count_71 ?_
  refine j_iadd g dX6_count_72 ?_
  obtain ⟨hv11, h⟩ := h
  refine j_iast g 9 md_9 hv11 (ws' := (mdW a q (0 : Int32) mnk mva mno mro (upd mtu x1.toNatClampNeg x2) mbx mst mja mpr mcr mow mhd mmo (upd mbk (5 : Int32).toNatClampNeg ((mbk (5 : Int32).toNatClampNeg) + (((mtu x1.toNatClampNeg) - x2) * (mva x1.toNatClampNeg)))) mca mfr mrs mrk mfe mus mgi maj)) rfl dX6_count_73 ?_
  refine j_iload_n g 0 rfl dX6_count_74 ?_
  exact hret.go dX6_count_75 h
