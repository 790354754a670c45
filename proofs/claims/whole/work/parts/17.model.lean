set_option maxRecDepth 20000 in
def wp_X6_isKind (x1 : Int32) (mnk : Int32) (K : Int32 → Prop) : Prop :=
  ((x1 < 0 → K (0 : Int32)) ∧ (¬ x1 < 0 → ((mnk ≤ x1 → K (0 : Int32)) ∧ (¬ mnk ≤ x1 → K (1 : Int32)))))
theorem dX6_isKind_0 : decode cX6_isKind 0 = .ok (.iload_n 1, 1) := by decide +kernel
theorem dX6_isKind_1 : decode cX6_isKind 1 = .ok (.ifCond .lt 15, 3) := by decide +kernel
theorem dX6_isKind_4 : decode cX6_isKind 4 = .ok (.iload_n 1, 1) := by decide +kernel
theorem dX6_isKind_5 : decode cX6_isKind 5 = .ok (.aload_n 0, 1) := by decide +kernel
theorem dX6_isKind_6 : decode cX6_isKind 6 = .ok (.getfield 66, 3) := by decide +kernel
theorem dX6_isKind_9 : decode cX6_isKind 9 = .ok (.if_icmp .ge 7, 3) := by decide +kernel
theorem dX6_isKind_12 : decode cX6_isKind 12 = .ok (.iconst 1, 1) := by decide +kernel
theorem dX6_isKind_13 : decode cX6_isKind 13 = .ok (.goto 4, 3) := by decide +kernel
theorem dX6_isKind_16 : decode cX6_isKind 16 = .ok (.iconst 0, 1) := by decide +kernel
theorem dX6_isKind_17 : decode cX6_isKind 17 = .ok (.ireturn, 1) := by decide +kernel
set_option maxRecDepth 20000 in
set_option maxHeartbeats 4000000 in
theorem c_X6_isKind {a : Nat → Nat} {q : Nat → ClassId} {x1 : Int32}  {mtd : Int32} {mnk : Int32} {mva : Nat → Int32} {mno : Nat → Int32} {mro : Nat → Int32} {mtu : Nat → Int32} {mbx : Nat → Int32} {mst : Nat → Int32} {mja : Nat → Int32} {mpr : Nat → Int32} {mcr : Int32} {mow : Int32} {mhd : Int32} {mmo : Int32} {mbk : Nat → Int32} {mca : Nat → Int32} {mfr : Nat → Int32} {mrs : Int32} {mrk : Nat → Int32} {mfe : Nat → Int32} {mus : Nat → Int32} {mgi : Nat → Int32} {maj : Nat → Int32} {K : Int32 → Prop} (h : wp_X6_isKind x1 mnk K) : ctZ_0 q yX6_isKind cX6_isKind 2 0 0 [.ref (a 0), .int x1] (mdW a q mtd mnk mva mno mro mtu mbx mst mja mpr mcr mow mhd mmo mbk mca mfr mrs mrk mfe mus mgi maj) (mdW a q mtd mnk mva mno mro mtu mbx mst mja mpr mcr mow mhd mmo mbk mca mfr mrs mrk mfe mus mgi maj) K := by
  refine met_Z_0 (by decide) (Nat.le_of_ble_eq_true rfl) (fun Γ g hret => ?_)
  unfold wp_X6_isKind at h
  show jw Γ 2 0 0 (mdW a q mtd mnk mva mno mro mtu mbx mst mja mpr mcr mow mhd mmo mbk mca mfr mrs mrk mfe mus mgi maj) [(0, .ref (a 0)), (1, .int x1)] [] 0
  refine j_iload_n g 1 rfl dX6_isKind_0 ?_
  refine j_if_lt g dX6_isKind_1 (tgt := 16) (by decide) (fun c1 => ?_) (fun c1 => ?_)
  · replace h := h.1 c1
    refine j_iconst g (v := 0) (by decide) dX6_isKind_16 ?_
    exact hret.go dX6_isKind_17 (Or.inl rfl) h
  replace h := h.2 c1
  refine j_iload_n g 1 rfl dX6_isKind_4 ?_
  refine j_aload_n g 0 rfl dX6_isKind_5 ?_
  refine j_get g fl_X6_66 0 md_0 rfl dX6_isKind_6 ?_
  refine j_icmp_ge g dX6_isKind_9 (tgt := 16) (by decide) (fun c2 => ?_) (fun c2 => ?_)
  · replace h := h.1 c2
    refine j_iconst g (v := 0) (by decide) dX6_isKind_16 ?_
    exact hret.go dX6_isKind_17 (Or.inl rfl) h
  replace h := h.2 c2
  refine j_iconst g (v := 1) (by decide) dX6_isKind_12 ?_
  refine j_goto g dX6_isKind_13 (tgt := 17) (by decide) ?_
  exact hret.go dX6_isKind_17 (Or.inr rfl) h

set_option maxRecDepth 20000 in
def wp_X6_isCoin (x1 : Int32) (mnk : Int32) (mno : Nat → Int32) (K : Int32 → Prop) : Prop :=
  wp_X6_isKind x1 mnk (fun (r_1 : Int32)  => ((r_1 = 0 → K (0 : Int32)) ∧ (¬ r_1 = 0 → (vp_in x1 6 ∧ ((¬ mno x1.toNatClampNeg = 0 → K (0 : Int32)) ∧ (mno x1.toNatClampNeg = 0 → K (1 : Int32)))))))
theorem dX6_isCoin_0 : decode cX6_isCoin 0 = .ok (.aload_n 0, 1) := by decide +kernel
theorem dX6_isCoin_1 : decode cX6_isCoin 1 = .ok (.iload_n 1, 1) := by decide +kernel
theorem dX6_isCoin_2 : decode cX6_isCoin 2 = .ok (.invokevirtual 69, 3) := by decide +kernel
theorem dX6_isCoin_5 : decode cX6_isCoin 5 = .ok (.ifCond .eq 16, 3) := by decide +kernel
theorem dX6_isCoin_8 : decode cX6_isCoin 8 = .ok (.aload_n 0, 1) := by decide +kernel
theorem dX6_isCoin_9 : decode cX6_isCoin 9 = .ok (.getfield 13, 3) := by decide +kernel
theorem dX6_isCoin_12 : decode cX6_isCoin 12 = .ok (.iload_n 1, 1) := by decide +kernel
theorem dX6_isCoin_13 : decode cX6_isCoin 13 = .ok (.baload, 1) := by decide +kernel
theorem dX6_isCoin_14 : decode cX6_isCoin 14 = .ok (.ifCond .ne 7, 3) := by decide +kernel
theorem dX6_isCoin_17 : decode cX6_isCoin 17 = .ok (.iconst 1, 1) := by decide +kernel
theorem dX6_isCoin_18 : decode cX6_isCoin 18 = .ok (.goto 4, 3) := by decide +kernel
theorem dX6_isCoin_21 : decode cX6_isCoin 21 = .ok (.iconst 0, 1) := by decide +kernel
theorem dX6_isCoin_22 : decode cX6_isCoin 22 = .ok (.ireturn, 1) := by decide +kernel
set_option maxRecDepth 20000 in
set_option maxHeartbeats 4000000 in
theorem c_X6_isCoin {a : Nat → Nat} {q : Nat → ClassId} {x1 : Int32}  {mtd : Int32} {mnk : Int32} {mva : Nat → Int32} {mno : Nat → Int32} {mro : Nat → Int32} {mtu : Nat → Int32} {mbx : Nat → Int32} {mst : Nat → Int32} {mja : Nat → Int32} {mpr : Nat → Int32} {mcr : Int32} {mow : Int32} {mhd : Int32} {mmo : Int32} {mbk : Nat → Int32} {mca : Nat → Int32} {mfr : Nat → Int32} {mrs : Int32} {mrk : Nat → Int32} {mfe : Nat → Int32} {mus : Nat → Int32} {mgi : Nat → Int32} {maj : Nat → Int32} {K : Int32 → Prop} (h : wp_X6_isCoin x1 mnk mno K) : ctZ_0 q yX6_isCoin cX6_isCoin 2 1 21 [.ref (a 0), .int x1] (mdW a q mtd mnk mva mno mro mtu mbx mst mja mpr mcr mow mhd mmo mbk mca mfr mrs mrk mfe mus mgi maj) (mdW a q mtd mnk mva mno mro mtu mbx mst mja mpr mcr mow mhd mmo mbk mca mfr mrs mrk mfe mus mgi maj) K := by
  refine met_Z_0 (by decide) (Nat.le_of_ble_eq_true rfl) (fun Γ g hret => ?_)
  unfold wp_X6_isCoin at h
  show jw Γ 2 0 0 (mdW a q mtd mnk mva mno mro mtu mbx mst mja mpr mcr mow mhd mmo mbk mca mfr mrs mrk mfe mus mgi maj) [(0, .ref (a 0)), (1, .int x1)] [] 0
  refine j_aload_n g 0 rfl dX6_isCoin_0 ?_
  refine j_iload_n g 1 rfl dX6_isCoin_1 ?_
  refine j_callVZ_0 g (As := [.int x1]) (st := []) (c_X6_isKind  h) cl_X6_69 0 6 md_0 rfl rfl (Nat.le_of_ble_eq_true rfl) (Nat.le_of_ble_eq_true rfl) (Nat.zero_le _) (Nat.zero_le _) rfl rfl (Nat.le_of_ble_eq_true rfl) dX6_isCoin_2 (fun r_1  hz_1 h => ?_)
  refine j_if_eq g dX6_isCoin_5 (tgt := 21) (by decide) (fun c2 => ?_) (fun c2 => ?_)
  · replace h := h.1 c2
    refine j_iconst g (v := 0) (by decide) dX6_isCoin_21 ?_
    exact hret.go dX6_isCoin_22 (Or.inl rfl) h
  replace h := h.2 c2
  refine j_aload_n g 0 rfl dX6_isCoin_8 ?_
  refine j_get g fl_X6_13 0 md_0 rfl dX6_isCoin_9 ?_
  refine j_iload_n g 1 rfl dX6_isCoin_12 ?_
  obtain ⟨hv3, h⟩ := h
  refine j_zald g 2 md_2 hv3 dX6_isCoin_13 ?_
  refine j_if_ne g dX6_isCoin_14 (tgt := 21) (by decide) (fun c4 => ?_) (fun c4 => ?_)
  · replace h := h.1 c4
    refine j_iconst g (v := 0) (by decide) dX6_isCoin_21 ?_
    exact hret.go dX6_isCoin_22 (Or.inl rfl) h
  replace h := h.2 c4
  refine j_iconst g (v := 1) (by decide) dX6_isCoin_17 ?_
  refine j_goto g dX6_isCoin_18 (tgt := 22) (by decide) ?_
  exact hret.go dX6_isCoin_22 (Or.inr rfl) h

set_option maxRecDepth 20000 in
def wp_X6_canCome_32 (x1 : Int32) (mnk : Int32) (mva : Nat → Int32) (K : Int32 → Prop) (X : Prop) : Nat → Int32 → Prop
  | 0, _ => False
  | n + 1, x2 => ((mnk ≤ x2 → X) ∧ (¬ mnk ≤ x2 → (vp_in x2 6 ∧ ((¬ mva x2.toNatClampNeg = x1 → wp_X6_canCome_32 x1 mnk mva K X n (x2 + 1)) ∧ (mva x2.toNatClampNeg = x1 → K (0 : Int32))))))
set_option maxRecDepth 20000 in
def wp_X6_canCome (x1 : Int32) (mnk : Int32) (mva : Nat → Int32) (mcr : Int32) (K : Int32 → Prop) : Prop :=
  ((x1 < (1 : Int32) → K (0 : Int32)) ∧ (¬ x1 < (1 : Int32) → (((200 : Int32) < x1 → K (0 : Int32)) ∧ (¬ (200 : Int32) < x1 → ((0 < mcr → K (0 : Int32)) ∧ (¬ 0 < mcr → ((¬ mnk = (6 : Int32) → ∃ n5 : Nat, wp_X6_canCome_32 x1 mnk mva K (K (1 : Int32)) n5 (0 : Int32)) ∧ (mnk = (6 : Int32) → K (0 : Int32)))))))))
theorem dX6_canCome_0 : decode cX6_canCome 0 = .ok (.iload_n 1, 1) := by decide +kernel
theorem dX6_canCome_1 : decode cX6_canCome 1 = .ok (.iconst 1, 1) := by decide +kernel
theorem dX6_canCome_2 : decode cX6_canCome 2 = .ok (.if_icmp .lt 26, 3) := by decide +kernel
theorem dX6_canCome_5 : decode cX6_canCome 5 = .ok (.iload_n 1, 1) := by decide +kernel
theorem dX6_canCome_6 : decode cX6_canCome 6 = .ok (.sipush 200, 3) := by decide +kernel
theorem dX6_canCome_9 : decode cX6_canCome 9 = .ok (.if_icmp .gt 19, 3) := by decide +kernel
theorem dX6_canCome_12 : decode cX6_canCome 12 = .ok (.aload_n 0, 1) := by decide +kernel
theorem dX6_canCome_13 : decode cX6_canCome 13 = .ok (.getfield 73, 3) := by decide +kernel
theorem dX6_canCome_16 : decode cX6_canCome 16 = .ok (.ifCond .gt 12, 3) := by decide +kernel
theorem dX6_canCome_19 : decode cX6_canCome 19 = .ok (.aload_n 0, 1) := by decide +kernel
theorem dX6_canCome_20 : decode cX6_canCome 20 = .ok (.getfield 66, 3) := by decide +kernel
theorem dX6_canCome_23 : decode cX6_canCome 23 = .ok (.bipush 6, 2) := by decide +kernel
theorem dX6_canCome_25 : decode cX6_canCome 25 = .ok (.if_icmp .ne 5, 3) := by decide +kernel
theorem dX6_canCome_28 : decode cX6_canCome 28 = .ok (.iconst 0, 1) := by decide +kernel
theorem dX6_canCome_29 : decode cX6_canCome 29 = .ok (.ireturn, 1) := by decide +kernel
theorem dX6_canCome_30 : decode cX6_canCome 30 = .ok (.iconst 0, 1) := by decide +kernel
theorem dX6_canCome_31 : decode cX6_canCome 31 = .ok (.istore_n 2, 1) := by decide +kernel
theorem dX6_canCome_32 : decode cX6_canCome 32 = .ok (.iload_n 2, 1) := by decide +kernel
theorem dX6_canCome_33 : decode cX6_canCome 33 = .ok (.aload_n 0, 1) := by decide +kernel
theorem dX6_canCome_34 : decode cX6_canCome 34 = .ok (.getfield 66, 3) := by decide +kernel
theorem dX6_canCome_37 : decode cX6_canCome 37 = .ok (.if_icmp .ge 21, 3) := by decide +kernel
theorem dX6_canCome_40 : decode cX6_canCome 40 = .ok (.aload_n 0, 1) := by decide +kernel
theorem dX6_canCome_41 : decode cX6_canCome 41 = .ok (.getfield 7, 3) := by decide +kernel
theorem dX6_canCome_44 : decode cX6_canCome 44 = .ok (.iload_n 2, 1) := by decide +kernel
theorem dX6_canCome_45 : decode cX6_canCome 45 = .ok (.iaload, 1) := by decide +kernel
theorem dX6_canCome_46 : decode cX6_canCome 46 = .ok (.iload_n 1, 1) := by decide +kernel
theorem dX6_canCome_47 : decode cX6_canCome 47 = .ok (.if_icmp .ne 5, 3) := by decide +kernel
theorem dX6_canCome_50 : decode cX6_canCome 50 = .ok (.iconst 0, 1) := by decide +kernel
theorem dX6_canCome_51 : decode cX6_canCome 51 = .ok (.ireturn, 1) := by decide +kernel
theorem dX6_canCome_52 : decode cX6_canCome 52 = .ok (.iinc 2 1, 3) := by decide +kernel
theorem dX6_canCome_55 : decode cX6_canCome 55 = .ok (.goto (-23), 3) := by decide +kernel
theorem dX6_canCome_58 : decode cX6_canCome 58 = .ok (.iconst 1, 1) := by decide +kernel
theorem dX6_canCome_59 : decode cX6_canCome 59 = .ok (.ireturn, 1) := by decide +kernel
set_option maxRecDepth 20000 in
set_option maxHeartbeats 4000000 in
theorem wk_X6_canCome_32 {Γ : GT} {a : Nat → Nat} {q : Nat → ClassId} {x1 : Int32}  {mtd : Int32} {mnk : Int32} {mva : Nat → Int32} {mno : Nat → Int32} {mro : Nat → Int32} {mtu : Nat → Int32} {mbx : Nat → Int32} {mst : Nat → Int32} {mja : Nat → Int32} {mpr : Nat → Int32} {mcr : Int32} {mow : Int32} {mhd : Int32} {mmo : Int32} {mbk : Nat → Int32} {mca : Nat → Int32} {mfr : Nat → Int32} {mrs : Int32} {mrk : Nat → Int32} {mfe : Nat → Int32} {mus : Nat → Int32} {mgi : Nat → Int32} {maj : Nat → Int32} {K : Int32 → Prop} {X : Prop} (g : gd Γ cX6_canCome RX6 3 (rmz 0 0) q) (hret : rtZ_0 Γ cX6_canCome 3 (mdW a q mtd mnk mva mno mro mtu mbx mst mja mpr mcr mow mhd mmo mbk mca mfr mrs mrk mfe mus mgi maj) K) (hX : X → jw Γ 3 0 0 (mdW a q mtd mnk mva mno mro mtu mbx mst mja mpr mcr mow mhd mmo mbk mca mfr mrs mrk mfe mus mgi maj) [] [] 58) :
    ∀ (n : Nat) (x2 : Int32) , wp_X6_canCome_32 x1 mnk mva K X n x2 → jw Γ 3 0 0 (mdW a q mtd mnk mva mno mro mtu mbx mst mja mpr mcr mow mhd mmo mbk mca mfr mrs mrk mfe mus mgi maj) [(0, .ref (a 0)), (1, .int x1), (2, .int x2)] [] 32 := by
  intro n
  induction n with
  | zero =>
    intro _ h
    exact False.elim h
  | succ n ih =>
    intro x2 h
    unfold wp_X6_canCome_32 at h
    refine j_iload_n g 2 rfl dX6_canCome_32 ?_
    refine j_aload_n g 0 rfl dX6_canCome_33 ?_
    refine j_get g fl_X6_66 0 md_0 rfl dX6_canCome_34 ?_
    refine j_icmp_ge g dX6_canCome_37 (tgt := 58) (by decide) (fun c1 => ?_) (fun c1 => ?_)
    · replace h := h.1 c1
      refine j_sub [] rfl ?_
      exact hX h
    replace h := h.2 c1
    refine j_aload_n g 0 rfl dX6_canCome_40 ?_
    refine j_get g fl_X6_7 0 md_0 rfl dX6_canCome_41 ?_
    refine j_iload_n g 2 rfl dX6_canCome_44 ?_
    obtain ⟨hv2, h⟩ := h
    refine j_iald g 1 md_1 hv2 dX6_canCome_45 ?_
    refine j_iload_n g 1 rfl dX6_canCome_46 ?_
    refine j_icmp_ne g dX6_canCome_47 (tgt := 52) (by decide) (fun c3 => ?_) (fun c3 => ?_)
    rotate_left
    · replace h := h.2 c3
      refine j_iconst g (v := 0) (by decide) dX6_canCome_50 ?_
      exact hret.go dX6_canCome_51 (Or.inl rfl) h
    replace h := h.1 c3
    refine j_iinc g 2 (n := 1) (v := x2 + 1) (lv' := [(2, .int (x2 + 1)), (0, .ref (a 0)), (1, .int x1)]) rfl rfl (by decide) rfl dX6_canCome_52 ?_
    refine j_goto g dX6_canCome_55 (tgt := 32) (by decide) ?_
    refine j_sub [1, 2, 0] rfl ?_
    exact ih (x2 + 1) h
set_option maxRecDepth 20000 in
set_option maxHeartbeats 4000000 in
theorem c_X6_canCome {a : Nat → Nat} {q : Nat → ClassId} {x1 : Int32}  {mtd : Int32} {mnk : Int32} {mva : Nat → Int32} {mno : Nat → Int32} {mro : Nat → Int32} {mtu : Nat → Int32} {mbx : Nat → Int32} {mst : Nat → Int32} {mja : Nat → Int32} {mpr : Nat → Int32} {mcr : Int32} {mow : Int32} {mhd : Int32} {mmo : Int32} {mbk : Nat → Int32} {mca : Nat → Int32} {mfr : Nat → Int32} {mrs : Int32} {mrk : Nat → Int32} {mfe : Nat → Int32} {mus : Nat → Int32} {mgi : Nat → Int32} {maj : Nat → Int32} {K : Int32 → Prop} (h : wp_X6_canCome x1 mnk mva mcr K) : ctZ_0 q yX6_canCome cX6_canCome 3 0 0 [.ref (a 0), .int x1] (mdW a q mtd mnk mva mno mro mtu mbx mst mja mpr mcr mow mhd mmo mbk mca mfr mrs mrk mfe mus mgi maj) (mdW a q mtd mnk mva mno mro mtu mbx mst mja mpr mcr mow mhd mmo mbk mca mfr mrs mrk mfe mus mgi maj) K := by
  refine met_Z_0 (by decide) (Nat.le_of_ble_eq_true rfl) (fun Γ g hret => ?_)
  unfold wp_X6_canCome at h
  show jw Γ 3 0 0 (mdW a q mtd mnk mva mno mro mtu mbx mst mja mpr mcr mow mhd mmo mbk mca mfr mrs mrk mfe mus mgi maj) [(0, .ref (a 0)), (1, .int x1)] [] 0
  refine j_iload_n g 1 rfl dX6_canCome_0 ?_
  refine j_iconst g (v := 1) (by decide) dX6_canCome_1 ?_
  refine j_icmp_lt g dX6_canCome_2 (tgt := 28) (by decide) (fun c1 => ?_) (fun c1 => ?_)
  · replace h := h.1 c1
    refine j_iconst g (v := 0) (by decide) dX6_canCome_28 ?_
    exact hret.go dX6_canCome_29 (Or.inl rfl) h
  replace h := h.2 c1
  refine j_iload_n g 1 rfl dX6_canCome_5 ?_
  refine j_sipush g (v := 200) (by decide) dX6_canCome_6 ?_
  refine j_icmp_gt g dX6_canCome_9 (tgt := 28) (by decide) (fun c2 => ?_) (fun c2 => ?_)
  · replace h := h.1 c2
    refine j_iconst g (v := 0) (by decide) dX6_canCome_28 ?_
    exact hret.go dX6_canCome_29 (Or.inl rfl) h
  replace h := h.2 c2
  refine j_aload_n g 0 rfl dX6_canCome_12 ?_
  refine j_get g fl_X6_73 0 md_0 rfl dX6_canCome_13 ?_
  refine j_if_gt g dX6_canCome_16 (tgt := 28) (by decide) (fun c3 => ?_) (fun c3 => ?_)
  · replace h := h.1 c3
    refine j_iconst g (v := 0) (by decide) dX6_canCome_28 ?_
    exact hret.go dX6_canCome_29 (Or.inl rfl) h
  replace h := h.2 c3
  refine j_aload_n g 0 rfl dX6_canCome_19 ?_
  refine j_get g fl_X6_66 0 md_0 rfl dX6_canCome_20 ?_
  refine j_bipush g (v := 6) (by decide) dX6_canCome_23 ?_
  refine j_icmp_ne g dX6_canCome_25 (tgt := 30) (by decide) (fun c4 => ?_) (fun c4 => ?_)
  rotate_left
  · replace h := h.2 c4
    refine j_iconst g (v := 0) (by decide) dX6_canCome_28 ?_
    exact hret.go dX6_canCome_29 (Or.inl rfl) h
  replace h := h.1 c4
  refine j_iconst g (v := 0) (by decide) dX6_canCome_30 ?_
  refine j_istore_n g (lv' := [(2, .int (0 : Int32)), (0, .ref (a 0)), (1, .int x1)]) (by decide) rfl dX6_canCome_31 ?_
  obtain ⟨n5, h⟩ := h
  refine j_sub [1, 2, 0] rfl ?_
  refine wk_X6_canCome_32  g hret (fun h => ?_) n5 (0 : Int32) h
  refine j_iconst g (v := 1) (by decide) dX6_canCome_58 ?_
  exact hret.go dX6_canCome_59 (Or.inr rfl) h

set_option maxRecDepth 20000 in
def wp_X6_coin (x1 : Int32) (x2 : Int32) (mtd : Int32) (mnk : Int32) (mva : Nat → Int32) (mro : Nat → Int32) (mcr : Int32) (K : Int32 → Int32 → Int32 → (Nat → Int32) → (Nat → Int32) → Prop) : Prop :=
  wp_X6_canCome x1 mnk mva mcr (fun (r_1 : Int32)  => ((r_1 = 0 → K (-1 : Int32) (0 : Int32) mnk mva mro) ∧ (¬ r_1 = 0 → ((x2 < 0 → K (-1 : Int32) (0 : Int32) mnk mva mro) ∧ (¬ x2 < 0 → ((x2 ≤ (20 : Int32) → (vp_in mnk 6 ∧ (vp_in mnk 6 ∧ K ((mnk + (1 : Int32)) - (1 : Int32)) (0 : Int32) (mnk + (1 : Int32)) (upd mva mnk.toNatClampNeg x1) (upd mro mnk.toNatClampNeg x2)))) ∧ (¬ x2 ≤ (20 : Int32) → K (-1 : Int32) (0 : Int32) mnk mva mro)))))))
theorem dX6_coin_0 : decode cX6_coin 0 = .ok (.aload_n 0, 1) := by decide +kernel
theorem dX6_coin_1 : decode cX6_coin 1 = .ok (.iconst 0, 1) := by decide +kernel
theorem dX6_coin_2 : decode cX6_coin 2 = .ok (.putfield 63, 3) := by decide +kernel
theorem dX6_coin_5 : decode cX6_coin 5 = .ok (.aload_n 0, 1) := by decide +kernel
theorem dX6_coin_6 : decode cX6_coin 6 = .ok (.iload_n 1, 1) := by decide +kernel
theorem dX6_coin_7 : decode cX6_coin 7 = .ok (.invokevirtual 76, 3) := by decide +kernel
theorem dX6_coin_10 : decode cX6_coin 10 = .ok (.ifCond .eq 13, 3) := by decide +kernel
theorem dX6_coin_13 : decode cX6_coin 13 = .ok (.iload_n 2, 1) := by decide +kernel
theorem dX6_coin_14 : decode cX6_coin 14 = .ok (.ifCond .lt 9, 3) := by decide +kernel
theorem dX6_coin_17 : decode cX6_coin 17 = .ok (.iload_n 2, 1) := by decide +kernel
theorem dX6_coin_18 : decode cX6_coin 18 = .ok (.bipush 20, 2) := by decide +kernel
theorem dX6_coin_20 : decode cX6_coin 20 = .ok (.if_icmp .le 5, 3) := by decide +kernel
theorem dX6_coin_23 : decode cX6_coin 23 = .ok (.iconst (-1), 1) := by decide +kernel
theorem dX6_coin_24 : decode cX6_coin 24 = .ok (.ireturn, 1) := by decide +kernel
theorem dX6_coin_25 : decode cX6_coin 25 = .ok (.aload_n 0, 1) := by decide +kernel
theorem dX6_coin_26 : decode cX6_coin 26 = .ok (.getfield 7, 3) := by decide +kernel
theorem dX6_coin_29 : decode cX6_coin 29 = .ok (.aload_n 0, 1) := by decide +kernel
theorem dX6_coin_30 : decode cX6_coin 30 = .ok (.getfield 66, 3) := by decide +kernel
theorem dX6_coin_33 : decode cX6_coin 33 = .ok (.iload_n 1, 1) := by decide +kernel
theorem dX6_coin_34 : decode cX6_coin 34 = .ok (.iastore, 1) := by decide +kernel
theorem dX6_coin_35 : decode cX6_coin 35 = .ok (.aload_n 0, 1) := by decide +kernel
theorem dX6_coin_36 : decode cX6_coin 36 = .ok (.getfield 17, 3) := by decide +kernel
theorem dX6_coin_39 : decode cX6_coin 39 = .ok (.aload_n 0, 1) := by decide +kernel
theorem dX6_coin_40 : decode cX6_coin 40 = .ok (.getfield 66, 3) := by decide +kernel
theorem dX6_coin_43 : decode cX6_coin 43 = .ok (.iload_n 2, 1) := by decide +kernel
theorem dX6_coin_44 : decode cX6_coin 44 = .ok (.iastore, 1) := by decide +kernel
theorem dX6_coin_45 : decode cX6_coin 45 = .ok (.aload_n 0, 1) := by decide +kernel
theorem dX6_coin_46 : decode cX6_coin 46 = .ok (.aload_n 0, 1) := by decide +kernel
theorem dX6_coin_47 : decode cX6_coin 47 = .ok (.getfield 66, 3) := by decide +kernel
theorem dX6_coin_50 : decode cX6_coin 50 = .ok (.iconst 1, 1) := by decide +kernel
theorem dX6_coin_51 : decode cX6_coin 51 = .ok (.iadd, 1) := by decide +kernel
theorem dX6_coin_52 : decode cX6_coin 52 = .ok (.putfield 66, 3) := by decide +kernel
theorem dX6_coin_55 : decode cX6_coin 55 = .ok (.aload_n 0, 1) := by decide +kernel
theorem dX6_coin_56 : decode cX6_coin 56 = .ok (.getfield 66, 3) := by decide +kernel
theorem dX6_coin_59 : decode cX6_coin 59 = .ok (.iconst 1, 1) := by decide +kernel
theorem dX6_coin_60 : decode cX6_coin 60 = .ok (.isub, 1) := by decide +kernel
theorem dX6_coin_61 : decode cX6_coin 61 = .ok (.ireturn, 1) := by decide +kernel
set_option maxRecDepth 20000 in
set_option maxHeartbeats 4000000 in
theorem c_X6_coin {a : Nat → Nat} {q : Nat → ClassId} {x1 : Int32} {x2 : Int32}  {mtd : Int32} {mnk : Int32} {mva : Nat → Int32} {mno : Nat → Int32} {mro : Nat → Int32} {mtu : Nat → Int32} {mbx : Nat → Int32} {mst : Nat → Int32} {mja : Nat → Int32} {mpr : Nat → Int32} {mcr : Int32} {mow : Int32} {mhd : Int32} {mmo : Int32} {mbk : Nat → Int32} {mca : Nat → Int32} {mfr : Nat → Int32} {mrs : Int32} {mrk : Nat → Int32} {mfe : Nat → Int32} {mus : Nat → Int32} {mgi : Nat → Int32} {maj : Nat → Int32} {K : Int32 → Int32 → Int32 → (Nat → Int32) → (Nat → Int32) → Prop} (h : wp_X6_coin x1 x2 mtd mnk mva mro mcr K) : ctI_4 q yX6_coin cX6_coin 3 1 22 [.ref (a 0), .int x1, .int x2] (mdW a q mtd mnk mva mno mro mtu mbx mst mja mpr mcr mow mhd mmo mbk mca mfr mrs mrk mfe mus mgi maj) (fun (mtd : Int32) (mnk : Int32) (mva : Nat → Int32) (mro : Nat → Int32) => (mdW a q mtd mnk mva mno mro mtu mbx mst mja mpr mcr mow mhd mmo mbk mca mfr mrs mrk mfe mus mgi maj)) K := by
  refine met_I_4 (by decide) (Nat.le_of_ble_eq_true rfl) (fun Γ g hret => ?_)
  unfold wp_X6_coin at h
  show jw Γ 3 0 0 (mdW a q mtd mnk mva mno mro mtu mbx mst mja mpr mcr mow mhd mmo mbk mca mfr mrs mrk mfe mus mgi maj) [(0, .ref (a 0)), (1, .int x1), (2, .int x2)] [] 0
  refine j_aload_n g 0 rfl dX6_coin_0 ?_
  refine j_iconst g (v := 0) (by decide) dX6_coin_1 ?_
  refine j_put g fl_X6_63 fp_X6_0 0 md_0 rfl rfl (Nat.le_of_ble_eq_true rfl) (ws' := (mdW a q (0 : Int32) mnk mva mno mro mtu mbx mst mja mpr mcr mow mhd mmo mbk mca mfr mrs mrk mfe mus mgi maj)) rfl dX6_coin_2 ?_
  refine j_aload_n g 0 rfl dX6_coin_5 ?_
  refine j_iload_n g 1 rfl dX6_coin_6 ?_
  refine j_callVZ_0 g (As := [.int x1]) (st := []) (c_X6_canCome  h) cl_X6_76 0 6 md_0 rfl rfl (Nat.le_of_ble_eq_true rfl) (Nat.le_of_ble_eq_true rfl) (Nat.zero_le _) (Nat.zero_le _) rfl rfl (Nat.le_of_ble_eq_true rfl) dX6_coin_7 (fun r_1  hz_1 h => ?_)
  refine j_if_eq g dX6_coin_10 (tgt := 23) (by decide) (fun c2 => ?_) (fun c2 => ?_)
  · replace h := h.1 c2
    refine j_iconst g (v := -1) (by decide) dX6_coin_23 ?_
    exact hret.go dX6_coin_24 h
  replace h := h.2 c2
  refine j_iload_n g 2 rfl dX6_coin_13 ?_
  refine j_if_lt g dX6_coin_14 (tgt := 23) (by decide) (fun c3 => ?_) (fun c3 => ?_)
  · replace h := h.1 c3
    refine j_iconst g (v := -1) (by decide) dX6_coin_23 ?_
    exact hret.go dX6_coin_24 h
  replace h := h.2 c3
  refine j_iload_n g 2 rfl dX6_coin_17 ?_
  refine j_bipush g (v := 20) (by decide) dX6_coin_18 ?_
  refine j_icmp_le g dX6_coin_20 (tgt := 25) (by decide) (fun c4 => ?_) (fun c4 => ?_)
  rotate_left
  · replace h := h.2 c4
    refine j_iconst g (v := -1) (by decide) dX6_coin_23 ?_
    exact hret.go dX6_coin_24 h
  replace h := h.1 c4
  refine j_aload_n g 0 rfl dX6_coin_25 ?_
  refine j_get g fl_X6_7 0 md_0 rfl dX6_coin_26 ?_
  refine j_aload_n g 0 rfl dX6_coin_29 ?_
  refine j_get g fl_X6_66 0 md_0 rfl dX6_coin_30 ?_
  refine j_iload_n g 1 rfl dX6_coin_33 ?_
  obtain ⟨hv5, h⟩ := h
  refine j_iast g 1 md_1 hv5 (ws' := (mdW a q (0 : Int32) mnk (upd mva mnk.toNatClampNeg x1) mno mro mtu mbx mst mja mpr mcr mow mhd mmo mbk mca mfr mrs mrk mfe mus mgi maj)) rfl dX6_coin_34 ?_
  refine j_aload_n g 0 rfl dX6_coin_35 ?_
  refine j_get g fl_X6_17 0 md_0 rfl dX6_coin_36 ?_
  refine j_aload_n g 0 rfl dX6_coin_39 ?_
  refine j_get g fl_X6_66 0 md_0 rfl dX6_coin_40 ?_
  refine j_iload_n g 2 rfl dX6_coin_43 ?_
  obtain ⟨hv6, h⟩ := h
  refine j_iast g 3 md_3 hv6 (ws' := (mdW a q (0 : Int32) mnk (upd mva mnk.toNatClampNeg x1) mno (upd mro mnk.toNatClampNeg x2) mtu mbx mst mja mpr mcr mow mhd mmo mbk mca mfr mrs mrk mfe mus mgi maj)) rfl dX6_coin_44 ?_
  refine j_aload_n g 0 rfl dX6_coin_45 ?_
  refine j_aload_n g 0 rfl dX6_coin_46 ?_
  refine j_get g fl_X6_66 0 md_0 rfl dX6_coin_47 ?_
  refine j_iconst g (v := 1) (by decide) dX6_coin_50 ?_
  refine j_iadd g dX6_coin_51 ?_
  refine j_put g fl_X6_66 fp_X6_1 0 md_0 rfl rfl (Nat.le_of_ble_eq_true rfl) (ws' := (mdW a q (0 : Int32) (mnk + (1 : Int32)) (upd mva mnk.toNatClampNeg x1) mno (upd mro mnk.toNatClampNeg x2) mtu mbx mst mja mpr mcr mow mhd mmo mbk mca mfr mrs mrk mfe mus mgi maj)) rfl dX6_coin_52 ?_
  refine j_aload_n g 0 rfl dX6_coin_55 ?_
  refine j_get g fl_X6_66 0 md_0 rfl dX6_coin_56 ?_
  refine j_iconst g (v := 1) (by decide) dX6_coin_59 ?_
  refine j_isub g dX6_coin_60 ?_
  exact hret.go dX6_coin_61 h

set_option maxRecDepth 20000 in
def wp_X6_note (x1 : Int32) (mtd : Int32) (mnk : Int32) (mva : Nat → Int32) (mno : Nat → Int32) (mcr : Int32) (K : Int32 → Int32 → Int32 → (Nat → Int32) → (Nat → Int32) → Prop) : Prop :=
  wp_X6_canCome x1 mnk mva mcr (fun (r_1 : Int32)  => ((¬ r_1 = 0 → (vp_in mnk 6 ∧ (vp_in mnk 6 ∧ K ((mnk + (1 : Int32)) - (1 : Int32)) (0 : Int32) (mnk + (1 : Int32)) (upd mva mnk.toNatClampNeg x1) (upd mno mnk.toNatClampNeg (1 : Int32))))) ∧ (r_1 = 0 → K (-1 : Int32) (0 : Int32) mnk mva mno)))
theorem dX6_note_0 : decode cX6_note 0 = .ok (.aload_n 0, 1) := by decide +kernel
theorem dX6_note_1 : decode cX6_note 1 = .ok (.iconst 0, 1) := by decide +kernel
theorem dX6_note_2 : decode cX6_note 2 = .ok (.putfield 63, 3) := by decide +kernel
theorem dX6_note_5 : decode cX6_note 5 = .ok (.aload_n 0, 1) := by decide +kernel
theorem dX6_note_6 : decode cX6_note 6 = .ok (.iload_n 1, 1) := by decide +kernel
theorem dX6_note_7 : decode cX6_note 7 = .ok (.invokevirtual 76, 3) := by decide +kernel
theorem dX6_note_10 : decode cX6_note 10 = .ok (.ifCond .ne 5, 3) := by decide +kernel
theorem dX6_note_13 : decode cX6_note 13 = .ok (.iconst (-1), 1) := by decide +kernel
theorem dX6_note_14 : decode cX6_note 14 = .ok (.ireturn, 1) := by decide +kernel
theorem dX6_note_15 : decode cX6_note 15 = .ok (.aload_n 0, 1) := by decide +kernel
theorem dX6_note_16 : decode cX6_note 16 = .ok (.getfield 7, 3) := by decide +kernel
theorem dX6_note_19 : decode cX6_note 19 = .ok (.aload_n 0, 1) := by decide +kernel
theorem dX6_note_20 : decode cX6_note 20 = .ok (.getfield 66, 3) := by decide +kernel
theorem dX6_note_23 : decode cX6_note 23 = .ok (.iload_n 1, 1) := by decide +kernel
theorem dX6_note_24 : decode cX6_note 24 = .ok (.iastore, 1) := by decide +kernel
theorem dX6_note_25 : decode cX6_note 25 = .ok (.aload_n 0, 1) := by decide +kernel
theorem dX6_note_26 : decode cX6_note 26 = .ok (.getfield 13, 3) := by decide +kernel
theorem dX6_note_29 : decode cX6_note 29 = .ok (.aload_n 0, 1) := by decide +kernel
theorem dX6_note_30 : decode cX6_note 30 = .ok (.getfield 66, 3) := by decide +kernel
theorem dX6_note_33 : decode cX6_note 33 = .ok (.iconst 1, 1) := by decide +kernel
theorem dX6_note_34 : decode cX6_note 34 = .ok (.bastore, 1) := by decide +kernel
theorem dX6_note_35 : decode cX6_note 35 = .ok (.aload_n 0, 1) := by decide +kernel
theorem dX6_note_36 : decode cX6_note 36 = .ok (.aload_n 0, 1) := by decide +kernel
theorem dX6_note_37 : decode cX6_note 37 = .ok (.getfield 66, 3) := by decide +kernel
theorem dX6_note_40 : decode cX6_note 40 = .ok (.iconst 1, 1) := by decide +kernel
theorem dX6_note_41 : decode cX6_note 41 = .ok (.iadd, 1) := by decide +kernel
theorem dX6_note_42 : decode cX6_note 42 = .ok (.putfield 66, 3) := by decide +kernel
theorem dX6_note_45 : decode cX6_note 45 = .ok (.aload_n 0, 1) := by decide +kernel
theorem dX6_note_46 : decode cX6_note 46 = .ok (.getfield 66, 3) := by decide +kernel
theorem dX6_note_49 : decode cX6_note 49 = .ok (.iconst 1, 1) := by decide +kernel
theorem dX6_note_50 : decode cX6_note 50 = .ok (.isub, 1) := by decide +kernel
theorem dX6_note_51 : decode cX6_note 51 = .ok (.ireturn, 1) := by decide +kernel
set_option maxRecDepth 20000 in
set_option maxHeartbeats 4000000 in
theorem c_X6_note {a : Nat → Nat} {q : Nat → ClassId} {x1 : Int32}  {mtd : Int32} {mnk : Int32} {mva : Nat → Int32} {mno : Nat → Int32} {mro : Nat → Int32} {mtu : Nat → Int32} {mbx : Nat → Int32} {mst : Nat → Int32} {mja : Nat → Int32} {mpr : Nat → Int32} {mcr : Int32} {mow : Int32} {mhd : Int32} {mmo : Int32} {mbk : Nat → Int32} {mca : Nat → Int32} {mfr : Nat → Int32} {mrs : Int32} {mrk : Nat → Int32} {mfe : Nat → Int32} {mus : Nat → Int32} {mgi : Nat → Int32} {maj : Nat → Int32} {K : Int32 → Int32 → Int32 → (Nat → Int32) → (Nat → Int32) → Prop} (h : wp_X6_note x1 mtd mnk mva mno mcr K) : ctI_4 q yX6_note cX6_note 2 1 22 [.ref (a 0), .int x1] (mdW a q mtd mnk mva mno mro mtu mbx mst mja mpr mcr mow mhd mmo mbk mca mfr mrs mrk mfe mus mgi maj) (fun (mtd : Int32) (mnk : Int32) (mva : Nat → Int32) (mno : Nat → Int32) => (mdW a q mtd mnk mva mno mro mtu mbx mst mja mpr mcr mow mhd mmo mbk mca mfr mrs mrk mfe mus mgi maj)) K := by
  refine met_I_4 (by decide) (Nat.le_of_ble_eq_true rfl) (fun Γ g hret => ?_)
  unfold wp_X6_note at h
  show jw Γ 2 0 0 (mdW a q mtd mnk mva mno mro mtu mbx mst mja mpr mcr mow mhd mmo mbk mca mfr mrs mrk mfe mus mgi maj) [(0, .ref (a 0)), (1, .int x1)] [] 0
  refine j_aload_n g 0 rfl dX6_note_0 ?_
  refine j_iconst g (v := 0) (by decide) dX6_note_1 ?_
  refine j_put g fl_X6_63 fp_X6_0 0 md_0 rfl rfl (Nat.le_of_ble_eq_true rfl) (ws' := (mdW a q (0 : Int32) mnk mva mno mro mtu mbx mst mja mpr mcr mow mhd mmo mbk mca mfr mrs mrk mfe mus mgi maj)) rfl dX6_note_2 ?_
  refine j_aload_n g 0 rfl dX6_note_5 ?_
  refine j_iload_n g 1 rfl dX6_note_6 ?_
  refine j_callVZ_0 g (As := [.int x1]) (st := []) (c_X6_canCome  h) cl_X6_76 0 6 md_0 rfl rfl (Nat.le_of_ble_eq_true rfl) (Nat.le_of_ble_eq_true rfl) (Nat.zero_le _) (Nat.zero_le _) rfl rfl (Nat.le_of_ble_eq_true rfl) dX6_note_7 (fun r_1  hz_1 h => ?_)
  refine j_if_ne g dX6_note_10 (tgt := 15) (by decide) (fun c2 => ?_) (fun c2 => ?_)
  rotate_left
  · replace h := h.2 c2
    refine j_iconst g (v := -1) (by decide) dX6_note_13 ?_
    exact hret.go dX6_note_14 h
  replace h := h.1 c2
  refine j_aload_n g 0 rfl dX6_note_15 ?_
  refine j_get g fl_X6_7 0 md_0 rfl dX6_note_16 ?_
  refine j_aload_n g 0 rfl dX6_note_19 ?_
  refine j_get g fl_X6_66 0 md_0 rfl dX6_note_20 ?_
  refine j_iload_n g 1 rfl dX6_note_23 ?_
  obtain ⟨hv3, h⟩ := h
  refine j_iast g 1 md_1 hv3 (ws' := (mdW a q (0 : Int32) mnk (upd mva mnk.toNatClampNeg x1) mno mro mtu mbx mst mja mpr mcr mow mhd mmo mbk mca mfr mrs mrk mfe mus mgi maj)) rfl dX6_note_24 ?_
  refine j_aload_n g 0 rfl dX6_note_25 ?_
  refine j_get g fl_X6_13 0 md_0 rfl dX6_note_26 ?_
  refine j_aload_n g 0 rfl dX6_note_29 ?_
  refine j_get g fl_X6_66 0 md_0 rfl dX6_note_30 ?_
  refine j_iconst g (v := 1) (by decide) dX6_note_33 ?_
  obtain ⟨hv4, h⟩ := h
  refine j_zast g 2 md_2 hv4 (nz_v (Or.inr rfl)) (ws' := (mdW a q (0 : Int32) mnk (upd mva mnk.toNatClampNeg x1) (upd mno mnk.toNatClampNeg (1 : Int32)) mro mtu mbx mst mja mpr mcr mow mhd mmo mbk mca mfr mrs mrk mfe mus mgi maj)) rfl dX6_note_34 ?_
  refine j_aload_n g 0 rfl dX6_note_35 ?_
  refine j_aload_n g 0 rfl dX6_note_36 ?_
  refine j_get g fl_X6_66 0 md_0 rfl dX6_note_37 ?_
  refine j_iconst g (v := 1) (by decide) dX6_note_40 ?_
  refine j_iadd g dX6_note_41 ?_
  refine j_put g fl_X6_66 fp_X6_1 0 md_0 rfl rfl (Nat.le_of_ble_eq_true rfl) (ws' := (mdW a q (0 : Int32) (mnk + (1 : Int32)) (upd mva mnk.toNatClampNeg x1) (upd mno mnk.toNatClampNeg (1 : Int32)) mro mtu mbx mst mja mpr mcr mow mhd mmo mbk mca mfr mrs mrk mfe mus mgi maj)) rfl dX6_note_42 ?_
  refine j_aload_n g 0 rfl dX6_note_45 ?_
  refine j_get g fl_X6_66 0 md_0 rfl dX6_note_46 ?_
  refine j_iconst g (v := 1) (by decide) dX6_note_49 ?_
  refine j_isub g dX6_note_50 ?_
  exact hret.go dX6_note_51 h

set_option maxRecDepth 20000 in
def wp_X6_price (x1 : Int32) (x2 : Int32) (mtd : Int32) (mpr : Nat → Int32) (mcr : Int32) (K : Int32 → Int32 → (Nat → Int32) → Prop) : Prop :=
  ((x1 < 0 → K (0 : Int32) (0 : Int32) mpr) ∧ (¬ x1 < 0 → (((5 : Int32) < x1 → K (0 : Int32) (0 : Int32) mpr) ∧ (¬ (5 : Int32) < x1 → ((x2 < 0 → K (0 : Int32) (0 : Int32) mpr) ∧ (¬ x2 < 0 → (((300 : Int32) < x2 → K (0 : Int32) (0 : Int32) mpr) ∧ (¬ (300 : Int32) < x2 → ((mcr ≤ 0 → (vp_in x1 6 ∧ K (1 : Int32) (0 : Int32) (upd mpr x1.toNatClampNeg x2))) ∧ (¬ mcr ≤ 0 → K (0 : Int32) (0 : Int32) mpr))))))))))
theorem dX6_price_0 : decode cX6_price 0 = .ok (.aload_n 0, 1) := by decide +kernel
theorem dX6_price_1 : decode cX6_price 1 = .ok (.iconst 0, 1) := by decide +kernel
theorem dX6_price_2 : decode cX6_price 2 = .ok (.putfield 63, 3) := by decide +kernel
theorem dX6_price_5 : decode cX6_price 5 = .ok (.iload_n 1, 1) := by decide +kernel
theorem dX6_price_6 : decode cX6_price 6 = .ok (.ifCond .lt 26, 3) := by decide +kernel
theorem dX6_price_9 : decode cX6_price 9 = .ok (.iload_n 1, 1) := by decide +kernel
theorem dX6_price_10 : decode cX6_price 10 = .ok (.iconst 5, 1) := by decide +kernel
theorem dX6_price_11 : decode cX6_price 11 = .ok (.if_icmp .gt 21, 3) := by decide +kernel
theorem dX6_price_14 : decode cX6_price 14 = .ok (.iload_n 2, 1) := by decide +kernel
theorem dX6_price_15 : decode cX6_price 15 = .ok (.ifCond .lt 17, 3) := by decide +kernel
theorem dX6_price_18 : decode cX6_price 18 = .ok (.iload_n 2, 1) := by decide +kernel
theorem dX6_price_19 : decode cX6_price 19 = .ok (.sipush 300, 3) := by decide +kernel
theorem dX6_price_22 : decode cX6_price 22 = .ok (.if_icmp .gt 10, 3) := by decide +kernel
theorem dX6_price_25 : decode cX6_price 25 = .ok (.aload_n 0, 1) := by decide +kernel
theorem dX6_price_26 : decode cX6_price 26 = .ok (.getfield 73, 3) := by decide +kernel
theorem dX6_price_29 : decode cX6_price 29 = .ok (.ifCond .le 5, 3) := by decide +kernel
theorem dX6_price_32 : decode cX6_price 32 = .ok (.iconst 0, 1) := by decide +kernel
theorem dX6_price_33 : decode cX6_price 33 = .ok (.ireturn, 1) := by decide +kernel
theorem dX6_price_34 : decode cX6_price 34 = .ok (.aload_n 0, 1) := by decide +kernel
theorem dX6_price_35 : decode cX6_price 35 = .ok (.getfield 32, 3) := by decide +kernel
theorem dX6_price_38 : decode cX6_price 38 = .ok (.iload_n 1, 1) := by decide +kernel
theorem dX6_price_39 : decode cX6_price 39 = .ok (.iload_n 2, 1) := by decide +kernel
theorem dX6_price_40 : decode cX6_price 40 = .ok (.iastore, 1) := by decide +kernel
theorem dX6_price_41 : decode cX6_price 41 = .ok (.iconst 1, 1) := by decide +kernel
theorem dX6_price_42 : decode cX6_price 42 = .ok (.ireturn, 1) := by decide +kernel
set_option maxRecDepth 20000 in
set_option maxHeartbeats 4000000 in
theorem c_X6_price {a : Nat → Nat} {q : Nat → ClassId} {x1 : Int32} {x2 : Int32}  {mtd : Int32} {mnk : Int32} {mva : Nat → Int32} {mno : Nat → Int32} {mro : Nat → Int32} {mtu : Nat → Int32} {mbx : Nat → Int32} {mst : Nat → Int32} {mja : Nat → Int32} {mpr : Nat → Int32} {mcr : Int32} {mow : Int32} {mhd : Int32} {mmo : Int32} {mbk : Nat → Int32} {mca : Nat → Int32} {mfr : Nat → Int32} {mrs : Int32} {mrk : Nat → Int32} {mfe : Nat → Int32} {mus : Nat → Int32} {mgi : Nat → Int32} {maj : Nat → Int32} {K : Int32 → Int32 → (Nat → Int32) → Prop} (h : wp_X6_price x1 x2 mtd mpr mcr K) : ctZ_2 q yX6_price cX6_price 3 0 0 [.ref (a 0), .int x1, .int x2] (mdW a q mtd mnk mva mno mro mtu mbx mst mja mpr mcr mow mhd mmo mbk mca mfr mrs mrk mfe mus mgi maj) (fun (mtd : Int32) (mpr : Nat → Int32) => (mdW a q mtd mnk mva mno mro mtu mbx mst mja mpr mcr mow mhd mmo mbk mca mfr mrs mrk mfe mus mgi maj)) K := by
  refine met_Z_2 (by decide) (Nat.le_of_ble_eq_true rfl) (fun Γ g hret => ?_)
  unfold wp_X6_price at h
  show jw Γ 3 0 0 (mdW a q mtd mnk mva mno mro mtu mbx mst mja mpr mcr mow mhd mmo mbk mca mfr mrs mrk mfe mus mgi maj) [(0, .ref (a 0)), (1, .int x1), (2, .int x2)] [] 0
  refine j_aload_n g 0 rfl dX6_price_0 ?_
  refine j_iconst g (v := 0) (by decide) dX6_price_1 ?_
  refine j_put g fl_X6_63 fp_X6_0 0 md_0 rfl rfl (Nat.le_of_ble_eq_true rfl) (ws' := (mdW a q (0 : Int32) mnk mva mno mro mtu mbx mst mja mpr mcr mow mhd mmo mbk mca mfr mrs mrk mfe mus mgi maj)) rfl dX6_price_2 ?_
  refine j_iload_n g 1 rfl dX6_price_5 ?_
  refine j_if_lt g dX6_price_6 (tgt := 32) (by decide) (fun c1 => ?_) (fun c1 => ?_)
  · replace h := h.1 c1
    refine j_iconst g (v := 0) (by decide) dX6_price_32 ?_
    exact hret.go dX6_price_33 (Or.inl rfl) h
  replace h := h.2 c1
  refine j_iload_n g 1 rfl dX6_price_9 ?_
  refine j_iconst g (v := 5) (by decide) dX6_price_10 ?_
  refine j_icmp_gt g dX6_price_11 (tgt := 32) (by decide) (fun c2 => ?_) (fun c2 => ?_)
  · replace h := h.1 c2
    refine j_iconst g (v := 0) (by decide) dX6_price_32 ?_
    exact hret.go dX6_price_33 (Or.inl rfl) h
  replace h := h.2 c2
  refine j_iload_n g 2 rfl dX6_price_14 ?_
  refine j_if_lt g dX6_price_15 (tgt := 32) (by decide) (fun c3 => ?_) (fun c3 => ?_)
  · replace h := h.1 c3
    refine j_iconst g (v := 0) (by decide) dX6_price_32 ?_
    exact hret.go dX6_price_33 (Or.inl rfl) h
  replace h := h.2 c3
  refine j_iload_n g 2 rfl dX6_price_18 ?_
  refine j_sipush g (v := 300) (by decide) dX6_price_19 ?_
  refine j_icmp_gt g dX6_price_22 (tgt := 32) (by decide) (fun c4 => ?_) (fun c4 => ?_)
  · replace h := h.1 c4
    refine j_iconst g (v := 0) (by decide) dX6_price_32 ?_
    exact hret.go dX6_price_33 (Or.inl rfl) h
  replace h := h.2 c4
  refine j_aload_n g 0 rfl dX6_price_25 ?_
  refine j_get g fl_X6_73 0 md_0 rfl dX6_price_26 ?_
  refine j_if_le g dX6_price_29 (tgt := 34) (by decide) (fun c5 => ?_) (fun c5 => ?_)
  rotate_left
  · replace h := h.2 c5
    refine j_iconst g (v := 0) (by decide) dX6_price_32 ?_
    exact hret.go dX6_price_33 (Or.inl rfl) h
  replace h := h.1 c5
  refine j_aload_n g 0 rfl dX6_price_34 ?_
  refine j_get g fl_X6_32 0 md_0 rfl dX6_price_35 ?_
  refine j_iload_n g 1 rfl dX6_price_38 ?_
  refine j_iload_n g 2 rfl dX6_price_39 ?_
  obtain ⟨hv6, h⟩ := h
  refine j_iast g 8 md_8 hv6 (ws' := (mdW a q (0 : Int32) mnk mva mno mro mtu mbx mst mja (upd mpr x1.toNatClampNeg x2) mcr mow mhd mmo mbk mca mfr mrs mrk mfe mus mgi maj)) rfl dX6_price_40 ?_
  refine j_iconst g (v := 1) (by decide) dX6_price_41 ?_
  exact hret.go dX6_price_42 (Or.inr rfl) h

set_option maxRecDepth 20000 in
def wp_X6_mode (x1 : Int32) (mtd : Int32) (mmo : Int32) (K : Int32 → Int32 → Int32 → Prop) : Prop :=
  ((x1 < 0 → K (0 : Int32) (0 : Int32) mmo) ∧ (¬ x1 < 0 → ((x1 ≤ (1 : Int32) → K (1 : Int32) (0 : Int32) x1) ∧ (¬ x1 ≤ (1 : Int32) → K (0 : Int32) (0 : Int32) mmo))))
theorem dX6_mode_0 : decode cX6_mode 0 = .ok (.aload_n 0, 1) := by decide +kernel
theorem dX6_mode_1 : decode cX6_mode 1 = .ok (.iconst 0, 1) := by decide +kernel
theorem dX6_mode_2 : decode cX6_mode 2 = .ok (.putfield 63, 3) := by decide +kernel
theorem dX6_mode_5 : decode cX6_mode 5 = .ok (.iload_n 1, 1) := by decide +kernel
theorem dX6_mode_6 : decode cX6_mode 6 = .ok (.ifCond .lt 8, 3) := by decide +kernel
theorem dX6_mode_9 : decode cX6_mode 9 = .ok (.iload_n 1, 1) := by decide +kernel
theorem dX6_mode_10 : decode cX6_mode 10 = .ok (.iconst 1, 1) := by decide +kernel
theorem dX6_mode_11 : decode cX6_mode 11 = .ok (.if_icmp .le 5, 3) := by decide +kernel
theorem dX6_mode_14 : decode cX6_mode 14 = .ok (.iconst 0, 1) := by decide +kernel
theorem dX6_mode_15 : decode cX6_mode 15 = .ok (.ireturn, 1) := by decide +kernel
theorem dX6_mode_16 : decode cX6_mode 16 = .ok (.aload_n 0, 1) := by decide +kernel
theorem dX6_mode_17 : decode cX6_mode 17 = .ok (.iload_n 1, 1) := by decide +kernel
theorem dX6_mode_18 : decode cX6_mode 18 = .ok (.putfield 79, 3) := by decide +kernel
theorem dX6_mode_21 : decode cX6_mode 21 = .ok (.iconst 1, 1) := by decide +kernel
theorem dX6_mode_22 : decode cX6_mode 22 = .ok (.ireturn, 1) := by decide +kernel
set_option maxRecDepth 20000 in
set_option maxHeartbeats 4000000 in
theorem c_X6_mode {a : Nat → Nat} {q : Nat → ClassId} {x1 : Int32}  {mtd : Int32} {mnk : Int32} {mva : Nat → Int32} {mno : Nat → Int32} {mro : Nat → Int32} {mtu : Nat → Int32} {mbx : Nat → Int32} {mst : Nat → Int32} {mja : Nat → Int32} {mpr : Nat → Int32} {mcr : Int32} {mow : Int32} {mhd : Int32} {mmo : Int32} {mbk : Nat → Int32} {mca : Nat → Int32} {mfr : Nat → Int32} {mrs : Int32} {mrk : Nat → Int32} {mfe : Nat → Int32} {mus : Nat → Int32} {mgi : Nat → Int32} {maj : Nat → Int32} {K : Int32 → Int32 → Int32 → Prop} (h : wp_X6_mode x1 mtd mmo K) : ctZ_2 q yX6_mode cX6_mode 2 0 0 [.ref (a 0), .int x1] (mdW a q mtd mnk mva mno mro mtu mbx mst mja mpr mcr mow mhd mmo mbk mca mfr mrs mrk mfe mus mgi maj) (fun (mtd : Int32) (mmo : Int32) => (mdW a q mtd mnk mva mno mro mtu mbx mst mja mpr mcr mow mhd mmo mbk mca mfr mrs mrk mfe mus mgi maj)) K := by
  refine met_Z_2 (by decide) (Nat.le_of_ble_eq_true rfl) (fun Γ g hret => ?_)
  unfold wp_X6_mode at h
  show jw Γ 2 0 0 (mdW a q mtd mnk mva mno mro mtu mbx mst mja mpr mcr mow mhd mmo mbk mca mfr mrs mrk mfe mus mgi maj) [(0, .ref (a 0)), (1, .int x1)] [] 0
  refine j_aload_n g 0 rfl dX6_mode_0 ?_
  refine j_iconst g (v := 0) (by decide) dX6_mode_1 ?_
  refine j_put g fl_X6_63 fp_X6_0 0 md_0 rfl rfl (Nat.le_of_ble_eq_true rfl) (ws' := (mdW a q (0 : Int32) mnk mva mno mro mtu mbx mst mja mpr mcr mow mhd mmo mbk mca mfr mrs mrk mfe mus mgi maj)) rfl dX6_mode_2 ?_
  refine j_iload_n g 1 rfl dX6_mode_5 ?_
  refine j_if_lt g dX6_mode_6 (tgt := 14) (by decide) (fun c1 => ?_) (fun c1 => ?_)
  · replace h := h.1 c1
    refine j_iconst g (v := 0) (by decide) dX6_mode_14 ?_
    exact hret.go dX6_mode_15 (Or.inl rfl) h
  replace h := h.2 c1
  refine j_iload_n g 1 rfl dX6_mode_9 ?_
  refine j_iconst g (v := 1) (by decide) dX6_mode_10 ?_
  refine j_icmp_le g dX6_mode_11 (tgt := 16) (by decide) (fun c2 => ?_) (fun c2 => ?_)
  rotate_left
  · replace h := h.2 c2
    refine j_iconst g (v := 0) (by decide) dX6_mode_14 ?_
    exact hret.go dX6_mode_15 (Or.inl rfl) h
  replace h := h.1 c2
  refine j_aload_n g 0 rfl dX6_mode_16 ?_
  refine j_iload_n g 1 rfl dX6_mode_17 ?_
  refine j_put g fl_X6_79 fp_X6_13 0 md_0 rfl rfl (Nat.le_of_ble_eq_true rfl) (ws' := (mdW a q (0 : Int32) mnk mva mno mro mtu mbx mst mja mpr mcr mow mhd x1 mbk mca mfr mrs mrk mfe mus mgi maj)) rfl dX6_mode_18 ?_
  refine j_iconst g (v := 1) (by decide) dX6_mode_21 ?_
  exact hret.go dX6_mode_22 (Or.inr rfl) h

set_option maxRecDepth 20000 in
def wp_X6_fill (x1 : Int32) (x2 : Int32) (mtd : Int32) (mnk : Int32) (mva : Nat → Int32) (mno : Nat → Int32) (mro : Nat → Int32) (mtu : Nat → Int32) (mbk : Nat → Int32) (K : Int32 → Int32 → (Nat → Int32) → (Nat → Int32) → Prop) : Prop :=
  wp_X6_isCoin x1 mnk mno (fun (r_1 : Int32)  => ((r_1 = 0 → K (0 : Int32) (0 : Int32) mtu mbk) ∧ (¬ r_1 = 0 → ((x2 < 0 → K (0 : Int32) (0 : Int32) mtu mbk) ∧ (¬ x2 < 0 → (vp_in x1 6 ∧ (vp_in x1 6 ∧ ((x2 ≤ (mro x1.toNatClampNeg) - (mtu x1.toNatClampNeg) → (vp_in x1 6 ∧ (vp_in x1 6 ∧ (vp_in (3 : Int32) 6 ∧ (vp_in x1 6 ∧ (vp_in (3 : Int32) 6 ∧ K (1 : Int32) (0 : Int32) (upd mtu x1.toNatClampNeg ((mtu x1.toNatClampNeg) + x2)) (upd mbk (3 : Int32).toNatClampNeg ((mbk (3 : Int32).toNatClampNeg) + (x2 * (mva x1.toNatClampNeg)))))))))) ∧ (¬ x2 ≤ (mro x1.toNatClampNeg) - (mtu x1.toNatClampNeg) → K (0 : Int32) (0 : Int32) mtu mbk)))))))))
theorem dX6_fill_0 : decode cX6_fill 0 = .ok (.aload_n 0, 1) := by decide +kernel
theorem dX6_fill_1 : decode cX6_fill 1 = .ok (.iconst 0, 1) := by decide +kernel
theorem dX6_fill_2 : decode cX6_fill 2 = .ok (.putfield 63, 3) := by decide +kernel
theorem dX6_fill_5 : decode cX6_fill 5 = .ok (.aload_n 0, 1) := by decide +kernel
theorem dX6_fill_6 : decode cX6_fill 6 = .ok (.iload_n 1, 1) := by decide +kernel
theorem dX6_fill_7 : decode cX6_fill 7 = .ok (.invokevirtual 82, 3) := by decide +kernel
theorem dX6_fill_10 : decode cX6_fill 10 = .ok (.ifCond .eq 24, 3) := by decide +kernel
theorem dX6_fill_13 : decode cX6_fill 13 = .ok (.iload_n 2, 1) := by decide +kernel
theorem dX6_fill_14 : decode cX6_fill 14 = .ok (.ifCond .lt 20, 3) := by decide +kernel
theorem dX6_fill_17 : decode cX6_fill 17 = .ok (.iload_n 2, 1) := by decide +kernel
theorem dX6_fill_18 : decode cX6_fill 18 = .ok (.aload_n 0, 1) := by decide +kernel
theorem dX6_fill_19 : decode cX6_fill 19 = .ok (.getfield 17, 3) := by decide +kernel
theorem dX6_fill_22 : decode cX6_fill 22 = .ok (.iload_n 1, 1) := by decide +kernel
theorem dX6_fill_23 : decode cX6_fill 23 = .ok (.iaload, 1) := by decide +kernel
theorem dX6_fill_24 : decode cX6_fill 24 = .ok (.aload_n 0, 1) := by decide +kernel
theorem dX6_fill_25 : decode cX6_fill 25 = .ok (.getfield 20, 3) := by decide +kernel
theorem dX6_fill_28 : decode cX6_fill 28 = .ok (.iload_n 1, 1) := by decide +kernel
theorem dX6_fill_29 : decode cX6_fill 29 = .ok (.iaload, 1) := by decide +kernel
theorem dX6_fill_30 : decode cX6_fill 30 = .ok (.isub, 1) := by decide +kernel
theorem dX6_fill_31 : decode cX6_fill 31 = .ok (.if_icmp .le 5, 3) := by decide +kernel
theorem dX6_fill_34 : decode cX6_fill 34 = .ok (.iconst 0, 1) := by decide +kernel
theorem dX6_fill_35 : decode cX6_fill 35 = .ok (.ireturn, 1) := by decide +kernel
theorem dX6_fill_36 : decode cX6_fill 36 = .ok (.aload_n 0, 1) := by decide +kernel
theorem dX6_fill_37 : decode cX6_fill 37 = .ok (.getfield 20, 3) := by decide +kernel
theorem dX6_fill_40 : decode cX6_fill 40 = .ok (.iload_n 1, 1) := by decide +kernel
theorem dX6_fill_41 : decode cX6_fill 41 = .ok (.aload_n 0, 1) := by decide +kernel
theorem dX6_fill_42 : decode cX6_fill 42 = .ok (.getfield 20, 3) := by decide +kernel
theorem dX6_fill_45 : decode cX6_fill 45 = .ok (.iload_n 1, 1) := by decide +kernel
theorem dX6_fill_46 : decode cX6_fill 46 = .ok (.iaload, 1) := by decide +kernel
theorem dX6_fill_47 : decode cX6_fill 47 = .ok (.iload_n 2, 1) := by decide +kernel
theorem dX6_fill_48 : decode cX6_fill 48 = .ok (.iadd, 1) := by decide +kernel
theorem dX6_fill_49 : decode cX6_fill 49 = .ok (.iastore, 1) := by decide +kernel
theorem dX6_fill_50 : decode cX6_fill 50 = .ok (.aload_n 0, 1) := by decide +kernel
theorem dX6_fill_51 : decode cX6_fill 51 = .ok (.getfield 39, 3) := by decide +kernel
theorem dX6_fill_54 : decode cX6_fill 54 = .ok (.iconst 3, 1) := by decide +kernel
theorem dX6_fill_55 : decode cX6_fill 55 = .ok (.aload_n 0, 1) := by decide +kernel
theorem dX6_fill_56 : decode cX6_fill 56 = .ok (.getfield 39, 3) := by decide +kernel
theorem dX6_fill_59 : decode cX6_fill 59 = .ok (.iconst 3, 1) := by decide +kernel
theorem dX6_fill_60 : decode cX6_fill 60 = .ok (.iaload, 1) := by decide +kernel
theorem dX6_fill_61 : decode cX6_fill 61 = .ok (.iload_n 2, 1) := by decide +kernel
theorem dX6_fill_62 : decode cX6_fill 62 = .ok (.aload_n 0, 1) := by decide +kernel
theorem dX6_fill_63 : decode cX6_fill 63 = .ok (.getfield 7, 3) := by decide +kernel
theorem dX6_fill_66 : decode cX6_fill 66 = .ok (.iload_n 1, 1) := by decide +kernel
theorem dX6_fill_67 : decode cX6_fill 67 = .ok (.iaload, 1) := by decide +kernel
theorem dX6_fill_68 : decode cX6_fill 68 = .ok (.imul, 1) := by decide +kernel
theorem dX6_fill_69 : decode cX6_fill 69 = .ok (.iadd, 1) := by decide +kernel
theorem dX6_fill_70 : decode cX6_fill 70 = .ok (.iastore, 1) := by decide +kernel
theorem dX6_fill_71 : decode cX6_fill 71 = .ok (.iconst 1, 1) := by decide +kernel
theorem dX6_fill_72 : decode cX6_fill 72 = .ok (.ireturn, 1) := by decide +kernel
set_option maxRecDepth 20000 in
set_option maxHeartbeats 4000000 in
theorem c_X6_fill {a : Nat → Nat} {q : Nat → ClassId} {x1 : Int32} {x2 : Int32}  {mtd : Int32} {mnk : Int32} {mva : Nat → Int32} {mno : Nat → Int32} {mro : Nat → Int32} {mtu : Nat → Int32} {mbx : Nat → Int32} {mst : Nat → Int32} {mja : Nat → Int32} {mpr : Nat → Int32} {mcr : Int32} {mow : Int32} {mhd : Int32} {mmo : Int32} {mbk : Nat → Int32} {mca : Nat → Int32} {mfr : Nat → Int32} {mrs : Int32} {mrk : Nat → Int32} {mfe : Nat → Int32} {mus : Nat → Int32} {mgi : Nat → Int32} {maj : Nat → Int32} {K : Int32 → Int32 → (Nat → Int32) → (Nat → Int32) → Prop} (h : wp_X6_fill x1 x2 mtd mnk mva mno mro mtu mbk K) : ctZ_3 q yX6_fill cX6_fill 3 2 42 [.ref (a 0), .int x1, .int x2] (mdW a q mtd mnk mva mno mro mtu mbx mst mja mpr mcr mow mhd mmo mbk mca mfr mrs mrk mfe mus mgi maj) (fun (mtd : Int32) (mtu : Nat → Int32) (mbk : Nat → Int32) => (mdW a q mtd mnk mva mno mro mtu mbx mst mja mpr mcr mow mhd mmo mbk mca mfr mrs mrk mfe mus mgi maj)) K := by
  refine met_Z_3 (by decide) (Nat.le_of_ble_eq_true rfl) (fun Γ g hret => ?_)
  unfold wp_X6_fill at h
  show jw Γ 3 0 0 (mdW a q mtd mnk mva mno mro mtu mbx mst mja mpr mcr mow mhd mmo mbk mca mfr mrs mrk mfe mus mgi maj) [(0, .ref (a 0)), (1, .int x1), (2, .int x2)] [] 0
  refine j_aload_n g 0 rfl dX6_fill_0 ?_
  refine j_iconst g (v := 0) (by decide) dX6_fill_1 ?_
  refine j_put g fl_X6_63 fp_X6_0 0 md_0 rfl rfl (Nat.le_of_ble_eq_true rfl) (ws' := (mdW a q (0 : Int32) mnk mva mno mro mtu mbx mst mja mpr mcr mow mhd mmo mbk mca mfr mrs mrk mfe mus mgi maj)) rfl dX6_fill_2 ?_
  refine j_aload_n g 0 rfl dX6_fill_5 ?_
  refine j_iload_n g 1 rfl dX6_fill_6 ?_
  refine j_callVZ_0 g (As := [.int x1]) (st := []) (c_X6_isCoin  h) cl_X6_82 0 6 md_0 rfl rfl (Nat.le_of_ble_eq_true rfl) (Nat.le_of_ble_eq_true rfl) (Nat.zero_le _) (Nat.zero_le _) rfl rfl (Nat.le_of_ble_eq_true rfl) dX6_fill_7 (fun r_1  hz_1 h => ?_)
  refine j_if_eq g dX6_fill_10 (tgt := 34) (by decide) (fun c2 => ?_) (fun c2 => ?_)
  · replace h := h.1 c2
    refine j_iconst g (v := 0) (by decide) dX6_fill_34 ?_
    exact hret.go dX6_fill_35 (Or.inl rfl) h
  replace h := h.2 c2
  refine j_iload_n g 2 rfl dX6_fill_13 ?_
  refine j_if_lt g dX6_fill_14 (tgt := 34) (by decide) (fun c3 => ?_) (fun c3 => ?_)
  · replace h := h.1 c3
    refine j_iconst g (v := 0) (by decide) dX6_fill_34 ?_
    exact hret.go dX6_fill_35 (Or.inl rfl) h
  replace h := h.2 c3
  refine j_iload_n g 2 rfl dX6_fill_17 ?_
  refine j_aload_n g 0 rfl dX6_fill_18 ?_
  refine j_get g fl_X6_17 0 md_0 rfl dX6_fill_19 ?_
  refine j_iload_n g 1 rfl dX6_fill_22 ?_
  obtain ⟨hv4, h⟩ := h
  refine j_iald g 3 md_3 hv4 dX6_fill_23 ?_
  refine j_aload_n g 0 rfl dX6_fill_24 ?_
  refine j_get g fl_X6_20 0 md_0 rfl dX6_fill_25 ?_
  refine j_iload_n g 1 rfl dX6_fill_28 ?_
  obtain ⟨hv5, h⟩ := h
  refine j_iald g 4 md_4 hv5 dX6_fill_29 ?_
  refine j_isub g dX6_fill_30 ?_
  refine j_icmp_le g dX6_fill_31 (tgt := 36) (by decide) (fun c6 => ?_) (fun c6 => ?_)
  rotate_left
  · replace h := h.2 c6
    refine j_iconst g (v := 0) (by decide) dX6_fill_34 ?_
    exact hret.go dX6_fill_35 (Or.inl rfl) h
  replace h := h.1 c6
  refine j_aload_n g 0 rfl dX6_fill_36 ?_
  refine j_get g fl_X6_20 0 md_0 rfl dX6_fill_37 ?_
  refine j_iload_n g 1 rfl dX6_fill_40 ?_
  refine j_aload_n g 0 rfl dX6_fill_41 ?_
  refine j_get g fl_X6_20 0 md_0 rfl dX6_fill_42 ?_
  refine j_iload_n g 1 rfl dX6_fill_45 ?_
  obtain ⟨hv7, h⟩ := h
  refine j_iald g 4 md_4 hv7 dX6_fill_46 ?_
  refine j_iload_n g 2 rfl dX6_fill_47 ?_
  refine j_iadd g dX6_fill_48 ?_
  obtain ⟨hv8, h⟩ := h
  refine j_iast g 4 md_4 hv8 (ws' := (mdW a q (0 : Int32) mnk mva mno mro (upd mtu x1.toNatClampNeg ((mtu x1.toNatClampNeg) + x2)) mbx mst mja mpr mcr mow mhd mmo mbk mca mfr mrs mrk mfe mus mgi maj)) rfl dX6_fill_49 ?_
  refine j_aload_n g 0 rfl dX6_fill_50 ?_
  refine j_get g fl_X6_39 0 md_0 rfl dX6_fill_51 ?_
  refine j_iconst g (v := 3) (by decide) dX6_fill_54 ?_
  refine j_aload_n g 0 rfl dX6_fill_55 ?_
  refine j_get g fl_X6_39 0 md_0 rfl dX6_fill_56 ?_
  refine j_iconst g (v := 3) (by decide) dX6_fill_59 ?_
  obtain ⟨hv9, h⟩ := h
  refine j_iald g 9 md_9 hv9 dX6_fill_60 ?_
  refine j_iload_n g 2 rfl dX6_fill_61 ?_
  refine j_aload_n g 0 rfl dX6_fill_62 ?_
  refine j_get g fl_X6_7 0 md_0 rfl dX6_fill_63 ?_
  refine j_iload_n g 1 rfl dX6_fill_66 ?_
  obtain ⟨hv10, h⟩ := h
  refine j_iald g 1 md_1 hv10 dX6_fill_67 ?_
  refine j_imul g dX6_fill_68 ?_
  refine j_iadd g dX6_fill_69 ?_
  obtain ⟨hv11, h⟩ := h
  refine j_iast g 9 md_9 hv11 (ws' := (mdW a q (0 : Int32) mnk mva mno mro (upd mtu x1.toNatClampNeg ((mtu x1.toNatClampNeg) + x2)) mbx mst mja mpr mcr mow mhd mmo (upd mbk (3 : Int32).toNatClampNeg ((mbk (3 : Int32).toNatClampNeg) + (x2 * (mva x1.toNatClampNeg)))) mca mfr mrs mrk mfe mus mgi maj)) rfl dX6_fill_70 ?_
  refine j_iconst g (v := 1) (by decide) dX6_fill_71 ?_
  exact hret.go dX6_fill_72 (Or.inr rfl) h

set_option maxRecDepth 20000 in
def wp_X6_stuck (x1 : Int32) (x2 : Int32) (mtd : Int32) (mnk : Int32) (mno : Nat → Int32) (mst : Nat → Int32) (K : Int32 → Int32 → (Nat → Int32) → Prop) : Prop :=
  wp_X6_isCoin x1 mnk mno (fun (r_1 : Int32)  => ((r_1 = 0 → K (0 : Int32) (0 : Int32) mst) ∧ (¬ r_1 = 0 → (vp_in x1 6 ∧ ((¬ mst x1.toNatClampNeg = x2 → (vp_in x1 6 ∧ K (1 : Int32) (0 : Int32) (upd mst x1.toNatClampNeg x2))) ∧ (mst x1.toNatClampNeg = x2 → K (0 : Int32) (0 : Int32) mst))))))
theorem dX6_stuck_0 : decode cX6_stuck 0 = .ok (.aload_n 0, 1) := by decide +kernel
theorem dX6_stuck_1 : decode cX6_stuck 1 = .ok (.iconst 0, 1) := by decide +kernel
theorem dX6_stuck_2 : decode cX6_stuck 2 = .ok (.putfield 63, 3) := by decide +kernel
theorem dX6_stuck_5 : decode cX6_stuck 5 = .ok (.aload_n 0, 1) := by decide +kernel
theorem dX6_stuck_6 : decode cX6_stuck 6 = .ok (.iload_n 1, 1) := by decide +kernel
theorem dX6_stuck_7 : decode cX6_stuck 7 = .ok (.invokevirtual 82, 3) := by decide +kernel
theorem dX6_stuck_10 : decode cX6_stuck 10 = .ok (.ifCond .eq 13, 3) := by decide +kernel
theorem dX6_stuck_13 : decode cX6_stuck 13 = .ok (.aload_n 0, 1) := by decide +kernel
theorem dX6_stuck_14 : decode cX6_stuck 14 = .ok (.getfield 26, 3) := by decide +kernel
theorem dX6_stuck_17 : decode cX6_stuck 17 = .ok (.iload_n 1, 1) := by decide +kernel
theorem dX6_stuck_18 : decode cX6_stuck 18 = .ok (.baload, 1) := by decide +kernel
theorem dX6_stuck_19 : decode cX6_stuck 19 = .ok (.iload_n 2, 1) := by decide +kernel
theorem dX6_stuck_20 : decode cX6_stuck 20 = .ok (.if_icmp .ne 5, 3) := by decide +kernel
theorem dX6_stuck_23 : decode cX6_stuck 23 = .ok (.iconst 0, 1) := by decide +kernel
theorem dX6_stuck_24 : decode cX6_stuck 24 = .ok (.ireturn, 1) := by decide +kernel
theorem dX6_stuck_25 : decode cX6_stuck 25 = .ok (.aload_n 0, 1) := by decide +kernel
theorem dX6_stuck_26 : decode cX6_stuck 26 = .ok (.getfield 26, 3) := by decide +kernel
theorem dX6_stuck_29 : decode cX6_stuck 29 = .ok (.iload_n 1, 1) := by decide +kernel
theorem dX6_stuck_30 : decode cX6_stuck 30 = .ok (.iload_n 2, 1) := by decide +kernel
theorem dX6_stuck_31 : decode cX6_stuck 31 = .ok (.bastore, 1) := by decide +kernel
theorem dX6_stuck_32 : decode cX6_stuck 32 = .ok (.iconst 1, 1) := by decide +kernel
theorem dX6_stuck_33 : decode cX6_stuck 33 = .ok (.ireturn, 1) := by decide +kernel
set_option maxRecDepth 20000 in
set_option maxHeartbeats 4000000 in
theorem c_X6_stuck {a : Nat → Nat} {q : Nat → ClassId} {x1 : Int32} {x2 : Int32} (hz2 : x2 = 0 ∨ x2 = 1) {mtd : Int32} {mnk : Int32} {mva : Nat → Int32} {mno : Nat → Int32} {mro : Nat → Int32} {mtu : Nat → Int32} {mbx : Nat → Int32} {mst : Nat → Int32} {mja : Nat → Int32} {mpr : Nat → Int32} {mcr : Int32} {mow : Int32} {mhd : Int32} {mmo : Int32} {mbk : Nat → Int32} {mca : Nat → Int32} {mfr : Nat → Int32} {mrs : Int32} {mrk : Nat → Int32} {mfe : Nat → Int32} {mus : Nat → Int32} {mgi : Nat → Int32} {maj : Nat → Int32} {K : Int32 → Int32 → (Nat → Int32) → Prop} (h : wp_X6_stuck x1 x2 mtd mnk mno mst K) : ctZ_2 q yX6_stuck cX6_stuck 3 2 42 [.ref (a 0), .int x1, .int x2] (mdW a q mtd mnk mva mno mro mtu mbx mst mja mpr mcr mow mhd mmo mbk mca mfr mrs mrk mfe mus mgi maj) (fun (mtd : Int32) (mst : Nat → Int32) => (mdW a q mtd mnk mva mno mro mtu mbx mst mja mpr mcr mow mhd mmo mbk mca mfr mrs mrk mfe mus mgi maj)) K := by
  refine met_Z_2 (by decide) (Nat.le_of_ble_eq_true rfl) (fun Γ g hret => ?_)
  unfold wp_X6_stuck at h
  show jw Γ 3 0 0 (mdW a q mtd mnk mva mno mro mtu mbx mst mja mpr mcr mow mhd mmo mbk mca mfr mrs mrk mfe mus mgi maj) [(0, .ref (a 0)), (1, .int x1), (2, .int x2)] [] 0
  refine j_aload_n g 0 rfl dX6_stuck_0 ?_
  refine j_iconst g (v := 0) (by decide) dX6_stuck_1 ?_
  refine j_put g fl_X6_63 fp_X6_0 0 md_0 rfl rfl (Nat.le_of_ble_eq_true rfl) (ws' := (mdW a q (0 : Int32) mnk mva mno mro mtu mbx mst mja mpr mcr mow mhd mmo mbk mca mfr mrs mrk mfe mus mgi maj)) rfl dX6_stuck_2 ?_
  refine j_aload_n g 0 rfl dX6_stuck_5 ?_
  refine j_iload_n g 1 rfl dX6_stuck_6 ?_
  refine j_callVZ_0 g (As := [.int x1]) (st := []) (c_X6_isCoin  h) cl_X6_82 0 6 md_0 rfl rfl (Nat.le_of_ble_eq_true rfl) (Nat.le_of_ble_eq_true rfl) (Nat.zero_le _) (Nat.zero_le _) rfl rfl (Nat.le_of_ble_eq_true rfl) dX6_stuck_7 (fun r_1  hz_1 h => ?_)
  refine j_if_eq g dX6_stuck_10 (tgt := 23) (by decide) (fun c2 => ?_) (fun c2 => ?_)
  · replace h := h.1 c2
    refine j_iconst g (v := 0) (by decide) dX6_stuck_23 ?_
    exact hret.go dX6_stuck_24 (Or.inl rfl) h
  replace h := h.2 c2
  refine j_aload_n g 0 rfl dX6_stuck_13 ?_
  refine j_get g fl_X6_26 0 md_0 rfl dX6_stuck_14 ?_
  refine j_iload_n g 1 rfl dX6_stuck_17 ?_
  obtain ⟨hv3, h⟩ := h
  refine j_zald g 6 md_6 hv3 dX6_stuck_18 ?_
  refine j_iload_n g 2 rfl dX6_stuck_19 ?_
  refine j_icmp_ne g dX6_stuck_20 (tgt := 25) (by decide) (fun c4 => ?_) (fun c4 => ?_)
  rotate_left
  · replace h := h.2 c4
    refine j_iconst g (v := 0) (by decide) dX6_stuck_23 ?_
    exact hret.go dX6_stuck_24 (Or.inl rfl) h
  replace h := h.1 c4
  refine j_aload_n g 0 rfl dX6_stuck_25 ?_
  refine j_get g fl_X6_26 0 md_0 rfl dX6_stuck_26 ?_
  refine j_iload_n g 1 rfl dX6_stuck_29 ?_
  refine j_iload_n g 2 rfl dX6_stuck_30 ?_
  obtain ⟨hv5, h⟩ := h
  refine j_zast g 6 md_6 hv5 (nz_v hz2) (ws' := (mdW a q (0 : Int32) mnk mva mno mro mtu mbx (upd mst x1.toNatClampNeg x2) mja mpr mcr mow mhd mmo mbk mca mfr mrs mrk mfe mus mgi maj)) rfl dX6_stuck_31 ?_
  refine j_iconst g (v := 1) (by decide) dX6_stuck_32 ?_
  exact hret.go dX6_stuck_33 (Or.inr rfl) h

set_option maxRecDepth 20000 in
def wp_X6_jam (x1 : Int32) (x2 : Int32) (mtd : Int32) (mnk : Int32) (mno : Nat → Int32) (mja : Nat → Int32) (K : Int32 → Int32 → (Nat → Int32) → Prop) : Prop :=
  wp_X6_isCoin x1 mnk mno (fun (r_1 : Int32)  => ((r_1 = 0 → K (0 : Int32) (0 : Int32) mja) ∧ (¬ r_1 = 0 → ((x2 < (-1 : Int32) → K (0 : Int32) (0 : Int32) mja) ∧ (¬ x2 < (-1 : Int32) → ((x2 ≤ (99 : Int32) → (vp_in x1 6 ∧ K (1 : Int32) (0 : Int32) (upd mja x1.toNatClampNeg x2))) ∧ (¬ x2 ≤ (99 : Int32) → K (0 : Int32) (0 : Int32) mja)))))))
theorem dX6_jam_0 : decode cX6_jam 0 = .ok (.aload_n 0, 1) := by decide +kernel
theorem dX6_jam_1 : decode cX6_jam 1 = .ok (.iconst 0, 1) := by decide +kernel
theorem dX6_jam_2 : decode cX6_jam 2 = .ok (.putfield 63, 3) := by decide +kernel
theorem dX6_jam_5 : decode cX6_jam 5 = .ok (.aload_n 0, 1) := by decide +kernel
theorem dX6_jam_6 : decode cX6_jam 6 = .ok (.iload_n 1, 1) := by decide +kernel
theorem dX6_jam_7 : decode cX6_jam 7 = .ok (.invokevirtual 82, 3) := by decide +kernel
theorem dX6_jam_10 : decode cX6_jam 10 = .ok (.ifCond .eq 14, 3) := by decide +kernel
theorem dX6_jam_13 : decode cX6_jam 13 = .ok (.iload_n 2, 1) := by decide +kernel
theorem dX6_jam_14 : decode cX6_jam 14 = .ok (.iconst (-1), 1) := by decide +kernel
theorem dX6_jam_15 : decode cX6_jam 15 = .ok (.if_icmp .lt 9, 3) := by decide +kernel
theorem dX6_jam_18 : decode cX6_jam 18 = .ok (.iload_n 2, 1) := by decide +kernel
theorem dX6_jam_19 : decode cX6_jam 19 = .ok (.bipush 99, 2) := by decide +kernel
theorem dX6_jam_21 : decode cX6_jam 21 = .ok (.if_icmp .le 5, 3) := by decide +kernel
theorem dX6_jam_24 : decode cX6_jam 24 = .ok (.iconst 0, 1) := by decide +kernel
theorem dX6_jam_25 : decode cX6_jam 25 = .ok (.ireturn, 1) := by decide +kernel
theorem dX6_jam_26 : decode cX6_jam 26 = .ok (.aload_n 0, 1) := by decide +kernel
theorem dX6_jam_27 : decode cX6_jam 27 = .ok (.getfield 29, 3) := by decide +kernel
theorem dX6_jam_30 : decode cX6_jam 30 = .ok (.iload_n 1, 1) := by decide +kernel
theorem dX6_jam_31 : decode cX6_jam 31 = .ok (.iload_n 2, 1) := by decide +kernel
theorem dX6_jam_32 : decode cX6_jam 32 = .ok (.iastore, 1) := by decide +kernel
theorem dX6_jam_33 : decode cX6_jam 33 = .ok (.iconst 1, 1) := by decide +kernel
theorem dX6_jam_34 : decode cX6_jam 34 = .ok (.ireturn, 1) := by decide +kernel
set_option maxRecDepth 20000 in
set_option maxHeartbeats 4000000 in
theorem c_X6_jam {a : Nat → Nat} {q : Nat → ClassId} {x1 : Int32} {x2 : Int32}  {mtd : Int32} {mnk : Int32} {mva : Nat → Int32} {mno : Nat → Int32} {mro : Nat → Int32} {mtu : Nat → Int32} {mbx : Nat → Int32} {mst : Nat → Int32} {mja : Nat → Int32} {mpr : Nat → Int32} {mcr : Int32} {mow : Int32} {mhd : Int32} {mmo : Int32} {mbk : Nat → Int32} {mca : Nat → Int32} {mfr : Nat → Int32} {mrs : Int32} {mrk : Nat → Int32} {mfe : Nat → Int32} {mus : Nat → Int32} {mgi : Nat → Int32} {maj : Nat → Int32} {K : Int32 → Int32 → (Nat → Int32) → Prop} (h : wp_X6_jam x1 x2 mtd mnk mno mja K) : ctZ_2 q yX6_jam cX6_jam 3 2 42 [.ref (a 0), .int x1, .int x2] (mdW a q mtd mnk mva mno mro mtu mbx mst mja mpr mcr mow mhd mmo mbk mca mfr mrs mrk mfe mus mgi maj) (fun (mtd : Int32) (mja : Nat → Int32) => (mdW a q mtd mnk mva mno mro mtu mbx mst mja mpr mcr mow mhd mmo mbk mca mfr mrs mrk mfe mus mgi maj)) K := by
  refine met_Z_2 (by decide) (Nat.le_of_ble_eq_true rfl) (fun Γ g hret => ?_)
  unfold wp_X6_jam at h
  show jw Γ 3 0 0 (mdW a q mtd mnk mva mno mro mtu mbx mst mja mpr mcr mow mhd mmo mbk mca mfr mrs mrk mfe mus mgi maj) [(0, .ref (a 0)), (1, .int x1), (2, .int x2)] [] 0
  refine j_aload_n g 0 rfl dX6_jam_0 ?_
  refine j_iconst g (v := 0) (by decide) dX6_jam_1 ?_
  refine j_put g fl_X6_63 fp_X6_0 0 md_0 rfl rfl (Nat.le_of_ble_eq_true rfl) (ws' := (mdW a q (0 : Int32) mnk mva mno mro mtu mbx mst mja mpr mcr mow mhd mmo mbk mca mfr mrs mrk mfe mus mgi maj)) rfl dX6_jam_2 ?_
  refine j_aload_n g 0 rfl dX6_jam_5 ?_
  refine j_iload_n g 1 rfl dX6_jam_6 ?_
  refine j_callVZ_0 g (As := [.int x1]) (st := []) (c_X6_isCoin  h) cl_X6_82 0 6 md_0 rfl rfl (Nat.le_of_ble_eq_true rfl) (Nat.le_of_ble_eq_true rfl) (Nat.zero_le _) (Nat.zero_le _) rfl rfl (Nat.le_of_ble_eq_true rfl) dX6_jam_7 (fun r_1  hz_1 h => ?_)
  refine j_if_eq g dX6_jam_10 (tgt := 24) (by decide) (fun c2 => ?_) (fun c2 => ?_)
  · replace h := h.1 c2
    refine j_iconst g (v := 0) (by decide) dX6_jam_24 ?_
    exact hret.go dX6_jam_25 (Or.inl rfl) h
  replace h := h.2 c2
  refine j_iload_n g 2 rfl dX6_jam_13 ?_
  refine j_iconst g (v := -1) (by decide) dX6_jam_14 ?_
  refine j_icmp_lt g dX6_jam_15 (tgt := 24) (by decide) (fun c3 => ?_) (fun c3 => ?_)
  · replace h := h.1 c3
    refine j_iconst g (v := 0) (by decide) dX6_jam_24 ?_
    exact hret.go dX6_jam_25 (Or.inl rfl) h
  replace h := h.2 c3
  refine j_iload_n g 2 rfl dX6_jam_18 ?_
  refine j_bipush g (v := 99) (by decide) dX6_jam_19 ?_
  refine j_icmp_le g dX6_jam_21 (tgt := 26) (by decide) (fun c4 => ?_) (fun c4 => ?_)
  rotate_left
  · replace h := h.2 c4
    refine j_iconst g (v := 0) (by decide) dX6_jam_24 ?_
    exact hret.go dX6_jam_25 (Or.inl rfl) h
  replace h := h.1 c4
  refine j_aload_n g 0 rfl dX6_jam_26 ?_
  refine j_get g fl_X6_29 0 md_0 rfl dX6_jam_27 ?_
  refine j_iload_n g 1 rfl dX6_jam_30 ?_
  refine j_iload_n g 2 rfl dX6_jam_31 ?_
  obtain ⟨hv5, h⟩ := h
  refine j_iast g 7 md_7 hv5 (ws' := (mdW a q (0 : Int32) mnk mva mno mro mtu mbx mst (upd mja x1.toNatClampNeg x2) mpr mcr mow mhd mmo mbk mca mfr mrs mrk mfe mus mgi maj)) rfl dX6_jam_32 ?_
  refine j_iconst g (v := 1) (by decide) dX6_jam_33 ?_
  exact hret.go dX6_jam_34 (Or.inr rfl) h

set_option maxRecDepth 20000 in
def wp_X6_findSums_2   (K : (Nat → Int32) → (Nat → Int32) → Prop) (X : (Nat → Int32) → Prop) : Nat → Int32 → (Nat → Int32) → Prop
  | 0, _, _ => False
  | n + 1, x1, mca => (((999 : Int32) < x1 → X mca) ∧ (¬ (999 : Int32) < x1 → ((¬ x1 = 0 → (vp_in x1 1000 ∧ wp_X6_findSums_2 K X n (x1 + 1) (upd mca x1.toNatClampNeg (0 : Int32)))) ∧ (x1 = 0 → (vp_in x1 1000 ∧ wp_X6_findSums_2 K X n (x1 + 1) (upd mca x1.toNatClampNeg (1 : Int32)))))))
set_option maxRecDepth 20000 in
def wp_X6_findSums_63 (x1 : Int32) (mca : Nat → Int32) (K : (Nat → Int32) → (Nat → Int32) → Prop) (X : (Nat → Int32) → Prop) : Nat → Int32 → (Nat → Int32) → Prop
  | 0, _, _ => False
  | n + 1, x2, mfr => (((999 : Int32) < x2 → X mfr) ∧ (¬ (999 : Int32) < x2 → (vp_in x2 1000 ∧ ((mca x2.toNatClampNeg = 0 → (vp_in x2 1000 ∧ wp_X6_findSums_63 x1 mca K X n (x2 + 1) (upd mfr x2.toNatClampNeg (1000000 : Int32)))) ∧ (¬ mca x2.toNatClampNeg = 0 → (vp_in x2 1000 ∧ wp_X6_findSums_63 x1 mca K X n (x2 + 1) (upd mfr x2.toNatClampNeg (0 : Int32))))))))
set_option maxRecDepth 20000 in
def wp_X6_findSums_104 (x1 : Int32) (mva : Nat → Int32) (mtu : Nat → Int32) (K : (Nat → Int32) → (Nat → Int32) → Prop) (X : (Nat → Int32) → (Nat → Int32) → Prop) : Nat → Int32 → (Nat → Int32) → (Nat → Int32) → Prop
  | 0, _, _, _ => False
  | n + 1, x2, mca, mfr => (((999 : Int32) < x2 → X mca mfr) ∧ (¬ (999 : Int32) < x2 → (vp_in x2 1000 ∧ ((¬ mca x2.toNatClampNeg = 0 → wp_X6_findSums_104 x1 mva mtu K X n (x2 + 1) mca mfr) ∧ (mca x2.toNatClampNeg = 0 → (vp_in x1 6 ∧ (vp_in (x2 - (mva x1.toNatClampNeg)) 1000 ∧ (vp_in x1 6 ∧ ((mfr (x2 - (mva x1.toNatClampNeg)).toNatClampNeg < mtu x1.toNatClampNeg → (vp_in x2 1000 ∧ (vp_in x1 6 ∧ (vp_in (x2 - (mva x1.toNatClampNeg)) 1000 ∧ (vp_in x2 1000 ∧ wp_X6_findSums_104 x1 mva mtu K X n (x2 + 1) (upd mca x2.toNatClampNeg (1 : Int32)) (upd mfr x2.toNatClampNeg ((mfr (x2 - (mva x1.toNatClampNeg)).toNatClampNeg) + (1 : Int32)))))))) ∧ (¬ mfr (x2 - (mva x1.toNatClampNeg)).toNatClampNeg < mtu x1.toNatClampNeg → wp_X6_findSums_104 x1 mva mtu K X n (x2 + 1) mca mfr))))))))))
set_option maxRecDepth 20000 in
def wp_X6_findSums_32  (mnk : Int32) (mva : Nat → Int32) (mno : Nat → Int32) (mtu : Nat → Int32) (mst : Nat → Int32) (K : (Nat → Int32) → (Nat → Int32) → Prop) (X : (Nat → Int32) → (Nat → Int32) → Prop) : Nat → Int32 → (Nat → Int32) → (Nat → Int32) → Prop
  | 0, _, _, _ => False
  | n + 1, x1, mca, mfr => ((mnk ≤ x1 → X mca mfr) ∧ (¬ mnk ≤ x1 → (vp_in x1 6 ∧ ((¬ mno x1.toNatClampNeg = 0 → wp_X6_findSums_32 mnk mva mno mtu mst K X n (x1 + 1) mca mfr) ∧ (mno x1.toNatClampNeg = 0 → (vp_in x1 6 ∧ ((mst x1.toNatClampNeg = 0 → ∃ n6 : Nat, wp_X6_findSums_63 x1 mca K (fun (mfr_6 : Nat → Int32) => (vp_in x1 6 ∧ ∃ n8 : Nat, wp_X6_findSums_104 x1 mva mtu K (fun (mca_8 : Nat → Int32) (mfr_8 : Nat → Int32) => wp_X6_findSums_32 mnk mva mno mtu mst K X n (x1 + 1) mca_8 mfr_8) n8 (mva x1.toNatClampNeg) mca mfr_6)) n6 (0 : Int32) mfr) ∧ (¬ mst x1.toNatClampNeg = 0 → wp_X6_findSums_32 mnk mva mno mtu mst K X n (x1 + 1) mca mfr))))))))
set_option maxRecDepth 20000 in
def wp_X6_findSums  (mnk : Int32) (mva : Nat → Int32) (mno : Nat → Int32) (mtu : Nat → Int32) (mst : Nat → Int32) (mca : Nat → Int32) (mfr : Nat → Int32) (K : (Nat → Int32) → (Nat → Int32) → Prop) : Prop :=
  ∃ n1 : Nat, wp_X6_findSums_2 K (fun (mca_1 : Nat → Int32) => ∃ n2 : Nat, wp_X6_findSums_32 mnk mva mno mtu mst K (fun (mca_2 : Nat → Int32) (mfr_2 : Nat → Int32) => K mca_2 mfr_2) n2 (0 : Int32) mca_1 mfr) n1 (0 : Int32) mca
theorem dX6_findSums_0 : decode cX6_findSums 0 = .ok (.iconst 0, 1) := by decide +kernel
theorem dX6_findSums_1 : decode cX6_findSums 1 = .ok (.istore_n 1, 1) := by decide +kernel
theorem dX6_findSums_2 : decode cX6_findSums 2 = .ok (.iload_n 1, 1) := by decide +kernel
theorem dX6_findSums_3 : decode cX6_findSums 3 = .ok (.sipush 999, 3) := by decide +kernel
theorem dX6_findSums_6 : decode cX6_findSums 6 = .ok (.if_icmp .gt 24, 3) := by decide +kernel
theorem dX6_findSums_9 : decode cX6_findSums 9 = .ok (.aload_n 0, 1) := by decide +kernel
theorem dX6_findSums_10 : decode cX6_findSums 10 = .ok (.getfield 42, 3) := by decide +kernel
theorem dX6_findSums_13 : decode cX6_findSums 13 = .ok (.iload_n 1, 1) := by decide +kernel
theorem dX6_findSums_14 : decode cX6_findSums 14 = .ok (.iload_n 1, 1) := by decide +kernel
theorem dX6_findSums_15 : decode cX6_findSums 15 = .ok (.ifCond .ne 7, 3) := by decide +kernel
theorem dX6_findSums_18 : decode cX6_findSums 18 = .ok (.iconst 1, 1) := by decide +kernel
theorem dX6_findSums_19 : decode cX6_findSums 19 = .ok (.goto 4, 3) := by decide +kernel
theorem dX6_findSums_22 : decode cX6_findSums 22 = .ok (.iconst 0, 1) := by decide +kernel
theorem dX6_findSums_23 : decode cX6_findSums 23 = .ok (.bastore, 1) := by decide +kernel
theorem dX6_findSums_24 : decode cX6_findSums 24 = .ok (.iinc 1 1, 3) := by decide +kernel
theorem dX6_findSums_27 : decode cX6_findSums 27 = .ok (.goto (-25), 3) := by decide +kernel
theorem dX6_findSums_30 : decode cX6_findSums 30 = .ok (.iconst 0, 1) := by decide +kernel
theorem dX6_findSums_31 : decode cX6_findSums 31 = .ok (.istore_n 1, 1) := by decide +kernel
theorem dX6_findSums_32 : decode cX6_findSums 32 = .ok (.iload_n 1, 1) := by decide +kernel
theorem dX6_findSums_33 : decode cX6_findSums 33 = .ok (.aload_n 0, 1) := by decide +kernel
theorem dX6_findSums_34 : decode cX6_findSums 34 = .ok (.getfield 66, 3) := by decide +kernel
theorem dX6_findSums_37 : decode cX6_findSums 37 = .ok (.if_icmp .ge 148, 3) := by decide +kernel
theorem dX6_findSums_40 : decode cX6_findSums 40 = .ok (.aload_n 0, 1) := by decide +kernel
theorem dX6_findSums_41 : decode cX6_findSums 41 = .ok (.getfield 13, 3) := by decide +kernel
theorem dX6_findSums_44 : decode cX6_findSums 44 = .ok (.iload_n 1, 1) := by decide +kernel
theorem dX6_findSums_45 : decode cX6_findSums 45 = .ok (.baload, 1) := by decide +kernel
theorem dX6_findSums_46 : decode cX6_findSums 46 = .ok (.ifCond .ne 133, 3) := by decide +kernel
theorem dX6_findSums_49 : decode cX6_findSums 49 = .ok (.aload_n 0, 1) := by decide +kernel
theorem dX6_findSums_50 : decode cX6_findSums 50 = .ok (.getfield 26, 3) := by decide +kernel
theorem dX6_findSums_53 : decode cX6_findSums 53 = .ok (.iload_n 1, 1) := by decide +kernel
theorem dX6_findSums_54 : decode cX6_findSums 54 = .ok (.baload, 1) := by decide +kernel
theorem dX6_findSums_55 : decode cX6_findSums 55 = .ok (.ifCond .eq 6, 3) := by decide +kernel
theorem dX6_findSums_58 : decode cX6_findSums 58 = .ok (.goto 121, 3) := by decide +kernel
theorem dX6_findSums_61 : decode cX6_findSums 61 = .ok (.iconst 0, 1) := by decide +kernel
theorem dX6_findSums_62 : decode cX6_findSums 62 = .ok (.istore_n 2, 1) := by decide +kernel
theorem dX6_findSums_63 : decode cX6_findSums 63 = .ok (.iload_n 2, 1) := by decide +kernel
theorem dX6_findSums_64 : decode cX6_findSums 64 = .ok (.sipush 999, 3) := by decide +kernel
theorem dX6_findSums_67 : decode cX6_findSums 67 = .ok (.if_icmp .gt 30, 3) := by decide +kernel
theorem dX6_findSums_70 : decode cX6_findSums 70 = .ok (.aload_n 0, 1) := by decide +kernel
theorem dX6_findSums_71 : decode cX6_findSums 71 = .ok (.getfield 45, 3) := by decide +kernel
theorem dX6_findSums_74 : decode cX6_findSums 74 = .ok (.iload_n 2, 1) := by decide +kernel
theorem dX6_findSums_75 : decode cX6_findSums 75 = .ok (.aload_n 0, 1) := by decide +kernel
theorem dX6_findSums_76 : decode cX6_findSums 76 = .ok (.getfield 42, 3) := by decide +kernel
theorem dX6_findSums_79 : decode cX6_findSums 79 = .ok (.iload_n 2, 1) := by decide +kernel
theorem dX6_findSums_80 : decode cX6_findSums 80 = .ok (.baload, 1) := by decide +kernel
theorem dX6_findSums_81 : decode cX6_findSums 81 = .ok (.ifCond .eq 7, 3) := by decide +kernel
theorem dX6_findSums_84 : decode cX6_findSums 84 = .ok (.iconst 0, 1) := by decide +kernel
theorem dX6_findSums_85 : decode cX6_findSums 85 = .ok (.goto 5, 3) := by decide +kernel
theorem dX6_findSums_88 : decode cX6_findSums 88 = .ok (.ldc 85, 2) := by decide +kernel
theorem dX6_findSums_90 : decode cX6_findSums 90 = .ok (.iastore, 1) := by decide +kernel
theorem dX6_findSums_91 : decode cX6_findSums 91 = .ok (.iinc 2 1, 3) := by decide +kernel
theorem dX6_findSums_94 : decode cX6_findSums 94 = .ok (.goto (-31), 3) := by decide +kernel
theorem dX6_findSums_97 : decode cX6_findSums 97 = .ok (.aload_n 0, 1) := by decide +kernel
theorem dX6_findSums_98 : decode cX6_findSums 98 = .ok (.getfield 7, 3) := by decide +kernel
theorem dX6_findSums_101 : decode cX6_findSums 101 = .ok (.iload_n 1, 1) := by decide +kernel
theorem dX6_findSums_102 : decode cX6_findSums 102 = .ok (.iaload, 1) := by decide +kernel
theorem dX6_findSums_103 : decode cX6_findSums 103 = .ok (.istore_n 2, 1) := by decide +kernel
theorem dX6_findSums_104 : decode cX6_findSums 104 = .ok (.iload_n 2, 1) := by decide +kernel
theorem dX6_findSums_105 : decode cX6_findSums 105 = .ok (.sipush 999, 3) := by decide +kernel
theorem dX6_findSums_108 : decode cX6_findSums 108 = .ok (.if_icmp .gt 71, 3) := by decide +kernel
theorem dX6_findSums_111 : decode cX6_findSums 111 = .ok (.aload_n 0, 1) := by decide +kernel
theorem dX6_findSums_112 : decode cX6_findSums 112 = .ok (.getfield 42, 3) := by decide +kernel
theorem dX6_findSums_115 : decode cX6_findSums 115 = .ok (.iload_n 2, 1) := by decide +kernel
theorem dX6_findSums_116 : decode cX6_findSums 116 = .ok (.baload, 1) := by decide +kernel
theorem dX6_findSums_117 : decode cX6_findSums 117 = .ok (.ifCond .ne 56, 3) := by decide +kernel
theorem dX6_findSums_120 : decode cX6_findSums 120 = .ok (.aload_n 0, 1) := by decide +kernel
theorem dX6_findSums_121 : decode cX6_findSums 121 = .ok (.getfield 45, 3) := by decide +kernel
theorem dX6_findSums_124 : decode cX6_findSums 124 = .ok (.iload_n 2, 1) := by decide +kernel
theorem dX6_findSums_125 : decode cX6_findSums 125 = .ok (.aload_n 0, 1) := by decide +kernel
theorem dX6_findSums_126 : decode cX6_findSums 126 = .ok (.getfield 7, 3) := by decide +kernel
theorem dX6_findSums_129 : decode cX6_findSums 129 = .ok (.iload_n 1, 1) := by decide +kernel
theorem dX6_findSums_130 : decode cX6_findSums 130 = .ok (.iaload, 1) := by decide +kernel
theorem dX6_findSums_131 : decode cX6_findSums 131 = .ok (.isub, 1) := by decide +kernel
theorem dX6_findSums_132 : decode cX6_findSums 132 = .ok (.iaload, 1) := by decide +kernel
theorem dX6_findSums_133 : decode cX6_findSums 133 = .ok (.aload_n 0, 1) := by decide +kernel
theorem dX6_findSums_134 : decode cX6_findSums 134 = .ok (.getfield 20, 3) := by decide +kernel
theorem dX6_findSums_137 : decode cX6_findSums 137 = .ok (.iload_n 1, 1) := by decide +kernel
theorem dX6_findSums_138 : decode cX6_findSums 138 = .ok (.iaload, 1) := by decide +kernel
theorem dX6_findSums_139 : decode cX6_findSums 139 = .ok (.if_icmp .lt 6, 3) := by decide +kernel
theorem dX6_findSums_142 : decode cX6_findSums 142 = .ok (.goto 31, 3) := by decide +kernel
theorem dX6_findSums_145 : decode cX6_findSums 145 = .ok (.aload_n 0, 1) := by decide +kernel
theorem dX6_findSums_146 : decode cX6_findSums 146 = .ok (.getfield 42, 3) := by decide +kernel
theorem dX6_findSums_149 : decode cX6_findSums 149 = .ok (.iload_n 2, 1) := by decide +kernel
theorem dX6_findSums_150 : decode cX6_findSums 150 = .ok (.iconst 1, 1) := by decide +kernel
theorem dX6_findSums_151 : decode cX6_findSums 151 = .ok (.bastore, 1) := by decide +kernel
theorem dX6_findSums_152 : decode cX6_findSums 152 = .ok (.aload_n 0, 1) := by decide +kernel
theorem dX6_findSums_153 : decode cX6_findSums 153 = .ok (.getfield 45, 3) := by decide +kernel
theorem dX6_findSums_156 : decode cX6_findSums 156 = .ok (.iload_n 2, 1) := by decide +kernel
theorem dX6_findSums_157 : decode cX6_findSums 157 = .ok (.aload_n 0, 1) := by decide +kernel
theorem dX6_findSums_158 : decode cX6_findSums 158 = .ok (.getfield 45, 3) := by decide +kernel
theorem dX6_findSums_161 : decode cX6_findSums 161 = .ok (.iload_n 2, 1) := by decide +kernel
theorem dX6_findSums_162 : decode cX6_findSums 162 = .ok (.aload_n 0, 1) := by decide +kernel
theorem dX6_findSums_163 : decode cX6_findSums 163 = .ok (.getfield 7, 3) := by decide +kernel
theorem dX6_findSums_166 : decode cX6_findSums 166 = .ok (.iload_n 1, 1) := by decide +kernel
theorem dX6_findSums_167 : decode cX6_findSums 167 = .ok (.iaload, 1) := by decide +kernel
theorem dX6_findSums_168 : decode cX6_findSums 168 = .ok (.isub, 1) := by decide +kernel
theorem dX6_findSums_169 : decode cX6_findSums 169 = .ok (.iaload, 1) := by decide +kernel
theorem dX6_findSums_170 : decode cX6_findSums 170 = .ok (.iconst 1, 1) := by decide +kernel
theorem dX6_findSums_171 : decode cX6_findSums 171 = .ok (.iadd, 1) := by decide +kernel
theorem dX6_findSums_172 : decode cX6_findSums 172 = .ok (.iastore, 1) := by decide +kernel
theorem dX6_findSums_173 : decode cX6_findSums 173 = .ok (.iinc 2 1, 3) := by decide +kernel
theorem dX6_findSums_176 : decode cX6_findSums 176 = .ok (.goto (-72), 3) := by decide +kernel
theorem dX6_findSums_179 : decode cX6_findSums 179 = .ok (.iinc 1 1, 3) := by decide +kernel
theorem dX6_findSums_182 : decode cX6_findSums 182 = .ok (.goto (-150), 3) := by decide +kernel
theorem dX6_findSums_185 : decode cX6_findSums 185 = .ok (.return_, 1) := by decide +kernel
set_option maxRecDepth 20000 in
set_option maxHeartbeats 4000000 in
theorem wk_X6_findSums_2 {Γ : GT} {a : Nat → Nat} {q : Nat → ClassId}   {mtd : Int32} {mnk : Int32} {mva : Nat → Int32} {mno : Nat → Int32} {mro : Nat → Int32} {mtu : Nat → Int32} {mbx : Nat → Int32} {mst : Nat → Int32} {mja : Nat → Int32} {mpr : Nat → Int32} {mcr : Int32} {mow : Int32} {mhd : Int32} {mmo : Int32} {mbk : Nat → Int32} {mfr : Nat → Int32} {mrs : Int32} {mrk : Nat → Int32} {mfe : Nat → Int32} {mus : Nat → Int32} {mgi : Nat → Int32} {maj : Nat → Int32} {K : (Nat → Int32) → (Nat → Int32) → Prop} {X : (Nat → Int32) → Prop} (g : gd Γ cX6_findSums RX6 3 (rmz 0 0) q) (hret : rtV_2 Γ cX6_findSums 3 (fun (mca : Nat → Int32) (mfr : Nat → Int32) => (mdW a q mtd mnk mva mno mro mtu mbx mst mja mpr mcr mow mhd mmo mbk mca mfr mrs mrk mfe mus mgi maj)) K) (hX : ∀ (mca : Nat → Int32) , X mca → jw Γ 3 0 0 (mdW a q mtd mnk mva mno mro mtu mbx mst mja mpr mcr mow mhd mmo mbk mca mfr mrs mrk mfe mus mgi maj) [(0, .ref (a 0))] [] 30) :
    ∀ (n : Nat) (x1 : Int32) (mca : Nat → Int32) , wp_X6_findSums_2 K X n x1 mca → jw Γ 3 0 0 (mdW a q mtd mnk mva mno mro mtu mbx mst mja mpr mcr mow mhd mmo mbk mca mfr mrs mrk mfe mus mgi maj) [(0, .ref (a 0)), (1, .int x1)] [] 2 := by
  intro n
  induction n with
  | zero =>
    intro _ _ h
    exact False.elim h
  | succ n ih =>
    intro x1 mca h
    unfold wp_X6_findSums_2 at h
    refine j_iload_n g 1 rfl dX6_findSums_2 ?_
    refine j_sipush g (v := 999) (by decide) dX6_findSums_3 ?_
    refine j_icmp_gt g dX6_findSums_6 (tgt := 30) (by decide) (fun c1 => ?_) (fun c1 => ?_)
    · replace h := h.1 c1
      refine j_sub [0] rfl ?_
      exact hX mca h
    replace h := h.2 c1
    refine j_aload_n g 0 rfl dX6_findSums_9 ?_
    refine j_get g fl_X6_42 0 md_0 rfl dX6_findSums_10 ?_
    refine j_iload_n g 1 rfl dX6_findSums_13 ?_
    refine j_iload_n g 1 rfl dX6_findSums_14 ?_
    refine j_if_ne g dX6_findSums_15 (tgt := 22) (by decide) (fun c2 => ?_) (fun c2 => ?_)
    · replace h := h.1 c2
      refine j_iconst g (v := 0) (by decide) dX6_findSums_22 ?_
      obtain ⟨hv3, h⟩ := h
      refine j_zast g 10 md_10 hv3 (nz_v (Or.inl rfl)) (ws' := (mdW a q mtd mnk mva mno mro mtu mbx mst mja mpr mcr mow mhd mmo mbk (upd mca x1.toNatClampNeg (0 : Int32)) mfr mrs mrk mfe mus mgi maj)) rfl dX6_findSums_23 ?_
      refine j_iinc g 1 (n := 1) (v := x1 + 1) (lv' := [(1, .int (x1 + 1)), (0, .ref (a 0))]) rfl rfl (by decide) rfl dX6_findSums_24 ?_
      refine j_goto g dX6_findSums_27 (tgt := 2) (by decide) ?_
      refine j_sub [1, 0] rfl ?_
      exact ih (x1 + 1) (upd mca x1.toNatClampNeg (0 : Int32)) h
    replace h := h.2 c2
    refine j_iconst g (v := 1) (by decide) dX6_findSums_18 ?_
    refine j_goto g dX6_findSums_19 (tgt := 23) (by decide) ?_
    obtain ⟨hv4, h⟩ := h
    refine j_zast g 10 md_10 hv4 (nz_v (Or.inr rfl)) (ws' := (mdW a q mtd mnk mva mno mro mtu mbx mst mja mpr mcr mow mhd mmo mbk (upd mca x1.toNatClampNeg (1 : Int32)) mfr mrs mrk mfe mus mgi maj)) rfl dX6_findSums_23 ?_
    refine j_iinc g 1 (n := 1) (v := x1 + 1) (lv' := [(1, .int (x1 + 1)), (0, .ref (a 0))]) rfl rfl (by decide) rfl dX6_findSums_24 ?_
    refine j_goto g dX6_findSums_27 (tgt := 2) (by decide) ?_
    refine j_sub [1, 0] rfl ?_
    exact ih (x1 + 1) (upd mca x1.toNatClampNeg (1 : Int32)) h
set_option maxRecDepth 20000 in
set_option maxHeartbeats 4000000 in
theorem wk_X6_findSums_63 {Γ : GT} {a : Nat → Nat} {q : Nat → ClassId} {x1 : Int32}  {mtd : Int32} {mnk : Int32} {mva : Nat → Int32} {mno : Nat → Int32} {mro : Nat → Int32} {mtu : Nat → Int32} {mbx : Nat → Int32} {mst : Nat → Int32} {mja : Nat → Int32} {mpr : Nat → Int32} {mcr : Int32} {mow : Int32} {mhd : Int32} {mmo : Int32} {mbk : Nat → Int32} {mca : Nat → Int32} {mrs : Int32} {mrk : Nat → Int32} {mfe : Nat → Int32} {mus : Nat → Int32} {mgi : Nat → Int32} {maj : Nat → Int32} {K : (Nat → Int32) → (Nat → Int32) → Prop} {X : (Nat → Int32) → Prop} (g : gd Γ cX6_findSums RX6 3 (rmz 0 0) q) (hret : rtV_2 Γ cX6_findSums 3 (fun (mca : Nat → Int32) (mfr : Nat → Int32) => (mdW a q mtd mnk mva mno mro mtu mbx mst mja mpr mcr mow mhd mmo mbk mca mfr mrs mrk mfe mus mgi maj)) K) (hX : ∀ (mfr : Nat → Int32) , X mfr → jw Γ 3 0 0 (mdW a q mtd mnk mva mno mro mtu mbx mst mja mpr mcr mow mhd mmo mbk mca mfr mrs mrk mfe mus mgi maj) [(0, .ref (a 0)), (1, .int x1)] [] 97) :
    ∀ (n : Nat) (x2 : Int32) (mfr : Nat → Int32) , wp_X6_findSums_63 x1 mca K X n x2 mfr → jw Γ 3 0 0 (mdW a q mtd mnk mva mno mro mtu mbx mst mja mpr mcr mow mhd mmo mbk mca mfr mrs mrk mfe mus mgi maj) [(0, .ref (a 0)), (1, .int x1), (2, .int x2)] [] 63 := by
  intro n
  induction n with
  | zero =>
    intro _ _ h
    exact False.elim h
  | succ n ih =>
    intro x2 mfr h
    unfold wp_X6_findSums_63 at h
    refine j_iload_n g 2 rfl dX6_findSums_63 ?_
    refine j_sipush g (v := 999) (by decide) dX6_findSums_64 ?_
    refine j_icmp_gt g dX6_findSums_67 (tgt := 97) (by decide) (fun c1 => ?_) (fun c1 => ?_)
    · replace h := h.1 c1
      refine j_sub [0, 1] rfl ?_
      exact hX mfr h
    replace h := h.2 c1
    refine j_aload_n g 0 rfl dX6_findSums_70 ?_
    refine j_get g fl_X6_45 0 md_0 rfl dX6_findSums_71 ?_
    refine j_iload_n g 2 rfl dX6_findSums_74 ?_
    refine j_aload_n g 0 rfl dX6_findSums_75 ?_
    refine j_get g fl_X6_42 0 md_0 rfl dX6_findSums_76 ?_
    refine j_iload_n g 2 rfl dX6_findSums_79 ?_
    obtain ⟨hv2, h⟩ := h
    refine j_zald g 10 md_10 hv2 dX6_findSums_80 ?_
    refine j_if_eq g dX6_findSums_81 (tgt := 88) (by decide) (fun c3 => ?_) (fun c3 => ?_)
    · replace h := h.1 c3
      refine j_ldc g (v := 1000000) ld_X6_85 dX6_findSums_88 ?_
      obtain ⟨hv4, h⟩ := h
      refine j_iast g 11 md_11 hv4 (ws' := (mdW a q mtd mnk mva mno mro mtu mbx mst mja mpr mcr mow mhd mmo mbk mca (upd mfr x2.toNatClampNeg (1000000 : Int32)) mrs mrk mfe mus mgi maj)) rfl dX6_findSums_90 ?_
      refine j_iinc g 2 (n := 1) (v := x2 + 1) (lv' := [(2, .int (x2 + 1)), (0, .ref (a 0)), (1, .int x1)]) rfl rfl (by decide) rfl dX6_findSums_91 ?_
      refine j_goto g dX6_findSums_94 (tgt := 63) (by decide) ?_
      refine j_sub [1, 2, 0] rfl ?_
      exact ih (x2 + 1) (upd mfr x2.toNatClampNeg (1000000 : Int32)) h
    replace h := h.2 c3
    refine j_iconst g (v := 0) (by decide) dX6_findSums_84 ?_
    refine j_goto g dX6_findSums_85 (tgt := 90) (by decide) ?_
    obtain ⟨hv5, h⟩ := h
    refine j_iast g 11 md_11 hv5 (ws' := (mdW a q mtd mnk mva mno mro mtu mbx mst mja mpr mcr mow mhd mmo mbk mca (upd mfr x2.toNatClampNeg (0 : Int32)) mrs mrk mfe mus mgi maj)) rfl dX6_findSums_90 ?_
    refine j_iinc g 2 (n := 1) (v := x2 + 1) (lv' := [(2, .int (x2 + 1)), (0, .ref (a 0)), (1, .int x1)]) rfl rfl (by decide) rfl dX6_findSums_91 ?_
    refine j_goto g dX6_findSums_94 (tgt := 63) (by decide) ?_
    refine j_sub [1, 2, 0] rfl ?_
    exact ih (x2 + 1) (upd mfr x2.toNatClampNeg (0 : Int32)) h
set_option maxRecDepth 20000 in
set_option maxHeartbeats 4000000 in
theorem wk_X6_findSums_104 {Γ : GT} {a : Nat → Nat} {q : Nat → ClassId} {x1 : Int32}  {mtd : Int32} {mnk : Int32} {mva : Nat → Int32} {mno : Nat → Int32} {mro : Nat → Int32} {mtu : Nat → Int32} {mbx : Nat → Int32} {mst : Nat → Int32} {mja : Nat → Int32} {mpr : Nat → Int32} {mcr : Int32} {mow : Int32} {mhd : Int32} {mmo : Int32} {mbk : Nat → Int32} {mrs : Int32} {mrk : Nat → Int32} {mfe : Nat → Int32} {mus : Nat → Int32} {mgi : Nat → Int32} {maj : Nat → Int32} {K : (Nat → Int32) → (Nat → Int32) → Prop} {X : (Nat → Int32) → (Nat → Int32) → Prop} (g : gd Γ cX6_findSums RX6 3 (rmz 0 0) q) (hret : rtV_2 Γ cX6_findSums 3 (fun (mca : Nat → Int32) (mfr : Nat → Int32) => (mdW a q mtd mnk mva mno mro mtu mbx mst mja mpr mcr mow mhd mmo mbk mca mfr mrs mrk mfe mus mgi maj)) K) (hX : ∀ (mca : Nat → Int32) (mfr : Nat → Int32) , X mca mfr → jw Γ 3 0 0 (mdW a q mtd mnk mva mno mro mtu mbx mst mja mpr mcr mow mhd mmo mbk mca mfr mrs mrk mfe mus mgi maj) [(0, .ref (a 0)), (1, .int x1)] [] 179) :
    ∀ (n : Nat) (x2 : Int32) (mca : Nat → Int32) (mfr : Nat → Int32) , wp_X6_findSums_104 x1 mva mtu K X n x2 mca mfr → jw Γ 3 0 0 (mdW a q mtd mnk mva mno mro mtu mbx mst mja mpr mcr mow mhd mmo mbk mca mfr mrs mrk mfe mus mgi maj) [(0, .ref (a 0)), (1, .int x1), (2, .int x2)] [] 104 := by
  intro n
  induction n with
  | zero =>
    intro _ _ _ h
    exact False.elim h
  | succ n ih =>
    intro x2 mca mfr h
    unfold wp_X6_findSums_104 at h
    refine j_iload_n g 2 rfl dX6_findSums_104 ?_
    refine j_sipush g (v := 999) (by decide) dX6_findSums_105 ?_
    refine j_icmp_gt g dX6_findSums_108 (tgt := 179) (by decide) (fun c1 => ?_) (fun c1 => ?_)
    · replace h := h.1 c1
      refine j_sub [0, 1] rfl ?_
      exact hX mca mfr h
    replace h := h.2 c1
    refine j_aload_n g 0 rfl dX6_findSums_111 ?_
    refine j_get g fl_X6_42 0 md_0 rfl dX6_findSums_112 ?_
    refine j_iload_n g 2 rfl dX6_findSums_115 ?_
    obtain ⟨hv2, h⟩ := h
    refine j_zald g 10 md_10 hv2 dX6_findSums_116 ?_
    refine j_if_ne g dX6_findSums_117 (tgt := 173) (by decide) (fun c3 => ?_) (fun c3 => ?_)
    · replace h := h.1 c3
      refine j_iinc g 2 (n := 1) (v := x2 + 1) (lv' := [(2, .int (x2 + 1)), (0, .ref (a 0)), (1, .int x1)]) rfl rfl (by decide) rfl dX6_findSums_173 ?_
      refine j_goto g dX6_findSums_176 (tgt := 104) (by decide) ?_
      refine j_sub [1, 2, 0] rfl ?_
      exact ih (x2 + 1) mca mfr h
    replace h := h.2 c3
    refine j_aload_n g 0 rfl dX6_findSums_120 ?_
    refine j_get g fl_X6_45 0 md_0 rfl dX6_findSums_121 ?_
    refine j_iload_n g 2 rfl dX6_findSums_124 ?_
    refine j_aload_n g 0 rfl dX6_findSums_125 ?_
    refine j_get g fl_X6_7 0 md_0 rfl dX6_findSums_126 ?_
    refine j_iload_n g 1 rfl dX6_findSums_129 ?_
    obtain ⟨hv4, h⟩ := h
    refine j_iald g 1 md_1 hv4 dX6_findSums_130 ?_
    refine j_isub g dX6_findSums_131 ?_
    obtain ⟨hv5, h⟩ := h
    refine j_iald g 11 md_11 hv5 dX6_findSums_132 ?_
    refine j_aload_n g 0 rfl dX6_findSums_133 ?_
    refine j_get g fl_X6_20 0 md_0 rfl dX6_findSums_134 ?_
    refine j_iload_n g 1 rfl dX6_findSums_137 ?_
    obtain ⟨hv6, h⟩ := h
    refine j_iald g 4 md_4 hv6 dX6_findSums_138 ?_
    refine j_icmp_lt g dX6_findSums_139 (tgt := 145) (by decide) (fun c7 => ?_) (fun c7 => ?_)
    rotate_left
    · replace h := h.2 c7
      refine j_goto g dX6_findSums_142 (tgt := 173) (by decide) ?_
      refine j_iinc g 2 (n := 1) (v := x2 + 1) (lv' := [(2, .int (x2 + 1)), (0, .ref (a 0)), (1, .int x1)]) rfl rfl (by decide) rfl dX6_findSums_173 ?_
      refine j_goto g dX6_findSums_176 (tgt := 104) (by decide) ?_
      refine j_sub [1, 2, 0] rfl ?_
      exact ih (x2 + 1) mca mfr h
    replace h := h.1 c7
    refine j_aload_n g 0 rfl dX6_findSums_145 ?_
    refine j_get g fl_X6_42 0 md_0 rfl dX6_findSums_146 ?_
    refine j_iload_n g 2 rfl dX6_findSums_149 ?_
    refine j_iconst g (v := 1) (by decide) dX6_findSums_150 ?_
    obtain ⟨hv8, h⟩ := h
    refine j_zast g 10 md_10 hv8 (nz_v (Or.inr rfl)) (ws' := (mdW a q mtd mnk mva mno mro mtu mbx mst mja mpr mcr mow mhd mmo mbk (upd mca x2.toNatClampNeg (1 : Int32)) mfr mrs mrk mfe mus mgi maj)) rfl dX6_findSums_151 ?_
    refine j_aload_n g 0 rfl dX6_findSums_152 ?_
    refine j_get g fl_X6_45 0 md_0 rfl dX6_findSums_153 ?_
    refine j_iload_n g 2 rfl dX6_findSums_156 ?_
    refine j_aload_n g 0 rfl dX6_findSums_157 ?_
    refine j_get g fl_X6_45 0 md_0 rfl dX6_findSums_158 ?_
    refine j_iload_n g 2 rfl dX6_findSums_161 ?_
    refine j_aload_n g 0 rfl dX6_findSums_162 ?_
    refine j_get g fl_X6_7 0 md_0 rfl dX6_findSums_163 ?_
    refine j_iload_n g 1 rfl dX6_findSums_166 ?_
    obtain ⟨hv9, h⟩ := h
    refine j_iald g 1 md_1 hv9 dX6_findSums_167 ?_
    refine j_isub g dX6_findSums_168 ?_
    obtain ⟨hv10, h⟩ := h
    refine j_iald g 11 md_11 hv10 dX6_findSums_169 ?_
    refine j_iconst g (v := 1) (by decide) dX6_findSums_170 ?_
    refine j_iadd g dX6_findSums_171 ?_
    obtain ⟨hv11, h⟩ := h
    refine j_iast g 11 md_11 hv11 (ws' := (mdW a q mtd mnk mva mno mro mtu mbx mst mja mpr mcr mow mhd mmo mbk (upd mca x2.toNatClampNeg (1 : Int32)) (upd mfr x2.toNatClampNeg ((mfr (x2 - (mva x1.toNatClampNeg)).toNatClampNeg) + (1 : Int32))) mrs mrk mfe mus mgi maj)) rfl dX6_findSums_172 ?_
    refine j_iinc g 2 (n := 1) (v := x2 + 1) (lv' := [(2, .int (x2 + 1)), (0, .ref (a 0)), (1, .int x1)]) rfl rfl (by decide) rfl dX6_findSums_173 ?_
    refine j_goto g dX6_findSums_176 (tgt := 104) (by decide) ?_
    refine j_sub [1, 2, 0] rfl ?_
    exact ih (x2 + 1) (upd mca x2.toNatClampNeg (1 : Int32)) (upd mfr x2.toNatClampNeg ((mfr (x2 - (mva x1.toNatClampNeg)).toNatClampNeg) + (1 : Int32))) h
set_option maxRecDepth 20000 in
set_option maxHeartbeats 4000000 in
theorem wk_X6_findSums_32 {Γ : GT} {a : Nat → Nat} {q : Nat → ClassId}   {mtd : Int32} {mnk : Int32} {mva : Nat → Int32} {mno : Nat → Int32} {mro : Nat → Int32} {mtu : Nat → Int32} {mbx : Nat → Int32} {mst : Nat → Int32} {mja : Nat → Int32} {mpr : Nat → Int32} {mcr : Int32} {mow : Int32} {mhd : Int32} {mmo : Int32} {mbk : Nat → Int32} {mrs : Int32} {mrk : Nat → Int32} {mfe : Nat → Int32} {mus : Nat → Int32} {mgi : Nat → Int32} {maj : Nat → Int32} {K : (Nat → Int32) → (Nat → Int32) → Prop} {X : (Nat → Int32) → (Nat → Int32) → Prop} (g : gd Γ cX6_findSums RX6 3 (rmz 0 0) q) (hret : rtV_2 Γ cX6_findSums 3 (fun (mca : Nat → Int32) (mfr : Nat → Int32) => (mdW a q mtd mnk mva mno mro mtu mbx mst mja mpr mcr mow mhd mmo mbk mca mfr mrs mrk mfe mus mgi maj)) K) (hX : ∀ (mca : Nat → Int32) (mfr : Nat → Int32) , X mca mfr → jw Γ 3 0 0 (mdW a q mtd mnk mva mno mro mtu mbx mst mja mpr mcr mow mhd mmo mbk mca mfr mrs mrk mfe mus mgi maj) [] [] 185) :
    ∀ (n : Nat) (x1 : Int32) (mca : Nat → Int32) (mfr : Nat → Int32) , wp_X6_findSums_32 mnk mva mno mtu mst K X n x1 mca mfr → jw Γ 3 0 0 (mdW a q mtd mnk mva mno mro mtu mbx mst mja mpr mcr mow mhd mmo mbk mca mfr mrs mrk mfe mus mgi maj) [(0, .ref (a 0)), (1, .int x1)] [] 32 := by
  intro n
  induction n with
  | zero =>
    intro _ _ _ h
    exact False.elim h
  | succ n ih =>
    intro x1 mca mfr h
    unfold wp_X6_findSums_32 at h
    refine j_iload_n g 1 rfl dX6_findSums_32 ?_
    refine j_aload_n g 0 rfl dX6_findSums_33 ?_
    refine j_get g fl_X6_66 0 md_0 rfl dX6_findSums_34 ?_
    refine j_icmp_ge g dX6_findSums_37 (tgt := 185) (by decide) (fun c1 => ?_) (fun c1 => ?_)
    · replace h := h.1 c1
      refine j_sub [] rfl ?_
      exact hX mca mfr h
    replace h := h.2 c1
    refine j_aload_n g 0 rfl dX6_findSums_40 ?_
    refine j_get g fl_X6_13 0 md_0 rfl dX6_findSums_41 ?_
    refine j_iload_n g 1 rfl dX6_findSums_44 ?_
    obtain ⟨hv2, h⟩ := h
    refine j_zald g 2 md_2 hv2 dX6_findSums_45 ?_
    refine j_if_ne g dX6_findSums_46 (tgt := 179) (by decide) (fun c3 => ?_) (fun c3 => ?_)
    · replace h := h.1 c3
      refine j_iinc g 1 (n := 1) (v := x1 + 1) (lv' := [(1, .int (x1 + 1)), (0, .ref (a 0))]) rfl rfl (by decide) rfl dX6_findSums_179 ?_
      refine j_goto g dX6_findSums_182 (tgt := 32) (by decide) ?_
      refine j_sub [1, 0] rfl ?_
      exact ih (x1 + 1) mca mfr h
    replace h := h.2 c3
    refine j_aload_n g 0 rfl dX6_findSums_49 ?_
    refine j_get g fl_X6_26 0 md_0 rfl dX6_findSums_50 ?_
    refine j_iload_n g 1 rfl dX6_findSums_53 ?_
    obtain ⟨hv4, h⟩ := h
    refine j_zald g 6 md_6 hv4 dX6_findSums_54 ?_
    refine j_if_eq g dX6_findSums_55 (tgt := 61) (by decide) (fun c5 => ?_) (fun c5 => ?_)
    rotate_left
    · replace h := h.2 c5
      refine j_goto g dX6_findSums_58 (tgt := 179) (by decide) ?_
      refine j_iinc g 1 (n := 1) (v := x1 + 1) (lv' := [(1, .int (x1 + 1)), (0, .ref (a 0))]) rfl rfl (by decide) rfl dX6_findSums_179 ?_
      refine j_goto g dX6_findSums_182 (tgt := 32) (by decide) ?_
      refine j_sub [1, 0] rfl ?_
      exact ih (x1 + 1) mca mfr h
    replace h := h.1 c5
    refine j_iconst g (v := 0) (by decide) dX6_findSums_61 ?_
    refine j_istore_n g (lv' := [(2, .int (0 : Int32)), (0, .ref (a 0)), (1, .int x1)]) (by decide) rfl dX6_findSums_62 ?_
    obtain ⟨n6, h⟩ := h
    refine j_sub [1, 2, 0] rfl ?_
    refine wk_X6_findSums_63  g hret (fun mfr_6 h => ?_) n6 (0 : Int32) mfr h
    refine j_aload_n g 0 rfl dX6_findSums_97 ?_
    refine j_get g fl_X6_7 0 md_0 rfl dX6_findSums_98 ?_
    refine j_iload_n g 1 rfl dX6_findSums_101 ?_
    obtain ⟨hv7, h⟩ := h
    refine j_iald g 1 md_1 hv7 dX6_findSums_102 ?_
    refine j_istore_n g (lv' := [(2, .int (mva x1.toNatClampNeg)), (0, .ref (a 0)), (1, .int x1)]) (by decide) rfl dX6_findSums_103 ?_
    obtain ⟨n8, h⟩ := h
    refine j_sub [1, 2, 0] rfl ?_
    refine wk_X6_findSums_104  g hret (fun mca_8 mfr_8 h => ?_) n8 (mva x1.toNatClampNeg) mca mfr_6 h
    refine j_iinc g 1 (n := 1) (v := x1 + 1) (lv' := [(1, .int (x1 + 1)), (0, .ref (a 0))]) rfl rfl (by decide) rfl dX6_findSums_179 ?_
    refine j_goto g dX6_findSums_182 (tgt := 32) (by decide) ?_
    refine j_sub [1, 0] rfl ?_
    exact ih (x1 + 1) mca_8 mfr_8 h
set_option maxRecDepth 20000 in
set_option maxHeartbeats 4000000 in
theorem c_X6_findSums {a : Nat → Nat} {q : Nat → ClassId}   {mtd : Int32} {mnk : Int32} {mva : Nat → Int32} {mno : Nat → Int32} {mro : Nat → Int32} {mtu : Nat → Int32} {mbx : Nat → Int32} {mst : Nat → Int32} {mja : Nat → Int32} {mpr : Nat → Int32} {mcr : Int32} {mow : Int32} {mhd : Int32} {mmo : Int32} {mbk : Nat → Int32} {mca : Nat → Int32} {mfr : Nat → Int32} {mrs : Int32} {mrk : Nat → Int32} {mfe : Nat → Int32} {mus : Nat → Int32} {mgi : Nat → Int32} {maj : Nat → Int32} {K : (Nat → Int32) → (Nat → Int32) → Prop} (h : wp_X6_findSums mnk mva mno mtu mst mca mfr K) : ctV_2 q yX6_findSums cX6_findSums 3 0 0 [.ref (a 0)] (mdW a q mtd mnk mva mno mro mtu mbx mst mja mpr mcr mow mhd mmo mbk mca mfr mrs mrk mfe mus mgi maj) (fun (mca : Nat → Int32) (mfr : Nat → Int32) => (mdW a q mtd mnk mva mno mro mtu mbx mst mja mpr mcr mow mhd mmo mbk mca mfr mrs mrk mfe mus mgi maj)) K := by
  refine met_V_2 (by decide) (Nat.le_of_ble_eq_true rfl) (fun Γ g hret => ?_)
  unfold wp_X6_findSums at h
  show jw Γ 3 0 0 (mdW a q mtd mnk mva mno mro mtu mbx mst mja mpr mcr mow mhd mmo mbk mca mfr mrs mrk mfe mus mgi maj) [(0, .ref (a 0))] [] 0
  refine j_iconst g (v := 0) (by decide) dX6_findSums_0 ?_
  refine j_istore_n g (lv' := [(1, .int (0 : Int32)), (0, .ref (a 0))]) (by decide) rfl dX6_findSums_1 ?_
  obtain ⟨n1, h⟩ := h
  refine j_sub [1, 0] rfl ?_
  refine wk_X6_findSums_2  g hret (fun mca_1 h => ?_) n1 (0 : Int32) mca h
  refine j_iconst g (v := 0) (by decide) dX6_findSums_30 ?_
  refine j_istore_n g (lv' := [(1, .int (0 : Int32)), (0, .ref (a 0))]) (by decide) rfl dX6_findSums_31 ?_
  obtain ⟨n2, h⟩ := h
  refine j_sub [1, 0] rfl ?_
  refine wk_X6_findSums_32  g hret (fun mca_2 mfr_2 h => ?_) n2 (0 : Int32) mca_1 mfr h
  exact hret.go dX6_findSums_185 h

set_option maxRecDepth 20000 in
def wp_X6_rank_32 (x1 : Int32) (mva : Nat → Int32) (K : Int32 → (Nat → Int32) → Prop) (X : Int32 → (Nat → Int32) → Prop) : Nat → Int32 → (Nat → Int32) → Prop
  | 0, _, _ => False
  | n + 1, x2, mrk => ((x2 ≤ 0 → X x2 mrk) ∧ (¬ x2 ≤ 0 → (vp_in (x2 - (1 : Int32)) 6 ∧ (vp_in (mrk (x2 - (1 : Int32)).toNatClampNeg) 6 ∧ (vp_in x1 6 ∧ ((mva x1.toNatClampNeg ≤ mva (mrk (x2 - (1 : Int32)).toNatClampNeg).toNatClampNeg → X x2 mrk) ∧ (¬ mva x1.toNatClampNeg ≤ mva (mrk (x2 - (1 : Int32)).toNatClampNeg).toNatClampNeg → (vp_in (x2 - (1 : Int32)) 6 ∧ (vp_in x2 6 ∧ wp_X6_rank_32 x1 mva K X n (x2 - (1 : Int32)) (upd mrk x2.toNatClampNeg (mrk (x2 - (1 : Int32)).toNatClampNeg)))))))))))
set_option maxRecDepth 20000 in
def wp_X6_rank_7  (mnk : Int32) (mva : Nat → Int32) (mno : Nat → Int32) (K : Int32 → (Nat → Int32) → Prop) (X : Int32 → (Nat → Int32) → Prop) : Nat → Int32 → Int32 → (Nat → Int32) → Prop
  | 0, _, _, _ => False
  | n + 1, x1, mrs, mrk => ((mnk ≤ x1 → X mrs mrk) ∧ (¬ mnk ≤ x1 → (vp_in x1 6 ∧ ((mno x1.toNatClampNeg = 0 → ∃ n4 : Nat, wp_X6_rank_32 x1 mva K (fun (x2_4 : Int32) (mrk_4 : Nat → Int32) => (vp_in x2_4 6 ∧ wp_X6_rank_7 mnk mva mno K X n (x1 + 1) (mrs + (1 : Int32)) (upd mrk_4 x2_4.toNatClampNeg x1))) n4 mrs mrk) ∧ (¬ mno x1.toNatClampNeg = 0 → wp_X6_rank_7 mnk mva mno K X n (x1 + 1) mrs mrk)))))
set_option maxRecDepth 20000 in
def wp_X6_rank  (mnk : Int32) (mva : Nat → Int32) (mno : Nat → Int32) (mrs : Int32) (mrk : Nat → Int32) (K : Int32 → (Nat → Int32) → Prop) : Prop :=
  ∃ n1 : Nat, wp_X6_rank_7 mnk mva mno K (fun (mrs_1 : Int32) (mrk_1 : Nat → Int32) => K mrs_1 mrk_1) n1 (0 : Int32) (0 : Int32) mrk
theorem dX6_rank_0 : decode cX6_rank 0 = .ok (.aload_n 0, 1) := by decide +kernel
theorem dX6_rank_1 : decode cX6_rank 1 = .ok (.iconst 0, 1) := by decide +kernel
theorem dX6_rank_2 : decode cX6_rank 2 = .ok (.putfield 86, 3) := by decide +kernel
theorem dX6_rank_5 : decode cX6_rank 5 = .ok (.iconst 0, 1) := by decide +kernel
theorem dX6_rank_6 : decode cX6_rank 6 = .ok (.istore_n 1, 1) := by decide +kernel
theorem dX6_rank_7 : decode cX6_rank 7 = .ok (.iload_n 1, 1) := by decide +kernel
theorem dX6_rank_8 : decode cX6_rank 8 = .ok (.aload_n 0, 1) := by decide +kernel
theorem dX6_rank_9 : decode cX6_rank 9 = .ok (.getfield 66, 3) := by decide +kernel
theorem dX6_rank_12 : decode cX6_rank 12 = .ok (.if_icmp .ge 90, 3) := by decide +kernel
theorem dX6_rank_15 : decode cX6_rank 15 = .ok (.aload_n 0, 1) := by decide +kernel
theorem dX6_rank_16 : decode cX6_rank 16 = .ok (.getfield 13, 3) := by decide +kernel
theorem dX6_rank_19 : decode cX6_rank 19 = .ok (.iload_n 1, 1) := by decide +kernel
theorem dX6_rank_20 : decode cX6_rank 20 = .ok (.baload, 1) := by decide +kernel
theorem dX6_rank_21 : decode cX6_rank 21 = .ok (.ifCond .eq 6, 3) := by decide +kernel
theorem dX6_rank_24 : decode cX6_rank 24 = .ok (.goto 72, 3) := by decide +kernel
theorem dX6_rank_27 : decode cX6_rank 27 = .ok (.aload_n 0, 1) := by decide +kernel
theorem dX6_rank_28 : decode cX6_rank 28 = .ok (.getfield 86, 3) := by decide +kernel
theorem dX6_rank_31 : decode cX6_rank 31 = .ok (.istore_n 2, 1) := by decide +kernel
theorem dX6_rank_32 : decode cX6_rank 32 = .ok (.iload_n 2, 1) := by decide +kernel
theorem dX6_rank_33 : decode cX6_rank 33 = .ok (.ifCond .le 46, 3) := by decide +kernel
theorem dX6_rank_36 : decode cX6_rank 36 = .ok (.aload_n 0, 1) := by decide +kernel
theorem dX6_rank_37 : decode cX6_rank 37 = .ok (.getfield 7, 3) := by decide +kernel
theorem dX6_rank_40 : decode cX6_rank 40 = .ok (.aload_n 0, 1) := by decide +kernel
theorem dX6_rank_41 : decode cX6_rank 41 = .ok (.getfield 48, 3) := by decide +kernel
theorem dX6_rank_44 : decode cX6_rank 44 = .ok (.iload_n 2, 1) := by decide +kernel
theorem dX6_rank_45 : decode cX6_rank 45 = .ok (.iconst 1, 1) := by decide +kernel
theorem dX6_rank_46 : decode cX6_rank 46 = .ok (.isub, 1) := by decide +kernel
theorem dX6_rank_47 : decode cX6_rank 47 = .ok (.iaload, 1) := by decide +kernel
theorem dX6_rank_48 : decode cX6_rank 48 = .ok (.iaload, 1) := by decide +kernel
theorem dX6_rank_49 : decode cX6_rank 49 = .ok (.aload_n 0, 1) := by decide +kernel
theorem dX6_rank_50 : decode cX6_rank 50 = .ok (.getfield 7, 3) := by decide +kernel
theorem dX6_rank_53 : decode cX6_rank 53 = .ok (.iload_n 1, 1) := by decide +kernel
theorem dX6_rank_54 : decode cX6_rank 54 = .ok (.iaload, 1) := by decide +kernel
theorem dX6_rank_55 : decode cX6_rank 55 = .ok (.if_icmp .ge 24, 3) := by decide +kernel
theorem dX6_rank_58 : decode cX6_rank 58 = .ok (.aload_n 0, 1) := by decide +kernel
theorem dX6_rank_59 : decode cX6_rank 59 = .ok (.getfield 48, 3) := by decide +kernel
theorem dX6_rank_62 : decode cX6_rank 62 = .ok (.iload_n 2, 1) := by decide +kernel
theorem dX6_rank_63 : decode cX6_rank 63 = .ok (.aload_n 0, 1) := by decide +kernel
theorem dX6_rank_64 : decode cX6_rank 64 = .ok (.getfield 48, 3) := by decide +kernel
theorem dX6_rank_67 : decode cX6_rank 67 = .ok (.iload_n 2, 1) := by decide +kernel
theorem dX6_rank_68 : decode cX6_rank 68 = .ok (.iconst 1, 1) := by decide +kernel
theorem dX6_rank_69 : decode cX6_rank 69 = .ok (.isub, 1) := by decide +kernel
theorem dX6_rank_70 : decode cX6_rank 70 = .ok (.iaload, 1) := by decide +kernel
theorem dX6_rank_71 : decode cX6_rank 71 = .ok (.iastore, 1) := by decide +kernel
theorem dX6_rank_72 : decode cX6_rank 72 = .ok (.iload_n 2, 1) := by decide +kernel
theorem dX6_rank_73 : decode cX6_rank 73 = .ok (.iconst 1, 1) := by decide +kernel
theorem dX6_rank_74 : decode cX6_rank 74 = .ok (.isub, 1) := by decide +kernel
theorem dX6_rank_75 : decode cX6_rank 75 = .ok (.istore_n 2, 1) := by decide +kernel
theorem dX6_rank_76 : decode cX6_rank 76 = .ok (.goto (-44), 3) := by decide +kernel
theorem dX6_rank_79 : decode cX6_rank 79 = .ok (.aload_n 0, 1) := by decide +kernel
theorem dX6_rank_80 : decode cX6_rank 80 = .ok (.getfield 48, 3) := by decide +kernel
theorem dX6_rank_83 : decode cX6_rank 83 = .ok (.iload_n 2, 1) := by decide +kernel
theorem dX6_rank_84 : decode cX6_rank 84 = .ok (.iload_n 1, 1) := by decide +kernel
theorem dX6_rank_85 : decode cX6_rank 85 = .ok (.iastore, 1) := by decide +kernel
theorem dX6_rank_86 : decode cX6_rank 86 = .ok (.aload_n 0, 1) := by decide +kernel
theorem dX6_rank_87 : decode cX6_rank 87 = .ok (.aload_n 0, 1) := by decide +kernel
theorem dX6_rank_88 : decode cX6_rank 88 = .ok (.getfield 86, 3) := by decide +kernel
theorem dX6_rank_91 : decode cX6_rank 91 = .ok (.iconst 1, 1) := by decide +kernel
theorem dX6_rank_92 : decode cX6_rank 92 = .ok (.iadd, 1) := by decide +kernel
theorem dX6_rank_93 : decode cX6_rank 93 = .ok (.putfield 86, 3) := by decide +kernel
theorem dX6_rank_96 : decode cX6_rank 96 = .ok (.iinc 1 1, 3) := by decide +kernel
theorem dX6_rank_99 : decode cX6_rank 99 = .ok (.goto (-92), 3) := by decide +kernel
theorem dX6_rank_102 : decode cX6_rank 102 = .ok (.return_, 1) := by decide +kernel
set_option maxRecDepth 20000 in
set_option maxHeartbeats 4000000 in
theorem wk_X6_rank_32 {Γ : GT} {a : Nat → Nat} {q : Nat → ClassId} {x1 : Int32}  {mtd : Int32} {mnk : Int32} {mva : Nat → Int32} {mno : Nat → Int32} {mro : Nat → Int32} {mtu : Nat → Int32} {mbx : Nat → Int32} {mst : Nat → Int32} {mja : Nat → Int32} {mpr : Nat → Int32} {mcr : Int32} {mow : Int32} {mhd : Int32} {mmo : Int32} {mbk : Nat → Int32} {mca : Nat → Int32} {mfr : Nat → Int32} {mrs : Int32} {mfe : Nat → Int32} {mus : Nat → Int32} {mgi : Nat → Int32} {maj : Nat → Int32} {K : Int32 → (Nat → Int32) → Prop} {X : Int32 → (Nat → Int32) → Prop} (g : gd Γ cX6_rank RX6 3 (rmz 0 0) q) (hret : rtV_2 Γ cX6_rank 3 (fun (mrs : Int32) (mrk : Nat → Int32) => (mdW a q mtd mnk mva mno mro mtu mbx mst mja mpr mcr mow mhd mmo mbk mca mfr mrs mrk mfe mus mgi maj)) K) (hX : ∀ (x2 : Int32) (mrk : Nat → Int32) , X x2 mrk → jw Γ 3 0 0 (mdW a q mtd mnk mva mno mro mtu mbx mst mja mpr mcr mow mhd mmo mbk mca mfr mrs mrk mfe mus mgi maj) [(0, .ref (a 0)), (1, .int x1), (2, .int x2)] [] 79) :
    ∀ (n : Nat) (x2 : Int32) (mrk : Nat → Int32) , wp_X6_rank_32 x1 mva K X n x2 mrk → jw Γ 3 0 0 (mdW a q mtd mnk mva mno mro mtu mbx mst mja mpr mcr mow mhd mmo mbk mca mfr mrs mrk mfe mus mgi maj) [(0, .ref (a 0)), (1, .int x1), (2, .int x2)] [] 32 := by
  intro n
  induction n with
  | zero =>
    intro _ _ h
    exact False.elim h
  | succ n ih =>
    intro x2 mrk h
    unfold wp_X6_rank_32 at h
    refine j_iload_n g 2 rfl dX6_rank_32 ?_
    refine j_if_le g dX6_rank_33 (tgt := 79) (by decide) (fun c1 => ?_) (fun c1 => ?_)
    · replace h := h.1 c1
      exact hX x2 mrk h
    replace h := h.2 c1
    refine j_aload_n g 0 rfl dX6_rank_36 ?_
    refine j_get g fl_X6_7 0 md_0 rfl dX6_rank_37 ?_
    refine j_aload_n g 0 rfl dX6_rank_40 ?_
    refine j_get g fl_X6_48 0 md_0 rfl dX6_rank_41 ?_
    refine j_iload_n g 2 rfl dX6_rank_44 ?_
    refine j_iconst g (v := 1) (by decide) dX6_rank_45 ?_
    refine j_isub g dX6_rank_46 ?_
    obtain ⟨hv2, h⟩ := h
    refine j_iald g 12 md_12 hv2 dX6_rank_47 ?_
    obtain ⟨hv3, h⟩ := h
    refine j_iald g 1 md_1 hv3 dX6_rank_48 ?_
    refine j_aload_n g 0 rfl dX6_rank_49 ?_
    refine j_get g fl_X6_7 0 md_0 rfl dX6_rank_50 ?_
    refine j_iload_n g 1 rfl dX6_rank_53 ?_
    obtain ⟨hv4, h⟩ := h
    refine j_iald g 1 md_1 hv4 dX6_rank_54 ?_
    refine j_icmp_ge g dX6_rank_55 (tgt := 79) (by decide) (fun c5 => ?_) (fun c5 => ?_)
    · replace h := h.1 c5
      exact hX x2 mrk h
    replace h := h.2 c5
    refine j_aload_n g 0 rfl dX6_rank_58 ?_
    refine j_get g fl_X6_48 0 md_0 rfl dX6_rank_59 ?_
    refine j_iload_n g 2 rfl dX6_rank_62 ?_
    refine j_aload_n g 0 rfl dX6_rank_63 ?_
    refine j_get g fl_X6_48 0 md_0 rfl dX6_rank_64 ?_
    refine j_iload_n g 2 rfl dX6_rank_67 ?_
    refine j_iconst g (v := 1) (by decide) dX6_rank_68 ?_
    refine j_isub g dX6_rank_69 ?_
    obtain ⟨hv6, h⟩ := h
    refine j_iald g 12 md_12 hv6 dX6_rank_70 ?_
    obtain ⟨hv7, h⟩ := h
    refine j_iast g 12 md_12 hv7 (ws' := (mdW a q mtd mnk mva mno mro mtu mbx mst mja mpr mcr mow mhd mmo mbk mca mfr mrs (upd mrk x2.toNatClampNeg (mrk (x2 - (1 : Int32)).toNatClampNeg)) mfe mus mgi maj)) rfl dX6_rank_71 ?_
    refine j_iload_n g 2 rfl dX6_rank_72 ?_
    refine j_iconst g (v := 1) (by decide) dX6_rank_73 ?_
    refine j_isub g dX6_rank_74 ?_
    refine j_istore_n g (lv' := [(2, .int (x2 - (1 : Int32))), (0, .ref (a 0)), (1, .int x1)]) (by decide) rfl dX6_rank_75 ?_
    refine j_goto g dX6_rank_76 (tgt := 32) (by decide) ?_
    refine j_sub [1, 2, 0] rfl ?_
    exact ih (x2 - (1 : Int32)) (upd mrk x2.toNatClampNeg (mrk (x2 - (1 : Int32)).toNatClampNeg)) h
set_option maxRecDepth 20000 in
set_option maxHeartbeats 4000000 in
theorem wk_X6_rank_7 {Γ : GT} {a : Nat → Nat} {q : Nat → ClassId}   {mtd : Int32} {mnk : Int32} {mva : Nat → Int32} {mno : Nat → Int32} {mro : Nat → Int32} {mtu : Nat → Int32} {mbx : Nat → Int32} {mst : Nat → Int32} {mja : Nat → Int32} {mpr : Nat → Int32} {mcr : Int32} {mow : Int32} {mhd : Int32} {mmo : Int32} {mbk : Nat → Int32} {mca : Nat → Int32} {mfr : Nat → Int32} {mfe : Nat → Int32} {mus : Nat → Int32} {mgi : Nat → Int32} {maj : Nat → Int32} {K : Int32 → (Nat → Int32) → Prop} {X : Int32 → (Nat → Int32) → Prop} (g : gd Γ cX6_rank RX6 3 (rmz 0 0) q) (hret : rtV_2 Γ cX6_rank 3 (fun (mrs : Int32) (mrk : Nat → Int32) => (mdW a q mtd mnk mva mno mro mtu mbx mst mja mpr mcr mow mhd mmo mbk mca mfr mrs mrk mfe mus mgi maj)) K) (hX : ∀ (mrs : Int32) (mrk : Nat → Int32) , X mrs mrk → jw Γ 3 0 0 (mdW a q mtd mnk mva mno mro mtu mbx mst mja mpr mcr mow mhd mmo mbk mca mfr mrs mrk mfe mus mgi maj) [] [] 102) :
    ∀ (n : Nat) (x1 : Int32) (mrs : Int32) (mrk : Nat → Int32) , wp_X6_rank_7 mnk mva mno K X n x1 mrs mrk → jw Γ 3 0 0 (mdW a q mtd mnk mva mno mro mtu mbx mst mja mpr mcr mow mhd mmo mbk mca mfr mrs mrk mfe mus mgi maj) [(0, .ref (a 0)), (1, .int x1)] [] 7 := by
  intro n
  induction n with
  | zero =>
    intro _ _ _ h
    exact False.elim h
  | succ n ih =>
    intro x1 mrs mrk h
    unfold wp_X6_rank_7 at h
    refine j_iload_n g 1 rfl dX6_rank_7 ?_
    refine j_aload_n g 0 rfl dX6_rank_8 ?_
    refine j_get g fl_X6_66 0 md_0 rfl dX6_rank_9 ?_
    refine j_icmp_ge g dX6_rank_12 (tgt := 102) (by decide) (fun c1 => ?_) (fun c1 => ?_)
    · replace h := h.1 c1
      refine j_sub [] rfl ?_
      exact hX mrs mrk h
    replace h := h.2 c1
    refine j_aload_n g 0 rfl dX6_rank_15 ?_
    refine j_get g fl_X6_13 0 md_0 rfl dX6_rank_16 ?_
    refine j_iload_n g 1 rfl dX6_rank_19 ?_
    obtain ⟨hv2, h⟩ := h
    refine j_zald g 2 md_2 hv2 dX6_rank_20 ?_
    refine j_if_eq g dX6_rank_21 (tgt := 27) (by decide) (fun c3 => ?_) (fun c3 => ?_)
    rotate_left
    · replace h := h.2 c3
      refine j_goto g dX6_rank_24 (tgt := 96) (by decide) ?_
      refine j_iinc g 1 (n := 1) (v := x1 + 1) (lv' := [(1, .int (x1 + 1)), (0, .ref (a 0))]) rfl rfl (by decide) rfl dX6_rank_96 ?_
      refine j_goto g dX6_rank_99 (tgt := 7) (by decide) ?_
      refine j_sub [1, 0] rfl ?_
      exact ih (x1 + 1) mrs mrk h
    replace h := h.1 c3
    refine j_aload_n g 0 rfl dX6_rank_27 ?_
    refine j_get g fl_X6_86 0 md_0 rfl dX6_rank_28 ?_
    refine j_istore_n g (lv' := [(2, .int mrs), (0, .ref (a 0)), (1, .int x1)]) (by decide) rfl dX6_rank_31 ?_
    obtain ⟨n4, h⟩ := h
    refine j_sub [1, 2, 0] rfl ?_
    refine wk_X6_rank_32  g hret (fun x2_4 mrk_4 h => ?_) n4 mrs mrk h
    refine j_aload_n g 0 rfl dX6_rank_79 ?_
    refine j_get g fl_X6_48 0 md_0 rfl dX6_rank_80 ?_
    refine j_iload_n g 2 rfl dX6_rank_83 ?_
    refine j_iload_n g 1 rfl dX6_rank_84 ?_
    obtain ⟨hv5, h⟩ := h
    refine j_iast g 12 md_12 hv5 (ws' := (mdW a q mtd mnk mva mno mro mtu mbx mst mja mpr mcr mow mhd mmo mbk mca mfr mrs (upd mrk_4 x2_4.toNatClampNeg x1) mfe mus mgi maj)) rfl dX6_rank_85 ?_
    refine j_aload_n g 0 rfl dX6_rank_86 ?_
    refine j_aload_n g 0 rfl dX6_rank_87 ?_
    refine j_get g fl_X6_86 0 md_0 rfl dX6_rank_88 ?_
    refine j_iconst g (v := 1) (by decide) dX6_rank_91 ?_
    refine j_iadd g dX6_rank_92 ?_
    refine j_put g fl_X6_86 fp_X6_17 0 md_0 rfl rfl (Nat.le_of_ble_eq_true rfl) (ws' := (mdW a q mtd mnk mva mno mro mtu mbx mst mja mpr mcr mow mhd mmo mbk mca mfr (mrs + (1 : Int32)) (upd mrk_4 x2_4.toNatClampNeg x1) mfe mus mgi maj)) rfl dX6_rank_93 ?_
    refine j_iinc g 1 (n := 1) (v := x1 + 1) (lv' := [(1, .int (x1 + 1)), (0, .ref (a 0)), (2, .int x2_4)]) rfl rfl (by decide) rfl dX6_rank_96 ?_
    refine j_goto g dX6_rank_99 (tgt := 7) (by decide) ?_
    refine j_sub [1, 0] rfl ?_
    exact ih (x1 + 1) (mrs + (1 : Int32)) (upd mrk_4 x2_4.toNatClampNeg x1) h
set_option maxRecDepth 20000 in
set_option maxHeartbeats 4000000 in
theorem c_X6_rank {a : Nat → Nat} {q : Nat → ClassId}   {mtd : Int32} {mnk : Int32} {mva : Nat → Int32} {mno : Nat → Int32} {mro : Nat → Int32} {mtu : Nat → Int32} {mbx : Nat → Int32} {mst : Nat → Int32} {mja : Nat → Int32} {mpr : Nat → Int32} {mcr : Int32} {mow : Int32} {mhd : Int32} {mmo : Int32} {mbk : Nat → Int32} {mca : Nat → Int32} {mfr : Nat → Int32} {mrs : Int32} {mrk : Nat → Int32} {mfe : Nat → Int32} {mus : Nat → Int32} {mgi : Nat → Int32} {maj : Nat → Int32} {K : Int32 → (Nat → Int32) → Prop} (h : wp_X6_rank mnk mva mno mrs mrk K) : ctV_2 q yX6_rank cX6_rank 3 0 0 [.ref (a 0)] (mdW a q mtd mnk mva mno mro mtu mbx mst mja mpr mcr mow mhd mmo mbk mca mfr mrs mrk mfe mus mgi maj) (fun (mrs : Int32) (mrk : Nat → Int32) => (mdW a q mtd mnk mva mno mro mtu mbx mst mja mpr mcr mow mhd mmo mbk mca mfr mrs mrk mfe mus mgi maj)) K := by
  refine met_V_2 (by decide) (Nat.le_of_ble_eq_true rfl) (fun Γ g hret => ?_)
  unfold wp_X6_rank at h
  show jw Γ 3 0 0 (mdW a q mtd mnk mva mno mro mtu mbx mst mja mpr mcr mow mhd mmo mbk mca mfr mrs mrk mfe mus mgi maj) [(0, .ref (a 0))] [] 0
  refine j_aload_n g 0 rfl dX6_rank_0 ?_
  refine j_iconst g (v := 0) (by decide) dX6_rank_1 ?_
  refine j_put g fl_X6_86 fp_X6_17 0 md_0 rfl rfl (Nat.le_of_ble_eq_true rfl) (ws' := (mdW a q mtd mnk mva mno mro mtu mbx mst mja mpr mcr mow mhd mmo mbk mca mfr (0 : Int32) mrk mfe mus mgi maj)) rfl dX6_rank_2 ?_
  refine j_iconst g (v := 0) (by decide) dX6_rank_5 ?_
  refine j_istore_n g (lv' := [(1, .int (0 : Int32)), (0, .ref (a 0))]) (by decide) rfl dX6_rank_6 ?_
  obtain ⟨n1, h⟩ := h
  refine j_sub [1, 0] rfl ?_
  refine wk_X6_rank_7  g hret (fun mrs_1 mrk_1 h => ?_) n1 (0 : Int32) (0 : Int32) mrk h
  exact hret.go dX6_rank_102 h

set_option maxRecDepth 20000 in
def wp_X6_mayUse (x1 : Int32) (x2 : Int32) (mtu : Nat → Int32) (mst : Nat → Int32) (K : Int32 → Prop) : Prop :=
  (vp_in x1 6 ∧ ((¬ mst x1.toNatClampNeg = 0 → K (0 : Int32)) ∧ (mst x1.toNatClampNeg = 0 → (vp_in x1 6 ∧ ((x2 ≤ mtu x1.toNatClampNeg → (vp_in x1 6 ∧ K ((mtu x1.toNatClampNeg) - x2))) ∧ (¬ x2 ≤ mtu x1.toNatClampNeg → K (0 : Int32)))))))
theorem dX6_mayUse_0 : decode cX6_mayUse 0 = .ok (.aload_n 0, 1) := by decide +kernel
theorem dX6_mayUse_1 : decode cX6_mayUse 1 = .ok (.getfield 26, 3) := by decide +kernel
theorem dX6_mayUse_4 : decode cX6_mayUse 4 = .ok (.iload_n 1, 1) := by decide +kernel
theorem dX6_mayUse_5 : decode cX6_mayUse 5 = .ok (.baload, 1) := by decide +kernel
theorem dX6_mayUse_6 : decode cX6_mayUse 6 = .ok (.ifCond .ne 13, 3) := by decide +kernel
theorem dX6_mayUse_9 : decode cX6_mayUse 9 = .ok (.aload_n 0, 1) := by decide +kernel
theorem dX6_mayUse_10 : decode cX6_mayUse 10 = .ok (.getfield 20, 3) := by decide +kernel
theorem dX6_mayUse_13 : decode cX6_mayUse 13 = .ok (.iload_n 1, 1) := by decide +kernel
theorem dX6_mayUse_14 : decode cX6_mayUse 14 = .ok (.iaload, 1) := by decide +kernel
theorem dX6_mayUse_15 : decode cX6_mayUse 15 = .ok (.iload_n 2, 1) := by decide +kernel
theorem dX6_mayUse_16 : decode cX6_mayUse 16 = .ok (.if_icmp .ge 7, 3) := by decide +kernel
theorem dX6_mayUse_19 : decode cX6_mayUse 19 = .ok (.iconst 0, 1) := by decide +kernel
theorem dX6_mayUse_20 : decode cX6_mayUse 20 = .ok (.goto 11, 3) := by decide +kernel
theorem dX6_mayUse_23 : decode cX6_mayUse 23 = .ok (.aload_n 0, 1) := by decide +kernel
theorem dX6_mayUse_24 : decode cX6_mayUse 24 = .ok (.getfield 20, 3) := by decide +kernel
theorem dX6_mayUse_27 : decode cX6_mayUse 27 = .ok (.iload_n 1, 1) := by decide +kernel
theorem dX6_mayUse_28 : decode cX6_mayUse 28 = .ok (.iaload, 1) := by decide +kernel
theorem dX6_mayUse_29 : decode cX6_mayUse 29 = .ok (.iload_n 2, 1) := by decide +kernel
theorem dX6_mayUse_30 : decode cX6_mayUse 30 = .ok (.isub, 1) := by decide +kernel
theorem dX6_mayUse_31 : decode cX6_mayUse 31 = .ok (.ireturn, 1) := by decide +kernel
set_option maxRecDepth 20000 in
set_option maxHeartbeats 4000000 in
theorem c_X6_mayUse {a : Nat → Nat} {q : Nat → ClassId} {x1 : Int32} {x2 : Int32}  {mtd : Int32} {mnk : Int32} {mva : Nat → Int32} {mno : Nat → Int32} {mro : Nat → Int32} {mtu : Nat → Int32} {mbx : Nat → Int32} {mst : Nat → Int32} {mja : Nat → Int32} {mpr : Nat → Int32} {mcr : Int32} {mow : Int32} {mhd : Int32} {mmo : Int32} {mbk : Nat → Int32} {mca : Nat → Int32} {mfr : Nat → Int32} {mrs : Int32} {mrk : Nat → Int32} {mfe : Nat → Int32} {mus : Nat → Int32} {mgi : Nat → Int32} {maj : Nat → Int32} {K : Int32 → Prop} (h : wp_X6_mayUse x1 x2 mtu mst K) : ctI_0 q yX6_mayUse cX6_mayUse 3 0 0 [.ref (a 0), .int x1, .int x2] (mdW a q mtd mnk mva mno mro mtu mbx mst mja mpr mcr mow mhd mmo mbk mca mfr mrs mrk mfe mus mgi maj) (mdW a q mtd mnk mva mno mro mtu mbx mst mja mpr mcr mow mhd mmo mbk mca mfr mrs mrk mfe mus mgi maj) K := by
  refine met_I_0 (by decide) (Nat.le_of_ble_eq_true rfl) (fun Γ g hret => ?_)
  unfold wp_X6_mayUse at h
  show jw Γ 3 0 0 (mdW a q mtd mnk mva mno mro mtu mbx mst mja mpr mcr mow mhd mmo mbk mca mfr mrs mrk mfe mus mgi maj) [(0, .ref (a 0)), (1, .int x1), (2, .int x2)] [] 0
  refine j_aload_n g 0 rfl dX6_mayUse_0 ?_
  refine j_get g fl_X6_26 0 md_0 rfl dX6_mayUse_1 ?_
  refine j_iload_n g 1 rfl dX6_mayUse_4 ?_
  obtain ⟨hv1, h⟩ := h
  refine j_zald g 6 md_6 hv1 dX6_mayUse_5 ?_
  refine j_if_ne g dX6_mayUse_6 (tgt := 19) (by decide) (fun c2 => ?_) (fun c2 => ?_)
  · replace h := h.1 c2
    refine j_iconst g (v := 0) (by decide) dX6_mayUse_19 ?_
    refine j_goto g dX6_mayUse_20 (tgt := 31) (by decide) ?_
    exact hret.go dX6_mayUse_31 h
  replace h := h.2 c2
  refine j_aload_n g 0 rfl dX6_mayUse_9 ?_
  refine j_get g fl_X6_20 0 md_0 rfl dX6_mayUse_10 ?_
  refine j_iload_n g 1 rfl dX6_mayUse_13 ?_
  obtain ⟨hv3, h⟩ := h
  refine j_iald g 4 md_4 hv3 dX6_mayUse_14 ?_
  refine j_iload_n g 2 rfl dX6_mayUse_15 ?_
  refine j_icmp_ge g dX6_mayUse_16 (tgt := 23) (by decide) (fun c4 => ?_) (fun c4 => ?_)
  rotate_left
  · replace h := h.2 c4
    refine j_iconst g (v := 0) (by decide) dX6_mayUse_19 ?_
    refine j_goto g dX6_mayUse_20 (tgt := 31) (by decide) ?_
    exact hret.go dX6_mayUse_31 h
  replace h := h.1 c4
  refine j_aload_n g 0 rfl dX6_mayUse_23 ?_
  refine j_get g fl_X6_20 0 md_0 rfl dX6_mayUse_24 ?_
  refine j_iload_n g 1 rfl dX6_mayUse_27 ?_
  obtain ⟨hv5, h⟩ := h
  refine j_iald g 4 md_4 hv5 dX6_mayUse_28 ?_
  refine j_iload_n g 2 rfl dX6_mayUse_29 ?_
  refine j_isub g dX6_mayUse_30 ?_
  exact hret.go dX6_mayUse_31 h
