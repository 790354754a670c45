set_option maxRecDepth 20000 in
def wp_X6_isWay_6 (x1 : Int32) (x2 : Int32) (mnk : Int32) (mno : Nat → Int32) (mtu : Nat → Int32) (mst : Nat → Int32) (mrs : Int32) (mrk : Nat → Int32) (mfe : Nat → Int32) (mus : Nat → Int32) (K : Int32 → Int32 → (Nat → Int32) → (Nat → Int32) → (Nat → Int32) → Prop) (X : Prop) : Nat → Int32 → Prop
  | 0, _ => False
  | n + 1, x3 => ((mnk ≤ x3 → X) ∧ (¬ mnk ≤ x3 → wp_X6_isCoin x3 mnk mno (fun (r_2 : Int32)  => ((r_2 = 0 → wp_X6_isWay_6 x1 x2 mnk mno mtu mst mrs mrk mfe mus K X n (x3 + 1)) ∧ (¬ r_2 = 0 → (vp_in x3 6 ∧ ((¬ mst x3.toNatClampNeg = 0 → wp_X6_isWay_6 x1 x2 mnk mno mtu mst mrs mrk mfe mus K X n (x3 + 1)) ∧ (mst x3.toNatClampNeg = 0 → (vp_in x3 6 ∧ ((x2 ≤ mtu x3.toNatClampNeg → wp_X6_isWay_6 x1 x2 mnk mno mtu mst mrs mrk mfe mus K X n (x3 + 1)) ∧ (¬ x2 ≤ mtu x3.toNatClampNeg → K (0 : Int32) mrs mrk mfe mus)))))))))))
set_option maxRecDepth 20000 in
def wp_X6_isWay_51 (x1 : Int32) (x2 : Int32) (mrs : Int32) (K : Int32 → Int32 → (Nat → Int32) → (Nat → Int32) → (Nat → Int32) → Prop) (X : (Nat → Int32) → Prop) : Nat → Int32 → (Nat → Int32) → Prop
  | 0, _, _ => False
  | n + 1, x3, mfe => ((x1 < x3 → X mfe) ∧ (¬ x1 < x3 → ((¬ x3 = 0 → (vp_in (((1000 : Int32) * mrs) + x3) 7000 ∧ wp_X6_isWay_51 x1 x2 mrs K X n (x3 + 1) (upd mfe (((1000 : Int32) * mrs) + x3).toNatClampNeg (1000000 : Int32)))) ∧ (x3 = 0 → (vp_in (((1000 : Int32) * mrs) + x3) 7000 ∧ wp_X6_isWay_51 x1 x2 mrs K X n (x3 + 1) (upd mfe (((1000 : Int32) * mrs) + x3).toNatClampNeg (0 : Int32)))))))
set_option maxRecDepth 20000 in
def wp_X6_isWay_122 (x1 : Int32) (x2 : Int32) (x3 : Int32) (x4 : Int32) (x5 : Int32) (mva : Nat → Int32) (mtu : Nat → Int32) (mst : Nat → Int32) (mfe : Nat → Int32) (K : Int32 → Int32 → (Nat → Int32) → (Nat → Int32) → (Nat → Int32) → Prop) (X : Int32 → Prop) : Nat → Int32 → Int32 → Prop
  | 0, _, _ => False
  | n + 1, x6, x7 => wp_X6_mayUse x4 x2 mtu mst (fun (r_1 : Int32)  => ((r_1 < x7 → X x6) ∧ (¬ r_1 < x7 → (vp_in x4 6 ∧ ((x5 < x7 * (mva x4.toNatClampNeg) → X x6) ∧ (¬ x5 < x7 * (mva x4.toNatClampNeg) → (vp_in x4 6 ∧ (vp_in ((((1000 : Int32) * (x3 + (1 : Int32))) + x5) - (x7 * (mva x4.toNatClampNeg))) 7000 ∧ ((x6 ≤ x7 + (mfe ((((1000 : Int32) * (x3 + (1 : Int32))) + x5) - (x7 * (mva x4.toNatClampNeg))).toNatClampNeg) → wp_X6_isWay_122 x1 x2 x3 x4 x5 mva mtu mst mfe K X n x6 (x7 + 1)) ∧ (¬ x6 ≤ x7 + (mfe ((((1000 : Int32) * (x3 + (1 : Int32))) + x5) - (x7 * (mva x4.toNatClampNeg))).toNatClampNeg) → wp_X6_isWay_122 x1 x2 x3 x4 x5 mva mtu mst mfe K X n (x7 + (mfe ((((1000 : Int32) * (x3 + (1 : Int32))) + x5) - (x7 * (mva x4.toNatClampNeg))).toNatClampNeg)) (x7 + 1)))))))))))
set_option maxRecDepth 20000 in
def wp_X6_isWay_109 (x1 : Int32) (x2 : Int32) (x3 : Int32) (x4 : Int32) (mva : Nat → Int32) (mtu : Nat → Int32) (mst : Nat → Int32) (K : Int32 → Int32 → (Nat → Int32) → (Nat → Int32) → (Nat → Int32) → Prop) (X : (Nat → Int32) → Prop) : Nat → Int32 → (Nat → Int32) → Prop
  | 0, _, _ => False
  | n + 1, x5, mfe => ((x1 < x5 → X mfe) ∧ (¬ x1 < x5 → ∃ n2 : Nat, wp_X6_isWay_122 x1 x2 x3 x4 x5 mva mtu mst mfe K (fun (x6_2 : Int32) => (vp_in (((1000 : Int32) * x3) + x5) 7000 ∧ wp_X6_isWay_109 x1 x2 x3 x4 mva mtu mst K X n (x5 + 1) (upd mfe (((1000 : Int32) * x3) + x5).toNatClampNeg x6_2))) n2 (1000000 : Int32) (0 : Int32)))
set_option maxRecDepth 20000 in
def wp_X6_isWay_94 (x1 : Int32) (x2 : Int32) (mva : Nat → Int32) (mtu : Nat → Int32) (mst : Nat → Int32) (mrk : Nat → Int32) (K : Int32 → Int32 → (Nat → Int32) → (Nat → Int32) → (Nat → Int32) → Prop) (X : (Nat → Int32) → Prop) : Nat → Int32 → (Nat → Int32) → Prop
  | 0, _, _ => False
  | n + 1, x3, mfe => ((x3 < 0 → X mfe) ∧ (¬ x3 < 0 → (vp_in x3 6 ∧ ∃ n3 : Nat, wp_X6_isWay_109 x1 x2 x3 (mrk x3.toNatClampNeg) mva mtu mst K (fun (mfe_3 : Nat → Int32) => wp_X6_isWay_94 x1 x2 mva mtu mst mrk K X n (x3 + (-1 : Int32)) mfe_3) n3 (0 : Int32) mfe)))
set_option maxRecDepth 20000 in
def wp_X6_isWay_226 (x1 : Int32) (x2 : Int32)  (K : Int32 → Int32 → (Nat → Int32) → (Nat → Int32) → (Nat → Int32) → Prop) (X : (Nat → Int32) → Prop) : Nat → Int32 → (Nat → Int32) → Prop
  | 0, _, _ => False
  | n + 1, x3, mus => (((6 : Int32) ≤ x3 → X mus) ∧ (¬ (6 : Int32) ≤ x3 → (vp_in x3 6 ∧ wp_X6_isWay_226 x1 x2 K X n (x3 + 1) (upd mus x3.toNatClampNeg (0 : Int32)))))
set_option maxRecDepth 20000 in
def wp_X6_isWay_290 (x2 : Int32) (x3 : Int32) (x4 : Int32) (x5 : Int32) (mva : Nat → Int32) (mfe : Nat → Int32) (K : Int32 → Int32 → (Nat → Int32) → (Nat → Int32) → (Nat → Int32) → Prop) (X : Int32 → Prop) : Nat → Int32 → Prop
  | 0, _ => False
  | n + 1, x6 => (vp_in x5 6 ∧ ((x3 < x6 * (mva x5.toNatClampNeg) → wp_X6_isWay_290 x2 x3 x4 x5 mva mfe K X n (x6 - (1 : Int32))) ∧ (¬ x3 < x6 * (mva x5.toNatClampNeg) → (vp_in x5 6 ∧ (vp_in ((((1000 : Int32) * (x4 + (1 : Int32))) + x3) - (x6 * (mva x5.toNatClampNeg))) 7000 ∧ (vp_in (((1000 : Int32) * x4) + x3) 7000 ∧ ((x6 + (mfe ((((1000 : Int32) * (x4 + (1 : Int32))) + x3) - (x6 * (mva x5.toNatClampNeg))).toNatClampNeg) = mfe (((1000 : Int32) * x4) + x3).toNatClampNeg → X x6) ∧ (¬ x6 + (mfe ((((1000 : Int32) * (x4 + (1 : Int32))) + x3) - (x6 * (mva x5.toNatClampNeg))).toNatClampNeg) = mfe (((1000 : Int32) * x4) + x3).toNatClampNeg → wp_X6_isWay_290 x2 x3 x4 x5 mva mfe K X n (x6 - (1 : Int32))))))))))
set_option maxRecDepth 20000 in
def wp_X6_isWay_263 (x2 : Int32) (mva : Nat → Int32) (mtu : Nat → Int32) (mst : Nat → Int32) (mrs : Int32) (mrk : Nat → Int32) (mfe : Nat → Int32) (K : Int32 → Int32 → (Nat → Int32) → (Nat → Int32) → (Nat → Int32) → Prop) (X : (Nat → Int32) → Prop) : Nat → Int32 → Int32 → (Nat → Int32) → Prop
  | 0, _, _, _ => False
  | n + 1, x3, x4, mus => ((mrs ≤ x4 → X mus) ∧ (¬ mrs ≤ x4 → (vp_in x4 6 ∧ wp_X6_mayUse (mrk x4.toNatClampNeg) x2 mtu mst (fun (r_3 : Int32)  => ∃ n4 : Nat, wp_X6_isWay_290 x2 x3 x4 (mrk x4.toNatClampNeg) mva mfe K (fun (x6_4 : Int32) => (vp_in (mrk x4.toNatClampNeg) 6 ∧ (vp_in (mrk x4.toNatClampNeg) 6 ∧ wp_X6_isWay_263 x2 mva mtu mst mrs mrk mfe K X n (x3 - (x6_4 * (mva (mrk x4.toNatClampNeg).toNatClampNeg))) (x4 + 1) (upd mus (mrk x4.toNatClampNeg).toNatClampNeg x6_4)))) n4 r_3))))
set_option maxRecDepth 20000 in
def wp_X6_isWay (x1 : Int32) (x2 : Int32) (mnk : Int32) (mva : Nat → Int32) (mno : Nat → Int32) (mtu : Nat → Int32) (mst : Nat → Int32) (mrs : Int32) (mrk : Nat → Int32) (mfe : Nat → Int32) (mus : Nat → Int32) (K : Int32 → Int32 → (Nat → Int32) → (Nat → Int32) → (Nat → Int32) → Prop) : Prop :=
  wp_X6_rank mnk mva mno mrs mrk (fun (mrs_1 : Int32) (mrk_1 : Nat → Int32) => ∃ n2 : Nat, wp_X6_isWay_6 x1 x2 mnk mno mtu mst mrs_1 mrk_1 mfe mus K (∃ n3 : Nat, wp_X6_isWay_51 x1 x2 mrs_1 K (fun (mfe_3 : Nat → Int32) => ∃ n4 : Nat, wp_X6_isWay_94 x1 x2 mva mtu mst mrk_1 K (fun (mfe_4 : Nat → Int32) => ∃ n5 : Nat, wp_X6_isWay_226 x1 x2 K (fun (mus_5 : Nat → Int32) => (vp_in x1 7000 ∧ ((mfe_4 x1.toNatClampNeg < (1000000 : Int32) → ∃ n8 : Nat, wp_X6_isWay_263 x2 mva mtu mst mrs_1 mrk_1 mfe_4 K (fun (mus_8 : Nat → Int32) => K (1 : Int32) mrs_1 mrk_1 mfe_4 mus_8) n8 x1 (0 : Int32) mus_5) ∧ (¬ mfe_4 x1.toNatClampNeg < (1000000 : Int32) → K (0 : Int32) mrs_1 mrk_1 mfe_4 mus_5)))) n5 (0 : Int32) mus) n4 (mrs_1 - (1 : Int32)) mfe_3) n3 (0 : Int32) mfe) n2 (0 : Int32))
theorem dX6_isWay_0 : decode cX6_isWay 0 = .ok (.aload_n 0, 1) := by decide +kernel
theorem dX6_isWay_1 : decode cX6_isWay 1 = .ok (.invokevirtual 89, 3) := by decide +kernel
theorem dX6_isWay_4 : decode cX6_isWay 4 = .ok (.iconst 0, 1) := by decide +kernel
theorem dX6_isWay_5 : decode cX6_isWay 5 = .ok (.istore_n 3, 1) := by decide +kernel
theorem dX6_isWay_6 : decode cX6_isWay 6 = .ok (.iload_n 3, 1) := by decide +kernel
theorem dX6_isWay_7 : decode cX6_isWay 7 = .ok (.aload_n 0, 1) := by decide +kernel
theorem dX6_isWay_8 : decode cX6_isWay 8 = .ok (.getfield 66, 3) := by decide +kernel
theorem dX6_isWay_11 : decode cX6_isWay 11 = .ok (.if_icmp .ge 38, 3) := by decide +kernel
theorem dX6_isWay_14 : decode cX6_isWay 14 = .ok (.aload_n 0, 1) := by decide +kernel
theorem dX6_isWay_15 : decode cX6_isWay 15 = .ok (.iload_n 3, 1) := by decide +kernel
theorem dX6_isWay_16 : decode cX6_isWay 16 = .ok (.invokevirtual 82, 3) := by decide +kernel
theorem dX6_isWay_19 : decode cX6_isWay 19 = .ok (.ifCond .eq 24, 3) := by decide +kernel
theorem dX6_isWay_22 : decode cX6_isWay 22 = .ok (.aload_n 0, 1) := by decide +kernel
theorem dX6_isWay_23 : decode cX6_isWay 23 = .ok (.getfield 26, 3) := by decide +kernel
theorem dX6_isWay_26 : decode cX6_isWay 26 = .ok (.iload_n 3, 1) := by decide +kernel
theorem dX6_isWay_27 : decode cX6_isWay 27 = .ok (.baload, 1) := by decide +kernel
theorem dX6_isWay_28 : decode cX6_isWay 28 = .ok (.ifCond .ne 15, 3) := by decide +kernel
theorem dX6_isWay_31 : decode cX6_isWay 31 = .ok (.aload_n 0, 1) := by decide +kernel
theorem dX6_isWay_32 : decode cX6_isWay 32 = .ok (.getfield 20, 3) := by decide +kernel
theorem dX6_isWay_35 : decode cX6_isWay 35 = .ok (.iload_n 3, 1) := by decide +kernel
theorem dX6_isWay_36 : decode cX6_isWay 36 = .ok (.iaload, 1) := by decide +kernel
theorem dX6_isWay_37 : decode cX6_isWay 37 = .ok (.iload_n 2, 1) := by decide +kernel
theorem dX6_isWay_38 : decode cX6_isWay 38 = .ok (.if_icmp .ge 5, 3) := by decide +kernel
theorem dX6_isWay_41 : decode cX6_isWay 41 = .ok (.iconst 0, 1) := by decide +kernel
theorem dX6_isWay_42 : decode cX6_isWay 42 = .ok (.ireturn, 1) := by decide +kernel
theorem dX6_isWay_43 : decode cX6_isWay 43 = .ok (.iinc 3 1, 3) := by decide +kernel
theorem dX6_isWay_46 : decode cX6_isWay 46 = .ok (.goto (-40), 3) := by decide +kernel
theorem dX6_isWay_49 : decode cX6_isWay 49 = .ok (.iconst 0, 1) := by decide +kernel
theorem dX6_isWay_50 : decode cX6_isWay 50 = .ok (.istore_n 3, 1) := by decide +kernel
theorem dX6_isWay_51 : decode cX6_isWay 51 = .ok (.iload_n 3, 1) := by decide +kernel
theorem dX6_isWay_52 : decode cX6_isWay 52 = .ok (.iload_n 1, 1) := by decide +kernel
theorem dX6_isWay_53 : decode cX6_isWay 53 = .ok (.if_icmp .gt 34, 3) := by decide +kernel
theorem dX6_isWay_56 : decode cX6_isWay 56 = .ok (.aload_n 0, 1) := by decide +kernel
theorem dX6_isWay_57 : decode cX6_isWay 57 = .ok (.getfield 51, 3) := by decide +kernel
theorem dX6_isWay_60 : decode cX6_isWay 60 = .ok (.sipush 1000, 3) := by decide +kernel
theorem dX6_isWay_63 : decode cX6_isWay 63 = .ok (.aload_n 0, 1) := by decide +kernel
theorem dX6_isWay_64 : decode cX6_isWay 64 = .ok (.getfield 86, 3) := by decide +kernel
theorem dX6_isWay_67 : decode cX6_isWay 67 = .ok (.imul, 1) := by decide +kernel
theorem dX6_isWay_68 : decode cX6_isWay 68 = .ok (.iload_n 3, 1) := by decide +kernel
theorem dX6_isWay_69 : decode cX6_isWay 69 = .ok (.iadd, 1) := by decide +kernel
theorem dX6_isWay_70 : decode cX6_isWay 70 = .ok (.iload_n 3, 1) := by decide +kernel
theorem dX6_isWay_71 : decode cX6_isWay 71 = .ok (.ifCond .ne 7, 3) := by decide +kernel
theorem dX6_isWay_74 : decode cX6_isWay 74 = .ok (.iconst 0, 1) := by decide +kernel
theorem dX6_isWay_75 : decode cX6_isWay 75 = .ok (.goto 5, 3) := by decide +kernel
theorem dX6_isWay_78 : decode cX6_isWay 78 = .ok (.ldc 85, 2) := by decide +kernel
theorem dX6_isWay_80 : decode cX6_isWay 80 = .ok (.iastore, 1) := by decide +kernel
theorem dX6_isWay_81 : decode cX6_isWay 81 = .ok (.iinc 3 1, 3) := by decide +kernel
theorem dX6_isWay_84 : decode cX6_isWay 84 = .ok (.goto (-33), 3) := by decide +kernel
theorem dX6_isWay_87 : decode cX6_isWay 87 = .ok (.aload_n 0, 1) := by decide +kernel
theorem dX6_isWay_88 : decode cX6_isWay 88 = .ok (.getfield 86, 3) := by decide +kernel
theorem dX6_isWay_91 : decode cX6_isWay 91 = .ok (.iconst 1, 1) := by decide +kernel
theorem dX6_isWay_92 : decode cX6_isWay 92 = .ok (.isub, 1) := by decide +kernel
theorem dX6_isWay_93 : decode cX6_isWay 93 = .ok (.istore_n 3, 1) := by decide +kernel
theorem dX6_isWay_94 : decode cX6_isWay 94 = .ok (.iload_n 3, 1) := by decide +kernel
theorem dX6_isWay_95 : decode cX6_isWay 95 = .ok (.ifCond .lt 129, 3) := by decide +kernel
theorem dX6_isWay_98 : decode cX6_isWay 98 = .ok (.aload_n 0, 1) := by decide +kernel
theorem dX6_isWay_99 : decode cX6_isWay 99 = .ok (.getfield 48, 3) := by decide +kernel
theorem dX6_isWay_102 : decode cX6_isWay 102 = .ok (.iload_n 3, 1) := by decide +kernel
theorem dX6_isWay_103 : decode cX6_isWay 103 = .ok (.iaload, 1) := by decide +kernel
theorem dX6_isWay_104 : decode cX6_isWay 104 = .ok (.istore 4, 2) := by decide +kernel
theorem dX6_isWay_106 : decode cX6_isWay 106 = .ok (.iconst 0, 1) := by decide +kernel
theorem dX6_isWay_107 : decode cX6_isWay 107 = .ok (.istore 5, 2) := by decide +kernel
theorem dX6_isWay_109 : decode cX6_isWay 109 = .ok (.iload 5, 2) := by decide +kernel
theorem dX6_isWay_111 : decode cX6_isWay 111 = .ok (.iload_n 1, 1) := by decide +kernel
theorem dX6_isWay_112 : decode cX6_isWay 112 = .ok (.if_icmp .gt 106, 3) := by decide +kernel
theorem dX6_isWay_115 : decode cX6_isWay 115 = .ok (.ldc 85, 2) := by decide +kernel
theorem dX6_isWay_117 : decode cX6_isWay 117 = .ok (.istore 6, 2) := by decide +kernel
theorem dX6_isWay_119 : decode cX6_isWay 119 = .ok (.iconst 0, 1) := by decide +kernel
theorem dX6_isWay_120 : decode cX6_isWay 120 = .ok (.istore 7, 2) := by decide +kernel
theorem dX6_isWay_122 : decode cX6_isWay 122 = .ok (.iload 7, 2) := by decide +kernel
theorem dX6_isWay_124 : decode cX6_isWay 124 = .ok (.aload_n 0, 1) := by decide +kernel
theorem dX6_isWay_125 : decode cX6_isWay 125 = .ok (.iload 4, 2) := by decide +kernel
theorem dX6_isWay_127 : decode cX6_isWay 127 = .ok (.iload_n 2, 1) := by decide +kernel
theorem dX6_isWay_128 : decode cX6_isWay 128 = .ok (.invokevirtual 92, 3) := by decide +kernel
theorem dX6_isWay_131 : decode cX6_isWay 131 = .ok (.if_icmp .gt 66, 3) := by decide +kernel
theorem dX6_isWay_134 : decode cX6_isWay 134 = .ok (.iload 7, 2) := by decide +kernel
theorem dX6_isWay_136 : decode cX6_isWay 136 = .ok (.aload_n 0, 1) := by decide +kernel
theorem dX6_isWay_137 : decode cX6_isWay 137 = .ok (.getfield 7, 3) := by decide +kernel
theorem dX6_isWay_140 : decode cX6_isWay 140 = .ok (.iload 4, 2) := by decide +kernel
theorem dX6_isWay_142 : decode cX6_isWay 142 = .ok (.iaload, 1) := by decide +kernel
theorem dX6_isWay_143 : decode cX6_isWay 143 = .ok (.imul, 1) := by decide +kernel
theorem dX6_isWay_144 : decode cX6_isWay 144 = .ok (.iload 5, 2) := by decide +kernel
theorem dX6_isWay_146 : decode cX6_isWay 146 = .ok (.if_icmp .gt 51, 3) := by decide +kernel
theorem dX6_isWay_149 : decode cX6_isWay 149 = .ok (.iload 7, 2) := by decide +kernel
theorem dX6_isWay_151 : decode cX6_isWay 151 = .ok (.aload_n 0, 1) := by decide +kernel
theorem dX6_isWay_152 : decode cX6_isWay 152 = .ok (.getfield 51, 3) := by decide +kernel
theorem dX6_isWay_155 : decode cX6_isWay 155 = .ok (.sipush 1000, 3) := by decide +kernel
theorem dX6_isWay_158 : decode cX6_isWay 158 = .ok (.iload_n 3, 1) := by decide +kernel
theorem dX6_isWay_159 : decode cX6_isWay 159 = .ok (.iconst 1, 1) := by decide +kernel
theorem dX6_isWay_160 : decode cX6_isWay 160 = .ok (.iadd, 1) := by decide +kernel
theorem dX6_isWay_161 : decode cX6_isWay 161 = .ok (.imul, 1) := by decide +kernel
theorem dX6_isWay_162 : decode cX6_isWay 162 = .ok (.iload 5, 2) := by decide +kernel
theorem dX6_isWay_164 : decode cX6_isWay 164 = .ok (.iadd, 1) := by decide +kernel
theorem dX6_isWay_165 : decode cX6_isWay 165 = .ok (.iload 7, 2) := by decide +kernel
theorem dX6_isWay_167 : decode cX6_isWay 167 = .ok (.aload_n 0, 1) := by decide +kernel
theorem dX6_isWay_168 : decode cX6_isWay 168 = .ok (.getfield 7, 3) := by decide +kernel
theorem dX6_isWay_171 : decode cX6_isWay 171 = .ok (.iload 4, 2) := by decide +kernel
theorem dX6_isWay_173 : decode cX6_isWay 173 = .ok (.iaload, 1) := by decide +kernel
theorem dX6_isWay_174 : decode cX6_isWay 174 = .ok (.imul, 1) := by decide +kernel
theorem dX6_isWay_175 : decode cX6_isWay 175 = .ok (.isub, 1) := by decide +kernel
theorem dX6_isWay_176 : decode cX6_isWay 176 = .ok (.iaload, 1) := by decide +kernel
theorem dX6_isWay_177 : decode cX6_isWay 177 = .ok (.iadd, 1) := by decide +kernel
theorem dX6_isWay_178 : decode cX6_isWay 178 = .ok (.istore 8, 2) := by decide +kernel
theorem dX6_isWay_180 : decode cX6_isWay 180 = .ok (.iload 8, 2) := by decide +kernel
theorem dX6_isWay_182 : decode cX6_isWay 182 = .ok (.iload 6, 2) := by decide +kernel
theorem dX6_isWay_184 : decode cX6_isWay 184 = .ok (.if_icmp .ge 7, 3) := by decide +kernel
theorem dX6_isWay_187 : decode cX6_isWay 187 = .ok (.iload 8, 2) := by decide +kernel
theorem dX6_isWay_189 : decode cX6_isWay 189 = .ok (.istore 6, 2) := by decide +kernel
theorem dX6_isWay_191 : decode cX6_isWay 191 = .ok (.iinc 7 1, 3) := by decide +kernel
theorem dX6_isWay_194 : decode cX6_isWay 194 = .ok (.goto (-72), 3) := by decide +kernel
theorem dX6_isWay_197 : decode cX6_isWay 197 = .ok (.aload_n 0, 1) := by decide +kernel
theorem dX6_isWay_198 : decode cX6_isWay 198 = .ok (.getfield 51, 3) := by decide +kernel
theorem dX6_isWay_201 : decode cX6_isWay 201 = .ok (.sipush 1000, 3) := by decide +kernel
theorem dX6_isWay_204 : decode cX6_isWay 204 = .ok (.iload_n 3, 1) := by decide +kernel
theorem dX6_isWay_205 : decode cX6_isWay 205 = .ok (.imul, 1) := by decide +kernel
theorem dX6_isWay_206 : decode cX6_isWay 206 = .ok (.iload 5, 2) := by decide +kernel
theorem dX6_isWay_208 : decode cX6_isWay 208 = .ok (.iadd, 1) := by decide +kernel
theorem dX6_isWay_209 : decode cX6_isWay 209 = .ok (.iload 6, 2) := by decide +kernel
theorem dX6_isWay_211 : decode cX6_isWay 211 = .ok (.iastore, 1) := by decide +kernel
theorem dX6_isWay_212 : decode cX6_isWay 212 = .ok (.iinc 5 1, 3) := by decide +kernel
theorem dX6_isWay_215 : decode cX6_isWay 215 = .ok (.goto (-106), 3) := by decide +kernel
theorem dX6_isWay_218 : decode cX6_isWay 218 = .ok (.iinc 3 (-1), 3) := by decide +kernel
theorem dX6_isWay_221 : decode cX6_isWay 221 = .ok (.goto (-127), 3) := by decide +kernel
theorem dX6_isWay_224 : decode cX6_isWay 224 = .ok (.iconst 0, 1) := by decide +kernel
theorem dX6_isWay_225 : decode cX6_isWay 225 = .ok (.istore_n 3, 1) := by decide +kernel
theorem dX6_isWay_226 : decode cX6_isWay 226 = .ok (.iload_n 3, 1) := by decide +kernel
theorem dX6_isWay_227 : decode cX6_isWay 227 = .ok (.bipush 6, 2) := by decide +kernel
theorem dX6_isWay_229 : decode cX6_isWay 229 = .ok (.if_icmp .ge 16, 3) := by decide +kernel
theorem dX6_isWay_232 : decode cX6_isWay 232 = .ok (.aload_n 0, 1) := by decide +kernel
theorem dX6_isWay_233 : decode cX6_isWay 233 = .ok (.getfield 54, 3) := by decide +kernel
theorem dX6_isWay_236 : decode cX6_isWay 236 = .ok (.iload_n 3, 1) := by decide +kernel
theorem dX6_isWay_237 : decode cX6_isWay 237 = .ok (.iconst 0, 1) := by decide +kernel
theorem dX6_isWay_238 : decode cX6_isWay 238 = .ok (.iastore, 1) := by decide +kernel
theorem dX6_isWay_239 : decode cX6_isWay 239 = .ok (.iinc 3 1, 3) := by decide +kernel
theorem dX6_isWay_242 : decode cX6_isWay 242 = .ok (.goto (-16), 3) := by decide +kernel
theorem dX6_isWay_245 : decode cX6_isWay 245 = .ok (.aload_n 0, 1) := by decide +kernel
theorem dX6_isWay_246 : decode cX6_isWay 246 = .ok (.getfield 51, 3) := by decide +kernel
theorem dX6_isWay_249 : decode cX6_isWay 249 = .ok (.iload_n 1, 1) := by decide +kernel
theorem dX6_isWay_250 : decode cX6_isWay 250 = .ok (.iaload, 1) := by decide +kernel
theorem dX6_isWay_251 : decode cX6_isWay 251 = .ok (.ldc 85, 2) := by decide +kernel
theorem dX6_isWay_253 : decode cX6_isWay 253 = .ok (.if_icmp .lt 5, 3) := by decide +kernel
theorem dX6_isWay_256 : decode cX6_isWay 256 = .ok (.iconst 0, 1) := by decide +kernel
theorem dX6_isWay_257 : decode cX6_isWay 257 = .ok (.ireturn, 1) := by decide +kernel
theorem dX6_isWay_258 : decode cX6_isWay 258 = .ok (.iload_n 1, 1) := by decide +kernel
theorem dX6_isWay_259 : decode cX6_isWay 259 = .ok (.istore_n 3, 1) := by decide +kernel
theorem dX6_isWay_260 : decode cX6_isWay 260 = .ok (.iconst 0, 1) := by decide +kernel
theorem dX6_isWay_261 : decode cX6_isWay 261 = .ok (.istore 4, 2) := by decide +kernel
theorem dX6_isWay_263 : decode cX6_isWay 263 = .ok (.iload 4, 2) := by decide +kernel
theorem dX6_isWay_265 : decode cX6_isWay 265 = .ok (.aload_n 0, 1) := by decide +kernel
theorem dX6_isWay_266 : decode cX6_isWay 266 = .ok (.getfield 86, 3) := by decide +kernel
theorem dX6_isWay_269 : decode cX6_isWay 269 = .ok (.if_icmp .ge 117, 3) := by decide +kernel
theorem dX6_isWay_272 : decode cX6_isWay 272 = .ok (.aload_n 0, 1) := by decide +kernel
theorem dX6_isWay_273 : decode cX6_isWay 273 = .ok (.getfield 48, 3) := by decide +kernel
theorem dX6_isWay_276 : decode cX6_isWay 276 = .ok (.iload 4, 2) := by decide +kernel
theorem dX6_isWay_278 : decode cX6_isWay 278 = .ok (.iaload, 1) := by decide +kernel
theorem dX6_isWay_279 : decode cX6_isWay 279 = .ok (.istore 5, 2) := by decide +kernel
theorem dX6_isWay_281 : decode cX6_isWay 281 = .ok (.aload_n 0, 1) := by decide +kernel
theorem dX6_isWay_282 : decode cX6_isWay 282 = .ok (.iload 5, 2) := by decide +kernel
theorem dX6_isWay_284 : decode cX6_isWay 284 = .ok (.iload_n 2, 1) := by decide +kernel
theorem dX6_isWay_285 : decode cX6_isWay 285 = .ok (.invokevirtual 92, 3) := by decide +kernel
theorem dX6_isWay_288 : decode cX6_isWay 288 = .ok (.istore 6, 2) := by decide +kernel
theorem dX6_isWay_290 : decode cX6_isWay 290 = .ok (.iload 6, 2) := by decide +kernel
theorem dX6_isWay_292 : decode cX6_isWay 292 = .ok (.aload_n 0, 1) := by decide +kernel
theorem dX6_isWay_293 : decode cX6_isWay 293 = .ok (.getfield 7, 3) := by decide +kernel
theorem dX6_isWay_296 : decode cX6_isWay 296 = .ok (.iload 5, 2) := by decide +kernel
theorem dX6_isWay_298 : decode cX6_isWay 298 = .ok (.iaload, 1) := by decide +kernel
theorem dX6_isWay_299 : decode cX6_isWay 299 = .ok (.imul, 1) := by decide +kernel
theorem dX6_isWay_300 : decode cX6_isWay 300 = .ok (.iload_n 3, 1) := by decide +kernel
theorem dX6_isWay_301 : decode cX6_isWay 301 = .ok (.if_icmp .gt 48, 3) := by decide +kernel
theorem dX6_isWay_304 : decode cX6_isWay 304 = .ok (.iload 6, 2) := by decide +kernel
theorem dX6_isWay_306 : decode cX6_isWay 306 = .ok (.aload_n 0, 1) := by decide +kernel
theorem dX6_isWay_307 : decode cX6_isWay 307 = .ok (.getfield 51, 3) := by decide +kernel
theorem dX6_isWay_310 : decode cX6_isWay 310 = .ok (.sipush 1000, 3) := by decide +kernel
theorem dX6_isWay_313 : decode cX6_isWay 313 = .ok (.iload 4, 2) := by decide +kernel
theorem dX6_isWay_315 : decode cX6_isWay 315 = .ok (.iconst 1, 1) := by decide +kernel
theorem dX6_isWay_316 : decode cX6_isWay 316 = .ok (.iadd, 1) := by decide +kernel
theorem dX6_isWay_317 : decode cX6_isWay 317 = .ok (.imul, 1) := by decide +kernel
theorem dX6_isWay_318 : decode cX6_isWay 318 = .ok (.iload_n 3, 1) := by decide +kernel
theorem dX6_isWay_319 : decode cX6_isWay 319 = .ok (.iadd, 1) := by decide +kernel
theorem dX6_isWay_320 : decode cX6_isWay 320 = .ok (.iload 6, 2) := by decide +kernel
theorem dX6_isWay_322 : decode cX6_isWay 322 = .ok (.aload_n 0, 1) := by decide +kernel
theorem dX6_isWay_323 : decode cX6_isWay 323 = .ok (.getfield 7, 3) := by decide +kernel
theorem dX6_isWay_326 : decode cX6_isWay 326 = .ok (.iload 5, 2) := by decide +kernel
theorem dX6_isWay_328 : decode cX6_isWay 328 = .ok (.iaload, 1) := by decide +kernel
theorem dX6_isWay_329 : decode cX6_isWay 329 = .ok (.imul, 1) := by decide +kernel
theorem dX6_isWay_330 : decode cX6_isWay 330 = .ok (.isub, 1) := by decide +kernel
theorem dX6_isWay_331 : decode cX6_isWay 331 = .ok (.iaload, 1) := by decide +kernel
theorem dX6_isWay_332 : decode cX6_isWay 332 = .ok (.iadd, 1) := by decide +kernel
theorem dX6_isWay_333 : decode cX6_isWay 333 = .ok (.aload_n 0, 1) := by decide +kernel
theorem dX6_isWay_334 : decode cX6_isWay 334 = .ok (.getfield 51, 3) := by decide +kernel
theorem dX6_isWay_337 : decode cX6_isWay 337 = .ok (.sipush 1000, 3) := by decide +kernel
theorem dX6_isWay_340 : decode cX6_isWay 340 = .ok (.iload 4, 2) := by decide +kernel
theorem dX6_isWay_342 : decode cX6_isWay 342 = .ok (.imul, 1) := by decide +kernel
theorem dX6_isWay_343 : decode cX6_isWay 343 = .ok (.iload_n 3, 1) := by decide +kernel
theorem dX6_isWay_344 : decode cX6_isWay 344 = .ok (.iadd, 1) := by decide +kernel
theorem dX6_isWay_345 : decode cX6_isWay 345 = .ok (.iaload, 1) := by decide +kernel
theorem dX6_isWay_346 : decode cX6_isWay 346 = .ok (.if_icmp .eq 12, 3) := by decide +kernel
theorem dX6_isWay_349 : decode cX6_isWay 349 = .ok (.iload 6, 2) := by decide +kernel
theorem dX6_isWay_351 : decode cX6_isWay 351 = .ok (.iconst 1, 1) := by decide +kernel
theorem dX6_isWay_352 : decode cX6_isWay 352 = .ok (.isub, 1) := by decide +kernel
theorem dX6_isWay_353 : decode cX6_isWay 353 = .ok (.istore 6, 2) := by decide +kernel
theorem dX6_isWay_355 : decode cX6_isWay 355 = .ok (.goto (-65), 3) := by decide +kernel
theorem dX6_isWay_358 : decode cX6_isWay 358 = .ok (.aload_n 0, 1) := by decide +kernel
theorem dX6_isWay_359 : decode cX6_isWay 359 = .ok (.getfield 54, 3) := by decide +kernel
theorem dX6_isWay_362 : decode cX6_isWay 362 = .ok (.iload 5, 2) := by decide +kernel
theorem dX6_isWay_364 : decode cX6_isWay 364 = .ok (.iload 6, 2) := by decide +kernel
theorem dX6_isWay_366 : decode cX6_isWay 366 = .ok (.iastore, 1) := by decide +kernel
theorem dX6_isWay_367 : decode cX6_isWay 367 = .ok (.iload_n 3, 1) := by decide +kernel
theorem dX6_isWay_368 : decode cX6_isWay 368 = .ok (.iload 6, 2) := by decide +kernel
theorem dX6_isWay_370 : decode cX6_isWay 370 = .ok (.aload_n 0, 1) := by decide +kernel
theorem dX6_isWay_371 : decode cX6_isWay 371 = .ok (.getfield 7, 3) := by decide +kernel
theorem dX6_isWay_374 : decode cX6_isWay 374 = .ok (.iload 5, 2) := by decide +kernel
theorem dX6_isWay_376 : decode cX6_isWay 376 = .ok (.iaload, 1) := by decide +kernel
theorem dX6_isWay_377 : decode cX6_isWay 377 = .ok (.imul, 1) := by decide +kernel
theorem dX6_isWay_378 : decode cX6_isWay 378 = .ok (.isub, 1) := by decide +kernel
theorem dX6_isWay_379 : decode cX6_isWay 379 = .ok (.istore_n 3, 1) := by decide +kernel
theorem dX6_isWay_380 : decode cX6_isWay 380 = .ok (.iinc 4 1, 3) := by decide +kernel
theorem dX6_isWay_383 : decode cX6_isWay 383 = .ok (.goto (-120), 3) := by decide +kernel
theorem dX6_isWay_386 : decode cX6_isWay 386 = .ok (.iconst 1, 1) := by decide +kernel
theorem dX6_isWay_387 : decode cX6_isWay 387 = .ok (.ireturn, 1) := by decide +kernel
set_option maxRecDepth 20000 in
set_option maxHeartbeats 4000000 in
theorem wk_X6_isWay_6 {Γ : GT} {a : Nat → Nat} {q : Nat → ClassId} {x1 : Int32} {x2 : Int32}  {mtd : Int32} {mnk : Int32} {mva : Nat → Int32} {mno : Nat → Int32} {mro : Nat → Int32} {mtu : Nat → Int32} {mbx : Nat → Int32} {mst : Nat → Int32} {mja : Nat → Int32} {mpr : Nat → Int32} {mcr : Int32} {mow : Int32} {mhd : Int32} {mmo : Int32} {mbk : Nat → Int32} {mca : Nat → Int32} {mfr : Nat → Int32} {mrs : Int32} {mrk : Nat → Int32} {mfe : Nat → Int32} {mus : Nat → Int32} {mgi : Nat → Int32} {maj : Nat → Int32} {K : Int32 → Int32 → (Nat → Int32) → (Nat → Int32) → (Nat → Int32) → Prop} {X : Prop} (g : gd Γ cX6_isWay RX6 9 (rmz 2 42) q) (hret : rtZ_4 Γ cX6_isWay 9 (fun (mrs : Int32) (mrk : Nat → Int32) (mfe : Nat → Int32) (mus : Nat → Int32) => (mdW a q mtd mnk mva mno mro mtu mbx mst mja mpr mcr mow mhd mmo mbk mca mfr mrs mrk mfe mus mgi maj)) K) (hX : X → jw Γ 9 0 0 (mdW a q mtd mnk mva mno mro mtu mbx mst mja mpr mcr mow mhd mmo mbk mca mfr mrs mrk mfe mus mgi maj) [(0, .ref (a 0)), (1, .int x1), (2, .int x2)] [] 49) :
    ∀ (n : Nat) (x3 : Int32) , wp_X6_isWay_6 x1 x2 mnk mno mtu mst mrs mrk mfe mus K X n x3 → jw Γ 9 0 0 (mdW a q mtd mnk mva mno mro mtu mbx mst mja mpr mcr mow mhd mmo mbk mca mfr mrs mrk mfe mus mgi maj) [(0, .ref (a 0)), (1, .int x1), (2, .int x2), (3, .int x3)] [] 6 := by
  intro n
  induction n with
  | zero =>
    intro _ h
    exact False.elim h
  | succ n ih =>
    intro x3 h
    unfold wp_X6_isWay_6 at h
    refine j_iload_n g 3 rfl dX6_isWay_6 ?_
    refine j_aload_n g 0 rfl dX6_isWay_7 ?_
    refine j_get g fl_X6_66 0 md_0 rfl dX6_isWay_8 ?_
    refine j_icmp_ge g dX6_isWay_11 (tgt := 49) (by decide) (fun c1 => ?_) (fun c1 => ?_)
    · replace h := h.1 c1
      refine j_sub [0, 1, 2] rfl ?_
      exact hX h
    replace h := h.2 c1
    refine j_aload_n g 0 rfl dX6_isWay_14 ?_
    refine j_iload_n g 3 rfl dX6_isWay_15 ?_
    refine j_callVZ_0 g (As := [.int x3]) (st := []) (c_X6_isCoin  h) cl_X6_82 0 6 md_0 rfl rfl (Nat.le_of_ble_eq_true rfl) (Nat.le_of_ble_eq_true rfl) (Nat.zero_le _) (Nat.zero_le _) rfl rfl (Nat.le_of_ble_eq_true rfl) dX6_isWay_16 (fun r_2  hz_2 h => ?_)
    refine j_if_eq g dX6_isWay_19 (tgt := 43) (by decide) (fun c3 => ?_) (fun c3 => ?_)
    · replace h := h.1 c3
      refine j_iinc g 3 (n := 1) (v := x3 + 1) (lv' := [(3, .int (x3 + 1)), (0, .ref (a 0)), (1, .int x1), (2, .int x2)]) rfl rfl (by decide) rfl dX6_isWay_43 ?_
      refine j_goto g dX6_isWay_46 (tgt := 6) (by decide) ?_
      refine j_sub [1, 2, 3, 0] rfl ?_
      exact ih (x3 + 1) h
    replace h := h.2 c3
    refine j_aload_n g 0 rfl dX6_isWay_22 ?_
    refine j_get g fl_X6_26 0 md_0 rfl dX6_isWay_23 ?_
    refine j_iload_n g 3 rfl dX6_isWay_26 ?_
    obtain ⟨hv4, h⟩ := h
    refine j_zald g 6 md_6 hv4 dX6_isWay_27 ?_
    refine j_if_ne g dX6_isWay_28 (tgt := 43) (by decide) (fun c5 => ?_) (fun c5 => ?_)
    · replace h := h.1 c5
      refine j_iinc g 3 (n := 1) (v := x3 + 1) (lv' := [(3, .int (x3 + 1)), (0, .ref (a 0)), (1, .int x1), (2, .int x2)]) rfl rfl (by decide) rfl dX6_isWay_43 ?_
      refine j_goto g dX6_isWay_46 (tgt := 6) (by decide) ?_
      refine j_sub [1, 2, 3, 0] rfl ?_
      exact ih (x3 + 1) h
    replace h := h.2 c5
    refine j_aload_n g 0 rfl dX6_isWay_31 ?_
    refine j_get g fl_X6_20 0 md_0 rfl dX6_isWay_32 ?_
    refine j_iload_n g 3 rfl dX6_isWay_35 ?_
    obtain ⟨hv6, h⟩ := h
    refine j_iald g 4 md_4 hv6 dX6_isWay_36 ?_
    refine j_iload_n g 2 rfl dX6_isWay_37 ?_
    refine j_icmp_ge g dX6_isWay_38 (tgt := 43) (by decide) (fun c7 => ?_) (fun c7 => ?_)
    rotate_left
    · replace h := h.2 c7
      refine j_iconst g (v := 0) (by decide) dX6_isWay_41 ?_
      exact hret.go dX6_isWay_42 (Or.inl rfl) h
    replace h := h.1 c7
    refine j_iinc g 3 (n := 1) (v := x3 + 1) (lv' := [(3, .int (x3 + 1)), (0, .ref (a 0)), (1, .int x1), (2, .int x2)]) rfl rfl (by decide) rfl dX6_isWay_43 ?_
    refine j_goto g dX6_isWay_46 (tgt := 6) (by decide) ?_
    refine j_sub [1, 2, 3, 0] rfl ?_
    exact ih (x3 + 1) h
set_option maxRecDepth 20000 in
set_option maxHeartbeats 4000000 in
theorem wk_X6_isWay_51 {Γ : GT} {a : Nat → Nat} {q : Nat → ClassId} {x1 : Int32} {x2 : Int32}  {mtd : Int32} {mnk : Int32} {mva : Nat → Int32} {mno : Nat → Int32} {mro : Nat → Int32} {mtu : Nat → Int32} {mbx : Nat → Int32} {mst : Nat → Int32} {mja : Nat → Int32} {mpr : Nat → Int32} {mcr : Int32} {mow : Int32} {mhd : Int32} {mmo : Int32} {mbk : Nat → Int32} {mca : Nat → Int32} {mfr : Nat → Int32} {mrs : Int32} {mrk : Nat → Int32} {mus : Nat → Int32} {mgi : Nat → Int32} {maj : Nat → Int32} {K : Int32 → Int32 → (Nat → Int32) → (Nat → Int32) → (Nat → Int32) → Prop} {X : (Nat → Int32) → Prop} (g : gd Γ cX6_isWay RX6 9 (rmz 2 42) q) (hret : rtZ_4 Γ cX6_isWay 9 (fun (mrs : Int32) (mrk : Nat → Int32) (mfe : Nat → Int32) (mus : Nat → Int32) => (mdW a q mtd mnk mva mno mro mtu mbx mst mja mpr mcr mow mhd mmo mbk mca mfr mrs mrk mfe mus mgi maj)) K) (hX : ∀ (mfe : Nat → Int32) , X mfe → jw Γ 9 0 0 (mdW a q mtd mnk mva mno mro mtu mbx mst mja mpr mcr mow mhd mmo mbk mca mfr mrs mrk mfe mus mgi maj) [(0, .ref (a 0)), (1, .int x1), (2, .int x2)] [] 87) :
    ∀ (n : Nat) (x3 : Int32) (mfe : Nat → Int32) , wp_X6_isWay_51 x1 x2 mrs K X n x3 mfe → jw Γ 9 0 0 (mdW a q mtd mnk mva mno mro mtu mbx mst mja mpr mcr mow mhd mmo mbk mca mfr mrs mrk mfe mus mgi maj) [(0, .ref (a 0)), (1, .int x1), (2, .int x2), (3, .int x3)] [] 51 := by
  intro n
  induction n with
  | zero =>
    intro _ _ h
    exact False.elim h
  | succ n ih =>
    intro x3 mfe h
    unfold wp_X6_isWay_51 at h
    refine j_iload_n g 3 rfl dX6_isWay_51 ?_
    refine j_iload_n g 1 rfl dX6_isWay_52 ?_
    refine j_icmp_gt g dX6_isWay_53 (tgt := 87) (by decide) (fun c1 => ?_) (fun c1 => ?_)
    · replace h := h.1 c1
      refine j_sub [0, 1, 2] rfl ?_
      exact hX mfe h
    replace h := h.2 c1
    refine j_aload_n g 0 rfl dX6_isWay_56 ?_
    refine j_get g fl_X6_51 0 md_0 rfl dX6_isWay_57 ?_
    refine j_sipush g (v := 1000) (by decide) dX6_isWay_60 ?_
    refine j_aload_n g 0 rfl dX6_isWay_63 ?_
    refine j_get g fl_X6_86 0 md_0 rfl dX6_isWay_64 ?_
    refine j_imul g dX6_isWay_67 ?_
    refine j_iload_n g 3 rfl dX6_isWay_68 ?_
    refine j_iadd g dX6_isWay_69 ?_
    refine j_iload_n g 3 rfl dX6_isWay_70 ?_
    refine j_if_ne g dX6_isWay_71 (tgt := 78) (by decide) (fun c2 => ?_) (fun c2 => ?_)
    · replace h := h.1 c2
      refine j_ldc g (v := 1000000) ld_X6_85 dX6_isWay_78 ?_
      obtain ⟨hv3, h⟩ := h
      refine j_iast g 13 md_13 hv3 (ws' := (mdW a q mtd mnk mva mno mro mtu mbx mst mja mpr mcr mow mhd mmo mbk mca mfr mrs mrk (upd mfe (((1000 : Int32) * mrs) + x3).toNatClampNeg (1000000 : Int32)) mus mgi maj)) rfl dX6_isWay_80 ?_
      refine j_iinc g 3 (n := 1) (v := x3 + 1) (lv' := [(3, .int (x3 + 1)), (0, .ref (a 0)), (1, .int x1), (2, .int x2)]) rfl rfl (by decide) rfl dX6_isWay_81 ?_
      refine j_goto g dX6_isWay_84 (tgt := 51) (by decide) ?_
      refine j_sub [1, 2, 3, 0] rfl ?_
      exact ih (x3 + 1) (upd mfe (((1000 : Int32) * mrs) + x3).toNatClampNeg (1000000 : Int32)) h
    replace h := h.2 c2
    refine j_iconst g (v := 0) (by decide) dX6_isWay_74 ?_
    refine j_goto g dX6_isWay_75 (tgt := 80) (by decide) ?_
    obtain ⟨hv4, h⟩ := h
    refine j_iast g 13 md_13 hv4 (ws' := (mdW a q mtd mnk mva mno mro mtu mbx mst mja mpr mcr mow mhd mmo mbk mca mfr mrs mrk (upd mfe (((1000 : Int32) * mrs) + x3).toNatClampNeg (0 : Int32)) mus mgi maj)) rfl dX6_isWay_80 ?_
    refine j_iinc g 3 (n := 1) (v := x3 + 1) (lv' := [(3, .int (x3 + 1)), (0, .ref (a 0)), (1, .int x1), (2, .int x2)]) rfl rfl (by decide) rfl dX6_isWay_81 ?_
    refine j_goto g dX6_isWay_84 (tgt := 51) (by decide) ?_
    refine j_sub [1, 2, 3, 0] rfl ?_
    exact ih (x3 + 1) (upd mfe (((1000 : Int32) * mrs) + x3).toNatClampNeg (0 : Int32)) h
set_option maxRecDepth 20000 in
set_option maxHeartbeats 4000000 in
theorem wk_X6_isWay_122 {Γ : GT} {a : Nat → Nat} {q : Nat → ClassId} {x1 : Int32} {x2 : Int32} {x3 : Int32} {x4 : Int32} {x5 : Int32}  {mtd : Int32} {mnk : Int32} {mva : Nat → Int32} {mno : Nat → Int32} {mro : Nat → Int32} {mtu : Nat → Int32} {mbx : Nat → Int32} {mst : Nat → Int32} {mja : Nat → Int32} {mpr : Nat → Int32} {mcr : Int32} {mow : Int32} {mhd : Int32} {mmo : Int32} {mbk : Nat → Int32} {mca : Nat → Int32} {mfr : Nat → Int32} {mrs : Int32} {mrk : Nat → Int32} {mfe : Nat → Int32} {mus : Nat → Int32} {mgi : Nat → Int32} {maj : Nat → Int32} {K : Int32 → Int32 → (Nat → Int32) → (Nat → Int32) → (Nat → Int32) → Prop} {X : Int32 → Prop} (g : gd Γ cX6_isWay RX6 9 (rmz 2 42) q) (hret : rtZ_4 Γ cX6_isWay 9 (fun (mrs : Int32) (mrk : Nat → Int32) (mfe : Nat → Int32) (mus : Nat → Int32) => (mdW a q mtd mnk mva mno mro mtu mbx mst mja mpr mcr mow mhd mmo mbk mca mfr mrs mrk mfe mus mgi maj)) K) (hX : ∀ (x6 : Int32) , X x6 → jw Γ 9 0 0 (mdW a q mtd mnk mva mno mro mtu mbx mst mja mpr mcr mow mhd mmo mbk mca mfr mrs mrk mfe mus mgi maj) [(0, .ref (a 0)), (1, .int x1), (2, .int x2), (3, .int x3), (4, .int x4), (5, .int x5), (6, .int x6)] [] 197) :
    ∀ (n : Nat) (x6 : Int32) (x7 : Int32) , wp_X6_isWay_122 x1 x2 x3 x4 x5 mva mtu mst mfe K X n x6 x7 → jw Γ 9 0 0 (mdW a q mtd mnk mva mno mro mtu mbx mst mja mpr mcr mow mhd mmo mbk mca mfr mrs mrk mfe mus mgi maj) [(0, .ref (a 0)), (1, .int x1), (2, .int x2), (3, .int x3), (4, .int x4), (5, .int x5), (6, .int x6), (7, .int x7)] [] 122 := by
  intro n
  induction n with
  | zero =>
    intro _ _ h
    exact False.elim h
  | succ n ih =>
    intro x6 x7 h
    unfold wp_X6_isWay_122 at h
    refine j_iload g 7 rfl dX6_isWay_122 ?_
    refine j_aload_n g 0 rfl dX6_isWay_124 ?_
    refine j_iload g 4 rfl dX6_isWay_125 ?_
    refine j_iload_n g 2 rfl dX6_isWay_127 ?_
    refine j_callVI_0 g (As := [.int x4, .int x2]) (st := [.int x7]) (c_X6_mayUse  h) cl_X6_92 0 6 md_0 rfl rfl (Nat.le_of_ble_eq_true rfl) (Nat.le_of_ble_eq_true rfl) (Nat.zero_le _) (Nat.zero_le _) rfl rfl (Nat.le_of_ble_eq_true rfl) dX6_isWay_128 (fun r_1   h => ?_)
    refine j_icmp_gt g dX6_isWay_131 (tgt := 197) (by decide) (fun c2 => ?_) (fun c2 => ?_)
    · replace h := h.1 c2
      refine j_sub [0, 1, 2, 3, 4, 5, 6] rfl ?_
      exact hX x6 h
    replace h := h.2 c2
    refine j_iload g 7 rfl dX6_isWay_134 ?_
    refine j_aload_n g 0 rfl dX6_isWay_136 ?_
    refine j_get g fl_X6_7 0 md_0 rfl dX6_isWay_137 ?_
    refine j_iload g 4 rfl dX6_isWay_140 ?_
    obtain ⟨hv3, h⟩ := h
    refine j_iald g 1 md_1 hv3 dX6_isWay_142 ?_
    refine j_imul g dX6_isWay_143 ?_
    refine j_iload g 5 rfl dX6_isWay_144 ?_
    refine j_icmp_gt g dX6_isWay_146 (tgt := 197) (by decide) (fun c4 => ?_) (fun c4 => ?_)
    · replace h := h.1 c4
      refine j_sub [0, 1, 2, 3, 4, 5, 6] rfl ?_
      exact hX x6 h
    replace h := h.2 c4
    refine j_iload g 7 rfl dX6_isWay_149 ?_
    refine j_aload_n g 0 rfl dX6_isWay_151 ?_
    refine j_get g fl_X6_51 0 md_0 rfl dX6_isWay_152 ?_
    refine j_sipush g (v := 1000) (by decide) dX6_isWay_155 ?_
    refine j_iload_n g 3 rfl dX6_isWay_158 ?_
    refine j_iconst g (v := 1) (by decide) dX6_isWay_159 ?_
    refine j_iadd g dX6_isWay_160 ?_
    refine j_imul g dX6_isWay_161 ?_
    refine j_iload g 5 rfl dX6_isWay_162 ?_
    refine j_iadd g dX6_isWay_164 ?_
    refine j_iload g 7 rfl dX6_isWay_165 ?_
    refine j_aload_n g 0 rfl dX6_isWay_167 ?_
    refine j_get g fl_X6_7 0 md_0 rfl dX6_isWay_168 ?_
    refine j_iload g 4 rfl dX6_isWay_171 ?_
    obtain ⟨hv5, h⟩ := h
    refine j_iald g 1 md_1 hv5 dX6_isWay_173 ?_
    refine j_imul g dX6_isWay_174 ?_
    refine j_isub g dX6_isWay_175 ?_
    obtain ⟨hv6, h⟩ := h
    refine j_iald g 13 md_13 hv6 dX6_isWay_176 ?_
    refine j_iadd g dX6_isWay_177 ?_
    refine j_istore g (lv' := [(8, .int (x7 + (mfe ((((1000 : Int32) * (x3 + (1 : Int32))) + x5) - (x7 * (mva x4.toNatClampNeg))).toNatClampNeg))), (0, .ref (a 0)), (1, .int x1), (2, .int x2), (3, .int x3), (4, .int x4), (5, .int x5), (6, .int x6), (7, .int x7)]) (by decide) rfl dX6_isWay_178 ?_
    refine j_iload g 0 rfl dX6_isWay_180 ?_
    refine j_iload g 7 rfl dX6_isWay_182 ?_
    refine j_icmp_ge g dX6_isWay_184 (tgt := 191) (by decide) (fun c7 => ?_) (fun c7 => ?_)
    · replace h := h.1 c7
      refine j_iinc g 8 (n := 1) (v := x7 + 1) (lv' := [(7, .int (x7 + 1)), (8, .int (x7 + (mfe ((((1000 : Int32) * (x3 + (1 : Int32))) + x5) - (x7 * (mva x4.toNatClampNeg))).toNatClampNeg))), (0, .ref (a 0)), (1, .int x1), (2, .int x2), (3, .int x3), (4, .int x4), (5, .int x5), (6, .int x6)]) rfl rfl (by decide) rfl dX6_isWay_191 ?_
      refine j_goto g dX6_isWay_194 (tgt := 122) (by decide) ?_
      refine j_sub [2, 3, 4, 5, 6, 7, 8, 0] rfl ?_
      exact ih x6 (x7 + 1) h
    replace h := h.2 c7
    refine j_iload g 0 rfl dX6_isWay_187 ?_
    refine j_istore g (lv' := [(6, .int (x7 + (mfe ((((1000 : Int32) * (x3 + (1 : Int32))) + x5) - (x7 * (mva x4.toNatClampNeg))).toNatClampNeg))), (8, .int (x7 + (mfe ((((1000 : Int32) * (x3 + (1 : Int32))) + x5) - (x7 * (mva x4.toNatClampNeg))).toNatClampNeg))), (0, .ref (a 0)), (1, .int x1), (2, .int x2), (3, .int x3), (4, .int x4), (5, .int x5), (7, .int x7)]) (by decide) rfl dX6_isWay_189 ?_
    refine j_iinc g 8 (n := 1) (v := x7 + 1) (lv' := [(7, .int (x7 + 1)), (6, .int (x7 + (mfe ((((1000 : Int32) * (x3 + (1 : Int32))) + x5) - (x7 * (mva x4.toNatClampNeg))).toNatClampNeg))), (8, .int (x7 + (mfe ((((1000 : Int32) * (x3 + (1 : Int32))) + x5) - (x7 * (mva x4.toNatClampNeg))).toNatClampNeg))), (0, .ref (a 0)), (1, .int x1), (2, .int x2), (3, .int x3), (4, .int x4), (5, .int x5)]) rfl rfl (by decide) rfl dX6_isWay_191 ?_
    refine j_goto g dX6_isWay_194 (tgt := 122) (by decide) ?_
    refine j_sub [3, 4, 5, 6, 7, 8, 1, 0] rfl ?_
    exact ih (x7 + (mfe ((((1000 : Int32) * (x3 + (1 : Int32))) + x5) - (x7 * (mva x4.toNatClampNeg))).toNatClampNeg)) (x7 + 1) h
set_option maxRecDepth 20000 in
set_option maxHeartbeats 4000000 in
theorem wk_X6_isWay_109 {Γ : GT} {a : Nat → Nat} {q : Nat → ClassId} {x1 : Int32} {x2 : Int32} {x3 : Int32} {x4 : Int32}  {mtd : Int32} {mnk : Int32} {mva : Nat → Int32} {mno : Nat → Int32} {mro : Nat → Int32} {mtu : Nat → Int32} {mbx : Nat → Int32} {mst : Nat → Int32} {mja : Nat → Int32} {mpr : Nat → Int32} {mcr : Int32} {mow : Int32} {mhd : Int32} {mmo : Int32} {mbk : Nat → Int32} {mca : Nat → Int32} {mfr : Nat → Int32} {mrs : Int32} {mrk : Nat → Int32} {mus : Nat → Int32} {mgi : Nat → Int32} {maj : Nat → Int32} {K : Int32 → Int32 → (Nat → Int32) → (Nat → Int32) → (Nat → Int32) → Prop} {X : (Nat → Int32) → Prop} (g : gd Γ cX6_isWay RX6 9 (rmz 2 42) q) (hret : rtZ_4 Γ cX6_isWay 9 (fun (mrs : Int32) (mrk : Nat → Int32) (mfe : Nat → Int32) (mus : Nat → Int32) => (mdW a q mtd mnk mva mno mro mtu mbx mst mja mpr mcr mow mhd mmo mbk mca mfr mrs mrk mfe mus mgi maj)) K) (hX : ∀ (mfe : Nat → Int32) , X mfe → jw Γ 9 0 0 (mdW a q mtd mnk mva mno mro mtu mbx mst mja mpr mcr mow mhd mmo mbk mca mfr mrs mrk mfe mus mgi maj) [(0, .ref (a 0)), (1, .int x1), (2, .int x2), (3, .int x3)] [] 218) :
    ∀ (n : Nat) (x5 : Int32) (mfe : Nat → Int32) , wp_X6_isWay_109 x1 x2 x3 x4 mva mtu mst K X n x5 mfe → jw Γ 9 0 0 (mdW a q mtd mnk mva mno mro mtu mbx mst mja mpr mcr mow mhd mmo mbk mca mfr mrs mrk mfe mus mgi maj) [(0, .ref (a 0)), (1, .int x1), (2, .int x2), (3, .int x3), (4, .int x4), (5, .int x5)] [] 109 := by
  intro n
  induction n with
  | zero =>
    intro _ _ h
    exact False.elim h
  | succ n ih =>
    intro x5 mfe h
    unfold wp_X6_isWay_109 at h
    refine j_iload g 5 rfl dX6_isWay_109 ?_
    refine j_iload_n g 1 rfl dX6_isWay_111 ?_
    refine j_icmp_gt g dX6_isWay_112 (tgt := 218) (by decide) (fun c1 => ?_) (fun c1 => ?_)
    · replace h := h.1 c1
      refine j_sub [0, 1, 2, 3] rfl ?_
      exact hX mfe h
    replace h := h.2 c1
    refine j_ldc g (v := 1000000) ld_X6_85 dX6_isWay_115 ?_
    refine j_istore g (lv' := [(6, .int (1000000 : Int32)), (0, .ref (a 0)), (1, .int x1), (2, .int x2), (3, .int x3), (4, .int x4), (5, .int x5)]) (by decide) rfl dX6_isWay_117 ?_
    refine j_iconst g (v := 0) (by decide) dX6_isWay_119 ?_
    refine j_istore g (lv' := [(7, .int (0 : Int32)), (6, .int (1000000 : Int32)), (0, .ref (a 0)), (1, .int x1), (2, .int x2), (3, .int x3), (4, .int x4), (5, .int x5)]) (by decide) rfl dX6_isWay_120 ?_
    obtain ⟨n2, h⟩ := h
    refine j_sub [2, 3, 4, 5, 6, 7, 1, 0] rfl ?_
    refine wk_X6_isWay_122  g hret (fun x6_2 h => ?_) n2 (1000000 : Int32) (0 : Int32) h
    refine j_aload_n g 0 rfl dX6_isWay_197 ?_
    refine j_get g fl_X6_51 0 md_0 rfl dX6_isWay_198 ?_
    refine j_sipush g (v := 1000) (by decide) dX6_isWay_201 ?_
    refine j_iload_n g 3 rfl dX6_isWay_204 ?_
    refine j_imul g dX6_isWay_205 ?_
    refine j_iload g 5 rfl dX6_isWay_206 ?_
    refine j_iadd g dX6_isWay_208 ?_
    refine j_iload g 6 rfl dX6_isWay_209 ?_
    obtain ⟨hv3, h⟩ := h
    refine j_iast g 13 md_13 hv3 (ws' := (mdW a q mtd mnk mva mno mro mtu mbx mst mja mpr mcr mow mhd mmo mbk mca mfr mrs mrk (upd mfe (((1000 : Int32) * x3) + x5).toNatClampNeg x6_2) mus mgi maj)) rfl dX6_isWay_211 ?_
    refine j_iinc g 5 (n := 1) (v := x5 + 1) (lv' := [(5, .int (x5 + 1)), (0, .ref (a 0)), (1, .int x1), (2, .int x2), (3, .int x3), (4, .int x4), (6, .int x6_2)]) rfl rfl (by decide) rfl dX6_isWay_212 ?_
    refine j_goto g dX6_isWay_215 (tgt := 109) (by decide) ?_
    refine j_sub [1, 2, 3, 4, 5, 0] rfl ?_
    exact ih (x5 + 1) (upd mfe (((1000 : Int32) * x3) + x5).toNatClampNeg x6_2) h
set_option maxRecDepth 20000 in
set_option maxHeartbeats 4000000 in
theorem wk_X6_isWay_94 {Γ : GT} {a : Nat → Nat} {q : Nat → ClassId} {x1 : Int32} {x2 : Int32}  {mtd : Int32} {mnk : Int32} {mva : Nat → Int32} {mno : Nat → Int32} {mro : Nat → Int32} {mtu : Nat → Int32} {mbx : Nat → Int32} {mst : Nat → Int32} {mja : Nat → Int32} {mpr : Nat → Int32} {mcr : Int32} {mow : Int32} {mhd : Int32} {mmo : Int32} {mbk : Nat → Int32} {mca : Nat → Int32} {mfr : Nat → Int32} {mrs : Int32} {mrk : Nat → Int32} {mus : Nat → Int32} {mgi : Nat → Int32} {maj : Nat → Int32} {K : Int32 → Int32 → (Nat → Int32) → (Nat → Int32) → (Nat → Int32) → Prop} {X : (Nat → Int32) → Prop} (g : gd Γ cX6_isWay RX6 9 (rmz 2 42) q) (hret : rtZ_4 Γ cX6_isWay 9 (fun (mrs : Int32) (mrk : Nat → Int32) (mfe : Nat → Int32) (mus : Nat → Int32) => (mdW a q mtd mnk mva mno mro mtu mbx mst mja mpr mcr mow mhd mmo mbk mca mfr mrs mrk mfe mus mgi maj)) K) (hX : ∀ (mfe : Nat → Int32) , X mfe → jw Γ 9 0 0 (mdW a q mtd mnk mva mno mro mtu mbx mst mja mpr mcr mow mhd mmo mbk mca mfr mrs mrk mfe mus mgi maj) [(0, .ref (a 0)), (1, .int x1), (2, .int x2)] [] 224) :
    ∀ (n : Nat) (x3 : Int32) (mfe : Nat → Int32) , wp_X6_isWay_94 x1 x2 mva mtu mst mrk K X n x3 mfe → jw Γ 9 0 0 (mdW a q mtd mnk mva mno mro mtu mbx mst mja mpr mcr mow mhd mmo mbk mca mfr mrs mrk mfe mus mgi maj) [(0, .ref (a 0)), (1, .int x1), (2, .int x2), (3, .int x3)] [] 94 := by
  intro n
  induction n with
  | zero =>
    intro _ _ h
    exact False.elim h
  | succ n ih =>
    intro x3 mfe h
    unfold wp_X6_isWay_94 at h
    refine j_iload_n g 3 rfl dX6_isWay_94 ?_
    refine j_if_lt g dX6_isWay_95 (tgt := 224) (by decide) (fun c1 => ?_) (fun c1 => ?_)
    · replace h := h.1 c1
      refine j_sub [0, 1, 2] rfl ?_
      exact hX mfe h
    replace h := h.2 c1
    refine j_aload_n g 0 rfl dX6_isWay_98 ?_
    refine j_get g fl_X6_48 0 md_0 rfl dX6_isWay_99 ?_
    refine j_iload_n g 3 rfl dX6_isWay_102 ?_
    obtain ⟨hv2, h⟩ := h
    refine j_iald g 12 md_12 hv2 dX6_isWay_103 ?_
    refine j_istore g (lv' := [(4, .int (mrk x3.toNatClampNeg)), (0, .ref (a 0)), (1, .int x1), (2, .int x2), (3, .int x3)]) (by decide) rfl dX6_isWay_104 ?_
    refine j_iconst g (v := 0) (by decide) dX6_isWay_106 ?_
    refine j_istore g (lv' := [(5, .int (0 : Int32)), (4, .int (mrk x3.toNatClampNeg)), (0, .ref (a 0)), (1, .int x1), (2, .int x2), (3, .int x3)]) (by decide) rfl dX6_isWay_107 ?_
    obtain ⟨n3, h⟩ := h
    refine j_sub [2, 3, 4, 5, 1, 0] rfl ?_
    refine wk_X6_isWay_109  g hret (fun mfe_3 h => ?_) n3 (0 : Int32) mfe h
    refine j_iinc g 3 (n := -1) (v := x3 + (-1 : Int32)) (lv' := [(3, .int (x3 + (-1 : Int32))), (0, .ref (a 0)), (1, .int x1), (2, .int x2)]) rfl rfl (by decide) rfl dX6_isWay_218 ?_
    refine j_goto g dX6_isWay_221 (tgt := 94) (by decide) ?_
    refine j_sub [1, 2, 3, 0] rfl ?_
    exact ih (x3 + (-1 : Int32)) mfe_3 h
set_option maxRecDepth 20000 in
set_option maxHeartbeats 4000000 in
theorem wk_X6_isWay_226 {Γ : GT} {a : Nat → Nat} {q : Nat → ClassId} {x1 : Int32} {x2 : Int32}  {mtd : Int32} {mnk : Int32} {mva : Nat → Int32} {mno : Nat → Int32} {mro : Nat → Int32} {mtu : Nat → Int32} {mbx : Nat → Int32} {mst : Nat → Int32} {mja : Nat → Int32} {mpr : Nat → Int32} {mcr : Int32} {mow : Int32} {mhd : Int32} {mmo : Int32} {mbk : Nat → Int32} {mca : Nat → Int32} {mfr : Nat → Int32} {mrs : Int32} {mrk : Nat → Int32} {mfe : Nat → Int32} {mgi : Nat → Int32} {maj : Nat → Int32} {K : Int32 → Int32 → (Nat → Int32) → (Nat → Int32) → (Nat → Int32) → Prop} {X : (Nat → Int32) → Prop} (g : gd Γ cX6_isWay RX6 9 (rmz 2 42) q) (hret : rtZ_4 Γ cX6_isWay 9 (fun (mrs : Int32) (mrk : Nat → Int32) (mfe : Nat → Int32) (mus : Nat → Int32) => (mdW a q mtd mnk mva mno mro mtu mbx mst mja mpr mcr mow mhd mmo mbk mca mfr mrs mrk mfe mus mgi maj)) K) (hX : ∀ (mus : Nat → Int32) , X mus → jw Γ 9 0 0 (mdW a q mtd mnk mva mno mro mtu mbx mst mja mpr mcr mow mhd mmo mbk mca mfr mrs mrk mfe mus mgi maj) [(0, .ref (a 0)), (1, .int x1), (2, .int x2)] [] 245) :
    ∀ (n : Nat) (x3 : Int32) (mus : Nat → Int32) , wp_X6_isWay_226 x1 x2 K X n x3 mus → jw Γ 9 0 0 (mdW a q mtd mnk mva mno mro mtu mbx mst mja mpr mcr mow mhd mmo mbk mca mfr mrs mrk mfe mus mgi maj) [(0, .ref (a 0)), (1, .int x1), (2, .int x2), (3, .int x3)] [] 226 := by
  intro n
  induction n with
  | zero =>
    intro _ _ h
    exact False.elim h
  | succ n ih =>
    intro x3 mus h
    unfold wp_X6_isWay_226 at h
    refine j_iload_n g 3 rfl dX6_isWay_226 ?_
    refine j_bipush g (v := 6) (by decide) dX6_isWay_227 ?_
    refine j_icmp_ge g dX6_isWay_229 (tgt := 245) (by decide) (fun c1 => ?_) (fun c1 => ?_)
    · replace h := h.1 c1
      refine j_sub [0, 1, 2] rfl ?_
      exact hX mus h
    replace h := h.2 c1
    refine j_aload_n g 0 rfl dX6_isWay_232 ?_
    refine j_get g fl_X6_54 0 md_0 rfl dX6_isWay_233 ?_
    refine j_iload_n g 3 rfl dX6_isWay_236 ?_
    refine j_iconst g (v := 0) (by decide) dX6_isWay_237 ?_
    obtain ⟨hv2, h⟩ := h
    refine j_iast g 14 md_14 hv2 (ws' := (mdW a q mtd mnk mva mno mro mtu mbx mst mja mpr mcr mow mhd mmo mbk mca mfr mrs mrk mfe (upd mus x3.toNatClampNeg (0 : Int32)) mgi maj)) rfl dX6_isWay_238 ?_
    refine j_iinc g 3 (n := 1) (v := x3 + 1) (lv' := [(3, .int (x3 + 1)), (0, .ref (a 0)), (1, .int x1), (2, .int x2)]) rfl rfl (by decide) rfl dX6_isWay_239 ?_
    refine j_goto g dX6_isWay_242 (tgt := 226) (by decide) ?_
    refine j_sub [1, 2, 3, 0] rfl ?_
    exact ih (x3 + 1) (upd mus x3.toNatClampNeg (0 : Int32)) h
set_option maxRecDepth 20000 in
set_option maxHeartbeats 4000000 in
theorem wk_X6_isWay_290 {Γ : GT} {a : Nat → Nat} {q : Nat → ClassId} {x2 : Int32} {x3 : Int32} {x4 : Int32} {x5 : Int32}  {mtd : Int32} {mnk : Int32} {mva : Nat → Int32} {mno : Nat → Int32} {mro : Nat → Int32} {mtu : Nat → Int32} {mbx : Nat → Int32} {mst : Nat → Int32} {mja : Nat → Int32} {mpr : Nat → Int32} {mcr : Int32} {mow : Int32} {mhd : Int32} {mmo : Int32} {mbk : Nat → Int32} {mca : Nat → Int32} {mfr : Nat → Int32} {mrs : Int32} {mrk : Nat → Int32} {mfe : Nat → Int32} {mus : Nat → Int32} {mgi : Nat → Int32} {maj : Nat → Int32} {K : Int32 → Int32 → (Nat → Int32) → (Nat → Int32) → (Nat → Int32) → Prop} {X : Int32 → Prop} (g : gd Γ cX6_isWay RX6 9 (rmz 2 42) q) (hret : rtZ_4 Γ cX6_isWay 9 (fun (mrs : Int32) (mrk : Nat → Int32) (mfe : Nat → Int32) (mus : Nat → Int32) => (mdW a q mtd mnk mva mno mro mtu mbx mst mja mpr mcr mow mhd mmo mbk mca mfr mrs mrk mfe mus mgi maj)) K) (hX : ∀ (x6 : Int32) , X x6 → jw Γ 9 0 0 (mdW a q mtd mnk mva mno mro mtu mbx mst mja mpr mcr mow mhd mmo mbk mca mfr mrs mrk mfe mus mgi maj) [(0, .ref (a 0)), (2, .int x2), (3, .int x3), (4, .int x4), (5, .int x5), (6, .int x6)] [] 358) :
    ∀ (n : Nat) (x6 : Int32) , wp_X6_isWay_290 x2 x3 x4 x5 mva mfe K X n x6 → jw Γ 9 0 0 (mdW a q mtd mnk mva mno mro mtu mbx mst mja mpr mcr mow mhd mmo mbk mca mfr mrs mrk mfe mus mgi maj) [(0, .ref (a 0)), (2, .int x2), (3, .int x3), (4, .int x4), (5, .int x5), (6, .int x6)] [] 290 := by
  intro n
  induction n with
  | zero =>
    intro _ h
    exact False.elim h
  | succ n ih =>
    intro x6 h
    unfold wp_X6_isWay_290 at h
    refine j_iload g 5 rfl dX6_isWay_290 ?_
    refine j_aload_n g 0 rfl dX6_isWay_292 ?_
    refine j_get g fl_X6_7 0 md_0 rfl dX6_isWay_293 ?_
    refine j_iload g 4 rfl dX6_isWay_296 ?_
    obtain ⟨hv1, h⟩ := h
    refine j_iald g 1 md_1 hv1 dX6_isWay_298 ?_
    refine j_imul g dX6_isWay_299 ?_
    refine j_iload_n g 2 rfl dX6_isWay_300 ?_
    refine j_icmp_gt g dX6_isWay_301 (tgt := 349) (by decide) (fun c2 => ?_) (fun c2 => ?_)
    · replace h := h.1 c2
      refine j_iload g 5 rfl dX6_isWay_349 ?_
      refine j_iconst g (v := 1) (by decide) dX6_isWay_351 ?_
      refine j_isub g dX6_isWay_352 ?_
      refine j_istore g (lv' := [(6, .int (x6 - (1 : Int32))), (0, .ref (a 0)), (2, .int x2), (3, .int x3), (4, .int x4), (5, .int x5)]) (by decide) rfl dX6_isWay_353 ?_
      refine j_goto g dX6_isWay_355 (tgt := 290) (by decide) ?_
      refine j_sub [1, 2, 3, 4, 5, 0] rfl ?_
      exact ih (x6 - (1 : Int32)) h
    replace h := h.2 c2
    refine j_iload g 5 rfl dX6_isWay_304 ?_
    refine j_aload_n g 0 rfl dX6_isWay_306 ?_
    refine j_get g fl_X6_51 0 md_0 rfl dX6_isWay_307 ?_
    refine j_sipush g (v := 1000) (by decide) dX6_isWay_310 ?_
    refine j_iload g 3 rfl dX6_isWay_313 ?_
    refine j_iconst g (v := 1) (by decide) dX6_isWay_315 ?_
    refine j_iadd g dX6_isWay_316 ?_
    refine j_imul g dX6_isWay_317 ?_
    refine j_iload_n g 2 rfl dX6_isWay_318 ?_
    refine j_iadd g dX6_isWay_319 ?_
    refine j_iload g 5 rfl dX6_isWay_320 ?_
    refine j_aload_n g 0 rfl dX6_isWay_322 ?_
    refine j_get g fl_X6_7 0 md_0 rfl dX6_isWay_323 ?_
    refine j_iload g 4 rfl dX6_isWay_326 ?_
    obtain ⟨hv3, h⟩ := h
    refine j_iald g 1 md_1 hv3 dX6_isWay_328 ?_
    refine j_imul g dX6_isWay_329 ?_
    refine j_isub g dX6_isWay_330 ?_
    obtain ⟨hv4, h⟩ := h
    refine j_iald g 13 md_13 hv4 dX6_isWay_331 ?_
    refine j_iadd g dX6_isWay_332 ?_
    refine j_aload_n g 0 rfl dX6_isWay_333 ?_
    refine j_get g fl_X6_51 0 md_0 rfl dX6_isWay_334 ?_
    refine j_sipush g (v := 1000) (by decide) dX6_isWay_337 ?_
    refine j_iload g 3 rfl dX6_isWay_340 ?_
    refine j_imul g dX6_isWay_342 ?_
    refine j_iload_n g 2 rfl dX6_isWay_343 ?_
    refine j_iadd g dX6_isWay_344 ?_
    obtain ⟨hv5, h⟩ := h
    refine j_iald g 13 md_13 hv5 dX6_isWay_345 ?_
    refine j_icmp_eq g dX6_isWay_346 (tgt := 358) (by decide) (fun c6 => ?_) (fun c6 => ?_)
    · replace h := h.1 c6
      exact hX x6 h
    replace h := h.2 c6
    refine j_iload g 5 rfl dX6_isWay_349 ?_
    refine j_iconst g (v := 1) (by decide) dX6_isWay_351 ?_
    refine j_isub g dX6_isWay_352 ?_
    refine j_istore g (lv' := [(6, .int (x6 - (1 : Int32))), (0, .ref (a 0)), (2, .int x2), (3, .int x3), (4, .int x4), (5, .int x5)]) (by decide) rfl dX6_isWay_353 ?_
    refine j_goto g dX6_isWay_355 (tgt := 290) (by decide) ?_
    refine j_sub [1, 2, 3, 4, 5, 0] rfl ?_
    exact ih (x6 - (1 : Int32)) h
set_option maxRecDepth 20000 in
set_option maxHeartbeats 4000000 in
theorem wk_X6_isWay_263 {Γ : GT} {a : Nat → Nat} {q : Nat → ClassId} {x2 : Int32}  {mtd : Int32} {mnk : Int32} {mva : Nat → Int32} {mno : Nat → Int32} {mro : Nat → Int32} {mtu : Nat → Int32} {mbx : Nat → Int32} {mst : Nat → Int32} {mja : Nat → Int32} {mpr : Nat → Int32} {mcr : Int32} {mow : Int32} {mhd : Int32} {mmo : Int32} {mbk : Nat → Int32} {mca : Nat → Int32} {mfr : Nat → Int32} {mrs : Int32} {mrk : Nat → Int32} {mfe : Nat → Int32} {mgi : Nat → Int32} {maj : Nat → Int32} {K : Int32 → Int32 → (Nat → Int32) → (Nat → Int32) → (Nat → Int32) → Prop} {X : (Nat → Int32) → Prop} (g : gd Γ cX6_isWay RX6 9 (rmz 2 42) q) (hret : rtZ_4 Γ cX6_isWay 9 (fun (mrs : Int32) (mrk : Nat → Int32) (mfe : Nat → Int32) (mus : Nat → Int32) => (mdW a q mtd mnk mva mno mro mtu mbx mst mja mpr mcr mow mhd mmo mbk mca mfr mrs mrk mfe mus mgi maj)) K) (hX : ∀ (mus : Nat → Int32) , X mus → jw Γ 9 0 0 (mdW a q mtd mnk mva mno mro mtu mbx mst mja mpr mcr mow mhd mmo mbk mca mfr mrs mrk mfe mus mgi maj) [] [] 386) :
    ∀ (n : Nat) (x3 : Int32) (x4 : Int32) (mus : Nat → Int32) , wp_X6_isWay_263 x2 mva mtu mst mrs mrk mfe K X n x3 x4 mus → jw Γ 9 0 0 (mdW a q mtd mnk mva mno mro mtu mbx mst mja mpr mcr mow mhd mmo mbk mca mfr mrs mrk mfe mus mgi maj) [(0, .ref (a 0)), (2, .int x2), (3, .int x3), (4, .int x4)] [] 263 := by
  intro n
  induction n with
  | zero =>
    intro _ _ _ h
    exact False.elim h
  | succ n ih =>
    intro x3 x4 mus h
    unfold wp_X6_isWay_263 at h
    refine j_iload g 3 rfl dX6_isWay_263 ?_
    refine j_aload_n g 0 rfl dX6_isWay_265 ?_
    refine j_get g fl_X6_86 0 md_0 rfl dX6_isWay_266 ?_
    refine j_icmp_ge g dX6_isWay_269 (tgt := 386) (by decide) (fun c1 => ?_) (fun c1 => ?_)
    · replace h := h.1 c1
      refine j_sub [] rfl ?_
      exact hX mus h
    replace h := h.2 c1
    refine j_aload_n g 0 rfl dX6_isWay_272 ?_
    refine j_get g fl_X6_48 0 md_0 rfl dX6_isWay_273 ?_
    refine j_iload g 3 rfl dX6_isWay_276 ?_
    obtain ⟨hv2, h⟩ := h
    refine j_iald g 12 md_12 hv2 dX6_isWay_278 ?_
    refine j_istore g (lv' := [(5, .int (mrk x4.toNatClampNeg)), (0, .ref (a 0)), (2, .int x2), (3, .int x3), (4, .int x4)]) (by decide) rfl dX6_isWay_279 ?_
    refine j_aload_n g 1 rfl dX6_isWay_281 ?_
    refine j_iload g 0 rfl dX6_isWay_282 ?_
    refine j_iload_n g 2 rfl dX6_isWay_284 ?_
    refine j_callVI_0 g (As := [.int (mrk x4.toNatClampNeg), .int x2]) (st := []) (c_X6_mayUse  h) cl_X6_92 0 6 md_0 rfl rfl (Nat.le_of_ble_eq_true rfl) (Nat.le_of_ble_eq_true rfl) (Nat.zero_le _) (Nat.zero_le _) rfl rfl (Nat.le_of_ble_eq_true rfl) dX6_isWay_285 (fun r_3   h => ?_)
    refine j_istore g (lv' := [(6, .int r_3), (5, .int (mrk x4.toNatClampNeg)), (0, .ref (a 0)), (2, .int x2), (3, .int x3), (4, .int x4)]) (by decide) rfl dX6_isWay_288 ?_
    obtain ⟨n4, h⟩ := h
    refine j_sub [2, 3, 4, 5, 1, 0] rfl ?_
    refine wk_X6_isWay_290  g hret (fun x6_4 h => ?_) n4 r_3 h
    refine j_aload_n g 0 rfl dX6_isWay_358 ?_
    refine j_get g fl_X6_54 0 md_0 rfl dX6_isWay_359 ?_
    refine j_iload g 4 rfl dX6_isWay_362 ?_
    refine j_iload g 5 rfl dX6_isWay_364 ?_
    obtain ⟨hv5, h⟩ := h
    refine j_iast g 14 md_14 hv5 (ws' := (mdW a q mtd mnk mva mno mro mtu mbx mst mja mpr mcr mow mhd mmo mbk mca mfr mrs mrk mfe (upd mus (mrk x4.toNatClampNeg).toNatClampNeg x6_4) mgi maj)) rfl dX6_isWay_366 ?_
    refine j_iload_n g 2 rfl dX6_isWay_367 ?_
    refine j_iload g 5 rfl dX6_isWay_368 ?_
    refine j_aload_n g 0 rfl dX6_isWay_370 ?_
    refine j_get g fl_X6_7 0 md_0 rfl dX6_isWay_371 ?_
    refine j_iload g 4 rfl dX6_isWay_374 ?_
    obtain ⟨hv6, h⟩ := h
    refine j_iald g 1 md_1 hv6 dX6_isWay_376 ?_
    refine j_imul g dX6_isWay_377 ?_
    refine j_isub g dX6_isWay_378 ?_
    refine j_istore_n g (lv' := [(3, .int (x3 - (x6_4 * (mva (mrk x4.toNatClampNeg).toNatClampNeg)))), (0, .ref (a 0)), (2, .int x2), (4, .int x4), (5, .int (mrk x4.toNatClampNeg)), (6, .int x6_4)]) (by decide) rfl dX6_isWay_379 ?_
    refine j_iinc g 3 (n := 1) (v := x4 + 1) (lv' := [(4, .int (x4 + 1)), (3, .int (x3 - (x6_4 * (mva (mrk x4.toNatClampNeg).toNatClampNeg)))), (0, .ref (a 0)), (2, .int x2), (5, .int (mrk x4.toNatClampNeg)), (6, .int x6_4)]) rfl rfl (by decide) rfl dX6_isWay_380 ?_
    refine j_goto g dX6_isWay_383 (tgt := 263) (by decide) ?_
    refine j_sub [2, 3, 1, 0] rfl ?_
    exact ih (x3 - (x6_4 * (mva (mrk x4.toNatClampNeg).toNatClampNeg))) (x4 + 1) (upd mus (mrk x4.toNatClampNeg).toNatClampNeg x6_4) h
set_option maxRecDepth 20000 in
set_option maxHeartbeats 4000000 in
theorem c_X6_isWay {a : Nat → Nat} {q : Nat → ClassId} {x1 : Int32} {x2 : Int32}  {mtd : Int32} {mnk : Int32} {mva : Nat → Int32} {mno : Nat → Int32} {mro : Nat → Int32} {mtu : Nat → Int32} {mbx : Nat → Int32} {mst : Nat → Int32} {mja : Nat → Int32} {mpr : Nat → Int32} {mcr : Int32} {mow : Int32} {mhd : Int32} {mmo : Int32} {mbk : Nat → Int32} {mca : Nat → Int32} {mfr : Nat → Int32} {mrs : Int32} {mrk : Nat → Int32} {mfe : Nat → Int32} {mus : Nat → Int32} {mgi : Nat → Int32} {maj : Nat → Int32} {K : Int32 → Int32 → (Nat → Int32) → (Nat → Int32) → (Nat → Int32) → Prop} (h : wp_X6_isWay x1 x2 mnk mva mno mtu mst mrs mrk mfe mus K) : ctZ_4 q yX6_isWay cX6_isWay 9 2 42 [.ref (a 0), .int x1, .int x2] (mdW a q mtd mnk mva mno mro mtu mbx mst mja mpr mcr mow mhd mmo mbk mca mfr mrs mrk mfe mus mgi maj) (fun (mrs : Int32) (mrk : Nat → Int32) (mfe : Nat → Int32) (mus : Nat → Int32) => (mdW a q mtd mnk mva mno mro mtu mbx mst mja mpr mcr mow mhd mmo mbk mca mfr mrs mrk mfe mus mgi maj)) K := by
  refine met_Z_4 (by decide) (Nat.le_of_ble_eq_true rfl) (fun Γ g hret => ?_)
  unfold wp_X6_isWay at h
  show jw Γ 9 0 0 (mdW a q mtd mnk mva mno mro mtu mbx mst mja mpr mcr mow mhd mmo mbk mca mfr mrs mrk mfe mus mgi maj) [(0, .ref (a 0)), (1, .int x1), (2, .int x2)] [] 0
  refine j_aload_n g 0 rfl dX6_isWay_0 ?_
  refine j_callVV_2 g (As := []) (st := []) (c_X6_rank  h) cl_X6_89 0 6 md_0 rfl rfl (Nat.le_of_ble_eq_true rfl) (Nat.le_of_ble_eq_true rfl) (Nat.zero_le _) (Nat.zero_le _) rfl rfl (Nat.le_of_ble_eq_true rfl) dX6_isWay_1 (fun mrs_1 mrk_1 h => ?_)
  refine j_ws (ws' := (mdW a q mtd mnk mva mno mro mtu mbx mst mja mpr mcr mow mhd mmo mbk mca mfr mrs_1 mrk_1 mfe mus mgi maj)) rfl ?_
  refine j_iconst g (v := 0) (by decide) dX6_isWay_4 ?_
  refine j_istore_n g (lv' := [(3, .int (0 : Int32)), (0, .ref (a 0)), (1, .int x1), (2, .int x2)]) (by decide) rfl dX6_isWay_5 ?_
  obtain ⟨n2, h⟩ := h
  refine j_sub [1, 2, 3, 0] rfl ?_
  refine wk_X6_isWay_6  g hret (fun h => ?_) n2 (0 : Int32) h
  refine j_iconst g (v := 0) (by decide) dX6_isWay_49 ?_
  refine j_istore_n g (lv' := [(3, .int (0 : Int32)), (0, .ref (a 0)), (1, .int x1), (2, .int x2)]) (by decide) rfl dX6_isWay_50 ?_
  obtain ⟨n3, h⟩ := h
  refine j_sub [1, 2, 3, 0] rfl ?_
  refine wk_X6_isWay_51  g hret (fun mfe_3 h => ?_) n3 (0 : Int32) mfe h
  refine j_aload_n g 0 rfl dX6_isWay_87 ?_
  refine j_get g fl_X6_86 0 md_0 rfl dX6_isWay_88 ?_
  refine j_iconst g (v := 1) (by decide) dX6_isWay_91 ?_
  refine j_isub g dX6_isWay_92 ?_
  refine j_istore_n g (lv' := [(3, .int (mrs_1 - (1 : Int32))), (0, .ref (a 0)), (1, .int x1), (2, .int x2)]) (by decide) rfl dX6_isWay_93 ?_
  obtain ⟨n4, h⟩ := h
  refine j_sub [1, 2, 3, 0] rfl ?_
  refine wk_X6_isWay_94  g hret (fun mfe_4 h => ?_) n4 (mrs_1 - (1 : Int32)) mfe_3 h
  refine j_iconst g (v := 0) (by decide) dX6_isWay_224 ?_
  refine j_istore_n g (lv' := [(3, .int (0 : Int32)), (0, .ref (a 0)), (1, .int x1), (2, .int x2)]) (by decide) rfl dX6_isWay_225 ?_
  obtain ⟨n5, h⟩ := h
  refine j_sub [1, 2, 3, 0] rfl ?_
  refine wk_X6_isWay_226  g hret (fun mus_5 h => ?_) n5 (0 : Int32) mus h
  refine j_aload_n g 0 rfl dX6_isWay_245 ?_
  refine j_get g fl_X6_51 0 md_0 rfl dX6_isWay_246 ?_
  refine j_iload_n g 1 rfl dX6_isWay_249 ?_
  obtain ⟨hv6, h⟩ := h
  refine j_iald g 13 md_13 hv6 dX6_isWay_250 ?_
  refine j_ldc g (v := 1000000) ld_X6_85 dX6_isWay_251 ?_
  refine j_icmp_lt g dX6_isWay_253 (tgt := 258) (by decide) (fun c7 => ?_) (fun c7 => ?_)
  rotate_left
  · replace h := h.2 c7
    refine j_iconst g (v := 0) (by decide) dX6_isWay_256 ?_
    exact hret.go dX6_isWay_257 (Or.inl rfl) h
  replace h := h.1 c7
  refine j_iload_n g 1 rfl dX6_isWay_258 ?_
  refine j_istore_n g (lv' := [(3, .int x1), (0, .ref (a 0)), (1, .int x1), (2, .int x2)]) (by decide) rfl dX6_isWay_259 ?_
  refine j_iconst g (v := 0) (by decide) dX6_isWay_260 ?_
  refine j_istore g (lv' := [(4, .int (0 : Int32)), (3, .int x1), (0, .ref (a 0)), (1, .int x1), (2, .int x2)]) (by decide) rfl dX6_isWay_261 ?_
  obtain ⟨n8, h⟩ := h
  refine j_sub [2, 4, 1, 0] rfl ?_
  refine wk_X6_isWay_263  g hret (fun mus_8 h => ?_) n8 x1 (0 : Int32) mus_5 h
  refine j_iconst g (v := 1) (by decide) dX6_isWay_386 ?_
  exact hret.go dX6_isWay_387 (Or.inr rfl) h

set_option maxRecDepth 20000 in
def wp_X6_findWay_17 (x1 : Int32) (mnk : Int32) (mva : Nat → Int32) (mno : Nat → Int32) (mtu : Nat → Int32) (mst : Nat → Int32) (K : Int32 → Int32 → (Nat → Int32) → (Nat → Int32) → (Nat → Int32) → Prop) (X : Int32 → (Nat → Int32) → (Nat → Int32) → (Nat → Int32) → Prop) : Nat → Int32 → Int32 → (Nat → Int32) → (Nat → Int32) → (Nat → Int32) → Prop
  | 0, _, _, _, _, _ => False
  | n + 1, x2, mrs, mrk, mfe, mus => ((x2 ≤ 0 → X mrs mrk mfe mus) ∧ (¬ x2 ≤ 0 → wp_X6_isWay x1 x2 mnk mva mno mtu mst mrs mrk mfe mus (fun (r_2 : Int32) (mrs_2 : Int32) (mrk_2 : Nat → Int32) (mfe_2 : Nat → Int32) (mus_2 : Nat → Int32) => ((r_2 = 0 → wp_X6_findWay_17 x1 mnk mva mno mtu mst K X n (x2 + (-1 : Int32)) mrs_2 mrk_2 mfe_2 mus_2) ∧ (¬ r_2 = 0 → K (1 : Int32) mrs_2 mrk_2 mfe_2 mus_2)))))
set_option maxRecDepth 20000 in
def wp_X6_findWay (x1 : Int32) (mnk : Int32) (mva : Nat → Int32) (mno : Nat → Int32) (mtu : Nat → Int32) (mst : Nat → Int32) (mmo : Int32) (mrs : Int32) (mrk : Nat → Int32) (mfe : Nat → Int32) (mus : Nat → Int32) (K : Int32 → Int32 → (Nat → Int32) → (Nat → Int32) → (Nat → Int32) → Prop) : Prop :=
  ((¬ mmo = 0 → ∃ n2 : Nat, wp_X6_findWay_17 x1 mnk mva mno mtu mst K (fun (mrs_2 : Int32) (mrk_2 : Nat → Int32) (mfe_2 : Nat → Int32) (mus_2 : Nat → Int32) => wp_X6_isWay x1 (0 : Int32) mnk mva mno mtu mst mrs_2 mrk_2 mfe_2 mus_2 (fun (r_3 : Int32) (mrs_3 : Int32) (mrk_3 : Nat → Int32) (mfe_3 : Nat → Int32) (mus_3 : Nat → Int32) => K r_3 mrs_3 mrk_3 mfe_3 mus_3)) n2 (20 : Int32) mrs mrk mfe mus) ∧ (mmo = 0 → wp_X6_isWay x1 (0 : Int32) mnk mva mno mtu mst mrs mrk mfe mus (fun (r_4 : Int32) (mrs_4 : Int32) (mrk_4 : Nat → Int32) (mfe_4 : Nat → Int32) (mus_4 : Nat → Int32) => K r_4 mrs_4 mrk_4 mfe_4 mus_4)))
theorem dX6_findWay_0 : decode cX6_findWay 0 = .ok (.aload_n 0, 1) := by decide +kernel
theorem dX6_findWay_1 : decode cX6_findWay 1 = .ok (.getfield 79, 3) := by decide +kernel
theorem dX6_findWay_4 : decode cX6_findWay 4 = .ok (.ifCond .ne 10, 3) := by decide +kernel
theorem dX6_findWay_7 : decode cX6_findWay 7 = .ok (.aload_n 0, 1) := by decide +kernel
theorem dX6_findWay_8 : decode cX6_findWay 8 = .ok (.iload_n 1, 1) := by decide +kernel
theorem dX6_findWay_9 : decode cX6_findWay 9 = .ok (.iconst 0, 1) := by decide +kernel
theorem dX6_findWay_10 : decode cX6_findWay 10 = .ok (.invokevirtual 96, 3) := by decide +kernel
theorem dX6_findWay_13 : decode cX6_findWay 13 = .ok (.ireturn, 1) := by decide +kernel
theorem dX6_findWay_14 : decode cX6_findWay 14 = .ok (.bipush 20, 2) := by decide +kernel
theorem dX6_findWay_16 : decode cX6_findWay 16 = .ok (.istore_n 2, 1) := by decide +kernel
theorem dX6_findWay_17 : decode cX6_findWay 17 = .ok (.iload_n 2, 1) := by decide +kernel
theorem dX6_findWay_18 : decode cX6_findWay 18 = .ok (.ifCond .le 20, 3) := by decide +kernel
theorem dX6_findWay_21 : decode cX6_findWay 21 = .ok (.aload_n 0, 1) := by decide +kernel
theorem dX6_findWay_22 : decode cX6_findWay 22 = .ok (.iload_n 1, 1) := by decide +kernel
theorem dX6_findWay_23 : decode cX6_findWay 23 = .ok (.iload_n 2, 1) := by decide +kernel
theorem dX6_findWay_24 : decode cX6_findWay 24 = .ok (.invokevirtual 96, 3) := by decide +kernel
theorem dX6_findWay_27 : decode cX6_findWay 27 = .ok (.ifCond .eq 5, 3) := by decide +kernel
theorem dX6_findWay_30 : decode cX6_findWay 30 = .ok (.iconst 1, 1) := by decide +kernel
theorem dX6_findWay_31 : decode cX6_findWay 31 = .ok (.ireturn, 1) := by decide +kernel
theorem dX6_findWay_32 : decode cX6_findWay 32 = .ok (.iinc 2 (-1), 3) := by decide +kernel
theorem dX6_findWay_35 : decode cX6_findWay 35 = .ok (.goto (-18), 3) := by decide +kernel
theorem dX6_findWay_38 : decode cX6_findWay 38 = .ok (.aload_n 0, 1) := by decide +kernel
theorem dX6_findWay_39 : decode cX6_findWay 39 = .ok (.iload_n 1, 1) := by decide +kernel
theorem dX6_findWay_40 : decode cX6_findWay 40 = .ok (.iconst 0, 1) := by decide +kernel
theorem dX6_findWay_41 : decode cX6_findWay 41 = .ok (.invokevirtual 96, 3) := by decide +kernel
theorem dX6_findWay_44 : decode cX6_findWay 44 = .ok (.ireturn, 1) := by decide +kernel
set_option maxRecDepth 20000 in
set_option maxHeartbeats 4000000 in
theorem wk_X6_findWay_17 {Γ : GT} {a : Nat → Nat} {q : Nat → ClassId} {x1 : Int32}  {mtd : Int32} {mnk : Int32} {mva : Nat → Int32} {mno : Nat → Int32} {mro : Nat → Int32} {mtu : Nat → Int32} {mbx : Nat → Int32} {mst : Nat → Int32} {mja : Nat → Int32} {mpr : Nat → Int32} {mcr : Int32} {mow : Int32} {mhd : Int32} {mmo : Int32} {mbk : Nat → Int32} {mca : Nat → Int32} {mfr : Nat → Int32} {mgi : Nat → Int32} {maj : Nat → Int32} {K : Int32 → Int32 → (Nat → Int32) → (Nat → Int32) → (Nat → Int32) → Prop} {X : Int32 → (Nat → Int32) → (Nat → Int32) → (Nat → Int32) → Prop} (g : gd Γ cX6_findWay RX6 3 (rmz 3 70) q) (hret : rtZ_4 Γ cX6_findWay 3 (fun (mrs : Int32) (mrk : Nat → Int32) (mfe : Nat → Int32) (mus : Nat → Int32) => (mdW a q mtd mnk mva mno mro mtu mbx mst mja mpr mcr mow mhd mmo mbk mca mfr mrs mrk mfe mus mgi maj)) K) (hX : ∀ (mrs : Int32) (mrk : Nat → Int32) (mfe : Nat → Int32) (mus : Nat → Int32) , X mrs mrk mfe mus → jw Γ 3 0 0 (mdW a q mtd mnk mva mno mro mtu mbx mst mja mpr mcr mow mhd mmo mbk mca mfr mrs mrk mfe mus mgi maj) [(0, .ref (a 0)), (1, .int x1)] [] 38) :
    ∀ (n : Nat) (x2 : Int32) (mrs : Int32) (mrk : Nat → Int32) (mfe : Nat → Int32) (mus : Nat → Int32) , wp_X6_findWay_17 x1 mnk mva mno mtu mst K X n x2 mrs mrk mfe mus → jw Γ 3 0 0 (mdW a q mtd mnk mva mno mro mtu mbx mst mja mpr mcr mow mhd mmo mbk mca mfr mrs mrk mfe mus mgi maj) [(0, .ref (a 0)), (1, .int x1), (2, .int x2)] [] 17 := by
  intro n
  induction n with
  | zero =>
    intro _ _ _ _ _ h
    exact False.elim h
  | succ n ih =>
    intro x2 mrs mrk mfe mus h
    unfold wp_X6_findWay_17 at h
    refine j_iload_n g 2 rfl dX6_findWay_17 ?_
    refine j_if_le g dX6_findWay_18 (tgt := 38) (by decide) (fun c1 => ?_) (fun c1 => ?_)
    · replace h := h.1 c1
      refine j_sub [0, 1] rfl ?_
      exact hX mrs mrk mfe mus h
    replace h := h.2 c1
    refine j_aload_n g 0 rfl dX6_findWay_21 ?_
    refine j_iload_n g 1 rfl dX6_findWay_22 ?_
    refine j_iload_n g 2 rfl dX6_findWay_23 ?_
    refine j_callVZ_4 g (As := [.int x1, .int x2]) (st := []) (c_X6_isWay  h) cl_X6_96 0 6 md_0 rfl rfl (Nat.le_of_ble_eq_true rfl) (Nat.le_of_ble_eq_true rfl) (Nat.zero_le _) (Nat.zero_le _) rfl rfl (Nat.le_of_ble_eq_true rfl) dX6_findWay_24 (fun r_2 mrs_2 mrk_2 mfe_2 mus_2 hz_2 h => ?_)
    refine j_ws (ws' := (mdW a q mtd mnk mva mno mro mtu mbx mst mja mpr mcr mow mhd mmo mbk mca mfr mrs_2 mrk_2 mfe_2 mus_2 mgi maj)) rfl ?_
    refine j_if_eq g dX6_findWay_27 (tgt := 32) (by decide) (fun c3 => ?_) (fun c3 => ?_)
    rotate_left
    · replace h := h.2 c3
      refine j_iconst g (v := 1) (by decide) dX6_findWay_30 ?_
      exact hret.go dX6_findWay_31 (Or.inr rfl) h
    replace h := h.1 c3
    refine j_iinc g 2 (n := -1) (v := x2 + (-1 : Int32)) (lv' := [(2, .int (x2 + (-1 : Int32))), (0, .ref (a 0)), (1, .int x1)]) rfl rfl (by decide) rfl dX6_findWay_32 ?_
    refine j_goto g dX6_findWay_35 (tgt := 17) (by decide) ?_
    refine j_sub [1, 2, 0] rfl ?_
    exact ih (x2 + (-1 : Int32)) mrs_2 mrk_2 mfe_2 mus_2 h
set_option maxRecDepth 20000 in
set_option maxHeartbeats 4000000 in
theorem c_X6_findWay {a : Nat → Nat} {q : Nat → ClassId} {x1 : Int32}  {mtd : Int32} {mnk : Int32} {mva : Nat → Int32} {mno : Nat → Int32} {mro : Nat → Int32} {mtu : Nat → Int32} {mbx : Nat → Int32} {mst : Nat → Int32} {mja : Nat → Int32} {mpr : Nat → Int32} {mcr : Int32} {mow : Int32} {mhd : Int32} {mmo : Int32} {mbk : Nat → Int32} {mca : Nat → Int32} {mfr : Nat → Int32} {mrs : Int32} {mrk : Nat → Int32} {mfe : Nat → Int32} {mus : Nat → Int32} {mgi : Nat → Int32} {maj : Nat → Int32} {K : Int32 → Int32 → (Nat → Int32) → (Nat → Int32) → (Nat → Int32) → Prop} (h : wp_X6_findWay x1 mnk mva mno mtu mst mmo mrs mrk mfe mus K) : ctZ_4 q yX6_findWay cX6_findWay 3 3 70 [.ref (a 0), .int x1] (mdW a q mtd mnk mva mno mro mtu mbx mst mja mpr mcr mow mhd mmo mbk mca mfr mrs mrk mfe mus mgi maj) (fun (mrs : Int32) (mrk : Nat → Int32) (mfe : Nat → Int32) (mus : Nat → Int32) => (mdW a q mtd mnk mva mno mro mtu mbx mst mja mpr mcr mow mhd mmo mbk mca mfr mrs mrk mfe mus mgi maj)) K := by
  refine met_Z_4 (by decide) (Nat.le_of_ble_eq_true rfl) (fun Γ g hret => ?_)
  unfold wp_X6_findWay at h
  show jw Γ 3 0 0 (mdW a q mtd mnk mva mno mro mtu mbx mst mja mpr mcr mow mhd mmo mbk mca mfr mrs mrk mfe mus mgi maj) [(0, .ref (a 0)), (1, .int x1)] [] 0
  refine j_aload_n g 0 rfl dX6_findWay_0 ?_
  refine j_get g fl_X6_79 0 md_0 rfl dX6_findWay_1 ?_
  refine j_if_ne g dX6_findWay_4 (tgt := 14) (by decide) (fun c1 => ?_) (fun c1 => ?_)
  rotate_left
  · replace h := h.2 c1
    refine j_aload_n g 0 rfl dX6_findWay_7 ?_
    refine j_iload_n g 1 rfl dX6_findWay_8 ?_
    refine j_iconst g (v := 0) (by decide) dX6_findWay_9 ?_
    refine j_callVZ_4 g (As := [.int x1, .int (0 : Int32)]) (st := []) (c_X6_isWay  h) cl_X6_96 0 6 md_0 rfl rfl (Nat.le_of_ble_eq_true rfl) (Nat.le_of_ble_eq_true rfl) (Nat.zero_le _) (Nat.zero_le _) rfl rfl (Nat.le_of_ble_eq_true rfl) dX6_findWay_10 (fun r_4 mrs_4 mrk_4 mfe_4 mus_4 hz_4 h => ?_)
    refine j_ws (ws' := (mdW a q mtd mnk mva mno mro mtu mbx mst mja mpr mcr mow mhd mmo mbk mca mfr mrs_4 mrk_4 mfe_4 mus_4 mgi maj)) rfl ?_
    exact hret.go dX6_findWay_13 hz_4 h
  replace h := h.1 c1
  refine j_bipush g (v := 20) (by decide) dX6_findWay_14 ?_
  refine j_istore_n g (lv' := [(2, .int (20 : Int32)), (0, .ref (a 0)), (1, .int x1)]) (by decide) rfl dX6_findWay_16 ?_
  obtain ⟨n2, h⟩ := h
  refine j_sub [1, 2, 0] rfl ?_
  refine wk_X6_findWay_17  g hret (fun mrs_2 mrk_2 mfe_2 mus_2 h => ?_) n2 (20 : Int32) mrs mrk mfe mus h
  refine j_aload_n g 0 rfl dX6_findWay_38 ?_
  refine j_iload_n g 1 rfl dX6_findWay_39 ?_
  refine j_iconst g (v := 0) (by decide) dX6_findWay_40 ?_
  refine j_callVZ_4 g (As := [.int x1, .int (0 : Int32)]) (st := []) (c_X6_isWay  h) cl_X6_96 0 6 md_0 rfl rfl (Nat.le_of_ble_eq_true rfl) (Nat.le_of_ble_eq_true rfl) (Nat.zero_le _) (Nat.zero_le _) rfl rfl (Nat.le_of_ble_eq_true rfl) dX6_findWay_41 (fun r_3 mrs_3 mrk_3 mfe_3 mus_3 hz_3 h => ?_)
  refine j_ws (ws' := (mdW a q mtd mnk mva mno mro mtu mbx mst mja mpr mcr mow mhd mmo mbk mca mfr mrs_3 mrk_3 mfe_3 mus_3 mgi maj)) rfl ?_
  exact hret.go dX6_findWay_44 hz_3 h

set_option maxRecDepth 20000 in
def wp_X6_way (x1 : Int32) (x2 : Int32) (mtd : Int32) (mnk : Int32) (mva : Nat → Int32) (mno : Nat → Int32) (mtu : Nat → Int32) (mst : Nat → Int32) (mmo : Int32) (mrs : Int32) (mrk : Nat → Int32) (mfe : Nat → Int32) (mus : Nat → Int32) (K : Int32 → Int32 → Int32 → (Nat → Int32) → (Nat → Int32) → (Nat → Int32) → Prop) : Prop :=
  ((x1 < 0 → K (-1 : Int32) (0 : Int32) mrs mrk mfe mus) ∧ (¬ x1 < 0 → (((999 : Int32) < x1 → K (-1 : Int32) (0 : Int32) mrs mrk mfe mus) ∧ (¬ (999 : Int32) < x1 → wp_X6_isKind x2 mnk (fun (r_3 : Int32)  => ((r_3 = 0 → K (-1 : Int32) (0 : Int32) mrs mrk mfe mus) ∧ (¬ r_3 = 0 → wp_X6_findWay x1 mnk mva mno mtu mst mmo mrs mrk mfe mus (fun (r_5 : Int32) (mrs_5 : Int32) (mrk_5 : Nat → Int32) (mfe_5 : Nat → Int32) (mus_5 : Nat → Int32) => ((¬ r_5 = 0 → (vp_in x2 6 ∧ K (mus_5 x2.toNatClampNeg) (0 : Int32) mrs_5 mrk_5 mfe_5 mus_5)) ∧ (r_5 = 0 → K (-1 : Int32) (0 : Int32) mrs_5 mrk_5 mfe_5 mus_5))))))))))
theorem dX6_way_0 : decode cX6_way 0 = .ok (.aload_n 0, 1) := by decide +kernel
theorem dX6_way_1 : decode cX6_way 1 = .ok (.iconst 0, 1) := by decide +kernel
theorem dX6_way_2 : decode cX6_way 2 = .ok (.putfield 63, 3) := by decide +kernel
theorem dX6_way_5 : decode cX6_way 5 = .ok (.iload_n 1, 1) := by decide +kernel
theorem dX6_way_6 : decode cX6_way 6 = .ok (.ifCond .lt 26, 3) := by decide +kernel
theorem dX6_way_9 : decode cX6_way 9 = .ok (.iload_n 1, 1) := by decide +kernel
theorem dX6_way_10 : decode cX6_way 10 = .ok (.sipush 999, 3) := by decide +kernel
theorem dX6_way_13 : decode cX6_way 13 = .ok (.if_icmp .gt 19, 3) := by decide +kernel
theorem dX6_way_16 : decode cX6_way 16 = .ok (.aload_n 0, 1) := by decide +kernel
theorem dX6_way_17 : decode cX6_way 17 = .ok (.iload_n 2, 1) := by decide +kernel
theorem dX6_way_18 : decode cX6_way 18 = .ok (.invokevirtual 69, 3) := by decide +kernel
theorem dX6_way_21 : decode cX6_way 21 = .ok (.ifCond .eq 11, 3) := by decide +kernel
theorem dX6_way_24 : decode cX6_way 24 = .ok (.aload_n 0, 1) := by decide +kernel
theorem dX6_way_25 : decode cX6_way 25 = .ok (.iload_n 1, 1) := by decide +kernel
theorem dX6_way_26 : decode cX6_way 26 = .ok (.invokevirtual 100, 3) := by decide +kernel
theorem dX6_way_29 : decode cX6_way 29 = .ok (.ifCond .ne 7, 3) := by decide +kernel
theorem dX6_way_32 : decode cX6_way 32 = .ok (.iconst (-1), 1) := by decide +kernel
theorem dX6_way_33 : decode cX6_way 33 = .ok (.goto 9, 3) := by decide +kernel
theorem dX6_way_36 : decode cX6_way 36 = .ok (.aload_n 0, 1) := by decide +kernel
theorem dX6_way_37 : decode cX6_way 37 = .ok (.getfield 54, 3) := by decide +kernel
theorem dX6_way_40 : decode cX6_way 40 = .ok (.iload_n 2, 1) := by decide +kernel
theorem dX6_way_41 : decode cX6_way 41 = .ok (.iaload, 1) := by decide +kernel
theorem dX6_way_42 : decode cX6_way 42 = .ok (.ireturn, 1) := by decide +kernel
set_option maxRecDepth 20000 in
set_option maxHeartbeats 4000000 in
theorem c_X6_way {a : Nat → Nat} {q : Nat → ClassId} {x1 : Int32} {x2 : Int32}  {mtd : Int32} {mnk : Int32} {mva : Nat → Int32} {mno : Nat → Int32} {mro : Nat → Int32} {mtu : Nat → Int32} {mbx : Nat → Int32} {mst : Nat → Int32} {mja : Nat → Int32} {mpr : Nat → Int32} {mcr : Int32} {mow : Int32} {mhd : Int32} {mmo : Int32} {mbk : Nat → Int32} {mca : Nat → Int32} {mfr : Nat → Int32} {mrs : Int32} {mrk : Nat → Int32} {mfe : Nat → Int32} {mus : Nat → Int32} {mgi : Nat → Int32} {maj : Nat → Int32} {K : Int32 → Int32 → Int32 → (Nat → Int32) → (Nat → Int32) → (Nat → Int32) → Prop} (h : wp_X6_way x1 x2 mtd mnk mva mno mtu mst mmo mrs mrk mfe mus K) : ctI_5 q yX6_way cX6_way 3 4 92 [.ref (a 0), .int x1, .int x2] (mdW a q mtd mnk mva mno mro mtu mbx mst mja mpr mcr mow mhd mmo mbk mca mfr mrs mrk mfe mus mgi maj) (fun (mtd : Int32) (mrs : Int32) (mrk : Nat → Int32) (mfe : Nat → Int32) (mus : Nat → Int32) => (mdW a q mtd mnk mva mno mro mtu mbx mst mja mpr mcr mow mhd mmo mbk mca mfr mrs mrk mfe mus mgi maj)) K := by
  refine met_I_5 (by decide) (Nat.le_of_ble_eq_true rfl) (fun Γ g hret => ?_)
  unfold wp_X6_way at h
  show jw Γ 3 0 0 (mdW a q mtd mnk mva mno mro mtu mbx mst mja mpr mcr mow mhd mmo mbk mca mfr mrs mrk mfe mus mgi maj) [(0, .ref (a 0)), (1, .int x1), (2, .int x2)] [] 0
  refine j_aload_n g 0 rfl dX6_way_0 ?_
  refine j_iconst g (v := 0) (by decide) dX6_way_1 ?_
  refine j_put g fl_X6_63 fp_X6_0 0 md_0 rfl rfl (Nat.le_of_ble_eq_true rfl) (ws' := (mdW a q (0 : Int32) mnk mva mno mro mtu mbx mst mja mpr mcr mow mhd mmo mbk mca mfr mrs mrk mfe mus mgi maj)) rfl dX6_way_2 ?_
  refine j_iload_n g 1 rfl dX6_way_5 ?_
  refine j_if_lt g dX6_way_6 (tgt := 32) (by decide) (fun c1 => ?_) (fun c1 => ?_)
  · replace h := h.1 c1
    refine j_iconst g (v := -1) (by decide) dX6_way_32 ?_
    refine j_goto g dX6_way_33 (tgt := 42) (by decide) ?_
    exact hret.go dX6_way_42 h
  replace h := h.2 c1
  refine j_iload_n g 1 rfl dX6_way_9 ?_
  refine j_sipush g (v := 999) (by decide) dX6_way_10 ?_
  refine j_icmp_gt g dX6_way_13 (tgt := 32) (by decide) (fun c2 => ?_) (fun c2 => ?_)
  · replace h := h.1 c2
    refine j_iconst g (v := -1) (by decide) dX6_way_32 ?_
    refine j_goto g dX6_way_33 (tgt := 42) (by decide) ?_
    exact hret.go dX6_way_42 h
  replace h := h.2 c2
  refine j_aload_n g 0 rfl dX6_way_16 ?_
  refine j_iload_n g 2 rfl dX6_way_17 ?_
  refine j_callVZ_0 g (As := [.int x2]) (st := []) (c_X6_isKind  h) cl_X6_69 0 6 md_0 rfl rfl (Nat.le_of_ble_eq_true rfl) (Nat.le_of_ble_eq_true rfl) (Nat.zero_le _) (Nat.zero_le _) rfl rfl (Nat.le_of_ble_eq_true rfl) dX6_way_18 (fun r_3  hz_3 h => ?_)
  refine j_if_eq g dX6_way_21 (tgt := 32) (by decide) (fun c4 => ?_) (fun c4 => ?_)
  · replace h := h.1 c4
    refine j_iconst g (v := -1) (by decide) dX6_way_32 ?_
    refine j_goto g dX6_way_33 (tgt := 42) (by decide) ?_
    exact hret.go dX6_way_42 h
  replace h := h.2 c4
  refine j_aload_n g 0 rfl dX6_way_24 ?_
  refine j_iload_n g 1 rfl dX6_way_25 ?_
  refine j_callVZ_4 g (As := [.int x1]) (st := []) (c_X6_findWay  h) cl_X6_100 0 6 md_0 rfl rfl (Nat.le_of_ble_eq_true rfl) (Nat.le_of_ble_eq_true rfl) (Nat.zero_le _) (Nat.zero_le _) rfl rfl (Nat.le_of_ble_eq_true rfl) dX6_way_26 (fun r_5 mrs_5 mrk_5 mfe_5 mus_5 hz_5 h => ?_)
  refine j_ws (ws' := (mdW a q (0 : Int32) mnk mva mno mro mtu mbx mst mja mpr mcr mow mhd mmo mbk mca mfr mrs_5 mrk_5 mfe_5 mus_5 mgi maj)) rfl ?_
  refine j_if_ne g dX6_way_29 (tgt := 36) (by decide) (fun c6 => ?_) (fun c6 => ?_)
  rotate_left
  · replace h := h.2 c6
    refine j_iconst g (v := -1) (by decide) dX6_way_32 ?_
    refine j_goto g dX6_way_33 (tgt := 42) (by decide) ?_
    exact hret.go dX6_way_42 h
  replace h := h.1 c6
  refine j_aload_n g 0 rfl dX6_way_36 ?_
  refine j_get g fl_X6_54 0 md_0 rfl dX6_way_37 ?_
  refine j_iload_n g 2 rfl dX6_way_40 ?_
  obtain ⟨hv7, h⟩ := h
  refine j_iald g 14 md_14 hv7 dX6_way_41 ?_
  exact hret.go dX6_way_42 h

set_option maxRecDepth 20000 in
def wp_X6_coins_30  (mnk : Int32) (mus : Nat → Int32) (K : Int32 → Int32 → Int32 → (Nat → Int32) → (Nat → Int32) → (Nat → Int32) → Prop) (X : Int32 → Prop) : Nat → Int32 → Int32 → Prop
  | 0, _, _ => False
  | n + 1, x2, x3 => ((mnk ≤ x3 → X x2) ∧ (¬ mnk ≤ x3 → (vp_in x3 6 ∧ wp_X6_coins_30 mnk mus K X n (x2 + (mus x3.toNatClampNeg)) (x3 + 1))))
set_option maxRecDepth 20000 in
def wp_X6_coins (x1 : Int32) (mtd : Int32) (mnk : Int32) (mva : Nat → Int32) (mno : Nat → Int32) (mtu : Nat → Int32) (mst : Nat → Int32) (mmo : Int32) (mrs : Int32) (mrk : Nat → Int32) (mfe : Nat → Int32) (mus : Nat → Int32) (K : Int32 → Int32 → Int32 → (Nat → Int32) → (Nat → Int32) → (Nat → Int32) → Prop) : Prop :=
  ((x1 < 0 → K (-1 : Int32) (0 : Int32) mrs mrk mfe mus) ∧ (¬ x1 < 0 → (((999 : Int32) < x1 → K (-1 : Int32) (0 : Int32) mrs mrk mfe mus) ∧ (¬ (999 : Int32) < x1 → wp_X6_findWay x1 mnk mva mno mtu mst mmo mrs mrk mfe mus (fun (r_3 : Int32) (mrs_3 : Int32) (mrk_3 : Nat → Int32) (mfe_3 : Nat → Int32) (mus_3 : Nat → Int32) => ((¬ r_3 = 0 → ∃ n5 : Nat, wp_X6_coins_30 mnk mus_3 K (fun (x2_5 : Int32) => K x2_5 (0 : Int32) mrs_3 mrk_3 mfe_3 mus_3) n5 (0 : Int32) (0 : Int32)) ∧ (r_3 = 0 → K (-1 : Int32) (0 : Int32) mrs_3 mrk_3 mfe_3 mus_3)))))))
theorem dX6_coins_0 : decode cX6_coins 0 = .ok (.aload_n 0, 1) := by decide +kernel
theorem dX6_coins_1 : decode cX6_coins 1 = .ok (.iconst 0, 1) := by decide +kernel
theorem dX6_coins_2 : decode cX6_coins 2 = .ok (.putfield 63, 3) := by decide +kernel
theorem dX6_coins_5 : decode cX6_coins 5 = .ok (.iload_n 1, 1) := by decide +kernel
theorem dX6_coins_6 : decode cX6_coins 6 = .ok (.ifCond .lt 18, 3) := by decide +kernel
theorem dX6_coins_9 : decode cX6_coins 9 = .ok (.iload_n 1, 1) := by decide +kernel
theorem dX6_coins_10 : decode cX6_coins 10 = .ok (.sipush 999, 3) := by decide +kernel
theorem dX6_coins_13 : decode cX6_coins 13 = .ok (.if_icmp .gt 11, 3) := by decide +kernel
theorem dX6_coins_16 : decode cX6_coins 16 = .ok (.aload_n 0, 1) := by decide +kernel
theorem dX6_coins_17 : decode cX6_coins 17 = .ok (.iload_n 1, 1) := by decide +kernel
theorem dX6_coins_18 : decode cX6_coins 18 = .ok (.invokevirtual 100, 3) := by decide +kernel
theorem dX6_coins_21 : decode cX6_coins 21 = .ok (.ifCond .ne 5, 3) := by decide +kernel
theorem dX6_coins_24 : decode cX6_coins 24 = .ok (.iconst (-1), 1) := by decide +kernel
theorem dX6_coins_25 : decode cX6_coins 25 = .ok (.ireturn, 1) := by decide +kernel
theorem dX6_coins_26 : decode cX6_coins 26 = .ok (.iconst 0, 1) := by decide +kernel
theorem dX6_coins_27 : decode cX6_coins 27 = .ok (.istore_n 2, 1) := by decide +kernel
theorem dX6_coins_28 : decode cX6_coins 28 = .ok (.iconst 0, 1) := by decide +kernel
theorem dX6_coins_29 : decode cX6_coins 29 = .ok (.istore_n 3, 1) := by decide +kernel
theorem dX6_coins_30 : decode cX6_coins 30 = .ok (.iload_n 3, 1) := by decide +kernel
theorem dX6_coins_31 : decode cX6_coins 31 = .ok (.aload_n 0, 1) := by decide +kernel
theorem dX6_coins_32 : decode cX6_coins 32 = .ok (.getfield 66, 3) := by decide +kernel
theorem dX6_coins_35 : decode cX6_coins 35 = .ok (.if_icmp .ge 18, 3) := by decide +kernel
theorem dX6_coins_38 : decode cX6_coins 38 = .ok (.iload_n 2, 1) := by decide +kernel
theorem dX6_coins_39 : decode cX6_coins 39 = .ok (.aload_n 0, 1) := by decide +kernel
theorem dX6_coins_40 : decode cX6_coins 40 = .ok (.getfield 54, 3) := by decide +kernel
theorem dX6_coins_43 : decode cX6_coins 43 = .ok (.iload_n 3, 1) := by decide +kernel
theorem dX6_coins_44 : decode cX6_coins 44 = .ok (.iaload, 1) := by decide +kernel
theorem dX6_coins_45 : decode cX6_coins 45 = .ok (.iadd, 1) := by decide +kernel
theorem dX6_coins_46 : decode cX6_coins 46 = .ok (.istore_n 2, 1) := by decide +kernel
theorem dX6_coins_47 : decode cX6_coins 47 = .ok (.iinc 3 1, 3) := by decide +kernel
theorem dX6_coins_50 : decode cX6_coins 50 = .ok (.goto (-20), 3) := by decide +kernel
theorem dX6_coins_53 : decode cX6_coins 53 = .ok (.iload_n 2, 1) := by decide +kernel
theorem dX6_coins_54 : decode cX6_coins 54 = .ok (.ireturn, 1) := by decide +kernel
set_option maxRecDepth 20000 in
set_option maxHeartbeats 4000000 in
theorem wk_X6_coins_30 {Γ : GT} {a : Nat → Nat} {q : Nat → ClassId}   {mtd : Int32} {mnk : Int32} {mva : Nat → Int32} {mno : Nat → Int32} {mro : Nat → Int32} {mtu : Nat → Int32} {mbx : Nat → Int32} {mst : Nat → Int32} {mja : Nat → Int32} {mpr : Nat → Int32} {mcr : Int32} {mow : Int32} {mhd : Int32} {mmo : Int32} {mbk : Nat → Int32} {mca : Nat → Int32} {mfr : Nat → Int32} {mrs : Int32} {mrk : Nat → Int32} {mfe : Nat → Int32} {mus : Nat → Int32} {mgi : Nat → Int32} {maj : Nat → Int32} {K : Int32 → Int32 → Int32 → (Nat → Int32) → (Nat → Int32) → (Nat → Int32) → Prop} {X : Int32 → Prop} (g : gd Γ cX6_coins RX6 4 (rmz 4 92) q) (hret : rtI_5 Γ cX6_coins 4 (fun (mtd : Int32) (mrs : Int32) (mrk : Nat → Int32) (mfe : Nat → Int32) (mus : Nat → Int32) => (mdW a q mtd mnk mva mno mro mtu mbx mst mja mpr mcr mow mhd mmo mbk mca mfr mrs mrk mfe mus mgi maj)) K) (hX : ∀ (x2 : Int32) , X x2 → jw Γ 4 0 0 (mdW a q mtd mnk mva mno mro mtu mbx mst mja mpr mcr mow mhd mmo mbk mca mfr mrs mrk mfe mus mgi maj) [(2, .int x2)] [] 53) :
    ∀ (n : Nat) (x2 : Int32) (x3 : Int32) , wp_X6_coins_30 mnk mus K X n x2 x3 → jw Γ 4 0 0 (mdW a q mtd mnk mva mno mro mtu mbx mst mja mpr mcr mow mhd mmo mbk mca mfr mrs mrk mfe mus mgi maj) [(0, .ref (a 0)), (2, .int x2), (3, .int x3)] [] 30 := by
  intro n
  induction n with
  | zero =>
    intro _ _ h
    exact False.elim h
  | succ n ih =>
    intro x2 x3 h
    unfold wp_X6_coins_30 at h
    refine j_iload_n g 2 rfl dX6_coins_30 ?_
    refine j_aload_n g 0 rfl dX6_coins_31 ?_
    refine j_get g fl_X6_66 0 md_0 rfl dX6_coins_32 ?_
    refine j_icmp_ge g dX6_coins_35 (tgt := 53) (by decide) (fun c1 => ?_) (fun c1 => ?_)
    · replace h := h.1 c1
      refine j_sub [1] rfl ?_
      exact hX x2 h
    replace h := h.2 c1
    refine j_iload_n g 1 rfl dX6_coins_38 ?_
    refine j_aload_n g 0 rfl dX6_coins_39 ?_
    refine j_get g fl_X6_54 0 md_0 rfl dX6_coins_40 ?_
    refine j_iload_n g 2 rfl dX6_coins_43 ?_
    obtain ⟨hv2, h⟩ := h
    refine j_iald g 14 md_14 hv2 dX6_coins_44 ?_
    refine j_iadd g dX6_coins_45 ?_
    refine j_istore_n g (lv' := [(2, .int (x2 + (mus x3.toNatClampNeg))), (0, .ref (a 0)), (3, .int x3)]) (by decide) rfl dX6_coins_46 ?_
    refine j_iinc g 2 (n := 1) (v := x3 + 1) (lv' := [(3, .int (x3 + 1)), (2, .int (x2 + (mus x3.toNatClampNeg))), (0, .ref (a 0))]) rfl rfl (by decide) rfl dX6_coins_47 ?_
    refine j_goto g dX6_coins_50 (tgt := 30) (by decide) ?_
    refine j_sub [2, 1, 0] rfl ?_
    exact ih (x2 + (mus x3.toNatClampNeg)) (x3 + 1) h
set_option maxRecDepth 20000 in
set_option maxHeartbeats 4000000 in
theorem c_X6_coins {a : Nat → Nat} {q : Nat → ClassId} {x1 : Int32}  {mtd : Int32} {mnk : Int32} {mva : Nat → Int32} {mno : Nat → Int32} {mro : Nat → Int32} {mtu : Nat → Int32} {mbx : Nat → Int32} {mst : Nat → Int32} {mja : Nat → Int32} {mpr : Nat → Int32} {mcr : Int32} {mow : Int32} {mhd : Int32} {mmo : Int32} {mbk : Nat → Int32} {mca : Nat → Int32} {mfr : Nat → Int32} {mrs : Int32} {mrk : Nat → Int32} {mfe : Nat → Int32} {mus : Nat → Int32} {mgi : Nat → Int32} {maj : Nat → Int32} {K : Int32 → Int32 → Int32 → (Nat → Int32) → (Nat → Int32) → (Nat → Int32) → Prop} (h : wp_X6_coins x1 mtd mnk mva mno mtu mst mmo mrs mrk mfe mus K) : ctI_5 q yX6_coins cX6_coins 4 4 92 [.ref (a 0), .int x1] (mdW a q mtd mnk mva mno mro mtu mbx mst mja mpr mcr mow mhd mmo mbk mca mfr mrs mrk mfe mus mgi maj) (fun (mtd : Int32) (mrs : Int32) (mrk : Nat → Int32) (mfe : Nat → Int32) (mus : Nat → Int32) => (mdW a q mtd mnk mva mno mro mtu mbx mst mja mpr mcr mow mhd mmo mbk mca mfr mrs mrk mfe mus mgi maj)) K := by
  refine met_I_5 (by decide) (Nat.le_of_ble_eq_true rfl) (fun Γ g hret => ?_)
  unfold wp_X6_coins at h
  show jw Γ 4 0 0 (mdW a q mtd mnk mva mno mro mtu mbx mst mja mpr mcr mow mhd mmo mbk mca mfr mrs mrk mfe mus mgi maj) [(0, .ref (a 0)), (1, .int x1)] [] 0
  refine j_aload_n g 0 rfl dX6_coins_0 ?_
  refine j_iconst g (v := 0) (by decide) dX6_coins_1 ?_
  refine j_put g fl_X6_63 fp_X6_0 0 md_0 rfl rfl (Nat.le_of_ble_eq_true rfl) (ws' := (mdW a q (0 : Int32) mnk mva mno mro mtu mbx mst mja mpr mcr mow mhd mmo mbk mca mfr mrs mrk mfe mus mgi maj)) rfl dX6_coins_2 ?_
  refine j_iload_n g 1 rfl dX6_coins_5 ?_
  refine j_if_lt g dX6_coins_6 (tgt := 24) (by decide) (fun c1 => ?_) (fun c1 => ?_)
  · replace h := h.1 c1
    refine j_iconst g (v := -1) (by decide) dX6_coins_24 ?_
    exact hret.go dX6_coins_25 h
  replace h := h.2 c1
  refine j_iload_n g 1 rfl dX6_coins_9 ?_
  refine j_sipush g (v := 999) (by decide) dX6_coins_10 ?_
  refine j_icmp_gt g dX6_coins_13 (tgt := 24) (by decide) (fun c2 => ?_) (fun c2 => ?_)
  · replace h := h.1 c2
    refine j_iconst g (v := -1) (by decide) dX6_coins_24 ?_
    exact hret.go dX6_coins_25 h
  replace h := h.2 c2
  refine j_aload_n g 0 rfl dX6_coins_16 ?_
  refine j_iload_n g 1 rfl dX6_coins_17 ?_
  refine j_callVZ_4 g (As := [.int x1]) (st := []) (c_X6_findWay  h) cl_X6_100 0 6 md_0 rfl rfl (Nat.le_of_ble_eq_true rfl) (Nat.le_of_ble_eq_true rfl) (Nat.zero_le _) (Nat.zero_le _) rfl rfl (Nat.le_of_ble_eq_true rfl) dX6_coins_18 (fun r_3 mrs_3 mrk_3 mfe_3 mus_3 hz_3 h => ?_)
  refine j_ws (ws' := (mdW a q (0 : Int32) mnk mva mno mro mtu mbx mst mja mpr mcr mow mhd mmo mbk mca mfr mrs_3 mrk_3 mfe_3 mus_3 mgi maj)) rfl ?_
  refine j_if_ne g dX6_coins_21 (tgt := 26) (by decide) (fun c4 => ?_) (fun c4 => ?_)
  rotate_left
  · replace h := h.2 c4
    refine j_iconst g (v := -1) (by decide) dX6_coins_24 ?_
    exact hret.go dX6_coins_25 h
  replace h := h.1 c4
  refine j_iconst g (v := 0) (by decide) dX6_coins_26 ?_
  refine j_istore_n g (lv' := [(2, .int (0 : Int32)), (0, .ref (a 0)), (1, .int x1)]) (by decide) rfl dX6_coins_27 ?_
  refine j_iconst g (v := 0) (by decide) dX6_coins_28 ?_
  refine j_istore_n g (lv' := [(3, .int (0 : Int32)), (2, .int (0 : Int32)), (0, .ref (a 0)), (1, .int x1)]) (by decide) rfl dX6_coins_29 ?_
  obtain ⟨n5, h⟩ := h
  refine j_sub [2, 1, 0] rfl ?_
  refine wk_X6_coins_30  g hret (fun x2_5 h => ?_) n5 (0 : Int32) (0 : Int32) h
  refine j_iload_n g 0 rfl dX6_coins_53 ?_
  exact hret.go dX6_coins_54 h

set_option maxRecDepth 20000 in
def wp_X6_givable_26 (x1 : Int32) (mca : Nat → Int32) (K : Int32 → Int32 → (Nat → Int32) → (Nat → Int32) → Prop) (X : Int32 → Prop) : Nat → Int32 → Int32 → Prop
  | 0, _, _ => False
  | n + 1, x2, x3 => ((x1 < x3 → X x2) ∧ (¬ x1 < x3 → (vp_in x3 1000 ∧ ((mca x3.toNatClampNeg = 0 → wp_X6_givable_26 x1 mca K X n x2 (x3 + 1)) ∧ (¬ mca x3.toNatClampNeg = 0 → wp_X6_givable_26 x1 mca K X n (x2 + (1 : Int32)) (x3 + 1))))))
set_option maxRecDepth 20000 in
def wp_X6_givable (x1 : Int32) (mtd : Int32) (mnk : Int32) (mva : Nat → Int32) (mno : Nat → Int32) (mtu : Nat → Int32) (mst : Nat → Int32) (mca : Nat → Int32) (mfr : Nat → Int32) (K : Int32 → Int32 → (Nat → Int32) → (Nat → Int32) → Prop) : Prop :=
  ((x1 < 0 → K (-1 : Int32) (0 : Int32) mca mfr) ∧ (¬ x1 < 0 → ((x1 ≤ (999 : Int32) → wp_X6_findSums mnk mva mno mtu mst mca mfr (fun (mca_3 : Nat → Int32) (mfr_3 : Nat → Int32) => ∃ n4 : Nat, wp_X6_givable_26 x1 mca_3 K (fun (x2_4 : Int32) => K x2_4 (0 : Int32) mca_3 mfr_3) n4 (0 : Int32) (1 : Int32))) ∧ (¬ x1 ≤ (999 : Int32) → K (-1 : Int32) (0 : Int32) mca mfr))))
theorem dX6_givable_0 : decode cX6_givable 0 = .ok (.aload_n 0, 1) := by decide +kernel
theorem dX6_givable_1 : decode cX6_givable 1 = .ok (.iconst 0, 1) := by decide +kernel
theorem dX6_givable_2 : decode cX6_givable 2 = .ok (.putfield 63, 3) := by decide +kernel
theorem dX6_givable_5 : decode cX6_givable 5 = .ok (.iload_n 1, 1) := by decide +kernel
theorem dX6_givable_6 : decode cX6_givable 6 = .ok (.ifCond .lt 10, 3) := by decide +kernel
theorem dX6_givable_9 : decode cX6_givable 9 = .ok (.iload_n 1, 1) := by decide +kernel
theorem dX6_givable_10 : decode cX6_givable 10 = .ok (.sipush 999, 3) := by decide +kernel
theorem dX6_givable_13 : decode cX6_givable 13 = .ok (.if_icmp .le 5, 3) := by decide +kernel
theorem dX6_givable_16 : decode cX6_givable 16 = .ok (.iconst (-1), 1) := by decide +kernel
theorem dX6_givable_17 : decode cX6_givable 17 = .ok (.ireturn, 1) := by decide +kernel
theorem dX6_givable_18 : decode cX6_givable 18 = .ok (.aload_n 0, 1) := by decide +kernel
theorem dX6_givable_19 : decode cX6_givable 19 = .ok (.invokevirtual 103, 3) := by decide +kernel
theorem dX6_givable_22 : decode cX6_givable 22 = .ok (.iconst 0, 1) := by decide +kernel
theorem dX6_givable_23 : decode cX6_givable 23 = .ok (.istore_n 2, 1) := by decide +kernel
theorem dX6_givable_24 : decode cX6_givable 24 = .ok (.iconst 1, 1) := by decide +kernel
theorem dX6_givable_25 : decode cX6_givable 25 = .ok (.istore_n 3, 1) := by decide +kernel
theorem dX6_givable_26 : decode cX6_givable 26 = .ok (.iload_n 3, 1) := by decide +kernel
theorem dX6_givable_27 : decode cX6_givable 27 = .ok (.iload_n 1, 1) := by decide +kernel
theorem dX6_givable_28 : decode cX6_givable 28 = .ok (.if_icmp .gt 22, 3) := by decide +kernel
theorem dX6_givable_31 : decode cX6_givable 31 = .ok (.aload_n 0, 1) := by decide +kernel
theorem dX6_givable_32 : decode cX6_givable 32 = .ok (.getfield 42, 3) := by decide +kernel
theorem dX6_givable_35 : decode cX6_givable 35 = .ok (.iload_n 3, 1) := by decide +kernel
theorem dX6_givable_36 : decode cX6_givable 36 = .ok (.baload, 1) := by decide +kernel
theorem dX6_givable_37 : decode cX6_givable 37 = .ok (.ifCond .eq 7, 3) := by decide +kernel
theorem dX6_givable_40 : decode cX6_givable 40 = .ok (.iload_n 2, 1) := by decide +kernel
theorem dX6_givable_41 : decode cX6_givable 41 = .ok (.iconst 1, 1) := by decide +kernel
theorem dX6_givable_42 : decode cX6_givable 42 = .ok (.iadd, 1) := by decide +kernel
theorem dX6_givable_43 : decode cX6_givable 43 = .ok (.istore_n 2, 1) := by decide +kernel
theorem dX6_givable_44 : decode cX6_givable 44 = .ok (.iinc 3 1, 3) := by decide +kernel
theorem dX6_givable_47 : decode cX6_givable 47 = .ok (.goto (-21), 3) := by decide +kernel
theorem dX6_givable_50 : decode cX6_givable 50 = .ok (.iload_n 2, 1) := by decide +kernel
theorem dX6_givable_51 : decode cX6_givable 51 = .ok (.ireturn, 1) := by decide +kernel
set_option maxRecDepth 20000 in
set_option maxHeartbeats 4000000 in
theorem wk_X6_givable_26 {Γ : GT} {a : Nat → Nat} {q : Nat → ClassId} {x1 : Int32}  {mtd : Int32} {mnk : Int32} {mva : Nat → Int32} {mno : Nat → Int32} {mro : Nat → Int32} {mtu : Nat → Int32} {mbx : Nat → Int32} {mst : Nat → Int32} {mja : Nat → Int32} {mpr : Nat → Int32} {mcr : Int32} {mow : Int32} {mhd : Int32} {mmo : Int32} {mbk : Nat → Int32} {mca : Nat → Int32} {mfr : Nat → Int32} {mrs : Int32} {mrk : Nat → Int32} {mfe : Nat → Int32} {mus : Nat → Int32} {mgi : Nat → Int32} {maj : Nat → Int32} {K : Int32 → Int32 → (Nat → Int32) → (Nat → Int32) → Prop} {X : Int32 → Prop} (g : gd Γ cX6_givable RX6 4 (rmz 1 22) q) (hret : rtI_3 Γ cX6_givable 4 (fun (mtd : Int32) (mca : Nat → Int32) (mfr : Nat → Int32) => (mdW a q mtd mnk mva mno mro mtu mbx mst mja mpr mcr mow mhd mmo mbk mca mfr mrs mrk mfe mus mgi maj)) K) (hX : ∀ (x2 : Int32) , X x2 → jw Γ 4 0 0 (mdW a q mtd mnk mva mno mro mtu mbx mst mja mpr mcr mow mhd mmo mbk mca mfr mrs mrk mfe mus mgi maj) [(2, .int x2)] [] 50) :
    ∀ (n : Nat) (x2 : Int32) (x3 : Int32) , wp_X6_givable_26 x1 mca K X n x2 x3 → jw Γ 4 0 0 (mdW a q mtd mnk mva mno mro mtu mbx mst mja mpr mcr mow mhd mmo mbk mca mfr mrs mrk mfe mus mgi maj) [(0, .ref (a 0)), (1, .int x1), (2, .int x2), (3, .int x3)] [] 26 := by
  intro n
  induction n with
  | zero =>
    intro _ _ h
    exact False.elim h
  | succ n ih =>
    intro x2 x3 h
    unfold wp_X6_givable_26 at h
    refine j_iload_n g 3 rfl dX6_givable_26 ?_
    refine j_iload_n g 1 rfl dX6_givable_27 ?_
    refine j_icmp_gt g dX6_givable_28 (tgt := 50) (by decide) (fun c1 => ?_) (fun c1 => ?_)
    · replace h := h.1 c1
      refine j_sub [2] rfl ?_
      exact hX x2 h
    replace h := h.2 c1
    refine j_aload_n g 0 rfl dX6_givable_31 ?_
    refine j_get g fl_X6_42 0 md_0 rfl dX6_givable_32 ?_
    refine j_iload_n g 3 rfl dX6_givable_35 ?_
    obtain ⟨hv2, h⟩ := h
    refine j_zald g 10 md_10 hv2 dX6_givable_36 ?_
    refine j_if_eq g dX6_givable_37 (tgt := 44) (by decide) (fun c3 => ?_) (fun c3 => ?_)
    · replace h := h.1 c3
      refine j_iinc g 3 (n := 1) (v := x3 + 1) (lv' := [(3, .int (x3 + 1)), (0, .ref (a 0)), (1, .int x1), (2, .int x2)]) rfl rfl (by decide) rfl dX6_givable_44 ?_
      refine j_goto g dX6_givable_47 (tgt := 26) (by decide) ?_
      refine j_sub [1, 2, 3, 0] rfl ?_
      exact ih x2 (x3 + 1) h
    replace h := h.2 c3
    refine j_iload_n g 2 rfl dX6_givable_40 ?_
    refine j_iconst g (v := 1) (by decide) dX6_givable_41 ?_
    refine j_iadd g dX6_givable_42 ?_
    refine j_istore_n g (lv' := [(2, .int (x2 + (1 : Int32))), (0, .ref (a 0)), (1, .int x1), (3, .int x3)]) (by decide) rfl dX6_givable_43 ?_
    refine j_iinc g 3 (n := 1) (v := x3 + 1) (lv' := [(3, .int (x3 + 1)), (2, .int (x2 + (1 : Int32))), (0, .ref (a 0)), (1, .int x1)]) rfl rfl (by decide) rfl dX6_givable_44 ?_
    refine j_goto g dX6_givable_47 (tgt := 26) (by decide) ?_
    refine j_sub [2, 3, 1, 0] rfl ?_
    exact ih (x2 + (1 : Int32)) (x3 + 1) h
set_option maxRecDepth 20000 in
set_option maxHeartbeats 4000000 in
theorem c_X6_givable {a : Nat → Nat} {q : Nat → ClassId} {x1 : Int32}  {mtd : Int32} {mnk : Int32} {mva : Nat → Int32} {mno : Nat → Int32} {mro : Nat → Int32} {mtu : Nat → Int32} {mbx : Nat → Int32} {mst : Nat → Int32} {mja : Nat → Int32} {mpr : Nat → Int32} {mcr : Int32} {mow : Int32} {mhd : Int32} {mmo : Int32} {mbk : Nat → Int32} {mca : Nat → Int32} {mfr : Nat → Int32} {mrs : Int32} {mrk : Nat → Int32} {mfe : Nat → Int32} {mus : Nat → Int32} {mgi : Nat → Int32} {maj : Nat → Int32} {K : Int32 → Int32 → (Nat → Int32) → (Nat → Int32) → Prop} (h : wp_X6_givable x1 mtd mnk mva mno mtu mst mca mfr K) : ctI_3 q yX6_givable cX6_givable 4 1 22 [.ref (a 0), .int x1] (mdW a q mtd mnk mva mno mro mtu mbx mst mja mpr mcr mow mhd mmo mbk mca mfr mrs mrk mfe mus mgi maj) (fun (mtd : Int32) (mca : Nat → Int32) (mfr : Nat → Int32) => (mdW a q mtd mnk mva mno mro mtu mbx mst mja mpr mcr mow mhd mmo mbk mca mfr mrs mrk mfe mus mgi maj)) K := by
  refine met_I_3 (by decide) (Nat.le_of_ble_eq_true rfl) (fun Γ g hret => ?_)
  unfold wp_X6_givable at h
  show jw Γ 4 0 0 (mdW a q mtd mnk mva mno mro mtu mbx mst mja mpr mcr mow mhd mmo mbk mca mfr mrs mrk mfe mus mgi maj) [(0, .ref (a 0)), (1, .int x1)] [] 0
  refine j_aload_n g 0 rfl dX6_givable_0 ?_
  refine j_iconst g (v := 0) (by decide) dX6_givable_1 ?_
  refine j_put g fl_X6_63 fp_X6_0 0 md_0 rfl rfl (Nat.le_of_ble_eq_true rfl) (ws' := (mdW a q (0 : Int32) mnk mva mno mro mtu mbx mst mja mpr mcr mow mhd mmo mbk mca mfr mrs mrk mfe mus mgi maj)) rfl dX6_givable_2 ?_
  refine j_iload_n g 1 rfl dX6_givable_5 ?_
  refine j_if_lt g dX6_givable_6 (tgt := 16) (by decide) (fun c1 => ?_) (fun c1 => ?_)
  · replace h := h.1 c1
    refine j_iconst g (v := -1) (by decide) dX6_givable_16 ?_
    exact hret.go dX6_givable_17 h
  replace h := h.2 c1
  refine j_iload_n g 1 rfl dX6_givable_9 ?_
  refine j_sipush g (v := 999) (by decide) dX6_givable_10 ?_
  refine j_icmp_le g dX6_givable_13 (tgt := 18) (by decide) (fun c2 => ?_) (fun c2 => ?_)
  rotate_left
  · replace h := h.2 c2
    refine j_iconst g (v := -1) (by decide) dX6_givable_16 ?_
    exact hret.go dX6_givable_17 h
  replace h := h.1 c2
  refine j_aload_n g 0 rfl dX6_givable_18 ?_
  refine j_callVV_2 g (As := []) (st := []) (c_X6_findSums  h) cl_X6_103 0 6 md_0 rfl rfl (Nat.le_of_ble_eq_true rfl) (Nat.le_of_ble_eq_true rfl) (Nat.zero_le _) (Nat.zero_le _) rfl rfl (Nat.le_of_ble_eq_true rfl) dX6_givable_19 (fun mca_3 mfr_3 h => ?_)
  refine j_ws (ws' := (mdW a q (0 : Int32) mnk mva mno mro mtu mbx mst mja mpr mcr mow mhd mmo mbk mca_3 mfr_3 mrs mrk mfe mus mgi maj)) rfl ?_
  refine j_iconst g (v := 0) (by decide) dX6_givable_22 ?_
  refine j_istore_n g (lv' := [(2, .int (0 : Int32)), (0, .ref (a 0)), (1, .int x1)]) (by decide) rfl dX6_givable_23 ?_
  refine j_iconst g (v := 1) (by decide) dX6_givable_24 ?_
  refine j_istore_n g (lv' := [(3, .int (1 : Int32)), (2, .int (0 : Int32)), (0, .ref (a 0)), (1, .int x1)]) (by decide) rfl dX6_givable_25 ?_
  obtain ⟨n4, h⟩ := h
  refine j_sub [2, 3, 1, 0] rfl ?_
  refine wk_X6_givable_26  g hret (fun x2_4 h => ?_) n4 (0 : Int32) (1 : Int32) h
  refine j_iload_n g 0 rfl dX6_givable_50 ?_
  exact hret.go dX6_givable_51 h

set_option maxRecDepth 20000 in
def wp_X6_wouldTake_135 (x4 : Int32) (x5 : Int32) (mtu : Nat → Int32) (mpr : Nat → Int32) (mca : Nat → Int32) (mfr : Nat → Int32) (K : Int32 → (Nat → Int32) → (Nat → Int32) → (Nat → Int32) → Prop) (X : Prop) : Nat → Int32 → Prop
  | 0, _ => False
  | n + 1, x7 => (((6 : Int32) ≤ x7 → X) ∧ (¬ (6 : Int32) ≤ x7 → (vp_in x7 6 ∧ ((mpr x7.toNatClampNeg ≤ 0 → wp_X6_wouldTake_135 x4 x5 mtu mpr mca mfr K X n (x7 + 1)) ∧ (¬ mpr x7.toNatClampNeg ≤ 0 → (vp_in x7 6 ∧ ((x4 < mpr x7.toNatClampNeg → wp_X6_wouldTake_135 x4 x5 mtu mpr mca mfr K X n (x7 + 1)) ∧ (¬ x4 < mpr x7.toNatClampNeg → (vp_in x7 6 ∧ (vp_in (x4 - (mpr x7.toNatClampNeg)) 1000 ∧ ((¬ mca (x4 - (mpr x7.toNatClampNeg)).toNatClampNeg = 0 → wp_X6_wouldTake_135 x4 x5 mtu mpr mca mfr K X n (x7 + 1)) ∧ (mca (x4 - (mpr x7.toNatClampNeg)).toNatClampNeg = 0 → K (0 : Int32) mtu mca mfr))))))))))))
set_option maxRecDepth 20000 in
def wp_X6_wouldTake (x1 : Int32) (x2 : Int32) (x3 : Int32) (mnk : Int32) (mva : Nat → Int32) (mno : Nat → Int32) (mro : Nat → Int32) (mtu : Nat → Int32) (mst : Nat → Int32) (mpr : Nat → Int32) (mca : Nat → Int32) (mfr : Nat → Int32) (K : Int32 → (Nat → Int32) → (Nat → Int32) → (Nat → Int32) → Prop) : Prop :=
  (vp_in x1 6 ∧ (vp_in x1 6 ∧ jn (fun (Z3 : Int32 → Prop) => ((mno x1.toNatClampNeg = 0 → Z3 (0 : Int32)) ∧ (¬ mno x1.toNatClampNeg = 0 → (vp_in x1 6 ∧ Z3 (mva x1.toNatClampNeg))))) (fun (xs0_3 : Int32) => (((999 : Int32) < x2 + (mva x1.toNatClampNeg) → K (0 : Int32) mtu mca mfr) ∧ (¬ (999 : Int32) < x2 + (mva x1.toNatClampNeg) → (vp_in x1 6 ∧ jn (fun (Z6 : Prop) => ((mno x1.toNatClampNeg = 0 → Z6) ∧ (¬ mno x1.toNatClampNeg = 0 → ((x3 ≤ 0 → Z6) ∧ (¬ x3 ≤ 0 → K (0 : Int32) mtu mca mfr))))) ((vp_in x1 6 ∧ jn (fun (Z8 : Int32 → Prop) => jn (fun (Z21 : Prop) => ((¬ mno x1.toNatClampNeg = 0 → Z21) ∧ (mno x1.toNatClampNeg = 0 → (vp_in x1 6 ∧ (vp_in x1 6 ∧ ((mro x1.toNatClampNeg ≤ mtu x1.toNatClampNeg → Z21) ∧ (¬ mro x1.toNatClampNeg ≤ mtu x1.toNatClampNeg → Z8 (1 : Int32)))))))) (Z8 (0 : Int32))) (fun (xs0_8 : Int32) => jn (fun (Z9 : (Nat → Int32) → Prop) => ((xs0_8 = 0 → Z9 mtu) ∧ (¬ xs0_8 = 0 → (vp_in x1 6 ∧ (vp_in x1 6 ∧ Z9 (upd mtu x1.toNatClampNeg ((mtu x1.toNatClampNeg) + (1 : Int32)))))))) (fun (mtu_9 : Nat → Int32) => wp_X6_findSums mnk mva mno mtu_9 mst mca mfr (fun (mca_10 : Nat → Int32) (mfr_10 : Nat → Int32) => jn (fun (Z11 : (Nat → Int32) → Prop) => ((xs0_8 = 0 → Z11 mtu_9) ∧ (¬ xs0_8 = 0 → (vp_in x1 6 ∧ (vp_in x1 6 ∧ Z11 (upd mtu_9 x1.toNatClampNeg ((mtu_9 x1.toNatClampNeg) - (1 : Int32)))))))) (fun (mtu_11 : Nat → Int32) => ∃ n12 : Nat, wp_X6_wouldTake_135 (x2 + (mva x1.toNatClampNeg)) (((x2 + (mva x1.toNatClampNeg)) - x3) - xs0_3) mtu_11 mpr mca_10 mfr_10 K ((vp_in (((x2 + (mva x1.toNatClampNeg)) - x3) - xs0_3) 1000 ∧ ((mca_10 (((x2 + (mva x1.toNatClampNeg)) - x3) - xs0_3).toNatClampNeg = 0 ∨ mca_10 (((x2 + (mva x1.toNatClampNeg)) - x3) - xs0_3).toNatClampNeg = 1) ∧ K (mca_10 (((x2 + (mva x1.toNatClampNeg)) - x3) - xs0_3).toNatClampNeg) mtu_11 mca_10 mfr_10))) n12 (0 : Int32)))))))))))))
theorem dX6_wouldTake_0 : decode cX6_wouldTake 0 = .ok (.iload_n 2, 1) := by decide +kernel
theorem dX6_wouldTake_1 : decode cX6_wouldTake 1 = .ok (.aload_n 0, 1) := by decide +kernel
theorem dX6_wouldTake_2 : decode cX6_wouldTake 2 = .ok (.getfield 7, 3) := by decide +kernel
theorem dX6_wouldTake_5 : decode cX6_wouldTake 5 = .ok (.iload_n 1, 1) := by decide +kernel
theorem dX6_wouldTake_6 : decode cX6_wouldTake 6 = .ok (.iaload, 1) := by decide +kernel
theorem dX6_wouldTake_7 : decode cX6_wouldTake 7 = .ok (.iadd, 1) := by decide +kernel
theorem dX6_wouldTake_8 : decode cX6_wouldTake 8 = .ok (.istore 4, 2) := by decide +kernel
theorem dX6_wouldTake_10 : decode cX6_wouldTake 10 = .ok (.iload 4, 2) := by decide +kernel
theorem dX6_wouldTake_12 : decode cX6_wouldTake 12 = .ok (.iload_n 3, 1) := by decide +kernel
theorem dX6_wouldTake_13 : decode cX6_wouldTake 13 = .ok (.isub, 1) := by decide +kernel
theorem dX6_wouldTake_14 : decode cX6_wouldTake 14 = .ok (.aload_n 0, 1) := by decide +kernel
theorem dX6_wouldTake_15 : decode cX6_wouldTake 15 = .ok (.getfield 13, 3) := by decide +kernel
theorem dX6_wouldTake_18 : decode cX6_wouldTake 18 = .ok (.iload_n 1, 1) := by decide +kernel
theorem dX6_wouldTake_19 : decode cX6_wouldTake 19 = .ok (.baload, 1) := by decide +kernel
theorem dX6_wouldTake_20 : decode cX6_wouldTake 20 = .ok (.ifCond .eq 12, 3) := by decide +kernel
theorem dX6_wouldTake_23 : decode cX6_wouldTake 23 = .ok (.aload_n 0, 1) := by decide +kernel
theorem dX6_wouldTake_24 : decode cX6_wouldTake 24 = .ok (.getfield 7, 3) := by decide +kernel
theorem dX6_wouldTake_27 : decode cX6_wouldTake 27 = .ok (.iload_n 1, 1) := by decide +kernel
theorem dX6_wouldTake_28 : decode cX6_wouldTake 28 = .ok (.iaload, 1) := by decide +kernel
theorem dX6_wouldTake_29 : decode cX6_wouldTake 29 = .ok (.goto 4, 3) := by decide +kernel
theorem dX6_wouldTake_32 : decode cX6_wouldTake 32 = .ok (.iconst 0, 1) := by decide +kernel
theorem dX6_wouldTake_33 : decode cX6_wouldTake 33 = .ok (.isub, 1) := by decide +kernel
theorem dX6_wouldTake_34 : decode cX6_wouldTake 34 = .ok (.istore 5, 2) := by decide +kernel
theorem dX6_wouldTake_36 : decode cX6_wouldTake 36 = .ok (.iload 4, 2) := by decide +kernel
theorem dX6_wouldTake_38 : decode cX6_wouldTake 38 = .ok (.sipush 999, 3) := by decide +kernel
theorem dX6_wouldTake_41 : decode cX6_wouldTake 41 = .ok (.if_icmp .gt 16, 3) := by decide +kernel
theorem dX6_wouldTake_44 : decode cX6_wouldTake 44 = .ok (.aload_n 0, 1) := by decide +kernel
theorem dX6_wouldTake_45 : decode cX6_wouldTake 45 = .ok (.getfield 13, 3) := by decide +kernel
theorem dX6_wouldTake_48 : decode cX6_wouldTake 48 = .ok (.iload_n 1, 1) := by decide +kernel
theorem dX6_wouldTake_49 : decode cX6_wouldTake 49 = .ok (.baload, 1) := by decide +kernel
theorem dX6_wouldTake_50 : decode cX6_wouldTake 50 = .ok (.ifCond .eq 9, 3) := by decide +kernel
theorem dX6_wouldTake_53 : decode cX6_wouldTake 53 = .ok (.iload_n 3, 1) := by decide +kernel
theorem dX6_wouldTake_54 : decode cX6_wouldTake 54 = .ok (.ifCond .le 5, 3) := by decide +kernel
theorem dX6_wouldTake_57 : decode cX6_wouldTake 57 = .ok (.iconst 0, 1) := by decide +kernel
theorem dX6_wouldTake_58 : decode cX6_wouldTake 58 = .ok (.ireturn, 1) := by decide +kernel
theorem dX6_wouldTake_59 : decode cX6_wouldTake 59 = .ok (.aload_n 0, 1) := by decide +kernel
theorem dX6_wouldTake_60 : decode cX6_wouldTake 60 = .ok (.getfield 13, 3) := by decide +kernel
theorem dX6_wouldTake_63 : decode cX6_wouldTake 63 = .ok (.iload_n 1, 1) := by decide +kernel
theorem dX6_wouldTake_64 : decode cX6_wouldTake 64 = .ok (.baload, 1) := by decide +kernel
theorem dX6_wouldTake_65 : decode cX6_wouldTake 65 = .ok (.ifCond .ne 22, 3) := by decide +kernel
theorem dX6_wouldTake_68 : decode cX6_wouldTake 68 = .ok (.aload_n 0, 1) := by decide +kernel
theorem dX6_wouldTake_69 : decode cX6_wouldTake 69 = .ok (.getfield 20, 3) := by decide +kernel
theorem dX6_wouldTake_72 : decode cX6_wouldTake 72 = .ok (.iload_n 1, 1) := by decide +kernel
theorem dX6_wouldTake_73 : decode cX6_wouldTake 73 = .ok (.iaload, 1) := by decide +kernel
theorem dX6_wouldTake_74 : decode cX6_wouldTake 74 = .ok (.aload_n 0, 1) := by decide +kernel
theorem dX6_wouldTake_75 : decode cX6_wouldTake 75 = .ok (.getfield 17, 3) := by decide +kernel
theorem dX6_wouldTake_78 : decode cX6_wouldTake 78 = .ok (.iload_n 1, 1) := by decide +kernel
theorem dX6_wouldTake_79 : decode cX6_wouldTake 79 = .ok (.iaload, 1) := by decide +kernel
theorem dX6_wouldTake_80 : decode cX6_wouldTake 80 = .ok (.if_icmp .ge 7, 3) := by decide +kernel
theorem dX6_wouldTake_83 : decode cX6_wouldTake 83 = .ok (.iconst 1, 1) := by decide +kernel
theorem dX6_wouldTake_84 : decode cX6_wouldTake 84 = .ok (.goto 4, 3) := by decide +kernel
theorem dX6_wouldTake_87 : decode cX6_wouldTake 87 = .ok (.iconst 0, 1) := by decide +kernel
theorem dX6_wouldTake_88 : decode cX6_wouldTake 88 = .ok (.istore 6, 2) := by decide +kernel
theorem dX6_wouldTake_90 : decode cX6_wouldTake 90 = .ok (.iload 6, 2) := by decide +kernel
theorem dX6_wouldTake_92 : decode cX6_wouldTake 92 = .ok (.ifCond .eq 17, 3) := by decide +kernel
theorem dX6_wouldTake_95 : decode cX6_wouldTake 95 = .ok (.aload_n 0, 1) := by decide +kernel
theorem dX6_wouldTake_96 : decode cX6_wouldTake 96 = .ok (.getfield 20, 3) := by decide +kernel
theorem dX6_wouldTake_99 : decode cX6_wouldTake 99 = .ok (.iload_n 1, 1) := by decide +kernel
theorem dX6_wouldTake_100 : decode cX6_wouldTake 100 = .ok (.aload_n 0, 1) := by decide +kernel
theorem dX6_wouldTake_101 : decode cX6_wouldTake 101 = .ok (.getfield 20, 3) := by decide +kernel
theorem dX6_wouldTake_104 : decode cX6_wouldTake 104 = .ok (.iload_n 1, 1) := by decide +kernel
theorem dX6_wouldTake_105 : decode cX6_wouldTake 105 = .ok (.iaload, 1) := by decide +kernel
theorem dX6_wouldTake_106 : decode cX6_wouldTake 106 = .ok (.iconst 1, 1) := by decide +kernel
theorem dX6_wouldTake_107 : decode cX6_wouldTake 107 = .ok (.iadd, 1) := by decide +kernel
theorem dX6_wouldTake_108 : decode cX6_wouldTake 108 = .ok (.iastore, 1) := by decide +kernel
theorem dX6_wouldTake_109 : decode cX6_wouldTake 109 = .ok (.aload_n 0, 1) := by decide +kernel
theorem dX6_wouldTake_110 : decode cX6_wouldTake 110 = .ok (.invokevirtual 103, 3) := by decide +kernel
theorem dX6_wouldTake_113 : decode cX6_wouldTake 113 = .ok (.iload 6, 2) := by decide +kernel
theorem dX6_wouldTake_115 : decode cX6_wouldTake 115 = .ok (.ifCond .eq 17, 3) := by decide +kernel
theorem dX6_wouldTake_118 : decode cX6_wouldTake 118 = .ok (.aload_n 0, 1) := by decide +kernel
theorem dX6_wouldTake_119 : decode cX6_wouldTake 119 = .ok (.getfield 20, 3) := by decide +kernel
theorem dX6_wouldTake_122 : decode cX6_wouldTake 122 = .ok (.iload_n 1, 1) := by decide +kernel
theorem dX6_wouldTake_123 : decode cX6_wouldTake 123 = .ok (.aload_n 0, 1) := by decide +kernel
theorem dX6_wouldTake_124 : decode cX6_wouldTake 124 = .ok (.getfield 20, 3) := by decide +kernel
theorem dX6_wouldTake_127 : decode cX6_wouldTake 127 = .ok (.iload_n 1, 1) := by decide +kernel
theorem dX6_wouldTake_128 : decode cX6_wouldTake 128 = .ok (.iaload, 1) := by decide +kernel
theorem dX6_wouldTake_129 : decode cX6_wouldTake 129 = .ok (.iconst 1, 1) := by decide +kernel
theorem dX6_wouldTake_130 : decode cX6_wouldTake 130 = .ok (.isub, 1) := by decide +kernel
theorem dX6_wouldTake_131 : decode cX6_wouldTake 131 = .ok (.iastore, 1) := by decide +kernel
theorem dX6_wouldTake_132 : decode cX6_wouldTake 132 = .ok (.iconst 0, 1) := by decide +kernel
theorem dX6_wouldTake_133 : decode cX6_wouldTake 133 = .ok (.istore 7, 2) := by decide +kernel
theorem dX6_wouldTake_135 : decode cX6_wouldTake 135 = .ok (.iload 7, 2) := by decide +kernel
theorem dX6_wouldTake_137 : decode cX6_wouldTake 137 = .ok (.bipush 6, 2) := by decide +kernel
theorem dX6_wouldTake_139 : decode cX6_wouldTake 139 = .ok (.if_icmp .ge 51, 3) := by decide +kernel
theorem dX6_wouldTake_142 : decode cX6_wouldTake 142 = .ok (.aload_n 0, 1) := by decide +kernel
theorem dX6_wouldTake_143 : decode cX6_wouldTake 143 = .ok (.getfield 32, 3) := by decide +kernel
theorem dX6_wouldTake_146 : decode cX6_wouldTake 146 = .ok (.iload 7, 2) := by decide +kernel
theorem dX6_wouldTake_148 : decode cX6_wouldTake 148 = .ok (.iaload, 1) := by decide +kernel
theorem dX6_wouldTake_149 : decode cX6_wouldTake 149 = .ok (.ifCond .le 35, 3) := by decide +kernel
theorem dX6_wouldTake_152 : decode cX6_wouldTake 152 = .ok (.aload_n 0, 1) := by decide +kernel
theorem dX6_wouldTake_153 : decode cX6_wouldTake 153 = .ok (.getfield 32, 3) := by decide +kernel
theorem dX6_wouldTake_156 : decode cX6_wouldTake 156 = .ok (.iload 7, 2) := by decide +kernel
theorem dX6_wouldTake_158 : decode cX6_wouldTake 158 = .ok (.iaload, 1) := by decide +kernel
theorem dX6_wouldTake_159 : decode cX6_wouldTake 159 = .ok (.iload 4, 2) := by decide +kernel
theorem dX6_wouldTake_161 : decode cX6_wouldTake 161 = .ok (.if_icmp .gt 23, 3) := by decide +kernel
theorem dX6_wouldTake_164 : decode cX6_wouldTake 164 = .ok (.aload_n 0, 1) := by decide +kernel
theorem dX6_wouldTake_165 : decode cX6_wouldTake 165 = .ok (.getfield 42, 3) := by decide +kernel
theorem dX6_wouldTake_168 : decode cX6_wouldTake 168 = .ok (.iload 4, 2) := by decide +kernel
theorem dX6_wouldTake_170 : decode cX6_wouldTake 170 = .ok (.aload_n 0, 1) := by decide +kernel
theorem dX6_wouldTake_171 : decode cX6_wouldTake 171 = .ok (.getfield 32, 3) := by decide +kernel
theorem dX6_wouldTake_174 : decode cX6_wouldTake 174 = .ok (.iload 7, 2) := by decide +kernel
theorem dX6_wouldTake_176 : decode cX6_wouldTake 176 = .ok (.iaload, 1) := by decide +kernel
theorem dX6_wouldTake_177 : decode cX6_wouldTake 177 = .ok (.isub, 1) := by decide +kernel
theorem dX6_wouldTake_178 : decode cX6_wouldTake 178 = .ok (.baload, 1) := by decide +kernel
theorem dX6_wouldTake_179 : decode cX6_wouldTake 179 = .ok (.ifCond .ne 5, 3) := by decide +kernel
theorem dX6_wouldTake_182 : decode cX6_wouldTake 182 = .ok (.iconst 0, 1) := by decide +kernel
theorem dX6_wouldTake_183 : decode cX6_wouldTake 183 = .ok (.ireturn, 1) := by decide +kernel
theorem dX6_wouldTake_184 : decode cX6_wouldTake 184 = .ok (.iinc 7 1, 3) := by decide +kernel
theorem dX6_wouldTake_187 : decode cX6_wouldTake 187 = .ok (.goto (-52), 3) := by decide +kernel
theorem dX6_wouldTake_190 : decode cX6_wouldTake 190 = .ok (.aload_n 0, 1) := by decide +kernel
theorem dX6_wouldTake_191 : decode cX6_wouldTake 191 = .ok (.getfield 42, 3) := by decide +kernel
theorem dX6_wouldTake_194 : decode cX6_wouldTake 194 = .ok (.iload 5, 2) := by decide +kernel
theorem dX6_wouldTake_196 : decode cX6_wouldTake 196 = .ok (.baload, 1) := by decide +kernel
theorem dX6_wouldTake_197 : decode cX6_wouldTake 197 = .ok (.ireturn, 1) := by decide +kernel
set_option maxRecDepth 20000 in
set_option maxHeartbeats 4000000 in
theorem wk_X6_wouldTake_135 {Γ : GT} {a : Nat → Nat} {q : Nat → ClassId} {x4 : Int32} {x5 : Int32}  {mtd : Int32} {mnk : Int32} {mva : Nat → Int32} {mno : Nat → Int32} {mro : Nat → Int32} {mtu : Nat → Int32} {mbx : Nat → Int32} {mst : Nat → Int32} {mja : Nat → Int32} {mpr : Nat → Int32} {mcr : Int32} {mow : Int32} {mhd : Int32} {mmo : Int32} {mbk : Nat → Int32} {mca : Nat → Int32} {mfr : Nat → Int32} {mrs : Int32} {mrk : Nat → Int32} {mfe : Nat → Int32} {mus : Nat → Int32} {mgi : Nat → Int32} {maj : Nat → Int32} {K : Int32 → (Nat → Int32) → (Nat → Int32) → (Nat → Int32) → Prop} {X : Prop} (g : gd Γ cX6_wouldTake RX6 8 (rmz 1 22) q) (hret : rtZ_3 Γ cX6_wouldTake 8 (fun (mtu : Nat → Int32) (mca : Nat → Int32) (mfr : Nat → Int32) => (mdW a q mtd mnk mva mno mro mtu mbx mst mja mpr mcr mow mhd mmo mbk mca mfr mrs mrk mfe mus mgi maj)) K) (hX : X → jw Γ 8 0 0 (mdW a q mtd mnk mva mno mro mtu mbx mst mja mpr mcr mow mhd mmo mbk mca mfr mrs mrk mfe mus mgi maj) [(0, .ref (a 0)), (5, .int x5)] [] 190) :
    ∀ (n : Nat) (x7 : Int32) , wp_X6_wouldTake_135 x4 x5 mtu mpr mca mfr K X n x7 → jw Γ 8 0 0 (mdW a q mtd mnk mva mno mro mtu mbx mst mja mpr mcr mow mhd mmo mbk mca mfr mrs mrk mfe mus mgi maj) [(0, .ref (a 0)), (4, .int x4), (5, .int x5), (7, .int x7)] [] 135 := by
  intro n
  induction n with
  | zero =>
    intro _ h
    exact False.elim h
  | succ n ih =>
    intro x7 h
    unfold wp_X6_wouldTake_135 at h
    refine j_iload g 3 rfl dX6_wouldTake_135 ?_
    refine j_bipush g (v := 6) (by decide) dX6_wouldTake_137 ?_
    refine j_icmp_ge g dX6_wouldTake_139 (tgt := 190) (by decide) (fun c1 => ?_) (fun c1 => ?_)
    · replace h := h.1 c1
      refine j_sub [0, 2] rfl ?_
      exact hX h
    replace h := h.2 c1
    refine j_aload_n g 0 rfl dX6_wouldTake_142 ?_
    refine j_get g fl_X6_32 0 md_0 rfl dX6_wouldTake_143 ?_
    refine j_iload g 3 rfl dX6_wouldTake_146 ?_
    obtain ⟨hv2, h⟩ := h
    refine j_iald g 8 md_8 hv2 dX6_wouldTake_148 ?_
    refine j_if_le g dX6_wouldTake_149 (tgt := 184) (by decide) (fun c3 => ?_) (fun c3 => ?_)
    · replace h := h.1 c3
      refine j_iinc g 3 (n := 1) (v := x7 + 1) (lv' := [(7, .int (x7 + 1)), (0, .ref (a 0)), (4, .int x4), (5, .int x5)]) rfl rfl (by decide) rfl dX6_wouldTake_184 ?_
      refine j_goto g dX6_wouldTake_187 (tgt := 135) (by decide) ?_
      refine j_sub [1, 2, 3, 0] rfl ?_
      exact ih (x7 + 1) h
    replace h := h.2 c3
    refine j_aload_n g 0 rfl dX6_wouldTake_152 ?_
    refine j_get g fl_X6_32 0 md_0 rfl dX6_wouldTake_153 ?_
    refine j_iload g 3 rfl dX6_wouldTake_156 ?_
    obtain ⟨hv4, h⟩ := h
    refine j_iald g 8 md_8 hv4 dX6_wouldTake_158 ?_
    refine j_iload g 1 rfl dX6_wouldTake_159 ?_
    refine j_icmp_gt g dX6_wouldTake_161 (tgt := 184) (by decide) (fun c5 => ?_) (fun c5 => ?_)
    · replace h := h.1 c5
      refine j_iinc g 3 (n := 1) (v := x7 + 1) (lv' := [(7, .int (x7 + 1)), (0, .ref (a 0)), (4, .int x4), (5, .int x5)]) rfl rfl (by decide) rfl dX6_wouldTake_184 ?_
      refine j_goto g dX6_wouldTake_187 (tgt := 135) (by decide) ?_
      refine j_sub [1, 2, 3, 0] rfl ?_
      exact ih (x7 + 1) h
    replace h := h.2 c5
    refine j_aload_n g 0 rfl dX6_wouldTake_164 ?_
    refine j_get g fl_X6_42 0 md_0 rfl dX6_wouldTake_165 ?_
    refine j_iload g 1 rfl dX6_wouldTake_168 ?_
    refine j_aload_n g 0 rfl dX6_wouldTake_170 ?_
    refine j_get g fl_X6_32 0 md_0 rfl dX6_wouldTake_171 ?_
    refine j_iload g 3 rfl dX6_wouldTake_174 ?_
    obtain ⟨hv6, h⟩ := h
    refine j_iald g 8 md_8 hv6 dX6_wouldTake_176 ?_
    refine j_isub g dX6_wouldTake_177 ?_
    obtain ⟨hv7, h⟩ := h
    refine j_zald g 10 md_10 hv7 dX6_wouldTake_178 ?_
    refine j_if_ne g dX6_wouldTake_179 (tgt := 184) (by decide) (fun c8 => ?_) (fun c8 => ?_)
    rotate_left
    · replace h := h.2 c8
      refine j_iconst g (v := 0) (by decide) dX6_wouldTake_182 ?_
      exact hret.go dX6_wouldTake_183 (Or.inl rfl) h
    replace h := h.1 c8
    refine j_iinc g 3 (n := 1) (v := x7 + 1) (lv' := [(7, .int (x7 + 1)), (0, .ref (a 0)), (4, .int x4), (5, .int x5)]) rfl rfl (by decide) rfl dX6_wouldTake_184 ?_
    refine j_goto g dX6_wouldTake_187 (tgt := 135) (by decide) ?_
    refine j_sub [1, 2, 3, 0] rfl ?_
    exact ih (x7 + 1) h
set_option maxRecDepth 20000 in
set_option maxHeartbeats 4000000 in
theorem c_X6_wouldTake {a : Nat → Nat} {q : Nat → ClassId} {x1 : Int32} {x2 : Int32} {x3 : Int32}  {mtd : Int32} {mnk : Int32} {mva : Nat → Int32} {mno : Nat → Int32} {mro : Nat → Int32} {mtu : Nat → Int32} {mbx : Nat → Int32} {mst : Nat → Int32} {mja : Nat → Int32} {mpr : Nat → Int32} {mcr : Int32} {mow : Int32} {mhd : Int32} {mmo : Int32} {mbk : Nat → Int32} {mca : Nat → Int32} {mfr : Nat → Int32} {mrs : Int32} {mrk : Nat → Int32} {mfe : Nat → Int32} {mus : Nat → Int32} {mgi : Nat → Int32} {maj : Nat → Int32} {K : Int32 → (Nat → Int32) → (Nat → Int32) → (Nat → Int32) → Prop} (h : wp_X6_wouldTake x1 x2 x3 mnk mva mno mro mtu mst mpr mca mfr K) : ctZ_3 q yX6_wouldTake cX6_wouldTake 8 1 22 [.ref (a 0), .int x1, .int x2, .int x3] (mdW a q mtd mnk mva mno mro mtu mbx mst mja mpr mcr mow mhd mmo mbk mca mfr mrs mrk mfe mus mgi maj) (fun (mtu : Nat → Int32) (mca : Nat → Int32) (mfr : Nat → Int32) => (mdW a q mtd mnk mva mno mro mtu mbx mst mja mpr mcr mow mhd mmo mbk mca mfr mrs mrk mfe mus mgi maj)) K := by
  refine met_Z_3 (by decide) (Nat.le_of_ble_eq_true rfl) (fun Γ g hret => ?_)
  unfold wp_X6_wouldTake at h
  show jw Γ 8 0 0 (mdW a q mtd mnk mva mno mro mtu mbx mst mja mpr mcr mow mhd mmo mbk mca mfr mrs mrk mfe mus mgi maj) [(0, .ref (a 0)), (1, .int x1), (2, .int x2), (3, .int x3)] [] 0
  refine j_iload_n g 2 rfl dX6_wouldTake_0 ?_
  refine j_aload_n g 0 rfl dX6_wouldTake_1 ?_
  refine j_get g fl_X6_7 0 md_0 rfl dX6_wouldTake_2 ?_
  refine j_iload_n g 1 rfl dX6_wouldTake_5 ?_
  obtain ⟨hv1, h⟩ := h
  refine j_iald g 1 md_1 hv1 dX6_wouldTake_6 ?_
  refine j_iadd g dX6_wouldTake_7 ?_
  refine j_istore g (lv' := [(4, .int (x2 + (mva x1.toNatClampNeg))), (0, .ref (a 0)), (1, .int x1), (2, .int x2), (3, .int x3)]) (by decide) rfl dX6_wouldTake_8 ?_
  refine j_iload g 0 rfl dX6_wouldTake_10 ?_
  refine j_iload_n g 4 rfl dX6_wouldTake_12 ?_
  refine j_isub g dX6_wouldTake_13 ?_
  refine j_aload_n g 1 rfl dX6_wouldTake_14 ?_
  refine j_get g fl_X6_13 0 md_0 rfl dX6_wouldTake_15 ?_
  refine j_iload_n g 2 rfl dX6_wouldTake_18 ?_
  obtain ⟨hv2, h⟩ := h
  refine j_zald g 2 md_2 hv2 dX6_wouldTake_19 ?_
  refine jn_cut h (fun Z3 eZ3 h => ?_)
  have hZ3 : ∀ (xs0_3 : Int32), Z3 xs0_3 → jw Γ 8 0 0 (mdW a q mtd mnk mva mno mro mtu mbx mst mja mpr mcr mow mhd mmo mbk mca mfr mrs mrk mfe mus mgi maj) [(0, .ref (a 0)), (1, .int x1), (3, .int x3), (4, .int (x2 + (mva x1.toNatClampNeg)))] [.int xs0_3, .int ((x2 + (mva x1.toNatClampNeg)) - x3)] 33 := by
    intro xs0_3 h
    rw [eZ3] at h
    refine j_isub g dX6_wouldTake_33 ?_
    refine j_istore g (lv' := [(5, .int (((x2 + (mva x1.toNatClampNeg)) - x3) - xs0_3)), (0, .ref (a 0)), (1, .int x1), (3, .int x3), (4, .int (x2 + (mva x1.toNatClampNeg)))]) (by decide) rfl dX6_wouldTake_34 ?_
    refine j_iload g 4 rfl dX6_wouldTake_36 ?_
    refine j_sipush g (v := 999) (by decide) dX6_wouldTake_38 ?_
    refine j_icmp_gt g dX6_wouldTake_41 (tgt := 57) (by decide) (fun c4 => ?_) (fun c4 => ?_)
    · replace h := h.1 c4
      refine j_iconst g (v := 0) (by decide) dX6_wouldTake_57 ?_
      exact hret.go dX6_wouldTake_58 (Or.inl rfl) h
    replace h := h.2 c4
    refine j_aload_n g 1 rfl dX6_wouldTake_44 ?_
    refine j_get g fl_X6_13 0 md_0 rfl dX6_wouldTake_45 ?_
    refine j_iload_n g 2 rfl dX6_wouldTake_48 ?_
    obtain ⟨hv5, h⟩ := h
    refine j_zald g 2 md_2 hv5 dX6_wouldTake_49 ?_
    refine jn_cut h (fun Z6 eZ6 h => ?_)
    have hZ6 : Z6 → jw Γ 8 0 0 (mdW a q mtd mnk mva mno mro mtu mbx mst mja mpr mcr mow mhd mmo mbk mca mfr mrs mrk mfe mus mgi maj) [(0, .ref (a 0)), (1, .int x1), (4, .int (x2 + (mva x1.toNatClampNeg))), (5, .int (((x2 + (mva x1.toNatClampNeg)) - x3) - xs0_3))] [] 59 := by
      intro h
      rw [eZ6] at h
      refine j_aload_n g 0 rfl dX6_wouldTake_59 ?_
      refine j_get g fl_X6_13 0 md_0 rfl dX6_wouldTake_60 ?_
      refine j_iload_n g 1 rfl dX6_wouldTake_63 ?_
      obtain ⟨hv7, h⟩ := h
      refine j_zald g 2 md_2 hv7 dX6_wouldTake_64 ?_
      refine jn_cut h (fun Z8 eZ8 h => ?_)
      have hZ8 : ∀ (xs0_8 : Int32), (xs0_8 = 0 ∨ xs0_8 = 1) → Z8 xs0_8 → jw Γ 8 0 0 (mdW a q mtd mnk mva mno mro mtu mbx mst mja mpr mcr mow mhd mmo mbk mca mfr mrs mrk mfe mus mgi maj) [(0, .ref (a 0)), (1, .int x1), (4, .int (x2 + (mva x1.toNatClampNeg))), (5, .int (((x2 + (mva x1.toNatClampNeg)) - x3) - xs0_3))] [.int xs0_8] 88 := by
        intro xs0_8 hbs0_8 h
        rw [eZ8] at h
        refine j_istore g (lv' := [(6, .int xs0_8), (0, .ref (a 0)), (1, .int x1), (4, .int (x2 + (mva x1.toNatClampNeg))), (5, .int (((x2 + (mva x1.toNatClampNeg)) - x3) - xs0_3))]) (by decide) rfl dX6_wouldTake_88 ?_
        refine j_iload g 0 rfl dX6_wouldTake_90 ?_
        refine jn_cut h (fun Z9 eZ9 h => ?_)
        have hZ9 : ∀ (mtu_9 : Nat → Int32), Z9 mtu_9 → jw Γ 8 0 0 (mdW a q mtd mnk mva mno mro mtu_9 mbx mst mja mpr mcr mow mhd mmo mbk mca mfr mrs mrk mfe mus mgi maj) [(0, .ref (a 0)), (1, .int x1), (4, .int (x2 + (mva x1.toNatClampNeg))), (5, .int (((x2 + (mva x1.toNatClampNeg)) - x3) - xs0_3)), (6, .int xs0_8)] [] 109 := by
          intro mtu_9 h
          rw [eZ9] at h
          refine j_aload_n g 0 rfl dX6_wouldTake_109 ?_
          refine j_callVV_2 g (As := []) (st := []) (c_X6_findSums  h) cl_X6_103 0 6 md_0 rfl rfl (Nat.le_of_ble_eq_true rfl) (Nat.le_of_ble_eq_true rfl) (Nat.zero_le _) (Nat.zero_le _) rfl rfl (Nat.le_of_ble_eq_true rfl) dX6_wouldTake_110 (fun mca_10 mfr_10 h => ?_)
          refine j_ws (ws' := (mdW a q mtd mnk mva mno mro mtu_9 mbx mst mja mpr mcr mow mhd mmo mbk mca_10 mfr_10 mrs mrk mfe mus mgi maj)) rfl ?_
          refine j_iload g 4 rfl dX6_wouldTake_113 ?_
          refine jn_cut h (fun Z11 eZ11 h => ?_)
          have hZ11 : ∀ (mtu_11 : Nat → Int32), Z11 mtu_11 → jw Γ 8 0 0 (mdW a q mtd mnk mva mno mro mtu_11 mbx mst mja mpr mcr mow mhd mmo mbk mca_10 mfr_10 mrs mrk mfe mus mgi maj) [(0, .ref (a 0)), (4, .int (x2 + (mva x1.toNatClampNeg))), (5, .int (((x2 + (mva x1.toNatClampNeg)) - x3) - xs0_3))] [] 132 := by
            intro mtu_11 h
            rw [eZ11] at h
            refine j_iconst g (v := 0) (by decide) dX6_wouldTake_132 ?_
            refine j_istore g (lv' := [(7, .int (0 : Int32)), (0, .ref (a 0)), (4, .int (x2 + (mva x1.toNatClampNeg))), (5, .int (((x2 + (mva x1.toNatClampNeg)) - x3) - xs0_3))]) (by decide) rfl dX6_wouldTake_133 ?_
            obtain ⟨n12, h⟩ := h
            refine j_sub [1, 2, 3, 0] rfl ?_
            refine wk_X6_wouldTake_135  g hret (fun h => ?_) n12 (0 : Int32) h
            refine j_aload_n g 0 rfl dX6_wouldTake_190 ?_
            refine j_get g fl_X6_42 0 md_0 rfl dX6_wouldTake_191 ?_
            refine j_iload g 1 rfl dX6_wouldTake_194 ?_
            obtain ⟨hv13, h⟩ := h
            refine j_zald g 10 md_10 hv13 dX6_wouldTake_196 ?_
            obtain ⟨hb14, h⟩ := h
            exact hret.go dX6_wouldTake_197 hb14 h
          refine j_if_eq g dX6_wouldTake_115 (tgt := 132) (by decide) (fun c15 => ?_) (fun c15 => ?_)
          · replace h := h.1 c15
            refine j_sub [0, 2, 3] rfl ?_
            exact hZ11 mtu_9 h
          replace h := h.2 c15
          refine j_aload_n g 0 rfl dX6_wouldTake_118 ?_
          refine j_get g fl_X6_20 0 md_0 rfl dX6_wouldTake_119 ?_
          refine j_iload_n g 1 rfl dX6_wouldTake_122 ?_
          refine j_aload_n g 0 rfl dX6_wouldTake_123 ?_
          refine j_get g fl_X6_20 0 md_0 rfl dX6_wouldTake_124 ?_
          refine j_iload_n g 1 rfl dX6_wouldTake_127 ?_
          obtain ⟨hv16, h⟩ := h
          refine j_iald g 4 md_4 hv16 dX6_wouldTake_128 ?_
          refine j_iconst g (v := 1) (by decide) dX6_wouldTake_129 ?_
          refine j_isub g dX6_wouldTake_130 ?_
          obtain ⟨hv17, h⟩ := h
          refine j_iast g 4 md_4 hv17 (ws' := (mdW a q mtd mnk mva mno mro (upd mtu_9 x1.toNatClampNeg ((mtu_9 x1.toNatClampNeg) - (1 : Int32))) mbx mst mja mpr mcr mow mhd mmo mbk mca_10 mfr_10 mrs mrk mfe mus mgi maj)) rfl dX6_wouldTake_131 ?_
          refine j_sub [0, 2, 3] rfl ?_
          exact hZ11 (upd mtu_9 x1.toNatClampNeg ((mtu_9 x1.toNatClampNeg) - (1 : Int32))) h
        refine j_if_eq g dX6_wouldTake_92 (tgt := 109) (by decide) (fun c18 => ?_) (fun c18 => ?_)
        · replace h := h.1 c18
          refine j_sub [1, 2, 3, 4, 0] rfl ?_
          exact hZ9 mtu h
        replace h := h.2 c18
        refine j_aload_n g 1 rfl dX6_wouldTake_95 ?_
        refine j_get g fl_X6_20 0 md_0 rfl dX6_wouldTake_96 ?_
        refine j_iload_n g 2 rfl dX6_wouldTake_99 ?_
        refine j_aload_n g 1 rfl dX6_wouldTake_100 ?_
        refine j_get g fl_X6_20 0 md_0 rfl dX6_wouldTake_101 ?_
        refine j_iload_n g 2 rfl dX6_wouldTake_104 ?_
        obtain ⟨hv19, h⟩ := h
        refine j_iald g 4 md_4 hv19 dX6_wouldTake_105 ?_
        refine j_iconst g (v := 1) (by decide) dX6_wouldTake_106 ?_
        refine j_iadd g dX6_wouldTake_107 ?_
        obtain ⟨hv20, h⟩ := h
        refine j_iast g 4 md_4 hv20 (ws' := (mdW a q mtd mnk mva mno mro (upd mtu x1.toNatClampNeg ((mtu x1.toNatClampNeg) + (1 : Int32))) mbx mst mja mpr mcr mow mhd mmo mbk mca mfr mrs mrk mfe mus mgi maj)) rfl dX6_wouldTake_108 ?_
        refine j_sub [1, 2, 3, 4, 0] rfl ?_
        exact hZ9 (upd mtu x1.toNatClampNeg ((mtu x1.toNatClampNeg) + (1 : Int32))) h
      refine jn_cut h (fun Z21 eZ21 h => ?_)
      have hZ21 : Z21 → jw Γ 8 0 0 (mdW a q mtd mnk mva mno mro mtu mbx mst mja mpr mcr mow mhd mmo mbk mca mfr mrs mrk mfe mus mgi maj) [(0, .ref (a 0)), (1, .int x1), (4, .int (x2 + (mva x1.toNatClampNeg))), (5, .int (((x2 + (mva x1.toNatClampNeg)) - x3) - xs0_3))] [] 87 := by
        intro h
        rw [eZ21] at h
        refine j_iconst g (v := 0) (by decide) dX6_wouldTake_87 ?_
        exact hZ8 (0 : Int32) (Or.inl rfl) h
      refine j_if_ne g dX6_wouldTake_65 (tgt := 87) (by decide) (fun c22 => ?_) (fun c22 => ?_)
      · replace h := h.1 c22
        exact hZ21 h
      replace h := h.2 c22
      refine j_aload_n g 0 rfl dX6_wouldTake_68 ?_
      refine j_get g fl_X6_20 0 md_0 rfl dX6_wouldTake_69 ?_
      refine j_iload_n g 1 rfl dX6_wouldTake_72 ?_
      obtain ⟨hv23, h⟩ := h
      refine j_iald g 4 md_4 hv23 dX6_wouldTake_73 ?_
      refine j_aload_n g 0 rfl dX6_wouldTake_74 ?_
      refine j_get g fl_X6_17 0 md_0 rfl dX6_wouldTake_75 ?_
      refine j_iload_n g 1 rfl dX6_wouldTake_78 ?_
      obtain ⟨hv24, h⟩ := h
      refine j_iald g 3 md_3 hv24 dX6_wouldTake_79 ?_
      refine j_icmp_ge g dX6_wouldTake_80 (tgt := 87) (by decide) (fun c25 => ?_) (fun c25 => ?_)
      · replace h := h.1 c25
        exact hZ21 h
      replace h := h.2 c25
      refine j_iconst g (v := 1) (by decide) dX6_wouldTake_83 ?_
      refine j_goto g dX6_wouldTake_84 (tgt := 88) (by decide) ?_
      exact hZ8 (1 : Int32) (Or.inr rfl) h
    refine j_if_eq g dX6_wouldTake_50 (tgt := 59) (by decide) (fun c26 => ?_) (fun c26 => ?_)
    · replace h := h.1 c26
      refine j_sub [1, 2, 4, 0] rfl ?_
      exact hZ6 h
    replace h := h.2 c26
    refine j_iload_n g 3 rfl dX6_wouldTake_53 ?_
    refine j_if_le g dX6_wouldTake_54 (tgt := 59) (by decide) (fun c27 => ?_) (fun c27 => ?_)
    · replace h := h.1 c27
      refine j_sub [1, 2, 4, 0] rfl ?_
      exact hZ6 h
    replace h := h.2 c27
    refine j_iconst g (v := 0) (by decide) dX6_wouldTake_57 ?_
    exact hret.go dX6_wouldTake_58 (Or.inl rfl) h
  refine j_if_eq g dX6_wouldTake_20 (tgt := 32) (by decide) (fun c28 => ?_) (fun c28 => ?_)
  · replace h := h.1 c28
    refine j_iconst g (v := 0) (by decide) dX6_wouldTake_32 ?_
    refine j_sub [1, 2, 4, 0] rfl ?_
    exact hZ3 (0 : Int32) h
  replace h := h.2 c28
  refine j_aload_n g 1 rfl dX6_wouldTake_23 ?_
  refine j_get g fl_X6_7 0 md_0 rfl dX6_wouldTake_24 ?_
  refine j_iload_n g 2 rfl dX6_wouldTake_27 ?_
  obtain ⟨hv29, h⟩ := h
  refine j_iald g 1 md_1 hv29 dX6_wouldTake_28 ?_
  refine j_goto g dX6_wouldTake_29 (tgt := 33) (by decide) ?_
  refine j_sub [1, 2, 4, 0] rfl ?_
  exact hZ3 (mva x1.toNatClampNeg) h

set_option maxRecDepth 20000 in
def wp_X6_heldValue  (mva : Nat → Int32) (mhd : Int32) (K : Int32 → Prop) : Prop :=
  ((¬ mhd = (-1 : Int32) → (vp_in mhd 6 ∧ K (mva mhd.toNatClampNeg))) ∧ (mhd = (-1 : Int32) → K (0 : Int32)))
theorem dX6_heldValue_0 : decode cX6_heldValue 0 = .ok (.aload_n 0, 1) := by decide +kernel
theorem dX6_heldValue_1 : decode cX6_heldValue 1 = .ok (.getfield 35, 3) := by decide +kernel
theorem dX6_heldValue_4 : decode cX6_heldValue 4 = .ok (.iconst (-1), 1) := by decide +kernel
theorem dX6_heldValue_5 : decode cX6_heldValue 5 = .ok (.if_icmp .ne 7, 3) := by decide +kernel
theorem dX6_heldValue_8 : decode cX6_heldValue 8 = .ok (.iconst 0, 1) := by decide +kernel
theorem dX6_heldValue_9 : decode cX6_heldValue 9 = .ok (.goto 12, 3) := by decide +kernel
theorem dX6_heldValue_12 : decode cX6_heldValue 12 = .ok (.aload_n 0, 1) := by decide +kernel
theorem dX6_heldValue_13 : decode cX6_heldValue 13 = .ok (.getfield 7, 3) := by decide +kernel
theorem dX6_heldValue_16 : decode cX6_heldValue 16 = .ok (.aload_n 0, 1) := by decide +kernel
theorem dX6_heldValue_17 : decode cX6_heldValue 17 = .ok (.getfield 35, 3) := by decide +kernel
theorem dX6_heldValue_20 : decode cX6_heldValue 20 = .ok (.iaload, 1) := by decide +kernel
theorem dX6_heldValue_21 : decode cX6_heldValue 21 = .ok (.ireturn, 1) := by decide +kernel
set_option maxRecDepth 20000 in
set_option maxHeartbeats 4000000 in
theorem c_X6_heldValue {a : Nat → Nat} {q : Nat → ClassId}   {mtd : Int32} {mnk : Int32} {mva : Nat → Int32} {mno : Nat → Int32} {mro : Nat → Int32} {mtu : Nat → Int32} {mbx : Nat → Int32} {mst : Nat → Int32} {mja : Nat → Int32} {mpr : Nat → Int32} {mcr : Int32} {mow : Int32} {mhd : Int32} {mmo : Int32} {mbk : Nat → Int32} {mca : Nat → Int32} {mfr : Nat → Int32} {mrs : Int32} {mrk : Nat → Int32} {mfe : Nat → Int32} {mus : Nat → Int32} {mgi : Nat → Int32} {maj : Nat → Int32} {K : Int32 → Prop} (h : wp_X6_heldValue mva mhd K) : ctI_0 q yX6_heldValue cX6_heldValue 1 0 0 [.ref (a 0)] (mdW a q mtd mnk mva mno mro mtu mbx mst mja mpr mcr mow mhd mmo mbk mca mfr mrs mrk mfe mus mgi maj) (mdW a q mtd mnk mva mno mro mtu mbx mst mja mpr mcr mow mhd mmo mbk mca mfr mrs mrk mfe mus mgi maj) K := by
  refine met_I_0 (by decide) (Nat.le_of_ble_eq_true rfl) (fun Γ g hret => ?_)
  unfold wp_X6_heldValue at h
  show jw Γ 1 0 0 (mdW a q mtd mnk mva mno mro mtu mbx mst mja mpr mcr mow mhd mmo mbk mca mfr mrs mrk mfe mus mgi maj) [(0, .ref (a 0))] [] 0
  refine j_aload_n g 0 rfl dX6_heldValue_0 ?_
  refine j_get g fl_X6_35 0 md_0 rfl dX6_heldValue_1 ?_
  refine j_iconst g (v := -1) (by decide) dX6_heldValue_4 ?_
  refine j_icmp_ne g dX6_heldValue_5 (tgt := 12) (by decide) (fun c1 => ?_) (fun c1 => ?_)
  rotate_left
  · replace h := h.2 c1
    refine j_iconst g (v := 0) (by decide) dX6_heldValue_8 ?_
    refine j_goto g dX6_heldValue_9 (tgt := 21) (by decide) ?_
    exact hret.go dX6_heldValue_21 h
  replace h := h.1 c1
  refine j_aload_n g 0 rfl dX6_heldValue_12 ?_
  refine j_get g fl_X6_7 0 md_0 rfl dX6_heldValue_13 ?_
  refine j_aload_n g 0 rfl dX6_heldValue_16 ?_
  refine j_get g fl_X6_35 0 md_0 rfl dX6_heldValue_17 ?_
  obtain ⟨hv2, h⟩ := h
  refine j_iald g 1 md_1 hv2 dX6_heldValue_20 ?_
  exact hret.go dX6_heldValue_21 h

set_option maxRecDepth 20000 in
def wp_X6_takes (x1 : Int32) (mtd : Int32) (mnk : Int32) (mva : Nat → Int32) (mno : Nat → Int32) (mro : Nat → Int32) (mtu : Nat → Int32) (mst : Nat → Int32) (mpr : Nat → Int32) (mcr : Int32) (mhd : Int32) (mca : Nat → Int32) (mfr : Nat → Int32) (K : Int32 → Int32 → (Nat → Int32) → (Nat → Int32) → (Nat → Int32) → Prop) : Prop :=
  wp_X6_isKind x1 mnk (fun (r_1 : Int32)  => ((¬ r_1 = 0 → wp_X6_heldValue mva mhd (fun (r_3 : Int32)  => wp_X6_wouldTake x1 mcr r_3 mnk mva mno mro mtu mst mpr mca mfr (fun (r_4 : Int32) (mtu_4 : Nat → Int32) (mca_4 : Nat → Int32) (mfr_4 : Nat → Int32) => ((r_4 = 0 → K (0 : Int32) (0 : Int32) mtu_4 mca_4 mfr_4) ∧ (¬ r_4 = 0 → K (1 : Int32) (0 : Int32) mtu_4 mca_4 mfr_4))))) ∧ (r_1 = 0 → K (-1 : Int32) (0 : Int32) mtu mca mfr)))
theorem dX6_takes_0 : decode cX6_takes 0 = .ok (.aload_n 0, 1) := by decide +kernel
theorem dX6_takes_1 : decode cX6_takes 1 = .ok (.iconst 0, 1) := by decide +kernel
theorem dX6_takes_2 : decode cX6_takes 2 = .ok (.putfield 63, 3) := by decide +kernel
theorem dX6_takes_5 : decode cX6_takes 5 = .ok (.aload_n 0, 1) := by decide +kernel
theorem dX6_takes_6 : decode cX6_takes 6 = .ok (.iload_n 1, 1) := by decide +kernel
theorem dX6_takes_7 : decode cX6_takes 7 = .ok (.invokevirtual 69, 3) := by decide +kernel
theorem dX6_takes_10 : decode cX6_takes 10 = .ok (.ifCond .ne 7, 3) := by decide +kernel
theorem dX6_takes_13 : decode cX6_takes 13 = .ok (.iconst (-1), 1) := by decide +kernel
theorem dX6_takes_14 : decode cX6_takes 14 = .ok (.goto 24, 3) := by decide +kernel
theorem dX6_takes_17 : decode cX6_takes 17 = .ok (.aload_n 0, 1) := by decide +kernel
theorem dX6_takes_18 : decode cX6_takes 18 = .ok (.iload_n 1, 1) := by decide +kernel
theorem dX6_takes_19 : decode cX6_takes 19 = .ok (.aload_n 0, 1) := by decide +kernel
theorem dX6_takes_20 : decode cX6_takes 20 = .ok (.getfield 73, 3) := by decide +kernel
theorem dX6_takes_23 : decode cX6_takes 23 = .ok (.aload_n 0, 1) := by decide +kernel
theorem dX6_takes_24 : decode cX6_takes 24 = .ok (.invokevirtual 106, 3) := by decide +kernel
theorem dX6_takes_27 : decode cX6_takes 27 = .ok (.invokevirtual 110, 3) := by decide +kernel
theorem dX6_takes_30 : decode cX6_takes 30 = .ok (.ifCond .eq 7, 3) := by decide +kernel
theorem dX6_takes_33 : decode cX6_takes 33 = .ok (.iconst 1, 1) := by decide +kernel
theorem dX6_takes_34 : decode cX6_takes 34 = .ok (.goto 4, 3) := by decide +kernel
theorem dX6_takes_37 : decode cX6_takes 37 = .ok (.iconst 0, 1) := by decide +kernel
theorem dX6_takes_38 : decode cX6_takes 38 = .ok (.ireturn, 1) := by decide +kernel
set_option maxRecDepth 20000 in
set_option maxHeartbeats 4000000 in
theorem c_X6_takes {a : Nat → Nat} {q : Nat → ClassId} {x1 : Int32}  {mtd : Int32} {mnk : Int32} {mva : Nat → Int32} {mno : Nat → Int32} {mro : Nat → Int32} {mtu : Nat → Int32} {mbx : Nat → Int32} {mst : Nat → Int32} {mja : Nat → Int32} {mpr : Nat → Int32} {mcr : Int32} {mow : Int32} {mhd : Int32} {mmo : Int32} {mbk : Nat → Int32} {mca : Nat → Int32} {mfr : Nat → Int32} {mrs : Int32} {mrk : Nat → Int32} {mfe : Nat → Int32} {mus : Nat → Int32} {mgi : Nat → Int32} {maj : Nat → Int32} {K : Int32 → Int32 → (Nat → Int32) → (Nat → Int32) → (Nat → Int32) → Prop} (h : wp_X6_takes x1 mtd mnk mva mno mro mtu mst mpr mcr mhd mca mfr K) : ctI_4 q yX6_takes cX6_takes 2 2 49 [.ref (a 0), .int x1] (mdW a q mtd mnk mva mno mro mtu mbx mst mja mpr mcr mow mhd mmo mbk mca mfr mrs mrk mfe mus mgi maj) (fun (mtd : Int32) (mtu : Nat → Int32) (mca : Nat → Int32) (mfr : Nat → Int32) => (mdW a q mtd mnk mva mno mro mtu mbx mst mja mpr mcr mow mhd mmo mbk mca mfr mrs mrk mfe mus mgi maj)) K := by
  refine met_I_4 (by decide) (Nat.le_of_ble_eq_true rfl) (fun Γ g hret => ?_)
  unfold wp_X6_takes at h
  show jw Γ 2 0 0 (mdW a q mtd mnk mva mno mro mtu mbx mst mja mpr mcr mow mhd mmo mbk mca mfr mrs mrk mfe mus mgi maj) [(0, .ref (a 0)), (1, .int x1)] [] 0
  refine j_aload_n g 0 rfl dX6_takes_0 ?_
  refine j_iconst g (v := 0) (by decide) dX6_takes_1 ?_
  refine j_put g fl_X6_63 fp_X6_0 0 md_0 rfl rfl (Nat.le_of_ble_eq_true rfl) (ws' := (mdW a q (0 : Int32) mnk mva mno mro mtu mbx mst mja mpr mcr mow mhd mmo mbk mca mfr mrs mrk mfe mus mgi maj)) rfl dX6_takes_2 ?_
  refine j_aload_n g 0 rfl dX6_takes_5 ?_
  refine j_iload_n g 1 rfl dX6_takes_6 ?_
  refine j_callVZ_0 g (As := [.int x1]) (st := []) (c_X6_isKind  h) cl_X6_69 0 6 md_0 rfl rfl (Nat.le_of_ble_eq_true rfl) (Nat.le_of_ble_eq_true rfl) (Nat.zero_le _) (Nat.zero_le _) rfl rfl (Nat.le_of_ble_eq_true rfl) dX6_takes_7 (fun r_1  hz_1 h => ?_)
  refine j_if_ne g dX6_takes_10 (tgt := 17) (by decide) (fun c2 => ?_) (fun c2 => ?_)
  rotate_left
  · replace h := h.2 c2
    refine j_iconst g (v := -1) (by decide) dX6_takes_13 ?_
    refine j_goto g dX6_takes_14 (tgt := 38) (by decide) ?_
    exact hret.go dX6_takes_38 h
  replace h := h.1 c2
  refine j_aload_n g 0 rfl dX6_takes_17 ?_
  refine j_iload_n g 1 rfl dX6_takes_18 ?_
  refine j_aload_n g 0 rfl dX6_takes_19 ?_
  refine j_get g fl_X6_73 0 md_0 rfl dX6_takes_20 ?_
  refine j_aload_n g 0 rfl dX6_takes_23 ?_
  refine j_callVI_0 g (As := []) (st := [.int mcr, .int x1, .ref (a 0)]) (c_X6_heldValue  h) cl_X6_106 0 6 md_0 rfl rfl (Nat.le_of_ble_eq_true rfl) (Nat.le_of_ble_eq_true rfl) (Nat.zero_le _) (Nat.zero_le _) rfl rfl (Nat.le_of_ble_eq_true rfl) dX6_takes_24 (fun r_3   h => ?_)
  refine j_callVZ_3 g (As := [.int x1, .int mcr, .int r_3]) (st := []) (c_X6_wouldTake  h) cl_X6_110 0 6 md_0 rfl rfl (Nat.le_of_ble_eq_true rfl) (Nat.le_of_ble_eq_true rfl) (Nat.zero_le _) (Nat.zero_le _) rfl rfl (Nat.le_of_ble_eq_true rfl) dX6_takes_27 (fun r_4 mtu_4 mca_4 mfr_4 hz_4 h => ?_)
  refine j_ws (ws' := (mdW a q (0 : Int32) mnk mva mno mro mtu_4 mbx mst mja mpr mcr mow mhd mmo mbk mca_4 mfr_4 mrs mrk mfe mus mgi maj)) rfl ?_
  refine j_if_eq g dX6_takes_30 (tgt := 37) (by decide) (fun c5 => ?_) (fun c5 => ?_)
  · replace h := h.1 c5
    refine j_iconst g (v := 0) (by decide) dX6_takes_37 ?_
    exact hret.go dX6_takes_38 h
  replace h := h.2 c5
  refine j_iconst g (v := 1) (by decide) dX6_takes_33 ?_
  refine j_goto g dX6_takes_34 (tgt := 38) (by decide) ?_
  exact hret.go dX6_takes_38 h

set_option maxRecDepth 20000 in
def wp_X6_put (x1 : Int32) (mtd : Int32) (mnk : Int32) (mva : Nat → Int32) (mno : Nat → Int32) (mro : Nat → Int32) (mtu : Nat → Int32) (mbx : Nat → Int32) (mst : Nat → Int32) (mpr : Nat → Int32) (mcr : Int32) (mhd : Int32) (mbk : Nat → Int32) (mca : Nat → Int32) (mfr : Nat → Int32) (K : Int32 → Int32 → (Nat → Int32) → (Nat → Int32) → Int32 → Int32 → (Nat → Int32) → (Nat → Int32) → (Nat → Int32) → Prop) : Prop :=
  wp_X6_isKind x1 mnk (fun (r_1 : Int32)  => ((¬ r_1 = 0 → wp_X6_heldValue mva mhd (fun (r_3 : Int32)  => wp_X6_wouldTake x1 mcr r_3 mnk mva mno mro mtu mst mpr mca mfr (fun (r_4 : Int32) (mtu_4 : Nat → Int32) (mca_4 : Nat → Int32) (mfr_4 : Nat → Int32) => ((¬ r_4 = 0 → (vp_in x1 6 ∧ (vp_in (0 : Int32) 6 ∧ (vp_in x1 6 ∧ (vp_in (0 : Int32) 6 ∧ (vp_in x1 6 ∧ ((mno x1.toNatClampNeg = 0 → (vp_in x1 6 ∧ (vp_in x1 6 ∧ ((mro x1.toNatClampNeg ≤ mtu_4 x1.toNatClampNeg → (vp_in x1 6 ∧ (vp_in x1 6 ∧ K (1 : Int32) (0 : Int32) mtu_4 (upd mbx x1.toNatClampNeg ((mbx x1.toNatClampNeg) + (1 : Int32))) (mcr + (mva x1.toNatClampNeg)) mhd (upd mbk (0 : Int32).toNatClampNeg ((mbk (0 : Int32).toNatClampNeg) + (mva x1.toNatClampNeg))) mca_4 mfr_4))) ∧ (¬ mro x1.toNatClampNeg ≤ mtu_4 x1.toNatClampNeg → (vp_in x1 6 ∧ (vp_in x1 6 ∧ K (1 : Int32) (0 : Int32) (upd mtu_4 x1.toNatClampNeg ((mtu_4 x1.toNatClampNeg) + (1 : Int32))) mbx (mcr + (mva x1.toNatClampNeg)) mhd (upd mbk (0 : Int32).toNatClampNeg ((mbk (0 : Int32).toNatClampNeg) + (mva x1.toNatClampNeg))) mca_4 mfr_4))))))) ∧ (¬ mno x1.toNatClampNeg = 0 → K (1 : Int32) (0 : Int32) mtu_4 mbx (mcr + (mva x1.toNatClampNeg)) x1 (upd mbk (0 : Int32).toNatClampNeg ((mbk (0 : Int32).toNatClampNeg) + (mva x1.toNatClampNeg))) mca_4 mfr_4)))))))) ∧ (r_4 = 0 → K (0 : Int32) (0 : Int32) mtu_4 mbx mcr mhd mbk mca_4 mfr_4))))) ∧ (r_1 = 0 → K (-1 : Int32) (0 : Int32) mtu mbx mcr mhd mbk mca mfr)))
theorem dX6_put_0 : decode cX6_put 0 = .ok (.aload_n 0, 1) := by decide +kernel
theorem dX6_put_1 : decode cX6_put 1 = .ok (.iconst 0, 1) := by decide +kernel
theorem dX6_put_2 : decode cX6_put 2 = .ok (.putfield 63, 3) := by decide +kernel
theorem dX6_put_5 : decode cX6_put 5 = .ok (.aload_n 0, 1) := by decide +kernel
theorem dX6_put_6 : decode cX6_put 6 = .ok (.iload_n 1, 1) := by decide +kernel
theorem dX6_put_7 : decode cX6_put 7 = .ok (.invokevirtual 69, 3) := by decide +kernel
theorem dX6_put_10 : decode cX6_put 10 = .ok (.ifCond .ne 5, 3) := by decide +kernel
theorem dX6_put_13 : decode cX6_put 13 = .ok (.iconst (-1), 1) := by decide +kernel
theorem dX6_put_14 : decode cX6_put 14 = .ok (.ireturn, 1) := by decide +kernel
theorem dX6_put_15 : decode cX6_put 15 = .ok (.aload_n 0, 1) := by decide +kernel
theorem dX6_put_16 : decode cX6_put 16 = .ok (.iload_n 1, 1) := by decide +kernel
theorem dX6_put_17 : decode cX6_put 17 = .ok (.aload_n 0, 1) := by decide +kernel
theorem dX6_put_18 : decode cX6_put 18 = .ok (.getfield 73, 3) := by decide +kernel
theorem dX6_put_21 : decode cX6_put 21 = .ok (.aload_n 0, 1) := by decide +kernel
theorem dX6_put_22 : decode cX6_put 22 = .ok (.invokevirtual 106, 3) := by decide +kernel
theorem dX6_put_25 : decode cX6_put 25 = .ok (.invokevirtual 110, 3) := by decide +kernel
theorem dX6_put_28 : decode cX6_put 28 = .ok (.ifCond .ne 5, 3) := by decide +kernel
theorem dX6_put_31 : decode cX6_put 31 = .ok (.iconst 0, 1) := by decide +kernel
theorem dX6_put_32 : decode cX6_put 32 = .ok (.ireturn, 1) := by decide +kernel
theorem dX6_put_33 : decode cX6_put 33 = .ok (.aload_n 0, 1) := by decide +kernel
theorem dX6_put_34 : decode cX6_put 34 = .ok (.aload_n 0, 1) := by decide +kernel
theorem dX6_put_35 : decode cX6_put 35 = .ok (.getfield 73, 3) := by decide +kernel
theorem dX6_put_38 : decode cX6_put 38 = .ok (.aload_n 0, 1) := by decide +kernel
theorem dX6_put_39 : decode cX6_put 39 = .ok (.getfield 7, 3) := by decide +kernel
theorem dX6_put_42 : decode cX6_put 42 = .ok (.iload_n 1, 1) := by decide +kernel
theorem dX6_put_43 : decode cX6_put 43 = .ok (.iaload, 1) := by decide +kernel
theorem dX6_put_44 : decode cX6_put 44 = .ok (.iadd, 1) := by decide +kernel
theorem dX6_put_45 : decode cX6_put 45 = .ok (.putfield 73, 3) := by decide +kernel
theorem dX6_put_48 : decode cX6_put 48 = .ok (.aload_n 0, 1) := by decide +kernel
theorem dX6_put_49 : decode cX6_put 49 = .ok (.getfield 39, 3) := by decide +kernel
theorem dX6_put_52 : decode cX6_put 52 = .ok (.iconst 0, 1) := by decide +kernel
theorem dX6_put_53 : decode cX6_put 53 = .ok (.aload_n 0, 1) := by decide +kernel
theorem dX6_put_54 : decode cX6_put 54 = .ok (.getfield 39, 3) := by decide +kernel
theorem dX6_put_57 : decode cX6_put 57 = .ok (.iconst 0, 1) := by decide +kernel
theorem dX6_put_58 : decode cX6_put 58 = .ok (.iaload, 1) := by decide +kernel
theorem dX6_put_59 : decode cX6_put 59 = .ok (.aload_n 0, 1) := by decide +kernel
theorem dX6_put_60 : decode cX6_put 60 = .ok (.getfield 7, 3) := by decide +kernel
theorem dX6_put_63 : decode cX6_put 63 = .ok (.iload_n 1, 1) := by decide +kernel
theorem dX6_put_64 : decode cX6_put 64 = .ok (.iaload, 1) := by decide +kernel
theorem dX6_put_65 : decode cX6_put 65 = .ok (.iadd, 1) := by decide +kernel
theorem dX6_put_66 : decode cX6_put 66 = .ok (.iastore, 1) := by decide +kernel
theorem dX6_put_67 : decode cX6_put 67 = .ok (.aload_n 0, 1) := by decide +kernel
theorem dX6_put_68 : decode cX6_put 68 = .ok (.getfield 13, 3) := by decide +kernel
theorem dX6_put_71 : decode cX6_put 71 = .ok (.iload_n 1, 1) := by decide +kernel
theorem dX6_put_72 : decode cX6_put 72 = .ok (.baload, 1) := by decide +kernel
theorem dX6_put_73 : decode cX6_put 73 = .ok (.ifCond .eq 11, 3) := by decide +kernel
theorem dX6_put_76 : decode cX6_put 76 = .ok (.aload_n 0, 1) := by decide +kernel
theorem dX6_put_77 : decode cX6_put 77 = .ok (.iload_n 1, 1) := by decide +kernel
theorem dX6_put_78 : decode cX6_put 78 = .ok (.putfield 35, 3) := by decide +kernel
theorem dX6_put_81 : decode cX6_put 81 = .ok (.goto 49, 3) := by decide +kernel
theorem dX6_put_84 : decode cX6_put 84 = .ok (.aload_n 0, 1) := by decide +kernel
theorem dX6_put_85 : decode cX6_put 85 = .ok (.getfield 20, 3) := by decide +kernel
theorem dX6_put_88 : decode cX6_put 88 = .ok (.iload_n 1, 1) := by decide +kernel
theorem dX6_put_89 : decode cX6_put 89 = .ok (.iaload, 1) := by decide +kernel
theorem dX6_put_90 : decode cX6_put 90 = .ok (.aload_n 0, 1) := by decide +kernel
theorem dX6_put_91 : decode cX6_put 91 = .ok (.getfield 17, 3) := by decide +kernel
theorem dX6_put_94 : decode cX6_put 94 = .ok (.iload_n 1, 1) := by decide +kernel
theorem dX6_put_95 : decode cX6_put 95 = .ok (.iaload, 1) := by decide +kernel
theorem dX6_put_96 : decode cX6_put 96 = .ok (.if_icmp .ge 20, 3) := by decide +kernel
theorem dX6_put_99 : decode cX6_put 99 = .ok (.aload_n 0, 1) := by decide +kernel
theorem dX6_put_100 : decode cX6_put 100 = .ok (.getfield 20, 3) := by decide +kernel
theorem dX6_put_103 : decode cX6_put 103 = .ok (.iload_n 1, 1) := by decide +kernel
theorem dX6_put_104 : decode cX6_put 104 = .ok (.aload_n 0, 1) := by decide +kernel
theorem dX6_put_105 : decode cX6_put 105 = .ok (.getfield 20, 3) := by decide +kernel
theorem dX6_put_108 : decode cX6_put 108 = .ok (.iload_n 1, 1) := by decide +kernel
theorem dX6_put_109 : decode cX6_put 109 = .ok (.iaload, 1) := by decide +kernel
theorem dX6_put_110 : decode cX6_put 110 = .ok (.iconst 1, 1) := by decide +kernel
theorem dX6_put_111 : decode cX6_put 111 = .ok (.iadd, 1) := by decide +kernel
theorem dX6_put_112 : decode cX6_put 112 = .ok (.iastore, 1) := by decide +kernel
theorem dX6_put_113 : decode cX6_put 113 = .ok (.goto 17, 3) := by decide +kernel
theorem dX6_put_116 : decode cX6_put 116 = .ok (.aload_n 0, 1) := by decide +kernel
theorem dX6_put_117 : decode cX6_put 117 = .ok (.getfield 23, 3) := by decide +kernel
theorem dX6_put_120 : decode cX6_put 120 = .ok (.iload_n 1, 1) := by decide +kernel
theorem dX6_put_121 : decode cX6_put 121 = .ok (.aload_n 0, 1) := by decide +kernel
theorem dX6_put_122 : decode cX6_put 122 = .ok (.getfield 23, 3) := by decide +kernel
theorem dX6_put_125 : decode cX6_put 125 = .ok (.iload_n 1, 1) := by decide +kernel
theorem dX6_put_126 : decode cX6_put 126 = .ok (.iaload, 1) := by decide +kernel
theorem dX6_put_127 : decode cX6_put 127 = .ok (.iconst 1, 1) := by decide +kernel
theorem dX6_put_128 : decode cX6_put 128 = .ok (.iadd, 1) := by decide +kernel
theorem dX6_put_129 : decode cX6_put 129 = .ok (.iastore, 1) := by decide +kernel
theorem dX6_put_130 : decode cX6_put 130 = .ok (.iconst 1, 1) := by decide +kernel
theorem dX6_put_131 : decode cX6_put 131 = .ok (.ireturn, 1) := by decide +kernel
set_option maxRecDepth 20000 in
set_option maxHeartbeats 4000000 in
theorem c_X6_put {a : Nat → Nat} {q : Nat → ClassId} {x1 : Int32}  {mtd : Int32} {mnk : Int32} {mva : Nat → Int32} {mno : Nat → Int32} {mro : Nat → Int32} {mtu : Nat → Int32} {mbx : Nat → Int32} {mst : Nat → Int32} {mja : Nat → Int32} {mpr : Nat → Int32} {mcr : Int32} {mow : Int32} {mhd : Int32} {mmo : Int32} {mbk : Nat → Int32} {mca : Nat → Int32} {mfr : Nat → Int32} {mrs : Int32} {mrk : Nat → Int32} {mfe : Nat → Int32} {mus : Nat → Int32} {mgi : Nat → Int32} {maj : Nat → Int32} {K : Int32 → Int32 → (Nat → Int32) → (Nat → Int32) → Int32 → Int32 → (Nat → Int32) → (Nat → Int32) → (Nat → Int32) → Prop} (h : wp_X6_put x1 mtd mnk mva mno mro mtu mbx mst mpr mcr mhd mbk mca mfr K) : ctI_8 q yX6_put cX6_put 2 2 49 [.ref (a 0), .int x1] (mdW a q mtd mnk mva mno mro mtu mbx mst mja mpr mcr mow mhd mmo mbk mca mfr mrs mrk mfe mus mgi maj) (fun (mtd : Int32) (mtu : Nat → Int32) (mbx : Nat → Int32) (mcr : Int32) (mhd : Int32) (mbk : Nat → Int32) (mca : Nat → Int32) (mfr : Nat → Int32) => (mdW a q mtd mnk mva mno mro mtu mbx mst mja mpr mcr mow mhd mmo mbk mca mfr mrs mrk mfe mus mgi maj)) K := by
  refine met_I_8 (by decide) (Nat.le_of_ble_eq_true rfl) (fun Γ g hret => ?_)
  unfold wp_X6_put at h
  show jw Γ 2 0 0 (mdW a q mtd mnk mva mno mro mtu mbx mst mja mpr mcr mow mhd mmo mbk mca mfr mrs mrk mfe mus mgi maj) [(0, .ref (a 0)), (1, .int x1)] [] 0
  refine j_aload_n g 0 rfl dX6_put_0 ?_
  refine j_iconst g (v := 0) (by decide) dX6_put_1 ?_
  refine j_put g fl_X6_63 fp_X6_0 0 md_0 rfl rfl (Nat.le_of_ble_eq_true rfl) (ws' := (mdW a q (0 : Int32) mnk mva mno mro mtu mbx mst mja mpr mcr mow mhd mmo mbk mca mfr mrs mrk mfe mus mgi maj)) rfl dX6_put_2 ?_
  refine j_aload_n g 0 rfl dX6_put_5 ?_
  refine j_iload_n g 1 rfl dX6_put_6 ?_
  refine j_callVZ_0 g (As := [.int x1]) (st := []) (c_X6_isKind  h) cl_X6_69 0 6 md_0 rfl rfl (Nat.le_of_ble_eq_true rfl) (Nat.le_of_ble_eq_true rfl) (Nat.zero_le _) (Nat.zero_le _) rfl rfl (Nat.le_of_ble_eq_true rfl) dX6_put_7 (fun r_1  hz_1 h => ?_)
  refine j_if_ne g dX6_put_10 (tgt := 15) (by decide) (fun c2 => ?_) (fun c2 => ?_)
  rotate_left
  · replace h := h.2 c2
    refine j_iconst g (v := -1) (by decide) dX6_put_13 ?_
    exact hret.go dX6_put_14 h
  replace h := h.1 c2
  refine j_aload_n g 0 rfl dX6_put_15 ?_
  refine j_iload_n g 1 rfl dX6_put_16 ?_
  refine j_aload_n g 0 rfl dX6_put_17 ?_
  refine j_get g fl_X6_73 0 md_0 rfl dX6_put_18 ?_
  refine j_aload_n g 0 rfl dX6_put_21 ?_
  refine j_callVI_0 g (As := []) (st := [.int mcr, .int x1, .ref (a 0)]) (c_X6_heldValue  h) cl_X6_106 0 6 md_0 rfl rfl (Nat.le_of_ble_eq_true rfl) (Nat.le_of_ble_eq_true rfl) (Nat.zero_le _) (Nat.zero_le _) rfl rfl (Nat.le_of_ble_eq_true rfl) dX6_put_22 (fun r_3   h => ?_)
  refine j_callVZ_3 g (As := [.int x1, .int mcr, .int r_3]) (st := []) (c_X6_wouldTake  h) cl_X6_110 0 6 md_0 rfl rfl (Nat.le_of_ble_eq_true rfl) (Nat.le_of_ble_eq_true rfl) (Nat.zero_le _) (Nat.zero_le _) rfl rfl (Nat.le_of_ble_eq_true rfl) dX6_put_25 (fun r_4 mtu_4 mca_4 mfr_4 hz_4 h => ?_)
  refine j_ws (ws' := (mdW a q (0 : Int32) mnk mva mno mro mtu_4 mbx mst mja mpr mcr mow mhd mmo mbk mca_4 mfr_4 mrs mrk mfe mus mgi maj)) rfl ?_
  refine j_if_ne g dX6_put_28 (tgt := 33) (by decide) (fun c5 => ?_) (fun c5 => ?_)
  rotate_left
  · replace h := h.2 c5
    refine j_iconst g (v := 0) (by decide) dX6_put_31 ?_
    exact hret.go dX6_put_32 h
  replace h := h.1 c5
  refine j_aload_n g 0 rfl dX6_put_33 ?_
  refine j_aload_n g 0 rfl dX6_put_34 ?_
  refine j_get g fl_X6_73 0 md_0 rfl dX6_put_35 ?_
  refine j_aload_n g 0 rfl dX6_put_38 ?_
  refine j_get g fl_X6_7 0 md_0 rfl dX6_put_39 ?_
  refine j_iload_n g 1 rfl dX6_put_42 ?_
  obtain ⟨hv6, h⟩ := h
  refine j_iald g 1 md_1 hv6 dX6_put_43 ?_
  refine j_iadd g dX6_put_44 ?_
  refine j_put g fl_X6_73 fp_X6_10 0 md_0 rfl rfl (Nat.le_of_ble_eq_true rfl) (ws' := (mdW a q (0 : Int32) mnk mva mno mro mtu_4 mbx mst mja mpr (mcr + (mva x1.toNatClampNeg)) mow mhd mmo mbk mca_4 mfr_4 mrs mrk mfe mus mgi maj)) rfl dX6_put_45 ?_
  refine j_aload_n g 0 rfl dX6_put_48 ?_
  refine j_get g fl_X6_39 0 md_0 rfl dX6_put_49 ?_
  refine j_iconst g (v := 0) (by decide) dX6_put_52 ?_
  refine j_aload_n g 0 rfl dX6_put_53 ?_
  refine j_get g fl_X6_39 0 md_0 rfl dX6_put_54 ?_
  refine j_iconst g (v := 0) (by decide) dX6_put_57 ?_
  obtain ⟨hv7, h⟩ := h
  refine j_iald g 9 md_9 hv7 dX6_put_58 ?_
  refine j_aload_n g 0 rfl dX6_put_59 ?_
  refine j_get g fl_X6_7 0 md_0 rfl dX6_put_60 ?_
  refine j_iload_n g 1 rfl dX6_put_63 ?_
  obtain ⟨hv8, h⟩ := h
  refine j_iald g 1 md_1 hv8 dX6_put_64 ?_
  refine j_iadd g dX6_put_65 ?_
  obtain ⟨hv9, h⟩ := h
  refine j_iast g 9 md_9 hv9 (ws' := (mdW a q (0 : Int32) mnk mva mno mro mtu_4 mbx mst mja mpr (mcr + (mva x1.toNatClampNeg)) mow mhd mmo (upd mbk (0 : Int32).toNatClampNeg ((mbk (0 : Int32).toNatClampNeg) + (mva x1.toNatClampNeg))) mca_4 mfr_4 mrs mrk mfe mus mgi maj)) rfl dX6_put_66 ?_
  refine j_aload_n g 0 rfl dX6_put_67 ?_
  refine j_get g fl_X6_13 0 md_0 rfl dX6_put_68 ?_
  refine j_iload_n g 1 rfl dX6_put_71 ?_
  obtain ⟨hv10, h⟩ := h
  refine j_zald g 2 md_2 hv10 dX6_put_72 ?_
  refine j_if_eq g dX6_put_73 (tgt := 84) (by decide) (fun c11 => ?_) (fun c11 => ?_)
  rotate_left
  · replace h := h.2 c11
    refine j_aload_n g 0 rfl dX6_put_76 ?_
    refine j_iload_n g 1 rfl dX6_put_77 ?_
    refine j_put g fl_X6_35 fp_X6_12 0 md_0 rfl rfl (Nat.le_of_ble_eq_true rfl) (ws' := (mdW a q (0 : Int32) mnk mva mno mro mtu_4 mbx mst mja mpr (mcr + (mva x1.toNatClampNeg)) mow x1 mmo (upd mbk (0 : Int32).toNatClampNeg ((mbk (0 : Int32).toNatClampNeg) + (mva x1.toNatClampNeg))) mca_4 mfr_4 mrs mrk mfe mus mgi maj)) rfl dX6_put_78 ?_
    refine j_goto g dX6_put_81 (tgt := 130) (by decide) ?_
    refine j_iconst g (v := 1) (by decide) dX6_put_130 ?_
    exact hret.go dX6_put_131 h
  replace h := h.1 c11
  refine j_aload_n g 0 rfl dX6_put_84 ?_
  refine j_get g fl_X6_20 0 md_0 rfl dX6_put_85 ?_
  refine j_iload_n g 1 rfl dX6_put_88 ?_
  obtain ⟨hv12, h⟩ := h
  refine j_iald g 4 md_4 hv12 dX6_put_89 ?_
  refine j_aload_n g 0 rfl dX6_put_90 ?_
  refine j_get g fl_X6_17 0 md_0 rfl dX6_put_91 ?_
  refine j_iload_n g 1 rfl dX6_put_94 ?_
  obtain ⟨hv13, h⟩ := h
  refine j_iald g 3 md_3 hv13 dX6_put_95 ?_
  refine j_icmp_ge g dX6_put_96 (tgt := 116) (by decide) (fun c14 => ?_) (fun c14 => ?_)
  · replace h := h.1 c14
    refine j_aload_n g 0 rfl dX6_put_116 ?_
    refine j_get g fl_X6_23 0 md_0 rfl dX6_put_117 ?_
    refine j_iload_n g 1 rfl dX6_put_120 ?_
    refine j_aload_n g 0 rfl dX6_put_121 ?_
    refine j_get g fl_X6_23 0 md_0 rfl dX6_put_122 ?_
    refine j_iload_n g 1 rfl dX6_put_125 ?_
    obtain ⟨hv15, h⟩ := h
    refine j_iald g 5 md_5 hv15 dX6_put_126 ?_
    refine j_iconst g (v := 1) (by decide) dX6_put_127 ?_
    refine j_iadd g dX6_put_128 ?_
    obtain ⟨hv16, h⟩ := h
    refine j_iast g 5 md_5 hv16 (ws' := (mdW a q (0 : Int32) mnk mva mno mro mtu_4 (upd mbx x1.toNatClampNeg ((mbx x1.toNatClampNeg) + (1 : Int32))) mst mja mpr (mcr + (mva x1.toNatClampNeg)) mow mhd mmo (upd mbk (0 : Int32).toNatClampNeg ((mbk (0 : Int32).toNatClampNeg) + (mva x1.toNatClampNeg))) mca_4 mfr_4 mrs mrk mfe mus mgi maj)) rfl dX6_put_129 ?_
    refine j_iconst g (v := 1) (by decide) dX6_put_130 ?_
    exact hret.go dX6_put_131 h
  replace h := h.2 c14
  refine j_aload_n g 0 rfl dX6_put_99 ?_
  refine j_get g fl_X6_20 0 md_0 rfl dX6_put_100 ?_
  refine j_iload_n g 1 rfl dX6_put_103 ?_
  refine j_aload_n g 0 rfl dX6_put_104 ?_
  refine j_get g fl_X6_20 0 md_0 rfl dX6_put_105 ?_
  refine j_iload_n g 1 rfl dX6_put_108 ?_
  obtain ⟨hv17, h⟩ := h
  refine j_iald g 4 md_4 hv17 dX6_put_109 ?_
  refine j_iconst g (v := 1) (by decide) dX6_put_110 ?_
  refine j_iadd g dX6_put_111 ?_
  obtain ⟨hv18, h⟩ := h
  refine j_iast g 4 md_4 hv18 (ws' := (mdW a q (0 : Int32) mnk mva mno mro (upd mtu_4 x1.toNatClampNeg ((mtu_4 x1.toNatClampNeg) + (1 : Int32))) mbx mst mja mpr (mcr + (mva x1.toNatClampNeg)) mow mhd mmo (upd mbk (0 : Int32).toNatClampNeg ((mbk (0 : Int32).toNatClampNeg) + (mva x1.toNatClampNeg))) mca_4 mfr_4 mrs mrk mfe mus mgi maj)) rfl dX6_put_112 ?_
  refine j_goto g dX6_put_113 (tgt := 130) (by decide) ?_
  refine j_iconst g (v := 1) (by decide) dX6_put_130 ?_
  exact hret.go dX6_put_131 h

set_option maxRecDepth 20000 in
def wp_X6_nextUsed_2  (mrs : Int32) (mrk : Nat → Int32) (mus : Nat → Int32) (K : Int32 → Prop) (X : Prop) : Nat → Int32 → Prop
  | 0, _ => False
  | n + 1, x1 => ((mrs ≤ x1 → X) ∧ (¬ mrs ≤ x1 → (vp_in x1 6 ∧ (vp_in (mrk x1.toNatClampNeg) 6 ∧ ((mus (mrk x1.toNatClampNeg).toNatClampNeg ≤ 0 → wp_X6_nextUsed_2 mrs mrk mus K X n (x1 + 1)) ∧ (¬ mus (mrk x1.toNatClampNeg).toNatClampNeg ≤ 0 → (vp_in x1 6 ∧ K (mrk x1.toNatClampNeg))))))))
set_option maxRecDepth 20000 in
def wp_X6_nextUsed  (mrs : Int32) (mrk : Nat → Int32) (mus : Nat → Int32) (K : Int32 → Prop) : Prop :=
  ∃ n1 : Nat, wp_X6_nextUsed_2 mrs mrk mus K (K (-1 : Int32)) n1 (0 : Int32)
theorem dX6_nextUsed_0 : decode cX6_nextUsed 0 = .ok (.iconst 0, 1) := by decide +kernel
theorem dX6_nextUsed_1 : decode cX6_nextUsed 1 = .ok (.istore_n 1, 1) := by decide +kernel
theorem dX6_nextUsed_2 : decode cX6_nextUsed 2 = .ok (.iload_n 1, 1) := by decide +kernel
theorem dX6_nextUsed_3 : decode cX6_nextUsed 3 = .ok (.aload_n 0, 1) := by decide +kernel
theorem dX6_nextUsed_4 : decode cX6_nextUsed 4 = .ok (.getfield 86, 3) := by decide +kernel
theorem dX6_nextUsed_7 : decode cX6_nextUsed 7 = .ok (.if_icmp .ge 30, 3) := by decide +kernel
theorem dX6_nextUsed_10 : decode cX6_nextUsed 10 = .ok (.aload_n 0, 1) := by decide +kernel
theorem dX6_nextUsed_11 : decode cX6_nextUsed 11 = .ok (.getfield 54, 3) := by decide +kernel
theorem dX6_nextUsed_14 : decode cX6_nextUsed 14 = .ok (.aload_n 0, 1) := by decide +kernel
theorem dX6_nextUsed_15 : decode cX6_nextUsed 15 = .ok (.getfield 48, 3) := by decide +kernel
theorem dX6_nextUsed_18 : decode cX6_nextUsed 18 = .ok (.iload_n 1, 1) := by decide +kernel
theorem dX6_nextUsed_19 : decode cX6_nextUsed 19 = .ok (.iaload, 1) := by decide +kernel
theorem dX6_nextUsed_20 : decode cX6_nextUsed 20 = .ok (.iaload, 1) := by decide +kernel
theorem dX6_nextUsed_21 : decode cX6_nextUsed 21 = .ok (.ifCond .le 10, 3) := by decide +kernel
theorem dX6_nextUsed_24 : decode cX6_nextUsed 24 = .ok (.aload_n 0, 1) := by decide +kernel
theorem dX6_nextUsed_25 : decode cX6_nextUsed 25 = .ok (.getfield 48, 3) := by decide +kernel
theorem dX6_nextUsed_28 : decode cX6_nextUsed 28 = .ok (.iload_n 1, 1) := by decide +kernel
theorem dX6_nextUsed_29 : decode cX6_nextUsed 29 = .ok (.iaload, 1) := by decide +kernel
theorem dX6_nextUsed_30 : decode cX6_nextUsed 30 = .ok (.ireturn, 1) := by decide +kernel
theorem dX6_nextUsed_31 : decode cX6_nextUsed 31 = .ok (.iinc 1 1, 3) := by decide +kernel
theorem dX6_nextUsed_34 : decode cX6_nextUsed 34 = .ok (.goto (-32), 3) := by decide +kernel
theorem dX6_nextUsed_37 : decode cX6_nextUsed 37 = .ok (.iconst (-1), 1) := by decide +kernel
theorem dX6_nextUsed_38 : decode cX6_nextUsed 38 = .ok (.ireturn, 1) := by decide +kernel
set_option maxRecDepth 20000 in
set_option maxHeartbeats 4000000 in
theorem wk_X6_nextUsed_2 {Γ : GT} {a : Nat → Nat} {q : Nat → ClassId}   {mtd : Int32} {mnk : Int32} {mva : Nat → Int32} {mno : Nat → Int32} {mro : Nat → Int32} {mtu : Nat → Int32} {mbx : Nat → Int32} {mst : Nat → Int32} {mja : Nat → Int32} {mpr : Nat → Int32} {mcr : Int32} {mow : Int32} {mhd : Int32} {mmo : Int32} {mbk : Nat → Int32} {mca : Nat → Int32} {mfr : Nat → Int32} {mrs : Int32} {mrk : Nat → Int32} {mfe : Nat → Int32} {mus : Nat → Int32} {mgi : Nat → Int32} {maj : Nat → Int32} {K : Int32 → Prop} {X : Prop} (g : gd Γ cX6_nextUsed RX6 2 (rmz 0 0) q) (hret : rtI_0 Γ cX6_nextUsed 2 (mdW a q mtd mnk mva mno mro mtu mbx mst mja mpr mcr mow mhd mmo mbk mca mfr mrs mrk mfe mus mgi maj) K) (hX : X → jw Γ 2 0 0 (mdW a q mtd mnk mva mno mro mtu mbx mst mja mpr mcr mow mhd mmo mbk mca mfr mrs mrk mfe mus mgi maj) [] [] 37) :
    ∀ (n : Nat) (x1 : Int32) , wp_X6_nextUsed_2 mrs mrk mus K X n x1 → jw Γ 2 0 0 (mdW a q mtd mnk mva mno mro mtu mbx mst mja mpr mcr mow mhd mmo mbk mca mfr mrs mrk mfe mus mgi maj) [(0, .ref (a 0)), (1, .int x1)] [] 2 := by
  intro n
  induction n with
  | zero =>
    intro _ h
    exact False.elim h
  | succ n ih =>
    intro x1 h
    unfold wp_X6_nextUsed_2 at h
    refine j_iload_n g 1 rfl dX6_nextUsed_2 ?_
    refine j_aload_n g 0 rfl dX6_nextUsed_3 ?_
    refine j_get g fl_X6_86 0 md_0 rfl dX6_nextUsed_4 ?_
    refine j_icmp_ge g dX6_nextUsed_7 (tgt := 37) (by decide) (fun c1 => ?_) (fun c1 => ?_)
    · replace h := h.1 c1
      refine j_sub [] rfl ?_
      exact hX h
    replace h := h.2 c1
    refine j_aload_n g 0 rfl dX6_nextUsed_10 ?_
    refine j_get g fl_X6_54 0 md_0 rfl dX6_nextUsed_11 ?_
    refine j_aload_n g 0 rfl dX6_nextUsed_14 ?_
    refine j_get g fl_X6_48 0 md_0 rfl dX6_nextUsed_15 ?_
    refine j_iload_n g 1 rfl dX6_nextUsed_18 ?_
    obtain ⟨hv2, h⟩ := h
    refine j_iald g 12 md_12 hv2 dX6_nextUsed_19 ?_
    obtain ⟨hv3, h⟩ := h
    refine j_iald g 14 md_14 hv3 dX6_nextUsed_20 ?_
    refine j_if_le g dX6_nextUsed_21 (tgt := 31) (by decide) (fun c4 => ?_) (fun c4 => ?_)
    · replace h := h.1 c4
      refine j_iinc g 1 (n := 1) (v := x1 + 1) (lv' := [(1, .int (x1 + 1)), (0, .ref (a 0))]) rfl rfl (by decide) rfl dX6_nextUsed_31 ?_
      refine j_goto g dX6_nextUsed_34 (tgt := 2) (by decide) ?_
      refine j_sub [1, 0] rfl ?_
      exact ih (x1 + 1) h
    replace h := h.2 c4
    refine j_aload_n g 0 rfl dX6_nextUsed_24 ?_
    refine j_get g fl_X6_48 0 md_0 rfl dX6_nextUsed_25 ?_
    refine j_iload_n g 1 rfl dX6_nextUsed_28 ?_
    obtain ⟨hv5, h⟩ := h
    refine j_iald g 12 md_12 hv5 dX6_nextUsed_29 ?_
    exact hret.go dX6_nextUsed_30 h
set_option maxRecDepth 20000 in
set_option maxHeartbeats 4000000 in
theorem c_X6_nextUsed {a : Nat → Nat} {q : Nat → ClassId}   {mtd : Int32} {mnk : Int32} {mva : Nat → Int32} {mno : Nat → Int32} {mro : Nat → Int32} {mtu : Nat → Int32} {mbx : Nat → Int32} {mst : Nat → Int32} {mja : Nat → Int32} {mpr : Nat → Int32} {mcr : Int32} {mow : Int32} {mhd : Int32} {mmo : Int32} {mbk : Nat → Int32} {mca : Nat → Int32} {mfr : Nat → Int32} {mrs : Int32} {mrk : Nat → Int32} {mfe : Nat → Int32} {mus : Nat → Int32} {mgi : Nat → Int32} {maj : Nat → Int32} {K : Int32 → Prop} (h : wp_X6_nextUsed mrs mrk mus K) : ctI_0 q yX6_nextUsed cX6_nextUsed 2 0 0 [.ref (a 0)] (mdW a q mtd mnk mva mno mro mtu mbx mst mja mpr mcr mow mhd mmo mbk mca mfr mrs mrk mfe mus mgi maj) (mdW a q mtd mnk mva mno mro mtu mbx mst mja mpr mcr mow mhd mmo mbk mca mfr mrs mrk mfe mus mgi maj) K := by
  refine met_I_0 (by decide) (Nat.le_of_ble_eq_true rfl) (fun Γ g hret => ?_)
  unfold wp_X6_nextUsed at h
  show jw Γ 2 0 0 (mdW a q mtd mnk mva mno mro mtu mbx mst mja mpr mcr mow mhd mmo mbk mca mfr mrs mrk mfe mus mgi maj) [(0, .ref (a 0))] [] 0
  refine j_iconst g (v := 0) (by decide) dX6_nextUsed_0 ?_
  refine j_istore_n g (lv' := [(1, .int (0 : Int32)), (0, .ref (a 0))]) (by decide) rfl dX6_nextUsed_1 ?_
  obtain ⟨n1, h⟩ := h
  refine j_sub [1, 0] rfl ?_
  refine wk_X6_nextUsed_2  g hret (fun h => ?_) n1 (0 : Int32) h
  refine j_iconst g (v := -1) (by decide) dX6_nextUsed_37 ?_
  exact hret.go dX6_nextUsed_38 h

set_option maxRecDepth 20000 in
def wp_X6_gives_2 (x1 : Int32)  (K : Int32 → (Nat → Int32) → (Nat → Int32) → (Nat → Int32) → Int32 → (Nat → Int32) → Int32 → (Nat → Int32) → (Nat → Int32) → (Nat → Int32) → (Nat → Int32) → Prop) (X : (Nat → Int32) → Prop) : Nat → Int32 → (Nat → Int32) → Prop
  | 0, _, _ => False
  | n + 1, x2, mgi => (((6 : Int32) ≤ x2 → X mgi) ∧ (¬ (6 : Int32) ≤ x2 → (vp_in x2 6 ∧ wp_X6_gives_2 x1 K X n (x2 + 1) (upd mgi x2.toNatClampNeg (0 : Int32)))))
set_option maxRecDepth 20000 in
def wp_X6_gives_32  (mnk : Int32) (mva : Nat → Int32) (mno : Nat → Int32) (mmo : Int32) (K : Int32 → (Nat → Int32) → (Nat → Int32) → (Nat → Int32) → Int32 → (Nat → Int32) → Int32 → (Nat → Int32) → (Nat → Int32) → (Nat → Int32) → (Nat → Int32) → Prop) (X : Int32 → Int32 → (Nat → Int32) → (Nat → Int32) → (Nat → Int32) → (Nat → Int32) → Int32 → (Nat → Int32) → (Nat → Int32) → (Nat → Int32) → (Nat → Int32) → Prop) : Nat → Int32 → Int32 → Int32 → (Nat → Int32) → (Nat → Int32) → (Nat → Int32) → (Nat → Int32) → Int32 → (Nat → Int32) → (Nat → Int32) → (Nat → Int32) → (Nat → Int32) → Prop
  | 0, _, _, _, _, _, _, _, _, _, _, _, _ => False
  | n + 1, x2, x3, x4, mtu, mst, mja, mbk, mrs, mrk, mfe, mus, mgi => ((x4 = 0 → X x2 x3 mtu mst mja mbk mrs mrk mfe mus mgi) ∧ (¬ x4 = 0 → ((x2 ≤ 0 → X x2 x3 mtu mst mja mbk mrs mrk mfe mus mgi) ∧ (¬ x2 ≤ 0 → wp_X6_nextUsed mrs mrk mus (fun (r_3 : Int32)  => (vp_in r_3 6 ∧ ((¬ mja r_3.toNatClampNeg = 0 → (vp_in r_3 6 ∧ jn (fun (Z7 : (Nat → Int32) → Prop) => ((mja r_3.toNatClampNeg ≤ 0 → Z7 mja) ∧ (¬ mja r_3.toNatClampNeg ≤ 0 → (vp_in r_3 6 ∧ (vp_in r_3 6 ∧ Z7 (upd mja r_3.toNatClampNeg ((mja r_3.toNatClampNeg) - (1 : Int32)))))))) (fun (mja_7 : Nat → Int32) => (vp_in r_3 6 ∧ (vp_in r_3 6 ∧ (vp_in r_3 6 ∧ (vp_in r_3 6 ∧ (vp_in r_3 6 ∧ (vp_in r_3 6 ∧ (vp_in r_3 6 ∧ (vp_in (2 : Int32) 6 ∧ (vp_in r_3 6 ∧ (vp_in (2 : Int32) 6 ∧ wp_X6_gives_32 mnk mva mno mmo K X n (x2 - (mva r_3.toNatClampNeg)) (x3 + (1 : Int32)) x4 (upd mtu r_3.toNatClampNeg ((mtu r_3.toNatClampNeg) - (1 : Int32))) mst mja_7 (upd mbk (2 : Int32).toNatClampNeg ((mbk (2 : Int32).toNatClampNeg) + (mva r_3.toNatClampNeg))) mrs mrk mfe (upd mus r_3.toNatClampNeg ((mus r_3.toNatClampNeg) - (1 : Int32))) (upd mgi r_3.toNatClampNeg ((mgi r_3.toNatClampNeg) + (1 : Int32)))))))))))))))) ∧ (mja r_3.toNatClampNeg = 0 → (vp_in r_3 6 ∧ (vp_in r_3 6 ∧ wp_X6_findWay x2 mnk mva mno mtu (upd mst r_3.toNatClampNeg (1 : Int32)) mmo mrs mrk mfe mus (fun (r_23 : Int32) (mrs_23 : Int32) (mrk_23 : Nat → Int32) (mfe_23 : Nat → Int32) (mus_23 : Nat → Int32) => wp_X6_gives_32 mnk mva mno mmo K X n x2 x3 r_23 mtu (upd mst r_3.toNatClampNeg (1 : Int32)) (upd mja r_3.toNatClampNeg (-1 : Int32)) mbk mrs_23 mrk_23 mfe_23 mus_23 mgi)))))))))))
set_option maxRecDepth 20000 in
def wp_X6_gives (x1 : Int32) (mnk : Int32) (mva : Nat → Int32) (mno : Nat → Int32) (mtu : Nat → Int32) (mst : Nat → Int32) (mja : Nat → Int32) (mow : Int32) (mmo : Int32) (mbk : Nat → Int32) (mrs : Int32) (mrk : Nat → Int32) (mfe : Nat → Int32) (mus : Nat → Int32) (mgi : Nat → Int32) (K : Int32 → (Nat → Int32) → (Nat → Int32) → (Nat → Int32) → Int32 → (Nat → Int32) → Int32 → (Nat → Int32) → (Nat → Int32) → (Nat → Int32) → (Nat → Int32) → Prop) : Prop :=
  ∃ n1 : Nat, wp_X6_gives_2 x1 K (fun (mgi_1 : Nat → Int32) => wp_X6_findWay x1 mnk mva mno mtu mst mmo mrs mrk mfe mus (fun (r_2 : Int32) (mrs_2 : Int32) (mrk_2 : Nat → Int32) (mfe_2 : Nat → Int32) (mus_2 : Nat → Int32) => ∃ n3 : Nat, wp_X6_gives_32 mnk mva mno mmo K (fun (x2_3 : Int32) (x3_3 : Int32) (mtu_3 : Nat → Int32) (mst_3 : Nat → Int32) (mja_3 : Nat → Int32) (mbk_3 : Nat → Int32) (mrs_3 : Int32) (mrk_3 : Nat → Int32) (mfe_3 : Nat → Int32) (mus_3 : Nat → Int32) (mgi_3 : Nat → Int32) => K x3_3 mtu_3 mst_3 mja_3 (mow + x2_3) mbk_3 mrs_3 mrk_3 mfe_3 mus_3 mgi_3) n3 x1 (0 : Int32) r_2 mtu mst mja mbk mrs_2 mrk_2 mfe_2 mus_2 mgi_1)) n1 (0 : Int32) mgi
theorem dX6_gives_0 : decode cX6_gives 0 = .ok (.iconst 0, 1) := by decide +kernel
theorem dX6_gives_1 : decode cX6_gives 1 = .ok (.istore_n 2, 1) := by decide +kernel
theorem dX6_gives_2 : decode cX6_gives 2 = .ok (.iload_n 2, 1) := by decide +kernel
theorem dX6_gives_3 : decode cX6_gives 3 = .ok (.bipush 6, 2) := by decide +kernel
theorem dX6_gives_5 : decode cX6_gives 5 = .ok (.if_icmp .ge 16, 3) := by decide +kernel
theorem dX6_gives_8 : decode cX6_gives 8 = .ok (.aload_n 0, 1) := by decide +kernel
theorem dX6_gives_9 : decode cX6_gives 9 = .ok (.getfield 57, 3) := by decide +kernel
theorem dX6_gives_12 : decode cX6_gives 12 = .ok (.iload_n 2, 1) := by decide +kernel
theorem dX6_gives_13 : decode cX6_gives 13 = .ok (.iconst 0, 1) := by decide +kernel
theorem dX6_gives_14 : decode cX6_gives 14 = .ok (.iastore, 1) := by decide +kernel
theorem dX6_gives_15 : decode cX6_gives 15 = .ok (.iinc 2 1, 3) := by decide +kernel
theorem dX6_gives_18 : decode cX6_gives 18 = .ok (.goto (-16), 3) := by decide +kernel
theorem dX6_gives_21 : decode cX6_gives 21 = .ok (.iload_n 1, 1) := by decide +kernel
theorem dX6_gives_22 : decode cX6_gives 22 = .ok (.istore_n 2, 1) := by decide +kernel
theorem dX6_gives_23 : decode cX6_gives 23 = .ok (.iconst 0, 1) := by decide +kernel
theorem dX6_gives_24 : decode cX6_gives 24 = .ok (.istore_n 3, 1) := by decide +kernel
theorem dX6_gives_25 : decode cX6_gives 25 = .ok (.aload_n 0, 1) := by decide +kernel
theorem dX6_gives_26 : decode cX6_gives 26 = .ok (.iload_n 2, 1) := by decide +kernel
theorem dX6_gives_27 : decode cX6_gives 27 = .ok (.invokevirtual 100, 3) := by decide +kernel
theorem dX6_gives_30 : decode cX6_gives 30 = .ok (.istore 4, 2) := by decide +kernel
theorem dX6_gives_32 : decode cX6_gives 32 = .ok (.iload 4, 2) := by decide +kernel
theorem dX6_gives_34 : decode cX6_gives 34 = .ok (.ifCond .eq 160, 3) := by decide +kernel
theorem dX6_gives_37 : decode cX6_gives 37 = .ok (.iload_n 2, 1) := by decide +kernel
theorem dX6_gives_38 : decode cX6_gives 38 = .ok (.ifCond .le 156, 3) := by decide +kernel
theorem dX6_gives_41 : decode cX6_gives 41 = .ok (.aload_n 0, 1) := by decide +kernel
theorem dX6_gives_42 : decode cX6_gives 42 = .ok (.invokevirtual 114, 3) := by decide +kernel
theorem dX6_gives_45 : decode cX6_gives 45 = .ok (.istore 5, 2) := by decide +kernel
theorem dX6_gives_47 : decode cX6_gives 47 = .ok (.aload_n 0, 1) := by decide +kernel
theorem dX6_gives_48 : decode cX6_gives 48 = .ok (.getfield 29, 3) := by decide +kernel
theorem dX6_gives_51 : decode cX6_gives 51 = .ok (.iload 5, 2) := by decide +kernel
theorem dX6_gives_53 : decode cX6_gives 53 = .ok (.iaload, 1) := by decide +kernel
theorem dX6_gives_54 : decode cX6_gives 54 = .ok (.ifCond .ne 29, 3) := by decide +kernel
theorem dX6_gives_57 : decode cX6_gives 57 = .ok (.aload_n 0, 1) := by decide +kernel
theorem dX6_gives_58 : decode cX6_gives 58 = .ok (.getfield 26, 3) := by decide +kernel
theorem dX6_gives_61 : decode cX6_gives 61 = .ok (.iload 5, 2) := by decide +kernel
theorem dX6_gives_63 : decode cX6_gives 63 = .ok (.iconst 1, 1) := by decide +kernel
theorem dX6_gives_64 : decode cX6_gives 64 = .ok (.bastore, 1) := by decide +kernel
theorem dX6_gives_65 : decode cX6_gives 65 = .ok (.aload_n 0, 1) := by decide +kernel
theorem dX6_gives_66 : decode cX6_gives 66 = .ok (.getfield 29, 3) := by decide +kernel
theorem dX6_gives_69 : decode cX6_gives 69 = .ok (.iload 5, 2) := by decide +kernel
theorem dX6_gives_71 : decode cX6_gives 71 = .ok (.iconst (-1), 1) := by decide +kernel
theorem dX6_gives_72 : decode cX6_gives 72 = .ok (.iastore, 1) := by decide +kernel
theorem dX6_gives_73 : decode cX6_gives 73 = .ok (.aload_n 0, 1) := by decide +kernel
theorem dX6_gives_74 : decode cX6_gives 74 = .ok (.iload_n 2, 1) := by decide +kernel
theorem dX6_gives_75 : decode cX6_gives 75 = .ok (.invokevirtual 100, 3) := by decide +kernel
theorem dX6_gives_78 : decode cX6_gives 78 = .ok (.istore 4, 2) := by decide +kernel
theorem dX6_gives_80 : decode cX6_gives 80 = .ok (.goto (-48), 3) := by decide +kernel
theorem dX6_gives_83 : decode cX6_gives 83 = .ok (.aload_n 0, 1) := by decide +kernel
theorem dX6_gives_84 : decode cX6_gives 84 = .ok (.getfield 29, 3) := by decide +kernel
theorem dX6_gives_87 : decode cX6_gives 87 = .ok (.iload 5, 2) := by decide +kernel
theorem dX6_gives_89 : decode cX6_gives 89 = .ok (.iaload, 1) := by decide +kernel
theorem dX6_gives_90 : decode cX6_gives 90 = .ok (.ifCond .le 19, 3) := by decide +kernel
theorem dX6_gives_93 : decode cX6_gives 93 = .ok (.aload_n 0, 1) := by decide +kernel
theorem dX6_gives_94 : decode cX6_gives 94 = .ok (.getfield 29, 3) := by decide +kernel
theorem dX6_gives_97 : decode cX6_gives 97 = .ok (.iload 5, 2) := by decide +kernel
theorem dX6_gives_99 : decode cX6_gives 99 = .ok (.aload_n 0, 1) := by decide +kernel
theorem dX6_gives_100 : decode cX6_gives 100 = .ok (.getfield 29, 3) := by decide +kernel
theorem dX6_gives_103 : decode cX6_gives 103 = .ok (.iload 5, 2) := by decide +kernel
theorem dX6_gives_105 : decode cX6_gives 105 = .ok (.iaload, 1) := by decide +kernel
theorem dX6_gives_106 : decode cX6_gives 106 = .ok (.iconst 1, 1) := by decide +kernel
theorem dX6_gives_107 : decode cX6_gives 107 = .ok (.isub, 1) := by decide +kernel
theorem dX6_gives_108 : decode cX6_gives 108 = .ok (.iastore, 1) := by decide +kernel
theorem dX6_gives_109 : decode cX6_gives 109 = .ok (.aload_n 0, 1) := by decide +kernel
theorem dX6_gives_110 : decode cX6_gives 110 = .ok (.getfield 54, 3) := by decide +kernel
theorem dX6_gives_113 : decode cX6_gives 113 = .ok (.iload 5, 2) := by decide +kernel
theorem dX6_gives_115 : decode cX6_gives 115 = .ok (.aload_n 0, 1) := by decide +kernel
theorem dX6_gives_116 : decode cX6_gives 116 = .ok (.getfield 54, 3) := by decide +kernel
theorem dX6_gives_119 : decode cX6_gives 119 = .ok (.iload 5, 2) := by decide +kernel
theorem dX6_gives_121 : decode cX6_gives 121 = .ok (.iaload, 1) := by decide +kernel
theorem dX6_gives_122 : decode cX6_gives 122 = .ok (.iconst 1, 1) := by decide +kernel
theorem dX6_gives_123 : decode cX6_gives 123 = .ok (.isub, 1) := by decide +kernel
theorem dX6_gives_124 : decode cX6_gives 124 = .ok (.iastore, 1) := by decide +kernel
theorem dX6_gives_125 : decode cX6_gives 125 = .ok (.aload_n 0, 1) := by decide +kernel
theorem dX6_gives_126 : decode cX6_gives 126 = .ok (.getfield 20, 3) := by decide +kernel
theorem dX6_gives_129 : decode cX6_gives 129 = .ok (.iload 5, 2) := by decide +kernel
theorem dX6_gives_131 : decode cX6_gives 131 = .ok (.aload_n 0, 1) := by decide +kernel
theorem dX6_gives_132 : decode cX6_gives 132 = .ok (.getfield 20, 3) := by decide +kernel
theorem dX6_gives_135 : decode cX6_gives 135 = .ok (.iload 5, 2) := by decide +kernel
theorem dX6_gives_137 : decode cX6_gives 137 = .ok (.iaload, 1) := by decide +kernel
theorem dX6_gives_138 : decode cX6_gives 138 = .ok (.iconst 1, 1) := by decide +kernel
theorem dX6_gives_139 : decode cX6_gives 139 = .ok (.isub, 1) := by decide +kernel
theorem dX6_gives_140 : decode cX6_gives 140 = .ok (.iastore, 1) := by decide +kernel
theorem dX6_gives_141 : decode cX6_gives 141 = .ok (.aload_n 0, 1) := by decide +kernel
theorem dX6_gives_142 : decode cX6_gives 142 = .ok (.getfield 57, 3) := by decide +kernel
theorem dX6_gives_145 : decode cX6_gives 145 = .ok (.iload 5, 2) := by decide +kernel
theorem dX6_gives_147 : decode cX6_gives 147 = .ok (.aload_n 0, 1) := by decide +kernel
theorem dX6_gives_148 : decode cX6_gives 148 = .ok (.getfield 57, 3) := by decide +kernel
theorem dX6_gives_151 : decode cX6_gives 151 = .ok (.iload 5, 2) := by decide +kernel
theorem dX6_gives_153 : decode cX6_gives 153 = .ok (.iaload, 1) := by decide +kernel
theorem dX6_gives_154 : decode cX6_gives 154 = .ok (.iconst 1, 1) := by decide +kernel
theorem dX6_gives_155 : decode cX6_gives 155 = .ok (.iadd, 1) := by decide +kernel
theorem dX6_gives_156 : decode cX6_gives 156 = .ok (.iastore, 1) := by decide +kernel
theorem dX6_gives_157 : decode cX6_gives 157 = .ok (.iload_n 2, 1) := by decide +kernel
theorem dX6_gives_158 : decode cX6_gives 158 = .ok (.aload_n 0, 1) := by decide +kernel
theorem dX6_gives_159 : decode cX6_gives 159 = .ok (.getfield 7, 3) := by decide +kernel
theorem dX6_gives_162 : decode cX6_gives 162 = .ok (.iload 5, 2) := by decide +kernel
theorem dX6_gives_164 : decode cX6_gives 164 = .ok (.iaload, 1) := by decide +kernel
theorem dX6_gives_165 : decode cX6_gives 165 = .ok (.isub, 1) := by decide +kernel
theorem dX6_gives_166 : decode cX6_gives 166 = .ok (.istore_n 2, 1) := by decide +kernel
theorem dX6_gives_167 : decode cX6_gives 167 = .ok (.aload_n 0, 1) := by decide +kernel
theorem dX6_gives_168 : decode cX6_gives 168 = .ok (.getfield 39, 3) := by decide +kernel
theorem dX6_gives_171 : decode cX6_gives 171 = .ok (.iconst 2, 1) := by decide +kernel
theorem dX6_gives_172 : decode cX6_gives 172 = .ok (.aload_n 0, 1) := by decide +kernel
theorem dX6_gives_173 : decode cX6_gives 173 = .ok (.getfield 39, 3) := by decide +kernel
theorem dX6_gives_176 : decode cX6_gives 176 = .ok (.iconst 2, 1) := by decide +kernel
theorem dX6_gives_177 : decode cX6_gives 177 = .ok (.iaload, 1) := by decide +kernel
theorem dX6_gives_178 : decode cX6_gives 178 = .ok (.aload_n 0, 1) := by decide +kernel
theorem dX6_gives_179 : decode cX6_gives 179 = .ok (.getfield 7, 3) := by decide +kernel
theorem dX6_gives_182 : decode cX6_gives 182 = .ok (.iload 5, 2) := by decide +kernel
theorem dX6_gives_184 : decode cX6_gives 184 = .ok (.iaload, 1) := by decide +kernel
theorem dX6_gives_185 : decode cX6_gives 185 = .ok (.iadd, 1) := by decide +kernel
theorem dX6_gives_186 : decode cX6_gives 186 = .ok (.iastore, 1) := by decide +kernel
theorem dX6_gives_187 : decode cX6_gives 187 = .ok (.iload_n 3, 1) := by decide +kernel
theorem dX6_gives_188 : decode cX6_gives 188 = .ok (.iconst 1, 1) := by decide +kernel
theorem dX6_gives_189 : decode cX6_gives 189 = .ok (.iadd, 1) := by decide +kernel
theorem dX6_gives_190 : decode cX6_gives 190 = .ok (.istore_n 3, 1) := by decide +kernel
theorem dX6_gives_191 : decode cX6_gives 191 = .ok (.goto (-159), 3) := by decide +kernel
theorem dX6_gives_194 : decode cX6_gives 194 = .ok (.aload_n 0, 1) := by decide +kernel
theorem dX6_gives_195 : decode cX6_gives 195 = .ok (.aload_n 0, 1) := by decide +kernel
theorem dX6_gives_196 : decode cX6_gives 196 = .ok (.getfield 117, 3) := by decide +kernel
theorem dX6_gives_199 : decode cX6_gives 199 = .ok (.iload_n 2, 1) := by decide +kernel
theorem dX6_gives_200 : decode cX6_gives 200 = .ok (.iadd, 1) := by decide +kernel
theorem dX6_gives_201 : decode cX6_gives 201 = .ok (.putfield 117, 3) := by decide +kernel
theorem dX6_gives_204 : decode cX6_gives 204 = .ok (.iload_n 3, 1) := by decide +kernel
theorem dX6_gives_205 : decode cX6_gives 205 = .ok (.ireturn, 1) := by decide +kernel
set_option maxRecDepth 20000 in
set_option maxHeartbeats 4000000 in
theorem wk_X6_gives_2 {Γ : GT} {a : Nat → Nat} {q : Nat → ClassId} {x1 : Int32}  {mtd : Int32} {mnk : Int32} {mva : Nat → Int32} {mno : Nat → Int32} {mro : Nat → Int32} {mtu : Nat → Int32} {mbx : Nat → Int32} {mst : Nat → Int32} {mja : Nat → Int32} {mpr : Nat → Int32} {mcr : Int32} {mow : Int32} {mhd : Int32} {mmo : Int32} {mbk : Nat → Int32} {mca : Nat → Int32} {mfr : Nat → Int32} {mrs : Int32} {mrk : Nat → Int32} {mfe : Nat → Int32} {mus : Nat → Int32} {maj : Nat → Int32} {K : Int32 → (Nat → Int32) → (Nat → Int32) → (Nat → Int32) → Int32 → (Nat → Int32) → Int32 → (Nat → Int32) → (Nat → Int32) → (Nat → Int32) → (Nat → Int32) → Prop} {X : (Nat → Int32) → Prop} (g : gd Γ cX6_gives RX6 6 (rmz 4 92) q) (hret : rtI_10 Γ cX6_gives 6 (fun (mtu : Nat → Int32) (mst : Nat → Int32) (mja : Nat → Int32) (mow : Int32) (mbk : Nat → Int32) (mrs : Int32) (mrk : Nat → Int32) (mfe : Nat → Int32) (mus : Nat → Int32) (mgi : Nat → Int32) => (mdW a q mtd mnk mva mno mro mtu mbx mst mja mpr mcr mow mhd mmo mbk mca mfr mrs mrk mfe mus mgi maj)) K) (hX : ∀ (mgi : Nat → Int32) , X mgi → jw Γ 6 0 0 (mdW a q mtd mnk mva mno mro mtu mbx mst mja mpr mcr mow mhd mmo mbk mca mfr mrs mrk mfe mus mgi maj) [(0, .ref (a 0)), (1, .int x1)] [] 21) :
    ∀ (n : Nat) (x2 : Int32) (mgi : Nat → Int32) , wp_X6_gives_2 x1 K X n x2 mgi → jw Γ 6 0 0 (mdW a q mtd mnk mva mno mro mtu mbx mst mja mpr mcr mow mhd mmo mbk mca mfr mrs mrk mfe mus mgi maj) [(0, .ref (a 0)), (1, .int x1), (2, .int x2)] [] 2 := by
  intro n
  induction n with
  | zero =>
    intro _ _ h
    exact False.elim h
  | succ n ih =>
    intro x2 mgi h
    unfold wp_X6_gives_2 at h
    refine j_iload_n g 2 rfl dX6_gives_2 ?_
    refine j_bipush g (v := 6) (by decide) dX6_gives_3 ?_
    refine j_icmp_ge g dX6_gives_5 (tgt := 21) (by decide) (fun c1 => ?_) (fun c1 => ?_)
    · replace h := h.1 c1
      refine j_sub [0, 1] rfl ?_
      exact hX mgi h
    replace h := h.2 c1
    refine j_aload_n g 0 rfl dX6_gives_8 ?_
    refine j_get g fl_X6_57 0 md_0 rfl dX6_gives_9 ?_
    refine j_iload_n g 2 rfl dX6_gives_12 ?_
    refine j_iconst g (v := 0) (by decide) dX6_gives_13 ?_
    obtain ⟨hv2, h⟩ := h
    refine j_iast g 15 md_15 hv2 (ws' := (mdW a q mtd mnk mva mno mro mtu mbx mst mja mpr mcr mow mhd mmo mbk mca mfr mrs mrk mfe mus (upd mgi x2.toNatClampNeg (0 : Int32)) maj)) rfl dX6_gives_14 ?_
    refine j_iinc g 2 (n := 1) (v := x2 + 1) (lv' := [(2, .int (x2 + 1)), (0, .ref (a 0)), (1, .int x1)]) rfl rfl (by decide) rfl dX6_gives_15 ?_
    refine j_goto g dX6_gives_18 (tgt := 2) (by decide) ?_
    refine j_sub [1, 2, 0] rfl ?_
    exact ih (x2 + 1) (upd mgi x2.toNatClampNeg (0 : Int32)) h
set_option maxRecDepth 20000 in
set_option maxHeartbeats 4000000 in
theorem wk_X6_gives_32 {Γ : GT} {a : Nat → Nat} {q : Nat → ClassId}   {mtd : Int32} {mnk : Int32} {mva : Nat → Int32} {mno : Nat → Int32} {mro : Nat → Int32} {mbx : Nat → Int32} {mpr : Nat → Int32} {mcr : Int32} {mow : Int32} {mhd : Int32} {mmo : Int32} {mca : Nat → Int32} {mfr : Nat → Int32} {maj : Nat → Int32} {K : Int32 → (Nat → Int32) → (Nat → Int32) → (Nat → Int32) → Int32 → (Nat → Int32) → Int32 → (Nat → Int32) → (Nat → Int32) → (Nat → Int32) → (Nat → Int32) → Prop} {X : Int32 → Int32 → (Nat → Int32) → (Nat → Int32) → (Nat → Int32) → (Nat → Int32) → Int32 → (Nat → Int32) → (Nat → Int32) → (Nat → Int32) → (Nat → Int32) → Prop} (g : gd Γ cX6_gives RX6 6 (rmz 4 92) q) (hret : rtI_10 Γ cX6_gives 6 (fun (mtu : Nat → Int32) (mst : Nat → Int32) (mja : Nat → Int32) (mow : Int32) (mbk : Nat → Int32) (mrs : Int32) (mrk : Nat → Int32) (mfe : Nat → Int32) (mus : Nat → Int32) (mgi : Nat → Int32) => (mdW a q mtd mnk mva mno mro mtu mbx mst mja mpr mcr mow mhd mmo mbk mca mfr mrs mrk mfe mus mgi maj)) K) (hX : ∀ (x2 : Int32) (x3 : Int32) (mtu : Nat → Int32) (mst : Nat → Int32) (mja : Nat → Int32) (mbk : Nat → Int32) (mrs : Int32) (mrk : Nat → Int32) (mfe : Nat → Int32) (mus : Nat → Int32) (mgi : Nat → Int32) , X x2 x3 mtu mst mja mbk mrs mrk mfe mus mgi → jw Γ 6 0 0 (mdW a q mtd mnk mva mno mro mtu mbx mst mja mpr mcr mow mhd mmo mbk mca mfr mrs mrk mfe mus mgi maj) [(0, .ref (a 0)), (2, .int x2), (3, .int x3)] [] 194) :
    ∀ (n : Nat) (x2 : Int32) (x3 : Int32) (x4 : Int32) (mtu : Nat → Int32) (mst : Nat → Int32) (mja : Nat → Int32) (mbk : Nat → Int32) (mrs : Int32) (mrk : Nat → Int32) (mfe : Nat → Int32) (mus : Nat → Int32) (mgi : Nat → Int32) , wp_X6_gives_32 mnk mva mno mmo K X n x2 x3 x4 mtu mst mja mbk mrs mrk mfe mus mgi → jw Γ 6 0 0 (mdW a q mtd mnk mva mno mro mtu mbx mst mja mpr mcr mow mhd mmo mbk mca mfr mrs mrk mfe mus mgi maj) [(0, .ref (a 0)), (2, .int x2), (3, .int x3), (4, .int x4)] [] 32 := by
  intro n
  induction n with
  | zero =>
    intro _ _ _ _ _ _ _ _ _ _ _ _ h
    exact False.elim h
  | succ n ih =>
    intro x2 x3 x4 mtu mst mja mbk mrs mrk mfe mus mgi h
    unfold wp_X6_gives_32 at h
    refine j_iload g 3 rfl dX6_gives_32 ?_
    refine j_if_eq g dX6_gives_34 (tgt := 194) (by decide) (fun c1 => ?_) (fun c1 => ?_)
    · replace h := h.1 c1
      refine j_sub [0, 1, 2] rfl ?_
      exact hX x2 x3 mtu mst mja mbk mrs mrk mfe mus mgi h
    replace h := h.2 c1
    refine j_iload_n g 1 rfl dX6_gives_37 ?_
    refine j_if_le g dX6_gives_38 (tgt := 194) (by decide) (fun c2 => ?_) (fun c2 => ?_)
    · replace h := h.1 c2
      refine j_sub [0, 1, 2] rfl ?_
      exact hX x2 x3 mtu mst mja mbk mrs mrk mfe mus mgi h
    replace h := h.2 c2
    refine j_aload_n g 0 rfl dX6_gives_41 ?_
    refine j_callVI_0 g (As := []) (st := []) (c_X6_nextUsed  h) cl_X6_114 0 6 md_0 rfl rfl (Nat.le_of_ble_eq_true rfl) (Nat.le_of_ble_eq_true rfl) (Nat.zero_le _) (Nat.zero_le _) rfl rfl (Nat.le_of_ble_eq_true rfl) dX6_gives_42 (fun r_3   h => ?_)
    refine j_istore g (lv' := [(5, .int r_3), (0, .ref (a 0)), (2, .int x2), (3, .int x3), (4, .int x4)]) (by decide) rfl dX6_gives_45 ?_
    refine j_aload_n g 1 rfl dX6_gives_47 ?_
    refine j_get g fl_X6_29 0 md_0 rfl dX6_gives_48 ?_
    refine j_iload g 0 rfl dX6_gives_51 ?_
    obtain ⟨hv4, h⟩ := h
    refine j_iald g 7 md_7 hv4 dX6_gives_53 ?_
    refine j_if_ne g dX6_gives_54 (tgt := 83) (by decide) (fun c5 => ?_) (fun c5 => ?_)
    rotate_left
    · replace h := h.2 c5
      refine j_aload_n g 1 rfl dX6_gives_57 ?_
      refine j_get g fl_X6_26 0 md_0 rfl dX6_gives_58 ?_
      refine j_iload g 0 rfl dX6_gives_61 ?_
      refine j_iconst g (v := 1) (by decide) dX6_gives_63 ?_
      obtain ⟨hv21, h⟩ := h
      refine j_zast g 6 md_6 hv21 (nz_v (Or.inr rfl)) (ws' := (mdW a q mtd mnk mva mno mro mtu mbx (upd mst r_3.toNatClampNeg (1 : Int32)) mja mpr mcr mow mhd mmo mbk mca mfr mrs mrk mfe mus mgi maj)) rfl dX6_gives_64 ?_
      refine j_aload_n g 1 rfl dX6_gives_65 ?_
      refine j_get g fl_X6_29 0 md_0 rfl dX6_gives_66 ?_
      refine j_iload g 0 rfl dX6_gives_69 ?_
      refine j_iconst g (v := -1) (by decide) dX6_gives_71 ?_
      obtain ⟨hv22, h⟩ := h
      refine j_iast g 7 md_7 hv22 (ws' := (mdW a q mtd mnk mva mno mro mtu mbx (upd mst r_3.toNatClampNeg (1 : Int32)) (upd mja r_3.toNatClampNeg (-1 : Int32)) mpr mcr mow mhd mmo mbk mca mfr mrs mrk mfe mus mgi maj)) rfl dX6_gives_72 ?_
      refine j_aload_n g 1 rfl dX6_gives_73 ?_
      refine j_iload_n g 2 rfl dX6_gives_74 ?_
      refine j_callVZ_4 g (As := [.int x2]) (st := []) (c_X6_findWay  h) cl_X6_100 0 6 md_0 rfl rfl (Nat.le_of_ble_eq_true rfl) (Nat.le_of_ble_eq_true rfl) (Nat.zero_le _) (Nat.zero_le _) rfl rfl (Nat.le_of_ble_eq_true rfl) dX6_gives_75 (fun r_23 mrs_23 mrk_23 mfe_23 mus_23 hz_23 h => ?_)
      refine j_ws (ws' := (mdW a q mtd mnk mva mno mro mtu mbx (upd mst r_3.toNatClampNeg (1 : Int32)) (upd mja r_3.toNatClampNeg (-1 : Int32)) mpr mcr mow mhd mmo mbk mca mfr mrs_23 mrk_23 mfe_23 mus_23 mgi maj)) rfl ?_
      refine j_istore g (lv' := [(4, .int r_23), (5, .int r_3), (0, .ref (a 0)), (2, .int x2), (3, .int x3)]) (by decide) rfl dX6_gives_78 ?_
      refine j_goto g dX6_gives_80 (tgt := 32) (by decide) ?_
      refine j_sub [2, 3, 4, 0] rfl ?_
      exact ih x2 x3 r_23 mtu (upd mst r_3.toNatClampNeg (1 : Int32)) (upd mja r_3.toNatClampNeg (-1 : Int32)) mbk mrs_23 mrk_23 mfe_23 mus_23 mgi h
    replace h := h.1 c5
    refine j_aload_n g 1 rfl dX6_gives_83 ?_
    refine j_get g fl_X6_29 0 md_0 rfl dX6_gives_84 ?_
    refine j_iload g 0 rfl dX6_gives_87 ?_
    obtain ⟨hv6, h⟩ := h
    refine j_iald g 7 md_7 hv6 dX6_gives_89 ?_
    refine jn_cut h (fun Z7 eZ7 h => ?_)
    have hZ7 : ∀ (mja_7 : Nat → Int32), Z7 mja_7 → jw Γ 6 0 0 (mdW a q mtd mnk mva mno mro mtu mbx mst mja_7 mpr mcr mow mhd mmo mbk mca mfr mrs mrk mfe mus mgi maj) [(0, .ref (a 0)), (2, .int x2), (3, .int x3), (4, .int x4), (5, .int r_3)] [] 109 := by
      intro mja_7 h
      rw [eZ7] at h
      refine j_aload_n g 0 rfl dX6_gives_109 ?_
      refine j_get g fl_X6_54 0 md_0 rfl dX6_gives_110 ?_
      refine j_iload g 4 rfl dX6_gives_113 ?_
      refine j_aload_n g 0 rfl dX6_gives_115 ?_
      refine j_get g fl_X6_54 0 md_0 rfl dX6_gives_116 ?_
      refine j_iload g 4 rfl dX6_gives_119 ?_
      obtain ⟨hv8, h⟩ := h
      refine j_iald g 14 md_14 hv8 dX6_gives_121 ?_
      refine j_iconst g (v := 1) (by decide) dX6_gives_122 ?_
      refine j_isub g dX6_gives_123 ?_
      obtain ⟨hv9, h⟩ := h
      refine j_iast g 14 md_14 hv9 (ws' := (mdW a q mtd mnk mva mno mro mtu mbx mst mja_7 mpr mcr mow mhd mmo mbk mca mfr mrs mrk mfe (upd mus r_3.toNatClampNeg ((mus r_3.toNatClampNeg) - (1 : Int32))) mgi maj)) rfl dX6_gives_124 ?_
      refine j_aload_n g 0 rfl dX6_gives_125 ?_
      refine j_get g fl_X6_20 0 md_0 rfl dX6_gives_126 ?_
      refine j_iload g 4 rfl dX6_gives_129 ?_
      refine j_aload_n g 0 rfl dX6_gives_131 ?_
      refine j_get g fl_X6_20 0 md_0 rfl dX6_gives_132 ?_
      refine j_iload g 4 rfl dX6_gives_135 ?_
      obtain ⟨hv10, h⟩ := h
      refine j_iald g 4 md_4 hv10 dX6_gives_137 ?_
      refine j_iconst g (v := 1) (by decide) dX6_gives_138 ?_
      refine j_isub g dX6_gives_139 ?_
      obtain ⟨hv11, h⟩ := h
      refine j_iast g 4 md_4 hv11 (ws' := (mdW a q mtd mnk mva mno mro (upd mtu r_3.toNatClampNeg ((mtu r_3.toNatClampNeg) - (1 : Int32))) mbx mst mja_7 mpr mcr mow mhd mmo mbk mca mfr mrs mrk mfe (upd mus r_3.toNatClampNeg ((mus r_3.toNatClampNeg) - (1 : Int32))) mgi maj)) rfl dX6_gives_140 ?_
      refine j_aload_n g 0 rfl dX6_gives_141 ?_
      refine j_get g fl_X6_57 0 md_0 rfl dX6_gives_142 ?_
      refine j_iload g 4 rfl dX6_gives_145 ?_
      refine j_aload_n g 0 rfl dX6_gives_147 ?_
      refine j_get g fl_X6_57 0 md_0 rfl dX6_gives_148 ?_
      refine j_iload g 4 rfl dX6_gives_151 ?_
      obtain ⟨hv12, h⟩ := h
      refine j_iald g 15 md_15 hv12 dX6_gives_153 ?_
      refine j_iconst g (v := 1) (by decide) dX6_gives_154 ?_
      refine j_iadd g dX6_gives_155 ?_
      obtain ⟨hv13, h⟩ := h
      refine j_iast g 15 md_15 hv13 (ws' := (mdW a q mtd mnk mva mno mro (upd mtu r_3.toNatClampNeg ((mtu r_3.toNatClampNeg) - (1 : Int32))) mbx mst mja_7 mpr mcr mow mhd mmo mbk mca mfr mrs mrk mfe (upd mus r_3.toNatClampNeg ((mus r_3.toNatClampNeg) - (1 : Int32))) (upd mgi r_3.toNatClampNeg ((mgi r_3.toNatClampNeg) + (1 : Int32))) maj)) rfl dX6_gives_156 ?_
      refine j_iload_n g 1 rfl dX6_gives_157 ?_
      refine j_aload_n g 0 rfl dX6_gives_158 ?_
      refine j_get g fl_X6_7 0 md_0 rfl dX6_gives_159 ?_
      refine j_iload g 4 rfl dX6_gives_162 ?_
      obtain ⟨hv14, h⟩ := h
      refine j_iald g 1 md_1 hv14 dX6_gives_164 ?_
      refine j_isub g dX6_gives_165 ?_
      refine j_istore_n g (lv' := [(2, .int (x2 - (mva r_3.toNatClampNeg))), (0, .ref (a 0)), (3, .int x3), (4, .int x4), (5, .int r_3)]) (by decide) rfl dX6_gives_166 ?_
      refine j_aload_n g 1 rfl dX6_gives_167 ?_
      refine j_get g fl_X6_39 0 md_0 rfl dX6_gives_168 ?_
      refine j_iconst g (v := 2) (by decide) dX6_gives_171 ?_
      refine j_aload_n g 1 rfl dX6_gives_172 ?_
      refine j_get g fl_X6_39 0 md_0 rfl dX6_gives_173 ?_
      refine j_iconst g (v := 2) (by decide) dX6_gives_176 ?_
      obtain ⟨hv15, h⟩ := h
      refine j_iald g 9 md_9 hv15 dX6_gives_177 ?_
      refine j_aload_n g 1 rfl dX6_gives_178 ?_
      refine j_get g fl_X6_7 0 md_0 rfl dX6_gives_179 ?_
      refine j_iload g 4 rfl dX6_gives_182 ?_
      obtain ⟨hv16, h⟩ := h
      refine j_iald g 1 md_1 hv16 dX6_gives_184 ?_
      refine j_iadd g dX6_gives_185 ?_
      obtain ⟨hv17, h⟩ := h
      refine j_iast g 9 md_9 hv17 (ws' := (mdW a q mtd mnk mva mno mro (upd mtu r_3.toNatClampNeg ((mtu r_3.toNatClampNeg) - (1 : Int32))) mbx mst mja_7 mpr mcr mow mhd mmo (upd mbk (2 : Int32).toNatClampNeg ((mbk (2 : Int32).toNatClampNeg) + (mva r_3.toNatClampNeg))) mca mfr mrs mrk mfe (upd mus r_3.toNatClampNeg ((mus r_3.toNatClampNeg) - (1 : Int32))) (upd mgi r_3.toNatClampNeg ((mgi r_3.toNatClampNeg) + (1 : Int32))) maj)) rfl dX6_gives_186 ?_
      refine j_iload_n g 2 rfl dX6_gives_187 ?_
      refine j_iconst g (v := 1) (by decide) dX6_gives_188 ?_
      refine j_iadd g dX6_gives_189 ?_
      refine j_istore_n g (lv' := [(3, .int (x3 + (1 : Int32))), (2, .int (x2 - (mva r_3.toNatClampNeg))), (0, .ref (a 0)), (4, .int x4), (5, .int r_3)]) (by decide) rfl dX6_gives_190 ?_
      refine j_goto g dX6_gives_191 (tgt := 32) (by decide) ?_
      refine j_sub [2, 1, 0, 3] rfl ?_
      exact ih (x2 - (mva r_3.toNatClampNeg)) (x3 + (1 : Int32)) x4 (upd mtu r_3.toNatClampNeg ((mtu r_3.toNatClampNeg) - (1 : Int32))) mst mja_7 (upd mbk (2 : Int32).toNatClampNeg ((mbk (2 : Int32).toNatClampNeg) + (mva r_3.toNatClampNeg))) mrs mrk mfe (upd mus r_3.toNatClampNeg ((mus r_3.toNatClampNeg) - (1 : Int32))) (upd mgi r_3.toNatClampNeg ((mgi r_3.toNatClampNeg) + (1 : Int32))) h
    refine j_if_le g dX6_gives_90 (tgt := 109) (by decide) (fun c18 => ?_) (fun c18 => ?_)
    · replace h := h.1 c18
      refine j_sub [1, 2, 3, 4, 0] rfl ?_
      exact hZ7 mja h
    replace h := h.2 c18
    refine j_aload_n g 1 rfl dX6_gives_93 ?_
    refine j_get g fl_X6_29 0 md_0 rfl dX6_gives_94 ?_
    refine j_iload g 0 rfl dX6_gives_97 ?_
    refine j_aload_n g 1 rfl dX6_gives_99 ?_
    refine j_get g fl_X6_29 0 md_0 rfl dX6_gives_100 ?_
    refine j_iload g 0 rfl dX6_gives_103 ?_
    obtain ⟨hv19, h⟩ := h
    refine j_iald g 7 md_7 hv19 dX6_gives_105 ?_
    refine j_iconst g (v := 1) (by decide) dX6_gives_106 ?_
    refine j_isub g dX6_gives_107 ?_
    obtain ⟨hv20, h⟩ := h
    refine j_iast g 7 md_7 hv20 (ws' := (mdW a q mtd mnk mva mno mro mtu mbx mst (upd mja r_3.toNatClampNeg ((mja r_3.toNatClampNeg) - (1 : Int32))) mpr mcr mow mhd mmo mbk mca mfr mrs mrk mfe mus mgi maj)) rfl dX6_gives_108 ?_
    refine j_sub [1, 2, 3, 4, 0] rfl ?_
    exact hZ7 (upd mja r_3.toNatClampNeg ((mja r_3.toNatClampNeg) - (1 : Int32))) h
set_option maxRecDepth 20000 in
set_option maxHeartbeats 4000000 in
theorem c_X6_gives {a : Nat → Nat} {q : Nat → ClassId} {x1 : Int32}  {mtd : Int32} {mnk : Int32} {mva : Nat → Int32} {mno : Nat → Int32} {mro : Nat → Int32} {mtu : Nat → Int32} {mbx : Nat → Int32} {mst : Nat → Int32} {mja : Nat → Int32} {mpr : Nat → Int32} {mcr : Int32} {mow : Int32} {mhd : Int32} {mmo : Int32} {mbk : Nat → Int32} {mca : Nat → Int32} {mfr : Nat → Int32} {mrs : Int32} {mrk : Nat → Int32} {mfe : Nat → Int32} {mus : Nat → Int32} {mgi : Nat → Int32} {maj : Nat → Int32} {K : Int32 → (Nat → Int32) → (Nat → Int32) → (Nat → Int32) → Int32 → (Nat → Int32) → Int32 → (Nat → Int32) → (Nat → Int32) → (Nat → Int32) → (Nat → Int32) → Prop} (h : wp_X6_gives x1 mnk mva mno mtu mst mja mow mmo mbk mrs mrk mfe mus mgi K) : ctI_10 q yX6_gives cX6_gives 6 4 92 [.ref (a 0), .int x1] (mdW a q mtd mnk mva mno mro mtu mbx mst mja mpr mcr mow mhd mmo mbk mca mfr mrs mrk mfe mus mgi maj) (fun (mtu : Nat → Int32) (mst : Nat → Int32) (mja : Nat → Int32) (mow : Int32) (mbk : Nat → Int32) (mrs : Int32) (mrk : Nat → Int32) (mfe : Nat → Int32) (mus : Nat → Int32) (mgi : Nat → Int32) => (mdW a q mtd mnk mva mno mro mtu mbx mst mja mpr mcr mow mhd mmo mbk mca mfr mrs mrk mfe mus mgi maj)) K := by
  refine met_I_10 (by decide) (Nat.le_of_ble_eq_true rfl) (fun Γ g hret => ?_)
  unfold wp_X6_gives at h
  show jw Γ 6 0 0 (mdW a q mtd mnk mva mno mro mtu mbx mst mja mpr mcr mow mhd mmo mbk mca mfr mrs mrk mfe mus mgi maj) [(0, .ref (a 0)), (1, .int x1)] [] 0
  refine j_iconst g (v := 0) (by decide) dX6_gives_0 ?_
  refine j_istore_n g (lv' := [(2, .int (0 : Int32)), (0, .ref (a 0)), (1, .int x1)]) (by decide) rfl dX6_gives_1 ?_
  obtain ⟨n1, h⟩ := h
  refine j_sub [1, 2, 0] rfl ?_
  refine wk_X6_gives_2  g hret (fun mgi_1 h => ?_) n1 (0 : Int32) mgi h
  refine j_iload_n g 1 rfl dX6_gives_21 ?_
  refine j_istore_n g (lv' := [(2, .int x1), (0, .ref (a 0)), (1, .int x1)]) (by decide) rfl dX6_gives_22 ?_
  refine j_iconst g (v := 0) (by decide) dX6_gives_23 ?_
  refine j_istore_n g (lv' := [(3, .int (0 : Int32)), (2, .int x1), (0, .ref (a 0)), (1, .int x1)]) (by decide) rfl dX6_gives_24 ?_
  refine j_aload_n g 2 rfl dX6_gives_25 ?_
  refine j_iload_n g 1 rfl dX6_gives_26 ?_
  refine j_callVZ_4 g (As := [.int x1]) (st := []) (c_X6_findWay  h) cl_X6_100 0 6 md_0 rfl rfl (Nat.le_of_ble_eq_true rfl) (Nat.le_of_ble_eq_true rfl) (Nat.zero_le _) (Nat.zero_le _) rfl rfl (Nat.le_of_ble_eq_true rfl) dX6_gives_27 (fun r_2 mrs_2 mrk_2 mfe_2 mus_2 hz_2 h => ?_)
  refine j_ws (ws' := (mdW a q mtd mnk mva mno mro mtu mbx mst mja mpr mcr mow mhd mmo mbk mca mfr mrs_2 mrk_2 mfe_2 mus_2 mgi_1 maj)) rfl ?_
  refine j_istore g (lv' := [(4, .int r_2), (3, .int (0 : Int32)), (2, .int x1), (0, .ref (a 0)), (1, .int x1)]) (by decide) rfl dX6_gives_30 ?_
  obtain ⟨n3, h⟩ := h
  refine j_sub [3, 2, 1, 0] rfl ?_
  refine wk_X6_gives_32  g hret (fun x2_3 x3_3 mtu_3 mst_3 mja_3 mbk_3 mrs_3 mrk_3 mfe_3 mus_3 mgi_3 h => ?_) n3 x1 (0 : Int32) r_2 mtu mst mja mbk mrs_2 mrk_2 mfe_2 mus_2 mgi_1 h
  refine j_aload_n g 0 rfl dX6_gives_194 ?_
  refine j_aload_n g 0 rfl dX6_gives_195 ?_
  refine j_get g fl_X6_117 0 md_0 rfl dX6_gives_196 ?_
  refine j_iload_n g 1 rfl dX6_gives_199 ?_
  refine j_iadd g dX6_gives_200 ?_
  refine j_put g fl_X6_117 fp_X6_11 0 md_0 rfl rfl (Nat.le_of_ble_eq_true rfl) (ws' := (mdW a q mtd mnk mva mno mro mtu_3 mbx mst_3 mja_3 mpr mcr (mow + x2_3) mhd mmo mbk_3 mca mfr mrs_3 mrk_3 mfe_3 mus_3 mgi_3 maj)) rfl dX6_gives_201 ?_
  refine j_iload_n g 2 rfl dX6_gives_204 ?_
  exact hret.go dX6_gives_205 h

set_option maxRecDepth 20000 in
def wp_X6_buy (x1 : Int32) (mtd : Int32) (mnk : Int32) (mva : Nat → Int32) (mno : Nat → Int32) (mtu : Nat → Int32) (mbx : Nat → Int32) (mst : Nat → Int32) (mja : Nat → Int32) (mpr : Nat → Int32) (mcr : Int32) (mow : Int32) (mhd : Int32) (mmo : Int32) (mbk : Nat → Int32) (mrs : Int32) (mrk : Nat → Int32) (mfe : Nat → Int32) (mus : Nat → Int32) (mgi : Nat → Int32) (K : Int32 → Int32 → (Nat → Int32) → (Nat → Int32) → (Nat → Int32) → (Nat → Int32) → Int32 → Int32 → Int32 → (Nat → Int32) → Int32 → (Nat → Int32) → (Nat → Int32) → (Nat → Int32) → (Nat → Int32) → Prop) : Prop :=
  ((x1 < 0 → K (-1 : Int32) (0 : Int32) mtu mbx mst mja mcr mow mhd mbk mrs mrk mfe mus mgi) ∧ (¬ x1 < 0 → (((5 : Int32) < x1 → K (-1 : Int32) (0 : Int32) mtu mbx mst mja mcr mow mhd mbk mrs mrk mfe mus mgi) ∧ (¬ (5 : Int32) < x1 → (vp_in x1 6 ∧ ((mpr x1.toNatClampNeg = 0 → K (-1 : Int32) (0 : Int32) mtu mbx mst mja mcr mow mhd mbk mrs mrk mfe mus mgi) ∧ (¬ mpr x1.toNatClampNeg = 0 → (vp_in x1 6 ∧ ((mpr x1.toNatClampNeg ≤ mcr → (vp_in x1 6 ∧ jn (fun (Z8 : (Nat → Int32) → Prop) => ((mhd = (-1 : Int32) → Z8 mbx) ∧ (¬ mhd = (-1 : Int32) → (vp_in mhd 6 ∧ (vp_in mhd 6 ∧ Z8 (upd mbx mhd.toNatClampNeg ((mbx mhd.toNatClampNeg) + (1 : Int32)))))))) (fun (mbx_8 : Nat → Int32) => (vp_in (1 : Int32) 6 ∧ (vp_in x1 6 ∧ (vp_in (1 : Int32) 6 ∧ wp_X6_gives (mcr - (mpr x1.toNatClampNeg)) mnk mva mno mtu mst mja mow mmo (upd mbk (1 : Int32).toNatClampNeg ((mbk (1 : Int32).toNatClampNeg) + (mpr x1.toNatClampNeg))) mrs mrk mfe mus mgi (fun (r_12 : Int32) (mtu_12 : Nat → Int32) (mst_12 : Nat → Int32) (mja_12 : Nat → Int32) (mow_12 : Int32) (mbk_12 : Nat → Int32) (mrs_12 : Int32) (mrk_12 : Nat → Int32) (mfe_12 : Nat → Int32) (mus_12 : Nat → Int32) (mgi_12 : Nat → Int32) => K r_12 (0 : Int32) mtu_12 mbx_8 mst_12 mja_12 (0 : Int32) mow_12 (-1 : Int32) mbk_12 mrs_12 mrk_12 mfe_12 mus_12 mgi_12))))))) ∧ (¬ mpr x1.toNatClampNeg ≤ mcr → K (-1 : Int32) (0 : Int32) mtu mbx mst mja mcr mow mhd mbk mrs mrk mfe mus mgi))))))))))
theorem dX6_buy_0 : decode cX6_buy 0 = .ok (.aload_n 0, 1) := by decide +kernel
theorem dX6_buy_1 : decode cX6_buy 1 = .ok (.iconst 0, 1) := by decide +kernel
theorem dX6_buy_2 : decode cX6_buy 2 = .ok (.putfield 63, 3) := by decide +kernel
theorem dX6_buy_5 : decode cX6_buy 5 = .ok (.iload_n 1, 1) := by decide +kernel
theorem dX6_buy_6 : decode cX6_buy 6 = .ok (.ifCond .lt 30, 3) := by decide +kernel
theorem dX6_buy_9 : decode cX6_buy 9 = .ok (.iload_n 1, 1) := by decide +kernel
theorem dX6_buy_10 : decode cX6_buy 10 = .ok (.iconst 5, 1) := by decide +kernel
theorem dX6_buy_11 : decode cX6_buy 11 = .ok (.if_icmp .gt 25, 3) := by decide +kernel
theorem dX6_buy_14 : decode cX6_buy 14 = .ok (.aload_n 0, 1) := by decide +kernel
theorem dX6_buy_15 : decode cX6_buy 15 = .ok (.getfield 32, 3) := by decide +kernel
theorem dX6_buy_18 : decode cX6_buy 18 = .ok (.iload_n 1, 1) := by decide +kernel
theorem dX6_buy_19 : decode cX6_buy 19 = .ok (.iaload, 1) := by decide +kernel
theorem dX6_buy_20 : decode cX6_buy 20 = .ok (.ifCond .eq 16, 3) := by decide +kernel
theorem dX6_buy_23 : decode cX6_buy 23 = .ok (.aload_n 0, 1) := by decide +kernel
theorem dX6_buy_24 : decode cX6_buy 24 = .ok (.getfield 32, 3) := by decide +kernel
theorem dX6_buy_27 : decode cX6_buy 27 = .ok (.iload_n 1, 1) := by decide +kernel
theorem dX6_buy_28 : decode cX6_buy 28 = .ok (.iaload, 1) := by decide +kernel
theorem dX6_buy_29 : decode cX6_buy 29 = .ok (.aload_n 0, 1) := by decide +kernel
theorem dX6_buy_30 : decode cX6_buy 30 = .ok (.getfield 73, 3) := by decide +kernel
theorem dX6_buy_33 : decode cX6_buy 33 = .ok (.if_icmp .le 5, 3) := by decide +kernel
theorem dX6_buy_36 : decode cX6_buy 36 = .ok (.iconst (-1), 1) := by decide +kernel
theorem dX6_buy_37 : decode cX6_buy 37 = .ok (.ireturn, 1) := by decide +kernel
theorem dX6_buy_38 : decode cX6_buy 38 = .ok (.aload_n 0, 1) := by decide +kernel
theorem dX6_buy_39 : decode cX6_buy 39 = .ok (.getfield 73, 3) := by decide +kernel
theorem dX6_buy_42 : decode cX6_buy 42 = .ok (.aload_n 0, 1) := by decide +kernel
theorem dX6_buy_43 : decode cX6_buy 43 = .ok (.getfield 32, 3) := by decide +kernel
theorem dX6_buy_46 : decode cX6_buy 46 = .ok (.iload_n 1, 1) := by decide +kernel
theorem dX6_buy_47 : decode cX6_buy 47 = .ok (.iaload, 1) := by decide +kernel
theorem dX6_buy_48 : decode cX6_buy 48 = .ok (.isub, 1) := by decide +kernel
theorem dX6_buy_49 : decode cX6_buy 49 = .ok (.istore_n 2, 1) := by decide +kernel
theorem dX6_buy_50 : decode cX6_buy 50 = .ok (.aload_n 0, 1) := by decide +kernel
theorem dX6_buy_51 : decode cX6_buy 51 = .ok (.getfield 35, 3) := by decide +kernel
theorem dX6_buy_54 : decode cX6_buy 54 = .ok (.iconst (-1), 1) := by decide +kernel
theorem dX6_buy_55 : decode cX6_buy 55 = .ok (.if_icmp .eq 23, 3) := by decide +kernel
theorem dX6_buy_58 : decode cX6_buy 58 = .ok (.aload_n 0, 1) := by decide +kernel
theorem dX6_buy_59 : decode cX6_buy 59 = .ok (.getfield 23, 3) := by decide +kernel
theorem dX6_buy_62 : decode cX6_buy 62 = .ok (.aload_n 0, 1) := by decide +kernel
theorem dX6_buy_63 : decode cX6_buy 63 = .ok (.getfield 35, 3) := by decide +kernel
theorem dX6_buy_66 : decode cX6_buy 66 = .ok (.aload_n 0, 1) := by decide +kernel
theorem dX6_buy_67 : decode cX6_buy 67 = .ok (.getfield 23, 3) := by decide +kernel
theorem dX6_buy_70 : decode cX6_buy 70 = .ok (.aload_n 0, 1) := by decide +kernel
theorem dX6_buy_71 : decode cX6_buy 71 = .ok (.getfield 35, 3) := by decide +kernel
theorem dX6_buy_74 : decode cX6_buy 74 = .ok (.iaload, 1) := by decide +kernel
theorem dX6_buy_75 : decode cX6_buy 75 = .ok (.iconst 1, 1) := by decide +kernel
theorem dX6_buy_76 : decode cX6_buy 76 = .ok (.iadd, 1) := by decide +kernel
theorem dX6_buy_77 : decode cX6_buy 77 = .ok (.iastore, 1) := by decide +kernel
theorem dX6_buy_78 : decode cX6_buy 78 = .ok (.aload_n 0, 1) := by decide +kernel
theorem dX6_buy_79 : decode cX6_buy 79 = .ok (.iconst (-1), 1) := by decide +kernel
theorem dX6_buy_80 : decode cX6_buy 80 = .ok (.putfield 35, 3) := by decide +kernel
theorem dX6_buy_83 : decode cX6_buy 83 = .ok (.aload_n 0, 1) := by decide +kernel
theorem dX6_buy_84 : decode cX6_buy 84 = .ok (.iconst 0, 1) := by decide +kernel
theorem dX6_buy_85 : decode cX6_buy 85 = .ok (.putfield 73, 3) := by decide +kernel
theorem dX6_buy_88 : decode cX6_buy 88 = .ok (.aload_n 0, 1) := by decide +kernel
theorem dX6_buy_89 : decode cX6_buy 89 = .ok (.getfield 39, 3) := by decide +kernel
theorem dX6_buy_92 : decode cX6_buy 92 = .ok (.iconst 1, 1) := by decide +kernel
theorem dX6_buy_93 : decode cX6_buy 93 = .ok (.aload_n 0, 1) := by decide +kernel
theorem dX6_buy_94 : decode cX6_buy 94 = .ok (.getfield 39, 3) := by decide +kernel
theorem dX6_buy_97 : decode cX6_buy 97 = .ok (.iconst 1, 1) := by decide +kernel
theorem dX6_buy_98 : decode cX6_buy 98 = .ok (.iaload, 1) := by decide +kernel
theorem dX6_buy_99 : decode cX6_buy 99 = .ok (.aload_n 0, 1) := by decide +kernel
theorem dX6_buy_100 : decode cX6_buy 100 = .ok (.getfield 32, 3) := by decide +kernel
theorem dX6_buy_103 : decode cX6_buy 103 = .ok (.iload_n 1, 1) := by decide +kernel
theorem dX6_buy_104 : decode cX6_buy 104 = .ok (.iaload, 1) := by decide +kernel
theorem dX6_buy_105 : decode cX6_buy 105 = .ok (.iadd, 1) := by decide +kernel
theorem dX6_buy_106 : decode cX6_buy 106 = .ok (.iastore, 1) := by decide +kernel
theorem dX6_buy_107 : decode cX6_buy 107 = .ok (.aload_n 0, 1) := by decide +kernel
theorem dX6_buy_108 : decode cX6_buy 108 = .ok (.iload_n 2, 1) := by decide +kernel
theorem dX6_buy_109 : decode cX6_buy 109 = .ok (.invokevirtual 120, 3) := by decide +kernel
theorem dX6_buy_112 : decode cX6_buy 112 = .ok (.ireturn, 1) := by decide +kernel
set_option maxRecDepth 20000 in
set_option maxHeartbeats 4000000 in
theorem c_X6_buy {a : Nat → Nat} {q : Nat → ClassId} {x1 : Int32}  {mtd : Int32} {mnk : Int32} {mva : Nat → Int32} {mno : Nat → Int32} {mro : Nat → Int32} {mtu : Nat → Int32} {mbx : Nat → Int32} {mst : Nat → Int32} {mja : Nat → Int32} {mpr : Nat → Int32} {mcr : Int32} {mow : Int32} {mhd : Int32} {mmo : Int32} {mbk : Nat → Int32} {mca : Nat → Int32} {mfr : Nat → Int32} {mrs : Int32} {mrk : Nat → Int32} {mfe : Nat → Int32} {mus : Nat → Int32} {mgi : Nat → Int32} {maj : Nat → Int32} {K : Int32 → Int32 → (Nat → Int32) → (Nat → Int32) → (Nat → Int32) → (Nat → Int32) → Int32 → Int32 → Int32 → (Nat → Int32) → Int32 → (Nat → Int32) → (Nat → Int32) → (Nat → Int32) → (Nat → Int32) → Prop} (h : wp_X6_buy x1 mtd mnk mva mno mtu mbx mst mja mpr mcr mow mhd mmo mbk mrs mrk mfe mus mgi K) : ctI_14 q yX6_buy cX6_buy 3 5 117 [.ref (a 0), .int x1] (mdW a q mtd mnk mva mno mro mtu mbx mst mja mpr mcr mow mhd mmo mbk mca mfr mrs mrk mfe mus mgi maj) (fun (mtd : Int32) (mtu : Nat → Int32) (mbx : Nat → Int32) (mst : Nat → Int32) (mja : Nat → Int32) (mcr : Int32) (mow : Int32) (mhd : Int32) (mbk : Nat → Int32) (mrs : Int32) (mrk : Nat → Int32) (mfe : Nat → Int32) (mus : Nat → Int32) (mgi : Nat → Int32) => (mdW a q mtd mnk mva mno mro mtu mbx mst mja mpr mcr mow mhd mmo mbk mca mfr mrs mrk mfe mus mgi maj)) K := by
  refine met_I_14 (by decide) (Nat.le_of_ble_eq_true rfl) (fun Γ g hret => ?_)
  unfold wp_X6_buy at h
  show jw Γ 3 0 0 (mdW a q mtd mnk mva mno mro mtu mbx mst mja mpr mcr mow mhd mmo mbk mca mfr mrs mrk mfe mus mgi maj) [(0, .ref (a 0)), (1, .int x1)] [] 0
  refine j_aload_n g 0 rfl dX6_buy_0 ?_
  refine j_iconst g (v := 0) (by decide) dX6_buy_1 ?_
  refine j_put g fl_X6_63 fp_X6_0 0 md_0 rfl rfl (Nat.le_of_ble_eq_true rfl) (ws' := (mdW a q (0 : Int32) mnk mva mno mro mtu mbx mst mja mpr mcr mow mhd mmo mbk mca mfr mrs mrk mfe mus mgi maj)) rfl dX6_buy_2 ?_
  refine j_iload_n g 1 rfl dX6_buy_5 ?_
  refine j_if_lt g dX6_buy_6 (tgt := 36) (by decide) (fun c1 => ?_) (fun c1 => ?_)
  · replace h := h.1 c1
    refine j_iconst g (v := -1) (by decide) dX6_buy_36 ?_
    exact hret.go dX6_buy_37 h
  replace h := h.2 c1
  refine j_iload_n g 1 rfl dX6_buy_9 ?_
  refine j_iconst g (v := 5) (by decide) dX6_buy_10 ?_
  refine j_icmp_gt g dX6_buy_11 (tgt := 36) (by decide) (fun c2 => ?_) (fun c2 => ?_)
  · replace h := h.1 c2
    refine j_iconst g (v := -1) (by decide) dX6_buy_36 ?_
    exact hret.go dX6_buy_37 h
  replace h := h.2 c2
  refine j_aload_n g 0 rfl dX6_buy_14 ?_
  refine j_get g fl_X6_32 0 md_0 rfl dX6_buy_15 ?_
  refine j_iload_n g 1 rfl dX6_buy_18 ?_
  obtain ⟨hv3, h⟩ := h
  refine j_iald g 8 md_8 hv3 dX6_buy_19 ?_
  refine j_if_eq g dX6_buy_20 (tgt := 36) (by decide) (fun c4 => ?_) (fun c4 => ?_)
  · replace h := h.1 c4
    refine j_iconst g (v := -1) (by decide) dX6_buy_36 ?_
    exact hret.go dX6_buy_37 h
  replace h := h.2 c4
  refine j_aload_n g 0 rfl dX6_buy_23 ?_
  refine j_get g fl_X6_32 0 md_0 rfl dX6_buy_24 ?_
  refine j_iload_n g 1 rfl dX6_buy_27 ?_
  obtain ⟨hv5, h⟩ := h
  refine j_iald g 8 md_8 hv5 dX6_buy_28 ?_
  refine j_aload_n g 0 rfl dX6_buy_29 ?_
  refine j_get g fl_X6_73 0 md_0 rfl dX6_buy_30 ?_
  refine j_icmp_le g dX6_buy_33 (tgt := 38) (by decide) (fun c6 => ?_) (fun c6 => ?_)
  rotate_left
  · replace h := h.2 c6
    refine j_iconst g (v := -1) (by decide) dX6_buy_36 ?_
    exact hret.go dX6_buy_37 h
  replace h := h.1 c6
  refine j_aload_n g 0 rfl dX6_buy_38 ?_
  refine j_get g fl_X6_73 0 md_0 rfl dX6_buy_39 ?_
  refine j_aload_n g 0 rfl dX6_buy_42 ?_
  refine j_get g fl_X6_32 0 md_0 rfl dX6_buy_43 ?_
  refine j_iload_n g 1 rfl dX6_buy_46 ?_
  obtain ⟨hv7, h⟩ := h
  refine j_iald g 8 md_8 hv7 dX6_buy_47 ?_
  refine j_isub g dX6_buy_48 ?_
  refine j_istore_n g (lv' := [(2, .int (mcr - (mpr x1.toNatClampNeg))), (0, .ref (a 0)), (1, .int x1)]) (by decide) rfl dX6_buy_49 ?_
  refine j_aload_n g 1 rfl dX6_buy_50 ?_
  refine j_get g fl_X6_35 0 md_0 rfl dX6_buy_51 ?_
  refine j_iconst g (v := -1) (by decide) dX6_buy_54 ?_
  refine jn_cut h (fun Z8 eZ8 h => ?_)
  have hZ8 : ∀ (mbx_8 : Nat → Int32), Z8 mbx_8 → jw Γ 3 0 0 (mdW a q (0 : Int32) mnk mva mno mro mtu mbx_8 mst mja mpr mcr mow mhd mmo mbk mca mfr mrs mrk mfe mus mgi maj) [(0, .ref (a 0)), (1, .int x1), (2, .int (mcr - (mpr x1.toNatClampNeg)))] [] 78 := by
    intro mbx_8 h
    rw [eZ8] at h
    refine j_aload_n g 0 rfl dX6_buy_78 ?_
    refine j_iconst g (v := -1) (by decide) dX6_buy_79 ?_
    refine j_put g fl_X6_35 fp_X6_12 0 md_0 rfl rfl (Nat.le_of_ble_eq_true rfl) (ws' := (mdW a q (0 : Int32) mnk mva mno mro mtu mbx_8 mst mja mpr mcr mow (-1 : Int32) mmo mbk mca mfr mrs mrk mfe mus mgi maj)) rfl dX6_buy_80 ?_
    refine j_aload_n g 0 rfl dX6_buy_83 ?_
    refine j_iconst g (v := 0) (by decide) dX6_buy_84 ?_
    refine j_put g fl_X6_73 fp_X6_10 0 md_0 rfl rfl (Nat.le_of_ble_eq_true rfl) (ws' := (mdW a q (0 : Int32) mnk mva mno mro mtu mbx_8 mst mja mpr (0 : Int32) mow (-1 : Int32) mmo mbk mca mfr mrs mrk mfe mus mgi maj)) rfl dX6_buy_85 ?_
    refine j_aload_n g 0 rfl dX6_buy_88 ?_
    refine j_get g fl_X6_39 0 md_0 rfl dX6_buy_89 ?_
    refine j_iconst g (v := 1) (by decide) dX6_buy_92 ?_
    refine j_aload_n g 0 rfl dX6_buy_93 ?_
    refine j_get g fl_X6_39 0 md_0 rfl dX6_buy_94 ?_
    refine j_iconst g (v := 1) (by decide) dX6_buy_97 ?_
    obtain ⟨hv9, h⟩ := h
    refine j_iald g 9 md_9 hv9 dX6_buy_98 ?_
    refine j_aload_n g 0 rfl dX6_buy_99 ?_
    refine j_get g fl_X6_32 0 md_0 rfl dX6_buy_100 ?_
    refine j_iload_n g 1 rfl dX6_buy_103 ?_
    obtain ⟨hv10, h⟩ := h
    refine j_iald g 8 md_8 hv10 dX6_buy_104 ?_
    refine j_iadd g dX6_buy_105 ?_
    obtain ⟨hv11, h⟩ := h
    refine j_iast g 9 md_9 hv11 (ws' := (mdW a q (0 : Int32) mnk mva mno mro mtu mbx_8 mst mja mpr (0 : Int32) mow (-1 : Int32) mmo (upd mbk (1 : Int32).toNatClampNeg ((mbk (1 : Int32).toNatClampNeg) + (mpr x1.toNatClampNeg))) mca mfr mrs mrk mfe mus mgi maj)) rfl dX6_buy_106 ?_
    refine j_aload_n g 0 rfl dX6_buy_107 ?_
    refine j_iload_n g 2 rfl dX6_buy_108 ?_
    refine j_callVI_10 g (As := [.int (mcr - (mpr x1.toNatClampNeg))]) (st := []) (c_X6_gives  h) cl_X6_120 0 6 md_0 rfl rfl (Nat.le_of_ble_eq_true rfl) (Nat.le_of_ble_eq_true rfl) (Nat.zero_le _) (Nat.zero_le _) rfl rfl (Nat.le_of_ble_eq_true rfl) dX6_buy_109 (fun r_12 mtu_12 mst_12 mja_12 mow_12 mbk_12 mrs_12 mrk_12 mfe_12 mus_12 mgi_12  h => ?_)
    refine j_ws (ws' := (mdW a q (0 : Int32) mnk mva mno mro mtu_12 mbx_8 mst_12 mja_12 mpr (0 : Int32) mow_12 (-1 : Int32) mmo mbk_12 mca mfr mrs_12 mrk_12 mfe_12 mus_12 mgi_12 maj)) rfl ?_
    exact hret.go dX6_buy_112 h
  refine j_icmp_eq g dX6_buy_55 (tgt := 78) (by decide) (fun c13 => ?_) (fun c13 => ?_)
  · replace h := h.1 c13
    refine j_sub [1, 2, 0] rfl ?_
    exact hZ8 mbx h
  replace h := h.2 c13
  refine j_aload_n g 1 rfl dX6_buy_58 ?_
  refine j_get g fl_X6_23 0 md_0 rfl dX6_buy_59 ?_
  refine j_aload_n g 1 rfl dX6_buy_62 ?_
  refine j_get g fl_X6_35 0 md_0 rfl dX6_buy_63 ?_
  refine j_aload_n g 1 rfl dX6_buy_66 ?_
  refine j_get g fl_X6_23 0 md_0 rfl dX6_buy_67 ?_
  refine j_aload_n g 1 rfl dX6_buy_70 ?_
  refine j_get g fl_X6_35 0 md_0 rfl dX6_buy_71 ?_
  obtain ⟨hv14, h⟩ := h
  refine j_iald g 5 md_5 hv14 dX6_buy_74 ?_
  refine j_iconst g (v := 1) (by decide) dX6_buy_75 ?_
  refine j_iadd g dX6_buy_76 ?_
  obtain ⟨hv15, h⟩ := h
  refine j_iast g 5 md_5 hv15 (ws' := (mdW a q (0 : Int32) mnk mva mno mro mtu (upd mbx mhd.toNatClampNeg ((mbx mhd.toNatClampNeg) + (1 : Int32))) mst mja mpr mcr mow mhd mmo mbk mca mfr mrs mrk mfe mus mgi maj)) rfl dX6_buy_77 ?_
  refine j_sub [1, 2, 0] rfl ?_
  exact hZ8 (upd mbx mhd.toNatClampNeg ((mbx mhd.toNatClampNeg) + (1 : Int32))) h

set_option maxRecDepth 20000 in
def wp_X6_refund  (mtd : Int32) (mnk : Int32) (mva : Nat → Int32) (mno : Nat → Int32) (mtu : Nat → Int32) (mst : Nat → Int32) (mja : Nat → Int32) (mcr : Int32) (mow : Int32) (mhd : Int32) (mmo : Int32) (mbk : Nat → Int32) (mrs : Int32) (mrk : Nat → Int32) (mfe : Nat → Int32) (mus : Nat → Int32) (mgi : Nat → Int32) (K : Int32 → Int32 → (Nat → Int32) → (Nat → Int32) → (Nat → Int32) → Int32 → Int32 → Int32 → (Nat → Int32) → Int32 → (Nat → Int32) → (Nat → Int32) → (Nat → Int32) → (Nat → Int32) → Prop) : Prop :=
  ((¬ mcr = 0 → wp_X6_heldValue mva mhd (fun (r_2 : Int32)  => (vp_in (2 : Int32) 6 ∧ wp_X6_heldValue mva mhd (fun (r_4 : Int32)  => (vp_in (2 : Int32) 6 ∧ wp_X6_gives (mcr - r_2) mnk mva mno mtu mst mja mow mmo (upd mbk (2 : Int32).toNatClampNeg ((mbk (2 : Int32).toNatClampNeg) + r_4)) mrs mrk mfe mus mgi (fun (r_6 : Int32) (mtu_6 : Nat → Int32) (mst_6 : Nat → Int32) (mja_6 : Nat → Int32) (mow_6 : Int32) (mbk_6 : Nat → Int32) (mrs_6 : Int32) (mrk_6 : Nat → Int32) (mfe_6 : Nat → Int32) (mus_6 : Nat → Int32) (mgi_6 : Nat → Int32) => K r_6 (0 : Int32) mtu_6 mst_6 mja_6 (0 : Int32) mow_6 (-1 : Int32) mbk_6 mrs_6 mrk_6 mfe_6 mus_6 mgi_6)))))) ∧ (mcr = 0 → K (-1 : Int32) (0 : Int32) mtu mst mja mcr mow mhd mbk mrs mrk mfe mus mgi))
theorem dX6_refund_0 : decode cX6_refund 0 = .ok (.aload_n 0, 1) := by decide +kernel
theorem dX6_refund_1 : decode cX6_refund 1 = .ok (.iconst 0, 1) := by decide +kernel
theorem dX6_refund_2 : decode cX6_refund 2 = .ok (.putfield 63, 3) := by decide +kernel
theorem dX6_refund_5 : decode cX6_refund 5 = .ok (.aload_n 0, 1) := by decide +kernel
theorem dX6_refund_6 : decode cX6_refund 6 = .ok (.getfield 73, 3) := by decide +kernel
theorem dX6_refund_9 : decode cX6_refund 9 = .ok (.ifCond .ne 5, 3) := by decide +kernel
theorem dX6_refund_12 : decode cX6_refund 12 = .ok (.iconst (-1), 1) := by decide +kernel
theorem dX6_refund_13 : decode cX6_refund 13 = .ok (.ireturn, 1) := by decide +kernel
theorem dX6_refund_14 : decode cX6_refund 14 = .ok (.aload_n 0, 1) := by decide +kernel
theorem dX6_refund_15 : decode cX6_refund 15 = .ok (.getfield 73, 3) := by decide +kernel
theorem dX6_refund_18 : decode cX6_refund 18 = .ok (.aload_n 0, 1) := by decide +kernel
theorem dX6_refund_19 : decode cX6_refund 19 = .ok (.invokevirtual 106, 3) := by decide +kernel
theorem dX6_refund_22 : decode cX6_refund 22 = .ok (.isub, 1) := by decide +kernel
theorem dX6_refund_23 : decode cX6_refund 23 = .ok (.istore_n 1, 1) := by decide +kernel
theorem dX6_refund_24 : decode cX6_refund 24 = .ok (.aload_n 0, 1) := by decide +kernel
theorem dX6_refund_25 : decode cX6_refund 25 = .ok (.getfield 39, 3) := by decide +kernel
theorem dX6_refund_28 : decode cX6_refund 28 = .ok (.iconst 2, 1) := by decide +kernel
theorem dX6_refund_29 : decode cX6_refund 29 = .ok (.aload_n 0, 1) := by decide +kernel
theorem dX6_refund_30 : decode cX6_refund 30 = .ok (.getfield 39, 3) := by decide +kernel
theorem dX6_refund_33 : decode cX6_refund 33 = .ok (.iconst 2, 1) := by decide +kernel
theorem dX6_refund_34 : decode cX6_refund 34 = .ok (.iaload, 1) := by decide +kernel
theorem dX6_refund_35 : decode cX6_refund 35 = .ok (.aload_n 0, 1) := by decide +kernel
theorem dX6_refund_36 : decode cX6_refund 36 = .ok (.invokevirtual 106, 3) := by decide +kernel
theorem dX6_refund_39 : decode cX6_refund 39 = .ok (.iadd, 1) := by decide +kernel
theorem dX6_refund_40 : decode cX6_refund 40 = .ok (.iastore, 1) := by decide +kernel
theorem dX6_refund_41 : decode cX6_refund 41 = .ok (.aload_n 0, 1) := by decide +kernel
theorem dX6_refund_42 : decode cX6_refund 42 = .ok (.iconst (-1), 1) := by decide +kernel
theorem dX6_refund_43 : decode cX6_refund 43 = .ok (.putfield 35, 3) := by decide +kernel
theorem dX6_refund_46 : decode cX6_refund 46 = .ok (.aload_n 0, 1) := by decide +kernel
theorem dX6_refund_47 : decode cX6_refund 47 = .ok (.iconst 0, 1) := by decide +kernel
theorem dX6_refund_48 : decode cX6_refund 48 = .ok (.putfield 73, 3) := by decide +kernel
theorem dX6_refund_51 : decode cX6_refund 51 = .ok (.aload_n 0, 1) := by decide +kernel
theorem dX6_refund_52 : decode cX6_refund 52 = .ok (.iload_n 1, 1) := by decide +kernel
theorem dX6_refund_53 : decode cX6_refund 53 = .ok (.invokevirtual 120, 3) := by decide +kernel
theorem dX6_refund_56 : decode cX6_refund 56 = .ok (.ireturn, 1) := by decide +kernel
set_option maxRecDepth 20000 in
set_option maxHeartbeats 4000000 in
theorem c_X6_refund {a : Nat → Nat} {q : Nat → ClassId}   {mtd : Int32} {mnk : Int32} {mva : Nat → Int32} {mno : Nat → Int32} {mro : Nat → Int32} {mtu : Nat → Int32} {mbx : Nat → Int32} {mst : Nat → Int32} {mja : Nat → Int32} {mpr : Nat → Int32} {mcr : Int32} {mow : Int32} {mhd : Int32} {mmo : Int32} {mbk : Nat → Int32} {mca : Nat → Int32} {mfr : Nat → Int32} {mrs : Int32} {mrk : Nat → Int32} {mfe : Nat → Int32} {mus : Nat → Int32} {mgi : Nat → Int32} {maj : Nat → Int32} {K : Int32 → Int32 → (Nat → Int32) → (Nat → Int32) → (Nat → Int32) → Int32 → Int32 → Int32 → (Nat → Int32) → Int32 → (Nat → Int32) → (Nat → Int32) → (Nat → Int32) → (Nat → Int32) → Prop} (h : wp_X6_refund mtd mnk mva mno mtu mst mja mcr mow mhd mmo mbk mrs mrk mfe mus mgi K) : ctI_13 q yX6_refund cX6_refund 2 5 117 [.ref (a 0)] (mdW a q mtd mnk mva mno mro mtu mbx mst mja mpr mcr mow mhd mmo mbk mca mfr mrs mrk mfe mus mgi maj) (fun (mtd : Int32) (mtu : Nat → Int32) (mst : Nat → Int32) (mja : Nat → Int32) (mcr : Int32) (mow : Int32) (mhd : Int32) (mbk : Nat → Int32) (mrs : Int32) (mrk : Nat → Int32) (mfe : Nat → Int32) (mus : Nat → Int32) (mgi : Nat → Int32) => (mdW a q mtd mnk mva mno mro mtu mbx mst mja mpr mcr mow mhd mmo mbk mca mfr mrs mrk mfe mus mgi maj)) K := by
  refine met_I_13 (by decide) (Nat.le_of_ble_eq_true rfl) (fun Γ g hret => ?_)
  unfold wp_X6_refund at h
  show jw Γ 2 0 0 (mdW a q mtd mnk mva mno mro mtu mbx mst mja mpr mcr mow mhd mmo mbk mca mfr mrs mrk mfe mus mgi maj) [(0, .ref (a 0))] [] 0
  refine j_aload_n g 0 rfl dX6_refund_0 ?_
  refine j_iconst g (v := 0) (by decide) dX6_refund_1 ?_
  refine j_put g fl_X6_63 fp_X6_0 0 md_0 rfl rfl (Nat.le_of_ble_eq_true rfl) (ws' := (mdW a q (0 : Int32) mnk mva mno mro mtu mbx mst mja mpr mcr mow mhd mmo mbk mca mfr mrs mrk mfe mus mgi maj)) rfl dX6_refund_2 ?_
  refine j_aload_n g 0 rfl dX6_refund_5 ?_
  refine j_get g fl_X6_73 0 md_0 rfl dX6_refund_6 ?_
  refine j_if_ne g dX6_refund_9 (tgt := 14) (by decide) (fun c1 => ?_) (fun c1 => ?_)
  rotate_left
  · replace h := h.2 c1
    refine j_iconst g (v := -1) (by decide) dX6_refund_12 ?_
    exact hret.go dX6_refund_13 h
  replace h := h.1 c1
  refine j_aload_n g 0 rfl dX6_refund_14 ?_
  refine j_get g fl_X6_73 0 md_0 rfl dX6_refund_15 ?_
  refine j_aload_n g 0 rfl dX6_refund_18 ?_
  refine j_callVI_0 g (As := []) (st := [.int mcr]) (c_X6_heldValue  h) cl_X6_106 0 6 md_0 rfl rfl (Nat.le_of_ble_eq_true rfl) (Nat.le_of_ble_eq_true rfl) (Nat.zero_le _) (Nat.zero_le _) rfl rfl (Nat.le_of_ble_eq_true rfl) dX6_refund_19 (fun r_2   h => ?_)
  refine j_isub g dX6_refund_22 ?_
  refine j_istore_n g (lv' := [(1, .int (mcr - r_2)), (0, .ref (a 0))]) (by decide) rfl dX6_refund_23 ?_
  refine j_aload_n g 1 rfl dX6_refund_24 ?_
  refine j_get g fl_X6_39 0 md_0 rfl dX6_refund_25 ?_
  refine j_iconst g (v := 2) (by decide) dX6_refund_28 ?_
  refine j_aload_n g 1 rfl dX6_refund_29 ?_
  refine j_get g fl_X6_39 0 md_0 rfl dX6_refund_30 ?_
  refine j_iconst g (v := 2) (by decide) dX6_refund_33 ?_
  obtain ⟨hv3, h⟩ := h
  refine j_iald g 9 md_9 hv3 dX6_refund_34 ?_
  refine j_aload_n g 1 rfl dX6_refund_35 ?_
  refine j_callVI_0 g (As := []) (st := [.int (mbk (2 : Int32).toNatClampNeg), .int (2 : Int32), .ref (a 9)]) (c_X6_heldValue  h) cl_X6_106 0 6 md_0 rfl rfl (Nat.le_of_ble_eq_true rfl) (Nat.le_of_ble_eq_true rfl) (Nat.zero_le _) (Nat.zero_le _) rfl rfl (Nat.le_of_ble_eq_true rfl) dX6_refund_36 (fun r_4   h => ?_)
  refine j_iadd g dX6_refund_39 ?_
  obtain ⟨hv5, h⟩ := h
  refine j_iast g 9 md_9 hv5 (ws' := (mdW a q (0 : Int32) mnk mva mno mro mtu mbx mst mja mpr mcr mow mhd mmo (upd mbk (2 : Int32).toNatClampNeg ((mbk (2 : Int32).toNatClampNeg) + r_4)) mca mfr mrs mrk mfe mus mgi maj)) rfl dX6_refund_40 ?_
  refine j_aload_n g 1 rfl dX6_refund_41 ?_
  refine j_iconst g (v := -1) (by decide) dX6_refund_42 ?_
  refine j_put g fl_X6_35 fp_X6_12 0 md_0 rfl rfl (Nat.le_of_ble_eq_true rfl) (ws' := (mdW a q (0 : Int32) mnk mva mno mro mtu mbx mst mja mpr mcr mow (-1 : Int32) mmo (upd mbk (2 : Int32).toNatClampNeg ((mbk (2 : Int32).toNatClampNeg) + r_4)) mca mfr mrs mrk mfe mus mgi maj)) rfl dX6_refund_43 ?_
  refine j_aload_n g 1 rfl dX6_refund_46 ?_
  refine j_iconst g (v := 0) (by decide) dX6_refund_47 ?_
  refine j_put g fl_X6_73 fp_X6_10 0 md_0 rfl rfl (Nat.le_of_ble_eq_true rfl) (ws' := (mdW a q (0 : Int32) mnk mva mno mro mtu mbx mst mja mpr (0 : Int32) mow (-1 : Int32) mmo (upd mbk (2 : Int32).toNatClampNeg ((mbk (2 : Int32).toNatClampNeg) + r_4)) mca mfr mrs mrk mfe mus mgi maj)) rfl dX6_refund_48 ?_
  refine j_aload_n g 1 rfl dX6_refund_51 ?_
  refine j_iload_n g 0 rfl dX6_refund_52 ?_
  refine j_callVI_10 g (As := [.int (mcr - r_2)]) (st := []) (c_X6_gives  h) cl_X6_120 0 6 md_0 rfl rfl (Nat.le_of_ble_eq_true rfl) (Nat.le_of_ble_eq_true rfl) (Nat.zero_le _) (Nat.zero_le _) rfl rfl (Nat.le_of_ble_eq_true rfl) dX6_refund_53 (fun r_6 mtu_6 mst_6 mja_6 mow_6 mbk_6 mrs_6 mrk_6 mfe_6 mus_6 mgi_6  h => ?_)
  refine j_ws (ws' := (mdW a q (0 : Int32) mnk mva mno mro mtu_6 mbx mst_6 mja_6 mpr (0 : Int32) mow_6 (-1 : Int32) mmo mbk_6 mca mfr mrs_6 mrk_6 mfe_6 mus_6 mgi_6 maj)) rfl ?_
  exact hret.go dX6_refund_56 h

set_option maxRecDepth 20000 in
def wp_X6_pay  (mtd : Int32) (mnk : Int32) (mva : Nat → Int32) (mno : Nat → Int32) (mtu : Nat → Int32) (mst : Nat → Int32) (mja : Nat → Int32) (mow : Int32) (mmo : Int32) (mbk : Nat → Int32) (mca : Nat → Int32) (mfr : Nat → Int32) (mrs : Int32) (mrk : Nat → Int32) (mfe : Nat → Int32) (mus : Nat → Int32) (mgi : Nat → Int32) (K : Int32 → Int32 → (Nat → Int32) → (Nat → Int32) → (Nat → Int32) → Int32 → (Nat → Int32) → (Nat → Int32) → (Nat → Int32) → Int32 → (Nat → Int32) → (Nat → Int32) → (Nat → Int32) → (Nat → Int32) → Prop) : Prop :=
  ((mow = 0 → K (-1 : Int32) (0 : Int32) mtu mst mja mow mbk mca mfr mrs mrk mfe mus mgi) ∧ (¬ mow = 0 → ((mow ≤ (999 : Int32) → wp_X6_findSums mnk mva mno mtu mst mca mfr (fun (mca_3 : Nat → Int32) (mfr_3 : Nat → Int32) => (vp_in mow 1000 ∧ ((¬ mca_3 mow.toNatClampNeg = 0 → wp_X6_gives mow mnk mva mno mtu mst mja (0 : Int32) mmo mbk mrs mrk mfe mus mgi (fun (r_6 : Int32) (mtu_6 : Nat → Int32) (mst_6 : Nat → Int32) (mja_6 : Nat → Int32) (mow_6 : Int32) (mbk_6 : Nat → Int32) (mrs_6 : Int32) (mrk_6 : Nat → Int32) (mfe_6 : Nat → Int32) (mus_6 : Nat → Int32) (mgi_6 : Nat → Int32) => K r_6 (0 : Int32) mtu_6 mst_6 mja_6 mow_6 mbk_6 mca_3 mfr_3 mrs_6 mrk_6 mfe_6 mus_6 mgi_6)) ∧ (mca_3 mow.toNatClampNeg = 0 → K (-1 : Int32) (0 : Int32) mtu mst mja mow mbk mca_3 mfr_3 mrs mrk mfe mus mgi))))) ∧ (¬ mow ≤ (999 : Int32) → K (-1 : Int32) (0 : Int32) mtu mst mja mow mbk mca mfr mrs mrk mfe mus mgi))))
theorem dX6_pay_0 : decode cX6_pay 0 = .ok (.aload_n 0, 1) := by decide +kernel
theorem dX6_pay_1 : decode cX6_pay 1 = .ok (.iconst 0, 1) := by decide +kernel
theorem dX6_pay_2 : decode cX6_pay 2 = .ok (.putfield 63, 3) := by decide +kernel
theorem dX6_pay_5 : decode cX6_pay 5 = .ok (.aload_n 0, 1) := by decide +kernel
theorem dX6_pay_6 : decode cX6_pay 6 = .ok (.getfield 117, 3) := by decide +kernel
theorem dX6_pay_9 : decode cX6_pay 9 = .ok (.ifCond .eq 13, 3) := by decide +kernel
theorem dX6_pay_12 : decode cX6_pay 12 = .ok (.aload_n 0, 1) := by decide +kernel
theorem dX6_pay_13 : decode cX6_pay 13 = .ok (.getfield 117, 3) := by decide +kernel
theorem dX6_pay_16 : decode cX6_pay 16 = .ok (.sipush 999, 3) := by decide +kernel
theorem dX6_pay_19 : decode cX6_pay 19 = .ok (.if_icmp .le 5, 3) := by decide +kernel
theorem dX6_pay_22 : decode cX6_pay 22 = .ok (.iconst (-1), 1) := by decide +kernel
theorem dX6_pay_23 : decode cX6_pay 23 = .ok (.ireturn, 1) := by decide +kernel
theorem dX6_pay_24 : decode cX6_pay 24 = .ok (.aload_n 0, 1) := by decide +kernel
theorem dX6_pay_25 : decode cX6_pay 25 = .ok (.invokevirtual 103, 3) := by decide +kernel
theorem dX6_pay_28 : decode cX6_pay 28 = .ok (.aload_n 0, 1) := by decide +kernel
theorem dX6_pay_29 : decode cX6_pay 29 = .ok (.getfield 42, 3) := by decide +kernel
theorem dX6_pay_32 : decode cX6_pay 32 = .ok (.aload_n 0, 1) := by decide +kernel
theorem dX6_pay_33 : decode cX6_pay 33 = .ok (.getfield 117, 3) := by decide +kernel
theorem dX6_pay_36 : decode cX6_pay 36 = .ok (.baload, 1) := by decide +kernel
theorem dX6_pay_37 : decode cX6_pay 37 = .ok (.ifCond .ne 5, 3) := by decide +kernel
theorem dX6_pay_40 : decode cX6_pay 40 = .ok (.iconst (-1), 1) := by decide +kernel
theorem dX6_pay_41 : decode cX6_pay 41 = .ok (.ireturn, 1) := by decide +kernel
theorem dX6_pay_42 : decode cX6_pay 42 = .ok (.aload_n 0, 1) := by decide +kernel
theorem dX6_pay_43 : decode cX6_pay 43 = .ok (.getfield 117, 3) := by decide +kernel
theorem dX6_pay_46 : decode cX6_pay 46 = .ok (.istore_n 1, 1) := by decide +kernel
theorem dX6_pay_47 : decode cX6_pay 47 = .ok (.aload_n 0, 1) := by decide +kernel
theorem dX6_pay_48 : decode cX6_pay 48 = .ok (.iconst 0, 1) := by decide +kernel
theorem dX6_pay_49 : decode cX6_pay 49 = .ok (.putfield 117, 3) := by decide +kernel
theorem dX6_pay_52 : decode cX6_pay 52 = .ok (.aload_n 0, 1) := by decide +kernel
theorem dX6_pay_53 : decode cX6_pay 53 = .ok (.iload_n 1, 1) := by decide +kernel
theorem dX6_pay_54 : decode cX6_pay 54 = .ok (.invokevirtual 120, 3) := by decide +kernel
theorem dX6_pay_57 : decode cX6_pay 57 = .ok (.ireturn, 1) := by decide +kernel
set_option maxRecDepth 20000 in
set_option maxHeartbeats 4000000 in
theorem c_X6_pay {a : Nat → Nat} {q : Nat → ClassId}   {mtd : Int32} {mnk : Int32} {mva : Nat → Int32} {mno : Nat → Int32} {mro : Nat → Int32} {mtu : Nat → Int32} {mbx : Nat → Int32} {mst : Nat → Int32} {mja : Nat → Int32} {mpr : Nat → Int32} {mcr : Int32} {mow : Int32} {mhd : Int32} {mmo : Int32} {mbk : Nat → Int32} {mca : Nat → Int32} {mfr : Nat → Int32} {mrs : Int32} {mrk : Nat → Int32} {mfe : Nat → Int32} {mus : Nat → Int32} {mgi : Nat → Int32} {maj : Nat → Int32} {K : Int32 → Int32 → (Nat → Int32) → (Nat → Int32) → (Nat → Int32) → Int32 → (Nat → Int32) → (Nat → Int32) → (Nat → Int32) → Int32 → (Nat → Int32) → (Nat → Int32) → (Nat → Int32) → (Nat → Int32) → Prop} (h : wp_X6_pay mtd mnk mva mno mtu mst mja mow mmo mbk mca mfr mrs mrk mfe mus mgi K) : ctI_13 q yX6_pay cX6_pay 2 5 117 [.ref (a 0)] (mdW a q mtd mnk mva mno mro mtu mbx mst mja mpr mcr mow mhd mmo mbk mca mfr mrs mrk mfe mus mgi maj) (fun (mtd : Int32) (mtu : Nat → Int32) (mst : Nat → Int32) (mja : Nat → Int32) (mow : Int32) (mbk : Nat → Int32) (mca : Nat → Int32) (mfr : Nat → Int32) (mrs : Int32) (mrk : Nat → Int32) (mfe : Nat → Int32) (mus : Nat → Int32) (mgi : Nat → Int32) => (mdW a q mtd mnk mva mno mro mtu mbx mst mja mpr mcr mow mhd mmo mbk mca mfr mrs mrk mfe mus mgi maj)) K := by
  refine met_I_13 (by decide) (Nat.le_of_ble_eq_true rfl) (fun Γ g hret => ?_)
  unfold wp_X6_pay at h
  show jw Γ 2 0 0 (mdW a q mtd mnk mva mno mro mtu mbx mst mja mpr mcr mow mhd mmo mbk mca mfr mrs mrk mfe mus mgi maj) [(0, .ref (a 0))] [] 0
  refine j_aload_n g 0 rfl dX6_pay_0 ?_
  refine j_iconst g (v := 0) (by decide) dX6_pay_1 ?_
  refine j_put g fl_X6_63 fp_X6_0 0 md_0 rfl rfl (Nat.le_of_ble_eq_true rfl) (ws' := (mdW a q (0 : Int32) mnk mva mno mro mtu mbx mst mja mpr mcr mow mhd mmo mbk mca mfr mrs mrk mfe mus mgi maj)) rfl dX6_pay_2 ?_
  refine j_aload_n g 0 rfl dX6_pay_5 ?_
  refine j_get g fl_X6_117 0 md_0 rfl dX6_pay_6 ?_
  refine j_if_eq g dX6_pay_9 (tgt := 22) (by decide) (fun c1 => ?_) (fun c1 => ?_)
  · replace h := h.1 c1
    refine j_iconst g (v := -1) (by decide) dX6_pay_22 ?_
    exact hret.go dX6_pay_23 h
  replace h := h.2 c1
  refine j_aload_n g 0 rfl dX6_pay_12 ?_
  refine j_get g fl_X6_117 0 md_0 rfl dX6_pay_13 ?_
  refine j_sipush g (v := 999) (by decide) dX6_pay_16 ?_
  refine j_icmp_le g dX6_pay_19 (tgt := 24) (by decide) (fun c2 => ?_) (fun c2 => ?_)
  rotate_left
  · replace h := h.2 c2
    refine j_iconst g (v := -1) (by decide) dX6_pay_22 ?_
    exact hret.go dX6_pay_23 h
  replace h := h.1 c2
  refine j_aload_n g 0 rfl dX6_pay_24 ?_
  refine j_callVV_2 g (As := []) (st := []) (c_X6_findSums  h) cl_X6_103 0 6 md_0 rfl rfl (Nat.le_of_ble_eq_true rfl) (Nat.le_of_ble_eq_true rfl) (Nat.zero_le _) (Nat.zero_le _) rfl rfl (Nat.le_of_ble_eq_true rfl) dX6_pay_25 (fun mca_3 mfr_3 h => ?_)
  refine j_ws (ws' := (mdW a q (0 : Int32) mnk mva mno mro mtu mbx mst mja mpr mcr mow mhd mmo mbk mca_3 mfr_3 mrs mrk mfe mus mgi maj)) rfl ?_
  refine j_aload_n g 0 rfl dX6_pay_28 ?_
  refine j_get g fl_X6_42 0 md_0 rfl dX6_pay_29 ?_
  refine j_aload_n g 0 rfl dX6_pay_32 ?_
  refine j_get g fl_X6_117 0 md_0 rfl dX6_pay_33 ?_
  obtain ⟨hv4, h⟩ := h
  refine j_zald g 10 md_10 hv4 dX6_pay_36 ?_
  refine j_if_ne g dX6_pay_37 (tgt := 42) (by decide) (fun c5 => ?_) (fun c5 => ?_)
  rotate_left
  · replace h := h.2 c5
    refine j_iconst g (v := -1) (by decide) dX6_pay_40 ?_
    exact hret.go dX6_pay_41 h
  replace h := h.1 c5
  refine j_aload_n g 0 rfl dX6_pay_42 ?_
  refine j_get g fl_X6_117 0 md_0 rfl dX6_pay_43 ?_
  refine j_istore_n g (lv' := [(1, .int mow), (0, .ref (a 0))]) (by decide) rfl dX6_pay_46 ?_
  refine j_aload_n g 1 rfl dX6_pay_47 ?_
  refine j_iconst g (v := 0) (by decide) dX6_pay_48 ?_
  refine j_put g fl_X6_117 fp_X6_11 0 md_0 rfl rfl (Nat.le_of_ble_eq_true rfl) (ws' := (mdW a q (0 : Int32) mnk mva mno mro mtu mbx mst mja mpr mcr (0 : Int32) mhd mmo mbk mca_3 mfr_3 mrs mrk mfe mus mgi maj)) rfl dX6_pay_49 ?_
  refine j_aload_n g 1 rfl dX6_pay_52 ?_
  refine j_iload_n g 0 rfl dX6_pay_53 ?_
  refine j_callVI_10 g (As := [.int mow]) (st := []) (c_X6_gives  h) cl_X6_120 0 6 md_0 rfl rfl (Nat.le_of_ble_eq_true rfl) (Nat.le_of_ble_eq_true rfl) (Nat.zero_le _) (Nat.zero_le _) rfl rfl (Nat.le_of_ble_eq_true rfl) dX6_pay_54 (fun r_6 mtu_6 mst_6 mja_6 mow_6 mbk_6 mrs_6 mrk_6 mfe_6 mus_6 mgi_6  h => ?_)
  refine j_ws (ws' := (mdW a q (0 : Int32) mnk mva mno mro mtu_6 mbx mst_6 mja_6 mpr mcr mow_6 mhd mmo mbk_6 mca_3 mfr_3 mrs_6 mrk_6 mfe_6 mus_6 mgi_6 maj)) rfl ?_
  exact hret.go dX6_pay_57 h

set_option maxRecDepth 20000 in
def wp_X6_gave (x1 : Int32) (mtd : Int32) (mnk : Int32) (mgi : Nat → Int32) (K : Int32 → Int32 → Prop) : Prop :=
  wp_X6_isKind x1 mnk (fun (r_1 : Int32)  => ((r_1 = 0 → K (-1 : Int32) (0 : Int32)) ∧ (¬ r_1 = 0 → (vp_in x1 6 ∧ K (mgi x1.toNatClampNeg) (0 : Int32)))))
theorem dX6_gave_0 : decode cX6_gave 0 = .ok (.aload_n 0, 1) := by decide +kernel
theorem dX6_gave_1 : decode cX6_gave 1 = .ok (.iconst 0, 1) := by decide +kernel
theorem dX6_gave_2 : decode cX6_gave 2 = .ok (.putfield 63, 3) := by decide +kernel
theorem dX6_gave_5 : decode cX6_gave 5 = .ok (.aload_n 0, 1) := by decide +kernel
theorem dX6_gave_6 : decode cX6_gave 6 = .ok (.iload_n 1, 1) := by decide +kernel
theorem dX6_gave_7 : decode cX6_gave 7 = .ok (.invokevirtual 69, 3) := by decide +kernel
theorem dX6_gave_10 : decode cX6_gave 10 = .ok (.ifCond .eq 12, 3) := by decide +kernel
theorem dX6_gave_13 : decode cX6_gave 13 = .ok (.aload_n 0, 1) := by decide +kernel
theorem dX6_gave_14 : decode cX6_gave 14 = .ok (.getfield 57, 3) := by decide +kernel
theorem dX6_gave_17 : decode cX6_gave 17 = .ok (.iload_n 1, 1) := by decide +kernel
theorem dX6_gave_18 : decode cX6_gave 18 = .ok (.iaload, 1) := by decide +kernel
theorem dX6_gave_19 : decode cX6_gave 19 = .ok (.goto 4, 3) := by decide +kernel
theorem dX6_gave_22 : decode cX6_gave 22 = .ok (.iconst (-1), 1) := by decide +kernel
theorem dX6_gave_23 : decode cX6_gave 23 = .ok (.ireturn, 1) := by decide +kernel
set_option maxRecDepth 20000 in
set_option maxHeartbeats 4000000 in
theorem c_X6_gave {a : Nat → Nat} {q : Nat → ClassId} {x1 : Int32}  {mtd : Int32} {mnk : Int32} {mva : Nat → Int32} {mno : Nat → Int32} {mro : Nat → Int32} {mtu : Nat → Int32} {mbx : Nat → Int32} {mst : Nat → Int32} {mja : Nat → Int32} {mpr : Nat → Int32} {mcr : Int32} {mow : Int32} {mhd : Int32} {mmo : Int32} {mbk : Nat → Int32} {mca : Nat → Int32} {mfr : Nat → Int32} {mrs : Int32} {mrk : Nat → Int32} {mfe : Nat → Int32} {mus : Nat → Int32} {mgi : Nat → Int32} {maj : Nat → Int32} {K : Int32 → Int32 → Prop} (h : wp_X6_gave x1 mtd mnk mgi K) : ctI_1 q yX6_gave cX6_gave 2 1 21 [.ref (a 0), .int x1] (mdW a q mtd mnk mva mno mro mtu mbx mst mja mpr mcr mow mhd mmo mbk mca mfr mrs mrk mfe mus mgi maj) (fun (mtd : Int32) => (mdW a q mtd mnk mva mno mro mtu mbx mst mja mpr mcr mow mhd mmo mbk mca mfr mrs mrk mfe mus mgi maj)) K := by
  refine met_I_1 (by decide) (Nat.le_of_ble_eq_true rfl) (fun Γ g hret => ?_)
  unfold wp_X6_gave at h
  show jw Γ 2 0 0 (mdW a q mtd mnk mva mno mro mtu mbx mst mja mpr mcr mow mhd mmo mbk mca mfr mrs mrk mfe mus mgi maj) [(0, .ref (a 0)), (1, .int x1)] [] 0
  refine j_aload_n g 0 rfl dX6_gave_0 ?_
  refine j_iconst g (v := 0) (by decide) dX6_gave_1 ?_
  refine j_put g fl_X6_63 fp_X6_0 0 md_0 rfl rfl (Nat.le_of_ble_eq_true rfl) (ws' := (mdW a q (0 : Int32) mnk mva mno mro mtu mbx mst mja mpr mcr mow mhd mmo mbk mca mfr mrs mrk mfe mus mgi maj)) rfl dX6_gave_2 ?_
  refine j_aload_n g 0 rfl dX6_gave_5 ?_
  refine j_iload_n g 1 rfl dX6_gave_6 ?_
  refine j_callVZ_0 g (As := [.int x1]) (st := []) (c_X6_isKind  h) cl_X6_69 0 6 md_0 rfl rfl (Nat.le_of_ble_eq_true rfl) (Nat.le_of_ble_eq_true rfl) (Nat.zero_le _) (Nat.zero_le _) rfl rfl (Nat.le_of_ble_eq_true rfl) dX6_gave_7 (fun r_1  hz_1 h => ?_)
  refine j_if_eq g dX6_gave_10 (tgt := 22) (by decide) (fun c2 => ?_) (fun c2 => ?_)
  · replace h := h.1 c2
    refine j_iconst g (v := -1) (by decide) dX6_gave_22 ?_
    exact hret.go dX6_gave_23 h
  replace h := h.2 c2
  refine j_aload_n g 0 rfl dX6_gave_13 ?_
  refine j_get g fl_X6_57 0 md_0 rfl dX6_gave_14 ?_
  refine j_iload_n g 1 rfl dX6_gave_17 ?_
  obtain ⟨hv3, h⟩ := h
  refine j_iald g 15 md_15 hv3 dX6_gave_18 ?_
  refine j_goto g dX6_gave_19 (tgt := 23) (by decide) ?_
  exact hret.go dX6_gave_23 h
