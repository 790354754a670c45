set_option maxRecDepth 20000 in
def wp_X1_isOut_2 (x2 : Int32) (sz : Int32) (pr : Nat → Int32) (kv : Nat → Int32) (kn : Nat → Int32) (kr : Nat → Int32) (kt : Nat → Int32) (ks : Nat → Int32) (wd : Nat → Nat → Int64) (ad : Nat → Int32) (K : Int32 → Prop) (X : Prop) : Nat → Int32 → Prop
  | 0, _ => False
  | n + 1, x3 => ((sz ≤ x3 → X) ∧ (¬ sz ≤ x3 → (vp_in x3 6 ∧ jn (fun (Z3 : Int32 → Prop) => ((kn x3.toNatClampNeg = 0 → Z3 (0 : Int32)) ∧ (¬ kn x3.toNatClampNeg = 0 → Z3 (kv x3.toNatClampNeg)))) (fun (xs0_3 : Int32) => (vp_in x3 6 ∧ wp_X0_free x3.toNatClampNeg kr kt (fun (r_5 : Int32)  => jn (fun (Z6 : Int32 → Prop) => ((r_5 ≤ ad x3.toNatClampNeg → Z6 (0 : Int32)) ∧ (¬ r_5 ≤ ad x3.toNatClampNeg → Z6 (1 : Int32)))) (fun (xs0_6 : Int32) => (vp_in x2 5 ∧ wp_X3_mayTake x3.toNatClampNeg xs0_6 (x2.toNatClampNeg + 1) (kv x3.toNatClampNeg) xs0_3 pr kv kn ks wd (fun (r_8 : Int32)  => ((¬ r_8 = 0 → wp_X1_isOut_2 x2 sz pr kv kn kr kt ks wd ad K X n (x3 + 1)) ∧ (r_8 = 0 → K (0 : Int32))))))))))))
set_option maxRecDepth 20000 in
def wp_X1_isOut (x2 : Int32) (sz : Int32) (pr : Nat → Int32) (kv : Nat → Int32) (kn : Nat → Int32) (kr : Nat → Int32) (kt : Nat → Int32) (ks : Nat → Int32) (wd : Nat → Nat → Int64) (ad : Nat → Int32) (K : Int32 → Prop) : Prop :=
  ∃ n1 : Nat, wp_X1_isOut_2 x2 sz pr kv kn kr kt ks wd ad K (K (1 : Int32)) n1 (0 : Int32)
theorem dX1_isOut_0 : decode cX1_isOut 0 = .ok (.iconst 0, 1) := by decide +kernel
theorem dX1_isOut_1 : decode cX1_isOut 1 = .ok (.istore_n 3, 1) := by decide +kernel
theorem dX1_isOut_2 : decode cX1_isOut 2 = .ok (.iload_n 3, 1) := by decide +kernel
theorem dX1_isOut_3 : decode cX1_isOut 3 = .ok (.aload_n 1, 1) := by decide +kernel
theorem dX1_isOut_4 : decode cX1_isOut 4 = .ok (.getfield 42, 3) := by decide +kernel
theorem dX1_isOut_7 : decode cX1_isOut 7 = .ok (.if_icmp .ge 83, 3) := by decide +kernel
theorem dX1_isOut_10 : decode cX1_isOut 10 = .ok (.aload_n 1, 1) := by decide +kernel
theorem dX1_isOut_11 : decode cX1_isOut 11 = .ok (.getfield 46, 3) := by decide +kernel
theorem dX1_isOut_14 : decode cX1_isOut 14 = .ok (.iload_n 3, 1) := by decide +kernel
theorem dX1_isOut_15 : decode cX1_isOut 15 = .ok (.aaload, 1) := by decide +kernel
theorem dX1_isOut_16 : decode cX1_isOut 16 = .ok (.astore 4, 2) := by decide +kernel
theorem dX1_isOut_18 : decode cX1_isOut 18 = .ok (.aload 4, 2) := by decide +kernel
theorem dX1_isOut_20 : decode cX1_isOut 20 = .ok (.getfield 71, 3) := by decide +kernel
theorem dX1_isOut_23 : decode cX1_isOut 23 = .ok (.ifCond .eq 11, 3) := by decide +kernel
theorem dX1_isOut_26 : decode cX1_isOut 26 = .ok (.aload 4, 2) := by decide +kernel
theorem dX1_isOut_28 : decode cX1_isOut 28 = .ok (.getfield 64, 3) := by decide +kernel
theorem dX1_isOut_31 : decode cX1_isOut 31 = .ok (.goto 4, 3) := by decide +kernel
theorem dX1_isOut_34 : decode cX1_isOut 34 = .ok (.iconst 0, 1) := by decide +kernel
theorem dX1_isOut_35 : decode cX1_isOut 35 = .ok (.istore 5, 2) := by decide +kernel
theorem dX1_isOut_37 : decode cX1_isOut 37 = .ok (.aload_n 0, 1) := by decide +kernel
theorem dX1_isOut_38 : decode cX1_isOut 38 = .ok (.getfield 9, 3) := by decide +kernel
theorem dX1_isOut_41 : decode cX1_isOut 41 = .ok (.iload_n 3, 1) := by decide +kernel
theorem dX1_isOut_42 : decode cX1_isOut 42 = .ok (.iaload, 1) := by decide +kernel
theorem dX1_isOut_43 : decode cX1_isOut 43 = .ok (.aload 4, 2) := by decide +kernel
theorem dX1_isOut_45 : decode cX1_isOut 45 = .ok (.invokevirtual 56, 3) := by decide +kernel
theorem dX1_isOut_48 : decode cX1_isOut 48 = .ok (.if_icmp .ge 7, 3) := by decide +kernel
theorem dX1_isOut_51 : decode cX1_isOut 51 = .ok (.iconst 1, 1) := by decide +kernel
theorem dX1_isOut_52 : decode cX1_isOut 52 = .ok (.goto 4, 3) := by decide +kernel
theorem dX1_isOut_55 : decode cX1_isOut 55 = .ok (.iconst 0, 1) := by decide +kernel
theorem dX1_isOut_56 : decode cX1_isOut 56 = .ok (.istore 6, 2) := by decide +kernel
theorem dX1_isOut_58 : decode cX1_isOut 58 = .ok (.aload_n 1, 1) := by decide +kernel
theorem dX1_isOut_59 : decode cX1_isOut 59 = .ok (.aload 4, 2) := by decide +kernel
theorem dX1_isOut_61 : decode cX1_isOut 61 = .ok (.iload 6, 2) := by decide +kernel
theorem dX1_isOut_63 : decode cX1_isOut 63 = .ok (.aload_n 0, 1) := by decide +kernel
theorem dX1_isOut_64 : decode cX1_isOut 64 = .ok (.getfield 17, 3) := by decide +kernel
theorem dX1_isOut_67 : decode cX1_isOut 67 = .ok (.iload_n 2, 1) := by decide +kernel
theorem dX1_isOut_68 : decode cX1_isOut 68 = .ok (.aaload, 1) := by decide +kernel
theorem dX1_isOut_69 : decode cX1_isOut 69 = .ok (.aload 4, 2) := by decide +kernel
theorem dX1_isOut_71 : decode cX1_isOut 71 = .ok (.getfield 64, 3) := by decide +kernel
theorem dX1_isOut_74 : decode cX1_isOut 74 = .ok (.iload 5, 2) := by decide +kernel
theorem dX1_isOut_76 : decode cX1_isOut 76 = .ok (.invokevirtual 75, 3) := by decide +kernel
theorem dX1_isOut_79 : decode cX1_isOut 79 = .ok (.ifCond .ne 5, 3) := by decide +kernel
theorem dX1_isOut_82 : decode cX1_isOut 82 = .ok (.iconst 0, 1) := by decide +kernel
theorem dX1_isOut_83 : decode cX1_isOut 83 = .ok (.ireturn, 1) := by decide +kernel
theorem dX1_isOut_84 : decode cX1_isOut 84 = .ok (.iinc 3 1, 3) := by decide +kernel
theorem dX1_isOut_87 : decode cX1_isOut 87 = .ok (.goto (-85), 3) := by decide +kernel
theorem dX1_isOut_90 : decode cX1_isOut 90 = .ok (.iconst 1, 1) := by decide +kernel
theorem dX1_isOut_91 : decode cX1_isOut 91 = .ok (.ireturn, 1) := by decide +kernel
set_option maxRecDepth 20000 in
set_option maxHeartbeats 4000000 in
theorem wk_X1_isOut_2 {Γ : GT} {a : Nat → Nat} {q : Nat → ClassId} {x2 : Int32}  {sz : Int32} {pr : Nat → Int32} {pm : Nat → Nat} {kv : Nat → Int32} {kn : Nat → Int32} {kr : Nat → Int32} {kt : Nat → Int32} {kb : Nat → Int32} {ks : Nat → Int32} {kj : Nat → Int32} {kw : Nat → Int32} {kg : Nat → Int32} {wd : Nat → Nat → Int64} {fw : Nat → Nat → Int32} {ad : Nat → Int32} {bk : Nat → Int32} {md : Int32} {cr : Int32} {ow : Int32} {hd : Int32} {K : Int32 → Prop} {X : Prop} (g : gd Γ cX1_isOut RX1 7 (rmz 3 71) q) (hret : rtZ_0 Γ cX1_isOut 7 (cgW a q sz pr pm kv kn kr kt kb ks kj kw kg wd fw ad bk md cr ow hd) K) (hX : X → jw Γ 7 0 0 (cgW a q sz pr pm kv kn kr kt kb ks kj kw kg wd fw ad bk md cr ow hd) [] [] 90) :
    ∀ (n : Nat) (x3 : Int32) , wp_X1_isOut_2 x2 sz pr kv kn kr kt ks wd ad K X n x3 → jw Γ 7 0 0 (cgW a q sz pr pm kv kn kr kt kb ks kj kw kg wd fw ad bk md cr ow hd) [(0, .ref (a 8)), (1, .ref (a 1)), (2, .int x2), (3, .int x3)] [] 2 := by
  intro n
  induction n with
  | zero =>
    intro _ h
    exact False.elim h
  | succ n ih =>
    intro x3 h
    unfold wp_X1_isOut_2 at h
    refine j_iload_n g 3 rfl dX1_isOut_2 ?_
    refine j_aload_n g 1 rfl dX1_isOut_3 ?_
    refine j_get g fl_X1_42 1 cg_1 rfl dX1_isOut_4 ?_
    refine j_icmp_ge g dX1_isOut_7 (tgt := 90) (by decide) (fun c1 => ?_) (fun c1 => ?_)
    · replace h := h.1 c1
      refine j_sub [] rfl ?_
      exact hX h
    replace h := h.2 c1
    refine j_aload_n g 1 rfl dX1_isOut_10 ?_
    refine j_get g fl_X1_46 1 cg_1 rfl dX1_isOut_11 ?_
    refine j_iload_n g 3 rfl dX1_isOut_14 ?_
    obtain ⟨hv2, h⟩ := h
    refine j_aald g 2 3 cg_2 rfl (by decide) hv2 rfl dX1_isOut_15 ?_
    refine j_astore g (lv' := [(4, .ref (a (11 + x3.toNatClampNeg))), (0, .ref (a 8)), (1, .ref (a 1)), (2, .int x2), (3, .int x3)]) (by decide) rfl dX1_isOut_16 ?_
    refine j_aload g 0 rfl dX1_isOut_18 ?_
    refine j_get g fl_X1_71 (11 + x3.toNatClampNeg) (cg_K (vp_lt hv2)) rfl dX1_isOut_20 ?_
    refine jn_cut h (fun Z3 eZ3 h => ?_)
    have hZ3 : ∀ (xs0_3 : Int32), Z3 xs0_3 → jw Γ 7 0 0 (cgW a q sz pr pm kv kn kr kt kb ks kj kw kg wd fw ad bk md cr ow hd) [(0, .ref (a 8)), (1, .ref (a 1)), (2, .int x2), (3, .int x3), (4, .ref (a (11 + x3.toNatClampNeg)))] [.int xs0_3] 35 := by
      intro xs0_3 h
      rw [eZ3] at h
      refine j_istore g (lv' := [(5, .int xs0_3), (0, .ref (a 8)), (1, .ref (a 1)), (2, .int x2), (3, .int x3), (4, .ref (a (11 + x3.toNatClampNeg)))]) (by decide) rfl dX1_isOut_35 ?_
      refine j_aload_n g 1 rfl dX1_isOut_37 ?_
      refine j_get g fl_X1_9 8 cg_8 rfl dX1_isOut_38 ?_
      refine j_iload_n g 4 rfl dX1_isOut_41 ?_
      obtain ⟨hv4, h⟩ := h
      refine j_iald g 9 cg_9 hv4 dX1_isOut_42 ?_
      refine j_aload g 5 rfl dX1_isOut_43 ?_
      refine j_callVI_0 g (As := []) (st := [.int (ad x3.toNatClampNeg)]) (c_X0_free (vp_lt hv2) h) cl_X1_56 (11 + x3.toNatClampNeg) 0 (cg_K (vp_lt hv2)) rfl rfl (Nat.le_of_ble_eq_true rfl) (Nat.le_of_ble_eq_true rfl) (Nat.zero_le _) (Nat.zero_le _) rfl rfl (Nat.le_of_ble_eq_true rfl) dX1_isOut_45 (fun r_5   h => ?_)
      refine jn_cut h (fun Z6 eZ6 h => ?_)
      have hZ6 : ∀ (xs0_6 : Int32), (xs0_6 = 0 ∨ xs0_6 = 1) → Z6 xs0_6 → jw Γ 7 0 0 (cgW a q sz pr pm kv kn kr kt kb ks kj kw kg wd fw ad bk md cr ow hd) [(0, .ref (a 8)), (1, .ref (a 1)), (2, .int x2), (3, .int x3), (4, .ref (a (11 + x3.toNatClampNeg))), (5, .int xs0_3)] [.int xs0_6] 56 := by
        intro xs0_6 hbs0_6 h
        rw [eZ6] at h
        refine j_istore g (lv' := [(6, .int xs0_6), (0, .ref (a 8)), (1, .ref (a 1)), (2, .int x2), (3, .int x3), (4, .ref (a (11 + x3.toNatClampNeg))), (5, .int xs0_3)]) (by decide) rfl dX1_isOut_56 ?_
        refine j_aload_n g 2 rfl dX1_isOut_58 ?_
        refine j_aload g 5 rfl dX1_isOut_59 ?_
        refine j_iload g 0 rfl dX1_isOut_61 ?_
        refine j_aload_n g 1 rfl dX1_isOut_63 ?_
        refine j_get g fl_X1_17 8 cg_8 rfl dX1_isOut_64 ?_
        refine j_iload_n g 3 rfl dX1_isOut_67 ?_
        obtain ⟨hv7, h⟩ := h
        refine j_aald g 10 4 cg_10 rfl (by decide) hv7 rfl dX1_isOut_68 ?_
        refine j_aload g 5 rfl dX1_isOut_69 ?_
        refine j_get g fl_X1_64 (11 + x3.toNatClampNeg) (cg_K (vp_lt hv2)) rfl dX1_isOut_71 ?_
        refine j_iload g 6 rfl dX1_isOut_74 ?_
        refine j_callVZ_0 g (As := [.ref (a (11 + x3.toNatClampNeg)), .int xs0_6, .ref (a (17 + (x2.toNatClampNeg + 1))), .int (kv x3.toNatClampNeg), .int xs0_3]) (st := []) (c_X3_mayTake (vp_lt hv2) hbs0_6 (Nat.succ_lt_succ (vp_lt hv7)) h) cl_X1_75 1 3 cg_1 rfl rfl (Nat.le_of_ble_eq_true rfl) (Nat.le_of_ble_eq_true rfl) (Nat.zero_le _) (Nat.zero_le _) rfl rfl (Nat.le_of_ble_eq_true rfl) dX1_isOut_76 (fun r_8  hz_8 h => ?_)
        refine j_if_ne g dX1_isOut_79 (tgt := 84) (by decide) (fun c9 => ?_) (fun c9 => ?_)
        rotate_left
        · replace h := h.2 c9
          refine j_iconst g (v := 0) (by decide) dX1_isOut_82 ?_
          exact hret.go dX1_isOut_83 (Or.inl rfl) h
        replace h := h.1 c9
        refine j_iinc g 4 (n := 1) (v := x3 + 1) (lv' := [(3, .int (x3 + 1)), (6, .int xs0_6), (0, .ref (a 8)), (1, .ref (a 1)), (2, .int x2), (4, .ref (a (11 + x3.toNatClampNeg))), (5, .int xs0_3)]) rfl rfl (by decide) rfl dX1_isOut_84 ?_
        refine j_goto g dX1_isOut_87 (tgt := 2) (by decide) ?_
        refine j_sub [2, 3, 4, 0] rfl ?_
        exact ih (x3 + 1) h
      refine j_icmp_ge g dX1_isOut_48 (tgt := 55) (by decide) (fun c10 => ?_) (fun c10 => ?_)
      · replace h := h.1 c10
        refine j_iconst g (v := 0) (by decide) dX1_isOut_55 ?_
        refine j_sub [1, 2, 3, 4, 5, 0] rfl ?_
        exact hZ6 (0 : Int32) (Or.inl rfl) h
      replace h := h.2 c10
      refine j_iconst g (v := 1) (by decide) dX1_isOut_51 ?_
      refine j_goto g dX1_isOut_52 (tgt := 56) (by decide) ?_
      refine j_sub [1, 2, 3, 4, 5, 0] rfl ?_
      exact hZ6 (1 : Int32) (Or.inr rfl) h
    refine j_if_eq g dX1_isOut_23 (tgt := 34) (by decide) (fun c11 => ?_) (fun c11 => ?_)
    · replace h := h.1 c11
      refine j_iconst g (v := 0) (by decide) dX1_isOut_34 ?_
      refine j_sub [1, 2, 3, 4, 0] rfl ?_
      exact hZ3 (0 : Int32) h
    replace h := h.2 c11
    refine j_aload g 0 rfl dX1_isOut_26 ?_
    refine j_get g fl_X1_64 (11 + x3.toNatClampNeg) (cg_K (vp_lt hv2)) rfl dX1_isOut_28 ?_
    refine j_goto g dX1_isOut_31 (tgt := 35) (by decide) ?_
    refine j_sub [1, 2, 3, 4, 0] rfl ?_
    exact hZ3 (kv x3.toNatClampNeg) h
set_option maxRecDepth 20000 in
set_option maxHeartbeats 4000000 in
theorem c_X1_isOut {a : Nat → Nat} {q : Nat → ClassId} {x2 : Int32}  {sz : Int32} {pr : Nat → Int32} {pm : Nat → Nat} {kv : Nat → Int32} {kn : Nat → Int32} {kr : Nat → Int32} {kt : Nat → Int32} {kb : Nat → Int32} {ks : Nat → Int32} {kj : Nat → Int32} {kw : Nat → Int32} {kg : Nat → Int32} {wd : Nat → Nat → Int64} {fw : Nat → Nat → Int32} {ad : Nat → Int32} {bk : Nat → Int32} {md : Int32} {cr : Int32} {ow : Int32} {hd : Int32} {K : Int32 → Prop} (h : wp_X1_isOut x2 sz pr kv kn kr kt ks wd ad K) : ctZ_0 q yX1_isOut cX1_isOut 7 3 71 [.ref (a 8), .ref (a 1), .int x2] (cgW a q sz pr pm kv kn kr kt kb ks kj kw kg wd fw ad bk md cr ow hd) (cgW a q sz pr pm kv kn kr kt kb ks kj kw kg wd fw ad bk md cr ow hd) K := by
  refine met_Z_0 (by decide) (Nat.le_of_ble_eq_true rfl) (fun Γ g hret => ?_)
  unfold wp_X1_isOut at h
  show jw Γ 7 0 0 (cgW a q sz pr pm kv kn kr kt kb ks kj kw kg wd fw ad bk md cr ow hd) [(0, .ref (a 8)), (1, .ref (a 1)), (2, .int x2)] [] 0
  refine j_iconst g (v := 0) (by decide) dX1_isOut_0 ?_
  refine j_istore_n g (lv' := [(3, .int (0 : Int32)), (0, .ref (a 8)), (1, .ref (a 1)), (2, .int x2)]) (by decide) rfl dX1_isOut_1 ?_
  obtain ⟨n1, h⟩ := h
  refine j_sub [1, 2, 3, 0] rfl ?_
  refine wk_X1_isOut_2  g hret (fun h => ?_) n1 (0 : Int32) h
  refine j_iconst g (v := 1) (by decide) dX1_isOut_90 ?_
  exact hret.go dX1_isOut_91 (Or.inr rfl) h

set_option maxRecDepth 20000 in
def wp_X1_putsOut_21 (REC : Int32 → Int32 → Int32 → Int32 → (Nat → Int32) → (Nat → Int32) → (Nat → Int32) → (Nat → Int32) → (Nat → Int32) → (Nat → Int32) → (Nat → Nat → Int64) → (Nat → Int32) → (Int32 → (Nat → Nat → Int64) → (Nat → Int32) → Prop) → Prop) (x2 : Int32) (x4 : Int32) (sz : Int32) (pr : Nat → Int32) (kv : Nat → Int32) (kn : Nat → Int32) (kr : Nat → Int32) (kt : Nat → Int32) (ks : Nat → Int32) (K : Int32 → (Nat → Nat → Int64) → (Nat → Int32) → Prop) (X : (Nat → Nat → Int64) → (Nat → Int32) → Prop) : Nat → Int32 → (Nat → Nat → Int64) → (Nat → Int32) → Prop
  | 0, _, _, _ => False
  | n + 1, x5, wd, ad => ((sz ≤ x5 → X wd ad) ∧ (¬ sz ≤ x5 → (vp_in x5 6 ∧ wp_X0_gives x5.toNatClampNeg kn ks (fun (r_3 : Int32)  => ((r_3 = 0 → wp_X1_putsOut_21 REC x2 x4 sz pr kv kn kr kt ks K X n (x5 + 1) wd ad) ∧ (¬ r_3 = 0 → (vp_in x5 6 ∧ wp_X0_free x5.toNatClampNeg kr kt (fun (r_6 : Int32)  => ((r_6 ≤ ad x5.toNatClampNeg → wp_X1_putsOut_21 REC x2 x4 sz pr kv kn kr kt ks K X n (x5 + 1) wd ad) ∧ (¬ r_6 ≤ ad x5.toNatClampNeg → (vp_in x5 6 ∧ (vp_in x5 6 ∧ (vp_in (x2 + (1 : Int32)) 5 ∧ (vp_in x2 5 ∧ wp_X2_copyOf ((x2 + (1 : Int32)).toNatClampNeg + 1) (x2.toNatClampNeg + 1) wd (fun (wd_12 : Nat → Nat → Int64) => (vp_in (x2 + (1 : Int32)) 5 ∧ wp_X2_addCoins ((x2 + (1 : Int32)).toNatClampNeg + 1) (kv x5.toNatClampNeg) (1 : Int32) wd_12 (fun (wd_14 : Nat → Nat → Int64) => REC (x2 + (1 : Int32)) x5 x4 sz pr kv kn kr kt ks wd_14 (upd ad x5.toNatClampNeg ((ad x5.toNatClampNeg) + (1 : Int32))) (fun (r_15 : Int32) (wd_15 : Nat → Nat → Int64) (ad_15 : Nat → Int32) => ((r_15 = 0 → (vp_in x5 6 ∧ (vp_in x5 6 ∧ wp_X1_putsOut_21 REC x2 x4 sz pr kv kn kr kt ks K X n (x5 + 1) wd_15 (upd ad_15 x5.toNatClampNeg ((ad_15 x5.toNatClampNeg) - (1 : Int32)))))) ∧ (¬ r_15 = 0 → K (1 : Int32) wd_15 ad_15))))))))))))))))))))
set_option maxRecDepth 20000 in
def wp_X1_putsOut : Nat → Int32 → Int32 → Int32 → Int32 → (Nat → Int32) → (Nat → Int32) → (Nat → Int32) → (Nat → Int32) → (Nat → Int32) → (Nat → Int32) → (Nat → Nat → Int64) → (Nat → Int32) → (Int32 → (Nat → Nat → Int64) → (Nat → Int32) → Prop) → Prop
  | 0, _, _, _, _, _, _, _, _, _, _, _, _, _ => False
  | d + 1, x2, x3, x4, sz, pr, kv, kn, kr, kt, ks, wd, ad, K => ((x4 ≤ x2 → wp_X1_isOut x2 sz pr kv kn kr kt ks wd ad (fun (r_2 : Int32)  => K r_2 wd ad)) ∧ (¬ x4 ≤ x2 → ((x2 < (4 : Int32) → ∃ n4 : Nat, wp_X1_putsOut_21 (wp_X1_putsOut d) x2 x4 sz pr kv kn kr kt ks K (fun (wd_4 : Nat → Nat → Int64) (ad_4 : Nat → Int32) => K (0 : Int32) wd_4 ad_4) n4 x3 wd ad) ∧ (¬ x2 < (4 : Int32) → wp_X1_isOut x2 sz pr kv kn kr kt ks wd ad (fun (r_5 : Int32)  => K r_5 wd ad)))))
theorem dX1_putsOut_0 : decode cX1_putsOut 0 = .ok (.iload_n 2, 1) := by decide +kernel
theorem dX1_putsOut_1 : decode cX1_putsOut 1 = .ok (.iload 4, 2) := by decide +kernel
theorem dX1_putsOut_3 : decode cX1_putsOut 3 = .ok (.if_icmp .ge 8, 3) := by decide +kernel
theorem dX1_putsOut_6 : decode cX1_putsOut 6 = .ok (.iload_n 2, 1) := by decide +kernel
theorem dX1_putsOut_7 : decode cX1_putsOut 7 = .ok (.iconst 4, 1) := by decide +kernel
theorem dX1_putsOut_8 : decode cX1_putsOut 8 = .ok (.if_icmp .lt 10, 3) := by decide +kernel
theorem dX1_putsOut_11 : decode cX1_putsOut 11 = .ok (.aload_n 0, 1) := by decide +kernel
theorem dX1_putsOut_12 : decode cX1_putsOut 12 = .ok (.aload_n 1, 1) := by decide +kernel
theorem dX1_putsOut_13 : decode cX1_putsOut 13 = .ok (.iload_n 2, 1) := by decide +kernel
theorem dX1_putsOut_14 : decode cX1_putsOut 14 = .ok (.invokevirtual 38, 3) := by decide +kernel
theorem dX1_putsOut_17 : decode cX1_putsOut 17 = .ok (.ireturn, 1) := by decide +kernel
theorem dX1_putsOut_18 : decode cX1_putsOut 18 = .ok (.iload_n 3, 1) := by decide +kernel
theorem dX1_putsOut_19 : decode cX1_putsOut 19 = .ok (.istore 5, 2) := by decide +kernel
theorem dX1_putsOut_21 : decode cX1_putsOut 21 = .ok (.iload 5, 2) := by decide +kernel
theorem dX1_putsOut_23 : decode cX1_putsOut 23 = .ok (.aload_n 1, 1) := by decide +kernel
theorem dX1_putsOut_24 : decode cX1_putsOut 24 = .ok (.getfield 42, 3) := by decide +kernel
theorem dX1_putsOut_27 : decode cX1_putsOut 27 = .ok (.if_icmp .ge 114, 3) := by decide +kernel
theorem dX1_putsOut_30 : decode cX1_putsOut 30 = .ok (.aload_n 1, 1) := by decide +kernel
theorem dX1_putsOut_31 : decode cX1_putsOut 31 = .ok (.getfield 46, 3) := by decide +kernel
theorem dX1_putsOut_34 : decode cX1_putsOut 34 = .ok (.iload 5, 2) := by decide +kernel
theorem dX1_putsOut_36 : decode cX1_putsOut 36 = .ok (.aaload, 1) := by decide +kernel
theorem dX1_putsOut_37 : decode cX1_putsOut 37 = .ok (.astore 6, 2) := by decide +kernel
theorem dX1_putsOut_39 : decode cX1_putsOut 39 = .ok (.aload 6, 2) := by decide +kernel
theorem dX1_putsOut_41 : decode cX1_putsOut 41 = .ok (.invokevirtual 50, 3) := by decide +kernel
theorem dX1_putsOut_44 : decode cX1_putsOut 44 = .ok (.ifCond .eq 91, 3) := by decide +kernel
theorem dX1_putsOut_47 : decode cX1_putsOut 47 = .ok (.aload_n 0, 1) := by decide +kernel
theorem dX1_putsOut_48 : decode cX1_putsOut 48 = .ok (.getfield 9, 3) := by decide +kernel
theorem dX1_putsOut_51 : decode cX1_putsOut 51 = .ok (.iload 5, 2) := by decide +kernel
theorem dX1_putsOut_53 : decode cX1_putsOut 53 = .ok (.iaload, 1) := by decide +kernel
theorem dX1_putsOut_54 : decode cX1_putsOut 54 = .ok (.aload 6, 2) := by decide +kernel
theorem dX1_putsOut_56 : decode cX1_putsOut 56 = .ok (.invokevirtual 56, 3) := by decide +kernel
theorem dX1_putsOut_59 : decode cX1_putsOut 59 = .ok (.if_icmp .ge 76, 3) := by decide +kernel
theorem dX1_putsOut_62 : decode cX1_putsOut 62 = .ok (.aload_n 0, 1) := by decide +kernel
theorem dX1_putsOut_63 : decode cX1_putsOut 63 = .ok (.getfield 9, 3) := by decide +kernel
theorem dX1_putsOut_66 : decode cX1_putsOut 66 = .ok (.iload 5, 2) := by decide +kernel
theorem dX1_putsOut_68 : decode cX1_putsOut 68 = .ok (.dup2, 1) := by decide +kernel
theorem dX1_putsOut_69 : decode cX1_putsOut 69 = .ok (.iaload, 1) := by decide +kernel
theorem dX1_putsOut_70 : decode cX1_putsOut 70 = .ok (.iconst 1, 1) := by decide +kernel
theorem dX1_putsOut_71 : decode cX1_putsOut 71 = .ok (.iadd, 1) := by decide +kernel
theorem dX1_putsOut_72 : decode cX1_putsOut 72 = .ok (.iastore, 1) := by decide +kernel
theorem dX1_putsOut_73 : decode cX1_putsOut 73 = .ok (.aload_n 0, 1) := by decide +kernel
theorem dX1_putsOut_74 : decode cX1_putsOut 74 = .ok (.getfield 17, 3) := by decide +kernel
theorem dX1_putsOut_77 : decode cX1_putsOut 77 = .ok (.iload_n 2, 1) := by decide +kernel
theorem dX1_putsOut_78 : decode cX1_putsOut 78 = .ok (.iconst 1, 1) := by decide +kernel
theorem dX1_putsOut_79 : decode cX1_putsOut 79 = .ok (.iadd, 1) := by decide +kernel
theorem dX1_putsOut_80 : decode cX1_putsOut 80 = .ok (.aaload, 1) := by decide +kernel
theorem dX1_putsOut_81 : decode cX1_putsOut 81 = .ok (.aload_n 0, 1) := by decide +kernel
theorem dX1_putsOut_82 : decode cX1_putsOut 82 = .ok (.getfield 17, 3) := by decide +kernel
theorem dX1_putsOut_85 : decode cX1_putsOut 85 = .ok (.iload_n 2, 1) := by decide +kernel
theorem dX1_putsOut_86 : decode cX1_putsOut 86 = .ok (.aaload, 1) := by decide +kernel
theorem dX1_putsOut_87 : decode cX1_putsOut 87 = .ok (.invokevirtual 60, 3) := by decide +kernel
theorem dX1_putsOut_90 : decode cX1_putsOut 90 = .ok (.aload_n 0, 1) := by decide +kernel
theorem dX1_putsOut_91 : decode cX1_putsOut 91 = .ok (.getfield 17, 3) := by decide +kernel
theorem dX1_putsOut_94 : decode cX1_putsOut 94 = .ok (.iload_n 2, 1) := by decide +kernel
theorem dX1_putsOut_95 : decode cX1_putsOut 95 = .ok (.iconst 1, 1) := by decide +kernel
theorem dX1_putsOut_96 : decode cX1_putsOut 96 = .ok (.iadd, 1) := by decide +kernel
theorem dX1_putsOut_97 : decode cX1_putsOut 97 = .ok (.aaload, 1) := by decide +kernel
theorem dX1_putsOut_98 : decode cX1_putsOut 98 = .ok (.aload 6, 2) := by decide +kernel
theorem dX1_putsOut_100 : decode cX1_putsOut 100 = .ok (.getfield 64, 3) := by decide +kernel
theorem dX1_putsOut_103 : decode cX1_putsOut 103 = .ok (.iconst 1, 1) := by decide +kernel
theorem dX1_putsOut_104 : decode cX1_putsOut 104 = .ok (.invokevirtual 67, 3) := by decide +kernel
theorem dX1_putsOut_107 : decode cX1_putsOut 107 = .ok (.aload_n 0, 1) := by decide +kernel
theorem dX1_putsOut_108 : decode cX1_putsOut 108 = .ok (.aload_n 1, 1) := by decide +kernel
theorem dX1_putsOut_109 : decode cX1_putsOut 109 = .ok (.iload_n 2, 1) := by decide +kernel
theorem dX1_putsOut_110 : decode cX1_putsOut 110 = .ok (.iconst 1, 1) := by decide +kernel
theorem dX1_putsOut_111 : decode cX1_putsOut 111 = .ok (.iadd, 1) := by decide +kernel
theorem dX1_putsOut_112 : decode cX1_putsOut 112 = .ok (.iload 5, 2) := by decide +kernel
theorem dX1_putsOut_114 : decode cX1_putsOut 114 = .ok (.iload 4, 2) := by decide +kernel
theorem dX1_putsOut_116 : decode cX1_putsOut 116 = .ok (.invokestatic 34, 3) := by decide +kernel
theorem dX1_putsOut_119 : decode cX1_putsOut 119 = .ok (.ifCond .eq 5, 3) := by decide +kernel
theorem dX1_putsOut_122 : decode cX1_putsOut 122 = .ok (.iconst 1, 1) := by decide +kernel
theorem dX1_putsOut_123 : decode cX1_putsOut 123 = .ok (.ireturn, 1) := by decide +kernel
theorem dX1_putsOut_124 : decode cX1_putsOut 124 = .ok (.aload_n 0, 1) := by decide +kernel
theorem dX1_putsOut_125 : decode cX1_putsOut 125 = .ok (.getfield 9, 3) := by decide +kernel
theorem dX1_putsOut_128 : decode cX1_putsOut 128 = .ok (.iload 5, 2) := by decide +kernel
theorem dX1_putsOut_130 : decode cX1_putsOut 130 = .ok (.dup2, 1) := by decide +kernel
theorem dX1_putsOut_131 : decode cX1_putsOut 131 = .ok (.iaload, 1) := by decide +kernel
theorem dX1_putsOut_132 : decode cX1_putsOut 132 = .ok (.iconst 1, 1) := by decide +kernel
theorem dX1_putsOut_133 : decode cX1_putsOut 133 = .ok (.isub, 1) := by decide +kernel
theorem dX1_putsOut_134 : decode cX1_putsOut 134 = .ok (.iastore, 1) := by decide +kernel
theorem dX1_putsOut_135 : decode cX1_putsOut 135 = .ok (.iinc 5 1, 3) := by decide +kernel
theorem dX1_putsOut_138 : decode cX1_putsOut 138 = .ok (.goto (-117), 3) := by decide +kernel
theorem dX1_putsOut_141 : decode cX1_putsOut 141 = .ok (.iconst 0, 1) := by decide +kernel
theorem dX1_putsOut_142 : decode cX1_putsOut 142 = .ok (.ireturn, 1) := by decide +kernel
def frR (d : Nat) : Nat := d + 4
def loR (d : Nat) : Nat := d * 26 + 97
theorem frR_c {n d : Nat} (h : n ≤ 4) : n ≤ (rmz (frR d) (loR d)).frames := Nat.le_trans h (Nat.le_add_left _ _)
theorem loR_c {n d : Nat} (h : n ≤ 97) : n ≤ (rmz (frR d) (loR d)).locals := Nat.le_trans h (Nat.le_add_left _ _)
theorem frR_s (d : Nat) : frR d + 1 ≤ (rmz (frR (d + 1)) (loR (d + 1))).frames := by show d + _ + 1 ≤ d + 1 + _; omega
theorem loR_s (d : Nat) : 8 + (7 + 11) + loR d ≤ (rmz (frR (d + 1)) (loR (d + 1))).locals := by show 8 + (7 + 11) + (d * 26 + 97) ≤ (d + 1) * 26 + 97; omega
set_option maxRecDepth 20000 in
set_option maxHeartbeats 4000000 in
theorem wk_X1_putsOut_21 {Γ : GT} {a : Nat → Nat} {q : Nat → ClassId} {x2 : Int32} {x4 : Int32}  {sz : Int32} {pr : Nat → Int32} {pm : Nat → Nat} {kv : Nat → Int32} {kn : Nat → Int32} {kr : Nat → Int32} {kt : Nat → Int32} {kb : Nat → Int32} {ks : Nat → Int32} {kj : Nat → Int32} {kw : Nat → Int32} {kg : Nat → Int32} {fw : Nat → Nat → Int32} {bk : Nat → Int32} {md : Int32} {cr : Int32} {ow : Int32} {hd : Int32} {REC : Int32 → Int32 → Int32 → Int32 → (Nat → Int32) → (Nat → Int32) → (Nat → Int32) → (Nat → Int32) → (Nat → Int32) → (Nat → Int32) → (Nat → Nat → Int64) → (Nat → Int32) → (Int32 → (Nat → Nat → Int64) → (Nat → Int32) → Prop) → Prop} {K : Int32 → (Nat → Nat → Int64) → (Nat → Int32) → Prop} {X : (Nat → Nat → Int64) → (Nat → Int32) → Prop} {d : Nat} (g : gd Γ cX1_putsOut RX1 7 (rmz (frR (d + 1)) (loR (d + 1))) q) (hret : rtZ_2 Γ cX1_putsOut 7 (fun (wd : Nat → Nat → Int64) (ad : Nat → Int32) => (cgW a q sz pr pm kv kn kr kt kb ks kj kw kg wd fw ad bk md cr ow hd)) K) (hX : ∀ (wd : Nat → Nat → Int64) (ad : Nat → Int32) , X wd ad → jw Γ 7 0 0 (cgW a q sz pr pm kv kn kr kt kb ks kj kw kg wd fw ad bk md cr ow hd) [] [] 141) (hrec : ∀ {x2' : Int32} {x3' : Int32} {x4' : Int32} {sz' : Int32} {pr' : Nat → Int32} {kv' : Nat → Int32} {kn' : Nat → Int32} {kr' : Nat → Int32} {kt' : Nat → Int32} {ks' : Nat → Int32} {wd' : Nat → Nat → Int64} {ad' : Nat → Int32} {K' : Int32 → (Nat → Nat → Int64) → (Nat → Int32) → Prop}, REC x2' x3' x4' sz' pr' kv' kn' kr' kt' ks' wd' ad' K' → ctZ_2 q yX1_putsOut cX1_putsOut 7 (frR d) (loR d) [.ref (a 8), .ref (a 1), .int x2', .int x3', .int x4'] (cgW a q sz' pr' pm kv' kn' kr' kt' kb ks' kj kw kg wd' fw ad' bk md cr ow hd) (fun (wd : Nat → Nat → Int64) (ad : Nat → Int32) => (cgW a q sz' pr' pm kv' kn' kr' kt' kb ks' kj kw kg wd fw ad bk md cr ow hd)) K') :
    ∀ (n : Nat) (x5 : Int32) (wd : Nat → Nat → Int64) (ad : Nat → Int32) , wp_X1_putsOut_21 REC x2 x4 sz pr kv kn kr kt ks K X n x5 wd ad → jw Γ 7 0 0 (cgW a q sz pr pm kv kn kr kt kb ks kj kw kg wd fw ad bk md cr ow hd) [(0, .ref (a 8)), (1, .ref (a 1)), (2, .int x2), (4, .int x4), (5, .int x5)] [] 21 := by
  intro n
  induction n with
  | zero =>
    intro _ _ _ h
    exact False.elim h
  | succ n ih =>
    intro x5 wd ad h
    unfold wp_X1_putsOut_21 at h
    refine j_iload g 4 rfl dX1_putsOut_21 ?_
    refine j_aload_n g 1 rfl dX1_putsOut_23 ?_
    refine j_get g fl_X1_42 1 cg_1 rfl dX1_putsOut_24 ?_
    refine j_icmp_ge g dX1_putsOut_27 (tgt := 141) (by decide) (fun c1 => ?_) (fun c1 => ?_)
    · replace h := h.1 c1
      refine j_sub [] rfl ?_
      exact hX wd ad h
    replace h := h.2 c1
    refine j_aload_n g 1 rfl dX1_putsOut_30 ?_
    refine j_get g fl_X1_46 1 cg_1 rfl dX1_putsOut_31 ?_
    refine j_iload g 4 rfl dX1_putsOut_34 ?_
    obtain ⟨hv2, h⟩ := h
    refine j_aald g 2 3 cg_2 rfl (by decide) hv2 rfl dX1_putsOut_36 ?_
    refine j_astore g (lv' := [(6, .ref (a (11 + x5.toNatClampNeg))), (0, .ref (a 8)), (1, .ref (a 1)), (2, .int x2), (4, .int x4), (5, .int x5)]) (by decide) rfl dX1_putsOut_37 ?_
    refine j_aload g 0 rfl dX1_putsOut_39 ?_
    refine j_callVZ_0 g (As := []) (st := []) (c_X0_gives (vp_lt hv2) h) cl_X1_50 (11 + x5.toNatClampNeg) 0 (cg_K (vp_lt hv2)) rfl rfl (frR_c (by decide)) (loR_c (by decide)) (Nat.zero_le _) (Nat.zero_le _) rfl rfl (Nat.le_of_ble_eq_true rfl) dX1_putsOut_41 (fun r_3  hz_3 h => ?_)
    refine j_if_eq g dX1_putsOut_44 (tgt := 135) (by decide) (fun c4 => ?_) (fun c4 => ?_)
    · replace h := h.1 c4
      refine j_iinc g 5 (n := 1) (v := x5 + 1) (lv' := [(5, .int (x5 + 1)), (6, .ref (a (11 + x5.toNatClampNeg))), (0, .ref (a 8)), (1, .ref (a 1)), (2, .int x2), (4, .int x4)]) rfl rfl (by decide) rfl dX1_putsOut_135 ?_
      refine j_goto g dX1_putsOut_138 (tgt := 21) (by decide) ?_
      refine j_sub [2, 3, 4, 5, 0] rfl ?_
      exact ih (x5 + 1) wd ad h
    replace h := h.2 c4
    refine j_aload_n g 1 rfl dX1_putsOut_47 ?_
    refine j_get g fl_X1_9 8 cg_8 rfl dX1_putsOut_48 ?_
    refine j_iload g 5 rfl dX1_putsOut_51 ?_
    obtain ⟨hv5, h⟩ := h
    refine j_iald g 9 cg_9 hv5 dX1_putsOut_53 ?_
    refine j_aload g 0 rfl dX1_putsOut_54 ?_
    refine j_callVI_0 g (As := []) (st := [.int (ad x5.toNatClampNeg)]) (c_X0_free (vp_lt hv2) h) cl_X1_56 (11 + x5.toNatClampNeg) 0 (cg_K (vp_lt hv2)) rfl rfl (frR_c (by decide)) (loR_c (by decide)) (Nat.zero_le _) (Nat.zero_le _) rfl rfl (Nat.le_of_ble_eq_true rfl) dX1_putsOut_56 (fun r_6   h => ?_)
    refine j_icmp_ge g dX1_putsOut_59 (tgt := 135) (by decide) (fun c7 => ?_) (fun c7 => ?_)
    · replace h := h.1 c7
      refine j_iinc g 5 (n := 1) (v := x5 + 1) (lv' := [(5, .int (x5 + 1)), (6, .ref (a (11 + x5.toNatClampNeg))), (0, .ref (a 8)), (1, .ref (a 1)), (2, .int x2), (4, .int x4)]) rfl rfl (by decide) rfl dX1_putsOut_135 ?_
      refine j_goto g dX1_putsOut_138 (tgt := 21) (by decide) ?_
      refine j_sub [2, 3, 4, 5, 0] rfl ?_
      exact ih (x5 + 1) wd ad h
    replace h := h.2 c7
    refine j_aload_n g 1 rfl dX1_putsOut_62 ?_
    refine j_get g fl_X1_9 8 cg_8 rfl dX1_putsOut_63 ?_
    refine j_iload g 5 rfl dX1_putsOut_66 ?_
    refine j_dup2 g rfl rfl dX1_putsOut_68 ?_
    obtain ⟨hv8, h⟩ := h
    refine j_iald g 9 cg_9 hv8 dX1_putsOut_69 ?_
    refine j_iconst g (v := 1) (by decide) dX1_putsOut_70 ?_
    refine j_iadd g dX1_putsOut_71 ?_
    obtain ⟨hv9, h⟩ := h
    refine j_iast g 9 cg_9 hv9 (ws' := (cgW a q sz pr pm kv kn kr kt kb ks kj kw kg wd fw (upd ad x5.toNatClampNeg ((ad x5.toNatClampNeg) + (1 : Int32))) bk md cr ow hd)) rfl dX1_putsOut_72 ?_
    refine j_aload_n g 1 rfl dX1_putsOut_73 ?_
    refine j_get g fl_X1_17 8 cg_8 rfl dX1_putsOut_74 ?_
    refine j_iload_n g 3 rfl dX1_putsOut_77 ?_
    refine j_iconst g (v := 1) (by decide) dX1_putsOut_78 ?_
    refine j_iadd g dX1_putsOut_79 ?_
    obtain ⟨hv10, h⟩ := h
    refine j_aald g 10 4 cg_10 rfl (by decide) hv10 rfl dX1_putsOut_80 ?_
    refine j_aload_n g 1 rfl dX1_putsOut_81 ?_
    refine j_get g fl_X1_17 8 cg_8 rfl dX1_putsOut_82 ?_
    refine j_iload_n g 3 rfl dX1_putsOut_85 ?_
    obtain ⟨hv11, h⟩ := h
    refine j_aald g 10 4 cg_10 rfl (by decide) hv11 rfl dX1_putsOut_86 ?_
    refine j_callVV_1 g (As := [.ref (a (17 + (x2.toNatClampNeg + 1)))]) (st := []) (c_X2_copyOf (Nat.succ_lt_succ (vp_lt hv10)) (Nat.succ_lt_succ (vp_lt hv11)) h) cl_X1_60 (17 + ((x2 + (1 : Int32)).toNatClampNeg + 1)) 2 (cg_S (Nat.succ_lt_succ (vp_lt hv10))) rfl rfl (frR_c (by decide)) (loR_c (by decide)) (Nat.zero_le _) (Nat.zero_le _) rfl rfl (Nat.le_of_ble_eq_true rfl) dX1_putsOut_87 (fun wd_12 h => ?_)
    refine j_ws (ws' := (cgW a q sz pr pm kv kn kr kt kb ks kj kw kg wd_12 fw (upd ad x5.toNatClampNeg ((ad x5.toNatClampNeg) + (1 : Int32))) bk md cr ow hd)) rfl ?_
    refine j_aload_n g 1 rfl dX1_putsOut_90 ?_
    refine j_get g fl_X1_17 8 cg_8 rfl dX1_putsOut_91 ?_
    refine j_iload_n g 3 rfl dX1_putsOut_94 ?_
    refine j_iconst g (v := 1) (by decide) dX1_putsOut_95 ?_
    refine j_iadd g dX1_putsOut_96 ?_
    obtain ⟨hv13, h⟩ := h
    refine j_aald g 10 4 cg_10 rfl (by decide) hv13 rfl dX1_putsOut_97 ?_
    refine j_aload g 0 rfl dX1_putsOut_98 ?_
    refine j_get g fl_X1_64 (11 + x5.toNatClampNeg) (cg_K (vp_lt hv2)) rfl dX1_putsOut_100 ?_
    refine j_iconst g (v := 1) (by decide) dX1_putsOut_103 ?_
    refine j_callVV_1 g (As := [.int (kv x5.toNatClampNeg), .int (1 : Int32)]) (st := []) (c_X2_addCoins (Nat.succ_lt_succ (vp_lt hv13)) h) cl_X1_67 (17 + ((x2 + (1 : Int32)).toNatClampNeg + 1)) 2 (cg_S (Nat.succ_lt_succ (vp_lt hv13))) rfl rfl (frR_c (by decide)) (loR_c (by decide)) (Nat.zero_le _) (Nat.zero_le _) rfl rfl (Nat.le_of_ble_eq_true rfl) dX1_putsOut_104 (fun wd_14 h => ?_)
    refine j_ws (ws' := (cgW a q sz pr pm kv kn kr kt kb ks kj kw kg wd_14 fw (upd ad x5.toNatClampNeg ((ad x5.toNatClampNeg) + (1 : Int32))) bk md cr ow hd)) rfl ?_
    refine j_aload_n g 1 rfl dX1_putsOut_107 ?_
    refine j_aload_n g 2 rfl dX1_putsOut_108 ?_
    refine j_iload_n g 3 rfl dX1_putsOut_109 ?_
    refine j_iconst g (v := 1) (by decide) dX1_putsOut_110 ?_
    refine j_iadd g dX1_putsOut_111 ?_
    refine j_iload g 5 rfl dX1_putsOut_112 ?_
    refine j_iload g 4 rfl dX1_putsOut_114 ?_
    refine j_callSZ_2 g (As := [.ref (a 8), .ref (a 1), .int (x2 + (1 : Int32)), .int x5, .int x4]) (st := []) (hrec h) cl_X1_34 (frR_s d) (loR_s d) (Nat.zero_le _) (Nat.zero_le _) rfl rfl (Nat.le_of_ble_eq_true rfl) dX1_putsOut_116 (fun r_15 wd_15 ad_15 hz_15 h => ?_)
    refine j_ws (ws' := (cgW a q sz pr pm kv kn kr kt kb ks kj kw kg wd_15 fw ad_15 bk md cr ow hd)) rfl ?_
    refine j_if_eq g dX1_putsOut_119 (tgt := 124) (by decide) (fun c16 => ?_) (fun c16 => ?_)
    rotate_left
    · replace h := h.2 c16
      refine j_iconst g (v := 1) (by decide) dX1_putsOut_122 ?_
      exact hret.go dX1_putsOut_123 (Or.inr rfl) h
    replace h := h.1 c16
    refine j_aload_n g 1 rfl dX1_putsOut_124 ?_
    refine j_get g fl_X1_9 8 cg_8 rfl dX1_putsOut_125 ?_
    refine j_iload g 5 rfl dX1_putsOut_128 ?_
    refine j_dup2 g rfl rfl dX1_putsOut_130 ?_
    obtain ⟨hv17, h⟩ := h
    refine j_iald g 9 cg_9 hv17 dX1_putsOut_131 ?_
    refine j_iconst g (v := 1) (by decide) dX1_putsOut_132 ?_
    refine j_isub g dX1_putsOut_133 ?_
    obtain ⟨hv18, h⟩ := h
    refine j_iast g 9 cg_9 hv18 (ws' := (cgW a q sz pr pm kv kn kr kt kb ks kj kw kg wd_15 fw (upd ad_15 x5.toNatClampNeg ((ad_15 x5.toNatClampNeg) - (1 : Int32))) bk md cr ow hd)) rfl dX1_putsOut_134 ?_
    refine j_iinc g 5 (n := 1) (v := x5 + 1) (lv' := [(5, .int (x5 + 1)), (6, .ref (a (11 + x5.toNatClampNeg))), (0, .ref (a 8)), (1, .ref (a 1)), (2, .int x2), (4, .int x4)]) rfl rfl (by decide) rfl dX1_putsOut_135 ?_
    refine j_goto g dX1_putsOut_138 (tgt := 21) (by decide) ?_
    refine j_sub [2, 3, 4, 5, 0] rfl ?_
    exact ih (x5 + 1) wd_15 (upd ad_15 x5.toNatClampNeg ((ad_15 x5.toNatClampNeg) - (1 : Int32))) h
set_option maxRecDepth 20000 in
set_option maxHeartbeats 4000000 in
theorem c_X1_putsOut {a : Nat → Nat} {q : Nat → ClassId} : ∀ (d : Nat) {x2 : Int32} {x3 : Int32} {x4 : Int32} {sz : Int32} {pr : Nat → Int32} {pm : Nat → Nat} {kv : Nat → Int32} {kn : Nat → Int32} {kr : Nat → Int32} {kt : Nat → Int32} {kb : Nat → Int32} {ks : Nat → Int32} {kj : Nat → Int32} {kw : Nat → Int32} {kg : Nat → Int32} {wd : Nat → Nat → Int64} {fw : Nat → Nat → Int32} {ad : Nat → Int32} {bk : Nat → Int32} {md : Int32} {cr : Int32} {ow : Int32} {hd : Int32} {K : Int32 → (Nat → Nat → Int64) → (Nat → Int32) → Prop} (h : wp_X1_putsOut d x2 x3 x4 sz pr kv kn kr kt ks wd ad K), ctZ_2 q yX1_putsOut cX1_putsOut 7 (frR d) (loR d) [.ref (a 8), .ref (a 1), .int x2, .int x3, .int x4] (cgW a q sz pr pm kv kn kr kt kb ks kj kw kg wd fw ad bk md cr ow hd) (fun (wd : Nat → Nat → Int64) (ad : Nat → Int32) => (cgW a q sz pr pm kv kn kr kt kb ks kj kw kg wd fw ad bk md cr ow hd)) K := by
  intro d
  induction d with
  | zero => intro _ _ _ _ _ _ _ _ _ _ _ _ _ _ _ _ _ _ _ _ _ _ _ _ h; exact False.elim h
  | succ d ih =>
    intro x2 x3 x4 sz pr pm kv kn kr kt kb ks kj kw kg wd fw ad bk md cr ow hd K h
    refine met_Z_2 (by decide) (Nat.le_of_ble_eq_true rfl) (fun Γ g hret => ?_)
    unfold wp_X1_putsOut at h
    show jw Γ 7 0 0 (cgW a q sz pr pm kv kn kr kt kb ks kj kw kg wd fw ad bk md cr ow hd) [(0, .ref (a 8)), (1, .ref (a 1)), (2, .int x2), (3, .int x3), (4, .int x4)] [] 0
    have hrec := @ih
    refine j_iload_n g 2 rfl dX1_putsOut_0 ?_
    refine j_iload g 4 rfl dX1_putsOut_1 ?_
    refine j_icmp_ge g dX1_putsOut_3 (tgt := 11) (by decide) (fun c1 => ?_) (fun c1 => ?_)
    · replace h := h.1 c1
      refine j_aload_n g 0 rfl dX1_putsOut_11 ?_
      refine j_aload_n g 1 rfl dX1_putsOut_12 ?_
      refine j_iload_n g 2 rfl dX1_putsOut_13 ?_
      refine j_callVZ_0 g (As := [.ref (a 1), .int x2]) (st := []) (c_X1_isOut  h) cl_X1_38 8 1 cg_8 rfl rfl (frR_c (by decide)) (loR_c (by decide)) (Nat.zero_le _) (Nat.zero_le _) rfl rfl (Nat.le_of_ble_eq_true rfl) dX1_putsOut_14 (fun r_2  hz_2 h => ?_)
      exact hret.go dX1_putsOut_17 hz_2 h
    replace h := h.2 c1
    refine j_iload_n g 2 rfl dX1_putsOut_6 ?_
    refine j_iconst g (v := 4) (by decide) dX1_putsOut_7 ?_
    refine j_icmp_lt g dX1_putsOut_8 (tgt := 18) (by decide) (fun c3 => ?_) (fun c3 => ?_)
    rotate_left
    · replace h := h.2 c3
      refine j_aload_n g 0 rfl dX1_putsOut_11 ?_
      refine j_aload_n g 1 rfl dX1_putsOut_12 ?_
      refine j_iload_n g 2 rfl dX1_putsOut_13 ?_
      refine j_callVZ_0 g (As := [.ref (a 1), .int x2]) (st := []) (c_X1_isOut  h) cl_X1_38 8 1 cg_8 rfl rfl (frR_c (by decide)) (loR_c (by decide)) (Nat.zero_le _) (Nat.zero_le _) rfl rfl (Nat.le_of_ble_eq_true rfl) dX1_putsOut_14 (fun r_5  hz_5 h => ?_)
      exact hret.go dX1_putsOut_17 hz_5 h
    replace h := h.1 c3
    refine j_iload_n g 3 rfl dX1_putsOut_18 ?_
    refine j_istore g (lv' := [(5, .int x3), (0, .ref (a 8)), (1, .ref (a 1)), (2, .int x2), (3, .int x3), (4, .int x4)]) (by decide) rfl dX1_putsOut_19 ?_
    obtain ⟨n4, h⟩ := h
    refine j_sub [1, 2, 3, 5, 0] rfl ?_
    refine wk_X1_putsOut_21  g hret (fun wd_4 ad_4 h => ?_) hrec n4 x3 wd ad h
    refine j_iconst g (v := 0) (by decide) dX1_putsOut_141 ?_
    exact hret.go dX1_putsOut_142 (Or.inl rfl) h

set_option maxRecDepth 20000 in
def wp_X1_fewest_13 (x2 : Int32) (sz : Int32) (pr : Nat → Int32) (kv : Nat → Int32) (kn : Nat → Int32) (kr : Nat → Int32) (kt : Nat → Int32) (ks : Nat → Int32) (K : Int32 → (Nat → Nat → Int64) → (Nat → Int32) → Prop) (X : (Nat → Nat → Int64) → (Nat → Int32) → Prop) : Nat → Int32 → (Nat → Nat → Int64) → (Nat → Int32) → Prop
  | 0, _, _, _ => False
  | n + 1, x3, wd, ad => ((x2 < x3 → X wd ad) ∧ (¬ x2 < x3 → (((4 : Int32) < x3 → X wd ad) ∧ (¬ (4 : Int32) < x3 → wp_X1_putsOut 6 (0 : Int32) (0 : Int32) x3 sz pr kv kn kr kt ks wd (fillI ad 6 (0 : Int32)) (fun (r_3 : Int32) (wd_3 : Nat → Nat → Int64) (ad_3 : Nat → Int32) => ((r_3 = 0 → wp_X1_fewest_13 x2 sz pr kv kn kr kt ks K X n (x3 + 1) wd_3 ad_3) ∧ (¬ r_3 = 0 → K x3 wd_3 ad_3)))))))
set_option maxRecDepth 20000 in
def wp_X1_fewest (x2 : Int32) (sz : Int32) (pr : Nat → Int32) (kv : Nat → Int32) (kn : Nat → Int32) (kr : Nat → Int32) (kt : Nat → Int32) (ks : Nat → Int32) (wd : Nat → Nat → Int64) (ad : Nat → Int32) (K : Int32 → (Nat → Nat → Int64) → (Nat → Int32) → Prop) : Prop :=
  (vp_in (0 : Int32) 5 ∧ wp_X3_collect ((0 : Int32).toNatClampNeg + 1) (0 : Int32) sz kv kn kt ks wd (fun (wd_2 : Nat → Nat → Int64) => ∃ n3 : Nat, wp_X1_fewest_13 x2 sz pr kv kn kr kt ks K (fun (wd_3 : Nat → Nat → Int64) (ad_3 : Nat → Int32) => K (-1 : Int32) wd_3 ad_3) n3 (0 : Int32) wd_2 ad))
theorem dX1_fewest_0 : decode cX1_fewest 0 = .ok (.aload_n 1, 1) := by decide +kernel
theorem dX1_fewest_1 : decode cX1_fewest 1 = .ok (.aload_n 0, 1) := by decide +kernel
theorem dX1_fewest_2 : decode cX1_fewest 2 = .ok (.getfield 17, 3) := by decide +kernel
theorem dX1_fewest_5 : decode cX1_fewest 5 = .ok (.iconst 0, 1) := by decide +kernel
theorem dX1_fewest_6 : decode cX1_fewest 6 = .ok (.aaload, 1) := by decide +kernel
theorem dX1_fewest_7 : decode cX1_fewest 7 = .ok (.iconst 0, 1) := by decide +kernel
theorem dX1_fewest_8 : decode cX1_fewest 8 = .ok (.invokevirtual 22, 3) := by decide +kernel
theorem dX1_fewest_11 : decode cX1_fewest 11 = .ok (.iconst 0, 1) := by decide +kernel
theorem dX1_fewest_12 : decode cX1_fewest 12 = .ok (.istore_n 3, 1) := by decide +kernel
theorem dX1_fewest_13 : decode cX1_fewest 13 = .ok (.iload_n 3, 1) := by decide +kernel
theorem dX1_fewest_14 : decode cX1_fewest 14 = .ok (.iload_n 2, 1) := by decide +kernel
theorem dX1_fewest_15 : decode cX1_fewest 15 = .ok (.if_icmp .gt 35, 3) := by decide +kernel
theorem dX1_fewest_18 : decode cX1_fewest 18 = .ok (.iload_n 3, 1) := by decide +kernel
theorem dX1_fewest_19 : decode cX1_fewest 19 = .ok (.iconst 4, 1) := by decide +kernel
theorem dX1_fewest_20 : decode cX1_fewest 20 = .ok (.if_icmp .gt 30, 3) := by decide +kernel
theorem dX1_fewest_23 : decode cX1_fewest 23 = .ok (.aload_n 0, 1) := by decide +kernel
theorem dX1_fewest_24 : decode cX1_fewest 24 = .ok (.getfield 9, 3) := by decide +kernel
theorem dX1_fewest_27 : decode cX1_fewest 27 = .ok (.iconst 0, 1) := by decide +kernel
theorem dX1_fewest_28 : decode cX1_fewest 28 = .ok (.invokestatic 28, 3) := by decide +kernel
theorem dX1_fewest_31 : decode cX1_fewest 31 = .ok (.aload_n 0, 1) := by decide +kernel
theorem dX1_fewest_32 : decode cX1_fewest 32 = .ok (.aload_n 1, 1) := by decide +kernel
theorem dX1_fewest_33 : decode cX1_fewest 33 = .ok (.iconst 0, 1) := by decide +kernel
theorem dX1_fewest_34 : decode cX1_fewest 34 = .ok (.iconst 0, 1) := by decide +kernel
theorem dX1_fewest_35 : decode cX1_fewest 35 = .ok (.iload_n 3, 1) := by decide +kernel
theorem dX1_fewest_36 : decode cX1_fewest 36 = .ok (.invokestatic 34, 3) := by decide +kernel
theorem dX1_fewest_39 : decode cX1_fewest 39 = .ok (.ifCond .eq 5, 3) := by decide +kernel
theorem dX1_fewest_42 : decode cX1_fewest 42 = .ok (.iload_n 3, 1) := by decide +kernel
theorem dX1_fewest_43 : decode cX1_fewest 43 = .ok (.ireturn, 1) := by decide +kernel
theorem dX1_fewest_44 : decode cX1_fewest 44 = .ok (.iinc 3 1, 3) := by decide +kernel
theorem dX1_fewest_47 : decode cX1_fewest 47 = .ok (.goto (-34), 3) := by decide +kernel
theorem dX1_fewest_50 : decode cX1_fewest 50 = .ok (.iconst (-1), 1) := by decide +kernel
theorem dX1_fewest_51 : decode cX1_fewest 51 = .ok (.ireturn, 1) := by decide +kernel
set_option maxRecDepth 20000 in
set_option maxHeartbeats 4000000 in
theorem wk_X1_fewest_13 {Γ : GT} {a : Nat → Nat} {q : Nat → ClassId} {x2 : Int32}  {sz : Int32} {pr : Nat → Int32} {pm : Nat → Nat} {kv : Nat → Int32} {kn : Nat → Int32} {kr : Nat → Int32} {kt : Nat → Int32} {kb : Nat → Int32} {ks : Nat → Int32} {kj : Nat → Int32} {kw : Nat → Int32} {kg : Nat → Int32} {fw : Nat → Nat → Int32} {bk : Nat → Int32} {md : Int32} {cr : Int32} {ow : Int32} {hd : Int32} {K : Int32 → (Nat → Nat → Int64) → (Nat → Int32) → Prop} {X : (Nat → Nat → Int64) → (Nat → Int32) → Prop} (g : gd Γ cX1_fewest RX1 4 (rmz 11 279) q) (hret : rtI_2 Γ cX1_fewest 4 (fun (wd : Nat → Nat → Int64) (ad : Nat → Int32) => (cgW a q sz pr pm kv kn kr kt kb ks kj kw kg wd fw ad bk md cr ow hd)) K) (hX : ∀ (wd : Nat → Nat → Int64) (ad : Nat → Int32) , X wd ad → jw Γ 4 0 0 (cgW a q sz pr pm kv kn kr kt kb ks kj kw kg wd fw ad bk md cr ow hd) [] [] 50) :
    ∀ (n : Nat) (x3 : Int32) (wd : Nat → Nat → Int64) (ad : Nat → Int32) , wp_X1_fewest_13 x2 sz pr kv kn kr kt ks K X n x3 wd ad → jw Γ 4 0 0 (cgW a q sz pr pm kv kn kr kt kb ks kj kw kg wd fw ad bk md cr ow hd) [(0, .ref (a 8)), (1, .ref (a 1)), (2, .int x2), (3, .int x3)] [] 13 := by
  intro n
  induction n with
  | zero =>
    intro _ _ _ h
    exact False.elim h
  | succ n ih =>
    intro x3 wd ad h
    unfold wp_X1_fewest_13 at h
    refine j_iload_n g 3 rfl dX1_fewest_13 ?_
    refine j_iload_n g 2 rfl dX1_fewest_14 ?_
    refine j_icmp_gt g dX1_fewest_15 (tgt := 50) (by decide) (fun c1 => ?_) (fun c1 => ?_)
    · replace h := h.1 c1
      refine j_sub [] rfl ?_
      exact hX wd ad h
    replace h := h.2 c1
    refine j_iload_n g 3 rfl dX1_fewest_18 ?_
    refine j_iconst g (v := 4) (by decide) dX1_fewest_19 ?_
    refine j_icmp_gt g dX1_fewest_20 (tgt := 50) (by decide) (fun c2 => ?_) (fun c2 => ?_)
    · replace h := h.1 c2
      refine j_sub [] rfl ?_
      exact hX wd ad h
    replace h := h.2 c2
    refine j_aload_n g 0 rfl dX1_fewest_23 ?_
    refine j_get g fl_X1_9 8 cg_8 rfl dX1_fewest_24 ?_
    refine j_iconst g (v := 0) (by decide) dX1_fewest_27 ?_
    refine j_fillI g cl_X1_28 9 cg_9 (Nat.le_of_ble_eq_true rfl) (Nat.le_of_ble_eq_true rfl) (ws' := (cgW a q sz pr pm kv kn kr kt kb ks kj kw kg wd fw (fillI ad 6 (0 : Int32)) bk md cr ow hd)) rfl (Nat.le_of_ble_eq_true rfl) dX1_fewest_28 ?_
    refine j_aload_n g 0 rfl dX1_fewest_31 ?_
    refine j_aload_n g 1 rfl dX1_fewest_32 ?_
    refine j_iconst g (v := 0) (by decide) dX1_fewest_33 ?_
    refine j_iconst g (v := 0) (by decide) dX1_fewest_34 ?_
    refine j_iload_n g 3 rfl dX1_fewest_35 ?_
    refine j_callSZ_2 g (As := [.ref (a 8), .ref (a 1), .int (0 : Int32), .int (0 : Int32), .int x3]) (st := []) (c_X1_putsOut 6 h) cl_X1_34 (Nat.le_of_ble_eq_true rfl) (Nat.le_of_ble_eq_true rfl) (Nat.zero_le _) (Nat.zero_le _) rfl rfl (Nat.le_of_ble_eq_true rfl) dX1_fewest_36 (fun r_3 wd_3 ad_3 hz_3 h => ?_)
    refine j_ws (ws' := (cgW a q sz pr pm kv kn kr kt kb ks kj kw kg wd_3 fw ad_3 bk md cr ow hd)) rfl ?_
    refine j_if_eq g dX1_fewest_39 (tgt := 44) (by decide) (fun c4 => ?_) (fun c4 => ?_)
    rotate_left
    · replace h := h.2 c4
      refine j_iload_n g 3 rfl dX1_fewest_42 ?_
      exact hret.go dX1_fewest_43 h
    replace h := h.1 c4
    refine j_iinc g 3 (n := 1) (v := x3 + 1) (lv' := [(3, .int (x3 + 1)), (0, .ref (a 8)), (1, .ref (a 1)), (2, .int x2)]) rfl rfl (by decide) rfl dX1_fewest_44 ?_
    refine j_goto g dX1_fewest_47 (tgt := 13) (by decide) ?_
    refine j_sub [1, 2, 3, 0] rfl ?_
    exact ih (x3 + 1) wd_3 ad_3 h
set_option maxRecDepth 20000 in
set_option maxHeartbeats 4000000 in
theorem c_X1_fewest {a : Nat → Nat} {q : Nat → ClassId} {x2 : Int32}  {sz : Int32} {pr : Nat → Int32} {pm : Nat → Nat} {kv : Nat → Int32} {kn : Nat → Int32} {kr : Nat → Int32} {kt : Nat → Int32} {kb : Nat → Int32} {ks : Nat → Int32} {kj : Nat → Int32} {kw : Nat → Int32} {kg : Nat → Int32} {wd : Nat → Nat → Int64} {fw : Nat → Nat → Int32} {ad : Nat → Int32} {bk : Nat → Int32} {md : Int32} {cr : Int32} {ow : Int32} {hd : Int32} {K : Int32 → (Nat → Nat → Int64) → (Nat → Int32) → Prop} (h : wp_X1_fewest x2 sz pr kv kn kr kt ks wd ad K) : ctI_2 q yX1_fewest cX1_fewest 4 11 279 [.ref (a 8), .ref (a 1), .int x2] (cgW a q sz pr pm kv kn kr kt kb ks kj kw kg wd fw ad bk md cr ow hd) (fun (wd : Nat → Nat → Int64) (ad : Nat → Int32) => (cgW a q sz pr pm kv kn kr kt kb ks kj kw kg wd fw ad bk md cr ow hd)) K := by
  refine met_I_2 (by decide) (Nat.le_of_ble_eq_true rfl) (fun Γ g hret => ?_)
  unfold wp_X1_fewest at h
  show jw Γ 4 0 0 (cgW a q sz pr pm kv kn kr kt kb ks kj kw kg wd fw ad bk md cr ow hd) [(0, .ref (a 8)), (1, .ref (a 1)), (2, .int x2)] [] 0
  refine j_aload_n g 1 rfl dX1_fewest_0 ?_
  refine j_aload_n g 0 rfl dX1_fewest_1 ?_
  refine j_get g fl_X1_17 8 cg_8 rfl dX1_fewest_2 ?_
  refine j_iconst g (v := 0) (by decide) dX1_fewest_5 ?_
  obtain ⟨hv1, h⟩ := h
  refine j_aald g 10 4 cg_10 rfl (by decide) hv1 rfl dX1_fewest_6 ?_
  refine j_iconst g (v := 0) (by decide) dX1_fewest_7 ?_
  refine j_callVV_1 g (As := [.ref (a (17 + ((0 : Int32).toNatClampNeg + 1))), .int (0 : Int32)]) (st := []) (c_X3_collect (Nat.succ_lt_succ (vp_lt hv1)) h) cl_X1_22 1 3 cg_1 rfl rfl (Nat.le_of_ble_eq_true rfl) (Nat.le_of_ble_eq_true rfl) (Nat.zero_le _) (Nat.zero_le _) rfl rfl (Nat.le_of_ble_eq_true rfl) dX1_fewest_8 (fun wd_2 h => ?_)
  refine j_ws (ws' := (cgW a q sz pr pm kv kn kr kt kb ks kj kw kg wd_2 fw ad bk md cr ow hd)) rfl ?_
  refine j_iconst g (v := 0) (by decide) dX1_fewest_11 ?_
  refine j_istore_n g (lv' := [(3, .int (0 : Int32)), (0, .ref (a 8)), (1, .ref (a 1)), (2, .int x2)]) (by decide) rfl dX1_fewest_12 ?_
  obtain ⟨n3, h⟩ := h
  refine j_sub [1, 2, 3, 0] rfl ?_
  refine wk_X1_fewest_13  g hret (fun wd_3 ad_3 h => ?_) n3 (0 : Int32) wd_2 ad h
  refine j_iconst g (v := -1) (by decide) dX1_fewest_50 ?_
  exact hret.go dX1_fewest_51 h
