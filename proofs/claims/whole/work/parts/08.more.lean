/-! further rows: longs, copies, fills, switches -/
section JM
variable {Γ : GT} {cc : ByteArray} {own : String} {nL kc ks : Nat} {rm : Room} {q : Nat → ClassId} {ws : va_W} {lv : List (Nat × Value)} {st : List Value} {pc : Nat}
theorem j_lstore (g : gd Γ cc own nL rm q) {i : Nat} {x : Int64} {lv' : List (Nat × Value)} (hn : i + 1 < nL) (hv : (i, Value.long x) :: lv.filter (fun q => !(q.1 == i) && (!(q.1 == i + 1) && !(q.1 + 1 == i && q.2.category == 2))) = lv') (hd : decode cc pc = .ok (.lstore i, 2)) (k : jw Γ nL kc ks ws lv' st (pc + 2)) : jw Γ nL kc ks ws lv (.long x :: st) pc := by
  obtain ⟨p, l, e, R, s, m, args, below, meth, c, D, A, Q⟩ := Γ
  obtain ⟨hx, hb, hml, hown, hts, hK, hA, hR⟩ := g
  intro H locs ls hP hD hS hl
  exact lv_lstore hx hb hd hl hn hv (fun ls hl => k H locs ls hP hD hS hl)
theorem j_lcmp (g : gd Γ cc own nL rm q) {x y : Int64} (hd : decode cc pc = .ok (.lcmp, 1)) (k : jw Γ nL kc ks ws lv (.int (lg_cmp x y) :: st) (pc + 1)) : jw Γ nL kc ks ws lv (.long y :: .long x :: st) pc := by
  obtain ⟨p, l, e, R, s, m, args, below, meth, c, D, A, Q⟩ := Γ
  obtain ⟨hx, hb, hml, hown, hts, hK, hA, hR⟩ := g
  intro H locs ls hP hD hS hl
  exact W.lcmp hx hb hd (k H locs ls hP hD hS hl)
theorem j_swI (g : gd Γ cc own nL rm q) {dflt lo hi : Int} {offs : Array Int} {len : Nat} {x : Int32} {off : Int} {tgt : Nat} (hd : decode cc pc = .ok (.tableswitch dflt lo hi offs, len)) (h1 : ¬ x.toInt < lo) (h2 : ¬ hi < x.toInt) (ho : offs[(x.toInt - lo).toNat]? = some off) (ht : (pc : Int) + off = (tgt : Int)) (k : jw Γ nL kc ks ws lv st tgt) : jw Γ nL kc ks ws lv (.int x :: st) pc := by
  obtain ⟨p, l, e, R, s, m, args, below, meth, c, D, A, Q⟩ := Γ
  obtain ⟨hx, hb, hml, hown, hts, hK, hA, hR⟩ := g
  intro H locs ls hP hD hS hl
  exact lv_tableIn hx hb hd h1 h2 ho ht (k H locs ls hP hD hS hl)
theorem j_swO (g : gd Γ cc own nL rm q) {dflt lo hi : Int} {offs : Array Int} {len : Nat} {x : Int32} {tgt : Nat} (hd : decode cc pc = .ok (.tableswitch dflt lo hi offs, len)) (h : x.toInt < lo ∨ hi < x.toInt) (ht : (pc : Int) + dflt = (tgt : Int)) (k : jw Γ nL kc ks ws lv st tgt) : jw Γ nL kc ks ws lv (.int x :: st) pc := by
  obtain ⟨p, l, e, R, s, m, args, below, meth, c, D, A, Q⟩ := Γ
  obtain ⟨hx, hb, hml, hown, hts, hK, hA, hR⟩ := g
  intro H locs ls hP hD hS hl
  exact lv_tableOut hx hb hd h ht (k H locs ls hP hD hS hl)
theorem sw_lo {x c : Int32} {lo : Int} (h : x = c) (d : ¬ c.toInt < lo) : ¬ x.toInt < lo := h ▸ d
theorem sw_hi {x c : Int32} {hi : Int} (h : x = c) (d : ¬ hi < c.toInt) : ¬ hi < x.toInt := h ▸ d
theorem sw_at {x c : Int32} {lo off : Int} {offs : Array Int} {n : Nat} (h : x = c) (d : (c.toInt - lo).toNat = n) (ho : offs[n]? = some off) : offs[(x.toInt - lo).toNat]? = some off := by
  subst h; rw [d]; exact ho
theorem sw_out7 {x : Int32} (c0 : ¬ x = (0 : Int32)) (c1 : ¬ x = (1 : Int32)) (c2 : ¬ x = (2 : Int32)) (c3 : ¬ x = (3 : Int32)) (c4 : ¬ x = (4 : Int32)) (c5 : ¬ x = (5 : Int32)) (c6 : ¬ x = (6 : Int32)) : x.toInt < 0 ∨ 6 < x.toInt := by
  by_cases h : x.toInt < 0 ∨ 6 < x.toInt
  · exact h
  · exfalso
    have h2 : x.toInt = 0 ∨ x.toInt = 1 ∨ x.toInt = 2 ∨ x.toInt = 3 ∨ x.toInt = 4 ∨ x.toInt = 5 ∨ x.toInt = 6 := by omega
    rcases h2 with h0 | h1 | h2 | h3 | h4 | h5 | h6
    · exact c0 (Int32.toInt_inj.mp (h0.trans (by decide)))
    · exact c1 (Int32.toInt_inj.mp (h1.trans (by decide)))
    · exact c2 (Int32.toInt_inj.mp (h2.trans (by decide)))
    · exact c3 (Int32.toInt_inj.mp (h3.trans (by decide)))
    · exact c4 (Int32.toInt_inj.mp (h4.trans (by decide)))
    · exact c5 (Int32.toInt_inj.mp (h5.trans (by decide)))
    · exact c6 (Int32.toInt_inj.mp (h6.trans (by decide)))
theorem sw_out24 {x : Int32} (c0 : ¬ x = (0 : Int32)) (c1 : ¬ x = (1 : Int32)) (c2 : ¬ x = (2 : Int32)) (c3 : ¬ x = (3 : Int32)) (c4 : ¬ x = (4 : Int32)) (c5 : ¬ x = (5 : Int32)) (c6 : ¬ x = (6 : Int32)) (c7 : ¬ x = (7 : Int32)) (c8 : ¬ x = (8 : Int32)) (c9 : ¬ x = (9 : Int32)) (c10 : ¬ x = (10 : Int32)) (c11 : ¬ x = (11 : Int32)) (c12 : ¬ x = (12 : Int32)) (c13 : ¬ x = (13 : Int32)) (c14 : ¬ x = (14 : Int32)) (c15 : ¬ x = (15 : Int32)) (c16 : ¬ x = (16 : Int32)) (c17 : ¬ x = (17 : Int32)) (c18 : ¬ x = (18 : Int32)) (c19 : ¬ x = (19 : Int32)) (c20 : ¬ x = (20 : Int32)) (c21 : ¬ x = (21 : Int32)) (c22 : ¬ x = (22 : Int32)) (c23 : ¬ x = (23 : Int32)) : x.toInt < 0 ∨ 23 < x.toInt := by
  by_cases h : x.toInt < 0 ∨ 23 < x.toInt
  · exact h
  · exfalso
    have h2 : x.toInt = 0 ∨ x.toInt = 1 ∨ x.toInt = 2 ∨ x.toInt = 3 ∨ x.toInt = 4 ∨ x.toInt = 5 ∨ x.toInt = 6 ∨ x.toInt = 7 ∨ x.toInt = 8 ∨ x.toInt = 9 ∨ x.toInt = 10 ∨ x.toInt = 11 ∨ x.toInt = 12 ∨ x.toInt = 13 ∨ x.toInt = 14 ∨ x.toInt = 15 ∨ x.toInt = 16 ∨ x.toInt = 17 ∨ x.toInt = 18 ∨ x.toInt = 19 ∨ x.toInt = 20 ∨ x.toInt = 21 ∨ x.toInt = 22 ∨ x.toInt = 23 := by omega
    rcases h2 with h0 | h1 | h2 | h3 | h4 | h5 | h6 | h7 | h8 | h9 | h10 | h11 | h12 | h13 | h14 | h15 | h16 | h17 | h18 | h19 | h20 | h21 | h22 | h23
    · exact c0 (Int32.toInt_inj.mp (h0.trans (by decide)))
    · exact c1 (Int32.toInt_inj.mp (h1.trans (by decide)))
    · exact c2 (Int32.toInt_inj.mp (h2.trans (by decide)))
    · exact c3 (Int32.toInt_inj.mp (h3.trans (by decide)))
    · exact c4 (Int32.toInt_inj.mp (h4.trans (by decide)))
    · exact c5 (Int32.toInt_inj.mp (h5.trans (by decide)))
    · exact c6 (Int32.toInt_inj.mp (h6.trans (by decide)))
    · exact c7 (Int32.toInt_inj.mp (h7.trans (by decide)))
    · exact c8 (Int32.toInt_inj.mp (h8.trans (by decide)))
    · exact c9 (Int32.toInt_inj.mp (h9.trans (by decide)))
    · exact c10 (Int32.toInt_inj.mp (h10.trans (by decide)))
    · exact c11 (Int32.toInt_inj.mp (h11.trans (by decide)))
    · exact c12 (Int32.toInt_inj.mp (h12.trans (by decide)))
    · exact c13 (Int32.toInt_inj.mp (h13.trans (by decide)))
    · exact c14 (Int32.toInt_inj.mp (h14.trans (by decide)))
    · exact c15 (Int32.toInt_inj.mp (h15.trans (by decide)))
    · exact c16 (Int32.toInt_inj.mp (h16.trans (by decide)))
    · exact c17 (Int32.toInt_inj.mp (h17.trans (by decide)))
    · exact c18 (Int32.toInt_inj.mp (h18.trans (by decide)))
    · exact c19 (Int32.toInt_inj.mp (h19.trans (by decide)))
    · exact c20 (Int32.toInt_inj.mp (h20.trans (by decide)))
    · exact c21 (Int32.toInt_inj.mp (h21.trans (by decide)))
    · exact c22 (Int32.toInt_inj.mp (h22.trans (by decide)))
    · exact c23 (Int32.toInt_inj.mp (h23.trans (by decide)))
def ac_ok (sp dp n : Int32) (N : Nat) : Prop := ¬ sp < 0 ∧ ¬ dp < 0 ∧ ¬ n < 0 ∧ sp.toNatClampNeg + n.toNatClampNeg ≤ N ∧ dp.toNatClampNeg + n.toNatClampNeg ≤ N
theorem ac_n : Cond.native arraycopyName ∈ gt := gt_in (by decide +kernel) rfl
theorem ac_s : Cond.static arraycopyName ∈ gt := gt_in (by decide +kernel) rfl
theorem ac_i : Cond.initialized "java/lang/System" ∈ gt := gt_in (by decide +kernel) rfl
theorem j_copyi (g : gd Γ cc own nL rm q) {index : Nat} (L : Cond.methodLink own index arraycopyName ∈ gt) (q0 q1 : Nat) {a0 a1 N : Nat} {f h : Nat → Int32} (ha0 : ws[q0]? = some (a0, .inl (q 0, N, .inl f))) (ha1 : ws[q1]? = some (a1, .inl (q 0, N, .inl h))) {sp dp n : Int32} (hc : ac_ok sp dp n N) (hf : 1 ≤ rm.frames) (hlo : (st.map fun v => v.category).sum + (nativeFrameWords "java/lang/System" "arraycopy" 5 + 11) ≤ rm.locals) {ws' : va_W} (hw : ws.set q1 (a1, .inl (q 0, N, .inl (va_cpy f h sp.toNatClampNeg dp.toNatClampNeg n.toNatClampNeg))) = ws') (hd : decode cc pc = .ok (.invokestatic index, 3)) (k : jw Γ nL kc ks ws' lv st (pc + 3)) : jw Γ nL kc ks ws lv (.int n :: .int dp :: .ref a1 :: .int sp :: .ref a0 :: st) pc := by
  obtain ⟨p, l, e, R, s, m, args, below, meth, c, D, A, Q⟩ := Γ
  obtain ⟨hx, hb, hml, hown, hts, hK, hA, hR⟩ := g
  intro H locs ls hP hD hS hl
  subst hw
  subst hR
  exact va_copyi hx hb (hml.trans hl.1.symm) hown (hts _ L) (hts _ ac_n) (hts _ ac_s) (hts _ ac_i) hK hP hD hS q0 q1 0 0 ha0 ha1 rfl rfl rfl hc.1 hc.2.1 hc.2.2.1 hc.2.2.2.1 hc.2.2.2.2 (fun _ _ => rfl) hf hlo hd (fun H1 locs1 hP hD hS => k H1 locs1 ls hP hD hS hl)
theorem j_copyl (g : gd Γ cc own nL rm q) {index : Nat} (L : Cond.methodLink own index arraycopyName ∈ gt) (q0 q1 : Nat) {a0 a1 N : Nat} {f h : Nat → Int64} (ha0 : ws[q0]? = some (a0, .inl (q 1, N, .inr (.inl f)))) (ha1 : ws[q1]? = some (a1, .inl (q 1, N, .inr (.inl h)))) {sp dp n : Int32} (hc : ac_ok sp dp n N) (hf : 1 ≤ rm.frames) (hlo : (st.map fun v => v.category).sum + (nativeFrameWords "java/lang/System" "arraycopy" 5 + 11) ≤ rm.locals) {ws' : va_W} (hw : ws.set q1 (a1, .inl (q 1, N, .inr (.inl (va_cpy f h sp.toNatClampNeg dp.toNatClampNeg n.toNatClampNeg)))) = ws') (hd : decode cc pc = .ok (.invokestatic index, 3)) (k : jw Γ nL kc ks ws' lv st (pc + 3)) : jw Γ nL kc ks ws lv (.int n :: .int dp :: .ref a1 :: .int sp :: .ref a0 :: st) pc := by
  obtain ⟨p, l, e, R, s, m, args, below, meth, c, D, A, Q⟩ := Γ
  obtain ⟨hx, hb, hml, hown, hts, hK, hA, hR⟩ := g
  intro H locs ls hP hD hS hl
  subst hw
  subst hR
  exact va_copyl hx hb (hml.trans hl.1.symm) hown (hts _ L) (hts _ ac_n) (hts _ ac_s) (hts _ ac_i) hK hP hD hS q0 q1 1 1 ha0 ha1 rfl rfl rfl hc.1 hc.2.1 hc.2.2.1 hc.2.2.2.1 hc.2.2.2.2 (fun _ _ => rfl) hf hlo hd (fun H1 locs1 hP hD hS => k H1 locs1 ls hP hD hS hl)
end JM
theorem ls_same {α : Type} {l : List α} {k : Nat} {x : α} (h : l[k]? = some x) : l.set k x = l := by
  apply List.ext_getElem?
  intro i
  rw [List.getElem?_set]
  by_cases hi : k = i
  · subst hi
    have hlt := (List.getElem?_eq_some_iff.mp h).1
    simp [hlt]
    exact (List.getElem?_eq_some_iff.mp h).2.symm
  · simp [hi]
theorem ls_get {α : Type} {l : List α} {k : Nat} {x y : α} (h : l[k]? = some x) : (l.set k y)[k]? = some y := List.getElem?_set_self (List.getElem?_eq_some_iff.mp h).1
def fillI (f : Nat → Int32) (n : Nat) (v : Int32) : Nat → Int32 := fun i => if i < n then v else f i
def fillL (f : Nat → Int64) (n : Nat) (v : Int64) : Nat → Int64 := fun i => if i < n then v else f i
theorem fillI_0 {f : Nat → Int32} {v : Int32} : fillI f 0 v = f := by funext i; simp [fillI]
theorem fillL_0 {f : Nat → Int64} {v : Int64} : fillL f 0 v = f := by funext i; simp [fillL]
theorem fillI_s {f : Nat → Int32} {k : Nat} {v : Int32} : upd (fillI f k v) k v = fillI f (k + 1) v := by
  funext i
  unfold upd fillI
  by_cases h : i = k
  · simp [h]
  · by_cases h2 : i < k
    · simp [h, h2, Nat.lt_succ_of_lt h2]
    · simp [h, h2, show ¬ i < k + 1 by omega]
theorem fillL_s {f : Nat → Int64} {k : Nat} {v : Int64} : vp_updL (fillL f k v) k v = fillL f (k + 1) v := by
  funext i
  unfold vp_updL fillL
  by_cases h : i = k
  · simp [h]
  · by_cases h2 : i < k
    · simp [h, h2, Nat.lt_succ_of_lt h2]
    · simp [h, h2, show ¬ i < k + 1 by omega]

theorem dJ7_fill_53178_0 : decode cJ7_fill_53178 0 = .ok (.iconst 0, 1) := by decide +kernel
theorem dJ7_fill_53178_1 : decode cJ7_fill_53178 1 = .ok (.istore_n 2, 1) := by decide +kernel
theorem dJ7_fill_53178_2 : decode cJ7_fill_53178 2 = .ok (.aload_n 0, 1) := by decide +kernel
theorem dJ7_fill_53178_3 : decode cJ7_fill_53178 3 = .ok (.arraylength, 1) := by decide +kernel
theorem dJ7_fill_53178_4 : decode cJ7_fill_53178 4 = .ok (.istore_n 3, 1) := by decide +kernel
theorem dJ7_fill_53178_5 : decode cJ7_fill_53178 5 = .ok (.iload_n 2, 1) := by decide +kernel
theorem dJ7_fill_53178_6 : decode cJ7_fill_53178 6 = .ok (.iload_n 3, 1) := by decide +kernel
theorem dJ7_fill_53178_7 : decode cJ7_fill_53178 7 = .ok (.if_icmp .ge 13, 3) := by decide +kernel
theorem dJ7_fill_53178_10 : decode cJ7_fill_53178 10 = .ok (.aload_n 0, 1) := by decide +kernel
theorem dJ7_fill_53178_11 : decode cJ7_fill_53178 11 = .ok (.iload_n 2, 1) := by decide +kernel
theorem dJ7_fill_53178_12 : decode cJ7_fill_53178 12 = .ok (.iload_n 1, 1) := by decide +kernel
theorem dJ7_fill_53178_13 : decode cJ7_fill_53178 13 = .ok (.iastore, 1) := by decide +kernel
theorem dJ7_fill_53178_14 : decode cJ7_fill_53178 14 = .ok (.iinc 2 1, 3) := by decide +kernel
theorem dJ7_fill_53178_17 : decode cJ7_fill_53178 17 = .ok (.goto (-12), 3) := by decide +kernel
theorem dJ7_fill_53178_20 : decode cJ7_fill_53178 20 = .ok (.return_, 1) := by decide +kernel
theorem dJ7_fill_d0a16_0 : decode cJ7_fill_d0a16 0 = .ok (.iconst 0, 1) := by decide +kernel
theorem dJ7_fill_d0a16_1 : decode cJ7_fill_d0a16 1 = .ok (.istore_n 3, 1) := by decide +kernel
theorem dJ7_fill_d0a16_2 : decode cJ7_fill_d0a16 2 = .ok (.aload_n 0, 1) := by decide +kernel
theorem dJ7_fill_d0a16_3 : decode cJ7_fill_d0a16 3 = .ok (.arraylength, 1) := by decide +kernel
theorem dJ7_fill_d0a16_4 : decode cJ7_fill_d0a16 4 = .ok (.istore 4, 2) := by decide +kernel
theorem dJ7_fill_d0a16_6 : decode cJ7_fill_d0a16 6 = .ok (.iload_n 3, 1) := by decide +kernel
theorem dJ7_fill_d0a16_7 : decode cJ7_fill_d0a16 7 = .ok (.iload 4, 2) := by decide +kernel
theorem dJ7_fill_d0a16_9 : decode cJ7_fill_d0a16 9 = .ok (.if_icmp .ge 13, 3) := by decide +kernel
theorem dJ7_fill_d0a16_12 : decode cJ7_fill_d0a16 12 = .ok (.aload_n 0, 1) := by decide +kernel
theorem dJ7_fill_d0a16_13 : decode cJ7_fill_d0a16 13 = .ok (.iload_n 3, 1) := by decide +kernel
theorem dJ7_fill_d0a16_14 : decode cJ7_fill_d0a16 14 = .ok (.lload_n 1, 1) := by decide +kernel
theorem dJ7_fill_d0a16_15 : decode cJ7_fill_d0a16 15 = .ok (.lastore, 1) := by decide +kernel
theorem dJ7_fill_d0a16_16 : decode cJ7_fill_d0a16 16 = .ok (.iinc 3 1, 3) := by decide +kernel
theorem dJ7_fill_d0a16_19 : decode cJ7_fill_d0a16 19 = .ok (.goto (-13), 3) := by decide +kernel
theorem dJ7_fill_d0a16_22 : decode cJ7_fill_d0a16 22 = .ok (.return_, 1) := by decide +kernel
set_option maxHeartbeats 1000000 in
theorem fl_loop_fill_53178 {Γ : GT} {q : Nat → ClassId} {ws : va_W} {p0 x N : Nat} {f : Nat → Int32} {v : Int32} (g : gd Γ cJ7_fill_53178 RJ7 4 (rmz 0 0) q) (he : ws[p0]? = some (x, .inl (q 0, N, .inl (f)))) (hN : N < 2147483648) (hret : ∀ lv, jw Γ 4 0 0 (ws.set p0 (x, .inl (q 0, N, .inl (fillI f N v)))) lv [] 20) :
    ∀ m k : Nat, k + m = N → jw Γ 4 0 0 (ws.set p0 (x, .inl (q 0, N, .inl (fillI f k v)))) [(2, .int (nI k)), (3, .int (nI N)), (0, .ref x), (1, .int v)] [] 5 := by
  intro m
  induction m with
  | zero =>
    intro k hk
    have e : k = N := by omega
    subst e
    refine j_iload_n g 0 rfl dJ7_fill_53178_5 ?_
    refine j_iload_n g 1 rfl dJ7_fill_53178_6 ?_
    refine j_icmp_ge g dJ7_fill_53178_7 (tgt := 20) (by decide) (fun _ => ?_) (fun c => absurd (nI_le (Nat.le_refl _) hN) c)
    exact hret _
  | succ m ih =>
    intro k hk
    have hlt : k < N := by omega
    refine j_iload_n g 0 rfl dJ7_fill_53178_5 ?_
    refine j_iload_n g 1 rfl dJ7_fill_53178_6 ?_
    refine j_icmp_ge g dJ7_fill_53178_7 (tgt := 20) (by decide) (fun c => absurd c (nI_ge hlt hN)) (fun _ => ?_)
    refine j_aload_n g 2 rfl dJ7_fill_53178_10 ?_
    refine j_iload_n g 0 rfl dJ7_fill_53178_11 ?_
    refine j_iload_n g 3 rfl dJ7_fill_53178_12 ?_
    refine j_iast g p0 (ls_get he) (vp_in_nI hlt hN) (ws' := ws.set p0 (x, .inl (q 0, N, .inl (fillI f (k + 1) v)))) (by rw [List.set_set, nI_clamp (Nat.lt_trans hlt hN), fillI_s]) dJ7_fill_53178_13 ?_
    refine j_iinc g 0 (n := 1) (v := nI (k + 1)) (lv' := [(2, .int (nI (k + 1))), (3, .int (nI N)), (0, .ref x), (1, .int v)]) rfl (nI_1 k) (by decide) rfl dJ7_fill_53178_14 ?_
    refine j_goto g dJ7_fill_53178_17 (tgt := 5) (by decide) ?_
    exact ih (k + 1) (by omega)
set_option maxHeartbeats 1000000 in
theorem c_J7_fill_53178 {q : Nat → ClassId} {ws : va_W} {p0 x N : Nat} {f : Nat → Int32} {v : Int32} (he : ws[p0]? = some (x, .inl (q 0, N, .inl (f)))) (hN : N < 2147483648) : ctV q yJ7_fill_53178 cJ7_fill_53178 4 0 0 [.ref x, .int v] ws (fun (_ : Unit) => ws.set p0 (x, .inl (q 0, N, .inl (fillI f N v)))) (fun _ => True) := by
  refine met_V (by decide) (Nat.le_of_ble_eq_true rfl) (fun Γ g hret => ?_)
  show jw Γ 4 0 0 ws [(0, .ref x), (1, .int v)] [] 0
  refine j_iconst g (v := 0) (by decide) dJ7_fill_53178_0 ?_
  refine j_istore_n g (lv' := [(2, .int 0), (0, .ref x), (1, .int v)]) (by decide) rfl dJ7_fill_53178_1 ?_
  refine j_aload_n g 1 rfl dJ7_fill_53178_2 ?_
  refine j_alen g p0 0 he rfl (v := nI N) rfl dJ7_fill_53178_3 ?_
  refine j_istore_n g (lv' := [(3, .int (nI N)), (2, .int 0), (0, .ref x), (1, .int v)]) (by decide) rfl dJ7_fill_53178_4 ?_
  refine j_sub [1, 0, 2, 3] rfl ?_
  have hl := fl_loop_fill_53178 (f := f) (v := v) g he hN (fun lv => hret lv 20 () dJ7_fill_53178_20 trivial) N 0 (by omega)
  rw [fillI_0, ls_same he, nI_0] at hl
  exact hl
theorem j_fillI {Γ : GT} {cc : ByteArray} {own : String} {nL kc ks : Nat} {rm : Room} {q : Nat → ClassId} {ws : va_W} {lv : List (Nat × Value)} {pc : Nat} (g : gd Γ cc own nL rm q) {index : Nat} (L : clS own index yJ7_fill_53178 cJ7_fill_53178 4 none 2) (p0 : Nat) {x N : Nat} {f : Nat → Int32} {v : Int32} (he : ws[p0]? = some (x, .inl (q 0, N, .inl (f)))) (hfr : 0 + 1 ≤ rm.frames) (hlo : 8 + (4 + 11) + 0 ≤ rm.locals) {ws' : va_W} (hw : ws.set p0 (x, .inl (q 0, N, .inl (fillI f N v))) = ws') (hN : N < 2147483648) (hd : decode cc pc = .ok (.invokestatic index, 3)) (k : jw Γ nL kc ks ws' lv [] (pc + 3)) (hcells : kc + 0 ≤ rm.cells := by exact Nat.zero_le _) (hslots : ks + 0 ≤ rm.slots := by exact Nat.zero_le _) : jw Γ nL kc ks ws lv [.int v, .ref x] pc := by
  subst hw
  exact j_callSV g (As := [.ref x, .int v]) (st := []) (c_J7_fill_53178 he hN) L hfr hlo hcells hslots rfl rfl (Nat.le_of_ble_eq_true rfl) hd (fun _ _ => k)

set_option maxHeartbeats 1000000 in
theorem fl_loop_fill_d0a16 {Γ : GT} {q : Nat → ClassId} {ws : va_W} {p0 x N : Nat} {f : Nat → Int64} {v : Int64} (g : gd Γ cJ7_fill_d0a16 RJ7 5 (rmz 0 0) q) (he : ws[p0]? = some (x, .inl (q 1, N, .inr (.inl (f))))) (hN : N < 2147483648) (hret : ∀ lv, jw Γ 5 0 0 (ws.set p0 (x, .inl (q 1, N, .inr (.inl (fillL f N v))))) lv [] 22) :
    ∀ m k : Nat, k + m = N → jw Γ 5 0 0 (ws.set p0 (x, .inl (q 1, N, .inr (.inl (fillL f k v))))) [(3, .int (nI k)), (4, .int (nI N)), (0, .ref x), (1, .long v)] [] 6 := by
  intro m
  induction m with
  | zero =>
    intro k hk
    have e : k = N := by omega
    subst e
    refine j_iload_n g 0 rfl dJ7_fill_d0a16_6 ?_
    refine j_iload g 1 rfl dJ7_fill_d0a16_7 ?_
    refine j_icmp_ge g dJ7_fill_d0a16_9 (tgt := 22) (by decide) (fun _ => ?_) (fun c => absurd (nI_le (Nat.le_refl _) hN) c)
    exact hret _
  | succ m ih =>
    intro k hk
    have hlt : k < N := by omega
    refine j_iload_n g 0 rfl dJ7_fill_d0a16_6 ?_
    refine j_iload g 1 rfl dJ7_fill_d0a16_7 ?_
    refine j_icmp_ge g dJ7_fill_d0a16_9 (tgt := 22) (by decide) (fun c => absurd c (nI_ge hlt hN)) (fun _ => ?_)
    refine j_aload_n g 2 rfl dJ7_fill_d0a16_12 ?_
    refine j_iload_n g 0 rfl dJ7_fill_d0a16_13 ?_
    refine j_lload_n g 3 rfl dJ7_fill_d0a16_14 ?_
    refine j_last g p0 (ls_get he) (vp_in_nI hlt hN) (ws' := ws.set p0 (x, .inl (q 1, N, .inr (.inl (fillL f (k + 1) v))))) (by rw [List.set_set, nI_clamp (Nat.lt_trans hlt hN), fillL_s]) dJ7_fill_d0a16_15 ?_
    refine j_iinc g 0 (n := 1) (v := nI (k + 1)) (lv' := [(3, .int (nI (k + 1))), (4, .int (nI N)), (0, .ref x), (1, .long v)]) rfl (nI_1 k) (by decide) rfl dJ7_fill_d0a16_16 ?_
    refine j_goto g dJ7_fill_d0a16_19 (tgt := 6) (by decide) ?_
    exact ih (k + 1) (by omega)
set_option maxHeartbeats 1000000 in
theorem c_J7_fill_d0a16 {q : Nat → ClassId} {ws : va_W} {p0 x N : Nat} {f : Nat → Int64} {v : Int64} (he : ws[p0]? = some (x, .inl (q 1, N, .inr (.inl (f))))) (hN : N < 2147483648) : ctV q yJ7_fill_d0a16 cJ7_fill_d0a16 5 0 0 [.ref x, .long v] ws (fun (_ : Unit) => ws.set p0 (x, .inl (q 1, N, .inr (.inl (fillL f N v))))) (fun _ => True) := by
  refine met_V (by decide) (Nat.le_of_ble_eq_true rfl) (fun Γ g hret => ?_)
  show jw Γ 5 0 0 ws [(0, .ref x), (1, .long v)] [] 0
  refine j_iconst g (v := 0) (by decide) dJ7_fill_d0a16_0 ?_
  refine j_istore_n g (lv' := [(3, .int 0), (0, .ref x), (1, .long v)]) (by decide) rfl dJ7_fill_d0a16_1 ?_
  refine j_aload_n g 1 rfl dJ7_fill_d0a16_2 ?_
  refine j_alen g p0 1 he rfl (v := nI N) rfl dJ7_fill_d0a16_3 ?_
  refine j_istore g (lv' := [(4, .int (nI N)), (3, .int 0), (0, .ref x), (1, .long v)]) (by decide) rfl dJ7_fill_d0a16_4 ?_
  refine j_sub [1, 0, 2, 3] rfl ?_
  have hl := fl_loop_fill_d0a16 (f := f) (v := v) g he hN (fun lv => hret lv 22 () dJ7_fill_d0a16_22 trivial) N 0 (by omega)
  rw [fillL_0, ls_same he, nI_0] at hl
  exact hl
theorem j_fillL {Γ : GT} {cc : ByteArray} {own : String} {nL kc ks : Nat} {rm : Room} {q : Nat → ClassId} {ws : va_W} {lv : List (Nat × Value)} {pc : Nat} (g : gd Γ cc own nL rm q) {index : Nat} (L : clS own index yJ7_fill_d0a16 cJ7_fill_d0a16 5 none 2) (p0 : Nat) {x N : Nat} {f : Nat → Int64} {v : Int64} (he : ws[p0]? = some (x, .inl (q 1, N, .inr (.inl (f))))) (hfr : 0 + 1 ≤ rm.frames) (hlo : 8 + (5 + 11) + 0 ≤ rm.locals) {ws' : va_W} (hw : ws.set p0 (x, .inl (q 1, N, .inr (.inl (fillL f N v)))) = ws') (hN : N < 2147483648) (hd : decode cc pc = .ok (.invokestatic index, 3)) (k : jw Γ nL kc ks ws' lv [] (pc + 3)) (hcells : kc + 0 ≤ rm.cells := by exact Nat.zero_le _) (hslots : ks + 0 ≤ rm.slots := by exact Nat.zero_le _) : jw Γ nL kc ks ws lv [.long v, .ref x] pc := by
  subst hw
  exact j_callSV g (As := [.ref x, .long v]) (st := []) (c_J7_fill_d0a16 he hN) L hfr hlo hcells hslots rfl rfl (Nat.le_of_ble_eq_true rfl) hd (fun _ _ => k)

