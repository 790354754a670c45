/-! the frame: two worlds side by side; what makes objects -/
def va_AOA (ty : FieldType) (U : State) : Prop := (Cond.arrayOver (.array ty)).before #[] U = true
theorem va_AOA.use {ty : FieldType} {A : Array Value} {U : State} (h : va_AOA ty U) : (Cond.arrayOver (.array ty)).before A U = true := h

/-! ===== BEGIN new T[n][m]: the outer array a place, the inner ones among the pooled ===== -/
/-- f, but v at every address of l -/
def vr_up {α : Type} (f : Nat → α) (l : List Nat) (v : α) : Nat → α := fun a => if a ∈ l then v else f a
theorem vr_up_in {α : Type} {f : Nat → α} {l : List Nat} {v : α} {a : Nat} (h : a ∈ l) : vr_up f l v a = v := if_pos h
theorem vr_up_ne {α : Type} {f : Nat → α} {l : List Nat} {v : α} {a : Nat} (h : a ∉ l) : vr_up f l v a = f a := if_neg h
theorem vr_rows {L l : List Nat} {f : Nat → va_E} {e : va_E} (h : ∀ a, a ∈ l → a ∉ L) : va_pl L f ++ l.map (fun a => (a, e)) = va_pl (L ++ l) (vr_up f l e) := by
  unfold va_pl
  rw [List.map_append]
  congr 1
  · apply List.map_congr_left
    intro a ha
    rw [vr_up_ne (fun q => h a q ha)]
  · apply List.map_congr_left
    intro a ha
    rw [vr_up_in ha]
theorem vr_lay {X rows : va_W} {x : Nat × va_E} {pl : va_W} {D : va_G} {cl : List vw_C} {H : Heap} (hP : va_P D cl (((X ++ pl) ++ [x]) ++ rows) H) : va_P D cl ((X ++ [x]) ++ (pl ++ rows)) H := by
  rw [List.append_assoc (X ++ pl)] at hP
  have h := va_P.swap hP
  rw [← List.append_assoc X] at h
  have h2 := va_P.swap h
  rw [List.append_assoc (X ++ [x])] at h2
  exact h2
theorem vr_layD {X rows : va_W} {x : Nat × va_E} {pl : va_W} {A : Nat → Prop} (hD : va_D A (((X ++ pl) ++ [x]) ++ rows)) : va_D A ((X ++ [x]) ++ (pl ++ rows)) := by
  rw [List.append_assoc (X ++ pl)] at hD
  have h := va_D.swap hD
  rw [← List.append_assoc X] at h
  have h2 := va_D.swap h
  rw [List.append_assoc (X ++ [x])] at h2
  exact h2
section VGM
variable {p : Program} {l : Launch} {e : Env} {R : Room} {s : State} {m : MethodId} {args : Array Value} {below : List Frame} {meth : Method} {c : Code} {H : Heap} {locs : List Loc} {cells slots : Nat} {Q : State → Prop}
variable {cc : ByteArray} {pc : Nat} {ls : Array Slot} {rest : List Value} {D : va_G} {cl : List vw_C} {A : Nat → Prop} {a : Nat} {tys : List (ClassId × FieldType)} {ws : va_W} {H0 : Heap}
theorem va_mna {X : va_W} {L : List Nat} {f : Nat → va_E} {cc : ByteArray} (hexec : p.tables.exec = Jvm.exec) (hb : c.code = cc) {own : String} {index : Nat} {ty : FieldType} (hty : ty = .int) {cy : ClassId} (hown : s.vm.findClass own = some m.cls) (hclink : (Cond.classLink own index ("[" ++ (FieldType.array ty).toString)).before args s = true) (hover : va_AOA ty s) (harr : (Cond.arrayClass ty).before args s = true) (hcy : s.vm.findClass (FieldType.array ty).toString = some cy)
    (hK : va_K D cl tys s) (hP : va_P D cl (X ++ va_pl L f) H) (hD : va_D A (X ++ va_pl L f)) (hS : va_S A H0 H locs) (hA : ∀ q, H0.size ≤ q → A q) {n k : Int32} {N' K' : Nat} {z : vp_A} (hn : ¬ n < 0) (hk : ¬ k < 0) (hN : n.toNatClampNeg = N') (hM : k.toNatClampNeg = K')
    (hb1 : N' * 4 ≤ 536870912) (hb2 : K' * componentBytes ty ≤ 536870912) (hb3 : K' ≤ 536870912) (hdf : fits ty (defaultValue ty) = true) (hdd : (defaultValue ty).isDefault = true) (hcells : cells + (1 + N') ≤ R.cells) (hslots : slots + (N' + N' * K') ≤ R.slots) (hz : ∀ c : ClassId, arrV c K' (fun _ => .int 0) = vp_cell c z) (hdg : decode cc pc = .ok (.multianewarray index 2, 4))
    (kk : ∀ (q : Nat) (r : Nat → Nat) (cA : ClassId) (H1 : Heap), (∀ i j : Nat, i < N' → j < N' → r i = r j → i = j) → (∀ i : Nat, i < N' → r i ∉ L) → va_K D cl (tys ++ [(cA, .array .int)]) s →
      va_P D cl ((X ++ [(q, .inl (cA, N', .inr (.inr (.inr (.inr (fun i => if i < N' then some (r i) else none))))))]) ++ va_pl (L ++ (List.range N').map r) (vr_up f ((List.range N').map r) (.inl (cy, z)))) H1 → va_D A ((X ++ [(q, .inl (cA, N', .inr (.inr (.inr (.inr (fun i => if i < N' then some (r i) else none))))))]) ++ va_pl (L ++ (List.range N').map r) (vr_up f ((List.range N').map r) (.inl (cy, z)))) → va_S A H0 H1 locs →
      W p l e R s m args below meth c H1 locs (cells + 1 + N') (slots + N' + N' * K') Q (F0 m (pc + 4) ls (.ref q :: rest))) : W p l e R s m args below meth c H locs cells slots Q (F0 m pc ls (.int k :: .int n :: rest)) := by
  subst hN
  subst hM
  subst hty
  intro T hT Xs
  obtain ⟨cA, comp, F, fA, fC, hAr, X', f1, f2, hold0, hrow0, step⟩ := rg_step Xs hexec hown hclink (va_AOA.use hover) harr (g := F0 m pc ls (.int k :: .int n :: rest)) rfl (by rw [hb]; exact hdg) rfl hn hk rfl rfl hb1 hb2 hcells hslots
  have ec : some cy = some comp := hcy.symm.trans fC
  cases ec
  rw [hT] at f1 f2 hold0 hrow0
  have hold : ∀ x : Nat, x < H.size → F.heap[x]? = H[x]? := hold0
  have hrow : ∀ j : Nat, j < n.toNatClampNeg → F.heap[H.size + 1 + j]? = some (vp_cell cy z) := fun j hj => by
    rw [← hz]
    exact hrow0 j hj
  have hout : rg_o cA n.toNatClampNeg H.size n.toNatClampNeg = vp_cell cA (n.toNatClampNeg, .inr (.inr (.inr (.inr (fun i => if i < n.toNatClampNeg then some (H.size + 1 + i) else none))))) := by
    rw [vp_cell_q]
    rfl
  rw [hout] at f2
  have hlt : ∀ a, a ∈ L → a < H.size := fun a ha => by
    obtain ⟨k9, hk9⟩ := va_pl_get (X := X) (f := f) ha
    exact (hP k9 _ hk9).lt
  have hnl : ∀ i : Nat, i < n.toNatClampNeg → H.size + 1 + i ∉ L := fun i _ h => by
    have := hlt _ h
    omega
  have hnm : ∀ a, a ∈ (List.range n.toNatClampNeg).map (fun i => H.size + 1 + i) → a ∉ L := fun a ha h => by
    obtain ⟨i, -, rfl⟩ := List.mem_map.mp ha
    have := hlt _ h
    omega
  have hP0 : va_P D cl (X ++ va_pl L f) F.heap := hP.kept (fun k9 x hx => hold x.1 ((hP k9 x hx).lt))
  have hP1 : va_P D cl ((X ++ va_pl L f) ++ [(H.size, .inl (cA, n.toNatClampNeg, .inr (.inr (.inr (.inr (fun i => if i < n.toNatClampNeg then some (H.size + 1 + i) else none))))))]) F.heap := hP0.app (fun k9 x hx => by
    have h0 : k9 < 1 := (List.getElem?_eq_some_iff.mp hx).1
    rw [show k9 = 0 by omega] at hx
    cases hx
    exact f2)
  have hP2 : va_P D cl (((X ++ va_pl L f) ++ [(H.size, .inl (cA, n.toNatClampNeg, .inr (.inr (.inr (.inr (fun i => if i < n.toNatClampNeg then some (H.size + 1 + i) else none))))))]) ++ ((List.range n.toNatClampNeg).map (fun i => H.size + 1 + i)).map (fun a => (a, .inl (cy, z)))) F.heap := hP1.app (fun k9 x hx => by
    obtain ⟨a, ha, rfl⟩ := List.mem_map.mp (List.mem_of_getElem? hx)
    obtain ⟨i, hi, rfl⟩ := List.mem_map.mp ha
    exact hrow i (List.mem_range.mp hi))
  have hD2 : va_D A (((X ++ va_pl L f) ++ [(H.size, .inl (cA, n.toNatClampNeg, .inr (.inr (.inr (.inr (fun i => if i < n.toNatClampNeg then some (H.size + 1 + i) else none))))))]) ++ ((List.range n.toNatClampNeg).map (fun i => H.size + 1 + i)).map (fun a => (a, .inl (cy, z)))) := by
    have hD1 := hD.push (e := .inl (cA, n.toNatClampNeg, .inr (.inr (.inr (.inr (fun i => if i < n.toNatClampNeg then some (H.size + 1 + i) else none)))))) hP rfl (hA _ hS.1)
    generalize hW1 : (X ++ va_pl L f) ++ [(H.size, .inl (cA, n.toNatClampNeg, .inr (.inr (.inr (.inr (fun i => if i < n.toNatClampNeg then some (H.size + 1 + i) else none))))))] = W1 at hD1 hP1 ⊢
    have hle : ∀ (k9 : Nat) (x : Nat × va_E), W1[k9]? = some x → x.1 ≤ H.size := fun k9 x hx => by
      rw [← hW1] at hx
      by_cases hl : k9 < (X ++ va_pl L f).length
      · rw [List.getElem?_append_left hl] at hx
        exact Nat.le_of_lt ((hP k9 x hx).lt)
      · rw [List.getElem?_append_right (by omega)] at hx
        have h0 : k9 - (X ++ va_pl L f).length < 1 := (List.getElem?_eq_some_iff.mp hx).1
        rw [show k9 - (X ++ va_pl L f).length = 0 by omega] at hx
        cases hx
        exact Nat.le_refl _
    have hr : ∀ (k9 : Nat) (x : Nat × va_E), (((List.range n.toNatClampNeg).map (fun i => H.size + 1 + i)).map (fun a => ((a, .inl (cy, z)) : Nat × va_E)))[k9]? = some x → x.1 = H.size + 1 + k9 := fun k9 x hx => by
      rw [List.getElem?_map, List.getElem?_map] at hx
      by_cases h9 : k9 < n.toNatClampNeg
      · rw [List.getElem?_range h9] at hx
        cases hx
        rfl
      · have hn0 : (List.range n.toNatClampNeg)[k9]? = none := List.getElem?_eq_none (by rw [List.length_range]; omega)
        rw [hn0] at hx
        cases hx
    refine ⟨fun i j x y hi hj hxy => ?_, fun k9 x hx => ?_⟩
    · by_cases h1 : i < W1.length <;> by_cases h2 : j < W1.length
      · rw [List.getElem?_append_left h1] at hi
        rw [List.getElem?_append_left h2] at hj
        exact hD1.1 i j x y hi hj hxy
      · rw [List.getElem?_append_left h1] at hi
        rw [List.getElem?_append_right (by omega)] at hj
        have := hle _ _ hi
        have := hr _ _ hj
        omega
      · rw [List.getElem?_append_right (by omega)] at hi
        rw [List.getElem?_append_left h2] at hj
        have := hle _ _ hj
        have := hr _ _ hi
        omega
      · rw [List.getElem?_append_right (by omega)] at hi hj
        have := hr _ _ hi
        have := hr _ _ hj
        omega
    · by_cases h1 : k9 < W1.length
      · rw [List.getElem?_append_left h1] at hx
        exact hD1.2 k9 x hx
      · rw [List.getElem?_append_right (by omega)] at hx
        have := hr _ _ hx
        exact hA _ (by have := hS.1; omega)
  have hK2 : va_K D cl (tys ++ [(cA, .array .int)]) s := ⟨hK.1, fun k9 x hx => by
    by_cases hl : k9 < tys.length
    · rw [List.getElem?_append_left hl] at hx
      exact hK.2 k9 x hx
    · rw [List.getElem?_append_right (by omega)] at hx
      have h0 : k9 - tys.length < 1 := (List.getElem?_eq_some_iff.mp hx).1
      rw [show k9 - tys.length = 0 by omega] at hx
      cases hx
      exact ⟨hAr, fA⟩⟩
  obtain ⟨t, a1, b1⟩ := kk H.size (fun i => H.size + 1 + i) cA F.heap (fun i j _ _ h => by have h9 : H.size + 1 + i = H.size + 1 + j := h; omega) hnl hK2 (by rw [← vr_rows hnm]; exact vr_lay hP2) (by rw [← vr_rows hnm]; exact vr_layD hD2) ⟨by rw [f1]; have := hS.1; omega, fun x h1 h2 => (hold x (Nat.lt_of_lt_of_le h1 hS.1)).trans (hS.2.1 x h1 h2), hS.2.2⟩ F rfl X'
  refine ⟨t, step t ?_, b1⟩
  have e : T.heap.size = H.size := by rw [hT]
  rw [e]
  exact a1
end VGM

theorem pA_l {D : va_G} {cl : List vw_C} {w1 w2 : va_W} {H : Heap} (h : va_P D cl (w1 ++ w2) H) : va_P D cl w1 H := fun k x hk => h k x (by rw [List.getElem?_append_left (List.getElem?_eq_some_iff.mp hk).1]; exact hk)
theorem pA_r {D : va_G} {cl : List vw_C} {w1 w2 : va_W} {H : Heap} (h : va_P D cl (w1 ++ w2) H) : va_P D cl w2 H := fun k x hk => h (w1.length + k) x (by rw [List.getElem?_append_right (by omega), Nat.add_sub_cancel_left]; exact hk)
theorem dA_l {A : Nat → Prop} {w1 w2 : va_W} (h : va_D A (w1 ++ w2)) : va_D A w1 :=
  ⟨fun i j x y hi hj e => h.1 i j x y (by rw [List.getElem?_append_left (List.getElem?_eq_some_iff.mp hi).1]; exact hi) (by rw [List.getElem?_append_left (List.getElem?_eq_some_iff.mp hj).1]; exact hj) e,
   fun k x hk => h.2 k x (by rw [List.getElem?_append_left (List.getElem?_eq_some_iff.mp hk).1]; exact hk)⟩
theorem dA_r {A : Nat → Prop} {w1 w2 : va_W} (h : va_D A (w1 ++ w2)) : va_D A w2 :=
  ⟨fun i j x y hi hj e => by
     have := h.1 (w1.length + i) (w1.length + j) x y (by rw [List.getElem?_append_right (by omega), Nat.add_sub_cancel_left]; exact hi) (by rw [List.getElem?_append_right (by omega), Nat.add_sub_cancel_left]; exact hj) e
     omega,
   fun k x hk => h.2 (w1.length + k) x (by rw [List.getElem?_append_right (by omega), Nat.add_sub_cancel_left]; exact hk)⟩
theorem dA_x {A : Nat → Prop} {w1 w2 : va_W} (h : va_D A (w1 ++ w2)) {i j : Nat} {x y : Nat × va_E} (hi : w1[i]? = some x) (hj : w2[j]? = some y) : x.1 ≠ y.1 := fun e => by
  have hlt := (List.getElem?_eq_some_iff.mp hi).1
  have := h.1 i (w1.length + j) x y (by rw [List.getElem?_append_left hlt]; exact hi) (by rw [List.getElem?_append_right (by omega), Nat.add_sub_cancel_left]; exact hj) e
  omega
theorem fr_apart {A : Nat → Prop} {D : va_G} {cl : List vw_C} {W1 W2 : va_W} {H : Heap} (hP2 : va_P D cl W2 H) (hx : ∀ {i j : Nat} {x y : Nat × va_E}, W1[i]? = some x → W2[j]? = some y → x.1 ≠ y.1) {j : Nat} {y : Nat × va_E} (hj : W2[j]? = some y) : y.1 < H.size ∧ ¬ va_A W1 H.size y.1 := by
  have hl := (hP2 j y hj).lt
  refine ⟨hl, fun h => ?_⟩
  rcases h with ⟨k, e, hk⟩ | h
  · exact hx hk hj rfl
  · omega
theorem fr_joinL {A0 : Nat → Prop} {D : va_G} {cl : List vw_C} {W1 W2 W1' : va_W} {H H1 : Heap} (hP : va_P D cl (W1 ++ W2) H) (hD : va_D A0 (W1 ++ W2)) (hk : ∀ z : Nat, z < H.size → ¬ va_A W1 H.size z → H1[z]? = H[z]?) (hF : ∀ z, va_A W1 H.size z → A0 z) (hP1 : va_P D cl W1' H1) (hD1 : va_D (va_A W1 H.size) W1') : va_P D cl (W1' ++ W2) H1 ∧ va_D A0 (W1' ++ W2) := by
  have hP2 := pA_r hP
  refine ⟨va_P.app hP1 (hP2.kept (fun k x hx => ?_)), va_D.app (hD1.weaken (fun _ _ _ h => hF _ h)) (dA_r hD) (fun i j x y hi hj e => ?_)⟩
  · obtain ⟨g1, g2⟩ := fr_apart (A := A0) (W1 := W1) hP2 (fun h1 h2 => dA_x hD h1 h2) hx
    exact hk _ g1 g2
  · obtain ⟨g1, g2⟩ := fr_apart (A := A0) (W1 := W1) hP2 (fun h1 h2 => dA_x hD h1 h2) hj
    exact g2 (e ▸ hD1.2 i x hi)
theorem fr_joinR {A0 : Nat → Prop} {D : va_G} {cl : List vw_C} {W1 W2 W2' : va_W} {H H1 : Heap} (hP : va_P D cl (W1 ++ W2) H) (hD : va_D A0 (W1 ++ W2)) (hk : ∀ z : Nat, z < H.size → ¬ va_A W2 H.size z → H1[z]? = H[z]?) (hF : ∀ z, va_A W2 H.size z → A0 z) (hP1 : va_P D cl W2' H1) (hD1 : va_D (va_A W2 H.size) W2') : va_P D cl (W1 ++ W2') H1 ∧ va_D A0 (W1 ++ W2') := by
  have hP2 := pA_l hP
  refine ⟨va_P.app (hP2.kept (fun k x hx => ?_)) hP1, va_D.app (dA_l hD) (hD1.weaken (fun _ _ _ h => hF _ h)) (fun i j x y hi hj e => ?_)⟩
  · obtain ⟨g1, g2⟩ := fr_apart (A := A0) (W1 := W2) hP2 (fun h1 h2 => (dA_x hD h2 h1).symm) hx
    exact hk _ g1 g2
  · obtain ⟨g1, g2⟩ := fr_apart (A := A0) (W1 := W2) hP2 (fun h1 h2 => (dA_x hD h2 h1).symm) hi
    exact g2 (e ▸ hD1.2 j y hj)
section JF
variable {Γ : GT} {cc : ByteArray} {own : String} {nL kc ks : Nat} {rm : Room} {q : Nat → ClassId} {lv : List (Nat × Value)} {st : List Value} {pc : Nat}
variable {y : MethodName} {ccY : ByteArray} {nY frY loY index n : Nat} {S : Type} {Wd : S → va_W} {W1 W2 : va_W}

theorem j_fLI (g : gd Γ cc own nL rm q) {b : Nat} {As : List Value} {K : Int32 → S → Prop} {st0 : List Value} (hC : ctI q y ccY nY frY loY (.ref b :: As) W1 Wd K) (L : clV own index y ccY nY (some .int) n) (q0 ci : Nat) {fs : List Value} {rc : vw_C} (he : W1[q0]? = some (b, .inr (ci, fs))) (hrc : jclasses[ci]? = some rc) (hcn : rc.1 = y.cls) (hfr : frY + 1 ≤ rm.frames) (hlo : 8 + (nY + 11) + loY ≤ rm.locals) (hcells : kc + 0 ≤ rm.cells) (hslots : ks + 0 ≤ rm.slots) (hAs : As.length = n) (hst : st0 = As.reverse ++ .ref b :: st) (hcat : (st.map fun v => v.category).sum ≤ 8) (hd : decode cc pc = .ok (.invokevirtual index, 3)) (k : ∀ (r : Int32) (u : S), K r u → jw Γ nL kc ks (Wd u ++ W2) lv (.int r :: st) (pc + 3)) : jw Γ nL kc ks (W1 ++ W2) lv st0 pc := by
  obtain ⟨p, l, e, R, s, m, args, below, meth, c, D, A, Q⟩ := Γ
  obtain ⟨hx, hb, hml, hown, hts, hK, hA, hR⟩ := g
  intro H locs ls hP hD hS hl
  subst hR
  have hPc := (pA_l hP)
  have hDc := (dA_l hD)
  have hF : ∀ z, va_A W1 H.size z → A z := fun z h => by
    rcases h with ⟨k9, e9, h9⟩ | h9
    · exact hDc.2 k9 _ h9
    · exact hA z (Nat.le_trans hS.1 h9)
  refine va_calli (va_runV (As := As) (rest := st) ⟨hx, hb, hml, hown, hts⟩ (hC l D H.size) ⟨callB_of n hts (gt_call L.2.2.2.2.1) rfl rfl rfl (hts _ L.2.2.2.1) (hts _ L.1) L.2.2.2.2.2 ⟨hfr, hlo⟩, hts _ L.2.1, hts _ L.2.2.1⟩ ⟨jPre_blind, hcn ▸ va_recv hK hPc hrc he, fun U hU hW => ⟨rfl, by rw [hU], by rw [hU]; exact hPc, va_K.moved hW.alike hK, hDc.weaken (fun _ _ _ _ => trivial)⟩⟩ rfl hAs hl.1 hst (lv_room hcat) hd ⟨hcells, hslots⟩) hS (fun z _ h => hF z h) hF (fun r_ u t H1 locs1 ht hvm hp hB hz1 hk1 hS1 => ?_)
  subst ht
  have hj := fr_joinL hP hD hk1 hF hB.1 hB.2.2
  exact k r_ u hp _ locs1 ls hj.1 hj.2 hS1 hl
theorem j_fLZ (g : gd Γ cc own nL rm q) {b : Nat} {As : List Value} {K : Int32 → S → Prop} {st0 : List Value} (hC : ctZ q y ccY nY frY loY (.ref b :: As) W1 Wd K) (L : clV own index y ccY nY (some .boolean) n) (q0 ci : Nat) {fs : List Value} {rc : vw_C} (he : W1[q0]? = some (b, .inr (ci, fs))) (hrc : jclasses[ci]? = some rc) (hcn : rc.1 = y.cls) (hfr : frY + 1 ≤ rm.frames) (hlo : 8 + (nY + 11) + loY ≤ rm.locals) (hcells : kc + 0 ≤ rm.cells) (hslots : ks + 0 ≤ rm.slots) (hAs : As.length = n) (hst : st0 = As.reverse ++ .ref b :: st) (hcat : (st.map fun v => v.category).sum ≤ 8) (hd : decode cc pc = .ok (.invokevirtual index, 3)) (k : ∀ (r : Int32) (u : S), (r = 0 ∨ r = 1) → K r u → jw Γ nL kc ks (Wd u ++ W2) lv (.int r :: st) (pc + 3)) : jw Γ nL kc ks (W1 ++ W2) lv st0 pc := by
  obtain ⟨p, l, e, R, s, m, args, below, meth, c, D, A, Q⟩ := Γ
  obtain ⟨hx, hb, hml, hown, hts, hK, hA, hR⟩ := g
  intro H locs ls hP hD hS hl
  subst hR
  have hPc := (pA_l hP)
  have hDc := (dA_l hD)
  have hF : ∀ z, va_A W1 H.size z → A z := fun z h => by
    rcases h with ⟨k9, e9, h9⟩ | h9
    · exact hDc.2 k9 _ h9
    · exact hA z (Nat.le_trans hS.1 h9)
  refine va_calli (va_runV (As := As) (rest := st) ⟨hx, hb, hml, hown, hts⟩ (hC l D H.size) ⟨callB_of n hts (gt_call L.2.2.2.2.1) rfl rfl rfl (hts _ L.2.2.2.1) (hts _ L.1) L.2.2.2.2.2 ⟨hfr, hlo⟩, hts _ L.2.1, hts _ L.2.2.1⟩ ⟨jPre_blind, hcn ▸ va_recv hK hPc hrc he, fun U hU hW => ⟨rfl, by rw [hU], by rw [hU]; exact hPc, va_K.moved hW.alike hK, hDc.weaken (fun _ _ _ _ => trivial)⟩⟩ rfl hAs hl.1 hst (lv_room hcat) hd ⟨hcells, hslots⟩) hS (fun z _ h => hF z h) hF (fun r_ u t H1 locs1 ht hvm hp hB hz1 hk1 hS1 => ?_)
  subst ht
  have hj := fr_joinL hP hD hk1 hF hB.1 hB.2.2
  exact k r_ u hp.1 hp.2 _ locs1 ls hj.1 hj.2 hS1 hl
theorem j_fRI (g : gd Γ cc own nL rm q) {b : Nat} {As : List Value} {K : Int32 → S → Prop} {st0 : List Value} (hC : ctI q y ccY nY frY loY (.ref b :: As) W2 Wd K) (L : clV own index y ccY nY (some .int) n) (q0 ci : Nat) {fs : List Value} {rc : vw_C} (he : W2[q0]? = some (b, .inr (ci, fs))) (hrc : jclasses[ci]? = some rc) (hcn : rc.1 = y.cls) (hfr : frY + 1 ≤ rm.frames) (hlo : 8 + (nY + 11) + loY ≤ rm.locals) (hcells : kc + 0 ≤ rm.cells) (hslots : ks + 0 ≤ rm.slots) (hAs : As.length = n) (hst : st0 = As.reverse ++ .ref b :: st) (hcat : (st.map fun v => v.category).sum ≤ 8) (hd : decode cc pc = .ok (.invokevirtual index, 3)) (k : ∀ (r : Int32) (u : S), K r u → jw Γ nL kc ks (W1 ++ Wd u) lv (.int r :: st) (pc + 3)) : jw Γ nL kc ks (W1 ++ W2) lv st0 pc := by
  obtain ⟨p, l, e, R, s, m, args, below, meth, c, D, A, Q⟩ := Γ
  obtain ⟨hx, hb, hml, hown, hts, hK, hA, hR⟩ := g
  intro H locs ls hP hD hS hl
  subst hR
  have hPc := (pA_r hP)
  have hDc := (dA_r hD)
  have hF : ∀ z, va_A W2 H.size z → A z := fun z h => by
    rcases h with ⟨k9, e9, h9⟩ | h9
    · exact hDc.2 k9 _ h9
    · exact hA z (Nat.le_trans hS.1 h9)
  refine va_calli (va_runV (As := As) (rest := st) ⟨hx, hb, hml, hown, hts⟩ (hC l D H.size) ⟨callB_of n hts (gt_call L.2.2.2.2.1) rfl rfl rfl (hts _ L.2.2.2.1) (hts _ L.1) L.2.2.2.2.2 ⟨hfr, hlo⟩, hts _ L.2.1, hts _ L.2.2.1⟩ ⟨jPre_blind, hcn ▸ va_recv hK hPc hrc he, fun U hU hW => ⟨rfl, by rw [hU], by rw [hU]; exact hPc, va_K.moved hW.alike hK, hDc.weaken (fun _ _ _ _ => trivial)⟩⟩ rfl hAs hl.1 hst (lv_room hcat) hd ⟨hcells, hslots⟩) hS (fun z _ h => hF z h) hF (fun r_ u t H1 locs1 ht hvm hp hB hz1 hk1 hS1 => ?_)
  subst ht
  have hj := fr_joinR hP hD hk1 hF hB.1 hB.2.2
  exact k r_ u hp _ locs1 ls hj.1 hj.2 hS1 hl
theorem j_fRZ (g : gd Γ cc own nL rm q) {b : Nat} {As : List Value} {K : Int32 → S → Prop} {st0 : List Value} (hC : ctZ q y ccY nY frY loY (.ref b :: As) W2 Wd K) (L : clV own index y ccY nY (some .boolean) n) (q0 ci : Nat) {fs : List Value} {rc : vw_C} (he : W2[q0]? = some (b, .inr (ci, fs))) (hrc : jclasses[ci]? = some rc) (hcn : rc.1 = y.cls) (hfr : frY + 1 ≤ rm.frames) (hlo : 8 + (nY + 11) + loY ≤ rm.locals) (hcells : kc + 0 ≤ rm.cells) (hslots : ks + 0 ≤ rm.slots) (hAs : As.length = n) (hst : st0 = As.reverse ++ .ref b :: st) (hcat : (st.map fun v => v.category).sum ≤ 8) (hd : decode cc pc = .ok (.invokevirtual index, 3)) (k : ∀ (r : Int32) (u : S), (r = 0 ∨ r = 1) → K r u → jw Γ nL kc ks (W1 ++ Wd u) lv (.int r :: st) (pc + 3)) : jw Γ nL kc ks (W1 ++ W2) lv st0 pc := by
  obtain ⟨p, l, e, R, s, m, args, below, meth, c, D, A, Q⟩ := Γ
  obtain ⟨hx, hb, hml, hown, hts, hK, hA, hR⟩ := g
  intro H locs ls hP hD hS hl
  subst hR
  have hPc := (pA_r hP)
  have hDc := (dA_r hD)
  have hF : ∀ z, va_A W2 H.size z → A z := fun z h => by
    rcases h with ⟨k9, e9, h9⟩ | h9
    · exact hDc.2 k9 _ h9
    · exact hA z (Nat.le_trans hS.1 h9)
  refine va_calli (va_runV (As := As) (rest := st) ⟨hx, hb, hml, hown, hts⟩ (hC l D H.size) ⟨callB_of n hts (gt_call L.2.2.2.2.1) rfl rfl rfl (hts _ L.2.2.2.1) (hts _ L.1) L.2.2.2.2.2 ⟨hfr, hlo⟩, hts _ L.2.1, hts _ L.2.2.1⟩ ⟨jPre_blind, hcn ▸ va_recv hK hPc hrc he, fun U hU hW => ⟨rfl, by rw [hU], by rw [hU]; exact hPc, va_K.moved hW.alike hK, hDc.weaken (fun _ _ _ _ => trivial)⟩⟩ rfl hAs hl.1 hst (lv_room hcat) hd ⟨hcells, hslots⟩) hS (fun z _ h => hF z h) hF (fun r_ u t H1 locs1 ht hvm hp hB hz1 hk1 hS1 => ?_)
  subst ht
  have hj := fr_joinR hP hD hk1 hF hB.1 hB.2.2
  exact k r_ u hp.1 hp.2 _ locs1 ls hj.1 hj.2 hS1 hl
end JF
/-! making: what isn't among the steady words -/
theorem bare_idx (p : Class → Bool) (hp : ∀ k k2 : Class, k.kind = k2.kind → p k = p k2) (vm : Vm) : vm.bare.classes.findIdx? p = vm.classes.findIdx? p := by
  simp only [Vm.bare, Array.findIdx?_map]
  congr 1
  funext k
  exact hp _ _ rfl
theorem bare_map {α : Type} (p : Class → α) (hp : ∀ k k2 : Class, k.kind = k2.kind → p k = p k2) (vm : Vm) (c : Nat) : (vm.bare.classes[c]?).map p = (vm.classes[c]?).map p := by
  simp only [Vm.bare, Array.getElem?_map, Option.map_map]
  congr 1
  funext k
  exact hp _ _ rfl
theorem alike_idx {u U : Vm} (hvm : u.Alike U) (p : Class → Bool) (hp : ∀ k k2 : Class, k.kind = k2.kind → p k = p k2) : U.classes.findIdx? p = u.classes.findIdx? p := by
  rw [← bare_idx p hp U, ← bare_idx p hp u]
  first | rw [hvm.bare_eq] | rw [← hvm.bare_eq]
theorem alike_map {α : Type} {u U : Vm} (hvm : u.Alike U) (p : Class → α) (hp : ∀ k k2 : Class, k.kind = k2.kind → p k = p k2) (c : Nat) : (U.classes[c]?).map p = (u.classes[c]?).map p := by
  rw [← bare_map p hp U, ← bare_map p hp u]
  first | rw [hvm.bare_eq] | rw [← hvm.bare_eq]
theorem va_AOA.moved {t : FieldType} {u U : State} (hvm : u.vm.Alike U.vm) (h : va_AOA t u) : va_AOA t U := by
  unfold va_AOA at h ⊢
  rw [← h]
  unfold Cond.before Cond.holds
  simp only [Cond.value, hvm.findClass]
  cases hc : u.vm.findClass (FieldType.array t).toString with
  | none => rfl
  | some comp =>
    simp only [Option.bind_some]
    rw [alike_idx hvm _ (fun k k2 hk => by simp only [hk])]
    congr 2
    funext c
    exact alike_map hvm _ (fun k k2 hk => by simp only [hk]) c

