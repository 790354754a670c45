/-! constructors: rows and contracts -/
def EX (U : State) : Prop := va_Nw (.methodLinkNest RX3 28 yX0_init RX5) U ∧ va_Nw (.methodLinkNest RX5 18 yX2_init RX5) U ∧ va_Nw (.methodLinkNest RX1 21 yX2_init RX5) U ∧ va_AO RX0 U ∧ va_AO RX2 U ∧ va_AOA .int U
theorem EX.warm {s U : State} (hW : s.WarmedH U.vm) (h : EX s) : EX U := ⟨va_Nw.warmM hW h.1, va_Nw.warmM hW h.2.1, va_Nw.warmM hW h.2.2.1, va_AO.moved hW.alike h.2.2.2.1, va_AO.moved hW.alike h.2.2.2.2.1, va_AOA.moved hW.alike h.2.2.2.2.2⟩
theorem EX.same {u U : State} (e : u.vm = U.vm) (h : EX u) : EX U := ⟨va_Nw.same rfl e h.1, va_Nw.same rfl e h.2.1, va_Nw.same rfl e h.2.2.1, va_AO.moved (e ▸ Vm.Alike.refl u.vm) h.2.2.2.1, va_AO.moved (e ▸ Vm.Alike.refl u.vm) h.2.2.2.2.1, va_AOA.moved (e ▸ Vm.Alike.refl u.vm) h.2.2.2.2.2⟩
def gE (Γ : GT) : Prop := match Γ with
  | (_, _, _, _, s, _, _, _, _, _, _, _, _) => EX s
def gI (Γ : GT) : Prop := match Γ with
  | (_, _, _, _, _, _, _, _, meth, _, _, _, _) => meth.name = "<init>"
def jPreC (D : va_G) (q : Nat → ClassId) (W0 : va_W) (sz : Nat) (av : List Value) : Array Value → State → Prop := va_Pc av (fun U => U.heap.size = sz ∧ va_P D jclasses W0 U.heap ∧ va_K D jclasses (jtys q) U ∧ va_D (fun _ => True) W0 ∧ EX U)
theorem jPreC_blind {D : va_G} {q : Nat → ClassId} {W0 : va_W} {sz : Nat} {av : List Value} : FrameBlind (jPreC D q W0 sz av) := fun a U g mk h => by
  obtain ⟨q0, q1, qP, qK, qD, qE⟩ := h
  exact ⟨q0, q1, qP, va_K.moved (u := U) (U := U.calling g mk a) (Vm.Alike.refl U.vm) qK, qD, EX.same (u := U) (U := U.calling g mk a) rfl qE⟩
def ctC (q : Nat → ClassId) (y : MethodName) (cc : ByteArray) (nL fr lo mc ms : Nat) (av : List Value) (W0 : va_W) {S : Type} (Wd : S → va_W) (K : S → Prop) : Prop := ∀ (l : Launch) (D : va_G) (sz : Nat), Met l y (.code y cc nL none :: gt) { frames := fr, cells := mc, slots := ms, locals := lo } (jPreC D q W0 sz av) (va_Qv K (jPost D q W0 sz Wd) (va_A W0 sz)) mc ms (va_A W0 sz)
def rtC (Γ : GT) (cc : ByteArray) (nL mc ms : Nat) {S : Type} (Wd : S → va_W) (K : S → Prop) : Prop := ∀ (lv : List (Nat × Value)) (pc : Nat) (u : S), decode cc pc = .ok (.return_, 1) → K u → jw Γ nL mc ms (Wd u) lv [] pc
theorem met_C {q : Nat → ClassId} {y : MethodName} {cc : ByteArray} {nL fr lo mc ms : Nat} {av : List Value} {W0 : va_W} {S : Type} {Wd : S → va_W} {K : S → Prop} (hy : plainName y.cls = true) (hyn : y.name = "<init>") (hav : (lg_sl av).length ≤ nL)
    (walk : ∀ Γ : GT, gd Γ cc y.cls nL { frames := fr, cells := mc, slots := ms, locals := lo } q → gE Γ → gI Γ → rtC Γ cc nL mc ms Wd K → jw Γ nL 0 0 W0 (lv_args 0 av) [] 0) : ctC q y cc nL fr lo mc ms av W0 Wd K := by
  intro l D sz
  refine Met.ofW (cc := cc) (maxL := nL) (ret := none) hy rfl ?_
  intro p e s m args below meth c s₁ B hml hv
  obtain ⟨rfl, hsz, hP, hK, hD0, hE⟩ := hv
  have hx := B.exec
  have hb := B.bytes
  have hr := B.returns
  have hts := atoms_spec (ws := .code y cc nL none :: gt) B.pre
  have hown : s.vm.findClass y.cls = some m.cls := findClass_of_methodNamed B.named
  have hlocks := B.notSynchronized
  have hin : meth.name = "<init>" := hyn ▸ (name_of_methodNamed B.named B.method).1
  subst hsz
  have hD := hD0.self (sz := s.heap.size)
  have hA : ∀ z : Nat, s.heap.size ≤ z → va_A W0 s.heap.size z := fun z h => Or.inr h
  have hl := lv_entry av (n := nL) hav
  rw [lg_entry_eq]
  refine walk (p, l, e, { frames := fr, cells := mc, slots := ms, locals := lo }, s, m, av.toArray, below, meth, c, D, va_A W0 s.heap.size, _) ⟨hx, hb, hml, hown, fun w hw => hts w (List.mem_cons_of_mem _ hw), hK, hA, rfl⟩ hE hin ?_ s.heap [] _ hP hD va_S.rf hl
  intro lv pc u hd hKr
  intro H locs ls hP9 hD9 hS _
  exact W.vret hx hb hr (fun t ht hW => ⟨⟨u, rfl, hKr, by rw [ht]; exact hP9, va_K.moved hW.alike hK, hD9⟩, hS.F ht⟩) hS.2.2 hd
section JK
variable {Γ : GT} {cc : ByteArray} {own : String} {nL kc ks : Nat} {rm : Room} {q : Nat → ClassId} {ws : va_W} {lv : List (Nat × Value)} {st : List Value} {pc : Nat}
theorem oi_i : Cond.instanceMethod objectInit ∈ gt := gt_in (by decide +kernel) rfl
theorem oi_c : Cond.code objectInit ⟨#[0xb1]⟩ 1 none ∈ gt := gt_in (by decide +kernel) rfl
theorem j_objInit (g : gd Γ cc own nL rm q) {index x : Nat} (L : Cond.methodLink own index objectInit ∈ gt) (hf : 1 ≤ rm.frames) (hlo : (st.map fun v => v.category).sum + 12 ≤ rm.locals) (hd : decode cc pc = .ok (.invokespecial index, 3)) (k : jw Γ nL kc ks ws lv st (pc + 3)) : jw Γ nL kc ks ws lv (.ref x :: st) pc := by
  obtain ⟨p, l, e, R, s, m, args, below, meth, c, D, A, Q⟩ := Γ
  obtain ⟨hx, hb, hml, hown, hts, hK, hA, hR⟩ := g
  intro H locs ls hP hD hS hl
  subst hR
  refine W.objInit hx hb hown (hts _ L) (hts _ oi_i) (hts _ oi_c) rfl (by rw [hml]; exact hl.1) rfl hd hf ?_ ?_
  · show 2 * 0 + _ + 12 ≤ _
    omega
  · exact k H locs ls hP hD hS hl
theorem j_new (g : gd Γ cc own nL rm q) {index ci N : Nat} {C : String} {T : u_T} (hin : ∀ w ∈ u_ws C T N, w ∈ gt) (ty : Nat → FieldType) (hty : ∀ k, k < N → parseFieldDescriptor (T k).2.2.1 = some (ty k)) (h1 : Cond.classLink own index C ∈ gt) (h2 : Cond.instantiable C N ∈ gt) (h3 : Cond.initialized C ∈ gt) (hc : jclasses[ci]? = some (C, T, N)) {fs : List Value} (hfs : ∀ j, j < N → defaultValue (ty j) = vp_V fs j) (hcells : kc + 1 ≤ rm.cells) (hslots : ks + N ≤ rm.slots) (hd : decode cc pc = .ok (.new index, 3)) (k : ∀ x : Nat, jw Γ nL (kc + 1) (ks + N) (ws ++ [(x, .inr (ci, fs))]) lv (.ref x :: st) (pc + 3)) : jw Γ nL kc ks ws lv st pc := by
  obtain ⟨p, l, e, R, s, m, args, below, meth, c, D, A, Q⟩ := Γ
  obtain ⟨hx, hb, hml, hown, hts, hK, hA, hR⟩ := g
  intro H locs ls hP hD hS hl
  subst hR
  exact va_new hx hb hts hin ty hty hown (hts _ h1) (hts _ h2) (hts _ h3) hK hP hD hS hA hc hfs hcells hslots hd (fun x H1 hP hD hS => k x H1 locs ls hP hD hS hl)
theorem j_newa (g : gd Γ cc own nL rm q) {atype : ArrayType} {t : Nat} {ty : FieldType} (ht : (jtys q)[t]? = some (q t, ty)) (hnq : ∀ C, ty ≠ .object C) (hty : newarray.typeOf atype = ty) (L : Cond.arrayClass ty ∈ gt) {n : Int32} {N : Nat} {a0 : vp_A} (ha : ∀ cA : ClassId, vp_cell cA a0 = arrV cA N (fun _ => defaultValue ty)) (hn : ¬ n < 0) (hN : n.toNatClampNeg = N) (hby : N * componentBytes ty ≤ 536870912) (hcells : kc + 1 ≤ rm.cells) (hslots : ks + N ≤ rm.slots) (hd : decode cc pc = .ok (.newarray atype, 2)) (k : ∀ x : Nat, jw Γ nL (kc + 1) (ks + N) (ws ++ [(x, .inl (q t, a0))]) lv (.ref x :: st) (pc + 2)) : jw Γ nL kc ks ws lv (.int n :: st) pc := by
  obtain ⟨p, l, e, R, s, m, args, below, meth, c, D, A, Q⟩ := Γ
  obtain ⟨hx, hb, hml, hown, hts, hK, hA, hR⟩ := g
  intro H locs ls hP hD hS hl
  subst hR
  refine va_newa hx hb (by rw [hty]; exact hts _ L) hty hK hP hD hS hA ha hn hN hby hcells hslots hd (fun x cA H1 hK2 hP hD hS => ?_)
  have e1 := (hK2.2 6 (cA, ty) rfl).2
  have e2 := (hK.2 t (q t, ty) ht).2
  have e : cA = q t := by
    cases ty with
    | object C => exact absurd rfl (hnq C)
    | _ => exact Option.some.inj (e1.symm.trans e2)
  subst e
  exact k x H1 locs ls hP hD hS hl
theorem j_newq (g : gd Γ cc own nL rm q) {index t : Nat} {C : String} (hE : ∀ s : State, EX s → va_AO C s) (gx : gE Γ) (ht : (jtys q)[t]? = some (q t, .object C)) (L : Cond.classLink own index C ∈ gt) {n : Int32} {N : Nat} (hn : ¬ n < 0) (hN : n.toNatClampNeg = N) (hby : N * 4 ≤ 536870912) (hcells : kc + 1 ≤ rm.cells) (hslots : ks + N ≤ rm.slots) (hd : decode cc pc = .ok (.anewarray index, 3)) (k : ∀ x : Nat, jw Γ nL (kc + 1) (ks + N) (ws ++ [(x, .inl (q t, N, .inr (.inr (.inr (.inr (fun _ => none))))))]) lv (.ref x :: st) (pc + 3)) : jw Γ nL kc ks ws lv (.int n :: st) pc := by
  obtain ⟨p, l, e, R, s, m, args, below, meth, c, D, A, Q⟩ := Γ
  obtain ⟨hx, hb, hml, hown, hts, hK, hA, hR⟩ := g
  intro H locs ls hP hD hS hl
  subst hR
  refine va_newq hx hb hown (hts _ L) (hE _ gx) hK hP hD hS hA hn hN hby hcells hslots hd (fun x cA H1 hK2 hP hD hS => ?_)
  obtain ⟨_, _, _, _, _, e1⟩ := (hK2.2 6 (cA, .object C) rfl).2
  obtain ⟨_, _, _, _, _, e2⟩ := (hK.2 t (q t, .object C) ht).2
  have e : cA = q t := Option.some.inj (e1.symm.trans e2)
  subst e
  exact k x H1 locs ls hP hD hS hl
theorem j_mna (g : gd Γ cc own nL rm q) (gx : gE Γ) {index : Nat} (L : Cond.classLink own index "[[I" ∈ gt) (L2 : Cond.arrayClass .int ∈ gt) (hcells : kc + (1 + 6) ≤ rm.cells) (hslots : ks + (6 + 6 * 1000) ≤ rm.slots) (hd : decode cc pc = .ok (.multianewarray index 2, 4)) (k : ∀ (x : Nat) (r : Nat → Nat), jw Γ nL (kc + 1 + 6) (ks + 6 + 6 * 1000) (ws ++ [(x, .inl (q 5, 6, .inr (.inr (.inr (.inr (fun i => if i < 6 then some (r i) else none)))))), (r 0, .inl (q 0, 1000, .inl (fun _ => 0))), (r 1, .inl (q 0, 1000, .inl (fun _ => 0))), (r 2, .inl (q 0, 1000, .inl (fun _ => 0))), (r 3, .inl (q 0, 1000, .inl (fun _ => 0))), (r 4, .inl (q 0, 1000, .inl (fun _ => 0))), (r 5, .inl (q 0, 1000, .inl (fun _ => 0)))]) lv (.ref x :: st) (pc + 4)) : jw Γ nL kc ks ws lv (.int 1000 :: .int 6 :: st) pc := by
  obtain ⟨p, l, e, R, s, m, args, below, meth, c, D, A, Q⟩ := Γ
  obtain ⟨hx, hb, hml, hown, hts, hK, hA, hR⟩ := g
  intro H locs ls hP hD hS hl
  subst hR
  have e0 : va_pl ([] : List Nat) (fun _ => (.inr (0, []) : va_E)) = [] := rfl
  refine va_mna (X := ws) (L := []) (f := fun _ => .inr (0, [])) (ty := .int) (cy := q 0) (N' := 6) (K' := 1000) (z := (1000, .inl (fun _ => 0))) hx hb rfl hown (hts _ L) gx.2.2.2.2.2 (hts _ L2) (hK.2 0 (q 0, .int) rfl).2 hK (by rw [e0, List.append_nil]; exact hP) (by rw [e0, List.append_nil]; exact hD) hS hA (by decide) (by decide) (by decide) (by decide) (by decide) (by decide) (by decide) rfl rfl hcells hslots (fun c => rfl) hd (fun x r cA H1 hinj hnl hK2 hP hD hS => ?_)
  have e1 := (hK2.2 6 (cA, .array .int) rfl).2
  have e2 := (hK.2 5 (q 5, .array .int) rfl).2
  have e : cA = q 5 := Option.some.inj (e1.symm.trans e2)
  subst e
  have hL : va_pl ([] ++ (List.range 6).map r) (vr_up (fun _ => (.inr (0, []) : va_E)) ((List.range 6).map r) (.inl (q 0, 1000, .inl (fun _ => 0)))) = [(r 0, .inl (q 0, 1000, .inl (fun _ => 0))), (r 1, .inl (q 0, 1000, .inl (fun _ => 0))), (r 2, .inl (q 0, 1000, .inl (fun _ => 0))), (r 3, .inl (q 0, 1000, .inl (fun _ => 0))), (r 4, .inl (q 0, 1000, .inl (fun _ => 0))), (r 5, .inl (q 0, 1000, .inl (fun _ => 0)))] := by
    simp [va_pl, vr_up, List.range, List.range.loop]
  rw [hL, List.append_assoc] at hP hD
  exact k x r H1 locs ls hP hD hS hl
theorem j_putF (g : gd Γ cc own nL rm q) (gi : gI Γ) {a ci k index N : Nat} {C : String} {T : u_T} {ty : FieldType} (F : fdL own index ci k C T N) (ty0 : Nat → FieldType) (h0 : ∀ k, k < N → parseFieldDescriptor (T k).2.2.1 = some (ty0 k)) (h1 : ∀ a, a < N → ∀ b, b < N → a ≠ b → (T a).2.1 ≠ (T b).2.1) (h2 : (T k).2.2.2 = true) (h3 : parseFieldDescriptor (T k).2.2.1 = some ty) (hdecl : (T k).1 = own) (q0 : Nat) {fs : List Value} {v : Value} (he : ws[q0]? = some (a, .inr (ci, fs))) (hn : narrow ty v = v) (hf : fits ty v = true) (hk : k < fs.length) {ws' : va_W} (hw : ws.set q0 (a, .inr (ci, fs.set k v)) = ws') (hd : decode cc pc = .ok (.putfield index, 3)) (kk : jw Γ nL kc ks ws' lv st (pc + 3)) : jw Γ nL kc ks ws lv (v :: .ref a :: st) pc := by
  obtain ⟨p, l, e, R, s, m, args, below, meth, c, D, A, Q⟩ := Γ
  obtain ⟨hx, hb, hml, hown, hts, hK, hA, hR⟩ := g
  intro H locs ls hP hD hS hl
  subst hw
  exact va_putF hx hb hts F.1 ty0 h0 h1 hown hK hP hD hS q0 he F.2.1 k F.2.2.1 (hts _ F.2.2.2) (fun _ h => h) h2 gi hdecl h3 hn hf hk hd (fun H1 locs1 hP hD hS => kk H1 locs1 ls hP hD hS hl)
theorem j_perm {ws' : va_W} (is : List Nat) (h1 : is.filterMap (fun i => ws[i]?) = ws') (hn : va_nd is = true) (h2 : is.map (fun i => ws[i]?) = ws'.map some) (k : jw Γ nL kc ks ws' lv st pc) : jw Γ nL kc ks ws lv st pc := by
  obtain ⟨p, l, e, R, s, m, args, below, meth, c, D, A, Q⟩ := Γ
  intro H locs ls hP hD hS hl
  exact k H locs ls (hP.sub is h1) (hD.sub is hn h2) hS hl
theorem j_fn (q0 : Nat) {a n : Nat} {cA : ClassId} {f f2 : Nat → Option Nat} (he : ws[q0]? = some (a, .inl (cA, n, .inr (.inr (.inr (.inr f)))))) (hf : ∀ i, i < n → f i = f2 i) {ws' : va_W} (hw : ws.set q0 (a, .inl (cA, n, .inr (.inr (.inr (.inr f2))))) = ws') (k : jw Γ nL kc ks ws' lv st pc) : jw Γ nL kc ks ws lv st pc := by
  obtain ⟨p, l, e, R, s, m, args, below, meth, c, D, A, Q⟩ := Γ
  intro H locs ls hP hD hS hl
  subst hw
  refine k H locs ls (hP.set hD he ?_ (fun _ _ => rfl)) (hD.set he) hS hl
  have h0 : H[a]? = some (vp_cell cA (n, .inr (.inr (.inr (.inr f))))) := hP q0 _ he
  have e : vp_cell cA (n, .inr (.inr (.inr (.inr f)))) = vp_cell cA (n, .inr (.inr (.inr (.inr f2)))) := by
    rw [vp_cell_q, vp_cell_q]
    unfold arrV
    congr 2
    funext j
    exact congrArg va_rf (hf j.val j.isLt)
  show H[a]? = some (vp_cell cA (n, .inr (.inr (.inr (.inr f2)))))
  rw [← e]
  exact h0
/-- the link of a constructor -/
def clI (own : String) (index : Nat) (y : MethodName) (cc : ByteArray) (nL : Nat) : Prop := Cond.methodLink own index y ∈ gt ∧ Cond.instanceMethod y ∈ gt ∧ Cond.initialized y.cls ∈ gt ∧ Cond.code y cc nL none ∈ gt ∧ y.name = "<init>" ∧ (y.cls ≠ "java/lang/invoke/MethodHandle" ∧ y.cls ≠ "java/lang/invoke/VarHandle" ∧ (parseMethodDescriptor y.desc).map (fun d => d.parameters.length) = some 0)
def clN (own : String) (index : Nat) (y : MethodName) (cc : ByteArray) (nL : Nat) : Prop := (∀ s : State, EX s → va_Nw (.methodLinkNest own index y RX5) s) ∧ Cond.instanceMethod y ∈ gt ∧ Cond.initialized y.cls ∈ gt ∧ Cond.code y cc nL none ∈ gt ∧ y.name = "<init>" ∧ (y.cls ≠ "java/lang/invoke/MethodHandle" ∧ y.cls ≠ "java/lang/invoke/VarHandle" ∧ (parseMethodDescriptor y.desc).map (fun d => d.parameters.length) = some 0)

theorem j_callI (g : gd Γ cc own nL rm q) (gx : gE Γ) {y : MethodName} {ccY : ByteArray} {nY frY loY mc ms index b : Nat} {e0 : va_E} {W1 : va_W} {S : Type} {Wd : S → va_W} {K : S → Prop} (hC : ctC q y ccY nY frY loY mc ms [.ref b] [(b, e0)] Wd K) (L : clI own index y ccY nY) (hws : ws = W1 ++ [(b, e0)]) (hfr : frY + 1 ≤ rm.frames) (hlo : 8 + (nY + 11) + loY ≤ rm.locals) (hcells : kc + mc ≤ rm.cells) (hslots : ks + ms ≤ rm.slots) (hcat : (st.map fun v => v.category).sum ≤ 8) (hd : decode cc pc = .ok (.invokespecial index, 3)) (k : ∀ u : S, K u → jw Γ nL (kc + mc) (ks + ms) (W1 ++ Wd u) lv st (pc + 3)) : jw Γ nL kc ks ws lv (.ref b :: st) pc := by
  subst hws
  obtain ⟨p, l, e, R, s, m, args, below, meth, c, D, A, Q⟩ := Γ
  obtain ⟨hx, hb, hml, hown, hts, hK, hA, hR⟩ := g
  intro H locs ls hP hD hS hl
  subst hR
  have hPc := pA_r hP
  have hDc := dA_r hD
  have hF : ∀ z, va_A [(b, e0)] H.size z → A z := fun z h => by
    rcases h with ⟨k9, e9, h9⟩ | h9
    · exact hDc.2 k9 _ h9
    · exact hA z (Nat.le_trans hS.1 h9)
  refine va_callv (va_runI (As := []) (rest := st) ⟨hx, hb, hml, hown, hts⟩ (hC l D H.size) ⟨callB_of 0 hts (gt_call L.2.2.2.1) rfl rfl rfl (hts _ L.2.2.1) (hts _ L.1) L.2.2.2.2.2 ⟨hfr, hlo⟩, L.2.2.2.2.1, hts _ L.2.1⟩ ⟨jPreC_blind, fun U hU hW => ⟨rfl, by rw [hU], by rw [hU]; exact hPc, va_K.moved hW.alike hK, hDc.weaken (fun _ _ _ _ => trivial), EX.warm hW gx⟩⟩ rfl rfl hl.1 rfl (lv_room hcat) hd ⟨hcells, hslots⟩) hS (fun z _ h => hF z h) hF (fun u t H1 locs1 ht hvm hp hB hz1 hk1 hS1 => ?_)
  subst ht
  have hj := fr_joinR hP hD hk1 hF hB.1 hB.2.2
  exact k u hp _ locs1 ls hj.1 hj.2 hS1 hl
theorem j_callN (g : gd Γ cc own nL rm q) (gx : gE Γ) {y : MethodName} {ccY : ByteArray} {nY frY loY mc ms index b : Nat} {e0 : va_E} {W1 : va_W} {S : Type} {Wd : S → va_W} {K : S → Prop} (hC : ctC q y ccY nY frY loY mc ms [.ref b] [(b, e0)] Wd K) (L : clN own index y ccY nY) (hws : ws = W1 ++ [(b, e0)]) (hfr : frY + 1 ≤ rm.frames) (hlo : 8 + (nY + 11) + loY ≤ rm.locals) (hcells : kc + mc ≤ rm.cells) (hslots : ks + ms ≤ rm.slots) (hcat : (st.map fun v => v.category).sum ≤ 8) (hd : decode cc pc = .ok (.invokespecial index, 3)) (k : ∀ u : S, K u → jw Γ nL (kc + mc) (ks + ms) (W1 ++ Wd u) lv st (pc + 3)) : jw Γ nL kc ks ws lv (.ref b :: st) pc := by
  subst hws
  obtain ⟨p, l, e, R, s, m, args, below, meth, c, D, A, Q⟩ := Γ
  obtain ⟨hx, hb, hml, hown, hts, hK, hA, hR⟩ := g
  intro H locs ls hP hD hS hl
  subst hR
  have hPc := pA_r hP
  have hDc := dA_r hD
  have hF : ∀ z, va_A [(b, e0)] H.size z → A z := fun z h => by
    rcases h with ⟨k9, e9, h9⟩ | h9
    · exact hDc.2 k9 _ h9
    · exact hA z (Nat.le_trans hS.1 h9)
  refine va_callv (va_runIN (As := []) (rest := st) ⟨hx, hb, hml, hown, hts⟩ (hC l D H.size) ⟨va_cnB 0 hts (gt_call L.2.2.2.1) rfl rfl rfl (L.1 _ gx) (hts _ L.2.2.1) L.2.2.2.2.2 ⟨hfr, hlo⟩, L.2.2.2.2.1, hts _ L.2.1⟩ ⟨jPreC_blind, fun U hU hW => ⟨rfl, by rw [hU], by rw [hU]; exact hPc, va_K.moved hW.alike hK, hDc.weaken (fun _ _ _ _ => trivial), EX.warm hW gx⟩⟩ rfl rfl hl.1 rfl (lv_room hcat) hd ⟨hcells, hslots⟩) hS (fun z _ h => hF z h) hF (fun u t H1 locs1 ht hvm hp hB hz1 hk1 hS1 => ?_)
  subst ht
  have hj := fr_joinR hP hD hk1 hF hB.1 hB.2.2
  exact k u hp _ locs1 ls hj.1 hj.2 hS1 hl
end JK
