/-! contracts over a whole world, and calls -/
def jPre (D : va_G) (q : Nat → ClassId) (W0 : va_W) (sz : Nat) (av : List Value) : Array Value → State → Prop := va_Pc av (fun U => U.heap.size = sz ∧ va_P D jclasses W0 U.heap ∧ va_K D jclasses (jtys q) U ∧ va_D (fun _ => True) W0)
def jPost (D : va_G) (q : Nat → ClassId) (W0 : va_W) (sz : Nat) {S : Type} (Wd : S → va_W) (u : S) (t : State) : Prop := va_P D jclasses (Wd u) t.heap ∧ va_K D jclasses (jtys q) t ∧ va_D (va_A W0 sz) (Wd u)
theorem jPre_blind {D : va_G} {q : Nat → ClassId} {W0 : va_W} {sz : Nat} {av : List Value} : FrameBlind (jPre D q W0 sz av) := fun a U g mk h => by
  obtain ⟨q0, q1, qP, qK, qD⟩ := h
  exact ⟨q0, q1, qP, va_K.moved (u := U) (U := U.calling g mk a) (Vm.Alike.refl U.vm) qK, qD⟩
/-- the contracts: of an int, of a boolean (0 or 1), of nothing, of a kind or null -/
def ctI (q : Nat → ClassId) (y : MethodName) (cc : ByteArray) (nL fr lo : Nat) (av : List Value) (W0 : va_W) {S : Type} (Wd : S → va_W) (K : Int32 → S → Prop) : Prop := ∀ (l : Launch) (D : va_G) (sz : Nat), Met l y (.code y cc nL (some .int) :: gt) (rmz fr lo) (jPre D q W0 sz av) (va_Qi K (jPost D q W0 sz Wd) (va_A W0 sz)) 0 0 (va_A W0 sz)
def ctZ (q : Nat → ClassId) (y : MethodName) (cc : ByteArray) (nL fr lo : Nat) (av : List Value) (W0 : va_W) {S : Type} (Wd : S → va_W) (K : Int32 → S → Prop) : Prop := ∀ (l : Launch) (D : va_G) (sz : Nat), Met l y (.code y cc nL (some .boolean) :: gt) (rmz fr lo) (jPre D q W0 sz av) (va_Qi (fun r u => (r = 0 ∨ r = 1) ∧ K r u) (jPost D q W0 sz Wd) (va_A W0 sz)) 0 0 (va_A W0 sz)
def ctV (q : Nat → ClassId) (y : MethodName) (cc : ByteArray) (nL fr lo : Nat) (av : List Value) (W0 : va_W) {S : Type} (Wd : S → va_W) (K : S → Prop) : Prop := ∀ (l : Launch) (D : va_G) (sz : Nat), Met l y (.code y cc nL none :: gt) (rmz fr lo) (jPre D q W0 sz av) (va_Qv K (jPost D q W0 sz Wd) (va_A W0 sz)) 0 0 (va_A W0 sz)
def ctQ (q : Nat → ClassId) (y : MethodName) (cc : ByteArray) (nL fr lo : Nat) (av : List Value) (W0 : va_W) (ad : Nat → Nat) {S : Type} (Wd : S → va_W) (K : Option Nat → S → Prop) : Prop := ∀ (l : Launch) (D : va_G) (sz : Nat), Met l y (.code y cc nL (some (.object RX0)) :: gt) (rmz fr lo) (jPre D q W0 sz av) (va_Qq (fun r u => ∃ o : Option Nat, r = o.map ad ∧ (∀ i, o = some i → i < 6) ∧ K o u) (jPost D q W0 sz Wd) (va_A W0 sz)) 0 0 (va_A W0 sz)
/-- how a method leaves -/
def rtI (Γ : GT) (cc : ByteArray) (nL : Nat) {S : Type} (Wd : S → va_W) (K : Int32 → S → Prop) : Prop := ∀ (lv : List (Nat × Value)) (pc : Nat) (r : Int32) (u : S), decode cc pc = .ok (.ireturn, 1) → K r u → jw Γ nL 0 0 (Wd u) lv [.int r] pc
def rtZ (Γ : GT) (cc : ByteArray) (nL : Nat) {S : Type} (Wd : S → va_W) (K : Int32 → S → Prop) : Prop := ∀ (lv : List (Nat × Value)) (pc : Nat) (r : Int32) (u : S), decode cc pc = .ok (.ireturn, 1) → (r = 0 ∨ r = 1) → K r u → jw Γ nL 0 0 (Wd u) lv [.int r] pc
def rtV (Γ : GT) (cc : ByteArray) (nL : Nat) {S : Type} (Wd : S → va_W) (K : S → Prop) : Prop := ∀ (lv : List (Nat × Value)) (pc : Nat) (u : S), decode cc pc = .ok (.return_, 1) → K u → jw Γ nL 0 0 (Wd u) lv [] pc
def rtQ (Γ : GT) (cc : ByteArray) (nL : Nat) (ad : Nat → Nat) {S : Type} (Wd : S → va_W) (K : Option Nat → S → Prop) : Prop := ∀ (lv : List (Nat × Value)) (pc : Nat) (o : Option Nat) (u : S), decode cc pc = .ok (.areturn, 1) → (∀ i, o = some i → i < 6) → K o u → jw Γ nL 0 0 (Wd u) lv [va_rf (o.map ad)] pc

theorem met_I {q : Nat → ClassId} {y : MethodName} {cc : ByteArray} {nL fr lo : Nat} {av : List Value} {W0 : va_W} {S : Type} {Wd : S → va_W} {K : Int32 → S → Prop} (hy : plainName y.cls = true) (hav : (lg_sl av).length ≤ nL)
    (walk : ∀ Γ : GT, gd Γ cc y.cls nL (rmz fr lo) q → rtI Γ cc nL Wd K → jw Γ nL 0 0 W0 (lv_args 0 av) [] 0) : ctI q y cc nL fr lo av W0 Wd K := by
  intro l D sz
  refine Met.ofW (cc := cc) (maxL := nL) (ret := (some .int)) hy rfl ?_
  intro p e s m args below meth c s₁ B hml hv
  obtain ⟨rfl, hsz, hP, hK, hD0⟩ := hv
  have hx := B.exec
  have hb := B.bytes
  have hr := B.returns
  have hts := atoms_spec (ws := .code y cc nL (some .int) :: gt) B.pre
  have hown : s.vm.findClass y.cls = some m.cls := findClass_of_methodNamed B.named
  have hlocks := B.notSynchronized
  subst hsz
  have hD := hD0.self (sz := s.heap.size)
  have hA : ∀ z : Nat, s.heap.size ≤ z → va_A W0 s.heap.size z := fun z h => Or.inr h
  have hl := lv_entry av (n := nL) hav
  rw [lg_entry_eq]
  refine walk (p, l, e, rmz fr lo, s, m, av.toArray, below, meth, c, D, va_A W0 s.heap.size, _) ⟨hx, hb, hml, hown, fun w hw => hts w (List.mem_cons_of_mem _ hw), hK, hA, rfl⟩ ?_ s.heap [] _ hP hD va_S.rf hl
  intro lv pc r u hd hKr
  intro H locs ls hP9 hD9 hS _
  exact W.iret (v := r) hx hb hr (fun t ht hW => ⟨⟨r, u, rfl, hKr, by rw [ht]; exact hP9, va_K.moved hW.alike hK, hD9⟩, hS.F ht⟩) hS.2.2 hd
theorem met_Z {q : Nat → ClassId} {y : MethodName} {cc : ByteArray} {nL fr lo : Nat} {av : List Value} {W0 : va_W} {S : Type} {Wd : S → va_W} {K : Int32 → S → Prop} (hy : plainName y.cls = true) (hav : (lg_sl av).length ≤ nL)
    (walk : ∀ Γ : GT, gd Γ cc y.cls nL (rmz fr lo) q → rtZ Γ cc nL Wd K → jw Γ nL 0 0 W0 (lv_args 0 av) [] 0) : ctZ q y cc nL fr lo av W0 Wd K := by
  intro l D sz
  refine Met.ofW (cc := cc) (maxL := nL) (ret := (some .boolean)) hy rfl ?_
  intro p e s m args below meth c s₁ B hml hv
  obtain ⟨rfl, hsz, hP, hK, hD0⟩ := hv
  have hx := B.exec
  have hb := B.bytes
  have hr := B.returns
  have hts := atoms_spec (ws := .code y cc nL (some .boolean) :: gt) B.pre
  have hown : s.vm.findClass y.cls = some m.cls := findClass_of_methodNamed B.named
  have hlocks := B.notSynchronized
  subst hsz
  have hD := hD0.self (sz := s.heap.size)
  have hA : ∀ z : Nat, s.heap.size ≤ z → va_A W0 s.heap.size z := fun z h => Or.inr h
  have hl := lv_entry av (n := nL) hav
  rw [lg_entry_eq]
  refine walk (p, l, e, rmz fr lo, s, m, av.toArray, below, meth, c, D, va_A W0 s.heap.size, _) ⟨hx, hb, hml, hown, fun w hw => hts w (List.mem_cons_of_mem _ hw), hK, hA, rfl⟩ ?_ s.heap [] _ hP hD va_S.rf hl
  intro lv pc r u hd hz hKr
  intro H locs ls hP9 hD9 hS _
  have hn : narrow .boolean (.int r) = .int r := by rcases hz with rfl | rfl <;> rfl
  exact W.zret (v := r) hx hb hr hn (fun t ht hW => ⟨⟨r, u, rfl, ⟨hz, hKr⟩, by rw [ht]; exact hP9, va_K.moved hW.alike hK, hD9⟩, hS.F ht⟩) hS.2.2 hd
theorem met_V {q : Nat → ClassId} {y : MethodName} {cc : ByteArray} {nL fr lo : Nat} {av : List Value} {W0 : va_W} {S : Type} {Wd : S → va_W} {K : S → Prop} (hy : plainName y.cls = true) (hav : (lg_sl av).length ≤ nL)
    (walk : ∀ Γ : GT, gd Γ cc y.cls nL (rmz fr lo) q → rtV Γ cc nL Wd K → jw Γ nL 0 0 W0 (lv_args 0 av) [] 0) : ctV q y cc nL fr lo av W0 Wd K := by
  intro l D sz
  refine Met.ofW (cc := cc) (maxL := nL) (ret := none) hy rfl ?_
  intro p e s m args below meth c s₁ B hml hv
  obtain ⟨rfl, hsz, hP, hK, hD0⟩ := hv
  have hx := B.exec
  have hb := B.bytes
  have hr := B.returns
  have hts := atoms_spec (ws := .code y cc nL none :: gt) B.pre
  have hown : s.vm.findClass y.cls = some m.cls := findClass_of_methodNamed B.named
  have hlocks := B.notSynchronized
  subst hsz
  have hD := hD0.self (sz := s.heap.size)
  have hA : ∀ z : Nat, s.heap.size ≤ z → va_A W0 s.heap.size z := fun z h => Or.inr h
  have hl := lv_entry av (n := nL) hav
  rw [lg_entry_eq]
  refine walk (p, l, e, rmz fr lo, s, m, av.toArray, below, meth, c, D, va_A W0 s.heap.size, _) ⟨hx, hb, hml, hown, fun w hw => hts w (List.mem_cons_of_mem _ hw), hK, hA, rfl⟩ ?_ s.heap [] _ hP hD va_S.rf hl
  intro lv pc u hd hKr
  intro H locs ls hP9 hD9 hS _
  exact W.vret hx hb hr (fun t ht hW => ⟨⟨u, rfl, hKr, by rw [ht]; exact hP9, va_K.moved hW.alike hK, hD9⟩, hS.F ht⟩) hS.2.2 hd
theorem met_Q {q : Nat → ClassId} {y : MethodName} {cc : ByteArray} {nL fr lo : Nat} {av : List Value} {W0 : va_W} (ad : Nat → Nat) {S : Type} {Wd : S → va_W} {K : Option Nat → S → Prop} (hy : plainName y.cls = true) (hav : (lg_sl av).length ≤ nL)
    (walk : ∀ Γ : GT, gd Γ cc y.cls nL (rmz fr lo) q → rtQ Γ cc nL ad Wd K → jw Γ nL 0 0 W0 (lv_args 0 av) [] 0) : ctQ q y cc nL fr lo av W0 ad Wd K := by
  intro l D sz
  refine Met.ofW (cc := cc) (maxL := nL) (ret := (some (.object RX0))) hy rfl ?_
  intro p e s m args below meth c s₁ B hml hv
  obtain ⟨rfl, hsz, hP, hK, hD0⟩ := hv
  have hx := B.exec
  have hb := B.bytes
  have hr := B.returns
  have hts := atoms_spec (ws := .code y cc nL (some (.object RX0)) :: gt) B.pre
  have hown : s.vm.findClass y.cls = some m.cls := findClass_of_methodNamed B.named
  have hlocks := B.notSynchronized
  subst hsz
  have hD := hD0.self (sz := s.heap.size)
  have hA : ∀ z : Nat, s.heap.size ≤ z → va_A W0 s.heap.size z := fun z h => Or.inr h
  have hl := lv_entry av (n := nL) hav
  rw [lg_entry_eq]
  refine walk (p, l, e, rmz fr lo, s, m, av.toArray, below, meth, c, D, va_A W0 s.heap.size, _) ⟨hx, hb, hml, hown, fun w hw => hts w (List.mem_cons_of_mem _ hw), hK, hA, rfl⟩ ?_ s.heap [] _ hP hD va_S.rf hl
  intro lv pc o u hd ho hKr
  intro H locs ls hP9 hD9 hS _
  exact W.aret (v := va_rf (o.map ad)) hx hb hr (Or.inl ⟨_, rfl⟩) (va_rf_or _) (fun t ht hW => ⟨⟨o.map ad, u, rfl, ⟨o, rfl, ho, hKr⟩, by rw [ht]; exact hP9, va_K.moved hW.alike hK, hD9⟩, hS.F ht⟩) hS.2.2 hd

/-- the link of a call -/
def clV (own : String) (index : Nat) (y : MethodName) (cc : ByteArray) (nL : Nat) (ret : Option FieldType) (n : Nat) : Prop := Cond.methodLink own index y ∈ gt ∧ Cond.instanceMethod y ∈ gt ∧ Cond.selects y.cls y y ∈ gt ∧ Cond.initialized y.cls ∈ gt ∧ Cond.code y cc nL ret ∈ gt ∧ (y.cls ≠ "java/lang/invoke/MethodHandle" ∧ y.cls ≠ "java/lang/invoke/VarHandle" ∧ (parseMethodDescriptor y.desc).map (fun d => d.parameters.length) = some n)
def clS (own : String) (index : Nat) (y : MethodName) (cc : ByteArray) (nL : Nat) (ret : Option FieldType) (n : Nat) : Prop := Cond.methodLink own index y ∈ gt ∧ Cond.static y ∈ gt ∧ Cond.initialized y.cls ∈ gt ∧ Cond.code y cc nL ret ∈ gt ∧ (y.cls ≠ "java/lang/invoke/MethodHandle" ∧ y.cls ≠ "java/lang/invoke/VarHandle" ∧ (parseMethodDescriptor y.desc).map (fun d => d.parameters.length) = some n)
theorem gt_call {y : MethodName} {cc : ByteArray} {nL : Nat} {ret : Option FieldType} (h : Cond.code y cc nL ret ∈ gt) : GoodIn gt (.code y cc nL ret :: gt) := gt_goodIn (fun w hw => by
  rcases List.mem_cons.mp hw with rfl | hw
  · exact h
  · exact hw)
section JC
variable {Γ : GT} {cc : ByteArray} {own : String} {nL kc ks : Nat} {rm : Room} {q : Nat → ClassId} {ws : va_W} {lv : List (Nat × Value)} {st : List Value} {pc : Nat}
variable {y : MethodName} {ccY : ByteArray} {nY frY loY index n : Nat} {S : Type} {Wd : S → va_W}

theorem j_callVI (g : gd Γ cc own nL rm q) {b : Nat} {As : List Value} {K : Int32 → S → Prop} {st0 : List Value} (hC : ctI q y ccY nY frY loY (.ref b :: As) ws Wd K) (L : clV own index y ccY nY (some .int) n) (q0 ci : Nat) {fs : List Value} {rc : vw_C} (he : ws[q0]? = some (b, .inr (ci, fs))) (hrc : jclasses[ci]? = some rc) (hcn : rc.1 = y.cls) (hfr : frY + 1 ≤ rm.frames) (hlo : 8 + (nY + 11) + loY ≤ rm.locals) (hcells : kc + 0 ≤ rm.cells) (hslots : ks + 0 ≤ rm.slots) (hAs : As.length = n) (hst : st0 = As.reverse ++ .ref b :: st) (hcat : (st.map fun v => v.category).sum ≤ 8) (hd : decode cc pc = .ok (.invokevirtual index, 3)) (k : ∀ (r : Int32) (u : S), K r u → jw Γ nL kc ks (Wd u) lv (.int r :: st) (pc + 3)) : jw Γ nL kc ks ws lv st0 pc := by
  obtain ⟨p, l, e, R, s, m, args, below, meth, c, D, A, Q⟩ := Γ
  obtain ⟨hx, hb, hml, hown, hts, hK, hA, hR⟩ := g
  intro H locs ls hP hD hS hl
  subst hR
  have hF : ∀ z, va_A ws H.size z → A z := fun z h => by
    rcases h with ⟨k9, e9, h9⟩ | h9
    · exact hD.2 k9 _ h9
    · exact hA z (Nat.le_trans hS.1 h9)
  refine va_calli (va_runV (As := As) (rest := st) ⟨hx, hb, hml, hown, hts⟩ (hC l D H.size) ⟨callB_of n hts (gt_call L.2.2.2.2.1) rfl rfl rfl (hts _ L.2.2.2.1) (hts _ L.1) L.2.2.2.2.2 ⟨hfr, hlo⟩, hts _ L.2.1, hts _ L.2.2.1⟩ ⟨jPre_blind, hcn ▸ va_recv hK hP hrc he, fun U hU hW => ⟨rfl, by rw [hU], by rw [hU]; exact hP, va_K.moved hW.alike hK, hD.weaken (fun _ _ _ _ => trivial)⟩⟩ rfl hAs hl.1 hst (lv_room hcat) hd ⟨hcells, hslots⟩) hS (fun z _ h => hF z h) hF (fun r_ u t H1 locs1 ht hvm hp hB hz1 hk1 hS1 => ?_)
  subst ht
  have hD2 : va_D A (Wd u) := hB.2.2.weaken (fun _ _ _ h => hF _ h)
  exact k r_ u hp _ locs1 ls hB.1 hD2 hS1 hl
theorem j_callVZ (g : gd Γ cc own nL rm q) {b : Nat} {As : List Value} {K : Int32 → S → Prop} {st0 : List Value} (hC : ctZ q y ccY nY frY loY (.ref b :: As) ws Wd K) (L : clV own index y ccY nY (some .boolean) n) (q0 ci : Nat) {fs : List Value} {rc : vw_C} (he : ws[q0]? = some (b, .inr (ci, fs))) (hrc : jclasses[ci]? = some rc) (hcn : rc.1 = y.cls) (hfr : frY + 1 ≤ rm.frames) (hlo : 8 + (nY + 11) + loY ≤ rm.locals) (hcells : kc + 0 ≤ rm.cells) (hslots : ks + 0 ≤ rm.slots) (hAs : As.length = n) (hst : st0 = As.reverse ++ .ref b :: st) (hcat : (st.map fun v => v.category).sum ≤ 8) (hd : decode cc pc = .ok (.invokevirtual index, 3)) (k : ∀ (r : Int32) (u : S), (r = 0 ∨ r = 1) → K r u → jw Γ nL kc ks (Wd u) lv (.int r :: st) (pc + 3)) : jw Γ nL kc ks ws lv st0 pc := by
  obtain ⟨p, l, e, R, s, m, args, below, meth, c, D, A, Q⟩ := Γ
  obtain ⟨hx, hb, hml, hown, hts, hK, hA, hR⟩ := g
  intro H locs ls hP hD hS hl
  subst hR
  have hF : ∀ z, va_A ws H.size z → A z := fun z h => by
    rcases h with ⟨k9, e9, h9⟩ | h9
    · exact hD.2 k9 _ h9
    · exact hA z (Nat.le_trans hS.1 h9)
  refine va_calli (va_runV (As := As) (rest := st) ⟨hx, hb, hml, hown, hts⟩ (hC l D H.size) ⟨callB_of n hts (gt_call L.2.2.2.2.1) rfl rfl rfl (hts _ L.2.2.2.1) (hts _ L.1) L.2.2.2.2.2 ⟨hfr, hlo⟩, hts _ L.2.1, hts _ L.2.2.1⟩ ⟨jPre_blind, hcn ▸ va_recv hK hP hrc he, fun U hU hW => ⟨rfl, by rw [hU], by rw [hU]; exact hP, va_K.moved hW.alike hK, hD.weaken (fun _ _ _ _ => trivial)⟩⟩ rfl hAs hl.1 hst (lv_room hcat) hd ⟨hcells, hslots⟩) hS (fun z _ h => hF z h) hF (fun r_ u t H1 locs1 ht hvm hp hB hz1 hk1 hS1 => ?_)
  subst ht
  have hD2 : va_D A (Wd u) := hB.2.2.weaken (fun _ _ _ h => hF _ h)
  exact k r_ u hp.1 hp.2 _ locs1 ls hB.1 hD2 hS1 hl
theorem j_callVV (g : gd Γ cc own nL rm q) {b : Nat} {As : List Value} {K : S → Prop} {st0 : List Value} (hC : ctV q y ccY nY frY loY (.ref b :: As) ws Wd K) (L : clV own index y ccY nY none n) (q0 ci : Nat) {fs : List Value} {rc : vw_C} (he : ws[q0]? = some (b, .inr (ci, fs))) (hrc : jclasses[ci]? = some rc) (hcn : rc.1 = y.cls) (hfr : frY + 1 ≤ rm.frames) (hlo : 8 + (nY + 11) + loY ≤ rm.locals) (hcells : kc + 0 ≤ rm.cells) (hslots : ks + 0 ≤ rm.slots) (hAs : As.length = n) (hst : st0 = As.reverse ++ .ref b :: st) (hcat : (st.map fun v => v.category).sum ≤ 8) (hd : decode cc pc = .ok (.invokevirtual index, 3)) (k : ∀ u : S, K u → jw Γ nL kc ks (Wd u) lv st (pc + 3)) : jw Γ nL kc ks ws lv st0 pc := by
  obtain ⟨p, l, e, R, s, m, args, below, meth, c, D, A, Q⟩ := Γ
  obtain ⟨hx, hb, hml, hown, hts, hK, hA, hR⟩ := g
  intro H locs ls hP hD hS hl
  subst hR
  have hF : ∀ z, va_A ws H.size z → A z := fun z h => by
    rcases h with ⟨k9, e9, h9⟩ | h9
    · exact hD.2 k9 _ h9
    · exact hA z (Nat.le_trans hS.1 h9)
  refine va_callv (va_runV (As := As) (rest := st) ⟨hx, hb, hml, hown, hts⟩ (hC l D H.size) ⟨callB_of n hts (gt_call L.2.2.2.2.1) rfl rfl rfl (hts _ L.2.2.2.1) (hts _ L.1) L.2.2.2.2.2 ⟨hfr, hlo⟩, hts _ L.2.1, hts _ L.2.2.1⟩ ⟨jPre_blind, hcn ▸ va_recv hK hP hrc he, fun U hU hW => ⟨rfl, by rw [hU], by rw [hU]; exact hP, va_K.moved hW.alike hK, hD.weaken (fun _ _ _ _ => trivial)⟩⟩ rfl hAs hl.1 hst (lv_room hcat) hd ⟨hcells, hslots⟩) hS (fun z _ h => hF z h) hF (fun u t H1 locs1 ht hvm hp hB hz1 hk1 hS1 => ?_)
  subst ht
  have hD2 : va_D A (Wd u) := hB.2.2.weaken (fun _ _ _ h => hF _ h)
  exact k u hp _ locs1 ls hB.1 hD2 hS1 hl
theorem j_callVQ (g : gd Γ cc own nL rm q) {b : Nat} {As : List Value} {ad : Nat → Nat} {K : Option Nat → S → Prop} {st0 : List Value} (hC : ctQ q y ccY nY frY loY (.ref b :: As) ws ad Wd K) (L : clV own index y ccY nY (some (.object RX0)) n) (q0 ci : Nat) {fs : List Value} {rc : vw_C} (he : ws[q0]? = some (b, .inr (ci, fs))) (hrc : jclasses[ci]? = some rc) (hcn : rc.1 = y.cls) (hfr : frY + 1 ≤ rm.frames) (hlo : 8 + (nY + 11) + loY ≤ rm.locals) (hcells : kc + 0 ≤ rm.cells) (hslots : ks + 0 ≤ rm.slots) (hAs : As.length = n) (hst : st0 = As.reverse ++ .ref b :: st) (hcat : (st.map fun v => v.category).sum ≤ 8) (hd : decode cc pc = .ok (.invokevirtual index, 3)) (kn : ∀ u : S, K none u → jw Γ nL kc ks (Wd u) lv (.null :: st) (pc + 3)) (k : ∀ (i : Nat) (u : S), i < 6 → K (some i) u → jw Γ nL kc ks (Wd u) lv (.ref (ad i) :: st) (pc + 3)) : jw Γ nL kc ks ws lv st0 pc := by
  obtain ⟨p, l, e, R, s, m, args, below, meth, c, D, A, Q⟩ := Γ
  obtain ⟨hx, hb, hml, hown, hts, hK, hA, hR⟩ := g
  intro H locs ls hP hD hS hl
  subst hR
  have hF : ∀ z, va_A ws H.size z → A z := fun z h => by
    rcases h with ⟨k9, e9, h9⟩ | h9
    · exact hD.2 k9 _ h9
    · exact hA z (Nat.le_trans hS.1 h9)
  refine va_callq (va_runV (As := As) (rest := st) ⟨hx, hb, hml, hown, hts⟩ (hC l D H.size) ⟨callB_of n hts (gt_call L.2.2.2.2.1) rfl rfl rfl (hts _ L.2.2.2.1) (hts _ L.1) L.2.2.2.2.2 ⟨hfr, hlo⟩, hts _ L.2.1, hts _ L.2.2.1⟩ ⟨jPre_blind, hcn ▸ va_recv hK hP hrc he, fun U hU hW => ⟨rfl, by rw [hU], by rw [hU]; exact hP, va_K.moved hW.alike hK, hD.weaken (fun _ _ _ _ => trivial)⟩⟩ rfl hAs hl.1 hst (lv_room hcat) hd ⟨hcells, hslots⟩) hS (fun z _ h => hF z h) hF (fun r_ u t H1 locs1 ht hvm hp hB hz1 hk1 hS1 => ?_)
  subst ht
  have hD2 : va_D A (Wd u) := hB.2.2.weaken (fun _ _ _ h => hF _ h)
  obtain ⟨o, rfl, ho, hKo⟩ := hp
  cases o with
  | none => exact kn u hKo _ locs1 ls hB.1 hD2 hS1 hl
  | some i => exact k i u (ho i rfl) hKo _ locs1 ls hB.1 hD2 hS1 hl
theorem j_callSI (g : gd Γ cc own nL rm q) {As : List Value} {K : Int32 → S → Prop} {st0 : List Value} (hC : ctI q y ccY nY frY loY As ws Wd K) (L : clS own index y ccY nY (some .int) n) (hfr : frY + 1 ≤ rm.frames) (hlo : 8 + (nY + 11) + loY ≤ rm.locals) (hcells : kc + 0 ≤ rm.cells) (hslots : ks + 0 ≤ rm.slots) (hAs : As.length = n) (hst : st0 = As.reverse ++ st) (hcat : (st.map fun v => v.category).sum ≤ 8) (hd : decode cc pc = .ok (.invokestatic index, 3)) (k : ∀ (r : Int32) (u : S), K r u → jw Γ nL kc ks (Wd u) lv (.int r :: st) (pc + 3)) : jw Γ nL kc ks ws lv st0 pc := by
  obtain ⟨p, l, e, R, s, m, args, below, meth, c, D, A, Q⟩ := Γ
  obtain ⟨hx, hb, hml, hown, hts, hK, hA, hR⟩ := g
  intro H locs ls hP hD hS hl
  subst hR
  have hF : ∀ z, va_A ws H.size z → A z := fun z h => by
    rcases h with ⟨k9, e9, h9⟩ | h9
    · exact hD.2 k9 _ h9
    · exact hA z (Nat.le_trans hS.1 h9)
  refine va_calli (va_runS (As := As) (rest := st) ⟨hx, hb, hml, hown, hts⟩ (hC l D H.size) ⟨callB_of n hts (gt_call L.2.2.2.1) rfl rfl rfl (hts _ L.2.2.1) (hts _ L.1) L.2.2.2.2 ⟨hfr, hlo⟩, hts _ L.2.1⟩ ⟨jPre_blind, fun U hU hW => ⟨rfl, by rw [hU], by rw [hU]; exact hP, va_K.moved hW.alike hK, hD.weaken (fun _ _ _ _ => trivial)⟩⟩ rfl hAs hl.1 hst (lv_room hcat) hd ⟨hcells, hslots⟩) hS (fun z _ h => hF z h) hF (fun r_ u t H1 locs1 ht hvm hp hB hz1 hk1 hS1 => ?_)
  subst ht
  have hD2 : va_D A (Wd u) := hB.2.2.weaken (fun _ _ _ h => hF _ h)
  exact k r_ u hp _ locs1 ls hB.1 hD2 hS1 hl
theorem j_callSZ (g : gd Γ cc own nL rm q) {As : List Value} {K : Int32 → S → Prop} {st0 : List Value} (hC : ctZ q y ccY nY frY loY As ws Wd K) (L : clS own index y ccY nY (some .boolean) n) (hfr : frY + 1 ≤ rm.frames) (hlo : 8 + (nY + 11) + loY ≤ rm.locals) (hcells : kc + 0 ≤ rm.cells) (hslots : ks + 0 ≤ rm.slots) (hAs : As.length = n) (hst : st0 = As.reverse ++ st) (hcat : (st.map fun v => v.category).sum ≤ 8) (hd : decode cc pc = .ok (.invokestatic index, 3)) (k : ∀ (r : Int32) (u : S), (r = 0 ∨ r = 1) → K r u → jw Γ nL kc ks (Wd u) lv (.int r :: st) (pc + 3)) : jw Γ nL kc ks ws lv st0 pc := by
  obtain ⟨p, l, e, R, s, m, args, below, meth, c, D, A, Q⟩ := Γ
  obtain ⟨hx, hb, hml, hown, hts, hK, hA, hR⟩ := g
  intro H locs ls hP hD hS hl
  subst hR
  have hF : ∀ z, va_A ws H.size z → A z := fun z h => by
    rcases h with ⟨k9, e9, h9⟩ | h9
    · exact hD.2 k9 _ h9
    · exact hA z (Nat.le_trans hS.1 h9)
  refine va_calli (va_runS (As := As) (rest := st) ⟨hx, hb, hml, hown, hts⟩ (hC l D H.size) ⟨callB_of n hts (gt_call L.2.2.2.1) rfl rfl rfl (hts _ L.2.2.1) (hts _ L.1) L.2.2.2.2 ⟨hfr, hlo⟩, hts _ L.2.1⟩ ⟨jPre_blind, fun U hU hW => ⟨rfl, by rw [hU], by rw [hU]; exact hP, va_K.moved hW.alike hK, hD.weaken (fun _ _ _ _ => trivial)⟩⟩ rfl hAs hl.1 hst (lv_room hcat) hd ⟨hcells, hslots⟩) hS (fun z _ h => hF z h) hF (fun r_ u t H1 locs1 ht hvm hp hB hz1 hk1 hS1 => ?_)
  subst ht
  have hD2 : va_D A (Wd u) := hB.2.2.weaken (fun _ _ _ h => hF _ h)
  exact k r_ u hp.1 hp.2 _ locs1 ls hB.1 hD2 hS1 hl
theorem j_callSV (g : gd Γ cc own nL rm q) {As : List Value} {K : S → Prop} {st0 : List Value} (hC : ctV q y ccY nY frY loY As ws Wd K) (L : clS own index y ccY nY none n) (hfr : frY + 1 ≤ rm.frames) (hlo : 8 + (nY + 11) + loY ≤ rm.locals) (hcells : kc + 0 ≤ rm.cells) (hslots : ks + 0 ≤ rm.slots) (hAs : As.length = n) (hst : st0 = As.reverse ++ st) (hcat : (st.map fun v => v.category).sum ≤ 8) (hd : decode cc pc = .ok (.invokestatic index, 3)) (k : ∀ u : S, K u → jw Γ nL kc ks (Wd u) lv st (pc + 3)) : jw Γ nL kc ks ws lv st0 pc := by
  obtain ⟨p, l, e, R, s, m, args, below, meth, c, D, A, Q⟩ := Γ
  obtain ⟨hx, hb, hml, hown, hts, hK, hA, hR⟩ := g
  intro H locs ls hP hD hS hl
  subst hR
  have hF : ∀ z, va_A ws H.size z → A z := fun z h => by
    rcases h with ⟨k9, e9, h9⟩ | h9
    · exact hD.2 k9 _ h9
    · exact hA z (Nat.le_trans hS.1 h9)
  refine va_callv (va_runS (As := As) (rest := st) ⟨hx, hb, hml, hown, hts⟩ (hC l D H.size) ⟨callB_of n hts (gt_call L.2.2.2.1) rfl rfl rfl (hts _ L.2.2.1) (hts _ L.1) L.2.2.2.2 ⟨hfr, hlo⟩, hts _ L.2.1⟩ ⟨jPre_blind, fun U hU hW => ⟨rfl, by rw [hU], by rw [hU]; exact hP, va_K.moved hW.alike hK, hD.weaken (fun _ _ _ _ => trivial)⟩⟩ rfl hAs hl.1 hst (lv_room hcat) hd ⟨hcells, hslots⟩) hS (fun z _ h => hF z h) hF (fun u t H1 locs1 ht hvm hp hB hz1 hk1 hS1 => ?_)
  subst ht
  have hD2 : va_D A (Wd u) := hB.2.2.weaken (fun _ _ _ h => hF _ h)
  exact k u hp _ locs1 ls hB.1 hD2 hS1 hl
end JC
