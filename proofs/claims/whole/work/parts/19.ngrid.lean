/-! rows of rows: what the machine does at 'multianewarray' of two dimensions of ints, from the model's own text of it -/
section GR
variable {E : CtlPost} {e : Env} {d : Bool} {acts : List Action} {s : State}
/-- the outer array when i of its rows are made -/
def rg_o (cA : ClassId) (N a i : Nat) : Cell := arrV cA N (fun j => va_rf (if j < i then some (a + 1 + j) else none))
/-- one row more: a new cell, and its address laid into the outer array -/
def rg_nx (cA : ClassId) (N a : Nat) (x : Cell) (S : State) (i : Nat) : State := (S.pushCell x).setCell a (rg_o cA N a (i + 1))
/-- what the instruction makes of a state -/
def rg_end (cA : ClassId) (N : Nat) (x : Cell) (S : State) : State := (List.range' 0 N).foldl (rg_nx cA N S.heap.size x) (S.pushCell (rg_o cA N S.heap.size 0))
theorem rg_o_vm (cA : ClassId) (N a i : Nat) : (rg_o cA N a i).vm = .none := rfl
theorem rg_o_size (cA : ClassId) (N a i : Nat) : (rg_o cA N a i).slots.size = N := by simp [rg_o, arrV]
theorem rg_o_zero (cA : ClassId) (N a : Nat) : rg_o cA N a 0 = { cls := cA, slots := Array.replicate N .null, vm := .none } := by
  rw [arrV_new]
  rfl
theorem rg_o_next (cA : ClassId) (N a i : Nat) : (rg_o cA N a i).setSlot i (.ref (a + 1 + i)) = rg_o cA N a (i + 1) := by
  unfold rg_o
  rw [arrV_store]
  refine congrArg (arrV cA N) (funext fun j => ?_)
  show (if j = i then Value.ref (a + 1 + i) else va_rf (if j < i then some (a + 1 + j) else none)) = va_rf (if j < i + 1 then some (a + 1 + j) else none)
  rcases Nat.lt_trichotomy j i with h | h | h
  · rw [if_neg (by omega), if_pos h, if_pos (by omega)]
  · rw [if_pos h, if_pos (by omega), h]
    rfl
  · rw [if_neg (by omega), if_neg (by omega), if_neg (by omega)]
theorem rg_fold_top (cA : ClassId) (N a : Nat) (x : Cell) (f : JFrame) (l : List Nat) (S : State) : l.foldl (rg_nx cA N a x) (S.setTop f) = (l.foldl (rg_nx cA N a x) S).setTop f := by
  induction l generalizing S with
  | nil => rfl
  | cons i l ih =>
    rw [List.foldl_cons, List.foldl_cons, ← ih]
    unfold rg_nx
    rw [State.pushCell_setTop, State.setCell_setTop]
theorem rg_end_top (cA : ClassId) (N : Nat) (x : Cell) (f : JFrame) (S : State) : rg_end cA N x (S.setTop f) = (rg_end cA N x S).setTop f := by
  unfold rg_end
  rw [State.pushCell_setTop, rg_fold_top]
  rfl
/-- one array of one dimension, of ints or of references -/
theorem rg_new {cA co : ClassId} {k : Class} {ty : FieldType} {n : Nat} {v : Value} {Q : Addr → Pre} (hk : s.vm.classes[cA]? = some k) (hkd : k.kind = .array co ty) (hl : n ≤ e.platform.arrayLengthLimit) (hh : n * componentBytes ty ≤ e.platform.maxHeapBytes) (hv : fits ty v = true) (hv0 : v.isDefault = true) (hc : s.heap.size < e.platform.maxCells) (hs : s.slotsUsed + n ≤ e.platform.maxSlots) (hQ : Q s.heap.size d acts (s.pushCell { cls := cA, slots := Array.replicate n v, vm := .none })) : wp (Jvm.newArray cA n v) Q E e d acts s := by
  have h1 : ∀ (i : Nat) (w : Value), (Array.replicate n v)[i]? = some w → s.fitsSlot cA .none i w = true := fun i w hw => by
    obtain ⟨hi, he⟩ := Array.getElem?_eq_some_iff.mp hw
    rw [Array.getElem_replicate] at he
    subst he
    simp [State.fitsSlot, State.slotType?, hk, hkd, hv]
  have h2 : allocActs (Array.replicate n v) s.heap.size acts = acts := by
    unfold allocActs
    rw [if_pos (Array.all_eq_true.mpr fun i hi => by rw [Array.getElem_replicate]; exact hv0)]
  have h3 : ¬ n > e.platform.arrayLengthLimit := by omega
  have h4 : ¬ n * componentBytes ty > e.platform.maxHeapBytes := by omega
  have h5 : ¬ n > e.platform.maxSlots := by omega
  simp only [Jvm.newArray, Jvm.arrayFits, wp_bind', W.ask, W.ite, W.theClass, W.alloc, W.stop, wp_pure', hk, hkd, h3, h4, h5, if_false, Option.some.injEq, exists_eq_left', Array.size_replicate, h2]
  exact ⟨hc, hs, h1, hQ⟩
/-- a loop over numbers in a row, each of which does one thing to the state -/
theorem rg_loop {f : Nat → PUnit → Sem (ForInStep PUnit)} {nx : State → Nat → State} {I : Nat → State → Prop} {N : Nat} {Q : PUnit → Pre}
    (hf : ∀ (i : Nat) (S : State) (d : Bool) (acts : List Action) (Q' : ForInStep PUnit → Pre), i < N → I i S → (∀ (d' : Bool) (acts' : List Action), Q' (.yield PUnit.unit) d' acts' (nx S i)) → wp (f i PUnit.unit) Q' E e d acts S)
    (hI : ∀ (i : Nat) (S : State), i < N → I i S → I (i + 1) (nx S i)) (n : Nat) : ∀ (i : Nat) (S : State) (d : Bool) (acts : List Action), i + n = N → I i S →
      (∀ (d' : Bool) (acts' : List Action), Q PUnit.unit d' acts' ((List.range' i n).foldl nx S)) → wp (forIn (List.range' i n) PUnit.unit f) Q E e d acts S := by
  induction n with
  | zero =>
    intro i S d acts _ _ hQ
    show wp (forIn ([] : List Nat) PUnit.unit f) Q E e d acts S
    rw [List.forIn_nil, wp_pure']
    exact hQ d acts
  | succ n ih =>
    intro i S d acts hn hi hQ
    rw [List.range'_succ, List.forIn_cons, wp_bind']
    refine hf i S d acts _ (by omega) hi (fun d' acts' => ?_)
    exact ih (i + 1) (nx S i) d' acts' (by omega) (hI i S (by omega) hi) (fun d2 acts2 => hQ d2 acts2)
/-- the model's 'make' of n rows of k ints -/
theorem rg_make {cA cy cz : ClassId} {kA ky : Class} {n k : Int32} {N K : Nat} {Q : Addr → Pre} (hA : s.vm.classes[cA]? = some kA) (hAk : kA.kind = .array cy (.array .int)) (hy : s.vm.classes[cy]? = some ky) (hyk : ky.kind = .array cz .int)
    (hn : ¬ n < 0) (hk : ¬ k < 0) (hN : n.toNatClampNeg = N) (hK : k.toNatClampNeg = K) (hl1 : N ≤ e.platform.arrayLengthLimit) (hh1 : N * 4 ≤ e.platform.maxHeapBytes) (hl2 : K ≤ e.platform.arrayLengthLimit) (hh2 : K * 4 ≤ e.platform.maxHeapBytes)
    (hc : s.heap.size + (1 + N) ≤ e.platform.maxCells) (hs : s.slotsUsed + (N + N * K) ≤ e.platform.maxSlots)
    (hQ : ∀ (d' : Bool) (acts' : List Action), Q s.heap.size d' acts' (rg_end cA N (arrV cy K (fun _ => .int 0)) s)) : wp (multianewarray.make cA [n, k]) Q E e d acts s := by
  have hbad : [k].find? (· < 0) = none := by simp [hk]
  rw [multianewarray.make]
  simp only [wp_bind', W.ite, hn, if_false, wp_pure', W.theClass, hA, hAk, Option.some.injEq, exists_eq_left', hN]
  refine rg_new (ty := .array .int) hA hAk hl1 hh1 rfl rfl (by omega) (by omega) ?_
  simp only [hbad, ite_self, wp_bind', wp_pure', Std.Legacy.Range.forIn_eq_forIn_range']
  rw [← rg_o_zero cA N s.heap.size]
  have hsz : ([:N] : Std.Legacy.Range).size = N := by simp [Std.Legacy.Range.size]
  rw [hsz]
  have hstep : ∀ (i : Nat) (S : State), i < N → (S.vm = s.vm ∧ S.heap.size = s.heap.size + 1 + i ∧ S.slotsUsed = s.slotsUsed + N + i * K ∧ S.heap[s.heap.size]? = some (rg_o cA N s.heap.size i)) → (S.pushCell (arrV cy K (fun _ => .int 0))).heap[s.heap.size]? = some (rg_o cA N s.heap.size i) := fun i S _ h => by
    have hlt : s.heap.size < S.heap.size := by
      rw [h.2.1]
      omega
    rw [State.heap_pushCell_of_lt (h := hlt)]
    exact h.2.2.2
  refine rg_loop (nx := rg_nx cA N s.heap.size (arrV cy K (fun _ => .int 0))) (I := fun i S => S.vm = s.vm ∧ S.heap.size = s.heap.size + 1 + i ∧ S.slotsUsed = s.slotsUsed + N + i * K ∧ S.heap[s.heap.size]? = some (rg_o cA N s.heap.size i)) (N := N) (fun i S d acts Q' hi hI hq => ?_) (fun i S hi hI => ?_) N 0 _ d acts (Nat.zero_add N) ⟨rfl, by simp, by simp [rg_o_size], by simp⟩ (fun d' acts' => ?_)
  · have hout := hstep i S hi hI
    obtain ⟨i1, i2, i3, i4⟩ := hI
    have hmul : (i + 1) * K ≤ N * K := Nat.mul_le_mul_right K hi
    rw [Nat.succ_mul] at hmul
    rw [wp_bind', multianewarray.make]
    simp only [wp_bind', W.ite, hk, if_false, wp_pure', W.theClass, i1, hy, hyk, Option.some.injEq, exists_eq_left', hK]
    refine rg_new (ty := .int) (by rw [i1]; exact hy) hyk hl2 hh2 rfl rfl (by omega) (by omega) ?_
    rw [show ({ cls := cy, slots := Array.replicate K (defaultValue .int), vm := .none } : Cell) = arrV cy K (fun _ => .int 0) from arrV_new cy K (.int 0)]
    simp only [wp_bind', W.writeLoc, wp_pure']
    refine ⟨_, hout, by rw [rg_o_vm]; simp, by rw [rg_o_size]; exact hi, ?_, ?_⟩
    · show (S.pushCell (arrV cy K (fun _ => .int 0))).fitsSlot cA .none i (.ref S.heap.size) = true
      simp [State.fitsSlot, State.slotType?, i1, hA, hAk, fits]
    · rw [i2, rg_o_next]
      exact hq _ _
  · have hout := hstep i S hi hI
    obtain ⟨i1, i2, i3, i4⟩ := hI
    refine ⟨by simp [rg_nx, i1], ?_, ?_, State.heap_setCell_self hout⟩
    · simp [rg_nx, State.setCell, i2]
      omega
    · simp [rg_nx, i3, arrV, Nat.succ_mul]
      omega
  · simp only [wp_pure']
    exact hQ d' acts'
end GR
theorem rg_over {args : Array Value} {s : State} (h : (Cond.arrayOver (.array .int)).before args s = true) : ∃ cy cA kA, s.vm.findClass (FieldType.array .int).toString = some cy ∧ s.vm.findClass ("[" ++ (FieldType.array .int).toString) = some cA ∧ s.vm.classes[cA]? = some kA ∧ kA.kind = .array cy (.array .int) := by
  cases hy : s.vm.findClass (FieldType.array .int).toString with
  | none => simp [Cond.before, Cond.holds, Cond.value, hy] at h
  | some cy =>
    simp only [Cond.before, Cond.holds, Cond.value, hy, Option.bind_some, beq_iff_eq] at h
    obtain ⟨cA, hf, h⟩ := Option.bind_eq_some_iff.mp h
    obtain ⟨hlt, hp, -⟩ := Array.findIdx?_eq_some_iff_getElem.mp hf
    have hg : s.vm.classes[cA]? = some s.vm.classes[cA] := Array.getElem?_eq_getElem hlt
    rw [hg, Option.map_some, Option.some.injEq] at h
    refine ⟨cy, cA, s.vm.classes[cA], rfl, ?_, hg, ?_⟩ <;> (split at h <;> simp_all)
section RGS
variable {p : Program} {l : Launch} {e : Env} {R : Room} {s : State} {m : MethodId} {args : Array Value} {below : List Frame} {meth : Method} {c : Code} {locs : List Loc}
/-- n rows more: the walk still stands; what is there then -/
theorem rg_fold {cA : ClassId} {N a : Nat} {x : Cell} (ha : s.heap.size ≤ a) (n : Nat) : ∀ (i : Nat) (S : State) (cells slots : Nat), Stand p l e R s m args below meth c S locs cells slots → S.heap.size = a + 1 + i → S.heap[a]? = some (rg_o cA N a i) →
    Stand p l e R s m args below meth c ((List.range' i n).foldl (rg_nx cA N a x) S) locs (cells + n) (slots + n * x.slots.size) ∧ ((List.range' i n).foldl (rg_nx cA N a x) S).heap.size = a + 1 + i + n ∧ ((List.range' i n).foldl (rg_nx cA N a x) S).heap[a]? = some (rg_o cA N a (i + n)) ∧
    (∀ y : Nat, y < S.heap.size → y ≠ a → ((List.range' i n).foldl (rg_nx cA N a x) S).heap[y]? = S.heap[y]?) ∧ (∀ j : Nat, i ≤ j → j < i + n → ((List.range' i n).foldl (rg_nx cA N a x) S).heap[a + 1 + j]? = some x) := by
  induction n with
  | zero =>
    intro i S cells slots X h1 h2
    refine ⟨?_, h1, h2, fun _ _ _ => rfl, fun j h3 h4 => absurd h4 (by omega)⟩
    rw [Nat.zero_mul]
    exact X
  | succ n ih =>
    intro i S cells slots X h1 h2
    have hlt : a < S.heap.size := by rw [h1]; omega
    have hcell : (S.pushCell x).heap[a]? = some (rg_o cA N a i) := by rw [State.heap_pushCell_of_lt (h := hlt)]; exact h2
    have hsize : (rg_nx cA N a x S i).heap.size = a + 1 + (i + 1) := by
      simp [rg_nx, State.setCell, h1]
      omega
    have hold : ∀ y : Nat, y < S.heap.size → y ≠ a → (rg_nx cA N a x S i).heap[y]? = S.heap[y]? := fun y hy hne => by
      unfold rg_nx
      rw [State.heap_setCell_other (Ne.symm hne), State.heap_pushCell_of_lt (h := hy)]
    have hnew : (rg_nx cA N a x S i).heap[a + 1 + i]? = some x := by
      unfold rg_nx
      have hne : a ≠ a + 1 + i := by omega
      rw [State.heap_setCell_other hne, ← h1]
      exact State.heap_pushCell_size _ _
    have X1 : Stand p l e R s m args below meth c (rg_nx cA N a x S i) locs (cells + 1) (slots + x.slots.size) := by
      have h := (X.pushed x).stored hcell i (.ref (a + 1 + i))
      rw [rg_o_next] at h
      exact h.dropFresh (fun y hy => by
        cases List.mem_singleton.mp hy
        exact ha)
    obtain ⟨r1, r2, r3, r4, r5⟩ := ih (i + 1) (rg_nx cA N a x S i) (cells + 1) (slots + x.slots.size) X1 hsize (State.heap_setCell_self hcell)
    rw [List.range'_succ, List.foldl_cons]
    refine ⟨?_, by rw [r2]; omega, by rw [r3]; congr 1; congr 1; omega, fun y hy hne => (r4 y (by rw [hsize]; omega) hne).trans (hold y hy hne), fun j h3 h4 => ?_⟩
    · have e1 : cells + (n + 1) = cells + 1 + n := by omega
      have e2 : slots + (n + 1) * x.slots.size = slots + x.slots.size + n * x.slots.size := by
        rw [Nat.succ_mul]
        omega
      rw [e1, e2]
      exact r1
    · rcases Nat.eq_or_lt_of_le h3 with h | h
      · subst h
        exact (r4 _ (by rw [hsize]; omega) (by omega)).trans hnew
      · exact r5 j h (by omega)
/-- 'multianewarray' of two dimensions of ints, in the walk's own words -/
theorem rg_step {T : State} {cells slots : Nat} (X : Stand p l e R s m args below meth c T locs cells slots) (hexec : p.tables.exec = Jvm.exec) {own : String} {index : Nat} (hown : s.vm.findClass own = some m.cls) (hlink : (Cond.classLink own index ("[" ++ (FieldType.array .int).toString)).before args s = true) (hover : (Cond.arrayOver (.array .int)).before args s = true) (harr : (Cond.arrayClass .int).before args s = true)
    {g : JFrame} (hg : g.method = m) (hdg : decode c.code g.pc = .ok (.multianewarray index 2, 4)) {n k : Int32} {N K : Nat} {rest : List Value} (hst : g.stack = .int k :: .int n :: rest) (hn : ¬ n < 0) (hk : ¬ k < 0) (hN : n.toNatClampNeg = N) (hK : k.toNatClampNeg = K) (hb1 : N * 4 ≤ 536870912) (hb2 : K * 4 ≤ 536870912) (hcells : cells + (1 + N) ≤ R.cells) (hslots : slots + (N + N * K) ≤ R.slots) :
    ∃ (cA cy : ClassId) (F : State), s.vm.findClass ("[" ++ (FieldType.array .int).toString) = some cA ∧ s.vm.findClass (FieldType.array .int).toString = some cy ∧ ArrOfT s cA (.array .int) ∧ Stand p l e R s m args below meth c F locs (cells + 1 + N) (slots + N + N * K) ∧
      F.heap.size = T.heap.size + 1 + N ∧ F.heap[T.heap.size]? = some (rg_o cA N T.heap.size N) ∧ (∀ y : Nat, y < T.heap.size → F.heap[y]? = T.heap[y]?) ∧ (∀ j : Nat, j < N → F.heap[T.heap.size + 1 + j]? = some (arrV cy K (fun _ => .int 0))) ∧
      ∀ tg, Steps p.tables e below (F.setTop { g with pc := g.pc + 4, stack := .ref T.heap.size :: rest }) tg → Steps p.tables e below (T.setTop g) tg := by
  subst hg
  obtain ⟨cy, cA, kA, fy, fA, hA, hAk⟩ := rg_over hover
  obtain ⟨cy', ky, cz, fy', hy, hyk⟩ := Cond.arrayClass_spec harr
  cases fy.symm.trans fy'
  obtain ⟨cA', fA', hl⟩ := Cond.classLink_spec hown hlink e.platform (by rw [X.admits.platform])
  cases fA.symm.trans fA'
  obtain ⟨hgives, hwarm, hready⟩ := State.classEntry (e := e) X.warmed hl
  generalize T.vm.noted g.method.cls index (.cls cA) = vm1 at hgives hwarm hready
  obtain ⟨kA1, hA1, eA⟩ := hwarm.alike.2.2 _ _ hA
  obtain ⟨ky1, hy1, ey⟩ := hwarm.alike.2.2 _ _ hy
  have X1 := X.noted hwarm
  have X2 := X1.pushed (rg_o cA N T.heap.size 0)
  rw [rg_o_size] at X2
  obtain ⟨r1, r2, r3, r4, r5⟩ := rg_fold (cA := cA) (N := N) (x := arrV cy K (fun _ => .int 0)) X.heapGrown N 0 ((T.setVm vm1).pushCell (rg_o cA N T.heap.size 0)) (cells + 1) (slots + N) X2 (by simp) (State.heap_pushCell_size (T.setVm vm1) _)
  have esz : (arrV cy K (fun _ => Value.int 0)).slots.size = K := by simp [arrV]
  rw [esz] at r1
  obtain ⟨q1, q2⟩ := X.roomAbove hcells hslots
  refine ⟨cA, cy, rg_end cA N (arrV cy K (fun _ => .int 0)) (T.setVm vm1), fA, fy, fun n0 z0 => ⟨fun q hq => (by cases hq), kA, hA, cy, hAk⟩, r1, ?_, ?_, ?_, ?_, fun tg htg => ?_⟩
  · exact r2.trans (by rw [Nat.add_zero])
  · rw [Nat.zero_add] at r3
    exact r3
  · intro y hy
    refine (r4 y ?_ (Nat.ne_of_lt hy)).trans (State.heap_pushCell_of_lt _ _ hy)
    simp
    omega
  · intro j hj
    exact r5 j (Nat.zero_le j) (by omega)
  · have hrest : g.stack = [Value.int n, .int k].reverse ++ rest := hst
    jvm_step X.here [hexec, hdg]
    simp only [multianewarray.sem, wp_bind', W.resolveClassAt_links (State.method?_setTop g X.here.top) hgives]
    refine (popN_top (s := T.setVm vm1) (f := g) (args := [.int n, .int k]) X.here.top hrest).mpr ?_
    simp only [List.mapM_cons, List.mapM_nil, wp_bind', wp_pure']
    refine rg_make (s := (T.setVm vm1).setTop { g with stack := rest }) (kA := kA1) (ky := ky1) (cy := cy) (cz := cz) (N := N) (K := K) hA1 (by rw [eA]; exact hAk) hy1 (by rw [ey]; exact hyk) hn hk hN hK (by rw [Launch.admits_arrayLengthLimit X.admits]; omega) (by rw [Launch.admits_maxHeapBytes X.admits]; omega) (by rw [Launch.admits_arrayLengthLimit X.admits]; omega) (by rw [Launch.admits_maxHeapBytes X.admits]; omega) q1 q2 (fun d' acts' => ?_)
    rw [rg_end_top]
    have htop : (rg_end cA N (arrV cy K (fun _ => .int 0)) (T.setVm vm1)).topJava?.isSome := r1.here.top
    simp only [wp_bind', W.mark, W.pushRef, State.topJava?_setTop' _ htop, Option.some.injEq, exists_eq_left', State.setTop_setTop, State.heap_setTop]
    intro acts2
    simp [jvm, htop]
    exact htg
end RGS
