/-! the judgement: from every heap that holds the world ws and every array of locals that holds lv, the machine at pc with the stack st comes to its end -/
def gt : List Cond := lw_tbl.filter goodWord
theorem gt_in {w : Cond} (h : w ∈ lw_tbl) (g : goodWord w = true) : w ∈ gt := List.mem_filter.mpr ⟨h, g⟩
theorem gt_goodIn {ws : List Cond} (h : ∀ w ∈ ws, w ∈ gt) : GoodIn gt ws := fun w hw => ⟨h w hw, good_of_word (List.mem_filter.mp (h w hw)).2⟩
theorem gt_sub {w : Cond} (h : w ∈ gt) : w ∈ lw_tbl := (List.mem_filter.mp h).1
abbrev jclasses : List vw_C := [(RX0, TX0, 9), (RX1, TX1, 2), (RX2, TX2, 1), (RX3, TX3, 4), (RX4, TX4, 1), (RX5, TX5, 9), (RX6, TX6, 23)]
/-- the array classes: int, long, boolean, Kind, Sums, int[] -/
abbrev jtys (q : Nat → ClassId) : List (ClassId × FieldType) := [(q 0, .int), (q 1, .long), (q 2, .boolean), (q 3, .object RX0), (q 4, .object RX2), (q 5, .array .int)]
abbrev GT : Type := Program × Launch × Env × Room × State × MethodId × Array Value × List Frame × Method × Code × va_G × (Nat → Prop) × (State → Prop)
def jw (Γ : GT) (nL kc ks : Nat) (ws : va_W) (lv : List (Nat × Value)) (st : List Value) (pc : Nat) : Prop :=
  match Γ with
  | (p, l, e, R, s, m, args, below, meth, c, D, A, Q) => ∀ (H : Heap) (locs : List Loc) (ls : Array Slot), va_P D jclasses ws H → va_D A ws → va_S A s.heap H locs → lv_has ls nL lv → W p l e R s m args below meth c H locs kc ks Q (F0 m pc ls st)
def gd (Γ : GT) (cc : ByteArray) (own : String) (nL : Nat) (rm : Room) (q : Nat → ClassId) : Prop :=
  match Γ with
  | (p, _, _, R, s, m, args, _, _, c, D, A, _) => p.tables.exec = Jvm.exec ∧ c.code = cc ∧ c.maxLocals = nL ∧ s.vm.findClass own = some m.cls ∧ (∀ w ∈ gt, w.before args s = true) ∧ va_K D jclasses (jtys q) s ∧ (∀ z, s.heap.size ≤ z → A z) ∧ R = rm
/-- the room of a method that makes nothing -/
abbrev rmz (fr lo : Nat) : Room := { frames := fr, cells := 0, slots := 0, locals := lo }
section JW
variable {Γ : GT} {cc : ByteArray} {own : String} {nL kc ks : Nat} {rm : Room} {q : Nat → ClassId} {ws : va_W} {lv : List (Nat × Value)} {st : List Value} {pc : Nat}

theorem j_iconst (g : gd Γ cc own nL rm q) {n : Int} {v : Int32} (hv : Int32.ofInt n = v) (hd : decode cc pc = .ok (.iconst n, 1)) (k : jw Γ nL kc ks ws lv (.int v :: st) (pc + 1)) : jw Γ nL kc ks ws lv st pc := by
  obtain ⟨p, l, e, R, s, m, args, below, meth, c, D, A, Q⟩ := Γ
  obtain ⟨hx, hb, hml, hown, hts, hK, hA, hR⟩ := g
  intro H locs ls hP hD hS hl
  exact lv_iconst hx hb hd hv (k H locs ls hP hD hS hl)

theorem j_bipush (g : gd Γ cc own nL rm q) {n : Int} {v : Int32} (hv : (Int8.ofInt n).toInt32 = v) (hd : decode cc pc = .ok (.bipush n, 2)) (k : jw Γ nL kc ks ws lv (.int v :: st) (pc + 2)) : jw Γ nL kc ks ws lv st pc := by
  obtain ⟨p, l, e, R, s, m, args, below, meth, c, D, A, Q⟩ := Γ
  obtain ⟨hx, hb, hml, hown, hts, hK, hA, hR⟩ := g
  intro H locs ls hP hD hS hl
  exact lv_bipush hx hb hd hv (k H locs ls hP hD hS hl)

theorem j_sipush (g : gd Γ cc own nL rm q) {n : Int} {v : Int32} (hv : (Int16.ofInt n).toInt32 = v) (hd : decode cc pc = .ok (.sipush n, 3)) (k : jw Γ nL kc ks ws lv (.int v :: st) (pc + 3)) : jw Γ nL kc ks ws lv st pc := by
  obtain ⟨p, l, e, R, s, m, args, below, meth, c, D, A, Q⟩ := Γ
  obtain ⟨hx, hb, hml, hown, hts, hK, hA, hR⟩ := g
  intro H locs ls hP hD hS hl
  exact lv_sipush hx hb hd hv (k H locs ls hP hD hS hl)

theorem j_lconst (g : gd Γ cc own nL rm q) {n : Fin 2} {v : Int64} (hv : Int64.ofInt (n : Nat) = v) (hd : decode cc pc = .ok (.lconst n, 1)) (k : jw Γ nL kc ks ws lv (.long v :: st) (pc + 1)) : jw Γ nL kc ks ws lv st pc := by
  obtain ⟨p, l, e, R, s, m, args, below, meth, c, D, A, Q⟩ := Γ
  obtain ⟨hx, hb, hml, hown, hts, hK, hA, hR⟩ := g
  intro H locs ls hP hD hS hl
  exact lv_lconst hx hb hd hv (k H locs ls hP hD hS hl)

theorem j_null (g : gd Γ cc own nL rm q)  (hd : decode cc pc = .ok (.aconst_null, 1)) (k : jw Γ nL kc ks ws lv (.null :: st) (pc + 1)) : jw Γ nL kc ks ws lv st pc := by
  obtain ⟨p, l, e, R, s, m, args, below, meth, c, D, A, Q⟩ := Γ
  obtain ⟨hx, hb, hml, hown, hts, hK, hA, hR⟩ := g
  intro H locs ls hP hD hS hl
  exact lv_null hx hb hd (k H locs ls hP hD hS hl)

theorem j_ldc (g : gd Γ cc own nL rm q) {index : Nat} {v : Int32} (hc : Cond.constant own index v ∈ gt) (hd : decode cc pc = .ok (.ldc index, 2)) (k : jw Γ nL kc ks ws lv (.int v :: st) (pc + 2)) : jw Γ nL kc ks ws lv st pc := by
  obtain ⟨p, l, e, R, s, m, args, below, meth, c, D, A, Q⟩ := Γ
  obtain ⟨hx, hb, hml, hown, hts, hK, hA, hR⟩ := g
  intro H locs ls hP hD hS hl
  exact lv_ldc hx hb hown (hts _ hc) hd (k H locs ls hP hD hS hl)

theorem j_iload_n (g : gd Γ cc own nL rm q) {i : Fin 4} {x : Int32} (z : Nat) (hz : lv[z]? = some ((i : Nat), .int x)) (hd : decode cc pc = .ok (.iload_n i, 1)) (k : jw Γ nL kc ks ws lv (.int x :: st) (pc + 1)) : jw Γ nL kc ks ws lv st pc := by
  obtain ⟨p, l, e, R, s, m, args, below, meth, c, D, A, Q⟩ := Γ
  obtain ⟨hx, hb, hml, hown, hts, hK, hA, hR⟩ := g
  intro H locs ls hP hD hS hl
  exact lv_iload_n hx hb hd rfl (lv_at hl z hz) (k H locs ls hP hD hS hl)

theorem j_iload (g : gd Γ cc own nL rm q) {i : Nat} {x : Int32} (z : Nat) (hz : lv[z]? = some (i, .int x)) (hd : decode cc pc = .ok (.iload i, 2)) (k : jw Γ nL kc ks ws lv (.int x :: st) (pc + 2)) : jw Γ nL kc ks ws lv st pc := by
  obtain ⟨p, l, e, R, s, m, args, below, meth, c, D, A, Q⟩ := Γ
  obtain ⟨hx, hb, hml, hown, hts, hK, hA, hR⟩ := g
  intro H locs ls hP hD hS hl
  exact lv_iload hx hb hd (lv_at hl z hz) (k H locs ls hP hD hS hl)

theorem j_lload_n (g : gd Γ cc own nL rm q) {i : Fin 4} {x : Int64} (z : Nat) (hz : lv[z]? = some ((i : Nat), .long x)) (hd : decode cc pc = .ok (.lload_n i, 1)) (k : jw Γ nL kc ks ws lv (.long x :: st) (pc + 1)) : jw Γ nL kc ks ws lv st pc := by
  obtain ⟨p, l, e, R, s, m, args, below, meth, c, D, A, Q⟩ := Γ
  obtain ⟨hx, hb, hml, hown, hts, hK, hA, hR⟩ := g
  intro H locs ls hP hD hS hl
  exact lv_lload_n hx hb hd rfl (lv_at hl z hz) (k H locs ls hP hD hS hl)

theorem j_lload (g : gd Γ cc own nL rm q) {i : Nat} {x : Int64} (z : Nat) (hz : lv[z]? = some (i, .long x)) (hd : decode cc pc = .ok (.lload i, 2)) (k : jw Γ nL kc ks ws lv (.long x :: st) (pc + 2)) : jw Γ nL kc ks ws lv st pc := by
  obtain ⟨p, l, e, R, s, m, args, below, meth, c, D, A, Q⟩ := Γ
  obtain ⟨hx, hb, hml, hown, hts, hK, hA, hR⟩ := g
  intro H locs ls hP hD hS hl
  exact lv_lload hx hb hd (lv_at hl z hz) (k H locs ls hP hD hS hl)

theorem j_aload_n (g : gd Γ cc own nL rm q) {i : Fin 4} {x : Nat} (z : Nat) (hz : lv[z]? = some ((i : Nat), .ref x)) (hd : decode cc pc = .ok (.aload_n i, 1)) (k : jw Γ nL kc ks ws lv (.ref x :: st) (pc + 1)) : jw Γ nL kc ks ws lv st pc := by
  obtain ⟨p, l, e, R, s, m, args, below, meth, c, D, A, Q⟩ := Γ
  obtain ⟨hx, hb, hml, hown, hts, hK, hA, hR⟩ := g
  intro H locs ls hP hD hS hl
  exact lv_aload_n hx hb hd rfl (lv_at hl z hz) (k H locs ls hP hD hS hl)

theorem j_aload (g : gd Γ cc own nL rm q) {i : Nat} {x : Nat} (z : Nat) (hz : lv[z]? = some (i, .ref x)) (hd : decode cc pc = .ok (.aload i, 2)) (k : jw Γ nL kc ks ws lv (.ref x :: st) (pc + 2)) : jw Γ nL kc ks ws lv st pc := by
  obtain ⟨p, l, e, R, s, m, args, below, meth, c, D, A, Q⟩ := Γ
  obtain ⟨hx, hb, hml, hown, hts, hK, hA, hR⟩ := g
  intro H locs ls hP hD hS hl
  exact lv_aload hx hb hd (lv_at hl z hz) (k H locs ls hP hD hS hl)

theorem j_aload_nN (g : gd Γ cc own nL rm q) {i : Fin 4} (z : Nat) (hz : lv[z]? = some ((i : Nat), .null)) (hd : decode cc pc = .ok (.aload_n i, 1)) (k : jw Γ nL kc ks ws lv (.null :: st) (pc + 1)) : jw Γ nL kc ks ws lv st pc := by
  obtain ⟨p, l, e, R, s, m, args, below, meth, c, D, A, Q⟩ := Γ
  obtain ⟨hx, hb, hml, hown, hts, hK, hA, hR⟩ := g
  intro H locs ls hP hD hS hl
  exact lv_aload_nN hx hb hd rfl (lv_at hl z hz) (k H locs ls hP hD hS hl)

theorem j_aloadN (g : gd Γ cc own nL rm q) {i : Nat} (z : Nat) (hz : lv[z]? = some (i, .null)) (hd : decode cc pc = .ok (.aload i, 2)) (k : jw Γ nL kc ks ws lv (.null :: st) (pc + 2)) : jw Γ nL kc ks ws lv st pc := by
  obtain ⟨p, l, e, R, s, m, args, below, meth, c, D, A, Q⟩ := Γ
  obtain ⟨hx, hb, hml, hown, hts, hK, hA, hR⟩ := g
  intro H locs ls hP hD hS hl
  exact lv_aloadN hx hb hd (lv_at hl z hz) (k H locs ls hP hD hS hl)

theorem j_istore_n (g : gd Γ cc own nL rm q) {i : Fin 4} {x : Int32} {lv' : List (Nat × Value)} (hn : (i : Nat) < nL) (hv : ((i : Nat), Value.int x) :: lv.filter (fun q => !(q.1 == (i : Nat)) && !(q.1 + 1 == (i : Nat) && q.2.category == 2)) = lv') (hd : decode cc pc = .ok (.istore_n i, 1)) (k : jw Γ nL kc ks ws lv' st (pc + 1)) : jw Γ nL kc ks ws lv (.int x :: st) pc := by
  obtain ⟨p, l, e, R, s, m, args, below, meth, c, D, A, Q⟩ := Γ
  obtain ⟨hx, hb, hml, hown, hts, hK, hA, hR⟩ := g
  intro H locs ls hP hD hS hl
  exact lv_istore_n hx hb hd rfl hl hn hv (fun ls hl => k H locs ls hP hD hS hl)

theorem j_istore (g : gd Γ cc own nL rm q) {i : Nat} {x : Int32} {lv' : List (Nat × Value)} (hn : i < nL) (hv : (i, Value.int x) :: lv.filter (fun q => !(q.1 == i) && !(q.1 + 1 == i && q.2.category == 2)) = lv') (hd : decode cc pc = .ok (.istore i, 2)) (k : jw Γ nL kc ks ws lv' st (pc + 2)) : jw Γ nL kc ks ws lv (.int x :: st) pc := by
  obtain ⟨p, l, e, R, s, m, args, below, meth, c, D, A, Q⟩ := Γ
  obtain ⟨hx, hb, hml, hown, hts, hK, hA, hR⟩ := g
  intro H locs ls hP hD hS hl
  exact lv_istore hx hb hd hl hn hv (fun ls hl => k H locs ls hP hD hS hl)

theorem j_astore_n (g : gd Γ cc own nL rm q) {i : Fin 4} {x : Nat} {lv' : List (Nat × Value)} (hn : (i : Nat) < nL) (hv : ((i : Nat), Value.ref x) :: lv.filter (fun q => !(q.1 == (i : Nat)) && !(q.1 + 1 == (i : Nat) && q.2.category == 2)) = lv') (hd : decode cc pc = .ok (.astore_n i, 1)) (k : jw Γ nL kc ks ws lv' st (pc + 1)) : jw Γ nL kc ks ws lv (.ref x :: st) pc := by
  obtain ⟨p, l, e, R, s, m, args, below, meth, c, D, A, Q⟩ := Γ
  obtain ⟨hx, hb, hml, hown, hts, hK, hA, hR⟩ := g
  intro H locs ls hP hD hS hl
  exact lv_astore_n hx hb hd rfl hl hn hv (fun ls hl => k H locs ls hP hD hS hl)

theorem j_astore (g : gd Γ cc own nL rm q) {i : Nat} {x : Nat} {lv' : List (Nat × Value)} (hn : i < nL) (hv : (i, Value.ref x) :: lv.filter (fun q => !(q.1 == i) && !(q.1 + 1 == i && q.2.category == 2)) = lv') (hd : decode cc pc = .ok (.astore i, 2)) (k : jw Γ nL kc ks ws lv' st (pc + 2)) : jw Γ nL kc ks ws lv (.ref x :: st) pc := by
  obtain ⟨p, l, e, R, s, m, args, below, meth, c, D, A, Q⟩ := Γ
  obtain ⟨hx, hb, hml, hown, hts, hK, hA, hR⟩ := g
  intro H locs ls hP hD hS hl
  exact lv_astore hx hb hd hl hn hv (fun ls hl => k H locs ls hP hD hS hl)

theorem j_astore_nN (g : gd Γ cc own nL rm q) {i : Fin 4} {lv' : List (Nat × Value)} (hn : (i : Nat) < nL) (hv : ((i : Nat), Value.null) :: lv.filter (fun q => !(q.1 == (i : Nat)) && !(q.1 + 1 == (i : Nat) && q.2.category == 2)) = lv') (hd : decode cc pc = .ok (.astore_n i, 1)) (k : jw Γ nL kc ks ws lv' st (pc + 1)) : jw Γ nL kc ks ws lv (.null :: st) pc := by
  obtain ⟨p, l, e, R, s, m, args, below, meth, c, D, A, Q⟩ := Γ
  obtain ⟨hx, hb, hml, hown, hts, hK, hA, hR⟩ := g
  intro H locs ls hP hD hS hl
  exact lv_astore_nN hx hb hd rfl hl hn hv (fun ls hl => k H locs ls hP hD hS hl)

theorem j_astoreN (g : gd Γ cc own nL rm q) {i : Nat} {lv' : List (Nat × Value)} (hn : i < nL) (hv : (i, Value.null) :: lv.filter (fun q => !(q.1 == i) && !(q.1 + 1 == i && q.2.category == 2)) = lv') (hd : decode cc pc = .ok (.astore i, 2)) (k : jw Γ nL kc ks ws lv' st (pc + 2)) : jw Γ nL kc ks ws lv (.null :: st) pc := by
  obtain ⟨p, l, e, R, s, m, args, below, meth, c, D, A, Q⟩ := Γ
  obtain ⟨hx, hb, hml, hown, hts, hK, hA, hR⟩ := g
  intro H locs ls hP hD hS hl
  exact lv_astoreN hx hb hd hl hn hv (fun ls hl => k H locs ls hP hD hS hl)

theorem j_iinc (g : gd Γ cc own nL rm q) {i : Nat} {n : Int} {x v : Int32} {lv' : List (Nat × Value)} (z : Nat) (hz : lv[z]? = some (i, .int x)) (he : x + Int32.ofInt n = v) (hn : i < nL) (hv : (i, Value.int v) :: lv.filter (fun q => !(q.1 == i) && !(q.1 + 1 == i && q.2.category == 2)) = lv') (hd : decode cc pc = .ok (.iinc i n, 3)) (k : jw Γ nL kc ks ws lv' st (pc + 3)) : jw Γ nL kc ks ws lv st pc := by
  obtain ⟨p, l, e, R, s, m, args, below, meth, c, D, A, Q⟩ := Γ
  obtain ⟨hx, hb, hml, hown, hts, hK, hA, hR⟩ := g
  intro H locs ls hP hD hS hl
  exact lv_iinc hx hb hd hl hz he hn hv (fun ls hl => k H locs ls hP hD hS hl)

theorem j_sub {lv' : List (Nat × Value)} (zs : List Nat) (h : lv_pick lv zs = lv') (k : jw Γ nL kc ks ws lv' st pc) : jw Γ nL kc ks ws lv st pc := by
  obtain ⟨p, l, e, R, s, m, args, below, meth, c, D, A, Q⟩ := Γ
  intro H locs ls hP hD hS hl
  exact k H locs ls hP hD hS (lv_sub hl zs h)
theorem j_ws {ws' : va_W} (h : ws = ws') (k : jw Γ nL kc ks ws' lv st pc) : jw Γ nL kc ks ws lv st pc := h ▸ k
theorem j_st {st' : List Value} (h : st = st') (k : jw Γ nL kc ks ws lv st' pc) : jw Γ nL kc ks ws lv st pc := h ▸ k

theorem j_iadd (g : gd Γ cc own nL rm q) {x y : Int32} (hd : decode cc pc = .ok (.iadd, 1)) (k : jw Γ nL kc ks ws lv (.int (x + y) :: st) (pc + 1)) : jw Γ nL kc ks ws lv (.int y :: .int x :: st) pc := by
  obtain ⟨p, l, e, R, s, m, args, below, meth, c, D, A, Q⟩ := Γ
  obtain ⟨hx, hb, hml, hown, hts, hK, hA, hR⟩ := g
  intro H locs ls hP hD hS hl
  exact lv_iadd hx hb hd (k H locs ls hP hD hS hl)

theorem j_isub (g : gd Γ cc own nL rm q) {x y : Int32} (hd : decode cc pc = .ok (.isub, 1)) (k : jw Γ nL kc ks ws lv (.int (x - y) :: st) (pc + 1)) : jw Γ nL kc ks ws lv (.int y :: .int x :: st) pc := by
  obtain ⟨p, l, e, R, s, m, args, below, meth, c, D, A, Q⟩ := Γ
  obtain ⟨hx, hb, hml, hown, hts, hK, hA, hR⟩ := g
  intro H locs ls hP hD hS hl
  exact lv_isub hx hb hd (k H locs ls hP hD hS hl)

theorem j_imul (g : gd Γ cc own nL rm q) {x y : Int32} (hd : decode cc pc = .ok (.imul, 1)) (k : jw Γ nL kc ks ws lv (.int (x * y) :: st) (pc + 1)) : jw Γ nL kc ks ws lv (.int y :: .int x :: st) pc := by
  obtain ⟨p, l, e, R, s, m, args, below, meth, c, D, A, Q⟩ := Γ
  obtain ⟨hx, hb, hml, hown, hts, hK, hA, hR⟩ := g
  intro H locs ls hP hD hS hl
  exact lv_imul hx hb hd (k H locs ls hP hD hS hl)

theorem j_iand (g : gd Γ cc own nL rm q) {x y : Int32} (hd : decode cc pc = .ok (.iand, 1)) (k : jw Γ nL kc ks ws lv (.int (x &&& y) :: st) (pc + 1)) : jw Γ nL kc ks ws lv (.int y :: .int x :: st) pc := by
  obtain ⟨p, l, e, R, s, m, args, below, meth, c, D, A, Q⟩ := Γ
  obtain ⟨hx, hb, hml, hown, hts, hK, hA, hR⟩ := g
  intro H locs ls hP hD hS hl
  exact lv_iand hx hb hd (k H locs ls hP hD hS hl)

theorem j_idiv (g : gd Γ cc own nL rm q) {x y : Int32} (hy : ¬ y = 0) (hd : decode cc pc = .ok (.idiv, 1)) (k : jw Γ nL kc ks ws lv (.int (x / y) :: st) (pc + 1)) : jw Γ nL kc ks ws lv (.int y :: .int x :: st) pc := by
  obtain ⟨p, l, e, R, s, m, args, below, meth, c, D, A, Q⟩ := Γ
  obtain ⟨hx, hb, hml, hown, hts, hK, hA, hR⟩ := g
  intro H locs ls hP hD hS hl
  exact lv_idiv hx hb hd hy (k H locs ls hP hD hS hl)

theorem j_irem (g : gd Γ cc own nL rm q) {x y : Int32} (hy : ¬ y = 0) (hd : decode cc pc = .ok (.irem, 1)) (k : jw Γ nL kc ks ws lv (.int (x - x / y * y) :: st) (pc + 1)) : jw Γ nL kc ks ws lv (.int y :: .int x :: st) pc := by
  obtain ⟨p, l, e, R, s, m, args, below, meth, c, D, A, Q⟩ := Γ
  obtain ⟨hx, hb, hml, hown, hts, hK, hA, hR⟩ := g
  intro H locs ls hP hD hS hl
  exact lv_irem hx hb hd hy (k H locs ls hP hD hS hl)

theorem j_land (g : gd Γ cc own nL rm q) {x y : Int64} (hd : decode cc pc = .ok (.land, 1)) (k : jw Γ nL kc ks ws lv (.long (x &&& y) :: st) (pc + 1)) : jw Γ nL kc ks ws lv (.long y :: .long x :: st) pc := by
  obtain ⟨p, l, e, R, s, m, args, below, meth, c, D, A, Q⟩ := Γ
  obtain ⟨hx, hb, hml, hown, hts, hK, hA, hR⟩ := g
  intro H locs ls hP hD hS hl
  exact lv_land hx hb hd (k H locs ls hP hD hS hl)

theorem j_lor (g : gd Γ cc own nL rm q) {x y : Int64} (hd : decode cc pc = .ok (.lor, 1)) (k : jw Γ nL kc ks ws lv (.long (x ||| y) :: st) (pc + 1)) : jw Γ nL kc ks ws lv (.long y :: .long x :: st) pc := by
  obtain ⟨p, l, e, R, s, m, args, below, meth, c, D, A, Q⟩ := Γ
  obtain ⟨hx, hb, hml, hown, hts, hK, hA, hR⟩ := g
  intro H locs ls hP hD hS hl
  exact lv_lor hx hb hd (k H locs ls hP hD hS hl)

theorem j_lushr (g : gd Γ cc own nL rm q) {x : Int64} {y : Int32} (hd : decode cc pc = .ok (.lushr, 1)) (k : jw Γ nL kc ks ws lv (.long ((x.toUInt64 >>> (y.toInt64.toUInt64 &&& Int64.toUInt64 63)).toInt64) :: st) (pc + 1)) : jw Γ nL kc ks ws lv (.int y :: .long x :: st) pc := by
  obtain ⟨p, l, e, R, s, m, args, below, meth, c, D, A, Q⟩ := Γ
  obtain ⟨hx, hb, hml, hown, hts, hK, hA, hR⟩ := g
  intro H locs ls hP hD hS hl
  exact lv_lushr hx hb hd rfl (k H locs ls hP hD hS hl)

theorem j_lshl (g : gd Γ cc own nL rm q) {x : Int64} {y : Int32} (hd : decode cc pc = .ok (.lshl, 1)) (k : jw Γ nL kc ks ws lv (.long (x <<< (y.toInt64 &&& 63)) :: st) (pc + 1)) : jw Γ nL kc ks ws lv (.int y :: .long x :: st) pc := by
  obtain ⟨p, l, e, R, s, m, args, below, meth, c, D, A, Q⟩ := Γ
  obtain ⟨hx, hb, hml, hown, hts, hK, hA, hR⟩ := g
  intro H locs ls hP hD hS hl
  exact lv_lshl hx hb hd rfl (k H locs ls hP hD hS hl)

theorem j_dup (g : gd Γ cc own nL rm q) {v : Value} (hv : v.category = 1) (hd : decode cc pc = .ok (.dup, 1)) (k : jw Γ nL kc ks ws lv (v :: v :: st) (pc + 1)) : jw Γ nL kc ks ws lv (v :: st) pc := by
  obtain ⟨p, l, e, R, s, m, args, below, meth, c, D, A, Q⟩ := Γ
  obtain ⟨hx, hb, hml, hown, hts, hK, hA, hR⟩ := g
  intro H locs ls hP hD hS hl
  exact lv_dup hx hb hd hv (k H locs ls hP hD hS hl)

theorem j_dup2 (g : gd Γ cc own nL rm q) {v u : Value} (hv : v.category = 1) (hu : u.category = 1) (hd : decode cc pc = .ok (.dup2, 1)) (k : jw Γ nL kc ks ws lv (v :: u :: v :: u :: st) (pc + 1)) : jw Γ nL kc ks ws lv (v :: u :: st) pc := by
  obtain ⟨p, l, e, R, s, m, args, below, meth, c, D, A, Q⟩ := Γ
  obtain ⟨hx, hb, hml, hown, hts, hK, hA, hR⟩ := g
  intro H locs ls hP hD hS hl
  exact lv_dup2_11 hx hb hd hv hu (k H locs ls hP hD hS hl)

-- CONDS
theorem j_icmp_eq (g : gd Γ cc own nL rm q) {x y : Int32} {off : Int} {tgt : Nat} (hd : decode cc pc = .ok (.if_icmp .eq off, 3)) (ht : (pc : Int) + off = (tgt : Int)) (kt : x = y → jw Γ nL kc ks ws lv st tgt) (kf : ¬ x = y → jw Γ nL kc ks ws lv st (pc + 3)) : jw Γ nL kc ks ws lv (.int y :: .int x :: st) pc := by
  obtain ⟨p, l, e, R, s, m, args, below, meth, c, D, A, Q⟩ := Γ
  obtain ⟨hx, hb, hml, hown, hts, hK, hA, hR⟩ := g
  intro H locs ls hP hD hS hl
  exact lv_icmp_eq hx hb hd ht (fun h => kt h H locs ls hP hD hS hl) (fun h => kf h H locs ls hP hD hS hl)

theorem j_icmp_ne (g : gd Γ cc own nL rm q) {x y : Int32} {off : Int} {tgt : Nat} (hd : decode cc pc = .ok (.if_icmp .ne off, 3)) (ht : (pc : Int) + off = (tgt : Int)) (kt : ¬ x = y → jw Γ nL kc ks ws lv st tgt) (kf : x = y → jw Γ nL kc ks ws lv st (pc + 3)) : jw Γ nL kc ks ws lv (.int y :: .int x :: st) pc := by
  obtain ⟨p, l, e, R, s, m, args, below, meth, c, D, A, Q⟩ := Γ
  obtain ⟨hx, hb, hml, hown, hts, hK, hA, hR⟩ := g
  intro H locs ls hP hD hS hl
  exact lv_icmp_ne hx hb hd ht (fun h => kt h H locs ls hP hD hS hl) (fun h => kf h H locs ls hP hD hS hl)

theorem j_icmp_lt (g : gd Γ cc own nL rm q) {x y : Int32} {off : Int} {tgt : Nat} (hd : decode cc pc = .ok (.if_icmp .lt off, 3)) (ht : (pc : Int) + off = (tgt : Int)) (kt : x < y → jw Γ nL kc ks ws lv st tgt) (kf : ¬ x < y → jw Γ nL kc ks ws lv st (pc + 3)) : jw Γ nL kc ks ws lv (.int y :: .int x :: st) pc := by
  obtain ⟨p, l, e, R, s, m, args, below, meth, c, D, A, Q⟩ := Γ
  obtain ⟨hx, hb, hml, hown, hts, hK, hA, hR⟩ := g
  intro H locs ls hP hD hS hl
  exact lv_icmp_lt hx hb hd ht (fun h => kt h H locs ls hP hD hS hl) (fun h => kf h H locs ls hP hD hS hl)

theorem j_icmp_ge (g : gd Γ cc own nL rm q) {x y : Int32} {off : Int} {tgt : Nat} (hd : decode cc pc = .ok (.if_icmp .ge off, 3)) (ht : (pc : Int) + off = (tgt : Int)) (kt : y ≤ x → jw Γ nL kc ks ws lv st tgt) (kf : ¬ y ≤ x → jw Γ nL kc ks ws lv st (pc + 3)) : jw Γ nL kc ks ws lv (.int y :: .int x :: st) pc := by
  obtain ⟨p, l, e, R, s, m, args, below, meth, c, D, A, Q⟩ := Γ
  obtain ⟨hx, hb, hml, hown, hts, hK, hA, hR⟩ := g
  intro H locs ls hP hD hS hl
  exact lv_icmp_ge hx hb hd ht (fun h => kt h H locs ls hP hD hS hl) (fun h => kf h H locs ls hP hD hS hl)

theorem j_icmp_gt (g : gd Γ cc own nL rm q) {x y : Int32} {off : Int} {tgt : Nat} (hd : decode cc pc = .ok (.if_icmp .gt off, 3)) (ht : (pc : Int) + off = (tgt : Int)) (kt : y < x → jw Γ nL kc ks ws lv st tgt) (kf : ¬ y < x → jw Γ nL kc ks ws lv st (pc + 3)) : jw Γ nL kc ks ws lv (.int y :: .int x :: st) pc := by
  obtain ⟨p, l, e, R, s, m, args, below, meth, c, D, A, Q⟩ := Γ
  obtain ⟨hx, hb, hml, hown, hts, hK, hA, hR⟩ := g
  intro H locs ls hP hD hS hl
  exact lv_icmp_gt hx hb hd ht (fun h => kt h H locs ls hP hD hS hl) (fun h => kf h H locs ls hP hD hS hl)

theorem j_icmp_le (g : gd Γ cc own nL rm q) {x y : Int32} {off : Int} {tgt : Nat} (hd : decode cc pc = .ok (.if_icmp .le off, 3)) (ht : (pc : Int) + off = (tgt : Int)) (kt : x ≤ y → jw Γ nL kc ks ws lv st tgt) (kf : ¬ x ≤ y → jw Γ nL kc ks ws lv st (pc + 3)) : jw Γ nL kc ks ws lv (.int y :: .int x :: st) pc := by
  obtain ⟨p, l, e, R, s, m, args, below, meth, c, D, A, Q⟩ := Γ
  obtain ⟨hx, hb, hml, hown, hts, hK, hA, hR⟩ := g
  intro H locs ls hP hD hS hl
  exact lv_icmp_le hx hb hd ht (fun h => kt h H locs ls hP hD hS hl) (fun h => kf h H locs ls hP hD hS hl)

theorem j_if_eq (g : gd Γ cc own nL rm q) {x : Int32} {off : Int} {tgt : Nat} (hd : decode cc pc = .ok (.ifCond .eq off, 3)) (ht : (pc : Int) + off = (tgt : Int)) (kt : x = 0 → jw Γ nL kc ks ws lv st tgt) (kf : ¬ x = 0 → jw Γ nL kc ks ws lv st (pc + 3)) : jw Γ nL kc ks ws lv (.int x :: st) pc := by
  obtain ⟨p, l, e, R, s, m, args, below, meth, c, D, A, Q⟩ := Γ
  obtain ⟨hx, hb, hml, hown, hts, hK, hA, hR⟩ := g
  intro H locs ls hP hD hS hl
  exact lv_if_eq hx hb hd ht (fun h => kt h H locs ls hP hD hS hl) (fun h => kf h H locs ls hP hD hS hl)

theorem j_if_ne (g : gd Γ cc own nL rm q) {x : Int32} {off : Int} {tgt : Nat} (hd : decode cc pc = .ok (.ifCond .ne off, 3)) (ht : (pc : Int) + off = (tgt : Int)) (kt : ¬ x = 0 → jw Γ nL kc ks ws lv st tgt) (kf : x = 0 → jw Γ nL kc ks ws lv st (pc + 3)) : jw Γ nL kc ks ws lv (.int x :: st) pc := by
  obtain ⟨p, l, e, R, s, m, args, below, meth, c, D, A, Q⟩ := Γ
  obtain ⟨hx, hb, hml, hown, hts, hK, hA, hR⟩ := g
  intro H locs ls hP hD hS hl
  exact lv_if_ne hx hb hd ht (fun h => kt h H locs ls hP hD hS hl) (fun h => kf h H locs ls hP hD hS hl)

theorem j_if_lt (g : gd Γ cc own nL rm q) {x : Int32} {off : Int} {tgt : Nat} (hd : decode cc pc = .ok (.ifCond .lt off, 3)) (ht : (pc : Int) + off = (tgt : Int)) (kt : x < 0 → jw Γ nL kc ks ws lv st tgt) (kf : ¬ x < 0 → jw Γ nL kc ks ws lv st (pc + 3)) : jw Γ nL kc ks ws lv (.int x :: st) pc := by
  obtain ⟨p, l, e, R, s, m, args, below, meth, c, D, A, Q⟩ := Γ
  obtain ⟨hx, hb, hml, hown, hts, hK, hA, hR⟩ := g
  intro H locs ls hP hD hS hl
  exact lv_if_lt hx hb hd ht (fun h => kt h H locs ls hP hD hS hl) (fun h => kf h H locs ls hP hD hS hl)

theorem j_if_ge (g : gd Γ cc own nL rm q) {x : Int32} {off : Int} {tgt : Nat} (hd : decode cc pc = .ok (.ifCond .ge off, 3)) (ht : (pc : Int) + off = (tgt : Int)) (kt : 0 ≤ x → jw Γ nL kc ks ws lv st tgt) (kf : ¬ 0 ≤ x → jw Γ nL kc ks ws lv st (pc + 3)) : jw Γ nL kc ks ws lv (.int x :: st) pc := by
  obtain ⟨p, l, e, R, s, m, args, below, meth, c, D, A, Q⟩ := Γ
  obtain ⟨hx, hb, hml, hown, hts, hK, hA, hR⟩ := g
  intro H locs ls hP hD hS hl
  exact lv_if_ge hx hb hd ht (fun h => kt h H locs ls hP hD hS hl) (fun h => kf h H locs ls hP hD hS hl)

theorem j_if_gt (g : gd Γ cc own nL rm q) {x : Int32} {off : Int} {tgt : Nat} (hd : decode cc pc = .ok (.ifCond .gt off, 3)) (ht : (pc : Int) + off = (tgt : Int)) (kt : 0 < x → jw Γ nL kc ks ws lv st tgt) (kf : ¬ 0 < x → jw Γ nL kc ks ws lv st (pc + 3)) : jw Γ nL kc ks ws lv (.int x :: st) pc := by
  obtain ⟨p, l, e, R, s, m, args, below, meth, c, D, A, Q⟩ := Γ
  obtain ⟨hx, hb, hml, hown, hts, hK, hA, hR⟩ := g
  intro H locs ls hP hD hS hl
  exact lv_if_gt hx hb hd ht (fun h => kt h H locs ls hP hD hS hl) (fun h => kf h H locs ls hP hD hS hl)

theorem j_if_le (g : gd Γ cc own nL rm q) {x : Int32} {off : Int} {tgt : Nat} (hd : decode cc pc = .ok (.ifCond .le off, 3)) (ht : (pc : Int) + off = (tgt : Int)) (kt : x ≤ 0 → jw Γ nL kc ks ws lv st tgt) (kf : ¬ x ≤ 0 → jw Γ nL kc ks ws lv st (pc + 3)) : jw Γ nL kc ks ws lv (.int x :: st) pc := by
  obtain ⟨p, l, e, R, s, m, args, below, meth, c, D, A, Q⟩ := Γ
  obtain ⟨hx, hb, hml, hown, hts, hK, hA, hR⟩ := g
  intro H locs ls hP hD hS hl
  exact lv_if_le hx hb hd ht (fun h => kt h H locs ls hP hD hS hl) (fun h => kf h H locs ls hP hD hS hl)

theorem j_goto (g : gd Γ cc own nL rm q) {off : Int} {tgt : Nat} (hd : decode cc pc = .ok (.goto off, 3)) (ht : (pc : Int) + off = (tgt : Int)) (k : jw Γ nL kc ks ws lv st tgt) : jw Γ nL kc ks ws lv st pc := by
  obtain ⟨p, l, e, R, s, m, args, below, meth, c, D, A, Q⟩ := Γ
  obtain ⟨hx, hb, hml, hown, hts, hK, hA, hR⟩ := g
  intro H locs ls hP hD hS hl
  exact lv_goto hx hb hd ht (k H locs ls hP hD hS hl)
theorem j_ifnull (g : gd Γ cc own nL rm q) {x : Nat} {off : Int} (hd : decode cc pc = .ok (.ifnull off, 3)) (k : jw Γ nL kc ks ws lv st (pc + 3)) : jw Γ nL kc ks ws lv (.ref x :: st) pc := by
  obtain ⟨p, l, e, R, s, m, args, below, meth, c, D, A, Q⟩ := Γ
  obtain ⟨hx, hb, hml, hown, hts, hK, hA, hR⟩ := g
  intro H locs ls hP hD hS hl
  exact lv_ifnull hx hb hd (k H locs ls hP hD hS hl)
theorem j_ifnullN (g : gd Γ cc own nL rm q) {off : Int} {tgt : Nat} (hd : decode cc pc = .ok (.ifnull off, 3)) (ht : (pc : Int) + off = (tgt : Int)) (k : jw Γ nL kc ks ws lv st tgt) : jw Γ nL kc ks ws lv (.null :: st) pc := by
  obtain ⟨p, l, e, R, s, m, args, below, meth, c, D, A, Q⟩ := Γ
  obtain ⟨hx, hb, hml, hown, hts, hK, hA, hR⟩ := g
  intro H locs ls hP hD hS hl
  exact lv_ifnullN hx hb hd ht (k H locs ls hP hD hS hl)
theorem j_ifnonnull (g : gd Γ cc own nL rm q) {x : Nat} {off : Int} {tgt : Nat} (hd : decode cc pc = .ok (.ifnonnull off, 3)) (ht : (pc : Int) + off = (tgt : Int)) (k : jw Γ nL kc ks ws lv st tgt) : jw Γ nL kc ks ws lv (.ref x :: st) pc := by
  obtain ⟨p, l, e, R, s, m, args, below, meth, c, D, A, Q⟩ := Γ
  obtain ⟨hx, hb, hml, hown, hts, hK, hA, hR⟩ := g
  intro H locs ls hP hD hS hl
  exact lv_ifnonnull hx hb hd ht (k H locs ls hP hD hS hl)
theorem j_ifnonnullN (g : gd Γ cc own nL rm q) {off : Int} (hd : decode cc pc = .ok (.ifnonnull off, 3)) (k : jw Γ nL kc ks ws lv st (pc + 3)) : jw Γ nL kc ks ws lv (.null :: st) pc := by
  obtain ⟨p, l, e, R, s, m, args, below, meth, c, D, A, Q⟩ := Γ
  obtain ⟨hx, hb, hml, hown, hts, hK, hA, hR⟩ := g
  intro H locs ls hP hD hS hl
  exact lv_ifnonnullN hx hb hd (k H locs ls hP hD hS hl)
/-- the link of a field: own's constant index names field k of class ci -/
def fdL (own : String) (index ci k : Nat) (C : String) (T : u_T) (N : Nat) : Prop := (∀ w ∈ u_ws C T N, w ∈ gt) ∧ jclasses[ci]? = some (C, T, N) ∧ k < N ∧ Cond.fieldLink own index (T k).1 (T k).2.1 (T k).2.2.1 ∈ gt
theorem j_get (g : gd Γ cc own nL rm q) {a ci k index N : Nat} {C : String} {T : u_T} (F : fdL own index ci k C T N) (q0 : Nat) {fs : List Value} {v : Value} (he : ws[q0]? = some (a, .inr (ci, fs))) (hv : fs[k]? = some v) (hd : decode cc pc = .ok (.getfield index, 3)) (kk : jw Γ nL kc ks ws lv (v :: st) (pc + 3)) : jw Γ nL kc ks ws lv (.ref a :: st) pc := by
  obtain ⟨p, l, e, R, s, m, args, below, meth, c, D, A, Q⟩ := Γ
  obtain ⟨hx, hb, hml, hown, hts, hK, hA, hR⟩ := g
  intro H locs ls hP hD hS hl
  exact va_get hx hb hts F.1 hown hK hP q0 he F.2.1 k F.2.2.1 (hts _ F.2.2.2) (fun _ h => h) hv hd (kk H locs ls hP hD hS hl)
/-- a field that may be put: not final, its type -/
def fpL (k : Nat) (T : u_T) (N : Nat) (ty : FieldType) : Prop := (∃ ty0 : Nat → FieldType, ∀ k, k < N → parseFieldDescriptor (T k).2.2.1 = some (ty0 k)) ∧ (∀ a, a < N → ∀ b, b < N → a ≠ b → (T a).2.1 ≠ (T b).2.1) ∧ (T k).2.2.2 = false ∧ parseFieldDescriptor (T k).2.2.1 = some ty
theorem j_put (g : gd Γ cc own nL rm q) {a ci k index N : Nat} {C : String} {T : u_T} {ty : FieldType} (F : fdL own index ci k C T N) (G : fpL k T N ty) (q0 : Nat) {fs : List Value} {v : Value} (he : ws[q0]? = some (a, .inr (ci, fs))) (hn : narrow ty v = v) (hf : fits ty v = true) (hk : k < fs.length) {ws' : va_W} (hw : ws.set q0 (a, .inr (ci, fs.set k v)) = ws') (hd : decode cc pc = .ok (.putfield index, 3)) (kk : jw Γ nL kc ks ws' lv st (pc + 3)) : jw Γ nL kc ks ws lv (v :: .ref a :: st) pc := by
  obtain ⟨p, l, e, R, s, m, args, below, meth, c, D, A, Q⟩ := Γ
  obtain ⟨hx, hb, hml, hown, hts, hK, hA, hR⟩ := g
  intro H locs ls hP hD hS hl
  obtain ⟨⟨ty0, h0⟩, h1, h2, h3⟩ := G
  subst hw
  exact va_put hx hb hts F.1 ty0 h0 h1 hown hK hP hD hS q0 he F.2.1 k F.2.2.1 (hts _ F.2.2.2) (fun _ h => h) h2 h3 hn hf hk hd (fun H1 locs1 hP hD hS => kk H1 locs1 ls hP hD hS hl)
theorem j_iald (g : gd Γ cc own nL rm q) {a n : Nat} {f : Nat → Int32} {i : Int32} (q0 : Nat) (ha : ws[q0]? = some (a, .inl (q 0, n, .inl f))) (hin : vp_in i n) (hd : decode cc pc = .ok (.iaload, 1)) (k : jw Γ nL kc ks ws lv (.int (f i.toNatClampNeg) :: st) (pc + 1)) : jw Γ nL kc ks ws lv (.int i :: .ref a :: st) pc := by
  obtain ⟨p, l, e, R, s, m, args, below, meth, c, D, A, Q⟩ := Γ
  obtain ⟨hx, hb, hml, hown, hts, hK, hA, hR⟩ := g
  intro H locs ls hP hD hS hl
  exact va_iald hx hb hK hP q0 0 ha rfl hin hd (k H locs ls hP hD hS hl)
theorem j_zald (g : gd Γ cc own nL rm q) {a n : Nat} {f : Nat → Int32} {i : Int32} (q0 : Nat) (ha : ws[q0]? = some (a, .inl (q 2, n, .inl f))) (hin : vp_in i n) (hd : decode cc pc = .ok (.baload, 1)) (k : jw Γ nL kc ks ws lv (.int (f i.toNatClampNeg) :: st) (pc + 1)) : jw Γ nL kc ks ws lv (.int i :: .ref a :: st) pc := by
  obtain ⟨p, l, e, R, s, m, args, below, meth, c, D, A, Q⟩ := Γ
  obtain ⟨hx, hb, hml, hown, hts, hK, hA, hR⟩ := g
  intro H locs ls hP hD hS hl
  exact va_zald hx hb hK hP q0 2 ha rfl hin hd (k H locs ls hP hD hS hl)
theorem j_lald (g : gd Γ cc own nL rm q) {a n : Nat} {f : Nat → Int64} {i : Int32} (q0 : Nat) (ha : ws[q0]? = some (a, .inl (q 1, n, .inr (.inl f)))) (hin : vp_in i n) (hd : decode cc pc = .ok (.laload, 1)) (k : jw Γ nL kc ks ws lv (.long (f i.toNatClampNeg) :: st) (pc + 1)) : jw Γ nL kc ks ws lv (.int i :: .ref a :: st) pc := by
  obtain ⟨p, l, e, R, s, m, args, below, meth, c, D, A, Q⟩ := Γ
  obtain ⟨hx, hb, hml, hown, hts, hK, hA, hR⟩ := g
  intro H locs ls hP hD hS hl
  exact va_lald hx hb hK hP q0 1 ha rfl hin hd (k H locs ls hP hD hS hl)
/-- an array of references: any of its three kinds -/
theorem j_aald (g : gd Γ cc own nL rm q) {a n : Nat} {f : Nat → Option Nat} {i : Int32} (q0 t0 : Nat) {cA : ClassId} {ty : FieldType} (ha : ws[q0]? = some (a, .inl (cA, n, .inr (.inr (.inr (.inr f)))))) (ht : (jtys q)[t0]? = some (cA, ty)) (hrk : 3 ≤ t0) (hin : vp_in i n) {x : Nat} (hf : f i.toNatClampNeg = some x) (hd : decode cc pc = .ok (.aaload, 1)) (k : jw Γ nL kc ks ws lv (.ref x :: st) (pc + 1)) : jw Γ nL kc ks ws lv (.int i :: .ref a :: st) pc := by
  obtain ⟨p, l, e, R, s, m, args, below, meth, c, D, A, Q⟩ := Γ
  obtain ⟨hx, hb, hml, hown, hts, hK, hA, hR⟩ := g
  intro H locs ls hP hD hS hl
  have hlt : i.toNatClampNeg < n := Nat.not_le.mp fun q => hin (Or.inr q)
  have hv : va_rf (f i.toNatClampNeg) = .ref x := by rw [hf]; rfl
  have hKt := (hK.2 t0 _ ht).1 n (fun j => va_rf (f j))
  have hrf : ∃ t, ty = .object t ∨ ty = .array .int := by
    match t0, ht, hrk with
    | 3, ht, _ => cases ht; exact ⟨_, Or.inl rfl⟩
    | 4, ht, _ => cases ht; exact ⟨_, Or.inl rfl⟩
    | 5, ht, _ => cases ht; exact ⟨"", Or.inr rfl⟩
    | t + 6, ht, _ => simp at ht
  obtain ⟨t, rfl | rfl⟩ := hrf
  · exact W.aald (v := .ref x) (ty := .object t) hx hb (hP q0 _ ha) hKt rfl (fun q => by cases q) (by show ¬ (i < 0 ∨ (arrV _ _ _).slots.size ≤ _); rw [arrV_size]; exact hin) (by show (arrV _ _ _).slots[_]? = _; rw [arrV_read _ _ hlt]; exact congrArg some hv) rfl rfl hd (k H locs ls hP hD hS hl)
  · exact W.aald (v := .ref x) (ty := .array .int) hx hb (hP q0 _ ha) hKt rfl (fun q => by cases q) (by show ¬ (i < 0 ∨ (arrV _ _ _).slots.size ≤ _); rw [arrV_size]; exact hin) (by show (arrV _ _ _).slots[_]? = _; rw [arrV_read _ _ hlt]; exact congrArg some hv) rfl rfl hd (k H locs ls hP hD hS hl)
theorem j_iast (g : gd Γ cc own nL rm q) {a n : Nat} {f : Nat → Int32} {i x : Int32} (q0 : Nat) (ha : ws[q0]? = some (a, .inl (q 0, n, .inl f))) (hin : vp_in i n) {ws' : va_W} (hw : ws.set q0 (a, .inl (q 0, n, .inl (upd f i.toNatClampNeg x))) = ws') (hd : decode cc pc = .ok (.iastore, 1)) (k : jw Γ nL kc ks ws' lv st (pc + 1)) : jw Γ nL kc ks ws lv (.int x :: .int i :: .ref a :: st) pc := by
  obtain ⟨p, l, e, R, s, m, args, below, meth, c, D, A, Q⟩ := Γ
  obtain ⟨hx, hb, hml, hown, hts, hK, hA, hR⟩ := g
  intro H locs ls hP hD hS hl
  subst hw
  exact va_iast hx hb hK hP hD hS q0 0 ha rfl hin hd (fun H1 locs1 hP hD hS => k H1 locs1 ls hP hD hS hl)
theorem j_zast (g : gd Γ cc own nL rm q) {a n : Nat} {f : Nat → Int32} {i x : Int32} (q0 : Nat) (ha : ws[q0]? = some (a, .inl (q 2, n, .inl f))) (hin : vp_in i n) (hn : vp_nar .boolean x = x) {ws' : va_W} (hw : ws.set q0 (a, .inl (q 2, n, .inl (upd f i.toNatClampNeg x))) = ws') (hd : decode cc pc = .ok (.bastore, 1)) (k : jw Γ nL kc ks ws' lv st (pc + 1)) : jw Γ nL kc ks ws lv (.int x :: .int i :: .ref a :: st) pc := by
  obtain ⟨p, l, e, R, s, m, args, below, meth, c, D, A, Q⟩ := Γ
  obtain ⟨hx, hb, hml, hown, hts, hK, hA, hR⟩ := g
  intro H locs ls hP hD hS hl
  subst hw
  exact va_zast hx hb hK hP hD hS q0 2 ha rfl hin hd (fun H1 locs1 hP hD hS => k H1 locs1 ls (hn ▸ hP) (hn ▸ hD) hS hl)
theorem j_last (g : gd Γ cc own nL rm q) {a n : Nat} {f : Nat → Int64} {i : Int32} {x : Int64} (q0 : Nat) (ha : ws[q0]? = some (a, .inl (q 1, n, .inr (.inl f)))) (hin : vp_in i n) {ws' : va_W} (hw : ws.set q0 (a, .inl (q 1, n, .inr (.inl (vp_updL f i.toNatClampNeg x)))) = ws') (hd : decode cc pc = .ok (.lastore, 1)) (k : jw Γ nL kc ks ws' lv st (pc + 1)) : jw Γ nL kc ks ws lv (.long x :: .int i :: .ref a :: st) pc := by
  obtain ⟨p, l, e, R, s, m, args, below, meth, c, D, A, Q⟩ := Γ
  obtain ⟨hx, hb, hml, hown, hts, hK, hA, hR⟩ := g
  intro H locs ls hP hD hS hl
  subst hw
  exact va_last hx hb hK hP hD hS q0 1 ha rfl hin hd (fun H1 locs1 hP hD hS => k H1 locs1 ls hP hD hS hl)
theorem j_aast (g : gd Γ cc own nL rm q) {a n v : Nat} {f : Nat → Option Nat} {i : Int32} (q0 t0 qk ci : Nat) {cA : ClassId} {r : vw_C} {vs : List Value} (ha : ws[q0]? = some (a, .inl (cA, n, .inr (.inr (.inr (.inr f)))))) (ht : (jtys q)[t0]? = some (cA, .object r.1)) (hv : ws[qk]? = some (v, .inr (ci, vs))) (hc : jclasses[ci]? = some r) (hin : vp_in i n) {ws' : va_W} (hw : ws.set q0 (a, .inl (cA, n, .inr (.inr (.inr (.inr (va_up f i.toNatClampNeg (some v))))))) = ws') (hd : decode cc pc = .ok (.aastore, 1)) (k : jw Γ nL kc ks ws' lv st (pc + 1)) : jw Γ nL kc ks ws lv (.ref v :: .int i :: .ref a :: st) pc := by
  obtain ⟨p, l, e, R, s, m, args, below, meth, c, D, A, Q⟩ := Γ
  obtain ⟨hx, hb, hml, hown, hts, hK, hA, hR⟩ := g
  intro H locs ls hP hD hS hl
  subst hw
  exact va_astq hx hb hK hP hD hS q0 t0 qk ci ha ht hv hc hin hd (fun H1 locs1 hP hD hS => k H1 locs1 ls hP hD hS hl)
theorem j_alen (g : gd Γ cc own nL rm q) {a : Nat} (q0 t0 : Nat) {cA : ClassId} {x : vp_A} {ty : FieldType} {v : Int32} (ha : ws[q0]? = some (a, .inl (cA, x))) (ht : (jtys q)[t0]? = some (cA, ty)) (hv : Int32.ofNat x.1 = v) (hd : decode cc pc = .ok (.arraylength, 1)) (k : jw Γ nL kc ks ws lv (.int v :: st) (pc + 1)) : jw Γ nL kc ks ws lv (.ref a :: st) pc := by
  obtain ⟨p, l, e, R, s, m, args, below, meth, c, D, A, Q⟩ := Γ
  obtain ⟨hx, hb, hml, hown, hts, hK, hA, hR⟩ := g
  intro H locs ls hP hD hS hl
  exact va_alen hx hb hK hP q0 t0 ha ht hv hd (k H locs ls hP hD hS hl)
theorem j_mmax (g : gd Γ cc own nL rm q) {index : Nat} {x y : Int32} (h1 : Cond.methodLink own index Lib.Math.max.name ∈ gt) (h2 : Cond.static Lib.Math.max.name ∈ gt) (h3 : Cond.initialized "java/lang/Math" ∈ gt) (h4 : Cond.code Lib.Math.max.name Lib.Math.max.code 2 (some .int) ∈ gt) (hf : 1 ≤ rm.frames) (hl0 : (st.map fun v => v.category).sum + 13 ≤ rm.locals) (hc : kc ≤ rm.cells) (hs : ks ≤ rm.slots) (hd : decode cc pc = .ok (.invokestatic index, 3)) (k : jw Γ nL kc ks ws lv (.int (if x < y then y else x) :: st) (pc + 3)) : jw Γ nL kc ks ws lv (.int y :: .int x :: st) pc := by
  obtain ⟨p, l, e, R, s, m, args, below, meth, c, D, A, Q⟩ := Γ
  obtain ⟨hx, hb, hml, hown, hts, hK, hA, hR⟩ := g
  intro H locs ls hP hD hS hl
  subst hR
  exact va_mmax hx hb (hml.trans hl.1.symm) hown (hts _ h1) (hts _ h2) (hts _ h3) (hts _ h4) hf hl0 hc hs hd (k H locs ls hP hD hS hl)
theorem j_mmin (g : gd Γ cc own nL rm q) {index : Nat} {x y : Int32} (h1 : Cond.methodLink own index Lib.Math.min.name ∈ gt) (h2 : Cond.static Lib.Math.min.name ∈ gt) (h3 : Cond.initialized "java/lang/Math" ∈ gt) (h4 : Cond.code Lib.Math.min.name Lib.Math.min.code 2 (some .int) ∈ gt) (hf : 1 ≤ rm.frames) (hl0 : (st.map fun v => v.category).sum + 13 ≤ rm.locals) (hc : kc ≤ rm.cells) (hs : ks ≤ rm.slots) (hd : decode cc pc = .ok (.invokestatic index, 3)) (k : jw Γ nL kc ks ws lv (.int (if y < x then y else x) :: st) (pc + 3)) : jw Γ nL kc ks ws lv (.int y :: .int x :: st) pc := by
  obtain ⟨p, l, e, R, s, m, args, below, meth, c, D, A, Q⟩ := Γ
  obtain ⟨hx, hb, hml, hown, hts, hK, hA, hR⟩ := g
  intro H locs ls hP hD hS hl
  subst hR
  exact va_mmin hx hb (hml.trans hl.1.symm) hown (hts _ h1) (hts _ h2) (hts _ h3) (hts _ h4) hf hl0 hc hs hd (k H locs ls hP hD hS hl)
end JW
