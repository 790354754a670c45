section
-- ===== PART A: goes FIRST, ahead of the names: the tables' words, and 'selects' of the private methods out of them =====
/-- a private method of a class that the tables say can be made, by its rows of tables_1 -/
def lw_okq (q : MethodName × Nat) : Prop := (q.1.cls ≠ "java/lang/invoke/MethodHandle" ∧ q.1.cls ≠ "java/lang/invoke/VarHandle") ∧ Cond.instantiable q.1.cls q.2 ∈ tables_1 ∧ Cond.privateMethod q.1 ∈ tables_1 ∧ Cond.instanceMethod q.1 ∈ tables_1
theorem lw_p0 : lw_okq (⟨"ChangeGiver", "addKind", "(IIZ)I"⟩, 9) := ⟨⟨by decide +kernel, by decide +kernel⟩, List.mem_of_getElem? (i := 12) (by decide +kernel), List.mem_of_getElem? (i := 177) (by decide +kernel), List.mem_of_getElem? (i := 178) (by decide +kernel)⟩
theorem lw_p1 : lw_okq (⟨"ChangeGiver", "canTake", "(LChangeGiver$Kind;)Z"⟩, 9) := ⟨⟨by decide +kernel, by decide +kernel⟩, List.mem_of_getElem? (i := 12) (by decide +kernel), List.mem_of_getElem? (i := 230) (by decide +kernel), List.mem_of_getElem? (i := 231) (by decide +kernel)⟩
theorem lw_p2 : lw_okq (⟨"ChangeGiver$Sums", "addShifted", "(I)V"⟩, 1) := ⟨⟨by decide +kernel, by decide +kernel⟩, List.mem_of_getElem? (i := 102) (by decide +kernel), List.mem_of_getElem? (i := 263) (by decide +kernel), List.mem_of_getElem? (i := 264) (by decide +kernel)⟩
theorem lw_p3 : lw_okq (⟨"ChangeGiver", "heldValue", "()I"⟩, 9) := ⟨⟨by decide +kernel, by decide +kernel⟩, List.mem_of_getElem? (i := 12) (by decide +kernel), List.mem_of_getElem? (i := 267) (by decide +kernel), List.mem_of_getElem? (i := 268) (by decide +kernel)⟩
theorem lw_p4 : lw_okq (⟨"ChangeGiver", "endCredit", "()V"⟩, 9) := ⟨⟨by decide +kernel, by decide +kernel⟩, List.mem_of_getElem? (i := 12) (by decide +kernel), List.mem_of_getElem? (i := 296) (by decide +kernel), List.mem_of_getElem? (i := 297) (by decide +kernel)⟩
theorem lw_p5 : lw_okq (⟨"ChangeGiver", "giveOut", "(I)I"⟩, 9) := ⟨⟨by decide +kernel, by decide +kernel⟩, List.mem_of_getElem? (i := 12) (by decide +kernel), List.mem_of_getElem? (i := 300) (by decide +kernel), List.mem_of_getElem? (i := 301) (by decide +kernel)⟩
theorem lw_p6 : lw_okq (⟨"ChangeGiver", "plan", "(I)Z"⟩, 9) := ⟨⟨by decide +kernel, by decide +kernel⟩, List.mem_of_getElem? (i := 12) (by decide +kernel), List.mem_of_getElem? (i := 308) (by decide +kernel), List.mem_of_getElem? (i := 309) (by decide +kernel)⟩
theorem lw_p7 : lw_okq (⟨"ChangeGiver", "giveByWay", "(I)I"⟩, 9) := ⟨⟨by decide +kernel, by decide +kernel⟩, List.mem_of_getElem? (i := 12) (by decide +kernel), List.mem_of_getElem? (i := 340) (by decide +kernel), List.mem_of_getElem? (i := 341) (by decide +kernel)⟩
theorem lw_p8 : lw_okq (⟨"ChangeGiver$Refill", "isOut", "(LChangeGiver$Till;I)Z"⟩, 2) := ⟨⟨by decide +kernel, by decide +kernel⟩, List.mem_of_getElem? (i := 128) (by decide +kernel), List.mem_of_getElem? (i := 397) (by decide +kernel), List.mem_of_getElem? (i := 398) (by decide +kernel)⟩
theorem lw_p9 : lw_okq (⟨"ChangeGiverModel", "canCome", "(I)Z"⟩, 23) := ⟨⟨by decide +kernel, by decide +kernel⟩, List.mem_of_getElem? (i := 448) (by decide +kernel), List.mem_of_getElem? (i := 529) (by decide +kernel), List.mem_of_getElem? (i := 530) (by decide +kernel)⟩
theorem lw_p10 : lw_okq (⟨"ChangeGiverModel", "isCoin", "(I)Z"⟩, 23) := ⟨⟨by decide +kernel, by decide +kernel⟩, List.mem_of_getElem? (i := 448) (by decide +kernel), List.mem_of_getElem? (i := 549) (by decide +kernel), List.mem_of_getElem? (i := 550) (by decide +kernel)⟩
theorem lw_p11 : lw_okq (⟨"ChangeGiverModel", "isKind", "(I)Z"⟩, 23) := ⟨⟨by decide +kernel, by decide +kernel⟩, List.mem_of_getElem? (i := 448) (by decide +kernel), List.mem_of_getElem? (i := 553) (by decide +kernel), List.mem_of_getElem? (i := 554) (by decide +kernel)⟩
theorem lw_p12 : lw_okq (⟨"ChangeGiverModel", "findWay", "(I)Z"⟩, 23) := ⟨⟨by decide +kernel, by decide +kernel⟩, List.mem_of_getElem? (i := 448) (by decide +kernel), List.mem_of_getElem? (i := 569) (by decide +kernel), List.mem_of_getElem? (i := 570) (by decide +kernel)⟩
theorem lw_p13 : lw_okq (⟨"ChangeGiverModel", "isWay", "(II)Z"⟩, 23) := ⟨⟨by decide +kernel, by decide +kernel⟩, List.mem_of_getElem? (i := 448) (by decide +kernel), List.mem_of_getElem? (i := 573) (by decide +kernel), List.mem_of_getElem? (i := 574) (by decide +kernel)⟩
theorem lw_p14 : lw_okq (⟨"ChangeGiverModel", "rank", "()V"⟩, 23) := ⟨⟨by decide +kernel, by decide +kernel⟩, List.mem_of_getElem? (i := 448) (by decide +kernel), List.mem_of_getElem? (i := 577) (by decide +kernel), List.mem_of_getElem? (i := 578) (by decide +kernel)⟩
theorem lw_p15 : lw_okq (⟨"ChangeGiverModel", "mayUse", "(II)I"⟩, 23) := ⟨⟨by decide +kernel, by decide +kernel⟩, List.mem_of_getElem? (i := 448) (by decide +kernel), List.mem_of_getElem? (i := 582) (by decide +kernel), List.mem_of_getElem? (i := 583) (by decide +kernel)⟩
def lw_privs_1 : List (MethodName × Nat) := [(⟨"ChangeGiver", "addKind", "(IIZ)I"⟩, 9), (⟨"ChangeGiver", "canTake", "(LChangeGiver$Kind;)Z"⟩, 9), (⟨"ChangeGiver$Sums", "addShifted", "(I)V"⟩, 1), (⟨"ChangeGiver", "heldValue", "()I"⟩, 9), (⟨"ChangeGiver", "endCredit", "()V"⟩, 9), (⟨"ChangeGiver", "giveOut", "(I)I"⟩, 9), (⟨"ChangeGiver", "plan", "(I)Z"⟩, 9), (⟨"ChangeGiver", "giveByWay", "(I)I"⟩, 9), (⟨"ChangeGiver$Refill", "isOut", "(LChangeGiver$Till;I)Z"⟩, 2), (⟨"ChangeGiverModel", "canCome", "(I)Z"⟩, 23), (⟨"ChangeGiverModel", "isCoin", "(I)Z"⟩, 23), (⟨"ChangeGiverModel", "isKind", "(I)Z"⟩, 23), (⟨"ChangeGiverModel", "findWay", "(I)Z"⟩, 23), (⟨"ChangeGiverModel", "isWay", "(II)Z"⟩, 23), (⟨"ChangeGiverModel", "rank", "()V"⟩, 23), (⟨"ChangeGiverModel", "mayUse", "(II)I"⟩, 23)]
theorem lw_r1 : ∀ q ∈ lw_privs_1, lw_okq q := List.forall_mem_cons.mpr ⟨lw_p0, List.forall_mem_cons.mpr ⟨lw_p1, List.forall_mem_cons.mpr ⟨lw_p2, List.forall_mem_cons.mpr ⟨lw_p3, List.forall_mem_cons.mpr ⟨lw_p4, List.forall_mem_cons.mpr ⟨lw_p5, List.forall_mem_cons.mpr ⟨lw_p6, List.forall_mem_cons.mpr ⟨lw_p7, List.forall_mem_cons.mpr ⟨lw_p8, List.forall_mem_cons.mpr ⟨lw_p9, List.forall_mem_cons.mpr ⟨lw_p10, List.forall_mem_cons.mpr ⟨lw_p11, List.forall_mem_cons.mpr ⟨lw_p12, List.forall_mem_cons.mpr ⟨lw_p13, List.forall_mem_cons.mpr ⟨lw_p14, List.forall_mem_cons.mpr ⟨lw_p15, fun _ h => absurd h List.not_mem_nil⟩⟩⟩⟩⟩⟩⟩⟩⟩⟩⟩⟩⟩⟩⟩⟩
theorem lw_p16 : lw_okq (⟨"ChangeGiverModel", "findSums", "()V"⟩, 23) := ⟨⟨by decide +kernel, by decide +kernel⟩, List.mem_of_getElem? (i := 448) (by decide +kernel), List.mem_of_getElem? (i := 594) (by decide +kernel), List.mem_of_getElem? (i := 595) (by decide +kernel)⟩
theorem lw_p17 : lw_okq (⟨"ChangeGiverModel", "heldValue", "()I"⟩, 23) := ⟨⟨by decide +kernel, by decide +kernel⟩, List.mem_of_getElem? (i := 448) (by decide +kernel), List.mem_of_getElem? (i := 602) (by decide +kernel), List.mem_of_getElem? (i := 603) (by decide +kernel)⟩
theorem lw_p18 : lw_okq (⟨"ChangeGiverModel", "wouldTake", "(III)Z"⟩, 23) := ⟨⟨by decide +kernel, by decide +kernel⟩, List.mem_of_getElem? (i := 448) (by decide +kernel), List.mem_of_getElem? (i := 606) (by decide +kernel), List.mem_of_getElem? (i := 607) (by decide +kernel)⟩
theorem lw_p19 : lw_okq (⟨"ChangeGiverModel", "gives", "(I)I"⟩, 23) := ⟨⟨by decide +kernel, by decide +kernel⟩, List.mem_of_getElem? (i := 448) (by decide +kernel), List.mem_of_getElem? (i := 618) (by decide +kernel), List.mem_of_getElem? (i := 619) (by decide +kernel)⟩
theorem lw_p20 : lw_okq (⟨"ChangeGiverModel", "nextUsed", "()I"⟩, 23) := ⟨⟨by decide +kernel, by decide +kernel⟩, List.mem_of_getElem? (i := 448) (by decide +kernel), List.mem_of_getElem? (i := 622) (by decide +kernel), List.mem_of_getElem? (i := 623) (by decide +kernel)⟩
theorem lw_p21 : lw_okq (⟨"ChangeGiverModel", "isLit", "()Z"⟩, 23) := ⟨⟨by decide +kernel, by decide +kernel⟩, List.mem_of_getElem? (i := 448) (by decide +kernel), List.mem_of_getElem? (i := 642) (by decide +kernel), List.mem_of_getElem? (i := 643) (by decide +kernel)⟩
theorem lw_p22 : lw_okq (⟨"ChangeGiverModel", "isOutBy", "(I)Z"⟩, 23) := ⟨⟨by decide +kernel, by decide +kernel⟩, List.mem_of_getElem? (i := 448) (by decide +kernel), List.mem_of_getElem? (i := 650) (by decide +kernel), List.mem_of_getElem? (i := 651) (by decide +kernel)⟩
theorem lw_p23 : lw_okq (⟨"ChangeGiverModel", "canAdd", "()Z"⟩, 23) := ⟨⟨by decide +kernel, by decide +kernel⟩, List.mem_of_getElem? (i := 448) (by decide +kernel), List.mem_of_getElem? (i := 654) (by decide +kernel), List.mem_of_getElem? (i := 655) (by decide +kernel)⟩
theorem lw_p24 : lw_okq (⟨"ChangeGiverModel", "goesOn", "()Z"⟩, 23) := ⟨⟨by decide +kernel, by decide +kernel⟩, List.mem_of_getElem? (i := 448) (by decide +kernel), List.mem_of_getElem? (i := 658) (by decide +kernel), List.mem_of_getElem? (i := 659) (by decide +kernel)⟩
theorem lw_p25 : lw_okq (⟨"ChangeGiverModel", "boxed", "()I"⟩, 23) := ⟨⟨by decide +kernel, by decide +kernel⟩, List.mem_of_getElem? (i := 448) (by decide +kernel), List.mem_of_getElem? (i := 666) (by decide +kernel), List.mem_of_getElem? (i := 667) (by decide +kernel)⟩
def lw_privs_2 : List (MethodName × Nat) := [(⟨"ChangeGiverModel", "findSums", "()V"⟩, 23), (⟨"ChangeGiverModel", "heldValue", "()I"⟩, 23), (⟨"ChangeGiverModel", "wouldTake", "(III)Z"⟩, 23), (⟨"ChangeGiverModel", "gives", "(I)I"⟩, 23), (⟨"ChangeGiverModel", "nextUsed", "()I"⟩, 23), (⟨"ChangeGiverModel", "isLit", "()Z"⟩, 23), (⟨"ChangeGiverModel", "isOutBy", "(I)Z"⟩, 23), (⟨"ChangeGiverModel", "canAdd", "()Z"⟩, 23), (⟨"ChangeGiverModel", "goesOn", "()Z"⟩, 23), (⟨"ChangeGiverModel", "boxed", "()I"⟩, 23)]
theorem lw_r2 : ∀ q ∈ lw_privs_2, lw_okq q := List.forall_mem_cons.mpr ⟨lw_p16, List.forall_mem_cons.mpr ⟨lw_p17, List.forall_mem_cons.mpr ⟨lw_p18, List.forall_mem_cons.mpr ⟨lw_p19, List.forall_mem_cons.mpr ⟨lw_p20, List.forall_mem_cons.mpr ⟨lw_p21, List.forall_mem_cons.mpr ⟨lw_p22, List.forall_mem_cons.mpr ⟨lw_p23, List.forall_mem_cons.mpr ⟨lw_p24, List.forall_mem_cons.mpr ⟨lw_p25, fun _ h => absurd h List.not_mem_nil⟩⟩⟩⟩⟩⟩⟩⟩⟩⟩
def lw_privs : List (MethodName × Nat) := lw_privs_1 ++ (lw_privs_2)
def lw_tbl : List Cond := k2_sels lw_privs ++ tables_1
theorem lw_privs_ok : ∀ q ∈ lw_privs, lw_okq q := by
  show ∀ q ∈ lw_privs_1 ++ (lw_privs_2), lw_okq q
  exact List.forall_mem_append.mpr ⟨lw_r1, lw_r2⟩
end
section
/-! names: from the printed list of names of this claim -/
/-! ===== BEGIN printed: names, fields, word lists, decode rows ===== -/
def RX0 : String := "ChangeGiver$Kind"
def TX0 : u_T := fun k => match k with
  | 0 => ("ChangeGiver$Kind", "value", "I", false)
  | 1 => ("ChangeGiver$Kind", "isNote", "Z", false)
  | 2 => ("ChangeGiver$Kind", "room", "I", false)
  | 3 => ("ChangeGiver$Kind", "inTube", "I", false)
  | 4 => ("ChangeGiver$Kind", "inBox", "I", false)
  | 5 => ("ChangeGiver$Kind", "isStuck", "Z", false)
  | 6 => ("ChangeGiver$Kind", "jamsBehind", "I", false)
  | 7 => ("ChangeGiver$Kind", "inWay", "I", false)
  | _ => ("ChangeGiver$Kind", "given", "I", false)
def tyX0 : Nat → FieldType := fun k => match k with
  | 0 => .int
  | 1 => .boolean
  | 2 => .int
  | 3 => .int
  | 4 => .int
  | 5 => .boolean
  | 6 => .int
  | 7 => .int
  | _ => .int
abbrev wsX00 : List Cond := u_ws RX0 TX0 9
theorem nmX0 : ∀ a, a < 9 → ∀ b, b < 9 → a ≠ b → (TX0 a).2.1 ≠ (TX0 b).2.1 := by decide +kernel
theorem tyX0_ok : ∀ k, k < 9 → parseFieldDescriptor (TX0 k).2.2.1 = some (tyX0 k) := by decide +kernel
abbrev cX0_init : ByteArray := prog_2_method_1_code
def yX0_init : MethodName := ⟨RX0, "<init>", "()V"⟩
abbrev cX0_free : ByteArray := prog_2_method_2_code
def yX0_free : MethodName := ⟨RX0, "free", "()I"⟩
abbrev cX0_gives : ByteArray := prog_2_method_3_code
def yX0_gives : MethodName := ⟨RX0, "gives", "()Z"⟩
abbrev cX0_spare : ByteArray := prog_2_method_4_code
def yX0_spare : MethodName := ⟨RX0, "spare", "(I)I"⟩
abbrev cX0_release : ByteArray := prog_2_method_5_code
def yX0_release : MethodName := ⟨RX0, "release", "()Z"⟩
def RX1 : String := "ChangeGiver$Refill"
def TX1 : u_T := fun k => match k with
  | 0 => ("ChangeGiver$Refill", "added", "[I", true)
  | _ => ("ChangeGiver$Refill", "levels", "[LChangeGiver$Sums;", true)
def tyX1 : Nat → FieldType := fun k => match k with
  | 0 => .array .int
  | _ => .array (.object "ChangeGiver$Sums")
abbrev wsX10 : List Cond := u_ws RX1 TX1 2
theorem nmX1 : ∀ a, a < 2 → ∀ b, b < 2 → a ≠ b → (TX1 a).2.1 ≠ (TX1 b).2.1 := by decide +kernel
theorem tyX1_ok : ∀ k, k < 2 → parseFieldDescriptor (TX1 k).2.2.1 = some (tyX1 k) := by decide +kernel
abbrev cX1_init : ByteArray := prog_3_method_1_code
def yX1_init : MethodName := ⟨RX1, "<init>", "()V"⟩
abbrev cX1_fewest : ByteArray := prog_3_method_2_code
def yX1_fewest : MethodName := ⟨RX1, "fewest", "(LChangeGiver$Till;I)I"⟩
abbrev cX1_putsOut : ByteArray := prog_3_method_3_code
def yX1_putsOut : MethodName := ⟨RX1, "putsOut", "(LChangeGiver$Refill;LChangeGiver$Till;III)Z"⟩
abbrev cX1_isOut : ByteArray := prog_3_method_4_code
def yX1_isOut : MethodName := ⟨RX1, "isOut", "(LChangeGiver$Till;I)Z"⟩
def RX2 : String := "ChangeGiver$Sums"
def TX2 : u_T := fun k => match k with
  | _ => ("ChangeGiver$Sums", "words", "[J", true)
def tyX2 : Nat → FieldType := fun k => match k with
  | _ => .array .long
abbrev wsX20 : List Cond := u_ws RX2 TX2 1
theorem nmX2 : ∀ a, a < 1 → ∀ b, b < 1 → a ≠ b → (TX2 a).2.1 ≠ (TX2 b).2.1 := by decide +kernel
theorem tyX2_ok : ∀ k, k < 1 → parseFieldDescriptor (TX2 k).2.2.1 = some (tyX2 k) := by decide +kernel
abbrev cX2_init : ByteArray := prog_4_method_1_code
def yX2_init : MethodName := ⟨RX2, "<init>", "()V"⟩
abbrev cX2_onlyZero : ByteArray := prog_4_method_2_code
def yX2_onlyZero : MethodName := ⟨RX2, "onlyZero", "()V"⟩
abbrev cX2_copyOf : ByteArray := prog_4_method_3_code
def yX2_copyOf : MethodName := ⟨RX2, "copyOf", "(LChangeGiver$Sums;)V"⟩
abbrev cX2_addCoins : ByteArray := prog_4_method_4_code
def yX2_addCoins : MethodName := ⟨RX2, "addCoins", "(II)V"⟩
abbrev cX2_addShifted : ByteArray := prog_4_method_5_code
def yX2_addShifted : MethodName := ⟨RX2, "addShifted", "(I)V"⟩
abbrev cX2_has : ByteArray := prog_4_method_6_code
def yX2_has : MethodName := ⟨RX2, "has", "(I)Z"⟩
abbrev cX2_hasWith : ByteArray := prog_4_method_7_code
def yX2_hasWith : MethodName := ⟨RX2, "hasWith", "(II)Z"⟩
abbrev cX2_howMany : ByteArray := prog_4_method_8_code
def yX2_howMany : MethodName := ⟨RX2, "howMany", "(I)I"⟩
def RX3 : String := "ChangeGiver$Till"
def TX3 : u_T := fun k => match k with
  | 0 => ("ChangeGiver$Till", "kinds", "[LChangeGiver$Kind;", true)
  | 1 => ("ChangeGiver$Till", "byValue", "[LChangeGiver$Kind;", true)
  | 2 => ("ChangeGiver$Till", "prices", "[I", true)
  | _ => ("ChangeGiver$Till", "size", "I", false)
def tyX3 : Nat → FieldType := fun k => match k with
  | 0 => .array (.object "ChangeGiver$Kind")
  | 1 => .array (.object "ChangeGiver$Kind")
  | 2 => .array .int
  | _ => .int
abbrev wsX30 : List Cond := u_ws RX3 TX3 4
theorem nmX3 : ∀ a, a < 4 → ∀ b, b < 4 → a ≠ b → (TX3 a).2.1 ≠ (TX3 b).2.1 := by decide +kernel
theorem tyX3_ok : ∀ k, k < 4 → parseFieldDescriptor (TX3 k).2.2.1 = some (tyX3 k) := by decide +kernel
abbrev cX3_init : ByteArray := prog_5_method_1_code
def yX3_init : MethodName := ⟨RX3, "<init>", "()V"⟩
abbrev cX3_find : ByteArray := prog_5_method_2_code
def yX3_find : MethodName := ⟨RX3, "find", "(I)LChangeGiver$Kind;"⟩
abbrev cX3_findCoin : ByteArray := prog_5_method_3_code
def yX3_findCoin : MethodName := ⟨RX3, "findCoin", "(I)LChangeGiver$Kind;"⟩
abbrev cX3_add : ByteArray := prog_5_method_4_code
def yX3_add : MethodName := ⟨RX3, "add", "(IIZ)I"⟩
abbrev cX3_hasValue : ByteArray := prog_5_method_5_code
def yX3_hasValue : MethodName := ⟨RX3, "hasValue", "(I)Z"⟩
abbrev cX3_fewestInTube : ByteArray := prog_5_method_6_code
def yX3_fewestInTube : MethodName := ⟨RX3, "fewestInTube", "()I"⟩
abbrev cX3_collect : ByteArray := prog_5_method_7_code
def yX3_collect : MethodName := ⟨RX3, "collect", "(LChangeGiver$Sums;I)V"⟩
abbrev cX3_collectOneOfEach : ByteArray := prog_5_method_8_code
def yX3_collectOneOfEach : MethodName := ⟨RX3, "collectOneOfEach", "(LChangeGiver$Sums;)V"⟩
abbrev cX3_mayTake : ByteArray := prog_5_method_9_code
def yX3_mayTake : MethodName := ⟨RX3, "mayTake", "(LChangeGiver$Kind;ZLChangeGiver$Sums;II)Z"⟩
abbrev cX3_coinsInWay : ByteArray := prog_5_method_10_code
def yX3_coinsInWay : MethodName := ⟨RX3, "coinsInWay", "()I"⟩
abbrev cX3_coinsGiven : ByteArray := prog_5_method_11_code
def yX3_coinsGiven : MethodName := ⟨RX3, "coinsGiven", "()I"⟩
abbrev cX3_forgetGiven : ByteArray := prog_5_method_12_code
def yX3_forgetGiven : MethodName := ⟨RX3, "forgetGiven", "()V"⟩
abbrev cX3_tubesValue : ByteArray := prog_5_method_13_code
def yX3_tubesValue : MethodName := ⟨RX3, "tubesValue", "()I"⟩
abbrev cX3_boxValue : ByteArray := prog_5_method_14_code
def yX3_boxValue : MethodName := ⟨RX3, "boxValue", "()I"⟩
abbrev cX3_clearBox : ByteArray := prog_5_method_15_code
def yX3_clearBox : MethodName := ⟨RX3, "clearBox", "()V"⟩
def RX4 : String := "ChangeGiver$Ways"
def TX4 : u_T := fun k => match k with
  | _ => ("ChangeGiver$Ways", "fewest", "[[I", true)
def tyX4 : Nat → FieldType := fun k => match k with
  | _ => .array (.array .int)
abbrev wsX40 : List Cond := u_ws RX4 TX4 1
theorem nmX4 : ∀ a, a < 1 → ∀ b, b < 1 → a ≠ b → (TX4 a).2.1 ≠ (TX4 b).2.1 := by decide +kernel
theorem tyX4_ok : ∀ k, k < 1 → parseFieldDescriptor (TX4 k).2.2.1 = some (tyX4 k) := by decide +kernel
abbrev cX4_init : ByteArray := prog_6_method_1_code
def yX4_init : MethodName := ⟨RX4, "<init>", "()V"⟩
abbrev cX4_choose : ByteArray := prog_6_method_2_code
def yX4_choose : MethodName := ⟨RX4, "choose", "(LChangeGiver$Till;II)Z"⟩
abbrev cX4_addCoins : ByteArray := prog_6_method_3_code
def yX4_addCoins : MethodName := ⟨RX4, "addCoins", "([IIII)V"⟩
abbrev cX4_addPart : ByteArray := prog_6_method_4_code
def yX4_addPart : MethodName := ⟨RX4, "addPart", "([IIII)V"⟩
abbrev cX4_mostOfFewest : ByteArray := prog_6_method_5_code
def yX4_mostOfFewest : MethodName := ⟨RX4, "mostOfFewest", "([IIII)I"⟩
def RX5 : String := "ChangeGiver"
def TX5 : u_T := fun k => match k with
  | 0 => ("ChangeGiver", "till", "LChangeGiver$Till;", true)
  | 1 => ("ChangeGiver", "sums", "LChangeGiver$Sums;", true)
  | 2 => ("ChangeGiver", "ways", "LChangeGiver$Ways;", true)
  | 3 => ("ChangeGiver", "refill", "LChangeGiver$Refill;", true)
  | 4 => ("ChangeGiver", "books", "[I", true)
  | 5 => ("ChangeGiver", "wayMode", "I", false)
  | 6 => ("ChangeGiver", "credit", "I", false)
  | 7 => ("ChangeGiver", "owed", "I", false)
  | _ => ("ChangeGiver", "held", "I", false)
def tyX5 : Nat → FieldType := fun k => match k with
  | 0 => .object "ChangeGiver$Till"
  | 1 => .object "ChangeGiver$Sums"
  | 2 => .object "ChangeGiver$Ways"
  | 3 => .object "ChangeGiver$Refill"
  | 4 => .array .int
  | 5 => .int
  | 6 => .int
  | 7 => .int
  | _ => .int
abbrev wsX50 : List Cond := u_ws RX5 TX5 9
theorem nmX5 : ∀ a, a < 9 → ∀ b, b < 9 → a ≠ b → (TX5 a).2.1 ≠ (TX5 b).2.1 := by decide +kernel
theorem tyX5_ok : ∀ k, k < 9 → parseFieldDescriptor (TX5 k).2.2.1 = some (tyX5 k) := by decide +kernel
abbrev cX5_init : ByteArray := prog_1_method_1_code
def yX5_init : MethodName := ⟨RX5, "<init>", "()V"⟩
abbrev cX5_coin : ByteArray := prog_1_method_2_code
def yX5_coin : MethodName := ⟨RX5, "coin", "(II)I"⟩
abbrev cX5_note : ByteArray := prog_1_method_3_code
def yX5_note : MethodName := ⟨RX5, "note", "(I)I"⟩
abbrev cX5_price : ByteArray := prog_1_method_4_code
def yX5_price : MethodName := ⟨RX5, "price", "(II)Z"⟩
abbrev cX5_mode : ByteArray := prog_1_method_5_code
def yX5_mode : MethodName := ⟨RX5, "mode", "(I)Z"⟩
abbrev cX5_fill : ByteArray := prog_1_method_6_code
def yX5_fill : MethodName := ⟨RX5, "fill", "(II)Z"⟩
abbrev cX5_stuck : ByteArray := prog_1_method_7_code
def yX5_stuck : MethodName := ⟨RX5, "stuck", "(IZ)Z"⟩
abbrev cX5_jam : ByteArray := prog_1_method_8_code
def yX5_jam : MethodName := ⟨RX5, "jam", "(II)Z"⟩
abbrev cX5_put : ByteArray := prog_1_method_9_code
def yX5_put : MethodName := ⟨RX5, "put", "(I)I"⟩
abbrev cX5_takes : ByteArray := prog_1_method_10_code
def yX5_takes : MethodName := ⟨RX5, "takes", "(I)I"⟩
abbrev cX5_buy : ByteArray := prog_1_method_11_code
def yX5_buy : MethodName := ⟨RX5, "buy", "(I)I"⟩
abbrev cX5_refund : ByteArray := prog_1_method_12_code
def yX5_refund : MethodName := ⟨RX5, "refund", "()I"⟩
abbrev cX5_pay : ByteArray := prog_1_method_13_code
def yX5_pay : MethodName := ⟨RX5, "pay", "()I"⟩
abbrev cX5_gave : ByteArray := prog_1_method_14_code
def yX5_gave : MethodName := ⟨RX5, "gave", "(I)I"⟩
abbrev cX5_way : ByteArray := prog_1_method_15_code
def yX5_way : MethodName := ⟨RX5, "way", "(II)I"⟩
abbrev cX5_coins : ByteArray := prog_1_method_16_code
def yX5_coins : MethodName := ⟨RX5, "coins", "(I)I"⟩
abbrev cX5_givable : ByteArray := prog_1_method_17_code
def yX5_givable : MethodName := ⟨RX5, "givable", "(I)I"⟩
abbrev cX5_light : ByteArray := prog_1_method_18_code
def yX5_light : MethodName := ⟨RX5, "light", "()Z"⟩
abbrev cX5_need : ByteArray := prog_1_method_19_code
def yX5_need : MethodName := ⟨RX5, "need", "(I)I"⟩
abbrev cX5_look : ByteArray := prog_1_method_20_code
def yX5_look : MethodName := ⟨RX5, "look", "(I)I"⟩
abbrev cX5_kind : ByteArray := prog_1_method_21_code
def yX5_kind : MethodName := ⟨RX5, "kind", "(II)I"⟩
abbrev cX5_priced : ByteArray := prog_1_method_22_code
def yX5_priced : MethodName := ⟨RX5, "priced", "(I)I"⟩
abbrev cX5_empty : ByteArray := prog_1_method_23_code
def yX5_empty : MethodName := ⟨RX5, "empty", "()I"⟩
abbrev cX5_drain : ByteArray := prog_1_method_24_code
def yX5_drain : MethodName := ⟨RX5, "drain", "(II)Z"⟩
abbrev cX5_count : ByteArray := prog_1_method_25_code
def yX5_count : MethodName := ⟨RX5, "count", "(II)I"⟩
abbrev cX5_addKind : ByteArray := prog_1_method_26_code
def yX5_addKind : MethodName := ⟨RX5, "addKind", "(IIZ)I"⟩
abbrev cX5_heldValue : ByteArray := prog_1_method_27_code
def yX5_heldValue : MethodName := ⟨RX5, "heldValue", "()I"⟩
abbrev cX5_canTake : ByteArray := prog_1_method_28_code
def yX5_canTake : MethodName := ⟨RX5, "canTake", "(LChangeGiver$Kind;)Z"⟩
abbrev cX5_plan : ByteArray := prog_1_method_29_code
def yX5_plan : MethodName := ⟨RX5, "plan", "(I)Z"⟩
abbrev cX5_endCredit : ByteArray := prog_1_method_30_code
def yX5_endCredit : MethodName := ⟨RX5, "endCredit", "()V"⟩
abbrev cX5_giveOut : ByteArray := prog_1_method_31_code
def yX5_giveOut : MethodName := ⟨RX5, "giveOut", "(I)I"⟩
abbrev cX5_giveByWay : ByteArray := prog_1_method_32_code
def yX5_giveByWay : MethodName := ⟨RX5, "giveByWay", "(I)I"⟩
def RX6 : String := "ChangeGiverModel"
def TX6 : u_T := fun k => match k with
  | 0 => ("ChangeGiverModel", "told", "I", false)
  | 1 => ("ChangeGiverModel", "kinds", "I", false)
  | 2 => ("ChangeGiverModel", "value", "[I", true)
  | 3 => ("ChangeGiverModel", "isNote", "[Z", true)
  | 4 => ("ChangeGiverModel", "room", "[I", true)
  | 5 => ("ChangeGiverModel", "tube", "[I", true)
  | 6 => ("ChangeGiverModel", "box", "[I", true)
  | 7 => ("ChangeGiverModel", "isStuck", "[Z", true)
  | 8 => ("ChangeGiverModel", "jam", "[I", true)
  | 9 => ("ChangeGiverModel", "price", "[I", true)
  | 10 => ("ChangeGiverModel", "credit", "I", false)
  | 11 => ("ChangeGiverModel", "owed", "I", false)
  | 12 => ("ChangeGiverModel", "held", "I", false)
  | 13 => ("ChangeGiverModel", "mode", "I", false)
  | 14 => ("ChangeGiverModel", "book", "[I", true)
  | 15 => ("ChangeGiverModel", "can", "[Z", true)
  | 16 => ("ChangeGiverModel", "free", "[I", true)
  | 17 => ("ChangeGiverModel", "ranks", "I", false)
  | 18 => ("ChangeGiverModel", "ranked", "[I", true)
  | 19 => ("ChangeGiverModel", "fewest", "[I", true)
  | 20 => ("ChangeGiverModel", "use", "[I", true)
  | 21 => ("ChangeGiverModel", "given", "[I", true)
  | _ => ("ChangeGiverModel", "adds", "[I", true)
def tyX6 : Nat → FieldType := fun k => match k with
  | 0 => .int
  | 1 => .int
  | 2 => .array .int
  | 3 => .array .boolean
  | 4 => .array .int
  | 5 => .array .int
  | 6 => .array .int
  | 7 => .array .boolean
  | 8 => .array .int
  | 9 => .array .int
  | 10 => .int
  | 11 => .int
  | 12 => .int
  | 13 => .int
  | 14 => .array .int
  | 15 => .array .boolean
  | 16 => .array .int
  | 17 => .int
  | 18 => .array .int
  | 19 => .array .int
  | 20 => .array .int
  | 21 => .array .int
  | _ => .array .int
abbrev wsX60 : List Cond := u_ws RX6 TX6 23
theorem nmX6 : ∀ a, a < 23 → ∀ b, b < 23 → a ≠ b → (TX6 a).2.1 ≠ (TX6 b).2.1 := by decide +kernel
theorem tyX6_ok : ∀ k, k < 23 → parseFieldDescriptor (TX6 k).2.2.1 = some (tyX6 k) := by decide +kernel
abbrev cX6_init : ByteArray := prog_8_method_1_code
def yX6_init : MethodName := ⟨RX6, "<init>", "()V"⟩
abbrev cX6_isKind : ByteArray := prog_8_method_3_code
def yX6_isKind : MethodName := ⟨RX6, "isKind", "(I)Z"⟩
abbrev cX6_isCoin : ByteArray := prog_8_method_4_code
def yX6_isCoin : MethodName := ⟨RX6, "isCoin", "(I)Z"⟩
abbrev cX6_canCome : ByteArray := prog_8_method_5_code
def yX6_canCome : MethodName := ⟨RX6, "canCome", "(I)Z"⟩
abbrev cX6_coin : ByteArray := prog_8_method_6_code
def yX6_coin : MethodName := ⟨RX6, "coin", "(II)I"⟩
abbrev cX6_note : ByteArray := prog_8_method_7_code
def yX6_note : MethodName := ⟨RX6, "note", "(I)I"⟩
abbrev cX6_price : ByteArray := prog_8_method_8_code
def yX6_price : MethodName := ⟨RX6, "price", "(II)Z"⟩
abbrev cX6_mode : ByteArray := prog_8_method_9_code
def yX6_mode : MethodName := ⟨RX6, "mode", "(I)Z"⟩
abbrev cX6_fill : ByteArray := prog_8_method_10_code
def yX6_fill : MethodName := ⟨RX6, "fill", "(II)Z"⟩
abbrev cX6_stuck : ByteArray := prog_8_method_11_code
def yX6_stuck : MethodName := ⟨RX6, "stuck", "(IZ)Z"⟩
abbrev cX6_jam : ByteArray := prog_8_method_12_code
def yX6_jam : MethodName := ⟨RX6, "jam", "(II)Z"⟩
abbrev cX6_findSums : ByteArray := prog_8_method_13_code
def yX6_findSums : MethodName := ⟨RX6, "findSums", "()V"⟩
abbrev cX6_rank : ByteArray := prog_8_method_14_code
def yX6_rank : MethodName := ⟨RX6, "rank", "()V"⟩
abbrev cX6_mayUse : ByteArray := prog_8_method_15_code
def yX6_mayUse : MethodName := ⟨RX6, "mayUse", "(II)I"⟩
abbrev cX6_isWay : ByteArray := prog_8_method_16_code
def yX6_isWay : MethodName := ⟨RX6, "isWay", "(II)Z"⟩
abbrev cX6_findWay : ByteArray := prog_8_method_17_code
def yX6_findWay : MethodName := ⟨RX6, "findWay", "(I)Z"⟩
abbrev cX6_way : ByteArray := prog_8_method_18_code
def yX6_way : MethodName := ⟨RX6, "way", "(II)I"⟩
abbrev cX6_coins : ByteArray := prog_8_method_19_code
def yX6_coins : MethodName := ⟨RX6, "coins", "(I)I"⟩
abbrev cX6_givable : ByteArray := prog_8_method_20_code
def yX6_givable : MethodName := ⟨RX6, "givable", "(I)I"⟩
abbrev cX6_wouldTake : ByteArray := prog_8_method_21_code
def yX6_wouldTake : MethodName := ⟨RX6, "wouldTake", "(III)Z"⟩
abbrev cX6_heldValue : ByteArray := prog_8_method_22_code
def yX6_heldValue : MethodName := ⟨RX6, "heldValue", "()I"⟩
abbrev cX6_takes : ByteArray := prog_8_method_23_code
def yX6_takes : MethodName := ⟨RX6, "takes", "(I)I"⟩
abbrev cX6_put : ByteArray := prog_8_method_24_code
def yX6_put : MethodName := ⟨RX6, "put", "(I)I"⟩
abbrev cX6_nextUsed : ByteArray := prog_8_method_25_code
def yX6_nextUsed : MethodName := ⟨RX6, "nextUsed", "()I"⟩
abbrev cX6_gives : ByteArray := prog_8_method_26_code
def yX6_gives : MethodName := ⟨RX6, "gives", "(I)I"⟩
abbrev cX6_buy : ByteArray := prog_8_method_27_code
def yX6_buy : MethodName := ⟨RX6, "buy", "(I)I"⟩
abbrev cX6_refund : ByteArray := prog_8_method_28_code
def yX6_refund : MethodName := ⟨RX6, "refund", "()I"⟩
abbrev cX6_pay : ByteArray := prog_8_method_29_code
def yX6_pay : MethodName := ⟨RX6, "pay", "()I"⟩
abbrev cX6_gave : ByteArray := prog_8_method_30_code
def yX6_gave : MethodName := ⟨RX6, "gave", "(I)I"⟩
abbrev cX6_isLit : ByteArray := prog_8_method_31_code
def yX6_isLit : MethodName := ⟨RX6, "isLit", "()Z"⟩
abbrev cX6_light : ByteArray := prog_8_method_32_code
def yX6_light : MethodName := ⟨RX6, "light", "()Z"⟩
abbrev cX6_goesOn : ByteArray := prog_8_method_33_code
def yX6_goesOn : MethodName := ⟨RX6, "goesOn", "()Z"⟩
abbrev cX6_canAdd : ByteArray := prog_8_method_34_code
def yX6_canAdd : MethodName := ⟨RX6, "canAdd", "()Z"⟩
abbrev cX6_isOutBy : ByteArray := prog_8_method_35_code
def yX6_isOutBy : MethodName := ⟨RX6, "isOutBy", "(I)Z"⟩
abbrev cX6_need : ByteArray := prog_8_method_36_code
def yX6_need : MethodName := ⟨RX6, "need", "(I)I"⟩
abbrev cX6_boxed : ByteArray := prog_8_method_37_code
def yX6_boxed : MethodName := ⟨RX6, "boxed", "()I"⟩
abbrev cX6_look : ByteArray := prog_8_method_38_code
def yX6_look : MethodName := ⟨RX6, "look", "(I)I"⟩
abbrev cX6_kind : ByteArray := prog_8_method_39_code
def yX6_kind : MethodName := ⟨RX6, "kind", "(II)I"⟩
abbrev cX6_priced : ByteArray := prog_8_method_40_code
def yX6_priced : MethodName := ⟨RX6, "priced", "(I)I"⟩
abbrev cX6_empty : ByteArray := prog_8_method_41_code
def yX6_empty : MethodName := ⟨RX6, "empty", "()I"⟩
abbrev cX6_drain : ByteArray := prog_8_method_42_code
def yX6_drain : MethodName := ⟨RX6, "drain", "(II)Z"⟩
abbrev cX6_count : ByteArray := prog_8_method_43_code
def yX6_count : MethodName := ⟨RX6, "count", "(II)I"⟩
def RJ7 : String := "java/util/Arrays"
abbrev cJ7_fill_d0a16 : ByteArray := prog_11_method_101_code
def yJ7_fill_d0a16 : MethodName := ⟨RJ7, "fill", "([JJ)V"⟩
abbrev cJ7_fill_53178 : ByteArray := prog_11_method_103_code
def yJ7_fill_53178 : MethodName := ⟨RJ7, "fill", "([II)V"⟩
end
section
/-! the judgement: from every heap that holds the world ws and every array of locals that holds lv, the machine at pc with the stack st comes to its end -/
def gt : List Cond := lw_tbl.filter goodWord
theorem gt_in {w : Cond} (h : w ∈ lw_tbl) (g : goodWord w = true) : w ∈ gt := List.mem_filter.mpr ⟨h, g⟩
theorem gt_goodIn {ws : List Cond} (h : ∀ w ∈ ws, w ∈ gt) : GoodIn gt ws := fun w hw => ⟨h w hw, good_of_word (List.mem_filter.mp (h w hw)).2⟩
theorem gt_sub {w : Cond} (h : w ∈ gt) : w ∈ lw_tbl := (List.mem_filter.mp h).1
abbrev jclasses : List vw_C := [(RX0, TX0, 9), (RX1, TX1, 2), (RX2, TX2, 1), (RX3, TX3, 4), (RX4, TX4, 1), (RX5, TX5, 9), (RX6, TX6, 23)]
/-- the array classes: int, long, boolean, Kind, Sums, int[] -/
abbrev jtys (q : Nat → ClassId) : List (ClassId × FieldType) := [(q 0, .int), (q 1, .long), (q 2, .boolean), (q 3, .object RX0), (q 4, .object RX2), (q 5, .array .int)]
abbrev GT : Type := Program × Launch × Env × Room × State × MethodId × Array Value × List Frame × Method × Code × va_G × (Nat → Prop) × (State → Prop)
def jw (Γ : GT) (nL kc ks : Nat) (ws : va_W) (lv : List (Nat × Value)) (st : List Value) (pc : Nat) : Prop :=
  match Γ with
  | (p, l, e, R, s, m, args, below, meth, c, D, A, Q) => ∀ (H : Heap) (locs : List Loc) (ls : Array Slot), va_P D jclasses ws H → va_D A ws → va_S A s.heap H locs → lv_has ls nL lv → W p l e R s m args below meth c H locs kc ks Q (F0 m pc ls st)
def gd (Γ : GT) (cc : ByteArray) (own : String) (nL : Nat) (rm : Room) (q : Nat → ClassId) : Prop :=
  match Γ with
  | (p, _, _, R, s, m, args, _, _, c, D, A, _) => p.tables.exec = Jvm.exec ∧ c.code = cc ∧ c.maxLocals = nL ∧ s.vm.findClass own = some m.cls ∧ (∀ w ∈ gt, w.before args s = true) ∧ va_K D jclasses (jtys q) s ∧ (∀ z, s.heap.size ≤ z → A z) ∧ R = rm
/-- the room of a method that makes nothing -/
abbrev rmz (fr lo : Nat) : Room := { frames := fr, cells := 0, slots := 0, locals := lo }
section JW
variable {Γ : GT} {cc : ByteArray} {own : String} {nL kc ks : Nat} {rm : Room} {q : Nat → ClassId} {ws : va_W} {lv : List (Nat × Value)} {st : List Value} {pc : Nat}

theorem j_iconst (g : gd Γ cc own nL rm q) {n : Int} {v : Int32} (hv : Int32.ofInt n = v) (hd : decode cc pc = .ok (.iconst n, 1)) (k : jw Γ nL kc ks ws lv (.int v :: st) (pc + 1)) : jw Γ nL kc ks ws lv st pc := by
  obtain ⟨p, l, e, R, s, m, args, below, meth, c, D, A, Q⟩ := Γ
  obtain ⟨hx, hb, hml, hown, hts, hK, hA, hR⟩ := g
  intro H locs ls hP hD hS hl
  exact lv_iconst hx hb hd hv (k H locs ls hP hD hS hl)

theorem j_bipush (g : gd Γ cc own nL rm q) {n : Int} {v : Int32} (hv : (Int8.ofInt n).toInt32 = v) (hd : decode cc pc = .ok (.bipush n, 2)) (k : jw Γ nL kc ks ws lv (.int v :: st) (pc + 2)) : jw Γ nL kc ks ws lv st pc := by
  obtain ⟨p, l, e, R, s, m, args, below, meth, c, D, A, Q⟩ := Γ
  obtain ⟨hx, hb, hml, hown, hts, hK, hA, hR⟩ := g
  intro H locs ls hP hD hS hl
  exact lv_bipush hx hb hd hv (k H locs ls hP hD hS hl)

theorem j_sipush (g : gd Γ cc own nL rm q) {n : Int} {v : Int32} (hv : (Int16.ofInt n).toInt32 = v) (hd : decode cc pc = .ok (.sipush n, 3)) (k : jw Γ nL kc ks ws lv (.int v :: st) (pc + 3)) : jw Γ nL kc ks ws lv st pc := by
  obtain ⟨p, l, e, R, s, m, args, below, meth, c, D, A, Q⟩ := Γ
  obtain ⟨hx, hb, hml, hown, hts, hK, hA, hR⟩ := g
  intro H locs ls hP hD hS hl
  exact lv_sipush hx hb hd hv (k H locs ls hP hD hS hl)

theorem j_lconst (g : gd Γ cc own nL rm q) {n : Fin 2} {v : Int64} (hv : Int64.ofInt (n : Nat) = v) (hd : decode cc pc = .ok (.lconst n, 1)) (k : jw Γ nL kc ks ws lv (.long v :: st) (pc + 1)) : jw Γ nL kc ks ws lv st pc := by
  obtain ⟨p, l, e, R, s, m, args, below, meth, c, D, A, Q⟩ := Γ
  obtain ⟨hx, hb, hml, hown, hts, hK, hA, hR⟩ := g
  intro H locs ls hP hD hS hl
  exact lv_lconst hx hb hd hv (k H locs ls hP hD hS hl)

theorem j_null (g : gd Γ cc own nL rm q)  (hd : decode cc pc = .ok (.aconst_null, 1)) (k : jw Γ nL kc ks ws lv (.null :: st) (pc + 1)) : jw Γ nL kc ks ws lv st pc := by
  obtain ⟨p, l, e, R, s, m, args, below, meth, c, D, A, Q⟩ := Γ
  obtain ⟨hx, hb, hml, hown, hts, hK, hA, hR⟩ := g
  intro H locs ls hP hD hS hl
  exact lv_null hx hb hd (k H locs ls hP hD hS hl)

theorem j_ldc (g : gd Γ cc own nL rm q) {index : Nat} {v : Int32} (hc : Cond.constant own index v ∈ gt) (hd : decode cc pc = .ok (.ldc index, 2)) (k : jw Γ nL kc ks ws lv (.int v :: st) (pc + 2)) : jw Γ nL kc ks ws lv st pc := by
  obtain ⟨p, l, e, R, s, m, args, below, meth, c, D, A, Q⟩ := Γ
  obtain ⟨hx, hb, hml, hown, hts, hK, hA, hR⟩ := g
  intro H locs ls hP hD hS hl
  exact lv_ldc hx hb hown (hts _ hc) hd (k H locs ls hP hD hS hl)

theorem j_iload_n (g : gd Γ cc own nL rm q) {i : Fin 4} {x : Int32} (z : Nat) (hz : lv[z]? = some ((i : Nat), .int x)) (hd : decode cc pc = .ok (.iload_n i, 1)) (k : jw Γ nL kc ks ws lv (.int x :: st) (pc + 1)) : jw Γ nL kc ks ws lv st pc := by
  obtain ⟨p, l, e, R, s, m, args, below, meth, c, D, A, Q⟩ := Γ
  obtain ⟨hx, hb, hml, hown, hts, hK, hA, hR⟩ := g
  intro H locs ls hP hD hS hl
  exact lv_iload_n hx hb hd rfl (lv_at hl z hz) (k H locs ls hP hD hS hl)

theorem j_iload (g : gd Γ cc own nL rm q) {i : Nat} {x : Int32} (z : Nat) (hz : lv[z]? = some (i, .int x)) (hd : decode cc pc = .ok (.iload i, 2)) (k : jw Γ nL kc ks ws lv (.int x :: st) (pc + 2)) : jw Γ nL kc ks ws lv st pc := by
  obtain ⟨p, l, e, R, s, m, args, below, meth, c, D, A, Q⟩ := Γ
  obtain ⟨hx, hb, hml, hown, hts, hK, hA, hR⟩ := g
  intro H locs ls hP hD hS hl
  exact lv_iload hx hb hd (lv_at hl z hz) (k H locs ls hP hD hS hl)

theorem j_lload_n (g : gd Γ cc own nL rm q) {i : Fin 4} {x : Int64} (z : Nat) (hz : lv[z]? = some ((i : Nat), .long x)) (hd : decode cc pc = .ok (.lload_n i, 1)) (k : jw Γ nL kc ks ws lv (.long x :: st) (pc + 1)) : jw Γ nL kc ks ws lv st pc := by
  obtain ⟨p, l, e, R, s, m, args, below, meth, c, D, A, Q⟩ := Γ
  obtain ⟨hx, hb, hml, hown, hts, hK, hA, hR⟩ := g
  intro H locs ls hP hD hS hl
  exact lv_lload_n hx hb hd rfl (lv_at hl z hz) (k H locs ls hP hD hS hl)

theorem j_lload (g : gd Γ cc own nL rm q) {i : Nat} {x : Int64} (z : Nat) (hz : lv[z]? = some (i, .long x)) (hd : decode cc pc = .ok (.lload i, 2)) (k : jw Γ nL kc ks ws lv (.long x :: st) (pc + 2)) : jw Γ nL kc ks ws lv st pc := by
  obtain ⟨p, l, e, R, s, m, args, below, meth, c, D, A, Q⟩ := Γ
  obtain ⟨hx, hb, hml, hown, hts, hK, hA, hR⟩ := g
  intro H locs ls hP hD hS hl
  exact lv_lload hx hb hd (lv_at hl z hz) (k H locs ls hP hD hS hl)

theorem j_aload_n (g : gd Γ cc own nL rm q) {i : Fin 4} {x : Nat} (z : Nat) (hz : lv[z]? = some ((i : Nat), .ref x)) (hd : decode cc pc = .ok (.aload_n i, 1)) (k : jw Γ nL kc ks ws lv (.ref x :: st) (pc + 1)) : jw Γ nL kc ks ws lv st pc := by
  obtain ⟨p, l, e, R, s, m, args, below, meth, c, D, A, Q⟩ := Γ
  obtain ⟨hx, hb, hml, hown, hts, hK, hA, hR⟩ := g
  intro H locs ls hP hD hS hl
  exact lv_aload_n hx hb hd rfl (lv_at hl z hz) (k H locs ls hP hD hS hl)

theorem j_aload (g : gd Γ cc own nL rm q) {i : Nat} {x : Nat} (z : Nat) (hz : lv[z]? = some (i, .ref x)) (hd : decode cc pc = .ok (.aload i, 2)) (k : jw Γ nL kc ks ws lv (.ref x :: st) (pc + 2)) : jw Γ nL kc ks ws lv st pc := by
  obtain ⟨p, l, e, R, s, m, args, below, meth, c, D, A, Q⟩ := Γ
  obtain ⟨hx, hb, hml, hown, hts, hK, hA, hR⟩ := g
  intro H locs ls hP hD hS hl
  exact lv_aload hx hb hd (lv_at hl z hz) (k H locs ls hP hD hS hl)

theorem j_aload_nN (g : gd Γ cc own nL rm q) {i : Fin 4} (z : Nat) (hz : lv[z]? = some ((i : Nat), .null)) (hd : decode cc pc = .ok (.aload_n i, 1)) (k : jw Γ nL kc ks ws lv (.null :: st) (pc + 1)) : jw Γ nL kc ks ws lv st pc := by
  obtain ⟨p, l, e, R, s, m, args, below, meth, c, D, A, Q⟩ := Γ
  obtain ⟨hx, hb, hml, hown, hts, hK, hA, hR⟩ := g
  intro H locs ls hP hD hS hl
  exact lv_aload_nN hx hb hd rfl (lv_at hl z hz) (k H locs ls hP hD hS hl)

theorem j_aloadN (g : gd Γ cc own nL rm q) {i : Nat} (z : Nat) (hz : lv[z]? = some (i, .null)) (hd : decode cc pc = .ok (.aload i, 2)) (k : jw Γ nL kc ks ws lv (.null :: st) (pc + 2)) : jw Γ nL kc ks ws lv st pc := by
  obtain ⟨p, l, e, R, s, m, args, below, meth, c, D, A, Q⟩ := Γ
  obtain ⟨hx, hb, hml, hown, hts, hK, hA, hR⟩ := g
  intro H locs ls hP hD hS hl
  exact lv_aloadN hx hb hd (lv_at hl z hz) (k H locs ls hP hD hS hl)

theorem j_istore_n (g : gd Γ cc own nL rm q) {i : Fin 4} {x : Int32} {lv' : List (Nat × Value)} (hn : (i : Nat) < nL) (hv : ((i : Nat), Value.int x) :: lv.filter (fun q => !(q.1 == (i : Nat)) && !(q.1 + 1 == (i : Nat) && q.2.category == 2)) = lv') (hd : decode cc pc = .ok (.istore_n i, 1)) (k : jw Γ nL kc ks ws lv' st (pc + 1)) : jw Γ nL kc ks ws lv (.int x :: st) pc := by
  obtain ⟨p, l, e, R, s, m, args, below, meth, c, D, A, Q⟩ := Γ
  obtain ⟨hx, hb, hml, hown, hts, hK, hA, hR⟩ := g
  intro H locs ls hP hD hS hl
  exact lv_istore_n hx hb hd rfl hl hn hv (fun ls hl => k H locs ls hP hD hS hl)

theorem j_istore (g : gd Γ cc own nL rm q) {i : Nat} {x : Int32} {lv' : List (Nat × Value)} (hn : i < nL) (hv : (i, Value.int x) :: lv.filter (fun q => !(q.1 == i) && !(q.1 + 1 == i && q.2.category == 2)) = lv') (hd : decode cc pc = .ok (.istore i, 2)) (k : jw Γ nL kc ks ws lv' st (pc + 2)) : jw Γ nL kc ks ws lv (.int x :: st) pc := by
  obtain ⟨p, l, e, R, s, m, args, below, meth, c, D, A, Q⟩ := Γ
  obtain ⟨hx, hb, hml, hown, hts, hK, hA, hR⟩ := g
  intro H locs ls hP hD hS hl
  exact lv_istore hx hb hd hl hn hv (fun ls hl => k H locs ls hP hD hS hl)

theorem j_astore_n (g : gd Γ cc own nL rm q) {i : Fin 4} {x : Nat} {lv' : List (Nat × Value)} (hn : (i : Nat) < nL) (hv : ((i : Nat), Value.ref x) :: lv.filter (fun q => !(q.1 == (i : Nat)) && !(q.1 + 1 == (i : Nat) && q.2.category == 2)) = lv') (hd : decode cc pc = .ok (.astore_n i, 1)) (k : jw Γ nL kc ks ws lv' st (pc + 1)) : jw Γ nL kc ks ws lv (.ref x :: st) pc := by
  obtain ⟨p, l, e, R, s, m, args, below, meth, c, D, A, Q⟩ := Γ
  obtain ⟨hx, hb, hml, hown, hts, hK, hA, hR⟩ := g
  intro H locs ls hP hD hS hl
  exact lv_astore_n hx hb hd rfl hl hn hv (fun ls hl => k H locs ls hP hD hS hl)

theorem j_astore (g : gd Γ cc own nL rm q) {i : Nat} {x : Nat} {lv' : List (Nat × Value)} (hn : i < nL) (hv : (i, Value.ref x) :: lv.filter (fun q => !(q.1 == i) && !(q.1 + 1 == i && q.2.category == 2)) = lv') (hd : decode cc pc = .ok (.astore i, 2)) (k : jw Γ nL kc ks ws lv' st (pc + 2)) : jw Γ nL kc ks ws lv (.ref x :: st) pc := by
  obtain ⟨p, l, e, R, s, m, args, below, meth, c, D, A, Q⟩ := Γ
  obtain ⟨hx, hb, hml, hown, hts, hK, hA, hR⟩ := g
  intro H locs ls hP hD hS hl
  exact lv_astore hx hb hd hl hn hv (fun ls hl => k H locs ls hP hD hS hl)

theorem j_astore_nN (g : gd Γ cc own nL rm q) {i : Fin 4} {lv' : List (Nat × Value)} (hn : (i : Nat) < nL) (hv : ((i : Nat), Value.null) :: lv.filter (fun q => !(q.1 == (i : Nat)) && !(q.1 + 1 == (i : Nat) && q.2.category == 2)) = lv') (hd : decode cc pc = .ok (.astore_n i, 1)) (k : jw Γ nL kc ks ws lv' st (pc + 1)) : jw Γ nL kc ks ws lv (.null :: st) pc := by
  obtain ⟨p, l, e, R, s, m, args, below, meth, c, D, A, Q⟩ := Γ
  obtain ⟨hx, hb, hml, hown, hts, hK, hA, hR⟩ := g
  intro H locs ls hP hD hS hl
  exact lv_astore_nN hx hb hd rfl hl hn hv (fun ls hl => k H locs ls hP hD hS hl)

theorem j_astoreN (g : gd Γ cc own nL rm q) {i : Nat} {lv' : List (Nat × Value)} (hn : i < nL) (hv : (i, Value.null) :: lv.filter (fun q => !(q.1 == i) && !(q.1 + 1 == i && q.2.category == 2)) = lv') (hd : decode cc pc = .ok (.astore i, 2)) (k : jw Γ nL kc ks ws lv' st (pc + 2)) : jw Γ nL kc ks ws lv (.null :: st) pc := by
  obtain ⟨p, l, e, R, s, m, args, below, meth, c, D, A, Q⟩ := Γ
  obtain ⟨hx, hb, hml, hown, hts, hK, hA, hR⟩ := g
  intro H locs ls hP hD hS hl
  exact lv_astoreN hx hb hd hl hn hv (fun ls hl => k H locs ls hP hD hS hl)

theorem j_iinc (g : gd Γ cc own nL rm q) {i : Nat} {n : Int} {x v : Int32} {lv' : List (Nat × Value)} (z : Nat) (hz : lv[z]? = some (i, .int x)) (he : x + Int32.ofInt n = v) (hn : i < nL) (hv : (i, Value.int v) :: lv.filter (fun q => !(q.1 == i) && !(q.1 + 1 == i && q.2.category == 2)) = lv') (hd : decode cc pc = .ok (.iinc i n, 3)) (k : jw Γ nL kc ks ws lv' st (pc + 3)) : jw Γ nL kc ks ws lv st pc := by
  obtain ⟨p, l, e, R, s, m, args, below, meth, c, D, A, Q⟩ := Γ
  obtain ⟨hx, hb, hml, hown, hts, hK, hA, hR⟩ := g
  intro H locs ls hP hD hS hl
  exact lv_iinc hx hb hd hl hz he hn hv (fun ls hl => k H locs ls hP hD hS hl)

theorem j_sub {lv' : List (Nat × Value)} (zs : List Nat) (h : lv_pick lv zs = lv') (k : jw Γ nL kc ks ws lv' st pc) : jw Γ nL kc ks ws lv st pc := by
  obtain ⟨p, l, e, R, s, m, args, below, meth, c, D, A, Q⟩ := Γ
  intro H locs ls hP hD hS hl
  exact k H locs ls hP hD hS (lv_sub hl zs h)
theorem j_ws {ws' : va_W} (h : ws = ws') (k : jw Γ nL kc ks ws' lv st pc) : jw Γ nL kc ks ws lv st pc := h ▸ k
theorem j_st {st' : List Value} (h : st = st') (k : jw Γ nL kc ks ws lv st' pc) : jw Γ nL kc ks ws lv st pc := h ▸ k

theorem j_iadd (g : gd Γ cc own nL rm q) {x y : Int32} (hd : decode cc pc = .ok (.iadd, 1)) (k : jw Γ nL kc ks ws lv (.int (x + y) :: st) (pc + 1)) : jw Γ nL kc ks ws lv (.int y :: .int x :: st) pc := by
  obtain ⟨p, l, e, R, s, m, args, below, meth, c, D, A, Q⟩ := Γ
  obtain ⟨hx, hb, hml, hown, hts, hK, hA, hR⟩ := g
  intro H locs ls hP hD hS hl
  exact lv_iadd hx hb hd (k H locs ls hP hD hS hl)

theorem j_isub (g : gd Γ cc own nL rm q) {x y : Int32} (hd : decode cc pc = .ok (.isub, 1)) (k : jw Γ nL kc ks ws lv (.int (x - y) :: st) (pc + 1)) : jw Γ nL kc ks ws lv (.int y :: .int x :: st) pc := by
  obtain ⟨p, l, e, R, s, m, args, below, meth, c, D, A, Q⟩ := Γ
  obtain ⟨hx, hb, hml, hown, hts, hK, hA, hR⟩ := g
  intro H locs ls hP hD hS hl
  exact lv_isub hx hb hd (k H locs ls hP hD hS hl)

theorem j_imul (g : gd Γ cc own nL rm q) {x y : Int32} (hd : decode cc pc = .ok (.imul, 1)) (k : jw Γ nL kc ks ws lv (.int (x * y) :: st) (pc + 1)) : jw Γ nL kc ks ws lv (.int y :: .int x :: st) pc := by
  obtain ⟨p, l, e, R, s, m, args, below, meth, c, D, A, Q⟩ := Γ
  obtain ⟨hx, hb, hml, hown, hts, hK, hA, hR⟩ := g
  intro H locs ls hP hD hS hl
  exact lv_imul hx hb hd (k H locs ls hP hD hS hl)

theorem j_iand (g : gd Γ cc own nL rm q) {x y : Int32} (hd : decode cc pc = .ok (.iand, 1)) (k : jw Γ nL kc ks ws lv (.int (x &&& y) :: st) (pc + 1)) : jw Γ nL kc ks ws lv (.int y :: .int x :: st) pc := by
  obtain ⟨p, l, e, R, s, m, args, below, meth, c, D, A, Q⟩ := Γ
  obtain ⟨hx, hb, hml, hown, hts, hK, hA, hR⟩ := g
  intro H locs ls hP hD hS hl
  exact lv_iand hx hb hd (k H locs ls hP hD hS hl)

theorem j_idiv (g : gd Γ cc own nL rm q) {x y : Int32} (hy : ¬ y = 0) (hd : decode cc pc = .ok (.idiv, 1)) (k : jw Γ nL kc ks ws lv (.int (x / y) :: st) (pc + 1)) : jw Γ nL kc ks ws lv (.int y :: .int x :: st) pc := by
  obtain ⟨p, l, e, R, s, m, args, below, meth, c, D, A, Q⟩ := Γ
  obtain ⟨hx, hb, hml, hown, hts, hK, hA, hR⟩ := g
  intro H locs ls hP hD hS hl
  exact lv_idiv hx hb hd hy (k H locs ls hP hD hS hl)

theorem j_irem (g : gd Γ cc own nL rm q) {x y : Int32} (hy : ¬ y = 0) (hd : decode cc pc = .ok (.irem, 1)) (k : jw Γ nL kc ks ws lv (.int (x - x / y * y) :: st) (pc + 1)) : jw Γ nL kc ks ws lv (.int y :: .int x :: st) pc := by
  obtain ⟨p, l, e, R, s, m, args, below, meth, c, D, A, Q⟩ := Γ
  obtain ⟨hx, hb, hml, hown, hts, hK, hA, hR⟩ := g
  intro H locs ls hP hD hS hl
  exact lv_irem hx hb hd hy (k H locs ls hP hD hS hl)

theorem j_land (g : gd Γ cc own nL rm q) {x y : Int64} (hd : decode cc pc = .ok (.land, 1)) (k : jw Γ nL kc ks ws lv (.long (x &&& y) :: st) (pc + 1)) : jw Γ nL kc ks ws lv (.long y :: .long x :: st) pc := by
  obtain ⟨p, l, e, R, s, m, args, below, meth, c, D, A, Q⟩ := Γ
  obtain ⟨hx, hb, hml, hown, hts, hK, hA, hR⟩ := g
  intro H locs ls hP hD hS hl
  exact lv_land hx hb hd (k H locs ls hP hD hS hl)

theorem j_lor (g : gd Γ cc own nL rm q) {x y : Int64} (hd : decode cc pc = .ok (.lor, 1)) (k : jw Γ nL kc ks ws lv (.long (x ||| y) :: st) (pc + 1)) : jw Γ nL kc ks ws lv (.long y :: .long x :: st) pc := by
  obtain ⟨p, l, e, R, s, m, args, below, meth, c, D, A, Q⟩ := Γ
  obtain ⟨hx, hb, hml, hown, hts, hK, hA, hR⟩ := g
  intro H locs ls hP hD hS hl
  exact lv_lor hx hb hd (k H locs ls hP hD hS hl)

theorem j_lushr (g : gd Γ cc own nL rm q) {x : Int64} {y : Int32} (hd : decode cc pc = .ok (.lushr, 1)) (k : jw Γ nL kc ks ws lv (.long ((x.toUInt64 >>> (y.toInt64.toUInt64 &&& Int64.toUInt64 63)).toInt64) :: st) (pc + 1)) : jw Γ nL kc ks ws lv (.int y :: .long x :: st) pc := by
  obtain ⟨p, l, e, R, s, m, args, below, meth, c, D, A, Q⟩ := Γ
  obtain ⟨hx, hb, hml, hown, hts, hK, hA, hR⟩ := g
  intro H locs ls hP hD hS hl
  exact lv_lushr hx hb hd rfl (k H locs ls hP hD hS hl)

theorem j_lshl (g : gd Γ cc own nL rm q) {x : Int64} {y : Int32} (hd : decode cc pc = .ok (.lshl, 1)) (k : jw Γ nL kc ks ws lv (.long (x <<< (y.toInt64 &&& 63)) :: st) (pc + 1)) : jw Γ nL kc ks ws lv (.int y :: .long x :: st) pc := by
  obtain ⟨p, l, e, R, s, m, args, below, meth, c, D, A, Q⟩ := Γ
  obtain ⟨hx, hb, hml, hown, hts, hK, hA, hR⟩ := g
  intro H locs ls hP hD hS hl
  exact lv_lshl hx hb hd rfl (k H locs ls hP hD hS hl)

theorem j_dup (g : gd Γ cc own nL rm q) {v : Value} (hv : v.category = 1) (hd : decode cc pc = .ok (.dup, 1)) (k : jw Γ nL kc ks ws lv (v :: v :: st) (pc + 1)) : jw Γ nL kc ks ws lv (v :: st) pc := by
  obtain ⟨p, l, e, R, s, m, args, below, meth, c, D, A, Q⟩ := Γ
  obtain ⟨hx, hb, hml, hown, hts, hK, hA, hR⟩ := g
  intro H locs ls hP hD hS hl
  exact lv_dup hx hb hd hv (k H locs ls hP hD hS hl)

theorem j_dup2 (g : gd Γ cc own nL rm q) {v u : Value} (hv : v.category = 1) (hu : u.category = 1) (hd : decode cc pc = .ok (.dup2, 1)) (k : jw Γ nL kc ks ws lv (v :: u :: v :: u :: st) (pc + 1)) : jw Γ nL kc ks ws lv (v :: u :: st) pc := by
  obtain ⟨p, l, e, R, s, m, args, below, meth, c, D, A, Q⟩ := Γ
  obtain ⟨hx, hb, hml, hown, hts, hK, hA, hR⟩ := g
  intro H locs ls hP hD hS hl
  exact lv_dup2_11 hx hb hd hv hu (k H locs ls hP hD hS hl)

-- CONDS
theorem j_icmp_eq (g : gd Γ cc own nL rm q) {x y : Int32} {off : Int} {tgt : Nat} (hd : decode cc pc = .ok (.if_icmp .eq off, 3)) (ht : (pc : Int) + off = (tgt : Int)) (kt : x = y → jw Γ nL kc ks ws lv st tgt) (kf : ¬ x = y → jw Γ nL kc ks ws lv st (pc + 3)) : jw Γ nL kc ks ws lv (.int y :: .int x :: st) pc := by
  obtain ⟨p, l, e, R, s, m, args, below, meth, c, D, A, Q⟩ := Γ
  obtain ⟨hx, hb, hml, hown, hts, hK, hA, hR⟩ := g
  intro H locs ls hP hD hS hl
  exact lv_icmp_eq hx hb hd ht (fun h => kt h H locs ls hP hD hS hl) (fun h => kf h H locs ls hP hD hS hl)

theorem j_icmp_ne (g : gd Γ cc own nL rm q) {x y : Int32} {off : Int} {tgt : Nat} (hd : decode cc pc = .ok (.if_icmp .ne off, 3)) (ht : (pc : Int) + off = (tgt : Int)) (kt : ¬ x = y → jw Γ nL kc ks ws lv st tgt) (kf : x = y → jw Γ nL kc ks ws lv st (pc + 3)) : jw Γ nL kc ks ws lv (.int y :: .int x :: st) pc := by
  obtain ⟨p, l, e, R, s, m, args, below, meth, c, D, A, Q⟩ := Γ
  obtain ⟨hx, hb, hml, hown, hts, hK, hA, hR⟩ := g
  intro H locs ls hP hD hS hl
  exact lv_icmp_ne hx hb hd ht (fun h => kt h H locs ls hP hD hS hl) (fun h => kf h H locs ls hP hD hS hl)

theorem j_icmp_lt (g : gd Γ cc own nL rm q) {x y : Int32} {off : Int} {tgt : Nat} (hd : decode cc pc = .ok (.if_icmp .lt off, 3)) (ht : (pc : Int) + off = (tgt : Int)) (kt : x < y → jw Γ nL kc ks ws lv st tgt) (kf : ¬ x < y → jw Γ nL kc ks ws lv st (pc + 3)) : jw Γ nL kc ks ws lv (.int y :: .int x :: st) pc := by
  obtain ⟨p, l, e, R, s, m, args, below, meth, c, D, A, Q⟩ := Γ
  obtain ⟨hx, hb, hml, hown, hts, hK, hA, hR⟩ := g
  intro H locs ls hP hD hS hl
  exact lv_icmp_lt hx hb hd ht (fun h => kt h H locs ls hP hD hS hl) (fun h => kf h H locs ls hP hD hS hl)

theorem j_icmp_ge (g : gd Γ cc own nL rm q) {x y : Int32} {off : Int} {tgt : Nat} (hd : decode cc pc = .ok (.if_icmp .ge off, 3)) (ht : (pc : Int) + off = (tgt : Int)) (kt : y ≤ x → jw Γ nL kc ks ws lv st tgt) (kf : ¬ y ≤ x → jw Γ nL kc ks ws lv st (pc + 3)) : jw Γ nL kc ks ws lv (.int y :: .int x :: st) pc := by
  obtain ⟨p, l, e, R, s, m, args, below, meth, c, D, A, Q⟩ := Γ
  obtain ⟨hx, hb, hml, hown, hts, hK, hA, hR⟩ := g
  intro H locs ls hP hD hS hl
  exact lv_icmp_ge hx hb hd ht (fun h => kt h H locs ls hP hD hS hl) (fun h => kf h H locs ls hP hD hS hl)

theorem j_icmp_gt (g : gd Γ cc own nL rm q) {x y : Int32} {off : Int} {tgt : Nat} (hd : decode cc pc = .ok (.if_icmp .gt off, 3)) (ht : (pc : Int) + off = (tgt : Int)) (kt : y < x → jw Γ nL kc ks ws lv st tgt) (kf : ¬ y < x → jw Γ nL kc ks ws lv st (pc + 3)) : jw Γ nL kc ks ws lv (.int y :: .int x :: st) pc := by
  obtain ⟨p, l, e, R, s, m, args, below, meth, c, D, A, Q⟩ := Γ
  obtain ⟨hx, hb, hml, hown, hts, hK, hA, hR⟩ := g
  intro H locs ls hP hD hS hl
  exact lv_icmp_gt hx hb hd ht (fun h => kt h H locs ls hP hD hS hl) (fun h => kf h H locs ls hP hD hS hl)

theorem j_icmp_le (g : gd Γ cc own nL rm q) {x y : Int32} {off : Int} {tgt : Nat} (hd : decode cc pc = .ok (.if_icmp .le off, 3)) (ht : (pc : Int) + off = (tgt : Int)) (kt : x ≤ y → jw Γ nL kc ks ws lv st tgt) (kf : ¬ x ≤ y → jw Γ nL kc ks ws lv st (pc + 3)) : jw Γ nL kc ks ws lv (.int y :: .int x :: st) pc := by
  obtain ⟨p, l, e, R, s, m, args, below, meth, c, D, A, Q⟩ := Γ
  obtain ⟨hx, hb, hml, hown, hts, hK, hA, hR⟩ := g
  intro H locs ls hP hD hS hl
  exact lv_icmp_le hx hb hd ht (fun h => kt h H locs ls hP hD hS hl) (fun h => kf h H locs ls hP hD hS hl)

theorem j_if_eq (g : gd Γ cc own nL rm q) {x : Int32} {off : Int} {tgt : Nat} (hd : decode cc pc = .ok (.ifCond .eq off, 3)) (ht : (pc : Int) + off = (tgt : Int)) (kt : x = 0 → jw Γ nL kc ks ws lv st tgt) (kf : ¬ x = 0 → jw Γ nL kc ks ws lv st (pc + 3)) : jw Γ nL kc ks ws lv (.int x :: st) pc := by
  obtain ⟨p, l, e, R, s, m, args, below, meth, c, D, A, Q⟩ := Γ
  obtain ⟨hx, hb, hml, hown, hts, hK, hA, hR⟩ := g
  intro H locs ls hP hD hS hl
  exact lv_if_eq hx hb hd ht (fun h => kt h H locs ls hP hD hS hl) (fun h => kf h H locs ls hP hD hS hl)

theorem j_if_ne (g : gd Γ cc own nL rm q) {x : Int32} {off : Int} {tgt : Nat} (hd : decode cc pc = .ok (.ifCond .ne off, 3)) (ht : (pc : Int) + off = (tgt : Int)) (kt : ¬ x = 0 → jw Γ nL kc ks ws lv st tgt) (kf : x = 0 → jw Γ nL kc ks ws lv st (pc + 3)) : jw Γ nL kc ks ws lv (.int x :: st) pc := by
  obtain ⟨p, l, e, R, s, m, args, below, meth, c, D, A, Q⟩ := Γ
  obtain ⟨hx, hb, hml, hown, hts, hK, hA, hR⟩ := g
  intro H locs ls hP hD hS hl
  exact lv_if_ne hx hb hd ht (fun h => kt h H locs ls hP hD hS hl) (fun h => kf h H locs ls hP hD hS hl)

theorem j_if_lt (g : gd Γ cc own nL rm q) {x : Int32} {off : Int} {tgt : Nat} (hd : decode cc pc = .ok (.ifCond .lt off, 3)) (ht : (pc : Int) + off = (tgt : Int)) (kt : x < 0 → jw Γ nL kc ks ws lv st tgt) (kf : ¬ x < 0 → jw Γ nL kc ks ws lv st (pc + 3)) : jw Γ nL kc ks ws lv (.int x :: st) pc := by
  obtain ⟨p, l, e, R, s, m, args, below, meth, c, D, A, Q⟩ := Γ
  obtain ⟨hx, hb, hml, hown, hts, hK, hA, hR⟩ := g
  intro H locs ls hP hD hS hl
  exact lv_if_lt hx hb hd ht (fun h => kt h H locs ls hP hD hS hl) (fun h => kf h H locs ls hP hD hS hl)

theorem j_if_ge (g : gd Γ cc own nL rm q) {x : Int32} {off : Int} {tgt : Nat} (hd : decode cc pc = .ok (.ifCond .ge off, 3)) (ht : (pc : Int) + off = (tgt : Int)) (kt : 0 ≤ x → jw Γ nL kc ks ws lv st tgt) (kf : ¬ 0 ≤ x → jw Γ nL kc ks ws lv st (pc + 3)) : jw Γ nL kc ks ws lv (.int x :: st) pc := by
  obtain ⟨p, l, e, R, s, m, args, below, meth, c, D, A, Q⟩ := Γ
  obtain ⟨hx, hb, hml, hown, hts, hK, hA, hR⟩ := g
  intro H locs ls hP hD hS hl
  exact lv_if_ge hx hb hd ht (fun h => kt h H locs ls hP hD hS hl) (fun h => kf h H locs ls hP hD hS hl)

theorem j_if_gt (g : gd Γ cc own nL rm q) {x : Int32} {off : Int} {tgt : Nat} (hd : decode cc pc = .ok (.ifCond .gt off, 3)) (ht : (pc : Int) + off = (tgt : Int)) (kt : 0 < x → jw Γ nL kc ks ws lv st tgt) (kf : ¬ 0 < x → jw Γ nL kc ks ws lv st (pc + 3)) : jw Γ nL kc ks ws lv (.int x :: st) pc := by
  obtain ⟨p, l, e, R, s, m, args, below, meth, c, D, A, Q⟩ := Γ
  obtain ⟨hx, hb, hml, hown, hts, hK, hA, hR⟩ := g
  intro H locs ls hP hD hS hl
  exact lv_if_gt hx hb hd ht (fun h => kt h H locs ls hP hD hS hl) (fun h => kf h H locs ls hP hD hS hl)

theorem j_if_le (g : gd Γ cc own nL rm q) {x : Int32} {off : Int} {tgt : Nat} (hd : decode cc pc = .ok (.ifCond .le off, 3)) (ht : (pc : Int) + off = (tgt : Int)) (kt : x ≤ 0 → jw Γ nL kc ks ws lv st tgt) (kf : ¬ x ≤ 0 → jw Γ nL kc ks ws lv st (pc + 3)) : jw Γ nL kc ks ws lv (.int x :: st) pc := by
  obtain ⟨p, l, e, R, s, m, args, below, meth, c, D, A, Q⟩ := Γ
  obtain ⟨hx, hb, hml, hown, hts, hK, hA, hR⟩ := g
  intro H locs ls hP hD hS hl
  exact lv_if_le hx hb hd ht (fun h => kt h H locs ls hP hD hS hl) (fun h => kf h H locs ls hP hD hS hl)

theorem j_goto (g : gd Γ cc own nL rm q) {off : Int} {tgt : Nat} (hd : decode cc pc = .ok (.goto off, 3)) (ht : (pc : Int) + off = (tgt : Int)) (k : jw Γ nL kc ks ws lv st tgt) : jw Γ nL kc ks ws lv st pc := by
  obtain ⟨p, l, e, R, s, m, args, below, meth, c, D, A, Q⟩ := Γ
  obtain ⟨hx, hb, hml, hown, hts, hK, hA, hR⟩ := g
  intro H locs ls hP hD hS hl
  exact lv_goto hx hb hd ht (k H locs ls hP hD hS hl)
theorem j_ifnull (g : gd Γ cc own nL rm q) {x : Nat} {off : Int} (hd : decode cc pc = .ok (.ifnull off, 3)) (k : jw Γ nL kc ks ws lv st (pc + 3)) : jw Γ nL kc ks ws lv (.ref x :: st) pc := by
  obtain ⟨p, l, e, R, s, m, args, below, meth, c, D, A, Q⟩ := Γ
  obtain ⟨hx, hb, hml, hown, hts, hK, hA, hR⟩ := g
  intro H locs ls hP hD hS hl
  exact lv_ifnull hx hb hd (k H locs ls hP hD hS hl)
theorem j_ifnullN (g : gd Γ cc own nL rm q) {off : Int} {tgt : Nat} (hd : decode cc pc = .ok (.ifnull off, 3)) (ht : (pc : Int) + off = (tgt : Int)) (k : jw Γ nL kc ks ws lv st tgt) : jw Γ nL kc ks ws lv (.null :: st) pc := by
  obtain ⟨p, l, e, R, s, m, args, below, meth, c, D, A, Q⟩ := Γ
  obtain ⟨hx, hb, hml, hown, hts, hK, hA, hR⟩ := g
  intro H locs ls hP hD hS hl
  exact lv_ifnullN hx hb hd ht (k H locs ls hP hD hS hl)
theorem j_ifnonnull (g : gd Γ cc own nL rm q) {x : Nat} {off : Int} {tgt : Nat} (hd : decode cc pc = .ok (.ifnonnull off, 3)) (ht : (pc : Int) + off = (tgt : Int)) (k : jw Γ nL kc ks ws lv st tgt) : jw Γ nL kc ks ws lv (.ref x :: st) pc := by
  obtain ⟨p, l, e, R, s, m, args, below, meth, c, D, A, Q⟩ := Γ
  obtain ⟨hx, hb, hml, hown, hts, hK, hA, hR⟩ := g
  intro H locs ls hP hD hS hl
  exact lv_ifnonnull hx hb hd ht (k H locs ls hP hD hS hl)
theorem j_ifnonnullN (g : gd Γ cc own nL rm q) {off : Int} (hd : decode cc pc = .ok (.ifnonnull off, 3)) (k : jw Γ nL kc ks ws lv st (pc + 3)) : jw Γ nL kc ks ws lv (.null :: st) pc := by
  obtain ⟨p, l, e, R, s, m, args, below, meth, c, D, A, Q⟩ := Γ
  obtain ⟨hx, hb, hml, hown, hts, hK, hA, hR⟩ := g
  intro H locs ls hP hD hS hl
  exact lv_ifnonnullN hx hb hd (k H locs ls hP hD hS hl)
/-- the link of a field: own's constant index names field k of class ci -/
def fdL (own : String) (index ci k : Nat) (C : String) (T : u_T) (N : Nat) : Prop := (∀ w ∈ u_ws C T N, w ∈ gt) ∧ jclasses[ci]? = some (C, T, N) ∧ k < N ∧ Cond.fieldLink own index (T k).1 (T k).2.1 (T k).2.2.1 ∈ gt
theorem j_get (g : gd Γ cc own nL rm q) {a ci k index N : Nat} {C : String} {T : u_T} (F : fdL own index ci k C T N) (q0 : Nat) {fs : List Value} {v : Value} (he : ws[q0]? = some (a, .inr (ci, fs))) (hv : fs[k]? = some v) (hd : decode cc pc = .ok (.getfield index, 3)) (kk : jw Γ nL kc ks ws lv (v :: st) (pc + 3)) : jw Γ nL kc ks ws lv (.ref a :: st) pc := by
  obtain ⟨p, l, e, R, s, m, args, below, meth, c, D, A, Q⟩ := Γ
  obtain ⟨hx, hb, hml, hown, hts, hK, hA, hR⟩ := g
  intro H locs ls hP hD hS hl
  exact va_get hx hb hts F.1 hown hK hP q0 he F.2.1 k F.2.2.1 (hts _ F.2.2.2) (fun _ h => h) hv hd (kk H locs ls hP hD hS hl)
/-- a field that may be put: not final, its type -/
def fpL (k : Nat) (T : u_T) (N : Nat) (ty : FieldType) : Prop := (∃ ty0 : Nat → FieldType, ∀ k, k < N → parseFieldDescriptor (T k).2.2.1 = some (ty0 k)) ∧ (∀ a, a < N → ∀ b, b < N → a ≠ b → (T a).2.1 ≠ (T b).2.1) ∧ (T k).2.2.2 = false ∧ parseFieldDescriptor (T k).2.2.1 = some ty
theorem j_put (g : gd Γ cc own nL rm q) {a ci k index N : Nat} {C : String} {T : u_T} {ty : FieldType} (F : fdL own index ci k C T N) (G : fpL k T N ty) (q0 : Nat) {fs : List Value} {v : Value} (he : ws[q0]? = some (a, .inr (ci, fs))) (hn : narrow ty v = v) (hf : fits ty v = true) (hk : k < fs.length) {ws' : va_W} (hw : ws.set q0 (a, .inr (ci, fs.set k v)) = ws') (hd : decode cc pc = .ok (.putfield index, 3)) (kk : jw Γ nL kc ks ws' lv st (pc + 3)) : jw Γ nL kc ks ws lv (v :: .ref a :: st) pc := by
  obtain ⟨p, l, e, R, s, m, args, below, meth, c, D, A, Q⟩ := Γ
  obtain ⟨hx, hb, hml, hown, hts, hK, hA, hR⟩ := g
  intro H locs ls hP hD hS hl
  obtain ⟨⟨ty0, h0⟩, h1, h2, h3⟩ := G
  subst hw
  exact va_put hx hb hts F.1 ty0 h0 h1 hown hK hP hD hS q0 he F.2.1 k F.2.2.1 (hts _ F.2.2.2) (fun _ h => h) h2 h3 hn hf hk hd (fun H1 locs1 hP hD hS => kk H1 locs1 ls hP hD hS hl)
theorem j_iald (g : gd Γ cc own nL rm q) {a n : Nat} {f : Nat → Int32} {i : Int32} (q0 : Nat) (ha : ws[q0]? = some (a, .inl (q 0, n, .inl f))) (hin : vp_in i n) (hd : decode cc pc = .ok (.iaload, 1)) (k : jw Γ nL kc ks ws lv (.int (f i.toNatClampNeg) :: st) (pc + 1)) : jw Γ nL kc ks ws lv (.int i :: .ref a :: st) pc := by
  obtain ⟨p, l, e, R, s, m, args, below, meth, c, D, A, Q⟩ := Γ
  obtain ⟨hx, hb, hml, hown, hts, hK, hA, hR⟩ := g
  intro H locs ls hP hD hS hl
  exact va_iald hx hb hK hP q0 0 ha rfl hin hd (k H locs ls hP hD hS hl)
theorem j_zald (g : gd Γ cc own nL rm q) {a n : Nat} {f : Nat → Int32} {i : Int32} (q0 : Nat) (ha : ws[q0]? = some (a, .inl (q 2, n, .inl f))) (hin : vp_in i n) (hd : decode cc pc = .ok (.baload, 1)) (k : jw Γ nL kc ks ws lv (.int (f i.toNatClampNeg) :: st) (pc + 1)) : jw Γ nL kc ks ws lv (.int i :: .ref a :: st) pc := by
  obtain ⟨p, l, e, R, s, m, args, below, meth, c, D, A, Q⟩ := Γ
  obtain ⟨hx, hb, hml, hown, hts, hK, hA, hR⟩ := g
  intro H locs ls hP hD hS hl
  exact va_zald hx hb hK hP q0 2 ha rfl hin hd (k H locs ls hP hD hS hl)
theorem j_lald (g : gd Γ cc own nL rm q) {a n : Nat} {f : Nat → Int64} {i : Int32} (q0 : Nat) (ha : ws[q0]? = some (a, .inl (q 1, n, .inr (.inl f)))) (hin : vp_in i n) (hd : decode cc pc = .ok (.laload, 1)) (k : jw Γ nL kc ks ws lv (.long (f i.toNatClampNeg) :: st) (pc + 1)) : jw Γ nL kc ks ws lv (.int i :: .ref a :: st) pc := by
  obtain ⟨p, l, e, R, s, m, args, below, meth, c, D, A, Q⟩ := Γ
  obtain ⟨hx, hb, hml, hown, hts, hK, hA, hR⟩ := g
  intro H locs ls hP hD hS hl
  exact va_lald hx hb hK hP q0 1 ha rfl hin hd (k H locs ls hP hD hS hl)
/-- an array of references: any of its three kinds -/
theorem j_aald (g : gd Γ cc own nL rm q) {a n : Nat} {f : Nat → Option Nat} {i : Int32} (q0 t0 : Nat) {cA : ClassId} {ty : FieldType} (ha : ws[q0]? = some (a, .inl (cA, n, .inr (.inr (.inr (.inr f)))))) (ht : (jtys q)[t0]? = some (cA, ty)) (hrk : 3 ≤ t0) (hin : vp_in i n) {x : Nat} (hf : f i.toNatClampNeg = some x) (hd : decode cc pc = .ok (.aaload, 1)) (k : jw Γ nL kc ks ws lv (.ref x :: st) (pc + 1)) : jw Γ nL kc ks ws lv (.int i :: .ref a :: st) pc := by
  obtain ⟨p, l, e, R, s, m, args, below, meth, c, D, A, Q⟩ := Γ
  obtain ⟨hx, hb, hml, hown, hts, hK, hA, hR⟩ := g
  intro H locs ls hP hD hS hl
  have hlt : i.toNatClampNeg < n := Nat.not_le.mp fun q => hin (Or.inr q)
  have hv : va_rf (f i.toNatClampNeg) = .ref x := by rw [hf]; rfl
  have hKt := (hK.2 t0 _ ht).1 n (fun j => va_rf (f j))
  have hrf : ∃ t, ty = .object t ∨ ty = .array .int := by
    match t0, ht, hrk with
    | 3, ht, _ => cases ht; exact ⟨_, Or.inl rfl⟩
    | 4, ht, _ => cases ht; exact ⟨_, Or.inl rfl⟩
    | 5, ht, _ => cases ht; exact ⟨"", Or.inr rfl⟩
    | t + 6, ht, _ => simp at ht
  obtain ⟨t, rfl | rfl⟩ := hrf
  · exact W.aald (v := .ref x) (ty := .object t) hx hb (hP q0 _ ha) hKt rfl (fun q => by cases q) (by show ¬ (i < 0 ∨ (arrV _ _ _).slots.size ≤ _); rw [arrV_size]; exact hin) (by show (arrV _ _ _).slots[_]? = _; rw [arrV_read _ _ hlt]; exact congrArg some hv) rfl rfl hd (k H locs ls hP hD hS hl)
  · exact W.aald (v := .ref x) (ty := .array .int) hx hb (hP q0 _ ha) hKt rfl (fun q => by cases q) (by show ¬ (i < 0 ∨ (arrV _ _ _).slots.size ≤ _); rw [arrV_size]; exact hin) (by show (arrV _ _ _).slots[_]? = _; rw [arrV_read _ _ hlt]; exact congrArg some hv) rfl rfl hd (k H locs ls hP hD hS hl)
theorem j_iast (g : gd Γ cc own nL rm q) {a n : Nat} {f : Nat → Int32} {i x : Int32} (q0 : Nat) (ha : ws[q0]? = some (a, .inl (q 0, n, .inl f))) (hin : vp_in i n) {ws' : va_W} (hw : ws.set q0 (a, .inl (q 0, n, .inl (upd f i.toNatClampNeg x))) = ws') (hd : decode cc pc = .ok (.iastore, 1)) (k : jw Γ nL kc ks ws' lv st (pc + 1)) : jw Γ nL kc ks ws lv (.int x :: .int i :: .ref a :: st) pc := by
  obtain ⟨p, l, e, R, s, m, args, below, meth, c, D, A, Q⟩ := Γ
  obtain ⟨hx, hb, hml, hown, hts, hK, hA, hR⟩ := g
  intro H locs ls hP hD hS hl
  subst hw
  exact va_iast hx hb hK hP hD hS q0 0 ha rfl hin hd (fun H1 locs1 hP hD hS => k H1 locs1 ls hP hD hS hl)
theorem j_zast (g : gd Γ cc own nL rm q) {a n : Nat} {f : Nat → Int32} {i x : Int32} (q0 : Nat) (ha : ws[q0]? = some (a, .inl (q 2, n, .inl f))) (hin : vp_in i n) (hn : vp_nar .boolean x = x) {ws' : va_W} (hw : ws.set q0 (a, .inl (q 2, n, .inl (upd f i.toNatClampNeg x))) = ws') (hd : decode cc pc = .ok (.bastore, 1)) (k : jw Γ nL kc ks ws' lv st (pc + 1)) : jw Γ nL kc ks ws lv (.int x :: .int i :: .ref a :: st) pc := by
  obtain ⟨p, l, e, R, s, m, args, below, meth, c, D, A, Q⟩ := Γ
  obtain ⟨hx, hb, hml, hown, hts, hK, hA, hR⟩ := g
  intro H locs ls hP hD hS hl
  subst hw
  exact va_zast hx hb hK hP hD hS q0 2 ha rfl hin hd (fun H1 locs1 hP hD hS => k H1 locs1 ls (hn ▸ hP) (hn ▸ hD) hS hl)
theorem j_last (g : gd Γ cc own nL rm q) {a n : Nat} {f : Nat → Int64} {i : Int32} {x : Int64} (q0 : Nat) (ha : ws[q0]? = some (a, .inl (q 1, n, .inr (.inl f)))) (hin : vp_in i n) {ws' : va_W} (hw : ws.set q0 (a, .inl (q 1, n, .inr (.inl (vp_updL f i.toNatClampNeg x)))) = ws') (hd : decode cc pc = .ok (.lastore, 1)) (k : jw Γ nL kc ks ws' lv st (pc + 1)) : jw Γ nL kc ks ws lv (.long x :: .int i :: .ref a :: st) pc := by
  obtain ⟨p, l, e, R, s, m, args, below, meth, c, D, A, Q⟩ := Γ
  obtain ⟨hx, hb, hml, hown, hts, hK, hA, hR⟩ := g
  intro H locs ls hP hD hS hl
  subst hw
  exact va_last hx hb hK hP hD hS q0 1 ha rfl hin hd (fun H1 locs1 hP hD hS => k H1 locs1 ls hP hD hS hl)
theorem j_aast (g : gd Γ cc own nL rm q) {a n v : Nat} {f : Nat → Option Nat} {i : Int32} (q0 t0 qk ci : Nat) {cA : ClassId} {r : vw_C} {vs : List Value} (ha : ws[q0]? = some (a, .inl (cA, n, .inr (.inr (.inr (.inr f)))))) (ht : (jtys q)[t0]? = some (cA, .object r.1)) (hv : ws[qk]? = some (v, .inr (ci, vs))) (hc : jclasses[ci]? = some r) (hin : vp_in i n) {ws' : va_W} (hw : ws.set q0 (a, .inl (cA, n, .inr (.inr (.inr (.inr (va_up f i.toNatClampNeg (some v))))))) = ws') (hd : decode cc pc = .ok (.aastore, 1)) (k : jw Γ nL kc ks ws' lv st (pc + 1)) : jw Γ nL kc ks ws lv (.ref v :: .int i :: .ref a :: st) pc := by
  obtain ⟨p, l, e, R, s, m, args, below, meth, c, D, A, Q⟩ := Γ
  obtain ⟨hx, hb, hml, hown, hts, hK, hA, hR⟩ := g
  intro H locs ls hP hD hS hl
  subst hw
  exact va_astq hx hb hK hP hD hS q0 t0 qk ci ha ht hv hc hin hd (fun H1 locs1 hP hD hS => k H1 locs1 ls hP hD hS hl)
theorem j_alen (g : gd Γ cc own nL rm q) {a : Nat} (q0 t0 : Nat) {cA : ClassId} {x : vp_A} {ty : FieldType} {v : Int32} (ha : ws[q0]? = some (a, .inl (cA, x))) (ht : (jtys q)[t0]? = some (cA, ty)) (hv : Int32.ofNat x.1 = v) (hd : decode cc pc = .ok (.arraylength, 1)) (k : jw Γ nL kc ks ws lv (.int v :: st) (pc + 1)) : jw Γ nL kc ks ws lv (.ref a :: st) pc := by
  obtain ⟨p, l, e, R, s, m, args, below, meth, c, D, A, Q⟩ := Γ
  obtain ⟨hx, hb, hml, hown, hts, hK, hA, hR⟩ := g
  intro H locs ls hP hD hS hl
  exact va_alen hx hb hK hP q0 t0 ha ht hv hd (k H locs ls hP hD hS hl)
theorem j_mmax (g : gd Γ cc own nL rm q) {index : Nat} {x y : Int32} (h1 : Cond.methodLink own index Lib.Math.max.name ∈ gt) (h2 : Cond.static Lib.Math.max.name ∈ gt) (h3 : Cond.initialized "java/lang/Math" ∈ gt) (h4 : Cond.code Lib.Math.max.name Lib.Math.max.code 2 (some .int) ∈ gt) (hf : 1 ≤ rm.frames) (hl0 : (st.map fun v => v.category).sum + 13 ≤ rm.locals) (hc : kc ≤ rm.cells) (hs : ks ≤ rm.slots) (hd : decode cc pc = .ok (.invokestatic index, 3)) (k : jw Γ nL kc ks ws lv (.int (if x < y then y else x) :: st) (pc + 3)) : jw Γ nL kc ks ws lv (.int y :: .int x :: st) pc := by
  obtain ⟨p, l, e, R, s, m, args, below, meth, c, D, A, Q⟩ := Γ
  obtain ⟨hx, hb, hml, hown, hts, hK, hA, hR⟩ := g
  intro H locs ls hP hD hS hl
  subst hR
  exact va_mmax hx hb (hml.trans hl.1.symm) hown (hts _ h1) (hts _ h2) (hts _ h3) (hts _ h4) hf hl0 hc hs hd (k H locs ls hP hD hS hl)
theorem j_mmin (g : gd Γ cc own nL rm q) {index : Nat} {x y : Int32} (h1 : Cond.methodLink own index Lib.Math.min.name ∈ gt) (h2 : Cond.static Lib.Math.min.name ∈ gt) (h3 : Cond.initialized "java/lang/Math" ∈ gt) (h4 : Cond.code Lib.Math.min.name Lib.Math.min.code 2 (some .int) ∈ gt) (hf : 1 ≤ rm.frames) (hl0 : (st.map fun v => v.category).sum + 13 ≤ rm.locals) (hc : kc ≤ rm.cells) (hs : ks ≤ rm.slots) (hd : decode cc pc = .ok (.invokestatic index, 3)) (k : jw Γ nL kc ks ws lv (.int (if y < x then y else x) :: st) (pc + 3)) : jw Γ nL kc ks ws lv (.int y :: .int x :: st) pc := by
  obtain ⟨p, l, e, R, s, m, args, below, meth, c, D, A, Q⟩ := Γ
  obtain ⟨hx, hb, hml, hown, hts, hK, hA, hR⟩ := g
  intro H locs ls hP hD hS hl
  subst hR
  exact va_mmin hx hb (hml.trans hl.1.symm) hown (hts _ h1) (hts _ h2) (hts _ h3) (hts _ h4) hf hl0 hc hs hd (k H locs ls hP hD hS hl)
end JW
end
section
/-! contracts over a whole world, and calls -/
def jPre (D : va_G) (q : Nat → ClassId) (W0 : va_W) (sz : Nat) (av : List Value) : Array Value → State → Prop := va_Pc av (fun U => U.heap.size = sz ∧ va_P D jclasses W0 U.heap ∧ va_K D jclasses (jtys q) U ∧ va_D (fun _ => True) W0)
def jPost (D : va_G) (q : Nat → ClassId) (W0 : va_W) (sz : Nat) {S : Type} (Wd : S → va_W) (u : S) (t : State) : Prop := va_P D jclasses (Wd u) t.heap ∧ va_K D jclasses (jtys q) t ∧ va_D (va_A W0 sz) (Wd u)
theorem jPre_blind {D : va_G} {q : Nat → ClassId} {W0 : va_W} {sz : Nat} {av : List Value} : FrameBlind (jPre D q W0 sz av) := fun a U g mk h => by
  obtain ⟨q0, q1, qP, qK, qD⟩ := h
  exact ⟨q0, q1, qP, va_K.moved (u := U) (U := U.calling g mk a) (Vm.Alike.refl U.vm) qK, qD⟩
/-- the contracts: of an int, of a boolean (0 or 1), of nothing, of a kind or null -/
def ctI (q : Nat → ClassId) (y : MethodName) (cc : ByteArray) (nL fr lo : Nat) (av : List Value) (W0 : va_W) {S : Type} (Wd : S → va_W) (K : Int32 → S → Prop) : Prop := ∀ (l : Launch) (D : va_G) (sz : Nat), Met l y (.code y cc nL (some .int) :: gt) (rmz fr lo) (jPre D q W0 sz av) (va_Qi K (jPost D q W0 sz Wd) (va_A W0 sz)) 0 0 (va_A W0 sz)
def ctZ (q : Nat → ClassId) (y : MethodName) (cc : ByteArray) (nL fr lo : Nat) (av : List Value) (W0 : va_W) {S : Type} (Wd : S → va_W) (K : Int32 → S → Prop) : Prop := ∀ (l : Launch) (D : va_G) (sz : Nat), Met l y (.code y cc nL (some .boolean) :: gt) (rmz fr lo) (jPre D q W0 sz av) (va_Qi (fun r u => (r = 0 ∨ r = 1) ∧ K r u) (jPost D q W0 sz Wd) (va_A W0 sz)) 0 0 (va_A W0 sz)
def ctV (q : Nat → ClassId) (y : MethodName) (cc : ByteArray) (nL fr lo : Nat) (av : List Value) (W0 : va_W) {S : Type} (Wd : S → va_W) (K : S → Prop) : Prop := ∀ (l : Launch) (D : va_G) (sz : Nat), Met l y (.code y cc nL none :: gt) (rmz fr lo) (jPre D q W0 sz av) (va_Qv K (jPost D q W0 sz Wd) (va_A W0 sz)) 0 0 (va_A W0 sz)
def ctQ (q : Nat → ClassId) (y : MethodName) (cc : ByteArray) (nL fr lo : Nat) (av : List Value) (W0 : va_W) (ad : Nat → Nat) {S : Type} (Wd : S → va_W) (K : Option Nat → S → Prop) : Prop := ∀ (l : Launch) (D : va_G) (sz : Nat), Met l y (.code y cc nL (some (.object RX0)) :: gt) (rmz fr lo) (jPre D q W0 sz av) (va_Qq (fun r u => ∃ o : Option Nat, r = o.map ad ∧ (∀ i, o = some i → i < 6) ∧ K o u) (jPost D q W0 sz Wd) (va_A W0 sz)) 0 0 (va_A W0 sz)
/-- how a method leaves -/
def rtI (Γ : GT) (cc : ByteArray) (nL : Nat) {S : Type} (Wd : S → va_W) (K : Int32 → S → Prop) : Prop := ∀ (lv : List (Nat × Value)) (pc : Nat) (r : Int32) (u : S), decode cc pc = .ok (.ireturn, 1) → K r u → jw Γ nL 0 0 (Wd u) lv [.int r] pc
def rtZ (Γ : GT) (cc : ByteArray) (nL : Nat) {S : Type} (Wd : S → va_W) (K : Int32 → S → Prop) : Prop := ∀ (lv : List (Nat × Value)) (pc : Nat) (r : Int32) (u : S), decode cc pc = .ok (.ireturn, 1) → (r = 0 ∨ r = 1) → K r u → jw Γ nL 0 0 (Wd u) lv [.int r] pc
def rtV (Γ : GT) (cc : ByteArray) (nL : Nat) {S : Type} (Wd : S → va_W) (K : S → Prop) : Prop := ∀ (lv : List (Nat × Value)) (pc : Nat) (u : S), decode cc pc = .ok (.return_, 1) → K u → jw Γ nL 0 0 (Wd u) lv [] pc
def rtQ (Γ : GT) (cc : ByteArray) (nL : Nat) (ad : Nat → Nat) {S : Type} (Wd : S → va_W) (K : Option Nat → S → Prop) : Prop := ∀ (lv : List (Nat × Value)) (pc : Nat) (o : Option Nat) (u : S), decode cc pc = .ok (.areturn, 1) → (∀ i, o = some i → i < 6) → K o u → jw Γ nL 0 0 (Wd u) lv [va_rf (o.map ad)] pc

theorem met_I {q : Nat → ClassId} {y : MethodName} {cc : ByteArray} {nL fr lo : Nat} {av : List Value} {W0 : va_W} {S : Type} {Wd : S → va_W} {K : Int32 → S → Prop} (hy : plainName y.cls = true) (hav : (lg_sl av).length ≤ nL)
    (walk : ∀ Γ : GT, gd Γ cc y.cls nL (rmz fr lo) q → rtI Γ cc nL Wd K → jw Γ nL 0 0 W0 (lv_args 0 av) [] 0) : ctI q y cc nL fr lo av W0 Wd K := by
  intro l D sz
  refine Met.ofW (cc := cc) (maxL := nL) (ret := (some .int)) hy rfl ?_
  intro p e s m args below meth c s₁ B hml hv
  obtain ⟨rfl, hsz, hP, hK, hD0⟩ := hv
  have hx := B.exec
  have hb := B.bytes
  have hr := B.returns
  have hts := atoms_spec (ws := .code y cc nL (some .int) :: gt) B.pre
  have hown : s.vm.findClass y.cls = some m.cls := findClass_of_methodNamed B.named
  have hlocks := B.notSynchronized
  subst hsz
  have hD := hD0.self (sz := s.heap.size)
  have hA : ∀ z : Nat, s.heap.size ≤ z → va_A W0 s.heap.size z := fun z h => Or.inr h
  have hl := lv_entry av (n := nL) hav
  rw [lg_entry_eq]
  refine walk (p, l, e, rmz fr lo, s, m, av.toArray, below, meth, c, D, va_A W0 s.heap.size, _) ⟨hx, hb, hml, hown, fun w hw => hts w (List.mem_cons_of_mem _ hw), hK, hA, rfl⟩ ?_ s.heap [] _ hP hD va_S.rf hl
  intro lv pc r u hd hKr
  intro H locs ls hP9 hD9 hS _
  exact W.iret (v := r) hx hb hr (fun t ht hW => ⟨⟨r, u, rfl, hKr, by rw [ht]; exact hP9, va_K.moved hW.alike hK, hD9⟩, hS.F ht⟩) hS.2.2 hd
theorem met_Z {q : Nat → ClassId} {y : MethodName} {cc : ByteArray} {nL fr lo : Nat} {av : List Value} {W0 : va_W} {S : Type} {Wd : S → va_W} {K : Int32 → S → Prop} (hy : plainName y.cls = true) (hav : (lg_sl av).length ≤ nL)
    (walk : ∀ Γ : GT, gd Γ cc y.cls nL (rmz fr lo) q → rtZ Γ cc nL Wd K → jw Γ nL 0 0 W0 (lv_args 0 av) [] 0) : ctZ q y cc nL fr lo av W0 Wd K := by
  intro l D sz
  refine Met.ofW (cc := cc) (maxL := nL) (ret := (some .boolean)) hy rfl ?_
  intro p e s m args below meth c s₁ B hml hv
  obtain ⟨rfl, hsz, hP, hK, hD0⟩ := hv
  have hx := B.exec
  have hb := B.bytes
  have hr := B.returns
  have hts := atoms_spec (ws := .code y cc nL (some .boolean) :: gt) B.pre
  have hown : s.vm.findClass y.cls = some m.cls := findClass_of_methodNamed B.named
  have hlocks := B.notSynchronized
  subst hsz
  have hD := hD0.self (sz := s.heap.size)
  have hA : ∀ z : Nat, s.heap.size ≤ z → va_A W0 s.heap.size z := fun z h => Or.inr h
  have hl := lv_entry av (n := nL) hav
  rw [lg_entry_eq]
  refine walk (p, l, e, rmz fr lo, s, m, av.toArray, below, meth, c, D, va_A W0 s.heap.size, _) ⟨hx, hb, hml, hown, fun w hw => hts w (List.mem_cons_of_mem _ hw), hK, hA, rfl⟩ ?_ s.heap [] _ hP hD va_S.rf hl
  intro lv pc r u hd hz hKr
  intro H locs ls hP9 hD9 hS _
  have hn : narrow .boolean (.int r) = .int r := by rcases hz with rfl | rfl <;> rfl
  exact W.zret (v := r) hx hb hr hn (fun t ht hW => ⟨⟨r, u, rfl, ⟨hz, hKr⟩, by rw [ht]; exact hP9, va_K.moved hW.alike hK, hD9⟩, hS.F ht⟩) hS.2.2 hd
theorem met_V {q : Nat → ClassId} {y : MethodName} {cc : ByteArray} {nL fr lo : Nat} {av : List Value} {W0 : va_W} {S : Type} {Wd : S → va_W} {K : S → Prop} (hy : plainName y.cls = true) (hav : (lg_sl av).length ≤ nL)
    (walk : ∀ Γ : GT, gd Γ cc y.cls nL (rmz fr lo) q → rtV Γ cc nL Wd K → jw Γ nL 0 0 W0 (lv_args 0 av) [] 0) : ctV q y cc nL fr lo av W0 Wd K := by
  intro l D sz
  refine Met.ofW (cc := cc) (maxL := nL) (ret := none) hy rfl ?_
  intro p e s m args below meth c s₁ B hml hv
  obtain ⟨rfl, hsz, hP, hK, hD0⟩ := hv
  have hx := B.exec
  have hb := B.bytes
  have hr := B.returns
  have hts := atoms_spec (ws := .code y cc nL none :: gt) B.pre
  have hown : s.vm.findClass y.cls = some m.cls := findClass_of_methodNamed B.named
  have hlocks := B.notSynchronized
  subst hsz
  have hD := hD0.self (sz := s.heap.size)
  have hA : ∀ z : Nat, s.heap.size ≤ z → va_A W0 s.heap.size z := fun z h => Or.inr h
  have hl := lv_entry av (n := nL) hav
  rw [lg_entry_eq]
  refine walk (p, l, e, rmz fr lo, s, m, av.toArray, below, meth, c, D, va_A W0 s.heap.size, _) ⟨hx, hb, hml, hown, fun w hw => hts w (List.mem_cons_of_mem _ hw), hK, hA, rfl⟩ ?_ s.heap [] _ hP hD va_S.rf hl
  intro lv pc u hd hKr
  intro H locs ls hP9 hD9 hS _
  exact W.vret hx hb hr (fun t ht hW => ⟨⟨u, rfl, hKr, by rw [ht]; exact hP9, va_K.moved hW.alike hK, hD9⟩, hS.F ht⟩) hS.2.2 hd
theorem met_Q {q : Nat → ClassId} {y : MethodName} {cc : ByteArray} {nL fr lo : Nat} {av : List Value} {W0 : va_W} (ad : Nat → Nat) {S : Type} {Wd : S → va_W} {K : Option Nat → S → Prop} (hy : plainName y.cls = true) (hav : (lg_sl av).length ≤ nL)
    (walk : ∀ Γ : GT, gd Γ cc y.cls nL (rmz fr lo) q → rtQ Γ cc nL ad Wd K → jw Γ nL 0 0 W0 (lv_args 0 av) [] 0) : ctQ q y cc nL fr lo av W0 ad Wd K := by
  intro l D sz
  refine Met.ofW (cc := cc) (maxL := nL) (ret := (some (.object RX0))) hy rfl ?_
  intro p e s m args below meth c s₁ B hml hv
  obtain ⟨rfl, hsz, hP, hK, hD0⟩ := hv
  have hx := B.exec
  have hb := B.bytes
  have hr := B.returns
  have hts := atoms_spec (ws := .code y cc nL (some (.object RX0)) :: gt) B.pre
  have hown : s.vm.findClass y.cls = some m.cls := findClass_of_methodNamed B.named
  have hlocks := B.notSynchronized
  subst hsz
  have hD := hD0.self (sz := s.heap.size)
  have hA : ∀ z : Nat, s.heap.size ≤ z → va_A W0 s.heap.size z := fun z h => Or.inr h
  have hl := lv_entry av (n := nL) hav
  rw [lg_entry_eq]
  refine walk (p, l, e, rmz fr lo, s, m, av.toArray, below, meth, c, D, va_A W0 s.heap.size, _) ⟨hx, hb, hml, hown, fun w hw => hts w (List.mem_cons_of_mem _ hw), hK, hA, rfl⟩ ?_ s.heap [] _ hP hD va_S.rf hl
  intro lv pc o u hd ho hKr
  intro H locs ls hP9 hD9 hS _
  exact W.aret (v := va_rf (o.map ad)) hx hb hr (Or.inl ⟨_, rfl⟩) (va_rf_or _) (fun t ht hW => ⟨⟨o.map ad, u, rfl, ⟨o, rfl, ho, hKr⟩, by rw [ht]; exact hP9, va_K.moved hW.alike hK, hD9⟩, hS.F ht⟩) hS.2.2 hd

/-- the link of a call -/
def clV (own : String) (index : Nat) (y : MethodName) (cc : ByteArray) (nL : Nat) (ret : Option FieldType) (n : Nat) : Prop := Cond.methodLink own index y ∈ gt ∧ Cond.instanceMethod y ∈ gt ∧ Cond.selects y.cls y y ∈ gt ∧ Cond.initialized y.cls ∈ gt ∧ Cond.code y cc nL ret ∈ gt ∧ (y.cls ≠ "java/lang/invoke/MethodHandle" ∧ y.cls ≠ "java/lang/invoke/VarHandle" ∧ (parseMethodDescriptor y.desc).map (fun d => d.parameters.length) = some n)
def clS (own : String) (index : Nat) (y : MethodName) (cc : ByteArray) (nL : Nat) (ret : Option FieldType) (n : Nat) : Prop := Cond.methodLink own index y ∈ gt ∧ Cond.static y ∈ gt ∧ Cond.initialized y.cls ∈ gt ∧ Cond.code y cc nL ret ∈ gt ∧ (y.cls ≠ "java/lang/invoke/MethodHandle" ∧ y.cls ≠ "java/lang/invoke/VarHandle" ∧ (parseMethodDescriptor y.desc).map (fun d => d.parameters.length) = some n)
theorem gt_call {y : MethodName} {cc : ByteArray} {nL : Nat} {ret : Option FieldType} (h : Cond.code y cc nL ret ∈ gt) : GoodIn gt (.code y cc nL ret :: gt) := gt_goodIn (fun w hw => by
  rcases List.mem_cons.mp hw with rfl | hw
  · exact h
  · exact hw)
section JC
variable {Γ : GT} {cc : ByteArray} {own : String} {nL kc ks : Nat} {rm : Room} {q : Nat → ClassId} {ws : va_W} {lv : List (Nat × Value)} {st : List Value} {pc : Nat}
variable {y : MethodName} {ccY : ByteArray} {nY frY loY index n : Nat} {S : Type} {Wd : S → va_W}

theorem j_callVI (g : gd Γ cc own nL rm q) {b : Nat} {As : List Value} {K : Int32 → S → Prop} {st0 : List Value} (hC : ctI q y ccY nY frY loY (.ref b :: As) ws Wd K) (L : clV own index y ccY nY (some .int) n) (q0 ci : Nat) {fs : List Value} {rc : vw_C} (he : ws[q0]? = some (b, .inr (ci, fs))) (hrc : jclasses[ci]? = some rc) (hcn : rc.1 = y.cls) (hfr : frY + 1 ≤ rm.frames) (hlo : 8 + (nY + 11) + loY ≤ rm.locals) (hcells : kc + 0 ≤ rm.cells) (hslots : ks + 0 ≤ rm.slots) (hAs : As.length = n) (hst : st0 = As.reverse ++ .ref b :: st) (hcat : (st.map fun v => v.category).sum ≤ 8) (hd : decode cc pc = .ok (.invokevirtual index, 3)) (k : ∀ (r : Int32) (u : S), K r u → jw Γ nL kc ks (Wd u) lv (.int r :: st) (pc + 3)) : jw Γ nL kc ks ws lv st0 pc := by
  obtain ⟨p, l, e, R, s, m, args, below, meth, c, D, A, Q⟩ := Γ
  obtain ⟨hx, hb, hml, hown, hts, hK, hA, hR⟩ := g
  intro H locs ls hP hD hS hl
  subst hR
  have hF : ∀ z, va_A ws H.size z → A z := fun z h => by
    rcases h with ⟨k9, e9, h9⟩ | h9
    · exact hD.2 k9 _ h9
    · exact hA z (Nat.le_trans hS.1 h9)
  refine va_calli (va_runV (As := As) (rest := st) ⟨hx, hb, hml, hown, hts⟩ (hC l D H.size) ⟨callB_of n hts (gt_call L.2.2.2.2.1) rfl rfl rfl (hts _ L.2.2.2.1) (hts _ L.1) L.2.2.2.2.2 ⟨hfr, hlo⟩, hts _ L.2.1, hts _ L.2.2.1⟩ ⟨jPre_blind, hcn ▸ va_recv hK hP hrc he, fun U hU hW => ⟨rfl, by rw [hU], by rw [hU]; exact hP, va_K.moved hW.alike hK, hD.weaken (fun _ _ _ _ => trivial)⟩⟩ rfl hAs hl.1 hst (lv_room hcat) hd ⟨hcells, hslots⟩) hS (fun z _ h => hF z h) hF (fun r_ u t H1 locs1 ht hvm hp hB hz1 hk1 hS1 => ?_)
  subst ht
  have hD2 : va_D A (Wd u) := hB.2.2.weaken (fun _ _ _ h => hF _ h)
  exact k r_ u hp _ locs1 ls hB.1 hD2 hS1 hl
theorem j_callVZ (g : gd Γ cc own nL rm q) {b : Nat} {As : List Value} {K : Int32 → S → Prop} {st0 : List Value} (hC : ctZ q y ccY nY frY loY (.ref b :: As) ws Wd K) (L : clV own index y ccY nY (some .boolean) n) (q0 ci : Nat) {fs : List Value} {rc : vw_C} (he : ws[q0]? = some (b, .inr (ci, fs))) (hrc : jclasses[ci]? = some rc) (hcn : rc.1 = y.cls) (hfr : frY + 1 ≤ rm.frames) (hlo : 8 + (nY + 11) + loY ≤ rm.locals) (hcells : kc + 0 ≤ rm.cells) (hslots : ks + 0 ≤ rm.slots) (hAs : As.length = n) (hst : st0 = As.reverse ++ .ref b :: st) (hcat : (st.map fun v => v.category).sum ≤ 8) (hd : decode cc pc = .ok (.invokevirtual index, 3)) (k : ∀ (r : Int32) (u : S), (r = 0 ∨ r = 1) → K r u → jw Γ nL kc ks (Wd u) lv (.int r :: st) (pc + 3)) : jw Γ nL kc ks ws lv st0 pc := by
  obtain ⟨p, l, e, R, s, m, args, below, meth, c, D, A, Q⟩ := Γ
  obtain ⟨hx, hb, hml, hown, hts, hK, hA, hR⟩ := g
  intro H locs ls hP hD hS hl
  subst hR
  have hF : ∀ z, va_A ws H.size z → A z := fun z h => by
    rcases h with ⟨k9, e9, h9⟩ | h9
    · exact hD.2 k9 _ h9
    · exact hA z (Nat.le_trans hS.1 h9)
  refine va_calli (va_runV (As := As) (rest := st) ⟨hx, hb, hml, hown, hts⟩ (hC l D H.size) ⟨callB_of n hts (gt_call L.2.2.2.2.1) rfl rfl rfl (hts _ L.2.2.2.1) (hts _ L.1) L.2.2.2.2.2 ⟨hfr, hlo⟩, hts _ L.2.1, hts _ L.2.2.1⟩ ⟨jPre_blind, hcn ▸ va_recv hK hP hrc he, fun U hU hW => ⟨rfl, by rw [hU], by rw [hU]; exact hP, va_K.moved hW.alike hK, hD.weaken (fun _ _ _ _ => trivial)⟩⟩ rfl hAs hl.1 hst (lv_room hcat) hd ⟨hcells, hslots⟩) hS (fun z _ h => hF z h) hF (fun r_ u t H1 locs1 ht hvm hp hB hz1 hk1 hS1 => ?_)
  subst ht
  have hD2 : va_D A (Wd u) := hB.2.2.weaken (fun _ _ _ h => hF _ h)
  exact k r_ u hp.1 hp.2 _ locs1 ls hB.1 hD2 hS1 hl
theorem j_callVV (g : gd Γ cc own nL rm q) {b : Nat} {As : List Value} {K : S → Prop} {st0 : List Value} (hC : ctV q y ccY nY frY loY (.ref b :: As) ws Wd K) (L : clV own index y ccY nY none n) (q0 ci : Nat) {fs : List Value} {rc : vw_C} (he : ws[q0]? = some (b, .inr (ci, fs))) (hrc : jclasses[ci]? = some rc) (hcn : rc.1 = y.cls) (hfr : frY + 1 ≤ rm.frames) (hlo : 8 + (nY + 11) + loY ≤ rm.locals) (hcells : kc + 0 ≤ rm.cells) (hslots : ks + 0 ≤ rm.slots) (hAs : As.length = n) (hst : st0 = As.reverse ++ .ref b :: st) (hcat : (st.map fun v => v.category).sum ≤ 8) (hd : decode cc pc = .ok (.invokevirtual index, 3)) (k : ∀ u : S, K u → jw Γ nL kc ks (Wd u) lv st (pc + 3)) : jw Γ nL kc ks ws lv st0 pc := by
  obtain ⟨p, l, e, R, s, m, args, below, meth, c, D, A, Q⟩ := Γ
  obtain ⟨hx, hb, hml, hown, hts, hK, hA, hR⟩ := g
  intro H locs ls hP hD hS hl
  subst hR
  have hF : ∀ z, va_A ws H.size z → A z := fun z h => by
    rcases h with ⟨k9, e9, h9⟩ | h9
    · exact hD.2 k9 _ h9
    · exact hA z (Nat.le_trans hS.1 h9)
  refine va_callv (va_runV (As := As) (rest := st) ⟨hx, hb, hml, hown, hts⟩ (hC l D H.size) ⟨callB_of n hts (gt_call L.2.2.2.2.1) rfl rfl rfl (hts _ L.2.2.2.1) (hts _ L.1) L.2.2.2.2.2 ⟨hfr, hlo⟩, hts _ L.2.1, hts _ L.2.2.1⟩ ⟨jPre_blind, hcn ▸ va_recv hK hP hrc he, fun U hU hW => ⟨rfl, by rw [hU], by rw [hU]; exact hP, va_K.moved hW.alike hK, hD.weaken (fun _ _ _ _ => trivial)⟩⟩ rfl hAs hl.1 hst (lv_room hcat) hd ⟨hcells, hslots⟩) hS (fun z _ h => hF z h) hF (fun u t H1 locs1 ht hvm hp hB hz1 hk1 hS1 => ?_)
  subst ht
  have hD2 : va_D A (Wd u) := hB.2.2.weaken (fun _ _ _ h => hF _ h)
  exact k u hp _ locs1 ls hB.1 hD2 hS1 hl
theorem j_callVQ (g : gd Γ cc own nL rm q) {b : Nat} {As : List Value} {ad : Nat → Nat} {K : Option Nat → S → Prop} {st0 : List Value} (hC : ctQ q y ccY nY frY loY (.ref b :: As) ws ad Wd K) (L : clV own index y ccY nY (some (.object RX0)) n) (q0 ci : Nat) {fs : List Value} {rc : vw_C} (he : ws[q0]? = some (b, .inr (ci, fs))) (hrc : jclasses[ci]? = some rc) (hcn : rc.1 = y.cls) (hfr : frY + 1 ≤ rm.frames) (hlo : 8 + (nY + 11) + loY ≤ rm.locals) (hcells : kc + 0 ≤ rm.cells) (hslots : ks + 0 ≤ rm.slots) (hAs : As.length = n) (hst : st0 = As.reverse ++ .ref b :: st) (hcat : (st.map fun v => v.category).sum ≤ 8) (hd : decode cc pc = .ok (.invokevirtual index, 3)) (kn : ∀ u : S, K none u → jw Γ nL kc ks (Wd u) lv (.null :: st) (pc + 3)) (k : ∀ (i : Nat) (u : S), i < 6 → K (some i) u → jw Γ nL kc ks (Wd u) lv (.ref (ad i) :: st) (pc + 3)) : jw Γ nL kc ks ws lv st0 pc := by
  obtain ⟨p, l, e, R, s, m, args, below, meth, c, D, A, Q⟩ := Γ
  obtain ⟨hx, hb, hml, hown, hts, hK, hA, hR⟩ := g
  intro H locs ls hP hD hS hl
  subst hR
  have hF : ∀ z, va_A ws H.size z → A z := fun z h => by
    rcases h with ⟨k9, e9, h9⟩ | h9
    · exact hD.2 k9 _ h9
    · exact hA z (Nat.le_trans hS.1 h9)
  refine va_callq (va_runV (As := As) (rest := st) ⟨hx, hb, hml, hown, hts⟩ (hC l D H.size) ⟨callB_of n hts (gt_call L.2.2.2.2.1) rfl rfl rfl (hts _ L.2.2.2.1) (hts _ L.1) L.2.2.2.2.2 ⟨hfr, hlo⟩, hts _ L.2.1, hts _ L.2.2.1⟩ ⟨jPre_blind, hcn ▸ va_recv hK hP hrc he, fun U hU hW => ⟨rfl, by rw [hU], by rw [hU]; exact hP, va_K.moved hW.alike hK, hD.weaken (fun _ _ _ _ => trivial)⟩⟩ rfl hAs hl.1 hst (lv_room hcat) hd ⟨hcells, hslots⟩) hS (fun z _ h => hF z h) hF (fun r_ u t H1 locs1 ht hvm hp hB hz1 hk1 hS1 => ?_)
  subst ht
  have hD2 : va_D A (Wd u) := hB.2.2.weaken (fun _ _ _ h => hF _ h)
  obtain ⟨o, rfl, ho, hKo⟩ := hp
  cases o with
  | none => exact kn u hKo _ locs1 ls hB.1 hD2 hS1 hl
  | some i => exact k i u (ho i rfl) hKo _ locs1 ls hB.1 hD2 hS1 hl
theorem j_callSI (g : gd Γ cc own nL rm q) {As : List Value} {K : Int32 → S → Prop} {st0 : List Value} (hC : ctI q y ccY nY frY loY As ws Wd K) (L : clS own index y ccY nY (some .int) n) (hfr : frY + 1 ≤ rm.frames) (hlo : 8 + (nY + 11) + loY ≤ rm.locals) (hcells : kc + 0 ≤ rm.cells) (hslots : ks + 0 ≤ rm.slots) (hAs : As.length = n) (hst : st0 = As.reverse ++ st) (hcat : (st.map fun v => v.category).sum ≤ 8) (hd : decode cc pc = .ok (.invokestatic index, 3)) (k : ∀ (r : Int32) (u : S), K r u → jw Γ nL kc ks (Wd u) lv (.int r :: st) (pc + 3)) : jw Γ nL kc ks ws lv st0 pc := by
  obtain ⟨p, l, e, R, s, m, args, below, meth, c, D, A, Q⟩ := Γ
  obtain ⟨hx, hb, hml, hown, hts, hK, hA, hR⟩ := g
  intro H locs ls hP hD hS hl
  subst hR
  have hF : ∀ z, va_A ws H.size z → A z := fun z h => by
    rcases h with ⟨k9, e9, h9⟩ | h9
    · exact hD.2 k9 _ h9
    · exact hA z (Nat.le_trans hS.1 h9)
  refine va_calli (va_runS (As := As) (rest := st) ⟨hx, hb, hml, hown, hts⟩ (hC l D H.size) ⟨callB_of n hts (gt_call L.2.2.2.1) rfl rfl rfl (hts _ L.2.2.1) (hts _ L.1) L.2.2.2.2 ⟨hfr, hlo⟩, hts _ L.2.1⟩ ⟨jPre_blind, fun U hU hW => ⟨rfl, by rw [hU], by rw [hU]; exact hP, va_K.moved hW.alike hK, hD.weaken (fun _ _ _ _ => trivial)⟩⟩ rfl hAs hl.1 hst (lv_room hcat) hd ⟨hcells, hslots⟩) hS (fun z _ h => hF z h) hF (fun r_ u t H1 locs1 ht hvm hp hB hz1 hk1 hS1 => ?_)
  subst ht
  have hD2 : va_D A (Wd u) := hB.2.2.weaken (fun _ _ _ h => hF _ h)
  exact k r_ u hp _ locs1 ls hB.1 hD2 hS1 hl
theorem j_callSZ (g : gd Γ cc own nL rm q) {As : List Value} {K : Int32 → S → Prop} {st0 : List Value} (hC : ctZ q y ccY nY frY loY As ws Wd K) (L : clS own index y ccY nY (some .boolean) n) (hfr : frY + 1 ≤ rm.frames) (hlo : 8 + (nY + 11) + loY ≤ rm.locals) (hcells : kc + 0 ≤ rm.cells) (hslots : ks + 0 ≤ rm.slots) (hAs : As.length = n) (hst : st0 = As.reverse ++ st) (hcat : (st.map fun v => v.category).sum ≤ 8) (hd : decode cc pc = .ok (.invokestatic index, 3)) (k : ∀ (r : Int32) (u : S), (r = 0 ∨ r = 1) → K r u → jw Γ nL kc ks (Wd u) lv (.int r :: st) (pc + 3)) : jw Γ nL kc ks ws lv st0 pc := by
  obtain ⟨p, l, e, R, s, m, args, below, meth, c, D, A, Q⟩ := Γ
  obtain ⟨hx, hb, hml, hown, hts, hK, hA, hR⟩ := g
  intro H locs ls hP hD hS hl
  subst hR
  have hF : ∀ z, va_A ws H.size z → A z := fun z h => by
    rcases h with ⟨k9, e9, h9⟩ | h9
    · exact hD.2 k9 _ h9
    · exact hA z (Nat.le_trans hS.1 h9)
  refine va_calli (va_runS (As := As) (rest := st) ⟨hx, hb, hml, hown, hts⟩ (hC l D H.size) ⟨callB_of n hts (gt_call L.2.2.2.1) rfl rfl rfl (hts _ L.2.2.1) (hts _ L.1) L.2.2.2.2 ⟨hfr, hlo⟩, hts _ L.2.1⟩ ⟨jPre_blind, fun U hU hW => ⟨rfl, by rw [hU], by rw [hU]; exact hP, va_K.moved hW.alike hK, hD.weaken (fun _ _ _ _ => trivial)⟩⟩ rfl hAs hl.1 hst (lv_room hcat) hd ⟨hcells, hslots⟩) hS (fun z _ h => hF z h) hF (fun r_ u t H1 locs1 ht hvm hp hB hz1 hk1 hS1 => ?_)
  subst ht
  have hD2 : va_D A (Wd u) := hB.2.2.weaken (fun _ _ _ h => hF _ h)
  exact k r_ u hp.1 hp.2 _ locs1 ls hB.1 hD2 hS1 hl
theorem j_callSV (g : gd Γ cc own nL rm q) {As : List Value} {K : S → Prop} {st0 : List Value} (hC : ctV q y ccY nY frY loY As ws Wd K) (L : clS own index y ccY nY none n) (hfr : frY + 1 ≤ rm.frames) (hlo : 8 + (nY + 11) + loY ≤ rm.locals) (hcells : kc + 0 ≤ rm.cells) (hslots : ks + 0 ≤ rm.slots) (hAs : As.length = n) (hst : st0 = As.reverse ++ st) (hcat : (st.map fun v => v.category).sum ≤ 8) (hd : decode cc pc = .ok (.invokestatic index, 3)) (k : ∀ u : S, K u → jw Γ nL kc ks (Wd u) lv st (pc + 3)) : jw Γ nL kc ks ws lv st0 pc := by
  obtain ⟨p, l, e, R, s, m, args, below, meth, c, D, A, Q⟩ := Γ
  obtain ⟨hx, hb, hml, hown, hts, hK, hA, hR⟩ := g
  intro H locs ls hP hD hS hl
  subst hR
  have hF : ∀ z, va_A ws H.size z → A z := fun z h => by
    rcases h with ⟨k9, e9, h9⟩ | h9
    · exact hD.2 k9 _ h9
    · exact hA z (Nat.le_trans hS.1 h9)
  refine va_callv (va_runS (As := As) (rest := st) ⟨hx, hb, hml, hown, hts⟩ (hC l D H.size) ⟨callB_of n hts (gt_call L.2.2.2.1) rfl rfl rfl (hts _ L.2.2.1) (hts _ L.1) L.2.2.2.2 ⟨hfr, hlo⟩, hts _ L.2.1⟩ ⟨jPre_blind, fun U hU hW => ⟨rfl, by rw [hU], by rw [hU]; exact hP, va_K.moved hW.alike hK, hD.weaken (fun _ _ _ _ => trivial)⟩⟩ rfl hAs hl.1 hst (lv_room hcat) hd ⟨hcells, hslots⟩) hS (fun z _ h => hF z h) hF (fun u t H1 locs1 ht hvm hp hB hz1 hk1 hS1 => ?_)
  subst ht
  have hD2 : va_D A (Wd u) := hB.2.2.weaken (fun _ _ _ h => hF _ h)
  exact k u hp _ locs1 ls hB.1 hD2 hS1 hl
end JC
end
section
/-! the worlds: the class's 35 cells, the reference's 17 -/
theorem vp_lt {i : Int32} {n : Nat} (h : vp_in i n) : i.toNatClampNeg < n := Nat.not_le.mp fun q => h (Or.inr q)
def jn {β : Type} (A : β → Prop) (B : β) : Prop := A B
theorem jn_cut {β : Type} {A : β → Prop} {B : β} {G : Prop} (h : jn A B) (k : ∀ Z : β, Z = B → A Z → G) : G := k B rfl h
def cgW (a : Nat → Nat) (q : Nat → ClassId) (sz : Int32) (pr : Nat → Int32) (pm : Nat → Nat) (kv : Nat → Int32) (kn : Nat → Int32) (kr : Nat → Int32) (kt : Nat → Int32) (kb : Nat → Int32) (ks : Nat → Int32) (kj : Nat → Int32) (kw : Nat → Int32) (kg : Nat → Int32) (wd : Nat → Nat → Int64) (fw : Nat → Nat → Int32) (ad : Nat → Int32) (bk : Nat → Int32) (md : Int32) (cr : Int32) (ow : Int32) (hd : Int32) : va_W :=
  [(a 0, .inr (5, [.ref (a 1), .ref (a (17 + 0)), .ref (a 6), .ref (a 8), .ref (a 5), .int md, .int cr, .int ow, .int hd])),
   (a 1, .inr (3, [.ref (a 2), .ref (a 3), .ref (a 4), .int sz])),
   (a 2, .inl (q 3, 6, .inr (.inr (.inr (.inr (fun j => some (a (11 + j)))))))),
   (a 3, .inl (q 3, 6, .inr (.inr (.inr (.inr (fun j => some (a (11 + pm j)))))))),
   (a 4, .inl (q 0, 6, .inl pr)),
   (a 5, .inl (q 0, 6, .inl bk)),
   (a 6, .inr (4, [.ref (a 7)])),
   (a 7, .inl (q 5, 6, .inr (.inr (.inr (.inr (fun j => some (a (29 + j)))))))),
   (a 8, .inr (1, [.ref (a 9), .ref (a 10)])),
   (a 9, .inl (q 0, 6, .inl ad)),
   (a 10, .inl (q 4, 5, .inr (.inr (.inr (.inr (fun j => some (a (17 + (j + 1))))))))),
   (a (11 + 0), .inr (0, [.int (kv 0), .int (kn 0), .int (kr 0), .int (kt 0), .int (kb 0), .int (ks 0), .int (kj 0), .int (kw 0), .int (kg 0)])),
   (a (11 + 1), .inr (0, [.int (kv 1), .int (kn 1), .int (kr 1), .int (kt 1), .int (kb 1), .int (ks 1), .int (kj 1), .int (kw 1), .int (kg 1)])),
   (a (11 + 2), .inr (0, [.int (kv 2), .int (kn 2), .int (kr 2), .int (kt 2), .int (kb 2), .int (ks 2), .int (kj 2), .int (kw 2), .int (kg 2)])),
   (a (11 + 3), .inr (0, [.int (kv 3), .int (kn 3), .int (kr 3), .int (kt 3), .int (kb 3), .int (ks 3), .int (kj 3), .int (kw 3), .int (kg 3)])),
   (a (11 + 4), .inr (0, [.int (kv 4), .int (kn 4), .int (kr 4), .int (kt 4), .int (kb 4), .int (ks 4), .int (kj 4), .int (kw 4), .int (kg 4)])),
   (a (11 + 5), .inr (0, [.int (kv 5), .int (kn 5), .int (kr 5), .int (kt 5), .int (kb 5), .int (ks 5), .int (kj 5), .int (kw 5), .int (kg 5)])),
   (a (17 + 0), .inr (2, [.ref (a (23 + 0))])),
   (a (17 + 1), .inr (2, [.ref (a (23 + 1))])),
   (a (17 + 2), .inr (2, [.ref (a (23 + 2))])),
   (a (17 + 3), .inr (2, [.ref (a (23 + 3))])),
   (a (17 + 4), .inr (2, [.ref (a (23 + 4))])),
   (a (17 + 5), .inr (2, [.ref (a (23 + 5))])),
   (a (23 + 0), .inl (q 1, 16, .inr (.inl (wd 0)))),
   (a (23 + 1), .inl (q 1, 16, .inr (.inl (wd 1)))),
   (a (23 + 2), .inl (q 1, 16, .inr (.inl (wd 2)))),
   (a (23 + 3), .inl (q 1, 16, .inr (.inl (wd 3)))),
   (a (23 + 4), .inl (q 1, 16, .inr (.inl (wd 4)))),
   (a (23 + 5), .inl (q 1, 16, .inr (.inl (wd 5)))),
   (a (29 + 0), .inl (q 0, 1000, .inl (fw 0))),
   (a (29 + 1), .inl (q 0, 1000, .inl (fw 1))),
   (a (29 + 2), .inl (q 0, 1000, .inl (fw 2))),
   (a (29 + 3), .inl (q 0, 1000, .inl (fw 3))),
   (a (29 + 4), .inl (q 0, 1000, .inl (fw 4))),
   (a (29 + 5), .inl (q 0, 1000, .inl (fw 5)))]
def mdW (a : Nat → Nat) (q : Nat → ClassId) (mtd : Int32) (mnk : Int32) (mva : Nat → Int32) (mno : Nat → Int32) (mro : Nat → Int32) (mtu : Nat → Int32) (mbx : Nat → Int32) (mst : Nat → Int32) (mja : Nat → Int32) (mpr : Nat → Int32) (mcr : Int32) (mow : Int32) (mhd : Int32) (mmo : Int32) (mbk : Nat → Int32) (mca : Nat → Int32) (mfr : Nat → Int32) (mrs : Int32) (mrk : Nat → Int32) (mfe : Nat → Int32) (mus : Nat → Int32) (mgi : Nat → Int32) (maj : Nat → Int32) : va_W :=
  [(a 0, .inr (6, [.int mtd, .int mnk, .ref (a 1), .ref (a 2), .ref (a 3), .ref (a 4), .ref (a 5), .ref (a 6), .ref (a 7), .ref (a 8), .int mcr, .int mow, .int mhd, .int mmo, .ref (a 9), .ref (a 10), .ref (a 11), .int mrs, .ref (a 12), .ref (a 13), .ref (a 14), .ref (a 15), .ref (a 16)])),
   (a 1, .inl (q 0, 6, .inl mva)),
   (a 2, .inl (q 2, 6, .inl mno)),
   (a 3, .inl (q 0, 6, .inl mro)),
   (a 4, .inl (q 0, 6, .inl mtu)),
   (a 5, .inl (q 0, 6, .inl mbx)),
   (a 6, .inl (q 2, 6, .inl mst)),
   (a 7, .inl (q 0, 6, .inl mja)),
   (a 8, .inl (q 0, 6, .inl mpr)),
   (a 9, .inl (q 0, 6, .inl mbk)),
   (a 10, .inl (q 2, 1000, .inl mca)),
   (a 11, .inl (q 0, 1000, .inl mfr)),
   (a 12, .inl (q 0, 6, .inl mrk)),
   (a 13, .inl (q 0, 7000, .inl mfe)),
   (a 14, .inl (q 0, 6, .inl mus)),
   (a 15, .inl (q 0, 6, .inl mgi)),
   (a 16, .inl (q 0, 6, .inl maj))]
section CGW
variable {a : Nat → Nat} {q : Nat → ClassId} {sz : Int32} {pr : Nat → Int32} {pm : Nat → Nat} {kv : Nat → Int32} {kn : Nat → Int32} {kr : Nat → Int32} {kt : Nat → Int32} {kb : Nat → Int32} {ks : Nat → Int32} {kj : Nat → Int32} {kw : Nat → Int32} {kg : Nat → Int32} {wd : Nat → Nat → Int64} {fw : Nat → Nat → Int32} {ad : Nat → Int32} {bk : Nat → Int32} {md : Int32} {cr : Int32} {ow : Int32} {hd : Int32}
theorem cg_0 : (cgW a q sz pr pm kv kn kr kt kb ks kj kw kg wd fw ad bk md cr ow hd)[0]? = some (a 0, .inr (5, [.ref (a 1), .ref (a (17 + 0)), .ref (a 6), .ref (a 8), .ref (a 5), .int md, .int cr, .int ow, .int hd])) := rfl
theorem cg_1 : (cgW a q sz pr pm kv kn kr kt kb ks kj kw kg wd fw ad bk md cr ow hd)[1]? = some (a 1, .inr (3, [.ref (a 2), .ref (a 3), .ref (a 4), .int sz])) := rfl
theorem cg_2 : (cgW a q sz pr pm kv kn kr kt kb ks kj kw kg wd fw ad bk md cr ow hd)[2]? = some (a 2, .inl (q 3, 6, .inr (.inr (.inr (.inr (fun j => some (a (11 + j)))))))) := rfl
theorem cg_3 : (cgW a q sz pr pm kv kn kr kt kb ks kj kw kg wd fw ad bk md cr ow hd)[3]? = some (a 3, .inl (q 3, 6, .inr (.inr (.inr (.inr (fun j => some (a (11 + pm j)))))))) := rfl
theorem cg_4 : (cgW a q sz pr pm kv kn kr kt kb ks kj kw kg wd fw ad bk md cr ow hd)[4]? = some (a 4, .inl (q 0, 6, .inl pr)) := rfl
theorem cg_5 : (cgW a q sz pr pm kv kn kr kt kb ks kj kw kg wd fw ad bk md cr ow hd)[5]? = some (a 5, .inl (q 0, 6, .inl bk)) := rfl
theorem cg_6 : (cgW a q sz pr pm kv kn kr kt kb ks kj kw kg wd fw ad bk md cr ow hd)[6]? = some (a 6, .inr (4, [.ref (a 7)])) := rfl
theorem cg_7 : (cgW a q sz pr pm kv kn kr kt kb ks kj kw kg wd fw ad bk md cr ow hd)[7]? = some (a 7, .inl (q 5, 6, .inr (.inr (.inr (.inr (fun j => some (a (29 + j)))))))) := rfl
theorem cg_8 : (cgW a q sz pr pm kv kn kr kt kb ks kj kw kg wd fw ad bk md cr ow hd)[8]? = some (a 8, .inr (1, [.ref (a 9), .ref (a 10)])) := rfl
theorem cg_9 : (cgW a q sz pr pm kv kn kr kt kb ks kj kw kg wd fw ad bk md cr ow hd)[9]? = some (a 9, .inl (q 0, 6, .inl ad)) := rfl
theorem cg_10 : (cgW a q sz pr pm kv kn kr kt kb ks kj kw kg wd fw ad bk md cr ow hd)[10]? = some (a 10, .inl (q 4, 5, .inr (.inr (.inr (.inr (fun j => some (a (17 + (j + 1))))))))) := rfl
theorem cg_K {i : Nat} (hi : i < 6) : (cgW a q sz pr pm kv kn kr kt kb ks kj kw kg wd fw ad bk md cr ow hd)[11 + i]? = some (a (11 + i), .inr (0, [.int (kv i), .int (kn i), .int (kr i), .int (kt i), .int (kb i), .int (ks i), .int (kj i), .int (kw i), .int (kg i)])) := by
  match i, hi with
  | 0, _ => rfl
  | 1, _ => rfl
  | 2, _ => rfl
  | 3, _ => rfl
  | 4, _ => rfl
  | 5, _ => rfl
theorem cg_S {i : Nat} (hi : i < 6) : (cgW a q sz pr pm kv kn kr kt kb ks kj kw kg wd fw ad bk md cr ow hd)[17 + i]? = some (a (17 + i), .inr (2, [.ref (a (23 + i))])) := by
  match i, hi with
  | 0, _ => rfl
  | 1, _ => rfl
  | 2, _ => rfl
  | 3, _ => rfl
  | 4, _ => rfl
  | 5, _ => rfl
theorem cg_w {i : Nat} (hi : i < 6) : (cgW a q sz pr pm kv kn kr kt kb ks kj kw kg wd fw ad bk md cr ow hd)[23 + i]? = some (a (23 + i), .inl (q 1, 16, .inr (.inl (wd i)))) := by
  match i, hi with
  | 0, _ => rfl
  | 1, _ => rfl
  | 2, _ => rfl
  | 3, _ => rfl
  | 4, _ => rfl
  | 5, _ => rfl
theorem cg_r {i : Nat} (hi : i < 6) : (cgW a q sz pr pm kv kn kr kt kb ks kj kw kg wd fw ad bk md cr ow hd)[29 + i]? = some (a (29 + i), .inl (q 0, 1000, .inl (fw i))) := by
  match i, hi with
  | 0, _ => rfl
  | 1, _ => rfl
  | 2, _ => rfl
  | 3, _ => rfl
  | 4, _ => rfl
  | 5, _ => rfl
theorem cg_s_kv {x : Int32} {i : Nat} (hi : i < 6) : (cgW a q sz pr pm kv kn kr kt kb ks kj kw kg wd fw ad bk md cr ow hd).set (11 + i) (a (11 + i), .inr (0, List.set [.int (kv i), .int (kn i), .int (kr i), .int (kt i), .int (kb i), .int (ks i), .int (kj i), .int (kw i), .int (kg i)] 0 (.int x))) = (cgW a q sz pr pm (upd kv i x) kn kr kt kb ks kj kw kg wd fw ad bk md cr ow hd) := by
  match i, hi with
  | 0, _ => rfl
  | 1, _ => rfl
  | 2, _ => rfl
  | 3, _ => rfl
  | 4, _ => rfl
  | 5, _ => rfl
theorem cg_s_kn {x : Int32} {i : Nat} (hi : i < 6) : (cgW a q sz pr pm kv kn kr kt kb ks kj kw kg wd fw ad bk md cr ow hd).set (11 + i) (a (11 + i), .inr (0, List.set [.int (kv i), .int (kn i), .int (kr i), .int (kt i), .int (kb i), .int (ks i), .int (kj i), .int (kw i), .int (kg i)] 1 (.int x))) = (cgW a q sz pr pm kv (upd kn i x) kr kt kb ks kj kw kg wd fw ad bk md cr ow hd) := by
  match i, hi with
  | 0, _ => rfl
  | 1, _ => rfl
  | 2, _ => rfl
  | 3, _ => rfl
  | 4, _ => rfl
  | 5, _ => rfl
theorem cg_s_kr {x : Int32} {i : Nat} (hi : i < 6) : (cgW a q sz pr pm kv kn kr kt kb ks kj kw kg wd fw ad bk md cr ow hd).set (11 + i) (a (11 + i), .inr (0, List.set [.int (kv i), .int (kn i), .int (kr i), .int (kt i), .int (kb i), .int (ks i), .int (kj i), .int (kw i), .int (kg i)] 2 (.int x))) = (cgW a q sz pr pm kv kn (upd kr i x) kt kb ks kj kw kg wd fw ad bk md cr ow hd) := by
  match i, hi with
  | 0, _ => rfl
  | 1, _ => rfl
  | 2, _ => rfl
  | 3, _ => rfl
  | 4, _ => rfl
  | 5, _ => rfl
theorem cg_s_kt {x : Int32} {i : Nat} (hi : i < 6) : (cgW a q sz pr pm kv kn kr kt kb ks kj kw kg wd fw ad bk md cr ow hd).set (11 + i) (a (11 + i), .inr (0, List.set [.int (kv i), .int (kn i), .int (kr i), .int (kt i), .int (kb i), .int (ks i), .int (kj i), .int (kw i), .int (kg i)] 3 (.int x))) = (cgW a q sz pr pm kv kn kr (upd kt i x) kb ks kj kw kg wd fw ad bk md cr ow hd) := by
  match i, hi with
  | 0, _ => rfl
  | 1, _ => rfl
  | 2, _ => rfl
  | 3, _ => rfl
  | 4, _ => rfl
  | 5, _ => rfl
theorem cg_s_kb {x : Int32} {i : Nat} (hi : i < 6) : (cgW a q sz pr pm kv kn kr kt kb ks kj kw kg wd fw ad bk md cr ow hd).set (11 + i) (a (11 + i), .inr (0, List.set [.int (kv i), .int (kn i), .int (kr i), .int (kt i), .int (kb i), .int (ks i), .int (kj i), .int (kw i), .int (kg i)] 4 (.int x))) = (cgW a q sz pr pm kv kn kr kt (upd kb i x) ks kj kw kg wd fw ad bk md cr ow hd) := by
  match i, hi with
  | 0, _ => rfl
  | 1, _ => rfl
  | 2, _ => rfl
  | 3, _ => rfl
  | 4, _ => rfl
  | 5, _ => rfl
theorem cg_s_ks {x : Int32} {i : Nat} (hi : i < 6) : (cgW a q sz pr pm kv kn kr kt kb ks kj kw kg wd fw ad bk md cr ow hd).set (11 + i) (a (11 + i), .inr (0, List.set [.int (kv i), .int (kn i), .int (kr i), .int (kt i), .int (kb i), .int (ks i), .int (kj i), .int (kw i), .int (kg i)] 5 (.int x))) = (cgW a q sz pr pm kv kn kr kt kb (upd ks i x) kj kw kg wd fw ad bk md cr ow hd) := by
  match i, hi with
  | 0, _ => rfl
  | 1, _ => rfl
  | 2, _ => rfl
  | 3, _ => rfl
  | 4, _ => rfl
  | 5, _ => rfl
theorem cg_s_kj {x : Int32} {i : Nat} (hi : i < 6) : (cgW a q sz pr pm kv kn kr kt kb ks kj kw kg wd fw ad bk md cr ow hd).set (11 + i) (a (11 + i), .inr (0, List.set [.int (kv i), .int (kn i), .int (kr i), .int (kt i), .int (kb i), .int (ks i), .int (kj i), .int (kw i), .int (kg i)] 6 (.int x))) = (cgW a q sz pr pm kv kn kr kt kb ks (upd kj i x) kw kg wd fw ad bk md cr ow hd) := by
  match i, hi with
  | 0, _ => rfl
  | 1, _ => rfl
  | 2, _ => rfl
  | 3, _ => rfl
  | 4, _ => rfl
  | 5, _ => rfl
theorem cg_s_kw {x : Int32} {i : Nat} (hi : i < 6) : (cgW a q sz pr pm kv kn kr kt kb ks kj kw kg wd fw ad bk md cr ow hd).set (11 + i) (a (11 + i), .inr (0, List.set [.int (kv i), .int (kn i), .int (kr i), .int (kt i), .int (kb i), .int (ks i), .int (kj i), .int (kw i), .int (kg i)] 7 (.int x))) = (cgW a q sz pr pm kv kn kr kt kb ks kj (upd kw i x) kg wd fw ad bk md cr ow hd) := by
  match i, hi with
  | 0, _ => rfl
  | 1, _ => rfl
  | 2, _ => rfl
  | 3, _ => rfl
  | 4, _ => rfl
  | 5, _ => rfl
theorem cg_s_kg {x : Int32} {i : Nat} (hi : i < 6) : (cgW a q sz pr pm kv kn kr kt kb ks kj kw kg wd fw ad bk md cr ow hd).set (11 + i) (a (11 + i), .inr (0, List.set [.int (kv i), .int (kn i), .int (kr i), .int (kt i), .int (kb i), .int (ks i), .int (kj i), .int (kw i), .int (kg i)] 8 (.int x))) = (cgW a q sz pr pm kv kn kr kt kb ks kj kw (upd kg i x) wd fw ad bk md cr ow hd) := by
  match i, hi with
  | 0, _ => rfl
  | 1, _ => rfl
  | 2, _ => rfl
  | 3, _ => rfl
  | 4, _ => rfl
  | 5, _ => rfl
theorem cg_s_w {g : Nat → Int64} {i : Nat} (hi : i < 6) : (cgW a q sz pr pm kv kn kr kt kb ks kj kw kg wd fw ad bk md cr ow hd).set (23 + i) (a (23 + i), .inl (q 1, 16, .inr (.inl g))) = (cgW a q sz pr pm kv kn kr kt kb ks kj kw kg (va_up wd i g) fw ad bk md cr ow hd) := by
  match i, hi with
  | 0, _ => rfl
  | 1, _ => rfl
  | 2, _ => rfl
  | 3, _ => rfl
  | 4, _ => rfl
  | 5, _ => rfl
theorem cg_s_r {g : Nat → Int32} {i : Nat} (hi : i < 6) : (cgW a q sz pr pm kv kn kr kt kb ks kj kw kg wd fw ad bk md cr ow hd).set (29 + i) (a (29 + i), .inl (q 0, 1000, .inl g)) = (cgW a q sz pr pm kv kn kr kt kb ks kj kw kg wd (va_up fw i g) ad bk md cr ow hd) := by
  match i, hi with
  | 0, _ => rfl
  | 1, _ => rfl
  | 2, _ => rfl
  | 3, _ => rfl
  | 4, _ => rfl
  | 5, _ => rfl
theorem cg_up_pm {k x : Nat} : va_up (fun j => some (a (11 + pm j))) k (some (a (11 + x))) = fun j => some (a (11 + va_up pm k x j)) := by
  funext j
  unfold va_up
  by_cases h : j = k <;> simp [h]
theorem cg_s_pm {k x : Nat} : (cgW a q sz pr pm kv kn kr kt kb ks kj kw kg wd fw ad bk md cr ow hd).set 3 (a 3, .inl (q 3, 6, .inr (.inr (.inr (.inr (va_up (fun j => some (a (11 + pm j))) k (some (a (11 + x))))))))) = (cgW a q sz pr (va_up pm k x) kv kn kr kt kb ks kj kw kg wd fw ad bk md cr ow hd) := by
  rw [cg_up_pm]
  rfl
end CGW
section MDW
variable {a : Nat → Nat} {q : Nat → ClassId} {mtd : Int32} {mnk : Int32} {mva : Nat → Int32} {mno : Nat → Int32} {mro : Nat → Int32} {mtu : Nat → Int32} {mbx : Nat → Int32} {mst : Nat → Int32} {mja : Nat → Int32} {mpr : Nat → Int32} {mcr : Int32} {mow : Int32} {mhd : Int32} {mmo : Int32} {mbk : Nat → Int32} {mca : Nat → Int32} {mfr : Nat → Int32} {mrs : Int32} {mrk : Nat → Int32} {mfe : Nat → Int32} {mus : Nat → Int32} {mgi : Nat → Int32} {maj : Nat → Int32}
theorem md_0 : (mdW a q mtd mnk mva mno mro mtu mbx mst mja mpr mcr mow mhd mmo mbk mca mfr mrs mrk mfe mus mgi maj)[0]? = some (a 0, .inr (6, [.int mtd, .int mnk, .ref (a 1), .ref (a 2), .ref (a 3), .ref (a 4), .ref (a 5), .ref (a 6), .ref (a 7), .ref (a 8), .int mcr, .int mow, .int mhd, .int mmo, .ref (a 9), .ref (a 10), .ref (a 11), .int mrs, .ref (a 12), .ref (a 13), .ref (a 14), .ref (a 15), .ref (a 16)])) := rfl
theorem md_1 : (mdW a q mtd mnk mva mno mro mtu mbx mst mja mpr mcr mow mhd mmo mbk mca mfr mrs mrk mfe mus mgi maj)[1]? = some (a 1, .inl (q 0, 6, .inl mva)) := rfl
theorem md_2 : (mdW a q mtd mnk mva mno mro mtu mbx mst mja mpr mcr mow mhd mmo mbk mca mfr mrs mrk mfe mus mgi maj)[2]? = some (a 2, .inl (q 2, 6, .inl mno)) := rfl
theorem md_3 : (mdW a q mtd mnk mva mno mro mtu mbx mst mja mpr mcr mow mhd mmo mbk mca mfr mrs mrk mfe mus mgi maj)[3]? = some (a 3, .inl (q 0, 6, .inl mro)) := rfl
theorem md_4 : (mdW a q mtd mnk mva mno mro mtu mbx mst mja mpr mcr mow mhd mmo mbk mca mfr mrs mrk mfe mus mgi maj)[4]? = some (a 4, .inl (q 0, 6, .inl mtu)) := rfl
theorem md_5 : (mdW a q mtd mnk mva mno mro mtu mbx mst mja mpr mcr mow mhd mmo mbk mca mfr mrs mrk mfe mus mgi maj)[5]? = some (a 5, .inl (q 0, 6, .inl mbx)) := rfl
theorem md_6 : (mdW a q mtd mnk mva mno mro mtu mbx mst mja mpr mcr mow mhd mmo mbk mca mfr mrs mrk mfe mus mgi maj)[6]? = some (a 6, .inl (q 2, 6, .inl mst)) := rfl
theorem md_7 : (mdW a q mtd mnk mva mno mro mtu mbx mst mja mpr mcr mow mhd mmo mbk mca mfr mrs mrk mfe mus mgi maj)[7]? = some (a 7, .inl (q 0, 6, .inl mja)) := rfl
theorem md_8 : (mdW a q mtd mnk mva mno mro mtu mbx mst mja mpr mcr mow mhd mmo mbk mca mfr mrs mrk mfe mus mgi maj)[8]? = some (a 8, .inl (q 0, 6, .inl mpr)) := rfl
theorem md_9 : (mdW a q mtd mnk mva mno mro mtu mbx mst mja mpr mcr mow mhd mmo mbk mca mfr mrs mrk mfe mus mgi maj)[9]? = some (a 9, .inl (q 0, 6, .inl mbk)) := rfl
theorem md_10 : (mdW a q mtd mnk mva mno mro mtu mbx mst mja mpr mcr mow mhd mmo mbk mca mfr mrs mrk mfe mus mgi maj)[10]? = some (a 10, .inl (q 2, 1000, .inl mca)) := rfl
theorem md_11 : (mdW a q mtd mnk mva mno mro mtu mbx mst mja mpr mcr mow mhd mmo mbk mca mfr mrs mrk mfe mus mgi maj)[11]? = some (a 11, .inl (q 0, 1000, .inl mfr)) := rfl
theorem md_12 : (mdW a q mtd mnk mva mno mro mtu mbx mst mja mpr mcr mow mhd mmo mbk mca mfr mrs mrk mfe mus mgi maj)[12]? = some (a 12, .inl (q 0, 6, .inl mrk)) := rfl
theorem md_13 : (mdW a q mtd mnk mva mno mro mtu mbx mst mja mpr mcr mow mhd mmo mbk mca mfr mrs mrk mfe mus mgi maj)[13]? = some (a 13, .inl (q 0, 7000, .inl mfe)) := rfl
theorem md_14 : (mdW a q mtd mnk mva mno mro mtu mbx mst mja mpr mcr mow mhd mmo mbk mca mfr mrs mrk mfe mus mgi maj)[14]? = some (a 14, .inl (q 0, 6, .inl mus)) := rfl
theorem md_15 : (mdW a q mtd mnk mva mno mro mtu mbx mst mja mpr mcr mow mhd mmo mbk mca mfr mrs mrk mfe mus mgi maj)[15]? = some (a 15, .inl (q 0, 6, .inl mgi)) := rfl
theorem md_16 : (mdW a q mtd mnk mva mno mro mtu mbx mst mja mpr mcr mow mhd mmo mbk mca mfr mrs mrk mfe mus mgi maj)[16]? = some (a 16, .inl (q 0, 6, .inl maj)) := rfl
end MDW
end
section
/-! links of fields and calls -/
theorem nz_z {x : Int32} (h : x = 0 ∨ x = 1) : narrow .boolean (.int x) = .int x := by rcases h with rfl | rfl <;> rfl
theorem nz_f {x : Int32} (h : x = 0 ∨ x = 1) : fits .boolean (.int x) = true := by rcases h with rfl | rfl <;> rfl
theorem nz_v {x : Int32} (h : x = 0 ∨ x = 1) : vp_nar .boolean x = x := by rcases h with rfl | rfl <;> rfl
theorem lm_i : Cond.initialized "java/lang/Math" ∈ gt := gt_in (by decide +kernel) rfl
theorem lm_max_s : Cond.static Lib.Math.max.name ∈ gt := gt_in (by decide +kernel) rfl
theorem lm_min_s : Cond.static Lib.Math.min.name ∈ gt := gt_in (by decide +kernel) rfl
theorem lm_max_c : Cond.code Lib.Math.max.name Lib.Math.max.code 2 (some .int) ∈ gt := gt_in (by decide +kernel) rfl
theorem lm_min_c : Cond.code Lib.Math.min.name Lib.Math.min.code 2 (some .int) ∈ gt := gt_in (by decide +kernel) rfl
theorem ws_X0 : ∀ w ∈ u_ws RX0 TX0 9, w ∈ gt := by decide +kernel
theorem ws_X1 : ∀ w ∈ u_ws RX1 TX1 2, w ∈ gt := by decide +kernel
theorem ws_X2 : ∀ w ∈ u_ws RX2 TX2 1, w ∈ gt := by decide +kernel
theorem ws_X3 : ∀ w ∈ u_ws RX3 TX3 4, w ∈ gt := by decide +kernel
theorem ws_X4 : ∀ w ∈ u_ws RX4 TX4 1, w ∈ gt := by decide +kernel
theorem ws_X5 : ∀ w ∈ u_ws RX5 TX5 9, w ∈ gt := by decide +kernel
theorem ws_X6 : ∀ w ∈ u_ws RX6 TX6 23, w ∈ gt := by decide +kernel
theorem cl_X0_40 : clV RX0 40 yX0_gives cX0_gives 1 (some .boolean) 0 := ⟨gt_in (by decide +kernel) rfl, gt_in (by decide +kernel) rfl, gt_in (by decide +kernel) rfl, gt_in (by decide +kernel) rfl, gt_in (by decide +kernel) rfl, by decide +kernel⟩
theorem cl_X1_22 : clV RX1 22 yX3_collect cX3_collect 4 none 2 := ⟨gt_in (by decide +kernel) rfl, gt_in (by decide +kernel) rfl, gt_in (by decide +kernel) rfl, gt_in (by decide +kernel) rfl, gt_in (by decide +kernel) rfl, by decide +kernel⟩
theorem cl_X1_28 : clS RX1 28 yJ7_fill_53178 cJ7_fill_53178 4 none 2 := ⟨gt_in (by decide +kernel) rfl, gt_in (by decide +kernel) rfl, gt_in (by decide +kernel) rfl, gt_in (by decide +kernel) rfl, by decide +kernel⟩
theorem cl_X1_34 : clS RX1 34 yX1_putsOut cX1_putsOut 7 (some .boolean) 5 := ⟨gt_in (by decide +kernel) rfl, gt_in (by decide +kernel) rfl, gt_in (by decide +kernel) rfl, gt_in (by decide +kernel) rfl, by decide +kernel⟩
theorem cl_X1_38 : clV RX1 38 yX1_isOut cX1_isOut 7 (some .boolean) 2 := ⟨gt_in (by decide +kernel) rfl, gt_in (by decide +kernel) rfl, gt_in (by decide +kernel) rfl, gt_in (by decide +kernel) rfl, gt_in (by decide +kernel) rfl, by decide +kernel⟩
theorem cl_X1_50 : clV RX1 50 yX0_gives cX0_gives 1 (some .boolean) 0 := ⟨gt_in (by decide +kernel) rfl, gt_in (by decide +kernel) rfl, gt_in (by decide +kernel) rfl, gt_in (by decide +kernel) rfl, gt_in (by decide +kernel) rfl, by decide +kernel⟩
theorem cl_X1_56 : clV RX1 56 yX0_free cX0_free 1 (some .int) 0 := ⟨gt_in (by decide +kernel) rfl, gt_in (by decide +kernel) rfl, gt_in (by decide +kernel) rfl, gt_in (by decide +kernel) rfl, gt_in (by decide +kernel) rfl, by decide +kernel⟩
theorem cl_X1_60 : clV RX1 60 yX2_copyOf cX2_copyOf 2 none 1 := ⟨gt_in (by decide +kernel) rfl, gt_in (by decide +kernel) rfl, gt_in (by decide +kernel) rfl, gt_in (by decide +kernel) rfl, gt_in (by decide +kernel) rfl, by decide +kernel⟩
theorem cl_X1_67 : clV RX1 67 yX2_addCoins cX2_addCoins 6 none 2 := ⟨gt_in (by decide +kernel) rfl, gt_in (by decide +kernel) rfl, gt_in (by decide +kernel) rfl, gt_in (by decide +kernel) rfl, gt_in (by decide +kernel) rfl, by decide +kernel⟩
theorem cl_X1_75 : clV RX1 75 yX3_mayTake cX3_mayTake 9 (some .boolean) 5 := ⟨gt_in (by decide +kernel) rfl, gt_in (by decide +kernel) rfl, gt_in (by decide +kernel) rfl, gt_in (by decide +kernel) rfl, gt_in (by decide +kernel) rfl, by decide +kernel⟩
theorem cl_X2_15 : clS RX2 15 yJ7_fill_d0a16 cJ7_fill_d0a16 5 none 2 := ⟨gt_in (by decide +kernel) rfl, gt_in (by decide +kernel) rfl, gt_in (by decide +kernel) rfl, gt_in (by decide +kernel) rfl, by decide +kernel⟩
theorem cl_X2_33 : clV RX2 33 yX2_addShifted cX2_addShifted 7 none 1 := ⟨gt_in (by decide +kernel) rfl, gt_in (by decide +kernel) rfl, gt_in (by decide +kernel) rfl, gt_in (by decide +kernel) rfl, gt_in (by decide +kernel) rfl, by decide +kernel⟩
theorem cl_X2_37 : clV RX2 37 yX2_has cX2_has 2 (some .boolean) 1 := ⟨gt_in (by decide +kernel) rfl, gt_in (by decide +kernel) rfl, gt_in (by decide +kernel) rfl, gt_in (by decide +kernel) rfl, gt_in (by decide +kernel) rfl, by decide +kernel⟩
theorem cl_X3_29 : clV RX3 29 yX3_find cX3_find 2 (some (.object RX0)) 1 := ⟨gt_in (by decide +kernel) rfl, gt_in (by decide +kernel) rfl, gt_in (by decide +kernel) rfl, gt_in (by decide +kernel) rfl, gt_in (by decide +kernel) rfl, by decide +kernel⟩
theorem cl_X3_37 : clV RX3 37 yX3_hasValue cX3_hasValue 3 (some .boolean) 1 := ⟨gt_in (by decide +kernel) rfl, gt_in (by decide +kernel) rfl, gt_in (by decide +kernel) rfl, gt_in (by decide +kernel) rfl, gt_in (by decide +kernel) rfl, by decide +kernel⟩
theorem cl_X3_47 : clV RX3 47 yX0_gives cX0_gives 1 (some .boolean) 0 := ⟨gt_in (by decide +kernel) rfl, gt_in (by decide +kernel) rfl, gt_in (by decide +kernel) rfl, gt_in (by decide +kernel) rfl, gt_in (by decide +kernel) rfl, by decide +kernel⟩
theorem cl_X3_60 : clV RX3 60 yX2_onlyZero cX2_onlyZero 1 none 0 := ⟨gt_in (by decide +kernel) rfl, gt_in (by decide +kernel) rfl, gt_in (by decide +kernel) rfl, gt_in (by decide +kernel) rfl, gt_in (by decide +kernel) rfl, by decide +kernel⟩
theorem cl_X3_65 : clV RX3 65 yX0_spare cX0_spare 2 (some .int) 1 := ⟨gt_in (by decide +kernel) rfl, gt_in (by decide +kernel) rfl, gt_in (by decide +kernel) rfl, gt_in (by decide +kernel) rfl, gt_in (by decide +kernel) rfl, by decide +kernel⟩
theorem cl_X3_69 : clV RX3 69 yX2_addCoins cX2_addCoins 6 none 2 := ⟨gt_in (by decide +kernel) rfl, gt_in (by decide +kernel) rfl, gt_in (by decide +kernel) rfl, gt_in (by decide +kernel) rfl, gt_in (by decide +kernel) rfl, by decide +kernel⟩
theorem cl_X3_73 : clV RX3 73 yX2_hasWith cX2_hasWith 3 (some .boolean) 2 := ⟨gt_in (by decide +kernel) rfl, gt_in (by decide +kernel) rfl, gt_in (by decide +kernel) rfl, gt_in (by decide +kernel) rfl, gt_in (by decide +kernel) rfl, by decide +kernel⟩
theorem cl_X4_43 : clV RX4 43 yX0_spare cX0_spare 2 (some .int) 1 := ⟨gt_in (by decide +kernel) rfl, gt_in (by decide +kernel) rfl, gt_in (by decide +kernel) rfl, gt_in (by decide +kernel) rfl, gt_in (by decide +kernel) rfl, by decide +kernel⟩
theorem cl_X4_47 : clS RX4 47 yX4_addCoins cX4_addCoins 7 none 4 := ⟨gt_in (by decide +kernel) rfl, gt_in (by decide +kernel) rfl, gt_in (by decide +kernel) rfl, gt_in (by decide +kernel) rfl, by decide +kernel⟩
theorem cl_X4_51 : clS RX4 51 yX4_mostOfFewest cX4_mostOfFewest 8 (some .int) 4 := ⟨gt_in (by decide +kernel) rfl, gt_in (by decide +kernel) rfl, gt_in (by decide +kernel) rfl, gt_in (by decide +kernel) rfl, by decide +kernel⟩
theorem cl_X4_64 : clS RX4 64 yX4_addPart cX4_addPart 6 none 4 := ⟨gt_in (by decide +kernel) rfl, gt_in (by decide +kernel) rfl, gt_in (by decide +kernel) rfl, gt_in (by decide +kernel) rfl, by decide +kernel⟩
theorem cl_X5_101 : clV RX5 101 yX5_endCredit cX5_endCredit 1 none 0 := ⟨gt_in (by decide +kernel) rfl, gt_in (by decide +kernel) rfl, gt_in (by decide +kernel) rfl, gt_in (by decide +kernel) rfl, gt_in (by decide +kernel) rfl, by decide +kernel⟩
theorem cl_X5_104 : clV RX5 104 yX5_giveOut cX5_giveOut 4 (some .int) 1 := ⟨gt_in (by decide +kernel) rfl, gt_in (by decide +kernel) rfl, gt_in (by decide +kernel) rfl, gt_in (by decide +kernel) rfl, gt_in (by decide +kernel) rfl, by decide +kernel⟩
theorem cl_X5_107 : clV RX5 107 yX5_heldValue cX5_heldValue 2 (some .int) 0 := ⟨gt_in (by decide +kernel) rfl, gt_in (by decide +kernel) rfl, gt_in (by decide +kernel) rfl, gt_in (by decide +kernel) rfl, gt_in (by decide +kernel) rfl, by decide +kernel⟩
theorem cl_X5_110 : clV RX5 110 yX5_plan cX5_plan 3 (some .boolean) 1 := ⟨gt_in (by decide +kernel) rfl, gt_in (by decide +kernel) rfl, gt_in (by decide +kernel) rfl, gt_in (by decide +kernel) rfl, gt_in (by decide +kernel) rfl, by decide +kernel⟩
theorem cl_X5_120 : clV RX5 120 yX3_coinsInWay cX3_coinsInWay 3 (some .int) 0 := ⟨gt_in (by decide +kernel) rfl, gt_in (by decide +kernel) rfl, gt_in (by decide +kernel) rfl, gt_in (by decide +kernel) rfl, gt_in (by decide +kernel) rfl, by decide +kernel⟩
theorem cl_X5_123 : clV RX5 123 yX3_collect cX3_collect 4 none 2 := ⟨gt_in (by decide +kernel) rfl, gt_in (by decide +kernel) rfl, gt_in (by decide +kernel) rfl, gt_in (by decide +kernel) rfl, gt_in (by decide +kernel) rfl, by decide +kernel⟩
theorem cl_X5_127 : clV RX5 127 yX2_howMany cX2_howMany 4 (some .int) 1 := ⟨gt_in (by decide +kernel) rfl, gt_in (by decide +kernel) rfl, gt_in (by decide +kernel) rfl, gt_in (by decide +kernel) rfl, gt_in (by decide +kernel) rfl, by decide +kernel⟩
theorem cl_X5_130 : clV RX5 130 yX1_fewest cX1_fewest 4 (some .int) 2 := ⟨gt_in (by decide +kernel) rfl, gt_in (by decide +kernel) rfl, gt_in (by decide +kernel) rfl, gt_in (by decide +kernel) rfl, gt_in (by decide +kernel) rfl, by decide +kernel⟩
theorem cl_X5_140 : clV RX5 140 yX3_tubesValue cX3_tubesValue 3 (some .int) 0 := ⟨gt_in (by decide +kernel) rfl, gt_in (by decide +kernel) rfl, gt_in (by decide +kernel) rfl, gt_in (by decide +kernel) rfl, gt_in (by decide +kernel) rfl, by decide +kernel⟩
theorem cl_X5_143 : clV RX5 143 yX3_boxValue cX3_boxValue 3 (some .int) 0 := ⟨gt_in (by decide +kernel) rfl, gt_in (by decide +kernel) rfl, gt_in (by decide +kernel) rfl, gt_in (by decide +kernel) rfl, gt_in (by decide +kernel) rfl, by decide +kernel⟩
theorem cl_X5_150 : clV RX5 150 yX3_clearBox cX3_clearBox 2 none 0 := ⟨gt_in (by decide +kernel) rfl, gt_in (by decide +kernel) rfl, gt_in (by decide +kernel) rfl, gt_in (by decide +kernel) rfl, gt_in (by decide +kernel) rfl, by decide +kernel⟩
theorem cl_X5_153 : clV RX5 153 yX3_add cX3_add 6 (some .int) 3 := ⟨gt_in (by decide +kernel) rfl, gt_in (by decide +kernel) rfl, gt_in (by decide +kernel) rfl, gt_in (by decide +kernel) rfl, gt_in (by decide +kernel) rfl, by decide +kernel⟩
theorem cl_X5_156 : clV RX5 156 yX3_mayTake cX3_mayTake 9 (some .boolean) 5 := ⟨gt_in (by decide +kernel) rfl, gt_in (by decide +kernel) rfl, gt_in (by decide +kernel) rfl, gt_in (by decide +kernel) rfl, gt_in (by decide +kernel) rfl, by decide +kernel⟩
theorem cl_X5_160 : clV RX5 160 yX3_fewestInTube cX3_fewestInTube 4 (some .int) 0 := ⟨gt_in (by decide +kernel) rfl, gt_in (by decide +kernel) rfl, gt_in (by decide +kernel) rfl, gt_in (by decide +kernel) rfl, gt_in (by decide +kernel) rfl, by decide +kernel⟩
theorem cl_X5_163 : clV RX5 163 yX2_has cX2_has 2 (some .boolean) 1 := ⟨gt_in (by decide +kernel) rfl, gt_in (by decide +kernel) rfl, gt_in (by decide +kernel) rfl, gt_in (by decide +kernel) rfl, gt_in (by decide +kernel) rfl, by decide +kernel⟩
theorem cl_X5_166 : clV RX5 166 yX3_collectOneOfEach cX3_collectOneOfEach 3 none 1 := ⟨gt_in (by decide +kernel) rfl, gt_in (by decide +kernel) rfl, gt_in (by decide +kernel) rfl, gt_in (by decide +kernel) rfl, gt_in (by decide +kernel) rfl, by decide +kernel⟩
theorem cl_X5_170 : clV RX5 170 yX4_choose cX4_choose 7 (some .boolean) 3 := ⟨gt_in (by decide +kernel) rfl, gt_in (by decide +kernel) rfl, gt_in (by decide +kernel) rfl, gt_in (by decide +kernel) rfl, gt_in (by decide +kernel) rfl, by decide +kernel⟩
theorem cl_X5_174 : clV RX5 174 yX3_forgetGiven cX3_forgetGiven 2 none 0 := ⟨gt_in (by decide +kernel) rfl, gt_in (by decide +kernel) rfl, gt_in (by decide +kernel) rfl, gt_in (by decide +kernel) rfl, gt_in (by decide +kernel) rfl, by decide +kernel⟩
theorem cl_X5_177 : clV RX5 177 yX5_giveByWay cX5_giveByWay 7 (some .int) 1 := ⟨gt_in (by decide +kernel) rfl, gt_in (by decide +kernel) rfl, gt_in (by decide +kernel) rfl, gt_in (by decide +kernel) rfl, gt_in (by decide +kernel) rfl, by decide +kernel⟩
theorem cl_X5_180 : clV RX5 180 yX3_coinsGiven cX3_coinsGiven 3 (some .int) 0 := ⟨gt_in (by decide +kernel) rfl, gt_in (by decide +kernel) rfl, gt_in (by decide +kernel) rfl, gt_in (by decide +kernel) rfl, gt_in (by decide +kernel) rfl, by decide +kernel⟩
theorem cl_X5_187 : clV RX5 187 yX0_release cX0_release 1 (some .boolean) 0 := ⟨gt_in (by decide +kernel) rfl, gt_in (by decide +kernel) rfl, gt_in (by decide +kernel) rfl, gt_in (by decide +kernel) rfl, gt_in (by decide +kernel) rfl, by decide +kernel⟩
theorem cl_X5_54 : clV RX5 54 yX5_addKind cX5_addKind 4 (some .int) 3 := ⟨gt_in (by decide +kernel) rfl, gt_in (by decide +kernel) rfl, gt_in (by decide +kernel) rfl, gt_in (by decide +kernel) rfl, gt_in (by decide +kernel) rfl, by decide +kernel⟩
theorem cl_X5_61 : clV RX5 61 yX3_findCoin cX3_findCoin 3 (some (.object RX0)) 1 := ⟨gt_in (by decide +kernel) rfl, gt_in (by decide +kernel) rfl, gt_in (by decide +kernel) rfl, gt_in (by decide +kernel) rfl, gt_in (by decide +kernel) rfl, by decide +kernel⟩
theorem cl_X5_65 : clV RX5 65 yX0_free cX0_free 1 (some .int) 0 := ⟨gt_in (by decide +kernel) rfl, gt_in (by decide +kernel) rfl, gt_in (by decide +kernel) rfl, gt_in (by decide +kernel) rfl, gt_in (by decide +kernel) rfl, by decide +kernel⟩
theorem cl_X5_84 : clV RX5 84 yX3_find cX3_find 2 (some (.object RX0)) 1 := ⟨gt_in (by decide +kernel) rfl, gt_in (by decide +kernel) rfl, gt_in (by decide +kernel) rfl, gt_in (by decide +kernel) rfl, gt_in (by decide +kernel) rfl, by decide +kernel⟩
theorem cl_X5_87 : clV RX5 87 yX5_canTake cX5_canTake 3 (some .boolean) 1 := ⟨gt_in (by decide +kernel) rfl, gt_in (by decide +kernel) rfl, gt_in (by decide +kernel) rfl, gt_in (by decide +kernel) rfl, gt_in (by decide +kernel) rfl, by decide +kernel⟩
theorem cl_X5_97 : clV RX5 97 yX5_priced cX5_priced 2 (some .int) 1 := ⟨gt_in (by decide +kernel) rfl, gt_in (by decide +kernel) rfl, gt_in (by decide +kernel) rfl, gt_in (by decide +kernel) rfl, gt_in (by decide +kernel) rfl, by decide +kernel⟩
theorem cl_X6_100 : clV RX6 100 yX6_findWay cX6_findWay 3 (some .boolean) 1 := ⟨gt_in (by decide +kernel) rfl, gt_in (by decide +kernel) rfl, gt_in (by decide +kernel) rfl, gt_in (by decide +kernel) rfl, gt_in (by decide +kernel) rfl, by decide +kernel⟩
theorem cl_X6_103 : clV RX6 103 yX6_findSums cX6_findSums 3 none 0 := ⟨gt_in (by decide +kernel) rfl, gt_in (by decide +kernel) rfl, gt_in (by decide +kernel) rfl, gt_in (by decide +kernel) rfl, gt_in (by decide +kernel) rfl, by decide +kernel⟩
theorem cl_X6_106 : clV RX6 106 yX6_heldValue cX6_heldValue 1 (some .int) 0 := ⟨gt_in (by decide +kernel) rfl, gt_in (by decide +kernel) rfl, gt_in (by decide +kernel) rfl, gt_in (by decide +kernel) rfl, gt_in (by decide +kernel) rfl, by decide +kernel⟩
theorem cl_X6_110 : clV RX6 110 yX6_wouldTake cX6_wouldTake 8 (some .boolean) 3 := ⟨gt_in (by decide +kernel) rfl, gt_in (by decide +kernel) rfl, gt_in (by decide +kernel) rfl, gt_in (by decide +kernel) rfl, gt_in (by decide +kernel) rfl, by decide +kernel⟩
theorem cl_X6_114 : clV RX6 114 yX6_nextUsed cX6_nextUsed 2 (some .int) 0 := ⟨gt_in (by decide +kernel) rfl, gt_in (by decide +kernel) rfl, gt_in (by decide +kernel) rfl, gt_in (by decide +kernel) rfl, gt_in (by decide +kernel) rfl, by decide +kernel⟩
theorem cl_X6_120 : clV RX6 120 yX6_gives cX6_gives 6 (some .int) 1 := ⟨gt_in (by decide +kernel) rfl, gt_in (by decide +kernel) rfl, gt_in (by decide +kernel) rfl, gt_in (by decide +kernel) rfl, gt_in (by decide +kernel) rfl, by decide +kernel⟩
theorem cl_X6_124 : clV RX6 124 yX6_isLit cX6_isLit 2 (some .boolean) 0 := ⟨gt_in (by decide +kernel) rfl, gt_in (by decide +kernel) rfl, gt_in (by decide +kernel) rfl, gt_in (by decide +kernel) rfl, gt_in (by decide +kernel) rfl, by decide +kernel⟩
theorem cl_X6_128 : clV RX6 128 yX6_canAdd cX6_canAdd 2 (some .boolean) 0 := ⟨gt_in (by decide +kernel) rfl, gt_in (by decide +kernel) rfl, gt_in (by decide +kernel) rfl, gt_in (by decide +kernel) rfl, gt_in (by decide +kernel) rfl, by decide +kernel⟩
theorem cl_X6_131 : clV RX6 131 yX6_goesOn cX6_goesOn 3 (some .boolean) 0 := ⟨gt_in (by decide +kernel) rfl, gt_in (by decide +kernel) rfl, gt_in (by decide +kernel) rfl, gt_in (by decide +kernel) rfl, gt_in (by decide +kernel) rfl, by decide +kernel⟩
theorem cl_X6_134 : clV RX6 134 yX6_isOutBy cX6_isOutBy 5 (some .boolean) 1 := ⟨gt_in (by decide +kernel) rfl, gt_in (by decide +kernel) rfl, gt_in (by decide +kernel) rfl, gt_in (by decide +kernel) rfl, gt_in (by decide +kernel) rfl, by decide +kernel⟩
theorem cl_X6_137 : clV RX6 137 yX6_boxed cX6_boxed 3 (some .int) 0 := ⟨gt_in (by decide +kernel) rfl, gt_in (by decide +kernel) rfl, gt_in (by decide +kernel) rfl, gt_in (by decide +kernel) rfl, gt_in (by decide +kernel) rfl, by decide +kernel⟩
theorem cl_X6_69 : clV RX6 69 yX6_isKind cX6_isKind 2 (some .boolean) 1 := ⟨gt_in (by decide +kernel) rfl, gt_in (by decide +kernel) rfl, gt_in (by decide +kernel) rfl, gt_in (by decide +kernel) rfl, gt_in (by decide +kernel) rfl, by decide +kernel⟩
theorem cl_X6_76 : clV RX6 76 yX6_canCome cX6_canCome 3 (some .boolean) 1 := ⟨gt_in (by decide +kernel) rfl, gt_in (by decide +kernel) rfl, gt_in (by decide +kernel) rfl, gt_in (by decide +kernel) rfl, gt_in (by decide +kernel) rfl, by decide +kernel⟩
theorem cl_X6_82 : clV RX6 82 yX6_isCoin cX6_isCoin 2 (some .boolean) 1 := ⟨gt_in (by decide +kernel) rfl, gt_in (by decide +kernel) rfl, gt_in (by decide +kernel) rfl, gt_in (by decide +kernel) rfl, gt_in (by decide +kernel) rfl, by decide +kernel⟩
theorem cl_X6_89 : clV RX6 89 yX6_rank cX6_rank 3 none 0 := ⟨gt_in (by decide +kernel) rfl, gt_in (by decide +kernel) rfl, gt_in (by decide +kernel) rfl, gt_in (by decide +kernel) rfl, gt_in (by decide +kernel) rfl, by decide +kernel⟩
theorem cl_X6_92 : clV RX6 92 yX6_mayUse cX6_mayUse 3 (some .int) 2 := ⟨gt_in (by decide +kernel) rfl, gt_in (by decide +kernel) rfl, gt_in (by decide +kernel) rfl, gt_in (by decide +kernel) rfl, gt_in (by decide +kernel) rfl, by decide +kernel⟩
theorem cl_X6_96 : clV RX6 96 yX6_isWay cX6_isWay 9 (some .boolean) 2 := ⟨gt_in (by decide +kernel) rfl, gt_in (by decide +kernel) rfl, gt_in (by decide +kernel) rfl, gt_in (by decide +kernel) rfl, gt_in (by decide +kernel) rfl, by decide +kernel⟩
theorem fl_X0_15 : fdL RX0 15 0 1 RX0 TX0 9 := ⟨ws_X0, rfl, by decide, gt_in (by decide +kernel) rfl⟩
theorem fl_X0_19 : fdL RX0 19 0 2 RX0 TX0 9 := ⟨ws_X0, rfl, by decide, gt_in (by decide +kernel) rfl⟩
theorem fl_X0_22 : fdL RX0 22 0 3 RX0 TX0 9 := ⟨ws_X0, rfl, by decide, gt_in (by decide +kernel) rfl⟩
theorem fl_X0_28 : fdL RX0 28 0 5 RX0 TX0 9 := ⟨ws_X0, rfl, by decide, gt_in (by decide +kernel) rfl⟩
theorem fl_X0_31 : fdL RX0 31 0 6 RX0 TX0 9 := ⟨ws_X0, rfl, by decide, gt_in (by decide +kernel) rfl⟩
theorem fl_X0_37 : fdL RX0 37 0 8 RX0 TX0 9 := ⟨ws_X0, rfl, by decide, gt_in (by decide +kernel) rfl⟩
theorem fl_X1_17 : fdL RX1 17 1 1 RX1 TX1 2 := ⟨ws_X1, rfl, by decide, gt_in (by decide +kernel) rfl⟩
theorem fl_X1_42 : fdL RX1 42 3 3 RX3 TX3 4 := ⟨ws_X3, rfl, by decide, gt_in (by decide +kernel) rfl⟩
theorem fl_X1_46 : fdL RX1 46 3 0 RX3 TX3 4 := ⟨ws_X3, rfl, by decide, gt_in (by decide +kernel) rfl⟩
theorem fl_X1_64 : fdL RX1 64 0 0 RX0 TX0 9 := ⟨ws_X0, rfl, by decide, gt_in (by decide +kernel) rfl⟩
theorem fl_X1_71 : fdL RX1 71 0 1 RX0 TX0 9 := ⟨ws_X0, rfl, by decide, gt_in (by decide +kernel) rfl⟩
theorem fl_X1_9 : fdL RX1 9 1 0 RX1 TX1 2 := ⟨ws_X1, rfl, by decide, gt_in (by decide +kernel) rfl⟩
theorem fl_X2_11 : fdL RX2 11 2 0 RX2 TX2 1 := ⟨ws_X2, rfl, by decide, gt_in (by decide +kernel) rfl⟩
theorem fl_X3_11 : fdL RX3 11 3 0 RX3 TX3 4 := ⟨ws_X3, rfl, by decide, gt_in (by decide +kernel) rfl⟩
theorem fl_X3_17 : fdL RX3 17 3 1 RX3 TX3 4 := ⟨ws_X3, rfl, by decide, gt_in (by decide +kernel) rfl⟩
theorem fl_X3_20 : fdL RX3 20 3 2 RX3 TX3 4 := ⟨ws_X3, rfl, by decide, gt_in (by decide +kernel) rfl⟩
theorem fl_X3_24 : fdL RX3 24 3 3 RX3 TX3 4 := ⟨ws_X3, rfl, by decide, gt_in (by decide +kernel) rfl⟩
theorem fl_X3_33 : fdL RX3 33 0 1 RX0 TX0 9 := ⟨ws_X0, rfl, by decide, gt_in (by decide +kernel) rfl⟩
theorem fl_X3_41 : fdL RX3 41 0 0 RX0 TX0 9 := ⟨ws_X0, rfl, by decide, gt_in (by decide +kernel) rfl⟩
theorem fl_X3_44 : fdL RX3 44 0 2 RX0 TX0 9 := ⟨ws_X0, rfl, by decide, gt_in (by decide +kernel) rfl⟩
theorem fl_X3_51 : fdL RX3 51 0 3 RX0 TX0 9 := ⟨ws_X0, rfl, by decide, gt_in (by decide +kernel) rfl⟩
theorem fl_X3_77 : fdL RX3 77 0 7 RX0 TX0 9 := ⟨ws_X0, rfl, by decide, gt_in (by decide +kernel) rfl⟩
theorem fl_X3_80 : fdL RX3 80 0 8 RX0 TX0 9 := ⟨ws_X0, rfl, by decide, gt_in (by decide +kernel) rfl⟩
theorem fl_X3_83 : fdL RX3 83 0 4 RX0 TX0 9 := ⟨ws_X0, rfl, by decide, gt_in (by decide +kernel) rfl⟩
theorem fl_X4_11 : fdL RX4 11 4 0 RX4 TX4 1 := ⟨ws_X4, rfl, by decide, gt_in (by decide +kernel) rfl⟩
theorem fl_X4_22 : fdL RX4 22 3 3 RX3 TX3 4 := ⟨ws_X3, rfl, by decide, gt_in (by decide +kernel) rfl⟩
theorem fl_X4_34 : fdL RX4 34 3 1 RX3 TX3 4 := ⟨ws_X3, rfl, by decide, gt_in (by decide +kernel) rfl⟩
theorem fl_X4_38 : fdL RX4 38 0 0 RX0 TX0 9 := ⟨ws_X0, rfl, by decide, gt_in (by decide +kernel) rfl⟩
theorem fl_X4_55 : fdL RX4 55 0 7 RX0 TX0 9 := ⟨ws_X0, rfl, by decide, gt_in (by decide +kernel) rfl⟩
theorem fl_X5_114 : fdL RX5 114 0 8 RX0 TX0 9 := ⟨ws_X0, rfl, by decide, gt_in (by decide +kernel) rfl⟩
theorem fl_X5_117 : fdL RX5 117 0 7 RX0 TX0 9 := ⟨ws_X0, rfl, by decide, gt_in (by decide +kernel) rfl⟩
theorem fl_X5_12 : fdL RX5 12 5 0 RX5 TX5 9 := ⟨ws_X5, rfl, by decide, gt_in (by decide +kernel) rfl⟩
theorem fl_X5_134 : fdL RX5 134 1 0 RX1 TX1 2 := ⟨ws_X1, rfl, by decide, gt_in (by decide +kernel) rfl⟩
theorem fl_X5_137 : fdL RX5 137 3 3 RX3 TX3 4 := ⟨ws_X3, rfl, by decide, gt_in (by decide +kernel) rfl⟩
theorem fl_X5_147 : fdL RX5 147 0 2 RX0 TX0 9 := ⟨ws_X0, rfl, by decide, gt_in (by decide +kernel) rfl⟩
theorem fl_X5_183 : fdL RX5 183 3 1 RX3 TX3 4 := ⟨ws_X3, rfl, by decide, gt_in (by decide +kernel) rfl⟩
theorem fl_X5_19 : fdL RX5 19 5 1 RX5 TX5 9 := ⟨ws_X5, rfl, by decide, gt_in (by decide +kernel) rfl⟩
theorem fl_X5_26 : fdL RX5 26 5 2 RX5 TX5 9 := ⟨ws_X5, rfl, by decide, gt_in (by decide +kernel) rfl⟩
theorem fl_X5_33 : fdL RX5 33 5 3 RX5 TX5 9 := ⟨ws_X5, rfl, by decide, gt_in (by decide +kernel) rfl⟩
theorem fl_X5_37 : fdL RX5 37 5 4 RX5 TX5 9 := ⟨ws_X5, rfl, by decide, gt_in (by decide +kernel) rfl⟩
theorem fl_X5_41 : fdL RX5 41 5 5 RX5 TX5 9 := ⟨ws_X5, rfl, by decide, gt_in (by decide +kernel) rfl⟩
theorem fl_X5_45 : fdL RX5 45 5 6 RX5 TX5 9 := ⟨ws_X5, rfl, by decide, gt_in (by decide +kernel) rfl⟩
theorem fl_X5_48 : fdL RX5 48 5 7 RX5 TX5 9 := ⟨ws_X5, rfl, by decide, gt_in (by decide +kernel) rfl⟩
theorem fl_X5_51 : fdL RX5 51 5 8 RX5 TX5 9 := ⟨ws_X5, rfl, by decide, gt_in (by decide +kernel) rfl⟩
theorem fl_X5_58 : fdL RX5 58 3 2 RX3 TX3 4 := ⟨ws_X3, rfl, by decide, gt_in (by decide +kernel) rfl⟩
theorem fl_X5_71 : fdL RX5 71 0 3 RX0 TX0 9 := ⟨ws_X0, rfl, by decide, gt_in (by decide +kernel) rfl⟩
theorem fl_X5_74 : fdL RX5 74 0 0 RX0 TX0 9 := ⟨ws_X0, rfl, by decide, gt_in (by decide +kernel) rfl⟩
theorem fl_X5_77 : fdL RX5 77 0 5 RX0 TX0 9 := ⟨ws_X0, rfl, by decide, gt_in (by decide +kernel) rfl⟩
theorem fl_X5_81 : fdL RX5 81 0 6 RX0 TX0 9 := ⟨ws_X0, rfl, by decide, gt_in (by decide +kernel) rfl⟩
theorem fl_X5_91 : fdL RX5 91 0 1 RX0 TX0 9 := ⟨ws_X0, rfl, by decide, gt_in (by decide +kernel) rfl⟩
theorem fl_X5_94 : fdL RX5 94 0 4 RX0 TX0 9 := ⟨ws_X0, rfl, by decide, gt_in (by decide +kernel) rfl⟩
theorem fl_X6_117 : fdL RX6 117 6 11 RX6 TX6 23 := ⟨ws_X6, rfl, by decide, gt_in (by decide +kernel) rfl⟩
theorem fl_X6_13 : fdL RX6 13 6 3 RX6 TX6 23 := ⟨ws_X6, rfl, by decide, gt_in (by decide +kernel) rfl⟩
theorem fl_X6_17 : fdL RX6 17 6 4 RX6 TX6 23 := ⟨ws_X6, rfl, by decide, gt_in (by decide +kernel) rfl⟩
theorem fl_X6_20 : fdL RX6 20 6 5 RX6 TX6 23 := ⟨ws_X6, rfl, by decide, gt_in (by decide +kernel) rfl⟩
theorem fl_X6_23 : fdL RX6 23 6 6 RX6 TX6 23 := ⟨ws_X6, rfl, by decide, gt_in (by decide +kernel) rfl⟩
theorem fl_X6_26 : fdL RX6 26 6 7 RX6 TX6 23 := ⟨ws_X6, rfl, by decide, gt_in (by decide +kernel) rfl⟩
theorem fl_X6_29 : fdL RX6 29 6 8 RX6 TX6 23 := ⟨ws_X6, rfl, by decide, gt_in (by decide +kernel) rfl⟩
theorem fl_X6_32 : fdL RX6 32 6 9 RX6 TX6 23 := ⟨ws_X6, rfl, by decide, gt_in (by decide +kernel) rfl⟩
theorem fl_X6_35 : fdL RX6 35 6 12 RX6 TX6 23 := ⟨ws_X6, rfl, by decide, gt_in (by decide +kernel) rfl⟩
theorem fl_X6_39 : fdL RX6 39 6 14 RX6 TX6 23 := ⟨ws_X6, rfl, by decide, gt_in (by decide +kernel) rfl⟩
theorem fl_X6_42 : fdL RX6 42 6 15 RX6 TX6 23 := ⟨ws_X6, rfl, by decide, gt_in (by decide +kernel) rfl⟩
theorem fl_X6_45 : fdL RX6 45 6 16 RX6 TX6 23 := ⟨ws_X6, rfl, by decide, gt_in (by decide +kernel) rfl⟩
theorem fl_X6_48 : fdL RX6 48 6 18 RX6 TX6 23 := ⟨ws_X6, rfl, by decide, gt_in (by decide +kernel) rfl⟩
theorem fl_X6_51 : fdL RX6 51 6 19 RX6 TX6 23 := ⟨ws_X6, rfl, by decide, gt_in (by decide +kernel) rfl⟩
theorem fl_X6_54 : fdL RX6 54 6 20 RX6 TX6 23 := ⟨ws_X6, rfl, by decide, gt_in (by decide +kernel) rfl⟩
theorem fl_X6_57 : fdL RX6 57 6 21 RX6 TX6 23 := ⟨ws_X6, rfl, by decide, gt_in (by decide +kernel) rfl⟩
theorem fl_X6_60 : fdL RX6 60 6 22 RX6 TX6 23 := ⟨ws_X6, rfl, by decide, gt_in (by decide +kernel) rfl⟩
theorem fl_X6_63 : fdL RX6 63 6 0 RX6 TX6 23 := ⟨ws_X6, rfl, by decide, gt_in (by decide +kernel) rfl⟩
theorem fl_X6_66 : fdL RX6 66 6 1 RX6 TX6 23 := ⟨ws_X6, rfl, by decide, gt_in (by decide +kernel) rfl⟩
theorem fl_X6_7 : fdL RX6 7 6 2 RX6 TX6 23 := ⟨ws_X6, rfl, by decide, gt_in (by decide +kernel) rfl⟩
theorem fl_X6_73 : fdL RX6 73 6 10 RX6 TX6 23 := ⟨ws_X6, rfl, by decide, gt_in (by decide +kernel) rfl⟩
theorem fl_X6_79 : fdL RX6 79 6 13 RX6 TX6 23 := ⟨ws_X6, rfl, by decide, gt_in (by decide +kernel) rfl⟩
theorem fl_X6_86 : fdL RX6 86 6 17 RX6 TX6 23 := ⟨ws_X6, rfl, by decide, gt_in (by decide +kernel) rfl⟩
theorem fp_X0_0 : fpL 0 TX0 9 .int := ⟨⟨tyX0, tyX0_ok⟩, nmX0, rfl, by decide +kernel⟩
theorem fp_X0_1 : fpL 1 TX0 9 .boolean := ⟨⟨tyX0, tyX0_ok⟩, nmX0, rfl, by decide +kernel⟩
theorem fp_X0_2 : fpL 2 TX0 9 .int := ⟨⟨tyX0, tyX0_ok⟩, nmX0, rfl, by decide +kernel⟩
theorem fp_X0_3 : fpL 3 TX0 9 .int := ⟨⟨tyX0, tyX0_ok⟩, nmX0, rfl, by decide +kernel⟩
theorem fp_X0_4 : fpL 4 TX0 9 .int := ⟨⟨tyX0, tyX0_ok⟩, nmX0, rfl, by decide +kernel⟩
theorem fp_X0_5 : fpL 5 TX0 9 .boolean := ⟨⟨tyX0, tyX0_ok⟩, nmX0, rfl, by decide +kernel⟩
theorem fp_X0_6 : fpL 6 TX0 9 .int := ⟨⟨tyX0, tyX0_ok⟩, nmX0, rfl, by decide +kernel⟩
theorem fp_X0_7 : fpL 7 TX0 9 .int := ⟨⟨tyX0, tyX0_ok⟩, nmX0, rfl, by decide +kernel⟩
theorem fp_X0_8 : fpL 8 TX0 9 .int := ⟨⟨tyX0, tyX0_ok⟩, nmX0, rfl, by decide +kernel⟩
theorem fp_X3_3 : fpL 3 TX3 4 .int := ⟨⟨tyX3, tyX3_ok⟩, nmX3, rfl, by decide +kernel⟩
theorem fp_X5_5 : fpL 5 TX5 9 .int := ⟨⟨tyX5, tyX5_ok⟩, nmX5, rfl, by decide +kernel⟩
theorem fp_X5_6 : fpL 6 TX5 9 .int := ⟨⟨tyX5, tyX5_ok⟩, nmX5, rfl, by decide +kernel⟩
theorem fp_X5_7 : fpL 7 TX5 9 .int := ⟨⟨tyX5, tyX5_ok⟩, nmX5, rfl, by decide +kernel⟩
theorem fp_X5_8 : fpL 8 TX5 9 .int := ⟨⟨tyX5, tyX5_ok⟩, nmX5, rfl, by decide +kernel⟩
theorem fp_X6_0 : fpL 0 TX6 23 .int := ⟨⟨tyX6, tyX6_ok⟩, nmX6, rfl, by decide +kernel⟩
theorem fp_X6_1 : fpL 1 TX6 23 .int := ⟨⟨tyX6, tyX6_ok⟩, nmX6, rfl, by decide +kernel⟩
theorem fp_X6_10 : fpL 10 TX6 23 .int := ⟨⟨tyX6, tyX6_ok⟩, nmX6, rfl, by decide +kernel⟩
theorem fp_X6_11 : fpL 11 TX6 23 .int := ⟨⟨tyX6, tyX6_ok⟩, nmX6, rfl, by decide +kernel⟩
theorem fp_X6_12 : fpL 12 TX6 23 .int := ⟨⟨tyX6, tyX6_ok⟩, nmX6, rfl, by decide +kernel⟩
theorem fp_X6_13 : fpL 13 TX6 23 .int := ⟨⟨tyX6, tyX6_ok⟩, nmX6, rfl, by decide +kernel⟩
theorem fp_X6_17 : fpL 17 TX6 23 .int := ⟨⟨tyX6, tyX6_ok⟩, nmX6, rfl, by decide +kernel⟩
theorem ld_X5_146 : Cond.constant RX5 146 (-1000000) ∈ gt := gt_in (by decide +kernel) rfl
theorem ld_X6_140 : Cond.constant RX6 140 (-1000000) ∈ gt := gt_in (by decide +kernel) rfl
theorem ld_X6_85 : Cond.constant RX6 85 (1000000) ∈ gt := gt_in (by decide +kernel) rfl
theorem lm_X0_44 : Cond.methodLink RX0 44 Lib.Math.max.name ∈ gt := gt_in (by decide +kernel) rfl
theorem lm_X2_21 : Cond.methodLink RX2 21 arraycopyName ∈ gt := gt_in (by decide +kernel) rfl
theorem lm_X2_27 : Cond.methodLink RX2 27 Lib.Math.min.name ∈ gt := gt_in (by decide +kernel) rfl
theorem lm_X3_54 : Cond.methodLink RX3 54 Lib.Math.max.name ∈ gt := gt_in (by decide +kernel) rfl
theorem lm_X4_28 : Cond.methodLink RX4 28 arraycopyName ∈ gt := gt_in (by decide +kernel) rfl
theorem lm_X4_58 : Cond.methodLink RX4 58 Lib.Math.min.name ∈ gt := gt_in (by decide +kernel) rfl
end
section
def ctI_0 (q : Nat → ClassId) (y : MethodName) (cc : ByteArray) (nL fr lo : Nat) (av : List Value) (W0 : va_W) (Wd : va_W) (K : Int32 → Prop) : Prop := ctI q y cc nL fr lo av W0 (fun u : Unit => Wd ) (fun r (u : Unit) => K r )
def rtI_0 (Γ : GT) (cc : ByteArray) (nL : Nat) (Wd : va_W) (K : Int32 → Prop) : Prop := rtI Γ cc nL (fun u : Unit => Wd ) (fun r (u : Unit) => K r )
theorem met_I_0 {q : Nat → ClassId} {y : MethodName} {cc : ByteArray} {nL fr lo : Nat} {av : List Value} {W0 : va_W} {Wd : va_W} {K : Int32 → Prop} (hy : plainName y.cls = true) (hav : (lg_sl av).length ≤ nL)
    (walk : ∀ Γ : GT, gd Γ cc y.cls nL (rmz fr lo) q → rtI_0 Γ cc nL Wd K → jw Γ nL 0 0 W0 (lv_args 0 av) [] 0) : ctI_0 q y cc nL fr lo av W0 Wd K := met_I hy hav walk
theorem rtI_0.go {Γ : GT} {cc : ByteArray} {nL : Nat} {Wd : va_W} {K : Int32 → Prop} (hr : rtI_0 Γ cc nL Wd K) {lv : List (Nat × Value)} {pc : Nat} {r : Int32}  (hd : decode cc pc = .ok (.ireturn, 1)) (h : K r ) : jw Γ nL 0 0 (Wd ) lv [.int r] pc := hr lv pc r () hd h
def ctI_1 (q : Nat → ClassId) (y : MethodName) (cc : ByteArray) (nL fr lo : Nat) (av : List Value) (W0 : va_W) {A1 : Type} (Wd : A1 → va_W) (K : Int32 → A1 → Prop) : Prop := ctI q y cc nL fr lo av W0 (fun u : A1 => Wd u) (fun r (u : A1) => K r u)
def rtI_1 (Γ : GT) (cc : ByteArray) (nL : Nat) {A1 : Type} (Wd : A1 → va_W) (K : Int32 → A1 → Prop) : Prop := rtI Γ cc nL (fun u : A1 => Wd u) (fun r (u : A1) => K r u)
theorem met_I_1 {q : Nat → ClassId} {y : MethodName} {cc : ByteArray} {nL fr lo : Nat} {av : List Value} {W0 : va_W} {A1 : Type} {Wd : A1 → va_W} {K : Int32 → A1 → Prop} (hy : plainName y.cls = true) (hav : (lg_sl av).length ≤ nL)
    (walk : ∀ Γ : GT, gd Γ cc y.cls nL (rmz fr lo) q → rtI_1 Γ cc nL Wd K → jw Γ nL 0 0 W0 (lv_args 0 av) [] 0) : ctI_1 q y cc nL fr lo av W0 Wd K := met_I hy hav walk
theorem rtI_1.go {Γ : GT} {cc : ByteArray} {nL : Nat} {A1 : Type} {Wd : A1 → va_W} {K : Int32 → A1 → Prop} (hr : rtI_1 Γ cc nL Wd K) {lv : List (Nat × Value)} {pc : Nat} {r : Int32} {m1 : A1} (hd : decode cc pc = .ok (.ireturn, 1)) (h : K r m1) : jw Γ nL 0 0 (Wd m1) lv [.int r] pc := hr lv pc r m1 hd h
def ctI_2 (q : Nat → ClassId) (y : MethodName) (cc : ByteArray) (nL fr lo : Nat) (av : List Value) (W0 : va_W) {A1 A2 : Type} (Wd : A1 → A2 → va_W) (K : Int32 → A1 → A2 → Prop) : Prop := ctI q y cc nL fr lo av W0 (fun u : A1 × A2 => Wd u.1 u.2) (fun r (u : A1 × A2) => K r u.1 u.2)
def rtI_2 (Γ : GT) (cc : ByteArray) (nL : Nat) {A1 A2 : Type} (Wd : A1 → A2 → va_W) (K : Int32 → A1 → A2 → Prop) : Prop := rtI Γ cc nL (fun u : A1 × A2 => Wd u.1 u.2) (fun r (u : A1 × A2) => K r u.1 u.2)
theorem met_I_2 {q : Nat → ClassId} {y : MethodName} {cc : ByteArray} {nL fr lo : Nat} {av : List Value} {W0 : va_W} {A1 A2 : Type} {Wd : A1 → A2 → va_W} {K : Int32 → A1 → A2 → Prop} (hy : plainName y.cls = true) (hav : (lg_sl av).length ≤ nL)
    (walk : ∀ Γ : GT, gd Γ cc y.cls nL (rmz fr lo) q → rtI_2 Γ cc nL Wd K → jw Γ nL 0 0 W0 (lv_args 0 av) [] 0) : ctI_2 q y cc nL fr lo av W0 Wd K := met_I hy hav walk
theorem rtI_2.go {Γ : GT} {cc : ByteArray} {nL : Nat} {A1 A2 : Type} {Wd : A1 → A2 → va_W} {K : Int32 → A1 → A2 → Prop} (hr : rtI_2 Γ cc nL Wd K) {lv : List (Nat × Value)} {pc : Nat} {r : Int32} {m1 : A1} {m2 : A2} (hd : decode cc pc = .ok (.ireturn, 1)) (h : K r m1 m2) : jw Γ nL 0 0 (Wd m1 m2) lv [.int r] pc := hr lv pc r (m1, m2) hd h
def ctI_3 (q : Nat → ClassId) (y : MethodName) (cc : ByteArray) (nL fr lo : Nat) (av : List Value) (W0 : va_W) {A1 A2 A3 : Type} (Wd : A1 → A2 → A3 → va_W) (K : Int32 → A1 → A2 → A3 → Prop) : Prop := ctI q y cc nL fr lo av W0 (fun u : A1 × A2 × A3 => Wd u.1 u.2.1 u.2.2) (fun r (u : A1 × A2 × A3) => K r u.1 u.2.1 u.2.2)
def rtI_3 (Γ : GT) (cc : ByteArray) (nL : Nat) {A1 A2 A3 : Type} (Wd : A1 → A2 → A3 → va_W) (K : Int32 → A1 → A2 → A3 → Prop) : Prop := rtI Γ cc nL (fun u : A1 × A2 × A3 => Wd u.1 u.2.1 u.2.2) (fun r (u : A1 × A2 × A3) => K r u.1 u.2.1 u.2.2)
theorem met_I_3 {q : Nat → ClassId} {y : MethodName} {cc : ByteArray} {nL fr lo : Nat} {av : List Value} {W0 : va_W} {A1 A2 A3 : Type} {Wd : A1 → A2 → A3 → va_W} {K : Int32 → A1 → A2 → A3 → Prop} (hy : plainName y.cls = true) (hav : (lg_sl av).length ≤ nL)
    (walk : ∀ Γ : GT, gd Γ cc y.cls nL (rmz fr lo) q → rtI_3 Γ cc nL Wd K → jw Γ nL 0 0 W0 (lv_args 0 av) [] 0) : ctI_3 q y cc nL fr lo av W0 Wd K := met_I hy hav walk
theorem rtI_3.go {Γ : GT} {cc : ByteArray} {nL : Nat} {A1 A2 A3 : Type} {Wd : A1 → A2 → A3 → va_W} {K : Int32 → A1 → A2 → A3 → Prop} (hr : rtI_3 Γ cc nL Wd K) {lv : List (Nat × Value)} {pc : Nat} {r : Int32} {m1 : A1} {m2 : A2} {m3 : A3} (hd : decode cc pc = .ok (.ireturn, 1)) (h : K r m1 m2 m3) : jw Γ nL 0 0 (Wd m1 m2 m3) lv [.int r] pc := hr lv pc r (m1, m2, m3) hd h
def ctI_4 (q : Nat → ClassId) (y : MethodName) (cc : ByteArray) (nL fr lo : Nat) (av : List Value) (W0 : va_W) {A1 A2 A3 A4 : Type} (Wd : A1 → A2 → A3 → A4 → va_W) (K : Int32 → A1 → A2 → A3 → A4 → Prop) : Prop := ctI q y cc nL fr lo av W0 (fun u : A1 × A2 × A3 × A4 => Wd u.1 u.2.1 u.2.2.1 u.2.2.2) (fun r (u : A1 × A2 × A3 × A4) => K r u.1 u.2.1 u.2.2.1 u.2.2.2)
def rtI_4 (Γ : GT) (cc : ByteArray) (nL : Nat) {A1 A2 A3 A4 : Type} (Wd : A1 → A2 → A3 → A4 → va_W) (K : Int32 → A1 → A2 → A3 → A4 → Prop) : Prop := rtI Γ cc nL (fun u : A1 × A2 × A3 × A4 => Wd u.1 u.2.1 u.2.2.1 u.2.2.2) (fun r (u : A1 × A2 × A3 × A4) => K r u.1 u.2.1 u.2.2.1 u.2.2.2)
theorem met_I_4 {q : Nat → ClassId} {y : MethodName} {cc : ByteArray} {nL fr lo : Nat} {av : List Value} {W0 : va_W} {A1 A2 A3 A4 : Type} {Wd : A1 → A2 → A3 → A4 → va_W} {K : Int32 → A1 → A2 → A3 → A4 → Prop} (hy : plainName y.cls = true) (hav : (lg_sl av).length ≤ nL)
    (walk : ∀ Γ : GT, gd Γ cc y.cls nL (rmz fr lo) q → rtI_4 Γ cc nL Wd K → jw Γ nL 0 0 W0 (lv_args 0 av) [] 0) : ctI_4 q y cc nL fr lo av W0 Wd K := met_I hy hav walk
theorem rtI_4.go {Γ : GT} {cc : ByteArray} {nL : Nat} {A1 A2 A3 A4 : Type} {Wd : A1 → A2 → A3 → A4 → va_W} {K : Int32 → A1 → A2 → A3 → A4 → Prop} (hr : rtI_4 Γ cc nL Wd K) {lv : List (Nat × Value)} {pc : Nat} {r : Int32} {m1 : A1} {m2 : A2} {m3 : A3} {m4 : A4} (hd : decode cc pc = .ok (.ireturn, 1)) (h : K r m1 m2 m3 m4) : jw Γ nL 0 0 (Wd m1 m2 m3 m4) lv [.int r] pc := hr lv pc r (m1, m2, m3, m4) hd h
def ctI_5 (q : Nat → ClassId) (y : MethodName) (cc : ByteArray) (nL fr lo : Nat) (av : List Value) (W0 : va_W) {A1 A2 A3 A4 A5 : Type} (Wd : A1 → A2 → A3 → A4 → A5 → va_W) (K : Int32 → A1 → A2 → A3 → A4 → A5 → Prop) : Prop := ctI q y cc nL fr lo av W0 (fun u : A1 × A2 × A3 × A4 × A5 => Wd u.1 u.2.1 u.2.2.1 u.2.2.2.1 u.2.2.2.2) (fun r (u : A1 × A2 × A3 × A4 × A5) => K r u.1 u.2.1 u.2.2.1 u.2.2.2.1 u.2.2.2.2)
def rtI_5 (Γ : GT) (cc : ByteArray) (nL : Nat) {A1 A2 A3 A4 A5 : Type} (Wd : A1 → A2 → A3 → A4 → A5 → va_W) (K : Int32 → A1 → A2 → A3 → A4 → A5 → Prop) : Prop := rtI Γ cc nL (fun u : A1 × A2 × A3 × A4 × A5 => Wd u.1 u.2.1 u.2.2.1 u.2.2.2.1 u.2.2.2.2) (fun r (u : A1 × A2 × A3 × A4 × A5) => K r u.1 u.2.1 u.2.2.1 u.2.2.2.1 u.2.2.2.2)
theorem met_I_5 {q : Nat → ClassId} {y : MethodName} {cc : ByteArray} {nL fr lo : Nat} {av : List Value} {W0 : va_W} {A1 A2 A3 A4 A5 : Type} {Wd : A1 → A2 → A3 → A4 → A5 → va_W} {K : Int32 → A1 → A2 → A3 → A4 → A5 → Prop} (hy : plainName y.cls = true) (hav : (lg_sl av).length ≤ nL)
    (walk : ∀ Γ : GT, gd Γ cc y.cls nL (rmz fr lo) q → rtI_5 Γ cc nL Wd K → jw Γ nL 0 0 W0 (lv_args 0 av) [] 0) : ctI_5 q y cc nL fr lo av W0 Wd K := met_I hy hav walk
theorem rtI_5.go {Γ : GT} {cc : ByteArray} {nL : Nat} {A1 A2 A3 A4 A5 : Type} {Wd : A1 → A2 → A3 → A4 → A5 → va_W} {K : Int32 → A1 → A2 → A3 → A4 → A5 → Prop} (hr : rtI_5 Γ cc nL Wd K) {lv : List (Nat × Value)} {pc : Nat} {r : Int32} {m1 : A1} {m2 : A2} {m3 : A3} {m4 : A4} {m5 : A5} (hd : decode cc pc = .ok (.ireturn, 1)) (h : K r m1 m2 m3 m4 m5) : jw Γ nL 0 0 (Wd m1 m2 m3 m4 m5) lv [.int r] pc := hr lv pc r (m1, m2, m3, m4, m5) hd h
def ctI_6 (q : Nat → ClassId) (y : MethodName) (cc : ByteArray) (nL fr lo : Nat) (av : List Value) (W0 : va_W) {A1 A2 A3 A4 A5 A6 : Type} (Wd : A1 → A2 → A3 → A4 → A5 → A6 → va_W) (K : Int32 → A1 → A2 → A3 → A4 → A5 → A6 → Prop) : Prop := ctI q y cc nL fr lo av W0 (fun u : A1 × A2 × A3 × A4 × A5 × A6 => Wd u.1 u.2.1 u.2.2.1 u.2.2.2.1 u.2.2.2.2.1 u.2.2.2.2.2) (fun r (u : A1 × A2 × A3 × A4 × A5 × A6) => K r u.1 u.2.1 u.2.2.1 u.2.2.2.1 u.2.2.2.2.1 u.2.2.2.2.2)
def rtI_6 (Γ : GT) (cc : ByteArray) (nL : Nat) {A1 A2 A3 A4 A5 A6 : Type} (Wd : A1 → A2 → A3 → A4 → A5 → A6 → va_W) (K : Int32 → A1 → A2 → A3 → A4 → A5 → A6 → Prop) : Prop := rtI Γ cc nL (fun u : A1 × A2 × A3 × A4 × A5 × A6 => Wd u.1 u.2.1 u.2.2.1 u.2.2.2.1 u.2.2.2.2.1 u.2.2.2.2.2) (fun r (u : A1 × A2 × A3 × A4 × A5 × A6) => K r u.1 u.2.1 u.2.2.1 u.2.2.2.1 u.2.2.2.2.1 u.2.2.2.2.2)
theorem met_I_6 {q : Nat → ClassId} {y : MethodName} {cc : ByteArray} {nL fr lo : Nat} {av : List Value} {W0 : va_W} {A1 A2 A3 A4 A5 A6 : Type} {Wd : A1 → A2 → A3 → A4 → A5 → A6 → va_W} {K : Int32 → A1 → A2 → A3 → A4 → A5 → A6 → Prop} (hy : plainName y.cls = true) (hav : (lg_sl av).length ≤ nL)
    (walk : ∀ Γ : GT, gd Γ cc y.cls nL (rmz fr lo) q → rtI_6 Γ cc nL Wd K → jw Γ nL 0 0 W0 (lv_args 0 av) [] 0) : ctI_6 q y cc nL fr lo av W0 Wd K := met_I hy hav walk
theorem rtI_6.go {Γ : GT} {cc : ByteArray} {nL : Nat} {A1 A2 A3 A4 A5 A6 : Type} {Wd : A1 → A2 → A3 → A4 → A5 → A6 → va_W} {K : Int32 → A1 → A2 → A3 → A4 → A5 → A6 → Prop} (hr : rtI_6 Γ cc nL Wd K) {lv : List (Nat × Value)} {pc : Nat} {r : Int32} {m1 : A1} {m2 : A2} {m3 : A3} {m4 : A4} {m5 : A5} {m6 : A6} (hd : decode cc pc = .ok (.ireturn, 1)) (h : K r m1 m2 m3 m4 m5 m6) : jw Γ nL 0 0 (Wd m1 m2 m3 m4 m5 m6) lv [.int r] pc := hr lv pc r (m1, m2, m3, m4, m5, m6) hd h
def ctI_8 (q : Nat → ClassId) (y : MethodName) (cc : ByteArray) (nL fr lo : Nat) (av : List Value) (W0 : va_W) {A1 A2 A3 A4 A5 A6 A7 A8 : Type} (Wd : A1 → A2 → A3 → A4 → A5 → A6 → A7 → A8 → va_W) (K : Int32 → A1 → A2 → A3 → A4 → A5 → A6 → A7 → A8 → Prop) : Prop := ctI q y cc nL fr lo av W0 (fun u : A1 × A2 × A3 × A4 × A5 × A6 × A7 × A8 => Wd u.1 u.2.1 u.2.2.1 u.2.2.2.1 u.2.2.2.2.1 u.2.2.2.2.2.1 u.2.2.2.2.2.2.1 u.2.2.2.2.2.2.2) (fun r (u : A1 × A2 × A3 × A4 × A5 × A6 × A7 × A8) => K r u.1 u.2.1 u.2.2.1 u.2.2.2.1 u.2.2.2.2.1 u.2.2.2.2.2.1 u.2.2.2.2.2.2.1 u.2.2.2.2.2.2.2)
def rtI_8 (Γ : GT) (cc : ByteArray) (nL : Nat) {A1 A2 A3 A4 A5 A6 A7 A8 : Type} (Wd : A1 → A2 → A3 → A4 → A5 → A6 → A7 → A8 → va_W) (K : Int32 → A1 → A2 → A3 → A4 → A5 → A6 → A7 → A8 → Prop) : Prop := rtI Γ cc nL (fun u : A1 × A2 × A3 × A4 × A5 × A6 × A7 × A8 => Wd u.1 u.2.1 u.2.2.1 u.2.2.2.1 u.2.2.2.2.1 u.2.2.2.2.2.1 u.2.2.2.2.2.2.1 u.2.2.2.2.2.2.2) (fun r (u : A1 × A2 × A3 × A4 × A5 × A6 × A7 × A8) => K r u.1 u.2.1 u.2.2.1 u.2.2.2.1 u.2.2.2.2.1 u.2.2.2.2.2.1 u.2.2.2.2.2.2.1 u.2.2.2.2.2.2.2)
theorem met_I_8 {q : Nat → ClassId} {y : MethodName} {cc : ByteArray} {nL fr lo : Nat} {av : List Value} {W0 : va_W} {A1 A2 A3 A4 A5 A6 A7 A8 : Type} {Wd : A1 → A2 → A3 → A4 → A5 → A6 → A7 → A8 → va_W} {K : Int32 → A1 → A2 → A3 → A4 → A5 → A6 → A7 → A8 → Prop} (hy : plainName y.cls = true) (hav : (lg_sl av).length ≤ nL)
    (walk : ∀ Γ : GT, gd Γ cc y.cls nL (rmz fr lo) q → rtI_8 Γ cc nL Wd K → jw Γ nL 0 0 W0 (lv_args 0 av) [] 0) : ctI_8 q y cc nL fr lo av W0 Wd K := met_I hy hav walk
theorem rtI_8.go {Γ : GT} {cc : ByteArray} {nL : Nat} {A1 A2 A3 A4 A5 A6 A7 A8 : Type} {Wd : A1 → A2 → A3 → A4 → A5 → A6 → A7 → A8 → va_W} {K : Int32 → A1 → A2 → A3 → A4 → A5 → A6 → A7 → A8 → Prop} (hr : rtI_8 Γ cc nL Wd K) {lv : List (Nat × Value)} {pc : Nat} {r : Int32} {m1 : A1} {m2 : A2} {m3 : A3} {m4 : A4} {m5 : A5} {m6 : A6} {m7 : A7} {m8 : A8} (hd : decode cc pc = .ok (.ireturn, 1)) (h : K r m1 m2 m3 m4 m5 m6 m7 m8) : jw Γ nL 0 0 (Wd m1 m2 m3 m4 m5 m6 m7 m8) lv [.int r] pc := hr lv pc r (m1, m2, m3, m4, m5, m6, m7, m8) hd h
def ctI_9 (q : Nat → ClassId) (y : MethodName) (cc : ByteArray) (nL fr lo : Nat) (av : List Value) (W0 : va_W) {A1 A2 A3 A4 A5 A6 A7 A8 A9 : Type} (Wd : A1 → A2 → A3 → A4 → A5 → A6 → A7 → A8 → A9 → va_W) (K : Int32 → A1 → A2 → A3 → A4 → A5 → A6 → A7 → A8 → A9 → Prop) : Prop := ctI q y cc nL fr lo av W0 (fun u : A1 × A2 × A3 × A4 × A5 × A6 × A7 × A8 × A9 => Wd u.1 u.2.1 u.2.2.1 u.2.2.2.1 u.2.2.2.2.1 u.2.2.2.2.2.1 u.2.2.2.2.2.2.1 u.2.2.2.2.2.2.2.1 u.2.2.2.2.2.2.2.2) (fun r (u : A1 × A2 × A3 × A4 × A5 × A6 × A7 × A8 × A9) => K r u.1 u.2.1 u.2.2.1 u.2.2.2.1 u.2.2.2.2.1 u.2.2.2.2.2.1 u.2.2.2.2.2.2.1 u.2.2.2.2.2.2.2.1 u.2.2.2.2.2.2.2.2)
def rtI_9 (Γ : GT) (cc : ByteArray) (nL : Nat) {A1 A2 A3 A4 A5 A6 A7 A8 A9 : Type} (Wd : A1 → A2 → A3 → A4 → A5 → A6 → A7 → A8 → A9 → va_W) (K : Int32 → A1 → A2 → A3 → A4 → A5 → A6 → A7 → A8 → A9 → Prop) : Prop := rtI Γ cc nL (fun u : A1 × A2 × A3 × A4 × A5 × A6 × A7 × A8 × A9 => Wd u.1 u.2.1 u.2.2.1 u.2.2.2.1 u.2.2.2.2.1 u.2.2.2.2.2.1 u.2.2.2.2.2.2.1 u.2.2.2.2.2.2.2.1 u.2.2.2.2.2.2.2.2) (fun r (u : A1 × A2 × A3 × A4 × A5 × A6 × A7 × A8 × A9) => K r u.1 u.2.1 u.2.2.1 u.2.2.2.1 u.2.2.2.2.1 u.2.2.2.2.2.1 u.2.2.2.2.2.2.1 u.2.2.2.2.2.2.2.1 u.2.2.2.2.2.2.2.2)
theorem met_I_9 {q : Nat → ClassId} {y : MethodName} {cc : ByteArray} {nL fr lo : Nat} {av : List Value} {W0 : va_W} {A1 A2 A3 A4 A5 A6 A7 A8 A9 : Type} {Wd : A1 → A2 → A3 → A4 → A5 → A6 → A7 → A8 → A9 → va_W} {K : Int32 → A1 → A2 → A3 → A4 → A5 → A6 → A7 → A8 → A9 → Prop} (hy : plainName y.cls = true) (hav : (lg_sl av).length ≤ nL)
    (walk : ∀ Γ : GT, gd Γ cc y.cls nL (rmz fr lo) q → rtI_9 Γ cc nL Wd K → jw Γ nL 0 0 W0 (lv_args 0 av) [] 0) : ctI_9 q y cc nL fr lo av W0 Wd K := met_I hy hav walk
theorem rtI_9.go {Γ : GT} {cc : ByteArray} {nL : Nat} {A1 A2 A3 A4 A5 A6 A7 A8 A9 : Type} {Wd : A1 → A2 → A3 → A4 → A5 → A6 → A7 → A8 → A9 → va_W} {K : Int32 → A1 → A2 → A3 → A4 → A5 → A6 → A7 → A8 → A9 → Prop} (hr : rtI_9 Γ cc nL Wd K) {lv : List (Nat × Value)} {pc : Nat} {r : Int32} {m1 : A1} {m2 : A2} {m3 : A3} {m4 : A4} {m5 : A5} {m6 : A6} {m7 : A7} {m8 : A8} {m9 : A9} (hd : decode cc pc = .ok (.ireturn, 1)) (h : K r m1 m2 m3 m4 m5 m6 m7 m8 m9) : jw Γ nL 0 0 (Wd m1 m2 m3 m4 m5 m6 m7 m8 m9) lv [.int r] pc := hr lv pc r (m1, m2, m3, m4, m5, m6, m7, m8, m9) hd h
def ctI_10 (q : Nat → ClassId) (y : MethodName) (cc : ByteArray) (nL fr lo : Nat) (av : List Value) (W0 : va_W) {A1 A2 A3 A4 A5 A6 A7 A8 A9 A10 : Type} (Wd : A1 → A2 → A3 → A4 → A5 → A6 → A7 → A8 → A9 → A10 → va_W) (K : Int32 → A1 → A2 → A3 → A4 → A5 → A6 → A7 → A8 → A9 → A10 → Prop) : Prop := ctI q y cc nL fr lo av W0 (fun u : A1 × A2 × A3 × A4 × A5 × A6 × A7 × A8 × A9 × A10 => Wd u.1 u.2.1 u.2.2.1 u.2.2.2.1 u.2.2.2.2.1 u.2.2.2.2.2.1 u.2.2.2.2.2.2.1 u.2.2.2.2.2.2.2.1 u.2.2.2.2.2.2.2.2.1 u.2.2.2.2.2.2.2.2.2) (fun r (u : A1 × A2 × A3 × A4 × A5 × A6 × A7 × A8 × A9 × A10) => K r u.1 u.2.1 u.2.2.1 u.2.2.2.1 u.2.2.2.2.1 u.2.2.2.2.2.1 u.2.2.2.2.2.2.1 u.2.2.2.2.2.2.2.1 u.2.2.2.2.2.2.2.2.1 u.2.2.2.2.2.2.2.2.2)
def rtI_10 (Γ : GT) (cc : ByteArray) (nL : Nat) {A1 A2 A3 A4 A5 A6 A7 A8 A9 A10 : Type} (Wd : A1 → A2 → A3 → A4 → A5 → A6 → A7 → A8 → A9 → A10 → va_W) (K : Int32 → A1 → A2 → A3 → A4 → A5 → A6 → A7 → A8 → A9 → A10 → Prop) : Prop := rtI Γ cc nL (fun u : A1 × A2 × A3 × A4 × A5 × A6 × A7 × A8 × A9 × A10 => Wd u.1 u.2.1 u.2.2.1 u.2.2.2.1 u.2.2.2.2.1 u.2.2.2.2.2.1 u.2.2.2.2.2.2.1 u.2.2.2.2.2.2.2.1 u.2.2.2.2.2.2.2.2.1 u.2.2.2.2.2.2.2.2.2) (fun r (u : A1 × A2 × A3 × A4 × A5 × A6 × A7 × A8 × A9 × A10) => K r u.1 u.2.1 u.2.2.1 u.2.2.2.1 u.2.2.2.2.1 u.2.2.2.2.2.1 u.2.2.2.2.2.2.1 u.2.2.2.2.2.2.2.1 u.2.2.2.2.2.2.2.2.1 u.2.2.2.2.2.2.2.2.2)
theorem met_I_10 {q : Nat → ClassId} {y : MethodName} {cc : ByteArray} {nL fr lo : Nat} {av : List Value} {W0 : va_W} {A1 A2 A3 A4 A5 A6 A7 A8 A9 A10 : Type} {Wd : A1 → A2 → A3 → A4 → A5 → A6 → A7 → A8 → A9 → A10 → va_W} {K : Int32 → A1 → A2 → A3 → A4 → A5 → A6 → A7 → A8 → A9 → A10 → Prop} (hy : plainName y.cls = true) (hav : (lg_sl av).length ≤ nL)
    (walk : ∀ Γ : GT, gd Γ cc y.cls nL (rmz fr lo) q → rtI_10 Γ cc nL Wd K → jw Γ nL 0 0 W0 (lv_args 0 av) [] 0) : ctI_10 q y cc nL fr lo av W0 Wd K := met_I hy hav walk
theorem rtI_10.go {Γ : GT} {cc : ByteArray} {nL : Nat} {A1 A2 A3 A4 A5 A6 A7 A8 A9 A10 : Type} {Wd : A1 → A2 → A3 → A4 → A5 → A6 → A7 → A8 → A9 → A10 → va_W} {K : Int32 → A1 → A2 → A3 → A4 → A5 → A6 → A7 → A8 → A9 → A10 → Prop} (hr : rtI_10 Γ cc nL Wd K) {lv : List (Nat × Value)} {pc : Nat} {r : Int32} {m1 : A1} {m2 : A2} {m3 : A3} {m4 : A4} {m5 : A5} {m6 : A6} {m7 : A7} {m8 : A8} {m9 : A9} {m10 : A10} (hd : decode cc pc = .ok (.ireturn, 1)) (h : K r m1 m2 m3 m4 m5 m6 m7 m8 m9 m10) : jw Γ nL 0 0 (Wd m1 m2 m3 m4 m5 m6 m7 m8 m9 m10) lv [.int r] pc := hr lv pc r (m1, m2, m3, m4, m5, m6, m7, m8, m9, m10) hd h
def ctI_11 (q : Nat → ClassId) (y : MethodName) (cc : ByteArray) (nL fr lo : Nat) (av : List Value) (W0 : va_W) {A1 A2 A3 A4 A5 A6 A7 A8 A9 A10 A11 : Type} (Wd : A1 → A2 → A3 → A4 → A5 → A6 → A7 → A8 → A9 → A10 → A11 → va_W) (K : Int32 → A1 → A2 → A3 → A4 → A5 → A6 → A7 → A8 → A9 → A10 → A11 → Prop) : Prop := ctI q y cc nL fr lo av W0 (fun u : A1 × A2 × A3 × A4 × A5 × A6 × A7 × A8 × A9 × A10 × A11 => Wd u.1 u.2.1 u.2.2.1 u.2.2.2.1 u.2.2.2.2.1 u.2.2.2.2.2.1 u.2.2.2.2.2.2.1 u.2.2.2.2.2.2.2.1 u.2.2.2.2.2.2.2.2.1 u.2.2.2.2.2.2.2.2.2.1 u.2.2.2.2.2.2.2.2.2.2) (fun r (u : A1 × A2 × A3 × A4 × A5 × A6 × A7 × A8 × A9 × A10 × A11) => K r u.1 u.2.1 u.2.2.1 u.2.2.2.1 u.2.2.2.2.1 u.2.2.2.2.2.1 u.2.2.2.2.2.2.1 u.2.2.2.2.2.2.2.1 u.2.2.2.2.2.2.2.2.1 u.2.2.2.2.2.2.2.2.2.1 u.2.2.2.2.2.2.2.2.2.2)
def rtI_11 (Γ : GT) (cc : ByteArray) (nL : Nat) {A1 A2 A3 A4 A5 A6 A7 A8 A9 A10 A11 : Type} (Wd : A1 → A2 → A3 → A4 → A5 → A6 → A7 → A8 → A9 → A10 → A11 → va_W) (K : Int32 → A1 → A2 → A3 → A4 → A5 → A6 → A7 → A8 → A9 → A10 → A11 → Prop) : Prop := rtI Γ cc nL (fun u : A1 × A2 × A3 × A4 × A5 × A6 × A7 × A8 × A9 × A10 × A11 => Wd u.1 u.2.1 u.2.2.1 u.2.2.2.1 u.2.2.2.2.1 u.2.2.2.2.2.1 u.2.2.2.2.2.2.1 u.2.2.2.2.2.2.2.1 u.2.2.2.2.2.2.2.2.1 u.2.2.2.2.2.2.2.2.2.1 u.2.2.2.2.2.2.2.2.2.2) (fun r (u : A1 × A2 × A3 × A4 × A5 × A6 × A7 × A8 × A9 × A10 × A11) => K r u.1 u.2.1 u.2.2.1 u.2.2.2.1 u.2.2.2.2.1 u.2.2.2.2.2.1 u.2.2.2.2.2.2.1 u.2.2.2.2.2.2.2.1 u.2.2.2.2.2.2.2.2.1 u.2.2.2.2.2.2.2.2.2.1 u.2.2.2.2.2.2.2.2.2.2)
theorem met_I_11 {q : Nat → ClassId} {y : MethodName} {cc : ByteArray} {nL fr lo : Nat} {av : List Value} {W0 : va_W} {A1 A2 A3 A4 A5 A6 A7 A8 A9 A10 A11 : Type} {Wd : A1 → A2 → A3 → A4 → A5 → A6 → A7 → A8 → A9 → A10 → A11 → va_W} {K : Int32 → A1 → A2 → A3 → A4 → A5 → A6 → A7 → A8 → A9 → A10 → A11 → Prop} (hy : plainName y.cls = true) (hav : (lg_sl av).length ≤ nL)
    (walk : ∀ Γ : GT, gd Γ cc y.cls nL (rmz fr lo) q → rtI_11 Γ cc nL Wd K → jw Γ nL 0 0 W0 (lv_args 0 av) [] 0) : ctI_11 q y cc nL fr lo av W0 Wd K := met_I hy hav walk
theorem rtI_11.go {Γ : GT} {cc : ByteArray} {nL : Nat} {A1 A2 A3 A4 A5 A6 A7 A8 A9 A10 A11 : Type} {Wd : A1 → A2 → A3 → A4 → A5 → A6 → A7 → A8 → A9 → A10 → A11 → va_W} {K : Int32 → A1 → A2 → A3 → A4 → A5 → A6 → A7 → A8 → A9 → A10 → A11 → Prop} (hr : rtI_11 Γ cc nL Wd K) {lv : List (Nat × Value)} {pc : Nat} {r : Int32} {m1 : A1} {m2 : A2} {m3 : A3} {m4 : A4} {m5 : A5} {m6 : A6} {m7 : A7} {m8 : A8} {m9 : A9} {m10 : A10} {m11 : A11} (hd : decode cc pc = .ok (.ireturn, 1)) (h : K r m1 m2 m3 m4 m5 m6 m7 m8 m9 m10 m11) : jw Γ nL 0 0 (Wd m1 m2 m3 m4 m5 m6 m7 m8 m9 m10 m11) lv [.int r] pc := hr lv pc r (m1, m2, m3, m4, m5, m6, m7, m8, m9, m10, m11) hd h
def ctI_12 (q : Nat → ClassId) (y : MethodName) (cc : ByteArray) (nL fr lo : Nat) (av : List Value) (W0 : va_W) {A1 A2 A3 A4 A5 A6 A7 A8 A9 A10 A11 A12 : Type} (Wd : A1 → A2 → A3 → A4 → A5 → A6 → A7 → A8 → A9 → A10 → A11 → A12 → va_W) (K : Int32 → A1 → A2 → A3 → A4 → A5 → A6 → A7 → A8 → A9 → A10 → A11 → A12 → Prop) : Prop := ctI q y cc nL fr lo av W0 (fun u : A1 × A2 × A3 × A4 × A5 × A6 × A7 × A8 × A9 × A10 × A11 × A12 => Wd u.1 u.2.1 u.2.2.1 u.2.2.2.1 u.2.2.2.2.1 u.2.2.2.2.2.1 u.2.2.2.2.2.2.1 u.2.2.2.2.2.2.2.1 u.2.2.2.2.2.2.2.2.1 u.2.2.2.2.2.2.2.2.2.1 u.2.2.2.2.2.2.2.2.2.2.1 u.2.2.2.2.2.2.2.2.2.2.2) (fun r (u : A1 × A2 × A3 × A4 × A5 × A6 × A7 × A8 × A9 × A10 × A11 × A12) => K r u.1 u.2.1 u.2.2.1 u.2.2.2.1 u.2.2.2.2.1 u.2.2.2.2.2.1 u.2.2.2.2.2.2.1 u.2.2.2.2.2.2.2.1 u.2.2.2.2.2.2.2.2.1 u.2.2.2.2.2.2.2.2.2.1 u.2.2.2.2.2.2.2.2.2.2.1 u.2.2.2.2.2.2.2.2.2.2.2)
def rtI_12 (Γ : GT) (cc : ByteArray) (nL : Nat) {A1 A2 A3 A4 A5 A6 A7 A8 A9 A10 A11 A12 : Type} (Wd : A1 → A2 → A3 → A4 → A5 → A6 → A7 → A8 → A9 → A10 → A11 → A12 → va_W) (K : Int32 → A1 → A2 → A3 → A4 → A5 → A6 → A7 → A8 → A9 → A10 → A11 → A12 → Prop) : Prop := rtI Γ cc nL (fun u : A1 × A2 × A3 × A4 × A5 × A6 × A7 × A8 × A9 × A10 × A11 × A12 => Wd u.1 u.2.1 u.2.2.1 u.2.2.2.1 u.2.2.2.2.1 u.2.2.2.2.2.1 u.2.2.2.2.2.2.1 u.2.2.2.2.2.2.2.1 u.2.2.2.2.2.2.2.2.1 u.2.2.2.2.2.2.2.2.2.1 u.2.2.2.2.2.2.2.2.2.2.1 u.2.2.2.2.2.2.2.2.2.2.2) (fun r (u : A1 × A2 × A3 × A4 × A5 × A6 × A7 × A8 × A9 × A10 × A11 × A12) => K r u.1 u.2.1 u.2.2.1 u.2.2.2.1 u.2.2.2.2.1 u.2.2.2.2.2.1 u.2.2.2.2.2.2.1 u.2.2.2.2.2.2.2.1 u.2.2.2.2.2.2.2.2.1 u.2.2.2.2.2.2.2.2.2.1 u.2.2.2.2.2.2.2.2.2.2.1 u.2.2.2.2.2.2.2.2.2.2.2)
theorem met_I_12 {q : Nat → ClassId} {y : MethodName} {cc : ByteArray} {nL fr lo : Nat} {av : List Value} {W0 : va_W} {A1 A2 A3 A4 A5 A6 A7 A8 A9 A10 A11 A12 : Type} {Wd : A1 → A2 → A3 → A4 → A5 → A6 → A7 → A8 → A9 → A10 → A11 → A12 → va_W} {K : Int32 → A1 → A2 → A3 → A4 → A5 → A6 → A7 → A8 → A9 → A10 → A11 → A12 → Prop} (hy : plainName y.cls = true) (hav : (lg_sl av).length ≤ nL)
    (walk : ∀ Γ : GT, gd Γ cc y.cls nL (rmz fr lo) q → rtI_12 Γ cc nL Wd K → jw Γ nL 0 0 W0 (lv_args 0 av) [] 0) : ctI_12 q y cc nL fr lo av W0 Wd K := met_I hy hav walk
theorem rtI_12.go {Γ : GT} {cc : ByteArray} {nL : Nat} {A1 A2 A3 A4 A5 A6 A7 A8 A9 A10 A11 A12 : Type} {Wd : A1 → A2 → A3 → A4 → A5 → A6 → A7 → A8 → A9 → A10 → A11 → A12 → va_W} {K : Int32 → A1 → A2 → A3 → A4 → A5 → A6 → A7 → A8 → A9 → A10 → A11 → A12 → Prop} (hr : rtI_12 Γ cc nL Wd K) {lv : List (Nat × Value)} {pc : Nat} {r : Int32} {m1 : A1} {m2 : A2} {m3 : A3} {m4 : A4} {m5 : A5} {m6 : A6} {m7 : A7} {m8 : A8} {m9 : A9} {m10 : A10} {m11 : A11} {m12 : A12} (hd : decode cc pc = .ok (.ireturn, 1)) (h : K r m1 m2 m3 m4 m5 m6 m7 m8 m9 m10 m11 m12) : jw Γ nL 0 0 (Wd m1 m2 m3 m4 m5 m6 m7 m8 m9 m10 m11 m12) lv [.int r] pc := hr lv pc r (m1, m2, m3, m4, m5, m6, m7, m8, m9, m10, m11, m12) hd h
def ctI_13 (q : Nat → ClassId) (y : MethodName) (cc : ByteArray) (nL fr lo : Nat) (av : List Value) (W0 : va_W) {A1 A2 A3 A4 A5 A6 A7 A8 A9 A10 A11 A12 A13 : Type} (Wd : A1 → A2 → A3 → A4 → A5 → A6 → A7 → A8 → A9 → A10 → A11 → A12 → A13 → va_W) (K : Int32 → A1 → A2 → A3 → A4 → A5 → A6 → A7 → A8 → A9 → A10 → A11 → A12 → A13 → Prop) : Prop := ctI q y cc nL fr lo av W0 (fun u : A1 × A2 × A3 × A4 × A5 × A6 × A7 × A8 × A9 × A10 × A11 × A12 × A13 => Wd u.1 u.2.1 u.2.2.1 u.2.2.2.1 u.2.2.2.2.1 u.2.2.2.2.2.1 u.2.2.2.2.2.2.1 u.2.2.2.2.2.2.2.1 u.2.2.2.2.2.2.2.2.1 u.2.2.2.2.2.2.2.2.2.1 u.2.2.2.2.2.2.2.2.2.2.1 u.2.2.2.2.2.2.2.2.2.2.2.1 u.2.2.2.2.2.2.2.2.2.2.2.2) (fun r (u : A1 × A2 × A3 × A4 × A5 × A6 × A7 × A8 × A9 × A10 × A11 × A12 × A13) => K r u.1 u.2.1 u.2.2.1 u.2.2.2.1 u.2.2.2.2.1 u.2.2.2.2.2.1 u.2.2.2.2.2.2.1 u.2.2.2.2.2.2.2.1 u.2.2.2.2.2.2.2.2.1 u.2.2.2.2.2.2.2.2.2.1 u.2.2.2.2.2.2.2.2.2.2.1 u.2.2.2.2.2.2.2.2.2.2.2.1 u.2.2.2.2.2.2.2.2.2.2.2.2)
def rtI_13 (Γ : GT) (cc : ByteArray) (nL : Nat) {A1 A2 A3 A4 A5 A6 A7 A8 A9 A10 A11 A12 A13 : Type} (Wd : A1 → A2 → A3 → A4 → A5 → A6 → A7 → A8 → A9 → A10 → A11 → A12 → A13 → va_W) (K : Int32 → A1 → A2 → A3 → A4 → A5 → A6 → A7 → A8 → A9 → A10 → A11 → A12 → A13 → Prop) : Prop := rtI Γ cc nL (fun u : A1 × A2 × A3 × A4 × A5 × A6 × A7 × A8 × A9 × A10 × A11 × A12 × A13 => Wd u.1 u.2.1 u.2.2.1 u.2.2.2.1 u.2.2.2.2.1 u.2.2.2.2.2.1 u.2.2.2.2.2.2.1 u.2.2.2.2.2.2.2.1 u.2.2.2.2.2.2.2.2.1 u.2.2.2.2.2.2.2.2.2.1 u.2.2.2.2.2.2.2.2.2.2.1 u.2.2.2.2.2.2.2.2.2.2.2.1 u.2.2.2.2.2.2.2.2.2.2.2.2) (fun r (u : A1 × A2 × A3 × A4 × A5 × A6 × A7 × A8 × A9 × A10 × A11 × A12 × A13) => K r u.1 u.2.1 u.2.2.1 u.2.2.2.1 u.2.2.2.2.1 u.2.2.2.2.2.1 u.2.2.2.2.2.2.1 u.2.2.2.2.2.2.2.1 u.2.2.2.2.2.2.2.2.1 u.2.2.2.2.2.2.2.2.2.1 u.2.2.2.2.2.2.2.2.2.2.1 u.2.2.2.2.2.2.2.2.2.2.2.1 u.2.2.2.2.2.2.2.2.2.2.2.2)
theorem met_I_13 {q : Nat → ClassId} {y : MethodName} {cc : ByteArray} {nL fr lo : Nat} {av : List Value} {W0 : va_W} {A1 A2 A3 A4 A5 A6 A7 A8 A9 A10 A11 A12 A13 : Type} {Wd : A1 → A2 → A3 → A4 → A5 → A6 → A7 → A8 → A9 → A10 → A11 → A12 → A13 → va_W} {K : Int32 → A1 → A2 → A3 → A4 → A5 → A6 → A7 → A8 → A9 → A10 → A11 → A12 → A13 → Prop} (hy : plainName y.cls = true) (hav : (lg_sl av).length ≤ nL)
    (walk : ∀ Γ : GT, gd Γ cc y.cls nL (rmz fr lo) q → rtI_13 Γ cc nL Wd K → jw Γ nL 0 0 W0 (lv_args 0 av) [] 0) : ctI_13 q y cc nL fr lo av W0 Wd K := met_I hy hav walk
theorem rtI_13.go {Γ : GT} {cc : ByteArray} {nL : Nat} {A1 A2 A3 A4 A5 A6 A7 A8 A9 A10 A11 A12 A13 : Type} {Wd : A1 → A2 → A3 → A4 → A5 → A6 → A7 → A8 → A9 → A10 → A11 → A12 → A13 → va_W} {K : Int32 → A1 → A2 → A3 → A4 → A5 → A6 → A7 → A8 → A9 → A10 → A11 → A12 → A13 → Prop} (hr : rtI_13 Γ cc nL Wd K) {lv : List (Nat × Value)} {pc : Nat} {r : Int32} {m1 : A1} {m2 : A2} {m3 : A3} {m4 : A4} {m5 : A5} {m6 : A6} {m7 : A7} {m8 : A8} {m9 : A9} {m10 : A10} {m11 : A11} {m12 : A12} {m13 : A13} (hd : decode cc pc = .ok (.ireturn, 1)) (h : K r m1 m2 m3 m4 m5 m6 m7 m8 m9 m10 m11 m12 m13) : jw Γ nL 0 0 (Wd m1 m2 m3 m4 m5 m6 m7 m8 m9 m10 m11 m12 m13) lv [.int r] pc := hr lv pc r (m1, m2, m3, m4, m5, m6, m7, m8, m9, m10, m11, m12, m13) hd h
def ctI_14 (q : Nat → ClassId) (y : MethodName) (cc : ByteArray) (nL fr lo : Nat) (av : List Value) (W0 : va_W) {A1 A2 A3 A4 A5 A6 A7 A8 A9 A10 A11 A12 A13 A14 : Type} (Wd : A1 → A2 → A3 → A4 → A5 → A6 → A7 → A8 → A9 → A10 → A11 → A12 → A13 → A14 → va_W) (K : Int32 → A1 → A2 → A3 → A4 → A5 → A6 → A7 → A8 → A9 → A10 → A11 → A12 → A13 → A14 → Prop) : Prop := ctI q y cc nL fr lo av W0 (fun u : A1 × A2 × A3 × A4 × A5 × A6 × A7 × A8 × A9 × A10 × A11 × A12 × A13 × A14 => Wd u.1 u.2.1 u.2.2.1 u.2.2.2.1 u.2.2.2.2.1 u.2.2.2.2.2.1 u.2.2.2.2.2.2.1 u.2.2.2.2.2.2.2.1 u.2.2.2.2.2.2.2.2.1 u.2.2.2.2.2.2.2.2.2.1 u.2.2.2.2.2.2.2.2.2.2.1 u.2.2.2.2.2.2.2.2.2.2.2.1 u.2.2.2.2.2.2.2.2.2.2.2.2.1 u.2.2.2.2.2.2.2.2.2.2.2.2.2) (fun r (u : A1 × A2 × A3 × A4 × A5 × A6 × A7 × A8 × A9 × A10 × A11 × A12 × A13 × A14) => K r u.1 u.2.1 u.2.2.1 u.2.2.2.1 u.2.2.2.2.1 u.2.2.2.2.2.1 u.2.2.2.2.2.2.1 u.2.2.2.2.2.2.2.1 u.2.2.2.2.2.2.2.2.1 u.2.2.2.2.2.2.2.2.2.1 u.2.2.2.2.2.2.2.2.2.2.1 u.2.2.2.2.2.2.2.2.2.2.2.1 u.2.2.2.2.2.2.2.2.2.2.2.2.1 u.2.2.2.2.2.2.2.2.2.2.2.2.2)
def rtI_14 (Γ : GT) (cc : ByteArray) (nL : Nat) {A1 A2 A3 A4 A5 A6 A7 A8 A9 A10 A11 A12 A13 A14 : Type} (Wd : A1 → A2 → A3 → A4 → A5 → A6 → A7 → A8 → A9 → A10 → A11 → A12 → A13 → A14 → va_W) (K : Int32 → A1 → A2 → A3 → A4 → A5 → A6 → A7 → A8 → A9 → A10 → A11 → A12 → A13 → A14 → Prop) : Prop := rtI Γ cc nL (fun u : A1 × A2 × A3 × A4 × A5 × A6 × A7 × A8 × A9 × A10 × A11 × A12 × A13 × A14 => Wd u.1 u.2.1 u.2.2.1 u.2.2.2.1 u.2.2.2.2.1 u.2.2.2.2.2.1 u.2.2.2.2.2.2.1 u.2.2.2.2.2.2.2.1 u.2.2.2.2.2.2.2.2.1 u.2.2.2.2.2.2.2.2.2.1 u.2.2.2.2.2.2.2.2.2.2.1 u.2.2.2.2.2.2.2.2.2.2.2.1 u.2.2.2.2.2.2.2.2.2.2.2.2.1 u.2.2.2.2.2.2.2.2.2.2.2.2.2) (fun r (u : A1 × A2 × A3 × A4 × A5 × A6 × A7 × A8 × A9 × A10 × A11 × A12 × A13 × A14) => K r u.1 u.2.1 u.2.2.1 u.2.2.2.1 u.2.2.2.2.1 u.2.2.2.2.2.1 u.2.2.2.2.2.2.1 u.2.2.2.2.2.2.2.1 u.2.2.2.2.2.2.2.2.1 u.2.2.2.2.2.2.2.2.2.1 u.2.2.2.2.2.2.2.2.2.2.1 u.2.2.2.2.2.2.2.2.2.2.2.1 u.2.2.2.2.2.2.2.2.2.2.2.2.1 u.2.2.2.2.2.2.2.2.2.2.2.2.2)
theorem met_I_14 {q : Nat → ClassId} {y : MethodName} {cc : ByteArray} {nL fr lo : Nat} {av : List Value} {W0 : va_W} {A1 A2 A3 A4 A5 A6 A7 A8 A9 A10 A11 A12 A13 A14 : Type} {Wd : A1 → A2 → A3 → A4 → A5 → A6 → A7 → A8 → A9 → A10 → A11 → A12 → A13 → A14 → va_W} {K : Int32 → A1 → A2 → A3 → A4 → A5 → A6 → A7 → A8 → A9 → A10 → A11 → A12 → A13 → A14 → Prop} (hy : plainName y.cls = true) (hav : (lg_sl av).length ≤ nL)
    (walk : ∀ Γ : GT, gd Γ cc y.cls nL (rmz fr lo) q → rtI_14 Γ cc nL Wd K → jw Γ nL 0 0 W0 (lv_args 0 av) [] 0) : ctI_14 q y cc nL fr lo av W0 Wd K := met_I hy hav walk
theorem rtI_14.go {Γ : GT} {cc : ByteArray} {nL : Nat} {A1 A2 A3 A4 A5 A6 A7 A8 A9 A10 A11 A12 A13 A14 : Type} {Wd : A1 → A2 → A3 → A4 → A5 → A6 → A7 → A8 → A9 → A10 → A11 → A12 → A13 → A14 → va_W} {K : Int32 → A1 → A2 → A3 → A4 → A5 → A6 → A7 → A8 → A9 → A10 → A11 → A12 → A13 → A14 → Prop} (hr : rtI_14 Γ cc nL Wd K) {lv : List (Nat × Value)} {pc : Nat} {r : Int32} {m1 : A1} {m2 : A2} {m3 : A3} {m4 : A4} {m5 : A5} {m6 : A6} {m7 : A7} {m8 : A8} {m9 : A9} {m10 : A10} {m11 : A11} {m12 : A12} {m13 : A13} {m14 : A14} (hd : decode cc pc = .ok (.ireturn, 1)) (h : K r m1 m2 m3 m4 m5 m6 m7 m8 m9 m10 m11 m12 m13 m14) : jw Γ nL 0 0 (Wd m1 m2 m3 m4 m5 m6 m7 m8 m9 m10 m11 m12 m13 m14) lv [.int r] pc := hr lv pc r (m1, m2, m3, m4, m5, m6, m7, m8, m9, m10, m11, m12, m13, m14) hd h
def ctI_20 (q : Nat → ClassId) (y : MethodName) (cc : ByteArray) (nL fr lo : Nat) (av : List Value) (W0 : va_W) {A1 A2 A3 A4 A5 A6 A7 A8 A9 A10 A11 A12 A13 A14 A15 A16 A17 A18 A19 A20 : Type} (Wd : A1 → A2 → A3 → A4 → A5 → A6 → A7 → A8 → A9 → A10 → A11 → A12 → A13 → A14 → A15 → A16 → A17 → A18 → A19 → A20 → va_W) (K : Int32 → A1 → A2 → A3 → A4 → A5 → A6 → A7 → A8 → A9 → A10 → A11 → A12 → A13 → A14 → A15 → A16 → A17 → A18 → A19 → A20 → Prop) : Prop := ctI q y cc nL fr lo av W0 (fun u : A1 × A2 × A3 × A4 × A5 × A6 × A7 × A8 × A9 × A10 × A11 × A12 × A13 × A14 × A15 × A16 × A17 × A18 × A19 × A20 => Wd u.1 u.2.1 u.2.2.1 u.2.2.2.1 u.2.2.2.2.1 u.2.2.2.2.2.1 u.2.2.2.2.2.2.1 u.2.2.2.2.2.2.2.1 u.2.2.2.2.2.2.2.2.1 u.2.2.2.2.2.2.2.2.2.1 u.2.2.2.2.2.2.2.2.2.2.1 u.2.2.2.2.2.2.2.2.2.2.2.1 u.2.2.2.2.2.2.2.2.2.2.2.2.1 u.2.2.2.2.2.2.2.2.2.2.2.2.2.1 u.2.2.2.2.2.2.2.2.2.2.2.2.2.2.1 u.2.2.2.2.2.2.2.2.2.2.2.2.2.2.2.1 u.2.2.2.2.2.2.2.2.2.2.2.2.2.2.2.2.1 u.2.2.2.2.2.2.2.2.2.2.2.2.2.2.2.2.2.1 u.2.2.2.2.2.2.2.2.2.2.2.2.2.2.2.2.2.2.1 u.2.2.2.2.2.2.2.2.2.2.2.2.2.2.2.2.2.2.2) (fun r (u : A1 × A2 × A3 × A4 × A5 × A6 × A7 × A8 × A9 × A10 × A11 × A12 × A13 × A14 × A15 × A16 × A17 × A18 × A19 × A20) => K r u.1 u.2.1 u.2.2.1 u.2.2.2.1 u.2.2.2.2.1 u.2.2.2.2.2.1 u.2.2.2.2.2.2.1 u.2.2.2.2.2.2.2.1 u.2.2.2.2.2.2.2.2.1 u.2.2.2.2.2.2.2.2.2.1 u.2.2.2.2.2.2.2.2.2.2.1 u.2.2.2.2.2.2.2.2.2.2.2.1 u.2.2.2.2.2.2.2.2.2.2.2.2.1 u.2.2.2.2.2.2.2.2.2.2.2.2.2.1 u.2.2.2.2.2.2.2.2.2.2.2.2.2.2.1 u.2.2.2.2.2.2.2.2.2.2.2.2.2.2.2.1 u.2.2.2.2.2.2.2.2.2.2.2.2.2.2.2.2.1 u.2.2.2.2.2.2.2.2.2.2.2.2.2.2.2.2.2.1 u.2.2.2.2.2.2.2.2.2.2.2.2.2.2.2.2.2.2.1 u.2.2.2.2.2.2.2.2.2.2.2.2.2.2.2.2.2.2.2)
def rtI_20 (Γ : GT) (cc : ByteArray) (nL : Nat) {A1 A2 A3 A4 A5 A6 A7 A8 A9 A10 A11 A12 A13 A14 A15 A16 A17 A18 A19 A20 : Type} (Wd : A1 → A2 → A3 → A4 → A5 → A6 → A7 → A8 → A9 → A10 → A11 → A12 → A13 → A14 → A15 → A16 → A17 → A18 → A19 → A20 → va_W) (K : Int32 → A1 → A2 → A3 → A4 → A5 → A6 → A7 → A8 → A9 → A10 → A11 → A12 → A13 → A14 → A15 → A16 → A17 → A18 → A19 → A20 → Prop) : Prop := rtI Γ cc nL (fun u : A1 × A2 × A3 × A4 × A5 × A6 × A7 × A8 × A9 × A10 × A11 × A12 × A13 × A14 × A15 × A16 × A17 × A18 × A19 × A20 => Wd u.1 u.2.1 u.2.2.1 u.2.2.2.1 u.2.2.2.2.1 u.2.2.2.2.2.1 u.2.2.2.2.2.2.1 u.2.2.2.2.2.2.2.1 u.2.2.2.2.2.2.2.2.1 u.2.2.2.2.2.2.2.2.2.1 u.2.2.2.2.2.2.2.2.2.2.1 u.2.2.2.2.2.2.2.2.2.2.2.1 u.2.2.2.2.2.2.2.2.2.2.2.2.1 u.2.2.2.2.2.2.2.2.2.2.2.2.2.1 u.2.2.2.2.2.2.2.2.2.2.2.2.2.2.1 u.2.2.2.2.2.2.2.2.2.2.2.2.2.2.2.1 u.2.2.2.2.2.2.2.2.2.2.2.2.2.2.2.2.1 u.2.2.2.2.2.2.2.2.2.2.2.2.2.2.2.2.2.1 u.2.2.2.2.2.2.2.2.2.2.2.2.2.2.2.2.2.2.1 u.2.2.2.2.2.2.2.2.2.2.2.2.2.2.2.2.2.2.2) (fun r (u : A1 × A2 × A3 × A4 × A5 × A6 × A7 × A8 × A9 × A10 × A11 × A12 × A13 × A14 × A15 × A16 × A17 × A18 × A19 × A20) => K r u.1 u.2.1 u.2.2.1 u.2.2.2.1 u.2.2.2.2.1 u.2.2.2.2.2.1 u.2.2.2.2.2.2.1 u.2.2.2.2.2.2.2.1 u.2.2.2.2.2.2.2.2.1 u.2.2.2.2.2.2.2.2.2.1 u.2.2.2.2.2.2.2.2.2.2.1 u.2.2.2.2.2.2.2.2.2.2.2.1 u.2.2.2.2.2.2.2.2.2.2.2.2.1 u.2.2.2.2.2.2.2.2.2.2.2.2.2.1 u.2.2.2.2.2.2.2.2.2.2.2.2.2.2.1 u.2.2.2.2.2.2.2.2.2.2.2.2.2.2.2.1 u.2.2.2.2.2.2.2.2.2.2.2.2.2.2.2.2.1 u.2.2.2.2.2.2.2.2.2.2.2.2.2.2.2.2.2.1 u.2.2.2.2.2.2.2.2.2.2.2.2.2.2.2.2.2.2.1 u.2.2.2.2.2.2.2.2.2.2.2.2.2.2.2.2.2.2.2)
theorem met_I_20 {q : Nat → ClassId} {y : MethodName} {cc : ByteArray} {nL fr lo : Nat} {av : List Value} {W0 : va_W} {A1 A2 A3 A4 A5 A6 A7 A8 A9 A10 A11 A12 A13 A14 A15 A16 A17 A18 A19 A20 : Type} {Wd : A1 → A2 → A3 → A4 → A5 → A6 → A7 → A8 → A9 → A10 → A11 → A12 → A13 → A14 → A15 → A16 → A17 → A18 → A19 → A20 → va_W} {K : Int32 → A1 → A2 → A3 → A4 → A5 → A6 → A7 → A8 → A9 → A10 → A11 → A12 → A13 → A14 → A15 → A16 → A17 → A18 → A19 → A20 → Prop} (hy : plainName y.cls = true) (hav : (lg_sl av).length ≤ nL)
    (walk : ∀ Γ : GT, gd Γ cc y.cls nL (rmz fr lo) q → rtI_20 Γ cc nL Wd K → jw Γ nL 0 0 W0 (lv_args 0 av) [] 0) : ctI_20 q y cc nL fr lo av W0 Wd K := met_I hy hav walk
theorem rtI_20.go {Γ : GT} {cc : ByteArray} {nL : Nat} {A1 A2 A3 A4 A5 A6 A7 A8 A9 A10 A11 A12 A13 A14 A15 A16 A17 A18 A19 A20 : Type} {Wd : A1 → A2 → A3 → A4 → A5 → A6 → A7 → A8 → A9 → A10 → A11 → A12 → A13 → A14 → A15 → A16 → A17 → A18 → A19 → A20 → va_W} {K : Int32 → A1 → A2 → A3 → A4 → A5 → A6 → A7 → A8 → A9 → A10 → A11 → A12 → A13 → A14 → A15 → A16 → A17 → A18 → A19 → A20 → Prop} (hr : rtI_20 Γ cc nL Wd K) {lv : List (Nat × Value)} {pc : Nat} {r : Int32} {m1 : A1} {m2 : A2} {m3 : A3} {m4 : A4} {m5 : A5} {m6 : A6} {m7 : A7} {m8 : A8} {m9 : A9} {m10 : A10} {m11 : A11} {m12 : A12} {m13 : A13} {m14 : A14} {m15 : A15} {m16 : A16} {m17 : A17} {m18 : A18} {m19 : A19} {m20 : A20} (hd : decode cc pc = .ok (.ireturn, 1)) (h : K r m1 m2 m3 m4 m5 m6 m7 m8 m9 m10 m11 m12 m13 m14 m15 m16 m17 m18 m19 m20) : jw Γ nL 0 0 (Wd m1 m2 m3 m4 m5 m6 m7 m8 m9 m10 m11 m12 m13 m14 m15 m16 m17 m18 m19 m20) lv [.int r] pc := hr lv pc r (m1, m2, m3, m4, m5, m6, m7, m8, m9, m10, m11, m12, m13, m14, m15, m16, m17, m18, m19, m20) hd h
def ctQ_0 (q : Nat → ClassId) (y : MethodName) (cc : ByteArray) (nL fr lo : Nat) (av : List Value) (W0 : va_W) (ad : Nat → Nat) (Wd : va_W) (K : Option Nat → Prop) : Prop := ctQ q y cc nL fr lo av W0 ad (fun u : Unit => Wd ) (fun r (u : Unit) => K r )
def rtQ_0 (Γ : GT) (cc : ByteArray) (nL : Nat) (ad : Nat → Nat) (Wd : va_W) (K : Option Nat → Prop) : Prop := rtQ Γ cc nL ad (fun u : Unit => Wd ) (fun r (u : Unit) => K r )
theorem met_Q_0 {q : Nat → ClassId} {y : MethodName} {cc : ByteArray} {nL fr lo : Nat} {av : List Value} {W0 : va_W} {ad : Nat → Nat} {Wd : va_W} {K : Option Nat → Prop} (hy : plainName y.cls = true) (hav : (lg_sl av).length ≤ nL)
    (walk : ∀ Γ : GT, gd Γ cc y.cls nL (rmz fr lo) q → rtQ_0 Γ cc nL ad Wd K → jw Γ nL 0 0 W0 (lv_args 0 av) [] 0) : ctQ_0 q y cc nL fr lo av W0 ad Wd K := met_Q ad hy hav walk
theorem rtQ_0.goN {Γ : GT} {cc : ByteArray} {nL : Nat} {ad : Nat → Nat} {Wd : va_W} {K : Option Nat → Prop} (hr : rtQ_0 Γ cc nL ad Wd K) {lv : List (Nat × Value)} {pc : Nat}  (hd : decode cc pc = .ok (.areturn, 1)) (h : K none ) : jw Γ nL 0 0 (Wd ) lv [.null] pc := hr lv pc none () hd (fun i h => by cases h) h
theorem rtQ_0.go {Γ : GT} {cc : ByteArray} {nL : Nat} {ad : Nat → Nat} {Wd : va_W} {K : Option Nat → Prop} (hr : rtQ_0 Γ cc nL ad Wd K) {lv : List (Nat × Value)} {pc i : Nat}  (hd : decode cc pc = .ok (.areturn, 1)) (hi : i < 6) (h : K (some i) ) : jw Γ nL 0 0 (Wd ) lv [.ref (ad i)] pc := hr lv pc (some i) () hd (fun j h => by cases h; exact hi) h
def ctV_1 (q : Nat → ClassId) (y : MethodName) (cc : ByteArray) (nL fr lo : Nat) (av : List Value) (W0 : va_W) {A1 : Type} (Wd : A1 → va_W) (K : A1 → Prop) : Prop := ctV q y cc nL fr lo av W0 (fun u : A1 => Wd u) (fun (u : A1) => K u)
def rtV_1 (Γ : GT) (cc : ByteArray) (nL : Nat) {A1 : Type} (Wd : A1 → va_W) (K : A1 → Prop) : Prop := rtV Γ cc nL (fun u : A1 => Wd u) (fun (u : A1) => K u)
theorem met_V_1 {q : Nat → ClassId} {y : MethodName} {cc : ByteArray} {nL fr lo : Nat} {av : List Value} {W0 : va_W} {A1 : Type} {Wd : A1 → va_W} {K : A1 → Prop} (hy : plainName y.cls = true) (hav : (lg_sl av).length ≤ nL)
    (walk : ∀ Γ : GT, gd Γ cc y.cls nL (rmz fr lo) q → rtV_1 Γ cc nL Wd K → jw Γ nL 0 0 W0 (lv_args 0 av) [] 0) : ctV_1 q y cc nL fr lo av W0 Wd K := met_V hy hav walk
theorem rtV_1.go {Γ : GT} {cc : ByteArray} {nL : Nat} {A1 : Type} {Wd : A1 → va_W} {K : A1 → Prop} (hr : rtV_1 Γ cc nL Wd K) {lv : List (Nat × Value)} {pc : Nat} {m1 : A1} (hd : decode cc pc = .ok (.return_, 1)) (h : K m1) : jw Γ nL 0 0 (Wd m1) lv [] pc := hr lv pc m1 hd h
def ctV_2 (q : Nat → ClassId) (y : MethodName) (cc : ByteArray) (nL fr lo : Nat) (av : List Value) (W0 : va_W) {A1 A2 : Type} (Wd : A1 → A2 → va_W) (K : A1 → A2 → Prop) : Prop := ctV q y cc nL fr lo av W0 (fun u : A1 × A2 => Wd u.1 u.2) (fun (u : A1 × A2) => K u.1 u.2)
def rtV_2 (Γ : GT) (cc : ByteArray) (nL : Nat) {A1 A2 : Type} (Wd : A1 → A2 → va_W) (K : A1 → A2 → Prop) : Prop := rtV Γ cc nL (fun u : A1 × A2 => Wd u.1 u.2) (fun (u : A1 × A2) => K u.1 u.2)
theorem met_V_2 {q : Nat → ClassId} {y : MethodName} {cc : ByteArray} {nL fr lo : Nat} {av : List Value} {W0 : va_W} {A1 A2 : Type} {Wd : A1 → A2 → va_W} {K : A1 → A2 → Prop} (hy : plainName y.cls = true) (hav : (lg_sl av).length ≤ nL)
    (walk : ∀ Γ : GT, gd Γ cc y.cls nL (rmz fr lo) q → rtV_2 Γ cc nL Wd K → jw Γ nL 0 0 W0 (lv_args 0 av) [] 0) : ctV_2 q y cc nL fr lo av W0 Wd K := met_V hy hav walk
theorem rtV_2.go {Γ : GT} {cc : ByteArray} {nL : Nat} {A1 A2 : Type} {Wd : A1 → A2 → va_W} {K : A1 → A2 → Prop} (hr : rtV_2 Γ cc nL Wd K) {lv : List (Nat × Value)} {pc : Nat} {m1 : A1} {m2 : A2} (hd : decode cc pc = .ok (.return_, 1)) (h : K m1 m2) : jw Γ nL 0 0 (Wd m1 m2) lv [] pc := hr lv pc (m1, m2) hd h
def ctZ_0 (q : Nat → ClassId) (y : MethodName) (cc : ByteArray) (nL fr lo : Nat) (av : List Value) (W0 : va_W) (Wd : va_W) (K : Int32 → Prop) : Prop := ctZ q y cc nL fr lo av W0 (fun u : Unit => Wd ) (fun r (u : Unit) => K r )
def rtZ_0 (Γ : GT) (cc : ByteArray) (nL : Nat) (Wd : va_W) (K : Int32 → Prop) : Prop := rtZ Γ cc nL (fun u : Unit => Wd ) (fun r (u : Unit) => K r )
theorem met_Z_0 {q : Nat → ClassId} {y : MethodName} {cc : ByteArray} {nL fr lo : Nat} {av : List Value} {W0 : va_W} {Wd : va_W} {K : Int32 → Prop} (hy : plainName y.cls = true) (hav : (lg_sl av).length ≤ nL)
    (walk : ∀ Γ : GT, gd Γ cc y.cls nL (rmz fr lo) q → rtZ_0 Γ cc nL Wd K → jw Γ nL 0 0 W0 (lv_args 0 av) [] 0) : ctZ_0 q y cc nL fr lo av W0 Wd K := met_Z hy hav walk
theorem rtZ_0.go {Γ : GT} {cc : ByteArray} {nL : Nat} {Wd : va_W} {K : Int32 → Prop} (hr : rtZ_0 Γ cc nL Wd K) {lv : List (Nat × Value)} {pc : Nat} {r : Int32}  (hd : decode cc pc = .ok (.ireturn, 1)) (hz : r = 0 ∨ r = 1) (h : K r ) : jw Γ nL 0 0 (Wd ) lv [.int r] pc := hr lv pc r () hd hz h
def ctZ_1 (q : Nat → ClassId) (y : MethodName) (cc : ByteArray) (nL fr lo : Nat) (av : List Value) (W0 : va_W) {A1 : Type} (Wd : A1 → va_W) (K : Int32 → A1 → Prop) : Prop := ctZ q y cc nL fr lo av W0 (fun u : A1 => Wd u) (fun r (u : A1) => K r u)
def rtZ_1 (Γ : GT) (cc : ByteArray) (nL : Nat) {A1 : Type} (Wd : A1 → va_W) (K : Int32 → A1 → Prop) : Prop := rtZ Γ cc nL (fun u : A1 => Wd u) (fun r (u : A1) => K r u)
theorem met_Z_1 {q : Nat → ClassId} {y : MethodName} {cc : ByteArray} {nL fr lo : Nat} {av : List Value} {W0 : va_W} {A1 : Type} {Wd : A1 → va_W} {K : Int32 → A1 → Prop} (hy : plainName y.cls = true) (hav : (lg_sl av).length ≤ nL)
    (walk : ∀ Γ : GT, gd Γ cc y.cls nL (rmz fr lo) q → rtZ_1 Γ cc nL Wd K → jw Γ nL 0 0 W0 (lv_args 0 av) [] 0) : ctZ_1 q y cc nL fr lo av W0 Wd K := met_Z hy hav walk
theorem rtZ_1.go {Γ : GT} {cc : ByteArray} {nL : Nat} {A1 : Type} {Wd : A1 → va_W} {K : Int32 → A1 → Prop} (hr : rtZ_1 Γ cc nL Wd K) {lv : List (Nat × Value)} {pc : Nat} {r : Int32} {m1 : A1} (hd : decode cc pc = .ok (.ireturn, 1)) (hz : r = 0 ∨ r = 1) (h : K r m1) : jw Γ nL 0 0 (Wd m1) lv [.int r] pc := hr lv pc r m1 hd hz h
def ctZ_2 (q : Nat → ClassId) (y : MethodName) (cc : ByteArray) (nL fr lo : Nat) (av : List Value) (W0 : va_W) {A1 A2 : Type} (Wd : A1 → A2 → va_W) (K : Int32 → A1 → A2 → Prop) : Prop := ctZ q y cc nL fr lo av W0 (fun u : A1 × A2 => Wd u.1 u.2) (fun r (u : A1 × A2) => K r u.1 u.2)
def rtZ_2 (Γ : GT) (cc : ByteArray) (nL : Nat) {A1 A2 : Type} (Wd : A1 → A2 → va_W) (K : Int32 → A1 → A2 → Prop) : Prop := rtZ Γ cc nL (fun u : A1 × A2 => Wd u.1 u.2) (fun r (u : A1 × A2) => K r u.1 u.2)
theorem met_Z_2 {q : Nat → ClassId} {y : MethodName} {cc : ByteArray} {nL fr lo : Nat} {av : List Value} {W0 : va_W} {A1 A2 : Type} {Wd : A1 → A2 → va_W} {K : Int32 → A1 → A2 → Prop} (hy : plainName y.cls = true) (hav : (lg_sl av).length ≤ nL)
    (walk : ∀ Γ : GT, gd Γ cc y.cls nL (rmz fr lo) q → rtZ_2 Γ cc nL Wd K → jw Γ nL 0 0 W0 (lv_args 0 av) [] 0) : ctZ_2 q y cc nL fr lo av W0 Wd K := met_Z hy hav walk
theorem rtZ_2.go {Γ : GT} {cc : ByteArray} {nL : Nat} {A1 A2 : Type} {Wd : A1 → A2 → va_W} {K : Int32 → A1 → A2 → Prop} (hr : rtZ_2 Γ cc nL Wd K) {lv : List (Nat × Value)} {pc : Nat} {r : Int32} {m1 : A1} {m2 : A2} (hd : decode cc pc = .ok (.ireturn, 1)) (hz : r = 0 ∨ r = 1) (h : K r m1 m2) : jw Γ nL 0 0 (Wd m1 m2) lv [.int r] pc := hr lv pc r (m1, m2) hd hz h
def ctZ_3 (q : Nat → ClassId) (y : MethodName) (cc : ByteArray) (nL fr lo : Nat) (av : List Value) (W0 : va_W) {A1 A2 A3 : Type} (Wd : A1 → A2 → A3 → va_W) (K : Int32 → A1 → A2 → A3 → Prop) : Prop := ctZ q y cc nL fr lo av W0 (fun u : A1 × A2 × A3 => Wd u.1 u.2.1 u.2.2) (fun r (u : A1 × A2 × A3) => K r u.1 u.2.1 u.2.2)
def rtZ_3 (Γ : GT) (cc : ByteArray) (nL : Nat) {A1 A2 A3 : Type} (Wd : A1 → A2 → A3 → va_W) (K : Int32 → A1 → A2 → A3 → Prop) : Prop := rtZ Γ cc nL (fun u : A1 × A2 × A3 => Wd u.1 u.2.1 u.2.2) (fun r (u : A1 × A2 × A3) => K r u.1 u.2.1 u.2.2)
theorem met_Z_3 {q : Nat → ClassId} {y : MethodName} {cc : ByteArray} {nL fr lo : Nat} {av : List Value} {W0 : va_W} {A1 A2 A3 : Type} {Wd : A1 → A2 → A3 → va_W} {K : Int32 → A1 → A2 → A3 → Prop} (hy : plainName y.cls = true) (hav : (lg_sl av).length ≤ nL)
    (walk : ∀ Γ : GT, gd Γ cc y.cls nL (rmz fr lo) q → rtZ_3 Γ cc nL Wd K → jw Γ nL 0 0 W0 (lv_args 0 av) [] 0) : ctZ_3 q y cc nL fr lo av W0 Wd K := met_Z hy hav walk
theorem rtZ_3.go {Γ : GT} {cc : ByteArray} {nL : Nat} {A1 A2 A3 : Type} {Wd : A1 → A2 → A3 → va_W} {K : Int32 → A1 → A2 → A3 → Prop} (hr : rtZ_3 Γ cc nL Wd K) {lv : List (Nat × Value)} {pc : Nat} {r : Int32} {m1 : A1} {m2 : A2} {m3 : A3} (hd : decode cc pc = .ok (.ireturn, 1)) (hz : r = 0 ∨ r = 1) (h : K r m1 m2 m3) : jw Γ nL 0 0 (Wd m1 m2 m3) lv [.int r] pc := hr lv pc r (m1, m2, m3) hd hz h
def ctZ_4 (q : Nat → ClassId) (y : MethodName) (cc : ByteArray) (nL fr lo : Nat) (av : List Value) (W0 : va_W) {A1 A2 A3 A4 : Type} (Wd : A1 → A2 → A3 → A4 → va_W) (K : Int32 → A1 → A2 → A3 → A4 → Prop) : Prop := ctZ q y cc nL fr lo av W0 (fun u : A1 × A2 × A3 × A4 => Wd u.1 u.2.1 u.2.2.1 u.2.2.2) (fun r (u : A1 × A2 × A3 × A4) => K r u.1 u.2.1 u.2.2.1 u.2.2.2)
def rtZ_4 (Γ : GT) (cc : ByteArray) (nL : Nat) {A1 A2 A3 A4 : Type} (Wd : A1 → A2 → A3 → A4 → va_W) (K : Int32 → A1 → A2 → A3 → A4 → Prop) : Prop := rtZ Γ cc nL (fun u : A1 × A2 × A3 × A4 => Wd u.1 u.2.1 u.2.2.1 u.2.2.2) (fun r (u : A1 × A2 × A3 × A4) => K r u.1 u.2.1 u.2.2.1 u.2.2.2)
theorem met_Z_4 {q : Nat → ClassId} {y : MethodName} {cc : ByteArray} {nL fr lo : Nat} {av : List Value} {W0 : va_W} {A1 A2 A3 A4 : Type} {Wd : A1 → A2 → A3 → A4 → va_W} {K : Int32 → A1 → A2 → A3 → A4 → Prop} (hy : plainName y.cls = true) (hav : (lg_sl av).length ≤ nL)
    (walk : ∀ Γ : GT, gd Γ cc y.cls nL (rmz fr lo) q → rtZ_4 Γ cc nL Wd K → jw Γ nL 0 0 W0 (lv_args 0 av) [] 0) : ctZ_4 q y cc nL fr lo av W0 Wd K := met_Z hy hav walk
theorem rtZ_4.go {Γ : GT} {cc : ByteArray} {nL : Nat} {A1 A2 A3 A4 : Type} {Wd : A1 → A2 → A3 → A4 → va_W} {K : Int32 → A1 → A2 → A3 → A4 → Prop} (hr : rtZ_4 Γ cc nL Wd K) {lv : List (Nat × Value)} {pc : Nat} {r : Int32} {m1 : A1} {m2 : A2} {m3 : A3} {m4 : A4} (hd : decode cc pc = .ok (.ireturn, 1)) (hz : r = 0 ∨ r = 1) (h : K r m1 m2 m3 m4) : jw Γ nL 0 0 (Wd m1 m2 m3 m4) lv [.int r] pc := hr lv pc r (m1, m2, m3, m4) hd hz h
def ctZ_20 (q : Nat → ClassId) (y : MethodName) (cc : ByteArray) (nL fr lo : Nat) (av : List Value) (W0 : va_W) {A1 A2 A3 A4 A5 A6 A7 A8 A9 A10 A11 A12 A13 A14 A15 A16 A17 A18 A19 A20 : Type} (Wd : A1 → A2 → A3 → A4 → A5 → A6 → A7 → A8 → A9 → A10 → A11 → A12 → A13 → A14 → A15 → A16 → A17 → A18 → A19 → A20 → va_W) (K : Int32 → A1 → A2 → A3 → A4 → A5 → A6 → A7 → A8 → A9 → A10 → A11 → A12 → A13 → A14 → A15 → A16 → A17 → A18 → A19 → A20 → Prop) : Prop := ctZ q y cc nL fr lo av W0 (fun u : A1 × A2 × A3 × A4 × A5 × A6 × A7 × A8 × A9 × A10 × A11 × A12 × A13 × A14 × A15 × A16 × A17 × A18 × A19 × A20 => Wd u.1 u.2.1 u.2.2.1 u.2.2.2.1 u.2.2.2.2.1 u.2.2.2.2.2.1 u.2.2.2.2.2.2.1 u.2.2.2.2.2.2.2.1 u.2.2.2.2.2.2.2.2.1 u.2.2.2.2.2.2.2.2.2.1 u.2.2.2.2.2.2.2.2.2.2.1 u.2.2.2.2.2.2.2.2.2.2.2.1 u.2.2.2.2.2.2.2.2.2.2.2.2.1 u.2.2.2.2.2.2.2.2.2.2.2.2.2.1 u.2.2.2.2.2.2.2.2.2.2.2.2.2.2.1 u.2.2.2.2.2.2.2.2.2.2.2.2.2.2.2.1 u.2.2.2.2.2.2.2.2.2.2.2.2.2.2.2.2.1 u.2.2.2.2.2.2.2.2.2.2.2.2.2.2.2.2.2.1 u.2.2.2.2.2.2.2.2.2.2.2.2.2.2.2.2.2.2.1 u.2.2.2.2.2.2.2.2.2.2.2.2.2.2.2.2.2.2.2) (fun r (u : A1 × A2 × A3 × A4 × A5 × A6 × A7 × A8 × A9 × A10 × A11 × A12 × A13 × A14 × A15 × A16 × A17 × A18 × A19 × A20) => K r u.1 u.2.1 u.2.2.1 u.2.2.2.1 u.2.2.2.2.1 u.2.2.2.2.2.1 u.2.2.2.2.2.2.1 u.2.2.2.2.2.2.2.1 u.2.2.2.2.2.2.2.2.1 u.2.2.2.2.2.2.2.2.2.1 u.2.2.2.2.2.2.2.2.2.2.1 u.2.2.2.2.2.2.2.2.2.2.2.1 u.2.2.2.2.2.2.2.2.2.2.2.2.1 u.2.2.2.2.2.2.2.2.2.2.2.2.2.1 u.2.2.2.2.2.2.2.2.2.2.2.2.2.2.1 u.2.2.2.2.2.2.2.2.2.2.2.2.2.2.2.1 u.2.2.2.2.2.2.2.2.2.2.2.2.2.2.2.2.1 u.2.2.2.2.2.2.2.2.2.2.2.2.2.2.2.2.2.1 u.2.2.2.2.2.2.2.2.2.2.2.2.2.2.2.2.2.2.1 u.2.2.2.2.2.2.2.2.2.2.2.2.2.2.2.2.2.2.2)
def rtZ_20 (Γ : GT) (cc : ByteArray) (nL : Nat) {A1 A2 A3 A4 A5 A6 A7 A8 A9 A10 A11 A12 A13 A14 A15 A16 A17 A18 A19 A20 : Type} (Wd : A1 → A2 → A3 → A4 → A5 → A6 → A7 → A8 → A9 → A10 → A11 → A12 → A13 → A14 → A15 → A16 → A17 → A18 → A19 → A20 → va_W) (K : Int32 → A1 → A2 → A3 → A4 → A5 → A6 → A7 → A8 → A9 → A10 → A11 → A12 → A13 → A14 → A15 → A16 → A17 → A18 → A19 → A20 → Prop) : Prop := rtZ Γ cc nL (fun u : A1 × A2 × A3 × A4 × A5 × A6 × A7 × A8 × A9 × A10 × A11 × A12 × A13 × A14 × A15 × A16 × A17 × A18 × A19 × A20 => Wd u.1 u.2.1 u.2.2.1 u.2.2.2.1 u.2.2.2.2.1 u.2.2.2.2.2.1 u.2.2.2.2.2.2.1 u.2.2.2.2.2.2.2.1 u.2.2.2.2.2.2.2.2.1 u.2.2.2.2.2.2.2.2.2.1 u.2.2.2.2.2.2.2.2.2.2.1 u.2.2.2.2.2.2.2.2.2.2.2.1 u.2.2.2.2.2.2.2.2.2.2.2.2.1 u.2.2.2.2.2.2.2.2.2.2.2.2.2.1 u.2.2.2.2.2.2.2.2.2.2.2.2.2.2.1 u.2.2.2.2.2.2.2.2.2.2.2.2.2.2.2.1 u.2.2.2.2.2.2.2.2.2.2.2.2.2.2.2.2.1 u.2.2.2.2.2.2.2.2.2.2.2.2.2.2.2.2.2.1 u.2.2.2.2.2.2.2.2.2.2.2.2.2.2.2.2.2.2.1 u.2.2.2.2.2.2.2.2.2.2.2.2.2.2.2.2.2.2.2) (fun r (u : A1 × A2 × A3 × A4 × A5 × A6 × A7 × A8 × A9 × A10 × A11 × A12 × A13 × A14 × A15 × A16 × A17 × A18 × A19 × A20) => K r u.1 u.2.1 u.2.2.1 u.2.2.2.1 u.2.2.2.2.1 u.2.2.2.2.2.1 u.2.2.2.2.2.2.1 u.2.2.2.2.2.2.2.1 u.2.2.2.2.2.2.2.2.1 u.2.2.2.2.2.2.2.2.2.1 u.2.2.2.2.2.2.2.2.2.2.1 u.2.2.2.2.2.2.2.2.2.2.2.1 u.2.2.2.2.2.2.2.2.2.2.2.2.1 u.2.2.2.2.2.2.2.2.2.2.2.2.2.1 u.2.2.2.2.2.2.2.2.2.2.2.2.2.2.1 u.2.2.2.2.2.2.2.2.2.2.2.2.2.2.2.1 u.2.2.2.2.2.2.2.2.2.2.2.2.2.2.2.2.1 u.2.2.2.2.2.2.2.2.2.2.2.2.2.2.2.2.2.1 u.2.2.2.2.2.2.2.2.2.2.2.2.2.2.2.2.2.2.1 u.2.2.2.2.2.2.2.2.2.2.2.2.2.2.2.2.2.2.2)
theorem met_Z_20 {q : Nat → ClassId} {y : MethodName} {cc : ByteArray} {nL fr lo : Nat} {av : List Value} {W0 : va_W} {A1 A2 A3 A4 A5 A6 A7 A8 A9 A10 A11 A12 A13 A14 A15 A16 A17 A18 A19 A20 : Type} {Wd : A1 → A2 → A3 → A4 → A5 → A6 → A7 → A8 → A9 → A10 → A11 → A12 → A13 → A14 → A15 → A16 → A17 → A18 → A19 → A20 → va_W} {K : Int32 → A1 → A2 → A3 → A4 → A5 → A6 → A7 → A8 → A9 → A10 → A11 → A12 → A13 → A14 → A15 → A16 → A17 → A18 → A19 → A20 → Prop} (hy : plainName y.cls = true) (hav : (lg_sl av).length ≤ nL)
    (walk : ∀ Γ : GT, gd Γ cc y.cls nL (rmz fr lo) q → rtZ_20 Γ cc nL Wd K → jw Γ nL 0 0 W0 (lv_args 0 av) [] 0) : ctZ_20 q y cc nL fr lo av W0 Wd K := met_Z hy hav walk
theorem rtZ_20.go {Γ : GT} {cc : ByteArray} {nL : Nat} {A1 A2 A3 A4 A5 A6 A7 A8 A9 A10 A11 A12 A13 A14 A15 A16 A17 A18 A19 A20 : Type} {Wd : A1 → A2 → A3 → A4 → A5 → A6 → A7 → A8 → A9 → A10 → A11 → A12 → A13 → A14 → A15 → A16 → A17 → A18 → A19 → A20 → va_W} {K : Int32 → A1 → A2 → A3 → A4 → A5 → A6 → A7 → A8 → A9 → A10 → A11 → A12 → A13 → A14 → A15 → A16 → A17 → A18 → A19 → A20 → Prop} (hr : rtZ_20 Γ cc nL Wd K) {lv : List (Nat × Value)} {pc : Nat} {r : Int32} {m1 : A1} {m2 : A2} {m3 : A3} {m4 : A4} {m5 : A5} {m6 : A6} {m7 : A7} {m8 : A8} {m9 : A9} {m10 : A10} {m11 : A11} {m12 : A12} {m13 : A13} {m14 : A14} {m15 : A15} {m16 : A16} {m17 : A17} {m18 : A18} {m19 : A19} {m20 : A20} (hd : decode cc pc = .ok (.ireturn, 1)) (hz : r = 0 ∨ r = 1) (h : K r m1 m2 m3 m4 m5 m6 m7 m8 m9 m10 m11 m12 m13 m14 m15 m16 m17 m18 m19 m20) : jw Γ nL 0 0 (Wd m1 m2 m3 m4 m5 m6 m7 m8 m9 m10 m11 m12 m13 m14 m15 m16 m17 m18 m19 m20) lv [.int r] pc := hr lv pc r (m1, m2, m3, m4, m5, m6, m7, m8, m9, m10, m11, m12, m13, m14, m15, m16, m17, m18, m19, m20) hd hz h
section JCN
variable {Γ : GT} {cc : ByteArray} {own : String} {nL kc ks : Nat} {rm : Room} {q : Nat → ClassId} {ws : va_W} {lv : List (Nat × Value)} {st : List Value} {pc : Nat}
variable {y : MethodName} {ccY : ByteArray} {nY frY loY index n : Nat}
theorem j_callSI_0 (g : gd Γ cc own nL rm q) {As : List Value} {Wd : va_W} {K : Int32 → Prop} {st0 : List Value} (hC : ctI_0 q y ccY nY frY loY As ws Wd K) (L : clS own index y ccY nY (some .int) n) (hfr : frY + 1 ≤ rm.frames) (hlo : 8 + (nY + 11) + loY ≤ rm.locals) (hcells : kc + 0 ≤ rm.cells) (hslots : ks + 0 ≤ rm.slots) (hAs : As.length = n) (hst : st0 = As.reverse ++ st) (hcat : (st.map fun v => v.category).sum ≤ 8) (hd : decode cc pc = .ok (.invokestatic index, 3)) (k : ∀ (r : Int32) , K r  → jw Γ nL kc ks (Wd ) lv (.int r :: st) (pc + 3)) : jw Γ nL kc ks ws lv st0 pc :=
  j_callSI g hC L hfr hlo hcells hslots hAs hst hcat hd (fun r u h => k r  h)
theorem j_callSV_1 (g : gd Γ cc own nL rm q) {As : List Value} {A1 : Type} {Wd : A1 → va_W} {K : A1 → Prop} {st0 : List Value} (hC : ctV_1 q y ccY nY frY loY As ws Wd K) (L : clS own index y ccY nY none n) (hfr : frY + 1 ≤ rm.frames) (hlo : 8 + (nY + 11) + loY ≤ rm.locals) (hcells : kc + 0 ≤ rm.cells) (hslots : ks + 0 ≤ rm.slots) (hAs : As.length = n) (hst : st0 = As.reverse ++ st) (hcat : (st.map fun v => v.category).sum ≤ 8) (hd : decode cc pc = .ok (.invokestatic index, 3)) (k : ∀ (m1 : A1), K m1 → jw Γ nL kc ks (Wd m1) lv st (pc + 3)) : jw Γ nL kc ks ws lv st0 pc :=
  j_callSV g hC L hfr hlo hcells hslots hAs hst hcat hd (fun u h => k u h)
theorem j_callSZ_20 (g : gd Γ cc own nL rm q) {As : List Value} {A1 A2 A3 A4 A5 A6 A7 A8 A9 A10 A11 A12 A13 A14 A15 A16 A17 A18 A19 A20 : Type} {Wd : A1 → A2 → A3 → A4 → A5 → A6 → A7 → A8 → A9 → A10 → A11 → A12 → A13 → A14 → A15 → A16 → A17 → A18 → A19 → A20 → va_W} {K : Int32 → A1 → A2 → A3 → A4 → A5 → A6 → A7 → A8 → A9 → A10 → A11 → A12 → A13 → A14 → A15 → A16 → A17 → A18 → A19 → A20 → Prop} {st0 : List Value} (hC : ctZ_20 q y ccY nY frY loY As ws Wd K) (L : clS own index y ccY nY (some .boolean) n) (hfr : frY + 1 ≤ rm.frames) (hlo : 8 + (nY + 11) + loY ≤ rm.locals) (hcells : kc + 0 ≤ rm.cells) (hslots : ks + 0 ≤ rm.slots) (hAs : As.length = n) (hst : st0 = As.reverse ++ st) (hcat : (st.map fun v => v.category).sum ≤ 8) (hd : decode cc pc = .ok (.invokestatic index, 3)) (k : ∀ (r : Int32) (m1 : A1) (m2 : A2) (m3 : A3) (m4 : A4) (m5 : A5) (m6 : A6) (m7 : A7) (m8 : A8) (m9 : A9) (m10 : A10) (m11 : A11) (m12 : A12) (m13 : A13) (m14 : A14) (m15 : A15) (m16 : A16) (m17 : A17) (m18 : A18) (m19 : A19) (m20 : A20), (r = 0 ∨ r = 1) → K r m1 m2 m3 m4 m5 m6 m7 m8 m9 m10 m11 m12 m13 m14 m15 m16 m17 m18 m19 m20 → jw Γ nL kc ks (Wd m1 m2 m3 m4 m5 m6 m7 m8 m9 m10 m11 m12 m13 m14 m15 m16 m17 m18 m19 m20) lv (.int r :: st) (pc + 3)) : jw Γ nL kc ks ws lv st0 pc :=
  j_callSZ g hC L hfr hlo hcells hslots hAs hst hcat hd (fun r u hz h => k r u.1 u.2.1 u.2.2.1 u.2.2.2.1 u.2.2.2.2.1 u.2.2.2.2.2.1 u.2.2.2.2.2.2.1 u.2.2.2.2.2.2.2.1 u.2.2.2.2.2.2.2.2.1 u.2.2.2.2.2.2.2.2.2.1 u.2.2.2.2.2.2.2.2.2.2.1 u.2.2.2.2.2.2.2.2.2.2.2.1 u.2.2.2.2.2.2.2.2.2.2.2.2.1 u.2.2.2.2.2.2.2.2.2.2.2.2.2.1 u.2.2.2.2.2.2.2.2.2.2.2.2.2.2.1 u.2.2.2.2.2.2.2.2.2.2.2.2.2.2.2.1 u.2.2.2.2.2.2.2.2.2.2.2.2.2.2.2.2.1 u.2.2.2.2.2.2.2.2.2.2.2.2.2.2.2.2.2.1 u.2.2.2.2.2.2.2.2.2.2.2.2.2.2.2.2.2.2.1 u.2.2.2.2.2.2.2.2.2.2.2.2.2.2.2.2.2.2.2 hz h)
theorem j_callVI_0 (g : gd Γ cc own nL rm q) {b : Nat} {As : List Value} {Wd : va_W} {K : Int32 → Prop} {st0 : List Value} (hC : ctI_0 q y ccY nY frY loY (.ref b :: As) ws Wd K) (L : clV own index y ccY nY (some .int) n) (q0 ci : Nat) {fs : List Value} {rc : vw_C} (he : ws[q0]? = some (b, .inr (ci, fs))) (hrc : jclasses[ci]? = some rc) (hcn : rc.1 = y.cls) (hfr : frY + 1 ≤ rm.frames) (hlo : 8 + (nY + 11) + loY ≤ rm.locals) (hcells : kc + 0 ≤ rm.cells) (hslots : ks + 0 ≤ rm.slots) (hAs : As.length = n) (hst : st0 = As.reverse ++ .ref b :: st) (hcat : (st.map fun v => v.category).sum ≤ 8) (hd : decode cc pc = .ok (.invokevirtual index, 3)) (k : ∀ (r : Int32) , K r  → jw Γ nL kc ks (Wd ) lv (.int r :: st) (pc + 3)) : jw Γ nL kc ks ws lv st0 pc :=
  j_callVI g hC L q0 ci he hrc hcn hfr hlo hcells hslots hAs hst hcat hd (fun r u h => k r  h)
theorem j_callVI_4 (g : gd Γ cc own nL rm q) {b : Nat} {As : List Value} {A1 A2 A3 A4 : Type} {Wd : A1 → A2 → A3 → A4 → va_W} {K : Int32 → A1 → A2 → A3 → A4 → Prop} {st0 : List Value} (hC : ctI_4 q y ccY nY frY loY (.ref b :: As) ws Wd K) (L : clV own index y ccY nY (some .int) n) (q0 ci : Nat) {fs : List Value} {rc : vw_C} (he : ws[q0]? = some (b, .inr (ci, fs))) (hrc : jclasses[ci]? = some rc) (hcn : rc.1 = y.cls) (hfr : frY + 1 ≤ rm.frames) (hlo : 8 + (nY + 11) + loY ≤ rm.locals) (hcells : kc + 0 ≤ rm.cells) (hslots : ks + 0 ≤ rm.slots) (hAs : As.length = n) (hst : st0 = As.reverse ++ .ref b :: st) (hcat : (st.map fun v => v.category).sum ≤ 8) (hd : decode cc pc = .ok (.invokevirtual index, 3)) (k : ∀ (r : Int32) (m1 : A1) (m2 : A2) (m3 : A3) (m4 : A4), K r m1 m2 m3 m4 → jw Γ nL kc ks (Wd m1 m2 m3 m4) lv (.int r :: st) (pc + 3)) : jw Γ nL kc ks ws lv st0 pc :=
  j_callVI g hC L q0 ci he hrc hcn hfr hlo hcells hslots hAs hst hcat hd (fun r u h => k r u.1 u.2.1 u.2.2.1 u.2.2.2 h)
theorem j_callVI_5 (g : gd Γ cc own nL rm q) {b : Nat} {As : List Value} {A1 A2 A3 A4 A5 : Type} {Wd : A1 → A2 → A3 → A4 → A5 → va_W} {K : Int32 → A1 → A2 → A3 → A4 → A5 → Prop} {st0 : List Value} (hC : ctI_5 q y ccY nY frY loY (.ref b :: As) ws Wd K) (L : clV own index y ccY nY (some .int) n) (q0 ci : Nat) {fs : List Value} {rc : vw_C} (he : ws[q0]? = some (b, .inr (ci, fs))) (hrc : jclasses[ci]? = some rc) (hcn : rc.1 = y.cls) (hfr : frY + 1 ≤ rm.frames) (hlo : 8 + (nY + 11) + loY ≤ rm.locals) (hcells : kc + 0 ≤ rm.cells) (hslots : ks + 0 ≤ rm.slots) (hAs : As.length = n) (hst : st0 = As.reverse ++ .ref b :: st) (hcat : (st.map fun v => v.category).sum ≤ 8) (hd : decode cc pc = .ok (.invokevirtual index, 3)) (k : ∀ (r : Int32) (m1 : A1) (m2 : A2) (m3 : A3) (m4 : A4) (m5 : A5), K r m1 m2 m3 m4 m5 → jw Γ nL kc ks (Wd m1 m2 m3 m4 m5) lv (.int r :: st) (pc + 3)) : jw Γ nL kc ks ws lv st0 pc :=
  j_callVI g hC L q0 ci he hrc hcn hfr hlo hcells hslots hAs hst hcat hd (fun r u h => k r u.1 u.2.1 u.2.2.1 u.2.2.2.1 u.2.2.2.2 h)
theorem j_callVI_9 (g : gd Γ cc own nL rm q) {b : Nat} {As : List Value} {A1 A2 A3 A4 A5 A6 A7 A8 A9 : Type} {Wd : A1 → A2 → A3 → A4 → A5 → A6 → A7 → A8 → A9 → va_W} {K : Int32 → A1 → A2 → A3 → A4 → A5 → A6 → A7 → A8 → A9 → Prop} {st0 : List Value} (hC : ctI_9 q y ccY nY frY loY (.ref b :: As) ws Wd K) (L : clV own index y ccY nY (some .int) n) (q0 ci : Nat) {fs : List Value} {rc : vw_C} (he : ws[q0]? = some (b, .inr (ci, fs))) (hrc : jclasses[ci]? = some rc) (hcn : rc.1 = y.cls) (hfr : frY + 1 ≤ rm.frames) (hlo : 8 + (nY + 11) + loY ≤ rm.locals) (hcells : kc + 0 ≤ rm.cells) (hslots : ks + 0 ≤ rm.slots) (hAs : As.length = n) (hst : st0 = As.reverse ++ .ref b :: st) (hcat : (st.map fun v => v.category).sum ≤ 8) (hd : decode cc pc = .ok (.invokevirtual index, 3)) (k : ∀ (r : Int32) (m1 : A1) (m2 : A2) (m3 : A3) (m4 : A4) (m5 : A5) (m6 : A6) (m7 : A7) (m8 : A8) (m9 : A9), K r m1 m2 m3 m4 m5 m6 m7 m8 m9 → jw Γ nL kc ks (Wd m1 m2 m3 m4 m5 m6 m7 m8 m9) lv (.int r :: st) (pc + 3)) : jw Γ nL kc ks ws lv st0 pc :=
  j_callVI g hC L q0 ci he hrc hcn hfr hlo hcells hslots hAs hst hcat hd (fun r u h => k r u.1 u.2.1 u.2.2.1 u.2.2.2.1 u.2.2.2.2.1 u.2.2.2.2.2.1 u.2.2.2.2.2.2.1 u.2.2.2.2.2.2.2.1 u.2.2.2.2.2.2.2.2 h)
theorem j_callVI_10 (g : gd Γ cc own nL rm q) {b : Nat} {As : List Value} {A1 A2 A3 A4 A5 A6 A7 A8 A9 A10 : Type} {Wd : A1 → A2 → A3 → A4 → A5 → A6 → A7 → A8 → A9 → A10 → va_W} {K : Int32 → A1 → A2 → A3 → A4 → A5 → A6 → A7 → A8 → A9 → A10 → Prop} {st0 : List Value} (hC : ctI_10 q y ccY nY frY loY (.ref b :: As) ws Wd K) (L : clV own index y ccY nY (some .int) n) (q0 ci : Nat) {fs : List Value} {rc : vw_C} (he : ws[q0]? = some (b, .inr (ci, fs))) (hrc : jclasses[ci]? = some rc) (hcn : rc.1 = y.cls) (hfr : frY + 1 ≤ rm.frames) (hlo : 8 + (nY + 11) + loY ≤ rm.locals) (hcells : kc + 0 ≤ rm.cells) (hslots : ks + 0 ≤ rm.slots) (hAs : As.length = n) (hst : st0 = As.reverse ++ .ref b :: st) (hcat : (st.map fun v => v.category).sum ≤ 8) (hd : decode cc pc = .ok (.invokevirtual index, 3)) (k : ∀ (r : Int32) (m1 : A1) (m2 : A2) (m3 : A3) (m4 : A4) (m5 : A5) (m6 : A6) (m7 : A7) (m8 : A8) (m9 : A9) (m10 : A10), K r m1 m2 m3 m4 m5 m6 m7 m8 m9 m10 → jw Γ nL kc ks (Wd m1 m2 m3 m4 m5 m6 m7 m8 m9 m10) lv (.int r :: st) (pc + 3)) : jw Γ nL kc ks ws lv st0 pc :=
  j_callVI g hC L q0 ci he hrc hcn hfr hlo hcells hslots hAs hst hcat hd (fun r u h => k r u.1 u.2.1 u.2.2.1 u.2.2.2.1 u.2.2.2.2.1 u.2.2.2.2.2.1 u.2.2.2.2.2.2.1 u.2.2.2.2.2.2.2.1 u.2.2.2.2.2.2.2.2.1 u.2.2.2.2.2.2.2.2.2 h)
theorem j_callVI_20 (g : gd Γ cc own nL rm q) {b : Nat} {As : List Value} {A1 A2 A3 A4 A5 A6 A7 A8 A9 A10 A11 A12 A13 A14 A15 A16 A17 A18 A19 A20 : Type} {Wd : A1 → A2 → A3 → A4 → A5 → A6 → A7 → A8 → A9 → A10 → A11 → A12 → A13 → A14 → A15 → A16 → A17 → A18 → A19 → A20 → va_W} {K : Int32 → A1 → A2 → A3 → A4 → A5 → A6 → A7 → A8 → A9 → A10 → A11 → A12 → A13 → A14 → A15 → A16 → A17 → A18 → A19 → A20 → Prop} {st0 : List Value} (hC : ctI_20 q y ccY nY frY loY (.ref b :: As) ws Wd K) (L : clV own index y ccY nY (some .int) n) (q0 ci : Nat) {fs : List Value} {rc : vw_C} (he : ws[q0]? = some (b, .inr (ci, fs))) (hrc : jclasses[ci]? = some rc) (hcn : rc.1 = y.cls) (hfr : frY + 1 ≤ rm.frames) (hlo : 8 + (nY + 11) + loY ≤ rm.locals) (hcells : kc + 0 ≤ rm.cells) (hslots : ks + 0 ≤ rm.slots) (hAs : As.length = n) (hst : st0 = As.reverse ++ .ref b :: st) (hcat : (st.map fun v => v.category).sum ≤ 8) (hd : decode cc pc = .ok (.invokevirtual index, 3)) (k : ∀ (r : Int32) (m1 : A1) (m2 : A2) (m3 : A3) (m4 : A4) (m5 : A5) (m6 : A6) (m7 : A7) (m8 : A8) (m9 : A9) (m10 : A10) (m11 : A11) (m12 : A12) (m13 : A13) (m14 : A14) (m15 : A15) (m16 : A16) (m17 : A17) (m18 : A18) (m19 : A19) (m20 : A20), K r m1 m2 m3 m4 m5 m6 m7 m8 m9 m10 m11 m12 m13 m14 m15 m16 m17 m18 m19 m20 → jw Γ nL kc ks (Wd m1 m2 m3 m4 m5 m6 m7 m8 m9 m10 m11 m12 m13 m14 m15 m16 m17 m18 m19 m20) lv (.int r :: st) (pc + 3)) : jw Γ nL kc ks ws lv st0 pc :=
  j_callVI g hC L q0 ci he hrc hcn hfr hlo hcells hslots hAs hst hcat hd (fun r u h => k r u.1 u.2.1 u.2.2.1 u.2.2.2.1 u.2.2.2.2.1 u.2.2.2.2.2.1 u.2.2.2.2.2.2.1 u.2.2.2.2.2.2.2.1 u.2.2.2.2.2.2.2.2.1 u.2.2.2.2.2.2.2.2.2.1 u.2.2.2.2.2.2.2.2.2.2.1 u.2.2.2.2.2.2.2.2.2.2.2.1 u.2.2.2.2.2.2.2.2.2.2.2.2.1 u.2.2.2.2.2.2.2.2.2.2.2.2.2.1 u.2.2.2.2.2.2.2.2.2.2.2.2.2.2.1 u.2.2.2.2.2.2.2.2.2.2.2.2.2.2.2.1 u.2.2.2.2.2.2.2.2.2.2.2.2.2.2.2.2.1 u.2.2.2.2.2.2.2.2.2.2.2.2.2.2.2.2.2.1 u.2.2.2.2.2.2.2.2.2.2.2.2.2.2.2.2.2.2.1 u.2.2.2.2.2.2.2.2.2.2.2.2.2.2.2.2.2.2.2 h)
theorem j_callVQ_0 (g : gd Γ cc own nL rm q) {b : Nat} {As : List Value} {ad : Nat → Nat} {Wd : va_W} {K : Option Nat → Prop} {st0 : List Value} (hC : ctQ_0 q y ccY nY frY loY (.ref b :: As) ws ad Wd K) (L : clV own index y ccY nY (some (.object RX0)) n) (q0 ci : Nat) {fs : List Value} {rc : vw_C} (he : ws[q0]? = some (b, .inr (ci, fs))) (hrc : jclasses[ci]? = some rc) (hcn : rc.1 = y.cls) (hfr : frY + 1 ≤ rm.frames) (hlo : 8 + (nY + 11) + loY ≤ rm.locals) (hcells : kc + 0 ≤ rm.cells) (hslots : ks + 0 ≤ rm.slots) (hAs : As.length = n) (hst : st0 = As.reverse ++ .ref b :: st) (hcat : (st.map fun v => v.category).sum ≤ 8) (hd : decode cc pc = .ok (.invokevirtual index, 3)) (kn : K none  → jw Γ nL kc ks (Wd ) lv (.null :: st) (pc + 3)) (k : ∀ (i : Nat) , i < 6 → K (some i)  → jw Γ nL kc ks (Wd ) lv (.ref (ad i) :: st) (pc + 3)) : jw Γ nL kc ks ws lv st0 pc :=
  j_callVQ g hC L q0 ci he hrc hcn hfr hlo hcells hslots hAs hst hcat hd (fun u h => kn  h) (fun i u hi h => k i  hi h)
theorem j_callVV_1 (g : gd Γ cc own nL rm q) {b : Nat} {As : List Value} {A1 : Type} {Wd : A1 → va_W} {K : A1 → Prop} {st0 : List Value} (hC : ctV_1 q y ccY nY frY loY (.ref b :: As) ws Wd K) (L : clV own index y ccY nY none n) (q0 ci : Nat) {fs : List Value} {rc : vw_C} (he : ws[q0]? = some (b, .inr (ci, fs))) (hrc : jclasses[ci]? = some rc) (hcn : rc.1 = y.cls) (hfr : frY + 1 ≤ rm.frames) (hlo : 8 + (nY + 11) + loY ≤ rm.locals) (hcells : kc + 0 ≤ rm.cells) (hslots : ks + 0 ≤ rm.slots) (hAs : As.length = n) (hst : st0 = As.reverse ++ .ref b :: st) (hcat : (st.map fun v => v.category).sum ≤ 8) (hd : decode cc pc = .ok (.invokevirtual index, 3)) (k : ∀ (m1 : A1), K m1 → jw Γ nL kc ks (Wd m1) lv st (pc + 3)) : jw Γ nL kc ks ws lv st0 pc :=
  j_callVV g hC L q0 ci he hrc hcn hfr hlo hcells hslots hAs hst hcat hd (fun u h => k u h)
theorem j_callVV_2 (g : gd Γ cc own nL rm q) {b : Nat} {As : List Value} {A1 A2 : Type} {Wd : A1 → A2 → va_W} {K : A1 → A2 → Prop} {st0 : List Value} (hC : ctV_2 q y ccY nY frY loY (.ref b :: As) ws Wd K) (L : clV own index y ccY nY none n) (q0 ci : Nat) {fs : List Value} {rc : vw_C} (he : ws[q0]? = some (b, .inr (ci, fs))) (hrc : jclasses[ci]? = some rc) (hcn : rc.1 = y.cls) (hfr : frY + 1 ≤ rm.frames) (hlo : 8 + (nY + 11) + loY ≤ rm.locals) (hcells : kc + 0 ≤ rm.cells) (hslots : ks + 0 ≤ rm.slots) (hAs : As.length = n) (hst : st0 = As.reverse ++ .ref b :: st) (hcat : (st.map fun v => v.category).sum ≤ 8) (hd : decode cc pc = .ok (.invokevirtual index, 3)) (k : ∀ (m1 : A1) (m2 : A2), K m1 m2 → jw Γ nL kc ks (Wd m1 m2) lv st (pc + 3)) : jw Γ nL kc ks ws lv st0 pc :=
  j_callVV g hC L q0 ci he hrc hcn hfr hlo hcells hslots hAs hst hcat hd (fun u h => k u.1 u.2 h)
theorem j_callVZ_0 (g : gd Γ cc own nL rm q) {b : Nat} {As : List Value} {Wd : va_W} {K : Int32 → Prop} {st0 : List Value} (hC : ctZ_0 q y ccY nY frY loY (.ref b :: As) ws Wd K) (L : clV own index y ccY nY (some .boolean) n) (q0 ci : Nat) {fs : List Value} {rc : vw_C} (he : ws[q0]? = some (b, .inr (ci, fs))) (hrc : jclasses[ci]? = some rc) (hcn : rc.1 = y.cls) (hfr : frY + 1 ≤ rm.frames) (hlo : 8 + (nY + 11) + loY ≤ rm.locals) (hcells : kc + 0 ≤ rm.cells) (hslots : ks + 0 ≤ rm.slots) (hAs : As.length = n) (hst : st0 = As.reverse ++ .ref b :: st) (hcat : (st.map fun v => v.category).sum ≤ 8) (hd : decode cc pc = .ok (.invokevirtual index, 3)) (k : ∀ (r : Int32) , (r = 0 ∨ r = 1) → K r  → jw Γ nL kc ks (Wd ) lv (.int r :: st) (pc + 3)) : jw Γ nL kc ks ws lv st0 pc :=
  j_callVZ g hC L q0 ci he hrc hcn hfr hlo hcells hslots hAs hst hcat hd (fun r u hz h => k r  hz h)
theorem j_callVZ_1 (g : gd Γ cc own nL rm q) {b : Nat} {As : List Value} {A1 : Type} {Wd : A1 → va_W} {K : Int32 → A1 → Prop} {st0 : List Value} (hC : ctZ_1 q y ccY nY frY loY (.ref b :: As) ws Wd K) (L : clV own index y ccY nY (some .boolean) n) (q0 ci : Nat) {fs : List Value} {rc : vw_C} (he : ws[q0]? = some (b, .inr (ci, fs))) (hrc : jclasses[ci]? = some rc) (hcn : rc.1 = y.cls) (hfr : frY + 1 ≤ rm.frames) (hlo : 8 + (nY + 11) + loY ≤ rm.locals) (hcells : kc + 0 ≤ rm.cells) (hslots : ks + 0 ≤ rm.slots) (hAs : As.length = n) (hst : st0 = As.reverse ++ .ref b :: st) (hcat : (st.map fun v => v.category).sum ≤ 8) (hd : decode cc pc = .ok (.invokevirtual index, 3)) (k : ∀ (r : Int32) (m1 : A1), (r = 0 ∨ r = 1) → K r m1 → jw Γ nL kc ks (Wd m1) lv (.int r :: st) (pc + 3)) : jw Γ nL kc ks ws lv st0 pc :=
  j_callVZ g hC L q0 ci he hrc hcn hfr hlo hcells hslots hAs hst hcat hd (fun r u hz h => k r u hz h)
theorem j_callVZ_2 (g : gd Γ cc own nL rm q) {b : Nat} {As : List Value} {A1 A2 : Type} {Wd : A1 → A2 → va_W} {K : Int32 → A1 → A2 → Prop} {st0 : List Value} (hC : ctZ_2 q y ccY nY frY loY (.ref b :: As) ws Wd K) (L : clV own index y ccY nY (some .boolean) n) (q0 ci : Nat) {fs : List Value} {rc : vw_C} (he : ws[q0]? = some (b, .inr (ci, fs))) (hrc : jclasses[ci]? = some rc) (hcn : rc.1 = y.cls) (hfr : frY + 1 ≤ rm.frames) (hlo : 8 + (nY + 11) + loY ≤ rm.locals) (hcells : kc + 0 ≤ rm.cells) (hslots : ks + 0 ≤ rm.slots) (hAs : As.length = n) (hst : st0 = As.reverse ++ .ref b :: st) (hcat : (st.map fun v => v.category).sum ≤ 8) (hd : decode cc pc = .ok (.invokevirtual index, 3)) (k : ∀ (r : Int32) (m1 : A1) (m2 : A2), (r = 0 ∨ r = 1) → K r m1 m2 → jw Γ nL kc ks (Wd m1 m2) lv (.int r :: st) (pc + 3)) : jw Γ nL kc ks ws lv st0 pc :=
  j_callVZ g hC L q0 ci he hrc hcn hfr hlo hcells hslots hAs hst hcat hd (fun r u hz h => k r u.1 u.2 hz h)
theorem j_callVZ_3 (g : gd Γ cc own nL rm q) {b : Nat} {As : List Value} {A1 A2 A3 : Type} {Wd : A1 → A2 → A3 → va_W} {K : Int32 → A1 → A2 → A3 → Prop} {st0 : List Value} (hC : ctZ_3 q y ccY nY frY loY (.ref b :: As) ws Wd K) (L : clV own index y ccY nY (some .boolean) n) (q0 ci : Nat) {fs : List Value} {rc : vw_C} (he : ws[q0]? = some (b, .inr (ci, fs))) (hrc : jclasses[ci]? = some rc) (hcn : rc.1 = y.cls) (hfr : frY + 1 ≤ rm.frames) (hlo : 8 + (nY + 11) + loY ≤ rm.locals) (hcells : kc + 0 ≤ rm.cells) (hslots : ks + 0 ≤ rm.slots) (hAs : As.length = n) (hst : st0 = As.reverse ++ .ref b :: st) (hcat : (st.map fun v => v.category).sum ≤ 8) (hd : decode cc pc = .ok (.invokevirtual index, 3)) (k : ∀ (r : Int32) (m1 : A1) (m2 : A2) (m3 : A3), (r = 0 ∨ r = 1) → K r m1 m2 m3 → jw Γ nL kc ks (Wd m1 m2 m3) lv (.int r :: st) (pc + 3)) : jw Γ nL kc ks ws lv st0 pc :=
  j_callVZ g hC L q0 ci he hrc hcn hfr hlo hcells hslots hAs hst hcat hd (fun r u hz h => k r u.1 u.2.1 u.2.2 hz h)
theorem j_callVZ_4 (g : gd Γ cc own nL rm q) {b : Nat} {As : List Value} {A1 A2 A3 A4 : Type} {Wd : A1 → A2 → A3 → A4 → va_W} {K : Int32 → A1 → A2 → A3 → A4 → Prop} {st0 : List Value} (hC : ctZ_4 q y ccY nY frY loY (.ref b :: As) ws Wd K) (L : clV own index y ccY nY (some .boolean) n) (q0 ci : Nat) {fs : List Value} {rc : vw_C} (he : ws[q0]? = some (b, .inr (ci, fs))) (hrc : jclasses[ci]? = some rc) (hcn : rc.1 = y.cls) (hfr : frY + 1 ≤ rm.frames) (hlo : 8 + (nY + 11) + loY ≤ rm.locals) (hcells : kc + 0 ≤ rm.cells) (hslots : ks + 0 ≤ rm.slots) (hAs : As.length = n) (hst : st0 = As.reverse ++ .ref b :: st) (hcat : (st.map fun v => v.category).sum ≤ 8) (hd : decode cc pc = .ok (.invokevirtual index, 3)) (k : ∀ (r : Int32) (m1 : A1) (m2 : A2) (m3 : A3) (m4 : A4), (r = 0 ∨ r = 1) → K r m1 m2 m3 m4 → jw Γ nL kc ks (Wd m1 m2 m3 m4) lv (.int r :: st) (pc + 3)) : jw Γ nL kc ks ws lv st0 pc :=
  j_callVZ g hC L q0 ci he hrc hcn hfr hlo hcells hslots hAs hst hcat hd (fun r u hz h => k r u.1 u.2.1 u.2.2.1 u.2.2.2 hz h)
end JCN
end
section
/-! further rows: longs, copies, fills, switches -/
section JM
variable {Γ : GT} {cc : ByteArray} {own : String} {nL kc ks : Nat} {rm : Room} {q : Nat → ClassId} {ws : va_W} {lv : List (Nat × Value)} {st : List Value} {pc : Nat}
theorem j_lstore (g : gd Γ cc own nL rm q) {i : Nat} {x : Int64} {lv' : List (Nat × Value)} (hn : i + 1 < nL) (hv : (i, Value.long x) :: lv.filter (fun q => !(q.1 == i) && (!(q.1 == i + 1) && !(q.1 + 1 == i && q.2.category == 2))) = lv') (hd : decode cc pc = .ok (.lstore i, 2)) (k : jw Γ nL kc ks ws lv' st (pc + 2)) : jw Γ nL kc ks ws lv (.long x :: st) pc := by
  obtain ⟨p, l, e, R, s, m, args, below, meth, c, D, A, Q⟩ := Γ
  obtain ⟨hx, hb, hml, hown, hts, hK, hA, hR⟩ := g
  intro H locs ls hP hD hS hl
  exact lv_lstore hx hb hd hl hn hv (fun ls hl => k H locs ls hP hD hS hl)
theorem j_lcmp (g : gd Γ cc own nL rm q) {x y : Int64} (hd : decode cc pc = .ok (.lcmp, 1)) (k : jw Γ nL kc ks ws lv (.int (lg_cmp x y) :: st) (pc + 1)) : jw Γ nL kc ks ws lv (.long y :: .long x :: st) pc := by
  obtain ⟨p, l, e, R, s, m, args, below, meth, c, D, A, Q⟩ := Γ
  obtain ⟨hx, hb, hml, hown, hts, hK, hA, hR⟩ := g
  intro H locs ls hP hD hS hl
  exact W.lcmp hx hb hd (k H locs ls hP hD hS hl)
theorem j_swI (g : gd Γ cc own nL rm q) {dflt lo hi : Int} {offs : Array Int} {len : Nat} {x : Int32} {off : Int} {tgt : Nat} (hd : decode cc pc = .ok (.tableswitch dflt lo hi offs, len)) (h1 : ¬ x.toInt < lo) (h2 : ¬ hi < x.toInt) (ho : offs[(x.toInt - lo).toNat]? = some off) (ht : (pc : Int) + off = (tgt : Int)) (k : jw Γ nL kc ks ws lv st tgt) : jw Γ nL kc ks ws lv (.int x :: st) pc := by
  obtain ⟨p, l, e, R, s, m, args, below, meth, c, D, A, Q⟩ := Γ
  obtain ⟨hx, hb, hml, hown, hts, hK, hA, hR⟩ := g
  intro H locs ls hP hD hS hl
  exact lv_tableIn hx hb hd h1 h2 ho ht (k H locs ls hP hD hS hl)
theorem j_swO (g : gd Γ cc own nL rm q) {dflt lo hi : Int} {offs : Array Int} {len : Nat} {x : Int32} {tgt : Nat} (hd : decode cc pc = .ok (.tableswitch dflt lo hi offs, len)) (h : x.toInt < lo ∨ hi < x.toInt) (ht : (pc : Int) + dflt = (tgt : Int)) (k : jw Γ nL kc ks ws lv st tgt) : jw Γ nL kc ks ws lv (.int x :: st) pc := by
  obtain ⟨p, l, e, R, s, m, args, below, meth, c, D, A, Q⟩ := Γ
  obtain ⟨hx, hb, hml, hown, hts, hK, hA, hR⟩ := g
  intro H locs ls hP hD hS hl
  exact lv_tableOut hx hb hd h ht (k H locs ls hP hD hS hl)
theorem sw_lo {x c : Int32} {lo : Int} (h : x = c) (d : ¬ c.toInt < lo) : ¬ x.toInt < lo := h ▸ d
theorem sw_hi {x c : Int32} {hi : Int} (h : x = c) (d : ¬ hi < c.toInt) : ¬ hi < x.toInt := h ▸ d
theorem sw_at {x c : Int32} {lo off : Int} {offs : Array Int} {n : Nat} (h : x = c) (d : (c.toInt - lo).toNat = n) (ho : offs[n]? = some off) : offs[(x.toInt - lo).toNat]? = some off := by
  subst h; rw [d]; exact ho
theorem sw_out7 {x : Int32} (c0 : ¬ x = (0 : Int32)) (c1 : ¬ x = (1 : Int32)) (c2 : ¬ x = (2 : Int32)) (c3 : ¬ x = (3 : Int32)) (c4 : ¬ x = (4 : Int32)) (c5 : ¬ x = (5 : Int32)) (c6 : ¬ x = (6 : Int32)) : x.toInt < 0 ∨ 6 < x.toInt := by
  by_cases h : x.toInt < 0 ∨ 6 < x.toInt
  · exact h
  · exfalso
    have h2 : x.toInt = 0 ∨ x.toInt = 1 ∨ x.toInt = 2 ∨ x.toInt = 3 ∨ x.toInt = 4 ∨ x.toInt = 5 ∨ x.toInt = 6 := by omega
    rcases h2 with h0 | h1 | h2 | h3 | h4 | h5 | h6
    · exact c0 (Int32.toInt_inj.mp (h0.trans (by decide)))
    · exact c1 (Int32.toInt_inj.mp (h1.trans (by decide)))
    · exact c2 (Int32.toInt_inj.mp (h2.trans (by decide)))
    · exact c3 (Int32.toInt_inj.mp (h3.trans (by decide)))
    · exact c4 (Int32.toInt_inj.mp (h4.trans (by decide)))
    · exact c5 (Int32.toInt_inj.mp (h5.trans (by decide)))
    · exact c6 (Int32.toInt_inj.mp (h6.trans (by decide)))
theorem sw_out24 {x : Int32} (c0 : ¬ x = (0 : Int32)) (c1 : ¬ x = (1 : Int32)) (c2 : ¬ x = (2 : Int32)) (c3 : ¬ x = (3 : Int32)) (c4 : ¬ x = (4 : Int32)) (c5 : ¬ x = (5 : Int32)) (c6 : ¬ x = (6 : Int32)) (c7 : ¬ x = (7 : Int32)) (c8 : ¬ x = (8 : Int32)) (c9 : ¬ x = (9 : Int32)) (c10 : ¬ x = (10 : Int32)) (c11 : ¬ x = (11 : Int32)) (c12 : ¬ x = (12 : Int32)) (c13 : ¬ x = (13 : Int32)) (c14 : ¬ x = (14 : Int32)) (c15 : ¬ x = (15 : Int32)) (c16 : ¬ x = (16 : Int32)) (c17 : ¬ x = (17 : Int32)) (c18 : ¬ x = (18 : Int32)) (c19 : ¬ x = (19 : Int32)) (c20 : ¬ x = (20 : Int32)) (c21 : ¬ x = (21 : Int32)) (c22 : ¬ x = (22 : Int32)) (c23 : ¬ x = (23 : Int32)) : x.toInt < 0 ∨ 23 < x.toInt := by
  by_cases h : x.toInt < 0 ∨ 23 < x.toInt
  · exact h
  · exfalso
    have h2 : x.toInt = 0 ∨ x.toInt = 1 ∨ x.toInt = 2 ∨ x.toInt = 3 ∨ x.toInt = 4 ∨ x.toInt = 5 ∨ x.toInt = 6 ∨ x.toInt = 7 ∨ x.toInt = 8 ∨ x.toInt = 9 ∨ x.toInt = 10 ∨ x.toInt = 11 ∨ x.toInt = 12 ∨ x.toInt = 13 ∨ x.toInt = 14 ∨ x.toInt = 15 ∨ x.toInt = 16 ∨ x.toInt = 17 ∨ x.toInt = 18 ∨ x.toInt = 19 ∨ x.toInt = 20 ∨ x.toInt = 21 ∨ x.toInt = 22 ∨ x.toInt = 23 := by omega
    rcases h2 with h0 | h1 | h2 | h3 | h4 | h5 | h6 | h7 | h8 | h9 | h10 | h11 | h12 | h13 | h14 | h15 | h16 | h17 | h18 | h19 | h20 | h21 | h22 | h23
    · exact c0 (Int32.toInt_inj.mp (h0.trans (by decide)))
    · exact c1 (Int32.toInt_inj.mp (h1.trans (by decide)))
    · exact c2 (Int32.toInt_inj.mp (h2.trans (by decide)))
    · exact c3 (Int32.toInt_inj.mp (h3.trans (by decide)))
    · exact c4 (Int32.toInt_inj.mp (h4.trans (by decide)))
    · exact c5 (Int32.toInt_inj.mp (h5.trans (by decide)))
    · exact c6 (Int32.toInt_inj.mp (h6.trans (by decide)))
    · exact c7 (Int32.toInt_inj.mp (h7.trans (by decide)))
    · exact c8 (Int32.toInt_inj.mp (h8.trans (by decide)))
    · exact c9 (Int32.toInt_inj.mp (h9.trans (by decide)))
    · exact c10 (Int32.toInt_inj.mp (h10.trans (by decide)))
    · exact c11 (Int32.toInt_inj.mp (h11.trans (by decide)))
    · exact c12 (Int32.toInt_inj.mp (h12.trans (by decide)))
    · exact c13 (Int32.toInt_inj.mp (h13.trans (by decide)))
    · exact c14 (Int32.toInt_inj.mp (h14.trans (by decide)))
    · exact c15 (Int32.toInt_inj.mp (h15.trans (by decide)))
    · exact c16 (Int32.toInt_inj.mp (h16.trans (by decide)))
    · exact c17 (Int32.toInt_inj.mp (h17.trans (by decide)))
    · exact c18 (Int32.toInt_inj.mp (h18.trans (by decide)))
    · exact c19 (Int32.toInt_inj.mp (h19.trans (by decide)))
    · exact c20 (Int32.toInt_inj.mp (h20.trans (by decide)))
    · exact c21 (Int32.toInt_inj.mp (h21.trans (by decide)))
    · exact c22 (Int32.toInt_inj.mp (h22.trans (by decide)))
    · exact c23 (Int32.toInt_inj.mp (h23.trans (by decide)))
def ac_ok (sp dp n : Int32) (N : Nat) : Prop := ¬ sp < 0 ∧ ¬ dp < 0 ∧ ¬ n < 0 ∧ sp.toNatClampNeg + n.toNatClampNeg ≤ N ∧ dp.toNatClampNeg + n.toNatClampNeg ≤ N
theorem ac_n : Cond.native arraycopyName ∈ gt := gt_in (by decide +kernel) rfl
theorem ac_s : Cond.static arraycopyName ∈ gt := gt_in (by decide +kernel) rfl
theorem ac_i : Cond.initialized "java/lang/System" ∈ gt := gt_in (by decide +kernel) rfl
theorem j_copyi (g : gd Γ cc own nL rm q) {index : Nat} (L : Cond.methodLink own index arraycopyName ∈ gt) (q0 q1 : Nat) {a0 a1 N : Nat} {f h : Nat → Int32} (ha0 : ws[q0]? = some (a0, .inl (q 0, N, .inl f))) (ha1 : ws[q1]? = some (a1, .inl (q 0, N, .inl h))) {sp dp n : Int32} (hc : ac_ok sp dp n N) (hf : 1 ≤ rm.frames) (hlo : (st.map fun v => v.category).sum + (nativeFrameWords "java/lang/System" "arraycopy" 5 + 11) ≤ rm.locals) {ws' : va_W} (hw : ws.set q1 (a1, .inl (q 0, N, .inl (va_cpy f h sp.toNatClampNeg dp.toNatClampNeg n.toNatClampNeg))) = ws') (hd : decode cc pc = .ok (.invokestatic index, 3)) (k : jw Γ nL kc ks ws' lv st (pc + 3)) : jw Γ nL kc ks ws lv (.int n :: .int dp :: .ref a1 :: .int sp :: .ref a0 :: st) pc := by
  obtain ⟨p, l, e, R, s, m, args, below, meth, c, D, A, Q⟩ := Γ
  obtain ⟨hx, hb, hml, hown, hts, hK, hA, hR⟩ := g
  intro H locs ls hP hD hS hl
  subst hw
  subst hR
  exact va_copyi hx hb (hml.trans hl.1.symm) hown (hts _ L) (hts _ ac_n) (hts _ ac_s) (hts _ ac_i) hK hP hD hS q0 q1 0 0 ha0 ha1 rfl rfl rfl hc.1 hc.2.1 hc.2.2.1 hc.2.2.2.1 hc.2.2.2.2 (fun _ _ => rfl) hf hlo hd (fun H1 locs1 hP hD hS => k H1 locs1 ls hP hD hS hl)
theorem j_copyl (g : gd Γ cc own nL rm q) {index : Nat} (L : Cond.methodLink own index arraycopyName ∈ gt) (q0 q1 : Nat) {a0 a1 N : Nat} {f h : Nat → Int64} (ha0 : ws[q0]? = some (a0, .inl (q 1, N, .inr (.inl f)))) (ha1 : ws[q1]? = some (a1, .inl (q 1, N, .inr (.inl h)))) {sp dp n : Int32} (hc : ac_ok sp dp n N) (hf : 1 ≤ rm.frames) (hlo : (st.map fun v => v.category).sum + (nativeFrameWords "java/lang/System" "arraycopy" 5 + 11) ≤ rm.locals) {ws' : va_W} (hw : ws.set q1 (a1, .inl (q 1, N, .inr (.inl (va_cpy f h sp.toNatClampNeg dp.toNatClampNeg n.toNatClampNeg)))) = ws') (hd : decode cc pc = .ok (.invokestatic index, 3)) (k : jw Γ nL kc ks ws' lv st (pc + 3)) : jw Γ nL kc ks ws lv (.int n :: .int dp :: .ref a1 :: .int sp :: .ref a0 :: st) pc := by
  obtain ⟨p, l, e, R, s, m, args, below, meth, c, D, A, Q⟩ := Γ
  obtain ⟨hx, hb, hml, hown, hts, hK, hA, hR⟩ := g
  intro H locs ls hP hD hS hl
  subst hw
  subst hR
  exact va_copyl hx hb (hml.trans hl.1.symm) hown (hts _ L) (hts _ ac_n) (hts _ ac_s) (hts _ ac_i) hK hP hD hS q0 q1 1 1 ha0 ha1 rfl rfl rfl hc.1 hc.2.1 hc.2.2.1 hc.2.2.2.1 hc.2.2.2.2 (fun _ _ => rfl) hf hlo hd (fun H1 locs1 hP hD hS => k H1 locs1 ls hP hD hS hl)
end JM
theorem ls_same {α : Type} {l : List α} {k : Nat} {x : α} (h : l[k]? = some x) : l.set k x = l := by
  apply List.ext_getElem?
  intro i
  rw [List.getElem?_set]
  by_cases hi : k = i
  · subst hi
    have hlt := (List.getElem?_eq_some_iff.mp h).1
    simp [hlt]
    exact (List.getElem?_eq_some_iff.mp h).2.symm
  · simp [hi]
theorem ls_get {α : Type} {l : List α} {k : Nat} {x y : α} (h : l[k]? = some x) : (l.set k y)[k]? = some y := List.getElem?_set_self (List.getElem?_eq_some_iff.mp h).1
def fillI (f : Nat → Int32) (n : Nat) (v : Int32) : Nat → Int32 := fun i => if i < n then v else f i
def fillL (f : Nat → Int64) (n : Nat) (v : Int64) : Nat → Int64 := fun i => if i < n then v else f i
theorem fillI_0 {f : Nat → Int32} {v : Int32} : fillI f 0 v = f := by funext i; simp [fillI]
theorem fillL_0 {f : Nat → Int64} {v : Int64} : fillL f 0 v = f := by funext i; simp [fillL]
theorem fillI_s {f : Nat → Int32} {k : Nat} {v : Int32} : upd (fillI f k v) k v = fillI f (k + 1) v := by
  funext i
  unfold upd fillI
  by_cases h : i = k
  · simp [h]
  · by_cases h2 : i < k
    · simp [h, h2, Nat.lt_succ_of_lt h2]
    · simp [h, h2, show ¬ i < k + 1 by omega]
theorem fillL_s {f : Nat → Int64} {k : Nat} {v : Int64} : vp_updL (fillL f k v) k v = fillL f (k + 1) v := by
  funext i
  unfold vp_updL fillL
  by_cases h : i = k
  · simp [h]
  · by_cases h2 : i < k
    · simp [h, h2, Nat.lt_succ_of_lt h2]
    · simp [h, h2, show ¬ i < k + 1 by omega]

theorem dJ7_fill_53178_0 : decode cJ7_fill_53178 0 = .ok (.iconst 0, 1) := by decide +kernel
theorem dJ7_fill_53178_1 : decode cJ7_fill_53178 1 = .ok (.istore_n 2, 1) := by decide +kernel
theorem dJ7_fill_53178_2 : decode cJ7_fill_53178 2 = .ok (.aload_n 0, 1) := by decide +kernel
theorem dJ7_fill_53178_3 : decode cJ7_fill_53178 3 = .ok (.arraylength, 1) := by decide +kernel
theorem dJ7_fill_53178_4 : decode cJ7_fill_53178 4 = .ok (.istore_n 3, 1) := by decide +kernel
theorem dJ7_fill_53178_5 : decode cJ7_fill_53178 5 = .ok (.iload_n 2, 1) := by decide +kernel
theorem dJ7_fill_53178_6 : decode cJ7_fill_53178 6 = .ok (.iload_n 3, 1) := by decide +kernel
theorem dJ7_fill_53178_7 : decode cJ7_fill_53178 7 = .ok (.if_icmp .ge 13, 3) := by decide +kernel
theorem dJ7_fill_53178_10 : decode cJ7_fill_53178 10 = .ok (.aload_n 0, 1) := by decide +kernel
theorem dJ7_fill_53178_11 : decode cJ7_fill_53178 11 = .ok (.iload_n 2, 1) := by decide +kernel
theorem dJ7_fill_53178_12 : decode cJ7_fill_53178 12 = .ok (.iload_n 1, 1) := by decide +kernel
theorem dJ7_fill_53178_13 : decode cJ7_fill_53178 13 = .ok (.iastore, 1) := by decide +kernel
theorem dJ7_fill_53178_14 : decode cJ7_fill_53178 14 = .ok (.iinc 2 1, 3) := by decide +kernel
theorem dJ7_fill_53178_17 : decode cJ7_fill_53178 17 = .ok (.goto (-12), 3) := by decide +kernel
theorem dJ7_fill_53178_20 : decode cJ7_fill_53178 20 = .ok (.return_, 1) := by decide +kernel
theorem dJ7_fill_d0a16_0 : decode cJ7_fill_d0a16 0 = .ok (.iconst 0, 1) := by decide +kernel
theorem dJ7_fill_d0a16_1 : decode cJ7_fill_d0a16 1 = .ok (.istore_n 3, 1) := by decide +kernel
theorem dJ7_fill_d0a16_2 : decode cJ7_fill_d0a16 2 = .ok (.aload_n 0, 1) := by decide +kernel
theorem dJ7_fill_d0a16_3 : decode cJ7_fill_d0a16 3 = .ok (.arraylength, 1) := by decide +kernel
theorem dJ7_fill_d0a16_4 : decode cJ7_fill_d0a16 4 = .ok (.istore 4, 2) := by decide +kernel
theorem dJ7_fill_d0a16_6 : decode cJ7_fill_d0a16 6 = .ok (.iload_n 3, 1) := by decide +kernel
theorem dJ7_fill_d0a16_7 : decode cJ7_fill_d0a16 7 = .ok (.iload 4, 2) := by decide +kernel
theorem dJ7_fill_d0a16_9 : decode cJ7_fill_d0a16 9 = .ok (.if_icmp .ge 13, 3) := by decide +kernel
theorem dJ7_fill_d0a16_12 : decode cJ7_fill_d0a16 12 = .ok (.aload_n 0, 1) := by decide +kernel
theorem dJ7_fill_d0a16_13 : decode cJ7_fill_d0a16 13 = .ok (.iload_n 3, 1) := by decide +kernel
theorem dJ7_fill_d0a16_14 : decode cJ7_fill_d0a16 14 = .ok (.lload_n 1, 1) := by decide +kernel
theorem dJ7_fill_d0a16_15 : decode cJ7_fill_d0a16 15 = .ok (.lastore, 1) := by decide +kernel
theorem dJ7_fill_d0a16_16 : decode cJ7_fill_d0a16 16 = .ok (.iinc 3 1, 3) := by decide +kernel
theorem dJ7_fill_d0a16_19 : decode cJ7_fill_d0a16 19 = .ok (.goto (-13), 3) := by decide +kernel
theorem dJ7_fill_d0a16_22 : decode cJ7_fill_d0a16 22 = .ok (.return_, 1) := by decide +kernel
set_option maxHeartbeats 1000000 in
theorem fl_loop_fill_53178 {Γ : GT} {q : Nat → ClassId} {ws : va_W} {p0 x N : Nat} {f : Nat → Int32} {v : Int32} (g : gd Γ cJ7_fill_53178 RJ7 4 (rmz 0 0) q) (he : ws[p0]? = some (x, .inl (q 0, N, .inl (f)))) (hN : N < 2147483648) (hret : ∀ lv, jw Γ 4 0 0 (ws.set p0 (x, .inl (q 0, N, .inl (fillI f N v)))) lv [] 20) :
    ∀ m k : Nat, k + m = N → jw Γ 4 0 0 (ws.set p0 (x, .inl (q 0, N, .inl (fillI f k v)))) [(2, .int (nI k)), (3, .int (nI N)), (0, .ref x), (1, .int v)] [] 5 := by
  intro m
  induction m with
  | zero =>
    intro k hk
    have e : k = N := by omega
    subst e
    refine j_iload_n g 0 rfl dJ7_fill_53178_5 ?_
    refine j_iload_n g 1 rfl dJ7_fill_53178_6 ?_
    refine j_icmp_ge g dJ7_fill_53178_7 (tgt := 20) (by decide) (fun _ => ?_) (fun c => absurd (nI_le (Nat.le_refl _) hN) c)
    exact hret _
  | succ m ih =>
    intro k hk
    have hlt : k < N := by omega
    refine j_iload_n g 0 rfl dJ7_fill_53178_5 ?_
    refine j_iload_n g 1 rfl dJ7_fill_53178_6 ?_
    refine j_icmp_ge g dJ7_fill_53178_7 (tgt := 20) (by decide) (fun c => absurd c (nI_ge hlt hN)) (fun _ => ?_)
    refine j_aload_n g 2 rfl dJ7_fill_53178_10 ?_
    refine j_iload_n g 0 rfl dJ7_fill_53178_11 ?_
    refine j_iload_n g 3 rfl dJ7_fill_53178_12 ?_
    refine j_iast g p0 (ls_get he) (vp_in_nI hlt hN) (ws' := ws.set p0 (x, .inl (q 0, N, .inl (fillI f (k + 1) v)))) (by rw [List.set_set, nI_clamp (Nat.lt_trans hlt hN), fillI_s]) dJ7_fill_53178_13 ?_
    refine j_iinc g 0 (n := 1) (v := nI (k + 1)) (lv' := [(2, .int (nI (k + 1))), (3, .int (nI N)), (0, .ref x), (1, .int v)]) rfl (nI_1 k) (by decide) rfl dJ7_fill_53178_14 ?_
    refine j_goto g dJ7_fill_53178_17 (tgt := 5) (by decide) ?_
    exact ih (k + 1) (by omega)
set_option maxHeartbeats 1000000 in
theorem c_J7_fill_53178 {q : Nat → ClassId} {ws : va_W} {p0 x N : Nat} {f : Nat → Int32} {v : Int32} (he : ws[p0]? = some (x, .inl (q 0, N, .inl (f)))) (hN : N < 2147483648) : ctV q yJ7_fill_53178 cJ7_fill_53178 4 0 0 [.ref x, .int v] ws (fun (_ : Unit) => ws.set p0 (x, .inl (q 0, N, .inl (fillI f N v)))) (fun _ => True) := by
  refine met_V (by decide) (Nat.le_of_ble_eq_true rfl) (fun Γ g hret => ?_)
  show jw Γ 4 0 0 ws [(0, .ref x), (1, .int v)] [] 0
  refine j_iconst g (v := 0) (by decide) dJ7_fill_53178_0 ?_
  refine j_istore_n g (lv' := [(2, .int 0), (0, .ref x), (1, .int v)]) (by decide) rfl dJ7_fill_53178_1 ?_
  refine j_aload_n g 1 rfl dJ7_fill_53178_2 ?_
  refine j_alen g p0 0 he rfl (v := nI N) rfl dJ7_fill_53178_3 ?_
  refine j_istore_n g (lv' := [(3, .int (nI N)), (2, .int 0), (0, .ref x), (1, .int v)]) (by decide) rfl dJ7_fill_53178_4 ?_
  refine j_sub [1, 0, 2, 3] rfl ?_
  have hl := fl_loop_fill_53178 (f := f) (v := v) g he hN (fun lv => hret lv 20 () dJ7_fill_53178_20 trivial) N 0 (by omega)
  rw [fillI_0, ls_same he, nI_0] at hl
  exact hl
theorem j_fillI {Γ : GT} {cc : ByteArray} {own : String} {nL kc ks : Nat} {rm : Room} {q : Nat → ClassId} {ws : va_W} {lv : List (Nat × Value)} {pc : Nat} (g : gd Γ cc own nL rm q) {index : Nat} (L : clS own index yJ7_fill_53178 cJ7_fill_53178 4 none 2) (p0 : Nat) {x N : Nat} {f : Nat → Int32} {v : Int32} (he : ws[p0]? = some (x, .inl (q 0, N, .inl (f)))) (hfr : 0 + 1 ≤ rm.frames) (hlo : 8 + (4 + 11) + 0 ≤ rm.locals) {ws' : va_W} (hw : ws.set p0 (x, .inl (q 0, N, .inl (fillI f N v))) = ws') (hN : N < 2147483648) (hd : decode cc pc = .ok (.invokestatic index, 3)) (k : jw Γ nL kc ks ws' lv [] (pc + 3)) (hcells : kc + 0 ≤ rm.cells := by exact Nat.zero_le _) (hslots : ks + 0 ≤ rm.slots := by exact Nat.zero_le _) : jw Γ nL kc ks ws lv [.int v, .ref x] pc := by
  subst hw
  exact j_callSV g (As := [.ref x, .int v]) (st := []) (c_J7_fill_53178 he hN) L hfr hlo hcells hslots rfl rfl (Nat.le_of_ble_eq_true rfl) hd (fun _ _ => k)

set_option maxHeartbeats 1000000 in
theorem fl_loop_fill_d0a16 {Γ : GT} {q : Nat → ClassId} {ws : va_W} {p0 x N : Nat} {f : Nat → Int64} {v : Int64} (g : gd Γ cJ7_fill_d0a16 RJ7 5 (rmz 0 0) q) (he : ws[p0]? = some (x, .inl (q 1, N, .inr (.inl (f))))) (hN : N < 2147483648) (hret : ∀ lv, jw Γ 5 0 0 (ws.set p0 (x, .inl (q 1, N, .inr (.inl (fillL f N v))))) lv [] 22) :
    ∀ m k : Nat, k + m = N → jw Γ 5 0 0 (ws.set p0 (x, .inl (q 1, N, .inr (.inl (fillL f k v))))) [(3, .int (nI k)), (4, .int (nI N)), (0, .ref x), (1, .long v)] [] 6 := by
  intro m
  induction m with
  | zero =>
    intro k hk
    have e : k = N := by omega
    subst e
    refine j_iload_n g 0 rfl dJ7_fill_d0a16_6 ?_
    refine j_iload g 1 rfl dJ7_fill_d0a16_7 ?_
    refine j_icmp_ge g dJ7_fill_d0a16_9 (tgt := 22) (by decide) (fun _ => ?_) (fun c => absurd (nI_le (Nat.le_refl _) hN) c)
    exact hret _
  | succ m ih =>
    intro k hk
    have hlt : k < N := by omega
    refine j_iload_n g 0 rfl dJ7_fill_d0a16_6 ?_
    refine j_iload g 1 rfl dJ7_fill_d0a16_7 ?_
    refine j_icmp_ge g dJ7_fill_d0a16_9 (tgt := 22) (by decide) (fun c => absurd c (nI_ge hlt hN)) (fun _ => ?_)
    refine j_aload_n g 2 rfl dJ7_fill_d0a16_12 ?_
    refine j_iload_n g 0 rfl dJ7_fill_d0a16_13 ?_
    refine j_lload_n g 3 rfl dJ7_fill_d0a16_14 ?_
    refine j_last g p0 (ls_get he) (vp_in_nI hlt hN) (ws' := ws.set p0 (x, .inl (q 1, N, .inr (.inl (fillL f (k + 1) v))))) (by rw [List.set_set, nI_clamp (Nat.lt_trans hlt hN), fillL_s]) dJ7_fill_d0a16_15 ?_
    refine j_iinc g 0 (n := 1) (v := nI (k + 1)) (lv' := [(3, .int (nI (k + 1))), (4, .int (nI N)), (0, .ref x), (1, .long v)]) rfl (nI_1 k) (by decide) rfl dJ7_fill_d0a16_16 ?_
    refine j_goto g dJ7_fill_d0a16_19 (tgt := 6) (by decide) ?_
    exact ih (k + 1) (by omega)
set_option maxHeartbeats 1000000 in
theorem c_J7_fill_d0a16 {q : Nat → ClassId} {ws : va_W} {p0 x N : Nat} {f : Nat → Int64} {v : Int64} (he : ws[p0]? = some (x, .inl (q 1, N, .inr (.inl (f))))) (hN : N < 2147483648) : ctV q yJ7_fill_d0a16 cJ7_fill_d0a16 5 0 0 [.ref x, .long v] ws (fun (_ : Unit) => ws.set p0 (x, .inl (q 1, N, .inr (.inl (fillL f N v))))) (fun _ => True) := by
  refine met_V (by decide) (Nat.le_of_ble_eq_true rfl) (fun Γ g hret => ?_)
  show jw Γ 5 0 0 ws [(0, .ref x), (1, .long v)] [] 0
  refine j_iconst g (v := 0) (by decide) dJ7_fill_d0a16_0 ?_
  refine j_istore_n g (lv' := [(3, .int 0), (0, .ref x), (1, .long v)]) (by decide) rfl dJ7_fill_d0a16_1 ?_
  refine j_aload_n g 1 rfl dJ7_fill_d0a16_2 ?_
  refine j_alen g p0 1 he rfl (v := nI N) rfl dJ7_fill_d0a16_3 ?_
  refine j_istore g (lv' := [(4, .int (nI N)), (3, .int 0), (0, .ref x), (1, .long v)]) (by decide) rfl dJ7_fill_d0a16_4 ?_
  refine j_sub [1, 0, 2, 3] rfl ?_
  have hl := fl_loop_fill_d0a16 (f := f) (v := v) g he hN (fun lv => hret lv 22 () dJ7_fill_d0a16_22 trivial) N 0 (by omega)
  rw [fillL_0, ls_same he, nI_0] at hl
  exact hl
theorem j_fillL {Γ : GT} {cc : ByteArray} {own : String} {nL kc ks : Nat} {rm : Room} {q : Nat → ClassId} {ws : va_W} {lv : List (Nat × Value)} {pc : Nat} (g : gd Γ cc own nL rm q) {index : Nat} (L : clS own index yJ7_fill_d0a16 cJ7_fill_d0a16 5 none 2) (p0 : Nat) {x N : Nat} {f : Nat → Int64} {v : Int64} (he : ws[p0]? = some (x, .inl (q 1, N, .inr (.inl (f))))) (hfr : 0 + 1 ≤ rm.frames) (hlo : 8 + (5 + 11) + 0 ≤ rm.locals) {ws' : va_W} (hw : ws.set p0 (x, .inl (q 1, N, .inr (.inl (fillL f N v)))) = ws') (hN : N < 2147483648) (hd : decode cc pc = .ok (.invokestatic index, 3)) (k : jw Γ nL kc ks ws' lv [] (pc + 3)) (hcells : kc + 0 ≤ rm.cells := by exact Nat.zero_le _) (hslots : ks + 0 ≤ rm.slots := by exact Nat.zero_le _) : jw Γ nL kc ks ws lv [.long v, .ref x] pc := by
  subst hw
  exact j_callSV g (As := [.ref x, .long v]) (st := []) (c_J7_fill_d0a16 he hN) L hfr hlo hcells hslots rfl rfl (Nat.le_of_ble_eq_true rfl) hd (fun _ _ => k)
end
section
def wp_X0_free (i0 : Nat) (kr : Nat → Int32) (kt : Nat → Int32) (K : Int32 → Prop) : Prop :=
  K ((kr i0) - (kt i0))
theorem dX0_free_0 : decode cX0_free 0 = .ok (.aload_n 0, 1) := by decide +kernel
theorem dX0_free_1 : decode cX0_free 1 = .ok (.getfield 19, 3) := by decide +kernel
theorem dX0_free_4 : decode cX0_free 4 = .ok (.aload_n 0, 1) := by decide +kernel
theorem dX0_free_5 : decode cX0_free 5 = .ok (.getfield 22, 3) := by decide +kernel
theorem dX0_free_8 : decode cX0_free 8 = .ok (.isub, 1) := by decide +kernel
theorem dX0_free_9 : decode cX0_free 9 = .ok (.ireturn, 1) := by decide +kernel
set_option maxRecDepth 20000 in
set_option maxHeartbeats 4000000 in
theorem c_X0_free {a : Nat → Nat} {q : Nat → ClassId} {i0 : Nat} (hi0 : i0 < 6) {sz : Int32} {pr : Nat → Int32} {pm : Nat → Nat} {kv : Nat → Int32} {kn : Nat → Int32} {kr : Nat → Int32} {kt : Nat → Int32} {kb : Nat → Int32} {ks : Nat → Int32} {kj : Nat → Int32} {kw : Nat → Int32} {kg : Nat → Int32} {wd : Nat → Nat → Int64} {fw : Nat → Nat → Int32} {ad : Nat → Int32} {bk : Nat → Int32} {md : Int32} {cr : Int32} {ow : Int32} {hd : Int32} {K : Int32 → Prop} (h : wp_X0_free i0 kr kt K) : ctI_0 q yX0_free cX0_free 1 0 0 [.ref (a (11 + i0))] (cgW a q sz pr pm kv kn kr kt kb ks kj kw kg wd fw ad bk md cr ow hd) (cgW a q sz pr pm kv kn kr kt kb ks kj kw kg wd fw ad bk md cr ow hd) K := by
  refine met_I_0 (by decide) (Nat.le_of_ble_eq_true rfl) (fun Γ g hret => ?_)
  unfold wp_X0_free at h
  show jw Γ 1 0 0 (cgW a q sz pr pm kv kn kr kt kb ks kj kw kg wd fw ad bk md cr ow hd) [(0, .ref (a (11 + i0)))] [] 0
  refine j_aload_n g 0 rfl dX0_free_0 ?_
  refine j_get g fl_X0_19 (11 + i0) (cg_K hi0) rfl dX0_free_1 ?_
  refine j_aload_n g 0 rfl dX0_free_4 ?_
  refine j_get g fl_X0_22 (11 + i0) (cg_K hi0) rfl dX0_free_5 ?_
  refine j_isub g dX0_free_8 ?_
  exact hret.go dX0_free_9 h

def wp_X0_gives (i0 : Nat) (kn : Nat → Int32) (ks : Nat → Int32) (K : Int32 → Prop) : Prop :=
  ((¬ kn i0 = 0 → K (0 : Int32)) ∧ (kn i0 = 0 → ((¬ ks i0 = 0 → K (0 : Int32)) ∧ (ks i0 = 0 → K (1 : Int32)))))
theorem dX0_gives_0 : decode cX0_gives 0 = .ok (.aload_n 0, 1) := by decide +kernel
theorem dX0_gives_1 : decode cX0_gives 1 = .ok (.getfield 15, 3) := by decide +kernel
theorem dX0_gives_4 : decode cX0_gives 4 = .ok (.ifCond .ne 14, 3) := by decide +kernel
theorem dX0_gives_7 : decode cX0_gives 7 = .ok (.aload_n 0, 1) := by decide +kernel
theorem dX0_gives_8 : decode cX0_gives 8 = .ok (.getfield 28, 3) := by decide +kernel
theorem dX0_gives_11 : decode cX0_gives 11 = .ok (.ifCond .ne 7, 3) := by decide +kernel
theorem dX0_gives_14 : decode cX0_gives 14 = .ok (.iconst 1, 1) := by decide +kernel
theorem dX0_gives_15 : decode cX0_gives 15 = .ok (.goto 4, 3) := by decide +kernel
theorem dX0_gives_18 : decode cX0_gives 18 = .ok (.iconst 0, 1) := by decide +kernel
theorem dX0_gives_19 : decode cX0_gives 19 = .ok (.ireturn, 1) := by decide +kernel
set_option maxRecDepth 20000 in
set_option maxHeartbeats 4000000 in
theorem c_X0_gives {a : Nat → Nat} {q : Nat → ClassId} {i0 : Nat} (hi0 : i0 < 6) {sz : Int32} {pr : Nat → Int32} {pm : Nat → Nat} {kv : Nat → Int32} {kn : Nat → Int32} {kr : Nat → Int32} {kt : Nat → Int32} {kb : Nat → Int32} {ks : Nat → Int32} {kj : Nat → Int32} {kw : Nat → Int32} {kg : Nat → Int32} {wd : Nat → Nat → Int64} {fw : Nat → Nat → Int32} {ad : Nat → Int32} {bk : Nat → Int32} {md : Int32} {cr : Int32} {ow : Int32} {hd : Int32} {K : Int32 → Prop} (h : wp_X0_gives i0 kn ks K) : ctZ_0 q yX0_gives cX0_gives 1 0 0 [.ref (a (11 + i0))] (cgW a q sz pr pm kv kn kr kt kb ks kj kw kg wd fw ad bk md cr ow hd) (cgW a q sz pr pm kv kn kr kt kb ks kj kw kg wd fw ad bk md cr ow hd) K := by
  refine met_Z_0 (by decide) (Nat.le_of_ble_eq_true rfl) (fun Γ g hret => ?_)
  unfold wp_X0_gives at h
  show jw Γ 1 0 0 (cgW a q sz pr pm kv kn kr kt kb ks kj kw kg wd fw ad bk md cr ow hd) [(0, .ref (a (11 + i0)))] [] 0
  refine j_aload_n g 0 rfl dX0_gives_0 ?_
  refine j_get g fl_X0_15 (11 + i0) (cg_K hi0) rfl dX0_gives_1 ?_
  refine j_if_ne g dX0_gives_4 (tgt := 18) (by decide) (fun c1 => ?_) (fun c1 => ?_)
  · replace h := h.1 c1
    refine j_iconst g (v := 0) (by decide) dX0_gives_18 ?_
    exact hret.go dX0_gives_19 (Or.inl rfl) h
  replace h := h.2 c1
  refine j_aload_n g 0 rfl dX0_gives_7 ?_
  refine j_get g fl_X0_28 (11 + i0) (cg_K hi0) rfl dX0_gives_8 ?_
  refine j_if_ne g dX0_gives_11 (tgt := 18) (by decide) (fun c2 => ?_) (fun c2 => ?_)
  · replace h := h.1 c2
    refine j_iconst g (v := 0) (by decide) dX0_gives_18 ?_
    exact hret.go dX0_gives_19 (Or.inl rfl) h
  replace h := h.2 c2
  refine j_iconst g (v := 1) (by decide) dX0_gives_14 ?_
  refine j_goto g dX0_gives_15 (tgt := 19) (by decide) ?_
  exact hret.go dX0_gives_19 (Or.inr rfl) h

def wp_X0_spare (i0 : Nat) (x1 : Int32) (kn : Nat → Int32) (kt : Nat → Int32) (ks : Nat → Int32) (K : Int32 → Prop) : Prop :=
  wp_X0_gives i0 kn ks (fun (r_1 : Int32)  => ((r_1 = 0 → K (0 : Int32)) ∧ (¬ r_1 = 0 → K (if (0 : Int32) < (kt i0) - x1 then (kt i0) - x1 else (0 : Int32)))))
theorem dX0_spare_0 : decode cX0_spare 0 = .ok (.aload_n 0, 1) := by decide +kernel
theorem dX0_spare_1 : decode cX0_spare 1 = .ok (.invokevirtual 40, 3) := by decide +kernel
theorem dX0_spare_4 : decode cX0_spare 4 = .ok (.ifCond .eq 16, 3) := by decide +kernel
theorem dX0_spare_7 : decode cX0_spare 7 = .ok (.iconst 0, 1) := by decide +kernel
theorem dX0_spare_8 : decode cX0_spare 8 = .ok (.aload_n 0, 1) := by decide +kernel
theorem dX0_spare_9 : decode cX0_spare 9 = .ok (.getfield 22, 3) := by decide +kernel
theorem dX0_spare_12 : decode cX0_spare 12 = .ok (.iload_n 1, 1) := by decide +kernel
theorem dX0_spare_13 : decode cX0_spare 13 = .ok (.isub, 1) := by decide +kernel
theorem dX0_spare_14 : decode cX0_spare 14 = .ok (.invokestatic 44, 3) := by decide +kernel
theorem dX0_spare_17 : decode cX0_spare 17 = .ok (.goto 4, 3) := by decide +kernel
theorem dX0_spare_20 : decode cX0_spare 20 = .ok (.iconst 0, 1) := by decide +kernel
theorem dX0_spare_21 : decode cX0_spare 21 = .ok (.ireturn, 1) := by decide +kernel
set_option maxRecDepth 20000 in
set_option maxHeartbeats 4000000 in
theorem c_X0_spare {a : Nat → Nat} {q : Nat → ClassId} {i0 : Nat} {x1 : Int32} (hi0 : i0 < 6) {sz : Int32} {pr : Nat → Int32} {pm : Nat → Nat} {kv : Nat → Int32} {kn : Nat → Int32} {kr : Nat → Int32} {kt : Nat → Int32} {kb : Nat → Int32} {ks : Nat → Int32} {kj : Nat → Int32} {kw : Nat → Int32} {kg : Nat → Int32} {wd : Nat → Nat → Int64} {fw : Nat → Nat → Int32} {ad : Nat → Int32} {bk : Nat → Int32} {md : Int32} {cr : Int32} {ow : Int32} {hd : Int32} {K : Int32 → Prop} (h : wp_X0_spare i0 x1 kn kt ks K) : ctI_0 q yX0_spare cX0_spare 2 1 21 [.ref (a (11 + i0)), .int x1] (cgW a q sz pr pm kv kn kr kt kb ks kj kw kg wd fw ad bk md cr ow hd) (cgW a q sz pr pm kv kn kr kt kb ks kj kw kg wd fw ad bk md cr ow hd) K := by
  refine met_I_0 (by decide) (Nat.le_of_ble_eq_true rfl) (fun Γ g hret => ?_)
  unfold wp_X0_spare at h
  show jw Γ 2 0 0 (cgW a q sz pr pm kv kn kr kt kb ks kj kw kg wd fw ad bk md cr ow hd) [(0, .ref (a (11 + i0))), (1, .int x1)] [] 0
  refine j_aload_n g 0 rfl dX0_spare_0 ?_
  refine j_callVZ_0 g (As := []) (st := []) (c_X0_gives hi0 h) cl_X0_40 (11 + i0) 0 (cg_K hi0) rfl rfl (Nat.le_of_ble_eq_true rfl) (Nat.le_of_ble_eq_true rfl) (Nat.zero_le _) (Nat.zero_le _) rfl rfl (Nat.le_of_ble_eq_true rfl) dX0_spare_1 (fun r_1  hz_1 h => ?_)
  refine j_if_eq g dX0_spare_4 (tgt := 20) (by decide) (fun c2 => ?_) (fun c2 => ?_)
  · replace h := h.1 c2
    refine j_iconst g (v := 0) (by decide) dX0_spare_20 ?_
    exact hret.go dX0_spare_21 h
  replace h := h.2 c2
  refine j_iconst g (v := 0) (by decide) dX0_spare_7 ?_
  refine j_aload_n g 0 rfl dX0_spare_8 ?_
  refine j_get g fl_X0_22 (11 + i0) (cg_K hi0) rfl dX0_spare_9 ?_
  refine j_iload_n g 1 rfl dX0_spare_12 ?_
  refine j_isub g dX0_spare_13 ?_
  refine j_mmax g lm_X0_44 lm_max_s lm_i lm_max_c (Nat.le_of_ble_eq_true rfl) (Nat.le_of_ble_eq_true rfl) (Nat.zero_le _) (Nat.zero_le _) dX0_spare_14 ?_
  refine j_goto g dX0_spare_17 (tgt := 21) (by decide) ?_
  exact hret.go dX0_spare_21 h

def wp_X0_release (i0 : Nat) (kt : Nat → Int32) (ks : Nat → Int32) (kj : Nat → Int32) (kg : Nat → Int32) (K : Int32 → (Nat → Int32) → (Nat → Int32) → (Nat → Int32) → (Nat → Int32) → Prop) : Prop :=
  ((¬ kj i0 = 0 → jn (fun (Z2 : (Nat → Int32) → Prop) => ((kj i0 ≤ 0 → Z2 kj) ∧ (¬ kj i0 ≤ 0 → Z2 (upd kj i0 ((kj i0) - (1 : Int32)))))) (fun (kj_2 : Nat → Int32) => K (1 : Int32) (upd kt i0 ((kt i0) - (1 : Int32))) ks kj_2 (upd kg i0 ((kg i0) + (1 : Int32))))) ∧ (kj i0 = 0 → K (0 : Int32) kt (upd ks i0 (1 : Int32)) (upd kj i0 (-1 : Int32)) kg))
theorem dX0_release_0 : decode cX0_release 0 = .ok (.aload_n 0, 1) := by decide +kernel
theorem dX0_release_1 : decode cX0_release 1 = .ok (.getfield 31, 3) := by decide +kernel
theorem dX0_release_4 : decode cX0_release 4 = .ok (.ifCond .ne 15, 3) := by decide +kernel
theorem dX0_release_7 : decode cX0_release 7 = .ok (.aload_n 0, 1) := by decide +kernel
theorem dX0_release_8 : decode cX0_release 8 = .ok (.iconst 1, 1) := by decide +kernel
theorem dX0_release_9 : decode cX0_release 9 = .ok (.putfield 28, 3) := by decide +kernel
theorem dX0_release_12 : decode cX0_release 12 = .ok (.aload_n 0, 1) := by decide +kernel
theorem dX0_release_13 : decode cX0_release 13 = .ok (.iconst (-1), 1) := by decide +kernel
theorem dX0_release_14 : decode cX0_release 14 = .ok (.putfield 31, 3) := by decide +kernel
theorem dX0_release_17 : decode cX0_release 17 = .ok (.iconst 0, 1) := by decide +kernel
theorem dX0_release_18 : decode cX0_release 18 = .ok (.ireturn, 1) := by decide +kernel
theorem dX0_release_19 : decode cX0_release 19 = .ok (.aload_n 0, 1) := by decide +kernel
theorem dX0_release_20 : decode cX0_release 20 = .ok (.getfield 31, 3) := by decide +kernel
theorem dX0_release_23 : decode cX0_release 23 = .ok (.ifCond .le 13, 3) := by decide +kernel
theorem dX0_release_26 : decode cX0_release 26 = .ok (.aload_n 0, 1) := by decide +kernel
theorem dX0_release_27 : decode cX0_release 27 = .ok (.dup, 1) := by decide +kernel
theorem dX0_release_28 : decode cX0_release 28 = .ok (.getfield 31, 3) := by decide +kernel
theorem dX0_release_31 : decode cX0_release 31 = .ok (.iconst 1, 1) := by decide +kernel
theorem dX0_release_32 : decode cX0_release 32 = .ok (.isub, 1) := by decide +kernel
theorem dX0_release_33 : decode cX0_release 33 = .ok (.putfield 31, 3) := by decide +kernel
theorem dX0_release_36 : decode cX0_release 36 = .ok (.aload_n 0, 1) := by decide +kernel
theorem dX0_release_37 : decode cX0_release 37 = .ok (.dup, 1) := by decide +kernel
theorem dX0_release_38 : decode cX0_release 38 = .ok (.getfield 22, 3) := by decide +kernel
theorem dX0_release_41 : decode cX0_release 41 = .ok (.iconst 1, 1) := by decide +kernel
theorem dX0_release_42 : decode cX0_release 42 = .ok (.isub, 1) := by decide +kernel
theorem dX0_release_43 : decode cX0_release 43 = .ok (.putfield 22, 3) := by decide +kernel
theorem dX0_release_46 : decode cX0_release 46 = .ok (.aload_n 0, 1) := by decide +kernel
theorem dX0_release_47 : decode cX0_release 47 = .ok (.dup, 1) := by decide +kernel
theorem dX0_release_48 : decode cX0_release 48 = .ok (.getfield 37, 3) := by decide +kernel
theorem dX0_release_51 : decode cX0_release 51 = .ok (.iconst 1, 1) := by decide +kernel
theorem dX0_release_52 : decode cX0_release 52 = .ok (.iadd, 1) := by decide +kernel
theorem dX0_release_53 : decode cX0_release 53 = .ok (.putfield 37, 3) := by decide +kernel
theorem dX0_release_56 : decode cX0_release 56 = .ok (.iconst 1, 1) := by decide +kernel
theorem dX0_release_57 : decode cX0_release 57 = .ok (.ireturn, 1) := by decide +kernel
set_option maxRecDepth 20000 in
set_option maxHeartbeats 4000000 in
theorem c_X0_release {a : Nat → Nat} {q : Nat → ClassId} {i0 : Nat} (hi0 : i0 < 6) {sz : Int32} {pr : Nat → Int32} {pm : Nat → Nat} {kv : Nat → Int32} {kn : Nat → Int32} {kr : Nat → Int32} {kt : Nat → Int32} {kb : Nat → Int32} {ks : Nat → Int32} {kj : Nat → Int32} {kw : Nat → Int32} {kg : Nat → Int32} {wd : Nat → Nat → Int64} {fw : Nat → Nat → Int32} {ad : Nat → Int32} {bk : Nat → Int32} {md : Int32} {cr : Int32} {ow : Int32} {hd : Int32} {K : Int32 → (Nat → Int32) → (Nat → Int32) → (Nat → Int32) → (Nat → Int32) → Prop} (h : wp_X0_release i0 kt ks kj kg K) : ctZ_4 q yX0_release cX0_release 1 0 0 [.ref (a (11 + i0))] (cgW a q sz pr pm kv kn kr kt kb ks kj kw kg wd fw ad bk md cr ow hd) (fun (kt : Nat → Int32) (ks : Nat → Int32) (kj : Nat → Int32) (kg : Nat → Int32) => (cgW a q sz pr pm kv kn kr kt kb ks kj kw kg wd fw ad bk md cr ow hd)) K := by
  refine met_Z_4 (by decide) (Nat.le_of_ble_eq_true rfl) (fun Γ g hret => ?_)
  unfold wp_X0_release at h
  show jw Γ 1 0 0 (cgW a q sz pr pm kv kn kr kt kb ks kj kw kg wd fw ad bk md cr ow hd) [(0, .ref (a (11 + i0)))] [] 0
  refine j_aload_n g 0 rfl dX0_release_0 ?_
  refine j_get g fl_X0_31 (11 + i0) (cg_K hi0) rfl dX0_release_1 ?_
  refine j_if_ne g dX0_release_4 (tgt := 19) (by decide) (fun c1 => ?_) (fun c1 => ?_)
  rotate_left
  · replace h := h.2 c1
    refine j_aload_n g 0 rfl dX0_release_7 ?_
    refine j_iconst g (v := 1) (by decide) dX0_release_8 ?_
    refine j_put g fl_X0_28 fp_X0_5 (11 + i0) (cg_K hi0) (nz_z (Or.inr rfl)) (nz_f (Or.inr rfl)) (Nat.le_of_ble_eq_true rfl) (ws' := (cgW a q sz pr pm kv kn kr kt kb (upd ks i0 (1 : Int32)) kj kw kg wd fw ad bk md cr ow hd)) (cg_s_ks hi0) dX0_release_9 ?_
    refine j_aload_n g 0 rfl dX0_release_12 ?_
    refine j_iconst g (v := -1) (by decide) dX0_release_13 ?_
    refine j_put g fl_X0_31 fp_X0_6 (11 + i0) (cg_K hi0) rfl rfl (Nat.le_of_ble_eq_true rfl) (ws' := (cgW a q sz pr pm kv kn kr kt kb (upd ks i0 (1 : Int32)) (upd kj i0 (-1 : Int32)) kw kg wd fw ad bk md cr ow hd)) (cg_s_kj hi0) dX0_release_14 ?_
    refine j_iconst g (v := 0) (by decide) dX0_release_17 ?_
    exact hret.go dX0_release_18 (Or.inl rfl) h
  replace h := h.1 c1
  refine j_aload_n g 0 rfl dX0_release_19 ?_
  refine j_get g fl_X0_31 (11 + i0) (cg_K hi0) rfl dX0_release_20 ?_
  refine jn_cut h (fun Z2 eZ2 h => ?_)
  have hZ2 : ∀ (kj_2 : Nat → Int32), Z2 kj_2 → jw Γ 1 0 0 (cgW a q sz pr pm kv kn kr kt kb ks kj_2 kw kg wd fw ad bk md cr ow hd) [(0, .ref (a (11 + i0)))] [] 36 := by
    intro kj_2 h
    rw [eZ2] at h
    refine j_aload_n g 0 rfl dX0_release_36 ?_
    refine j_dup g rfl dX0_release_37 ?_
    refine j_get g fl_X0_22 (11 + i0) (cg_K hi0) rfl dX0_release_38 ?_
    refine j_iconst g (v := 1) (by decide) dX0_release_41 ?_
    refine j_isub g dX0_release_42 ?_
    refine j_put g fl_X0_22 fp_X0_3 (11 + i0) (cg_K hi0) rfl rfl (Nat.le_of_ble_eq_true rfl) (ws' := (cgW a q sz pr pm kv kn kr (upd kt i0 ((kt i0) - (1 : Int32))) kb ks kj_2 kw kg wd fw ad bk md cr ow hd)) (cg_s_kt hi0) dX0_release_43 ?_
    refine j_aload_n g 0 rfl dX0_release_46 ?_
    refine j_dup g rfl dX0_release_47 ?_
    refine j_get g fl_X0_37 (11 + i0) (cg_K hi0) rfl dX0_release_48 ?_
    refine j_iconst g (v := 1) (by decide) dX0_release_51 ?_
    refine j_iadd g dX0_release_52 ?_
    refine j_put g fl_X0_37 fp_X0_8 (11 + i0) (cg_K hi0) rfl rfl (Nat.le_of_ble_eq_true rfl) (ws' := (cgW a q sz pr pm kv kn kr (upd kt i0 ((kt i0) - (1 : Int32))) kb ks kj_2 kw (upd kg i0 ((kg i0) + (1 : Int32))) wd fw ad bk md cr ow hd)) (cg_s_kg hi0) dX0_release_53 ?_
    refine j_iconst g (v := 1) (by decide) dX0_release_56 ?_
    exact hret.go dX0_release_57 (Or.inr rfl) h
  refine j_if_le g dX0_release_23 (tgt := 36) (by decide) (fun c3 => ?_) (fun c3 => ?_)
  · replace h := h.1 c3
    exact hZ2 kj h
  replace h := h.2 c3
  refine j_aload_n g 0 rfl dX0_release_26 ?_
  refine j_dup g rfl dX0_release_27 ?_
  refine j_get g fl_X0_31 (11 + i0) (cg_K hi0) rfl dX0_release_28 ?_
  refine j_iconst g (v := 1) (by decide) dX0_release_31 ?_
  refine j_isub g dX0_release_32 ?_
  refine j_put g fl_X0_31 fp_X0_6 (11 + i0) (cg_K hi0) rfl rfl (Nat.le_of_ble_eq_true rfl) (ws' := (cgW a q sz pr pm kv kn kr kt kb ks (upd kj i0 ((kj i0) - (1 : Int32))) kw kg wd fw ad bk md cr ow hd)) (cg_s_kj hi0) dX0_release_33 ?_
  exact hZ2 (upd kj i0 ((kj i0) - (1 : Int32))) h
end
section
def wp_X2_onlyZero (j0 : Nat) (wd : Nat → Nat → Int64) (K : (Nat → Nat → Int64) → Prop) : Prop :=
  (vp_in (0 : Int32) 16 ∧ K (va_up (va_up wd j0 (fillL (wd j0) 16 (0 : Int64))) j0 (vp_updL ((va_up wd j0 (fillL (wd j0) 16 (0 : Int64))) j0) (0 : Int32).toNatClampNeg (1 : Int64))))
theorem dX2_onlyZero_0 : decode cX2_onlyZero 0 = .ok (.aload_n 0, 1) := by decide +kernel
theorem dX2_onlyZero_1 : decode cX2_onlyZero 1 = .ok (.getfield 11, 3) := by decide +kernel
theorem dX2_onlyZero_4 : decode cX2_onlyZero 4 = .ok (.lconst 0, 1) := by decide +kernel
theorem dX2_onlyZero_5 : decode cX2_onlyZero 5 = .ok (.invokestatic 15, 3) := by decide +kernel
theorem dX2_onlyZero_8 : decode cX2_onlyZero 8 = .ok (.aload_n 0, 1) := by decide +kernel
theorem dX2_onlyZero_9 : decode cX2_onlyZero 9 = .ok (.getfield 11, 3) := by decide +kernel
theorem dX2_onlyZero_12 : decode cX2_onlyZero 12 = .ok (.iconst 0, 1) := by decide +kernel
theorem dX2_onlyZero_13 : decode cX2_onlyZero 13 = .ok (.lconst 1, 1) := by decide +kernel
theorem dX2_onlyZero_14 : decode cX2_onlyZero 14 = .ok (.lastore, 1) := by decide +kernel
theorem dX2_onlyZero_15 : decode cX2_onlyZero 15 = .ok (.return_, 1) := by decide +kernel
set_option maxRecDepth 20000 in
set_option maxHeartbeats 4000000 in
theorem c_X2_onlyZero {a : Nat → Nat} {q : Nat → ClassId} {j0 : Nat} (hj0 : j0 < 6) {sz : Int32} {pr : Nat → Int32} {pm : Nat → Nat} {kv : Nat → Int32} {kn : Nat → Int32} {kr : Nat → Int32} {kt : Nat → Int32} {kb : Nat → Int32} {ks : Nat → Int32} {kj : Nat → Int32} {kw : Nat → Int32} {kg : Nat → Int32} {wd : Nat → Nat → Int64} {fw : Nat → Nat → Int32} {ad : Nat → Int32} {bk : Nat → Int32} {md : Int32} {cr : Int32} {ow : Int32} {hd : Int32} {K : (Nat → Nat → Int64) → Prop} (h : wp_X2_onlyZero j0 wd K) : ctV_1 q yX2_onlyZero cX2_onlyZero 1 1 24 [.ref (a (17 + j0))] (cgW a q sz pr pm kv kn kr kt kb ks kj kw kg wd fw ad bk md cr ow hd) (fun (wd : Nat → Nat → Int64) => (cgW a q sz pr pm kv kn kr kt kb ks kj kw kg wd fw ad bk md cr ow hd)) K := by
  refine met_V_1 (by decide) (Nat.le_of_ble_eq_true rfl) (fun Γ g hret => ?_)
  unfold wp_X2_onlyZero at h
  show jw Γ 1 0 0 (cgW a q sz pr pm kv kn kr kt kb ks kj kw kg wd fw ad bk md cr ow hd) [(0, .ref (a (17 + j0)))] [] 0
  refine j_aload_n g 0 rfl dX2_onlyZero_0 ?_
  refine j_get g fl_X2_11 (17 + j0) (cg_S hj0) rfl dX2_onlyZero_1 ?_
  refine j_lconst g (v := 0) (by decide) dX2_onlyZero_4 ?_
  refine j_fillL g cl_X2_15 (23 + j0) (cg_w hj0) (Nat.le_of_ble_eq_true rfl) (Nat.le_of_ble_eq_true rfl) (ws' := (cgW a q sz pr pm kv kn kr kt kb ks kj kw kg (va_up wd j0 (fillL (wd j0) 16 (0 : Int64))) fw ad bk md cr ow hd)) (cg_s_w hj0) (Nat.le_of_ble_eq_true rfl) dX2_onlyZero_5 ?_
  refine j_aload_n g 0 rfl dX2_onlyZero_8 ?_
  refine j_get g fl_X2_11 (17 + j0) (cg_S hj0) rfl dX2_onlyZero_9 ?_
  refine j_iconst g (v := 0) (by decide) dX2_onlyZero_12 ?_
  refine j_lconst g (v := 1) (by decide) dX2_onlyZero_13 ?_
  obtain ⟨hv1, h⟩ := h
  refine j_last g (23 + j0) (cg_w hj0) hv1 (ws' := (cgW a q sz pr pm kv kn kr kt kb ks kj kw kg (va_up (va_up wd j0 (fillL (wd j0) 16 (0 : Int64))) j0 (vp_updL ((va_up wd j0 (fillL (wd j0) 16 (0 : Int64))) j0) (0 : Int32).toNatClampNeg (1 : Int64))) fw ad bk md cr ow hd)) (cg_s_w hj0) dX2_onlyZero_14 ?_
  exact hret.go dX2_onlyZero_15 h

def wp_X2_copyOf (j0 : Nat) (j1 : Nat) (wd : Nat → Nat → Int64) (K : (Nat → Nat → Int64) → Prop) : Prop :=
  (ac_ok (0 : Int32) (0 : Int32) (16 : Int32) 16 ∧ K (va_up wd j0 (va_cpy (wd j1) (wd j0) (0 : Int32).toNatClampNeg (0 : Int32).toNatClampNeg (16 : Int32).toNatClampNeg)))
theorem dX2_copyOf_0 : decode cX2_copyOf 0 = .ok (.aload_n 1, 1) := by decide +kernel
theorem dX2_copyOf_1 : decode cX2_copyOf 1 = .ok (.getfield 11, 3) := by decide +kernel
theorem dX2_copyOf_4 : decode cX2_copyOf 4 = .ok (.iconst 0, 1) := by decide +kernel
theorem dX2_copyOf_5 : decode cX2_copyOf 5 = .ok (.aload_n 0, 1) := by decide +kernel
theorem dX2_copyOf_6 : decode cX2_copyOf 6 = .ok (.getfield 11, 3) := by decide +kernel
theorem dX2_copyOf_9 : decode cX2_copyOf 9 = .ok (.iconst 0, 1) := by decide +kernel
theorem dX2_copyOf_10 : decode cX2_copyOf 10 = .ok (.bipush 16, 2) := by decide +kernel
theorem dX2_copyOf_12 : decode cX2_copyOf 12 = .ok (.invokestatic 21, 3) := by decide +kernel
theorem dX2_copyOf_15 : decode cX2_copyOf 15 = .ok (.return_, 1) := by decide +kernel
set_option maxRecDepth 20000 in
set_option maxHeartbeats 4000000 in
theorem c_X2_copyOf {a : Nat → Nat} {q : Nat → ClassId} {j0 : Nat} {j1 : Nat} (hj0 : j0 < 6) (hj1 : j1 < 6) {sz : Int32} {pr : Nat → Int32} {pm : Nat → Nat} {kv : Nat → Int32} {kn : Nat → Int32} {kr : Nat → Int32} {kt : Nat → Int32} {kb : Nat → Int32} {ks : Nat → Int32} {kj : Nat → Int32} {kw : Nat → Int32} {kg : Nat → Int32} {wd : Nat → Nat → Int64} {fw : Nat → Nat → Int32} {ad : Nat → Int32} {bk : Nat → Int32} {md : Int32} {cr : Int32} {ow : Int32} {hd : Int32} {K : (Nat → Nat → Int64) → Prop} (h : wp_X2_copyOf j0 j1 wd K) : ctV_1 q yX2_copyOf cX2_copyOf 2 1 60 [.ref (a (17 + j0)), .ref (a (17 + j1))] (cgW a q sz pr pm kv kn kr kt kb ks kj kw kg wd fw ad bk md cr ow hd) (fun (wd : Nat → Nat → Int64) => (cgW a q sz pr pm kv kn kr kt kb ks kj kw kg wd fw ad bk md cr ow hd)) K := by
  refine met_V_1 (by decide) (Nat.le_of_ble_eq_true rfl) (fun Γ g hret => ?_)
  unfold wp_X2_copyOf at h
  show jw Γ 2 0 0 (cgW a q sz pr pm kv kn kr kt kb ks kj kw kg wd fw ad bk md cr ow hd) [(0, .ref (a (17 + j0))), (1, .ref (a (17 + j1)))] [] 0
  refine j_aload_n g 1 rfl dX2_copyOf_0 ?_
  refine j_get g fl_X2_11 (17 + j1) (cg_S hj1) rfl dX2_copyOf_1 ?_
  refine j_iconst g (v := 0) (by decide) dX2_copyOf_4 ?_
  refine j_aload_n g 0 rfl dX2_copyOf_5 ?_
  refine j_get g fl_X2_11 (17 + j0) (cg_S hj0) rfl dX2_copyOf_6 ?_
  refine j_iconst g (v := 0) (by decide) dX2_copyOf_9 ?_
  refine j_bipush g (v := 16) (by decide) dX2_copyOf_10 ?_
  obtain ⟨hc1, h⟩ := h
  refine j_copyl g lm_X2_21 (23 + j1) (23 + j0) (cg_w hj1) (cg_w hj0) hc1 (Nat.le_of_ble_eq_true rfl) (Nat.le_of_ble_eq_true rfl) (ws' := (cgW a q sz pr pm kv kn kr kt kb ks kj kw kg (va_up wd j0 (va_cpy (wd j1) (wd j0) (0 : Int32).toNatClampNeg (0 : Int32).toNatClampNeg (16 : Int32).toNatClampNeg)) fw ad bk md cr ow hd)) (cg_s_w hj0) dX2_copyOf_12 ?_
  exact hret.go dX2_copyOf_15 h

def wp_X2_addShifted_19 (i0 : Nat) (x2 : Int32) (x3 : Int32)  (K : (Nat → Nat → Int64) → Prop) (X : (Nat → Nat → Int64) → Prop) : Nat → Int32 → (Nat → Nat → Int64) → Prop
  | 0, _, _ => False
  | n + 1, x4, wd => ((x4 < x2 → X wd) ∧ (¬ x4 < x2 → (vp_in (x4 - x2) 16 ∧ jn (fun (Z3 : Int64 → Prop) => ((x3 ≤ 0 → Z3 ((wd i0 (x4 - x2).toNatClampNeg) <<< (x3.toInt64 &&& 63))) ∧ (¬ x3 ≤ 0 → ((x4 ≤ x2 → Z3 ((wd i0 (x4 - x2).toNatClampNeg) <<< (x3.toInt64 &&& 63))) ∧ (¬ x4 ≤ x2 → (vp_in ((x4 - x2) - (1 : Int32)) 16 ∧ Z3 (((wd i0 (x4 - x2).toNatClampNeg) <<< (x3.toInt64 &&& 63)) ||| (((wd i0 ((x4 - x2) - (1 : Int32)).toNatClampNeg).toUInt64 >>> (((64 : Int32) - x3).toInt64.toUInt64 &&& Int64.toUInt64 63)).toInt64)))))))) (fun (y5_3 : Int64) => (vp_in x4 16 ∧ (vp_in x4 16 ∧ wp_X2_addShifted_19 i0 x2 x3 K X n (x4 + (-1 : Int32)) (va_up wd i0 (vp_updL (wd i0) x4.toNatClampNeg ((wd i0 x4.toNatClampNeg) ||| y5_3)))))))))
def wp_X2_addShifted (j0 : Nat) (x1 : Int32) (wd : Nat → Nat → Int64) (K : (Nat → Nat → Int64) → Prop) : Prop :=
  ((0 < x1 → ∃ n : Nat, wp_X2_addShifted_19 j0 (x1 / (64 : Int32)) (x1 - x1 / (64 : Int32) * (64 : Int32)) K (fun (wd_2 : Nat → Nat → Int64) => K wd_2) n (15 : Int32) wd) ∧ (¬ 0 < x1 → K wd))
theorem dX2_addShifted_0 : decode cX2_addShifted 0 = .ok (.iload_n 1, 1) := by decide +kernel
theorem dX2_addShifted_1 : decode cX2_addShifted 1 = .ok (.ifCond .gt 4, 3) := by decide +kernel
theorem dX2_addShifted_4 : decode cX2_addShifted 4 = .ok (.return_, 1) := by decide +kernel
theorem dX2_addShifted_5 : decode cX2_addShifted 5 = .ok (.iload_n 1, 1) := by decide +kernel
theorem dX2_addShifted_6 : decode cX2_addShifted 6 = .ok (.bipush 64, 2) := by decide +kernel
theorem dX2_addShifted_8 : decode cX2_addShifted 8 = .ok (.idiv, 1) := by decide +kernel
theorem dX2_addShifted_9 : decode cX2_addShifted 9 = .ok (.istore_n 2, 1) := by decide +kernel
theorem dX2_addShifted_10 : decode cX2_addShifted 10 = .ok (.iload_n 1, 1) := by decide +kernel
theorem dX2_addShifted_11 : decode cX2_addShifted 11 = .ok (.bipush 64, 2) := by decide +kernel
theorem dX2_addShifted_13 : decode cX2_addShifted 13 = .ok (.irem, 1) := by decide +kernel
theorem dX2_addShifted_14 : decode cX2_addShifted 14 = .ok (.istore_n 3, 1) := by decide +kernel
theorem dX2_addShifted_15 : decode cX2_addShifted 15 = .ok (.bipush 15, 2) := by decide +kernel
theorem dX2_addShifted_17 : decode cX2_addShifted 17 = .ok (.istore 4, 2) := by decide +kernel
theorem dX2_addShifted_19 : decode cX2_addShifted 19 = .ok (.iload 4, 2) := by decide +kernel
theorem dX2_addShifted_21 : decode cX2_addShifted 21 = .ok (.iload_n 2, 1) := by decide +kernel
theorem dX2_addShifted_22 : decode cX2_addShifted 22 = .ok (.if_icmp .lt 65, 3) := by decide +kernel
theorem dX2_addShifted_25 : decode cX2_addShifted 25 = .ok (.aload_n 0, 1) := by decide +kernel
theorem dX2_addShifted_26 : decode cX2_addShifted 26 = .ok (.getfield 11, 3) := by decide +kernel
theorem dX2_addShifted_29 : decode cX2_addShifted 29 = .ok (.iload 4, 2) := by decide +kernel
theorem dX2_addShifted_31 : decode cX2_addShifted 31 = .ok (.iload_n 2, 1) := by decide +kernel
theorem dX2_addShifted_32 : decode cX2_addShifted 32 = .ok (.isub, 1) := by decide +kernel
theorem dX2_addShifted_33 : decode cX2_addShifted 33 = .ok (.laload, 1) := by decide +kernel
theorem dX2_addShifted_34 : decode cX2_addShifted 34 = .ok (.iload_n 3, 1) := by decide +kernel
theorem dX2_addShifted_35 : decode cX2_addShifted 35 = .ok (.lshl, 1) := by decide +kernel
theorem dX2_addShifted_36 : decode cX2_addShifted 36 = .ok (.lstore 5, 2) := by decide +kernel
theorem dX2_addShifted_38 : decode cX2_addShifted 38 = .ok (.iload_n 3, 1) := by decide +kernel
theorem dX2_addShifted_39 : decode cX2_addShifted 39 = .ok (.ifCond .le 30, 3) := by decide +kernel
theorem dX2_addShifted_42 : decode cX2_addShifted 42 = .ok (.iload 4, 2) := by decide +kernel
theorem dX2_addShifted_44 : decode cX2_addShifted 44 = .ok (.iload_n 2, 1) := by decide +kernel
theorem dX2_addShifted_45 : decode cX2_addShifted 45 = .ok (.if_icmp .le 24, 3) := by decide +kernel
theorem dX2_addShifted_48 : decode cX2_addShifted 48 = .ok (.lload 5, 2) := by decide +kernel
theorem dX2_addShifted_50 : decode cX2_addShifted 50 = .ok (.aload_n 0, 1) := by decide +kernel
theorem dX2_addShifted_51 : decode cX2_addShifted 51 = .ok (.getfield 11, 3) := by decide +kernel
theorem dX2_addShifted_54 : decode cX2_addShifted 54 = .ok (.iload 4, 2) := by decide +kernel
theorem dX2_addShifted_56 : decode cX2_addShifted 56 = .ok (.iload_n 2, 1) := by decide +kernel
theorem dX2_addShifted_57 : decode cX2_addShifted 57 = .ok (.isub, 1) := by decide +kernel
theorem dX2_addShifted_58 : decode cX2_addShifted 58 = .ok (.iconst 1, 1) := by decide +kernel
theorem dX2_addShifted_59 : decode cX2_addShifted 59 = .ok (.isub, 1) := by decide +kernel
theorem dX2_addShifted_60 : decode cX2_addShifted 60 = .ok (.laload, 1) := by decide +kernel
theorem dX2_addShifted_61 : decode cX2_addShifted 61 = .ok (.bipush 64, 2) := by decide +kernel
theorem dX2_addShifted_63 : decode cX2_addShifted 63 = .ok (.iload_n 3, 1) := by decide +kernel
theorem dX2_addShifted_64 : decode cX2_addShifted 64 = .ok (.isub, 1) := by decide +kernel
theorem dX2_addShifted_65 : decode cX2_addShifted 65 = .ok (.lushr, 1) := by decide +kernel
theorem dX2_addShifted_66 : decode cX2_addShifted 66 = .ok (.lor, 1) := by decide +kernel
theorem dX2_addShifted_67 : decode cX2_addShifted 67 = .ok (.lstore 5, 2) := by decide +kernel
theorem dX2_addShifted_69 : decode cX2_addShifted 69 = .ok (.aload_n 0, 1) := by decide +kernel
theorem dX2_addShifted_70 : decode cX2_addShifted 70 = .ok (.getfield 11, 3) := by decide +kernel
theorem dX2_addShifted_73 : decode cX2_addShifted 73 = .ok (.iload 4, 2) := by decide +kernel
theorem dX2_addShifted_75 : decode cX2_addShifted 75 = .ok (.dup2, 1) := by decide +kernel
theorem dX2_addShifted_76 : decode cX2_addShifted 76 = .ok (.laload, 1) := by decide +kernel
theorem dX2_addShifted_77 : decode cX2_addShifted 77 = .ok (.lload 5, 2) := by decide +kernel
theorem dX2_addShifted_79 : decode cX2_addShifted 79 = .ok (.lor, 1) := by decide +kernel
theorem dX2_addShifted_80 : decode cX2_addShifted 80 = .ok (.lastore, 1) := by decide +kernel
theorem dX2_addShifted_81 : decode cX2_addShifted 81 = .ok (.iinc 4 (-1), 3) := by decide +kernel
theorem dX2_addShifted_84 : decode cX2_addShifted 84 = .ok (.goto (-65), 3) := by decide +kernel
theorem dX2_addShifted_87 : decode cX2_addShifted 87 = .ok (.return_, 1) := by decide +kernel
set_option maxRecDepth 20000 in
set_option maxHeartbeats 4000000 in
theorem wk_X2_addShifted_19 {Γ : GT} {a : Nat → Nat} {q : Nat → ClassId} {i0 : Nat} {x2 : Int32} {x3 : Int32} (hi0 : i0 < 6) {sz : Int32} {pr : Nat → Int32} {pm : Nat → Nat} {kv : Nat → Int32} {kn : Nat → Int32} {kr : Nat → Int32} {kt : Nat → Int32} {kb : Nat → Int32} {ks : Nat → Int32} {kj : Nat → Int32} {kw : Nat → Int32} {kg : Nat → Int32} {fw : Nat → Nat → Int32} {ad : Nat → Int32} {bk : Nat → Int32} {md : Int32} {cr : Int32} {ow : Int32} {hd : Int32} {K : (Nat → Nat → Int64) → Prop} {X : (Nat → Nat → Int64) → Prop} (g : gd Γ cX2_addShifted RX2 7 (rmz 0 0) q) (hret : rtV_1 Γ cX2_addShifted 7 (fun (wd : Nat → Nat → Int64) => (cgW a q sz pr pm kv kn kr kt kb ks kj kw kg wd fw ad bk md cr ow hd)) K) (hX : ∀ (wd : Nat → Nat → Int64) , X wd → jw Γ 7 0 0 (cgW a q sz pr pm kv kn kr kt kb ks kj kw kg wd fw ad bk md cr ow hd) [] [] 87) :
    ∀ (n : Nat) (x4 : Int32) (wd : Nat → Nat → Int64) , wp_X2_addShifted_19 i0 x2 x3 K X n x4 wd → jw Γ 7 0 0 (cgW a q sz pr pm kv kn kr kt kb ks kj kw kg wd fw ad bk md cr ow hd) [(0, .ref (a (17 + i0))), (2, .int x2), (3, .int x3), (4, .int x4)] [] 19 := by
  intro n
  induction n with
  | zero =>
    intro _ _ h
    exact False.elim h
  | succ n ih =>
    intro x4 wd h
    unfold wp_X2_addShifted_19 at h
    refine j_iload g 3 rfl dX2_addShifted_19 ?_
    refine j_iload_n g 1 rfl dX2_addShifted_21 ?_
    refine j_icmp_lt g dX2_addShifted_22 (tgt := 87) (by decide) (fun c1 => ?_) (fun c1 => ?_)
    · replace h := h.1 c1
      refine j_sub [] rfl ?_
      exact hX wd h
    replace h := h.2 c1
    refine j_aload_n g 0 rfl dX2_addShifted_25 ?_
    refine j_get g fl_X2_11 (17 + i0) (cg_S hi0) rfl dX2_addShifted_26 ?_
    refine j_iload g 3 rfl dX2_addShifted_29 ?_
    refine j_iload_n g 1 rfl dX2_addShifted_31 ?_
    refine j_isub g dX2_addShifted_32 ?_
    obtain ⟨hv2, h⟩ := h
    refine j_lald g (23 + i0) (cg_w hi0) hv2 dX2_addShifted_33 ?_
    refine j_iload_n g 2 rfl dX2_addShifted_34 ?_
    refine j_lshl g dX2_addShifted_35 ?_
    refine j_lstore g (lv' := [(5, .long ((wd i0 (x4 - x2).toNatClampNeg) <<< (x3.toInt64 &&& 63))), (0, .ref (a (17 + i0))), (2, .int x2), (3, .int x3), (4, .int x4)]) (by decide) rfl dX2_addShifted_36 ?_
    refine j_iload_n g 3 rfl dX2_addShifted_38 ?_
    refine jn_cut h (fun Z3 eZ3 h => ?_)
    have hZ3 : ∀ (y5_3 : Int64), Z3 y5_3 → jw Γ 7 0 0 (cgW a q sz pr pm kv kn kr kt kb ks kj kw kg wd fw ad bk md cr ow hd) [(0, .ref (a (17 + i0))), (2, .int x2), (3, .int x3), (4, .int x4), (5, .long y5_3)] [] 69 := by
      intro y5_3 h
      rw [eZ3] at h
      refine j_aload_n g 0 rfl dX2_addShifted_69 ?_
      refine j_get g fl_X2_11 (17 + i0) (cg_S hi0) rfl dX2_addShifted_70 ?_
      refine j_iload g 3 rfl dX2_addShifted_73 ?_
      refine j_dup2 g rfl rfl dX2_addShifted_75 ?_
      obtain ⟨hv4, h⟩ := h
      refine j_lald g (23 + i0) (cg_w hi0) hv4 dX2_addShifted_76 ?_
      refine j_lload g 4 rfl dX2_addShifted_77 ?_
      refine j_lor g dX2_addShifted_79 ?_
      obtain ⟨hv5, h⟩ := h
      refine j_last g (23 + i0) (cg_w hi0) hv5 (ws' := (cgW a q sz pr pm kv kn kr kt kb ks kj kw kg (va_up wd i0 (vp_updL (wd i0) x4.toNatClampNeg ((wd i0 x4.toNatClampNeg) ||| y5_3))) fw ad bk md cr ow hd)) (cg_s_w hi0) dX2_addShifted_80 ?_
      refine j_iinc g 3 (n := -1) (v := x4 + (-1 : Int32)) (lv' := [(4, .int (x4 + (-1 : Int32))), (0, .ref (a (17 + i0))), (2, .int x2), (3, .int x3), (5, .long y5_3)]) rfl rfl (by decide) rfl dX2_addShifted_81 ?_
      refine j_goto g dX2_addShifted_84 (tgt := 19) (by decide) ?_
      refine j_sub [1, 2, 3, 0] rfl ?_
      exact ih (x4 + (-1 : Int32)) (va_up wd i0 (vp_updL (wd i0) x4.toNatClampNeg ((wd i0 x4.toNatClampNeg) ||| y5_3))) h
    refine j_if_le g dX2_addShifted_39 (tgt := 69) (by decide) (fun c6 => ?_) (fun c6 => ?_)
    · replace h := h.1 c6
      refine j_sub [1, 2, 3, 4, 0] rfl ?_
      exact hZ3 ((wd i0 (x4 - x2).toNatClampNeg) <<< (x3.toInt64 &&& 63)) h
    replace h := h.2 c6
    refine j_iload g 4 rfl dX2_addShifted_42 ?_
    refine j_iload_n g 2 rfl dX2_addShifted_44 ?_
    refine j_icmp_le g dX2_addShifted_45 (tgt := 69) (by decide) (fun c7 => ?_) (fun c7 => ?_)
    · replace h := h.1 c7
      refine j_sub [1, 2, 3, 4, 0] rfl ?_
      exact hZ3 ((wd i0 (x4 - x2).toNatClampNeg) <<< (x3.toInt64 &&& 63)) h
    replace h := h.2 c7
    refine j_lload g 0 rfl dX2_addShifted_48 ?_
    refine j_aload_n g 1 rfl dX2_addShifted_50 ?_
    refine j_get g fl_X2_11 (17 + i0) (cg_S hi0) rfl dX2_addShifted_51 ?_
    refine j_iload g 4 rfl dX2_addShifted_54 ?_
    refine j_iload_n g 2 rfl dX2_addShifted_56 ?_
    refine j_isub g dX2_addShifted_57 ?_
    refine j_iconst g (v := 1) (by decide) dX2_addShifted_58 ?_
    refine j_isub g dX2_addShifted_59 ?_
    obtain ⟨hv8, h⟩ := h
    refine j_lald g (23 + i0) (cg_w hi0) hv8 dX2_addShifted_60 ?_
    refine j_bipush g (v := 64) (by decide) dX2_addShifted_61 ?_
    refine j_iload_n g 3 rfl dX2_addShifted_63 ?_
    refine j_isub g dX2_addShifted_64 ?_
    refine j_lushr g dX2_addShifted_65 ?_
    refine j_lor g dX2_addShifted_66 ?_
    refine j_lstore g (lv' := [(5, .long (((wd i0 (x4 - x2).toNatClampNeg) <<< (x3.toInt64 &&& 63)) ||| (((wd i0 ((x4 - x2) - (1 : Int32)).toNatClampNeg).toUInt64 >>> (((64 : Int32) - x3).toInt64.toUInt64 &&& Int64.toUInt64 63)).toInt64))), (0, .ref (a (17 + i0))), (2, .int x2), (3, .int x3), (4, .int x4)]) (by decide) rfl dX2_addShifted_67 ?_
    refine j_sub [1, 2, 3, 4, 0] rfl ?_
    exact hZ3 (((wd i0 (x4 - x2).toNatClampNeg) <<< (x3.toInt64 &&& 63)) ||| (((wd i0 ((x4 - x2) - (1 : Int32)).toNatClampNeg).toUInt64 >>> (((64 : Int32) - x3).toInt64.toUInt64 &&& Int64.toUInt64 63)).toInt64)) h
set_option maxRecDepth 20000 in
set_option maxHeartbeats 4000000 in
theorem c_X2_addShifted {a : Nat → Nat} {q : Nat → ClassId} {j0 : Nat} {x1 : Int32} (hj0 : j0 < 6) {sz : Int32} {pr : Nat → Int32} {pm : Nat → Nat} {kv : Nat → Int32} {kn : Nat → Int32} {kr : Nat → Int32} {kt : Nat → Int32} {kb : Nat → Int32} {ks : Nat → Int32} {kj : Nat → Int32} {kw : Nat → Int32} {kg : Nat → Int32} {wd : Nat → Nat → Int64} {fw : Nat → Nat → Int32} {ad : Nat → Int32} {bk : Nat → Int32} {md : Int32} {cr : Int32} {ow : Int32} {hd : Int32} {K : (Nat → Nat → Int64) → Prop} (h : wp_X2_addShifted j0 x1 wd K) : ctV_1 q yX2_addShifted cX2_addShifted 7 0 0 [.ref (a (17 + j0)), .int x1] (cgW a q sz pr pm kv kn kr kt kb ks kj kw kg wd fw ad bk md cr ow hd) (fun (wd : Nat → Nat → Int64) => (cgW a q sz pr pm kv kn kr kt kb ks kj kw kg wd fw ad bk md cr ow hd)) K := by
  refine met_V_1 (by decide) (Nat.le_of_ble_eq_true rfl) (fun Γ g hret => ?_)
  unfold wp_X2_addShifted at h
  show jw Γ 7 0 0 (cgW a q sz pr pm kv kn kr kt kb ks kj kw kg wd fw ad bk md cr ow hd) [(0, .ref (a (17 + j0))), (1, .int x1)] [] 0
  refine j_iload_n g 1 rfl dX2_addShifted_0 ?_
  refine j_if_gt g dX2_addShifted_1 (tgt := 5) (by decide) (fun c1 => ?_) (fun c1 => ?_)
  rotate_left
  · replace h := h.2 c1
    exact hret.go dX2_addShifted_4 h
  replace h := h.1 c1
  refine j_iload_n g 1 rfl dX2_addShifted_5 ?_
  refine j_bipush g (v := 64) (by decide) dX2_addShifted_6 ?_
  refine j_idiv g (by decide) dX2_addShifted_8 ?_
  refine j_istore_n g (lv' := [(2, .int (x1 / (64 : Int32))), (0, .ref (a (17 + j0))), (1, .int x1)]) (by decide) rfl dX2_addShifted_9 ?_
  refine j_iload_n g 2 rfl dX2_addShifted_10 ?_
  refine j_bipush g (v := 64) (by decide) dX2_addShifted_11 ?_
  refine j_irem g (by decide) dX2_addShifted_13 ?_
  refine j_istore_n g (lv' := [(3, .int (x1 - x1 / (64 : Int32) * (64 : Int32))), (2, .int (x1 / (64 : Int32))), (0, .ref (a (17 + j0))), (1, .int x1)]) (by decide) rfl dX2_addShifted_14 ?_
  refine j_bipush g (v := 15) (by decide) dX2_addShifted_15 ?_
  refine j_istore g (lv' := [(4, .int (15 : Int32)), (3, .int (x1 - x1 / (64 : Int32) * (64 : Int32))), (2, .int (x1 / (64 : Int32))), (0, .ref (a (17 + j0))), (1, .int x1)]) (by decide) rfl dX2_addShifted_17 ?_
  obtain ⟨n2, h⟩ := h
  refine j_sub [3, 2, 1, 0] rfl ?_
  refine wk_X2_addShifted_19 hj0 g hret (fun wd_2 h => ?_) n2 (15 : Int32) wd h
  exact hret.go dX2_addShifted_87 h

def wp_X2_addCoins_5 (i0 : Nat) (x1 : Int32)  (K : (Nat → Nat → Int64) → Prop) (X : (Nat → Nat → Int64) → Prop) : Nat → Int32 → Int32 → (Nat → Nat → Int64) → Prop
  | 0, _, _, _ => False
  | n + 1, x3, x4, wd => (((20 : Int32) < x4 → X wd) ∧ (¬ (20 : Int32) < x4 → ((x3 ≤ 0 → X wd) ∧ (¬ x3 ≤ 0 → wp_X2_addShifted i0 ((if x3 < x4 then x3 else x4) * x1) wd (fun (wd_3 : Nat → Nat → Int64) => wp_X2_addCoins_5 i0 x1 K X n (x3 - (if x3 < x4 then x3 else x4)) (x4 * (2 : Int32)) wd_3)))))
def wp_X2_addCoins (j0 : Nat) (x1 : Int32) (x2 : Int32) (wd : Nat → Nat → Int64) (K : (Nat → Nat → Int64) → Prop) : Prop :=
  ∃ n : Nat, wp_X2_addCoins_5 j0 x1 K (fun (wd_1 : Nat → Nat → Int64) => K wd_1) n x2 (1 : Int32) wd
theorem dX2_addCoins_0 : decode cX2_addCoins 0 = .ok (.iload_n 2, 1) := by decide +kernel
theorem dX2_addCoins_1 : decode cX2_addCoins 1 = .ok (.istore_n 3, 1) := by decide +kernel
theorem dX2_addCoins_2 : decode cX2_addCoins 2 = .ok (.iconst 1, 1) := by decide +kernel
theorem dX2_addCoins_3 : decode cX2_addCoins 3 = .ok (.istore 4, 2) := by decide +kernel
theorem dX2_addCoins_5 : decode cX2_addCoins 5 = .ok (.iload 4, 2) := by decide +kernel
theorem dX2_addCoins_7 : decode cX2_addCoins 7 = .ok (.bipush 20, 2) := by decide +kernel
theorem dX2_addCoins_9 : decode cX2_addCoins 9 = .ok (.if_icmp .gt 37, 3) := by decide +kernel
theorem dX2_addCoins_12 : decode cX2_addCoins 12 = .ok (.iload_n 3, 1) := by decide +kernel
theorem dX2_addCoins_13 : decode cX2_addCoins 13 = .ok (.ifCond .le 33, 3) := by decide +kernel
theorem dX2_addCoins_16 : decode cX2_addCoins 16 = .ok (.iload 4, 2) := by decide +kernel
theorem dX2_addCoins_18 : decode cX2_addCoins 18 = .ok (.iload_n 3, 1) := by decide +kernel
theorem dX2_addCoins_19 : decode cX2_addCoins 19 = .ok (.invokestatic 27, 3) := by decide +kernel
theorem dX2_addCoins_22 : decode cX2_addCoins 22 = .ok (.istore 5, 2) := by decide +kernel
theorem dX2_addCoins_24 : decode cX2_addCoins 24 = .ok (.aload_n 0, 1) := by decide +kernel
theorem dX2_addCoins_25 : decode cX2_addCoins 25 = .ok (.iload 5, 2) := by decide +kernel
theorem dX2_addCoins_27 : decode cX2_addCoins 27 = .ok (.iload_n 1, 1) := by decide +kernel
theorem dX2_addCoins_28 : decode cX2_addCoins 28 = .ok (.imul, 1) := by decide +kernel
theorem dX2_addCoins_29 : decode cX2_addCoins 29 = .ok (.invokevirtual 33, 3) := by decide +kernel
theorem dX2_addCoins_32 : decode cX2_addCoins 32 = .ok (.iload_n 3, 1) := by decide +kernel
theorem dX2_addCoins_33 : decode cX2_addCoins 33 = .ok (.iload 5, 2) := by decide +kernel
theorem dX2_addCoins_35 : decode cX2_addCoins 35 = .ok (.isub, 1) := by decide +kernel
theorem dX2_addCoins_36 : decode cX2_addCoins 36 = .ok (.istore_n 3, 1) := by decide +kernel
theorem dX2_addCoins_37 : decode cX2_addCoins 37 = .ok (.iload 4, 2) := by decide +kernel
theorem dX2_addCoins_39 : decode cX2_addCoins 39 = .ok (.iconst 2, 1) := by decide +kernel
theorem dX2_addCoins_40 : decode cX2_addCoins 40 = .ok (.imul, 1) := by decide +kernel
theorem dX2_addCoins_41 : decode cX2_addCoins 41 = .ok (.istore 4, 2) := by decide +kernel
theorem dX2_addCoins_43 : decode cX2_addCoins 43 = .ok (.goto (-38), 3) := by decide +kernel
theorem dX2_addCoins_46 : decode cX2_addCoins 46 = .ok (.return_, 1) := by decide +kernel
set_option maxRecDepth 20000 in
set_option maxHeartbeats 4000000 in
theorem wk_X2_addCoins_5 {Γ : GT} {a : Nat → Nat} {q : Nat → ClassId} {i0 : Nat} {x1 : Int32} (hi0 : i0 < 6) {sz : Int32} {pr : Nat → Int32} {pm : Nat → Nat} {kv : Nat → Int32} {kn : Nat → Int32} {kr : Nat → Int32} {kt : Nat → Int32} {kb : Nat → Int32} {ks : Nat → Int32} {kj : Nat → Int32} {kw : Nat → Int32} {kg : Nat → Int32} {fw : Nat → Nat → Int32} {ad : Nat → Int32} {bk : Nat → Int32} {md : Int32} {cr : Int32} {ow : Int32} {hd : Int32} {K : (Nat → Nat → Int64) → Prop} {X : (Nat → Nat → Int64) → Prop} (g : gd Γ cX2_addCoins RX2 6 (rmz 1 26) q) (hret : rtV_1 Γ cX2_addCoins 6 (fun (wd : Nat → Nat → Int64) => (cgW a q sz pr pm kv kn kr kt kb ks kj kw kg wd fw ad bk md cr ow hd)) K) (hX : ∀ (wd : Nat → Nat → Int64) , X wd → jw Γ 6 0 0 (cgW a q sz pr pm kv kn kr kt kb ks kj kw kg wd fw ad bk md cr ow hd) [] [] 46) :
    ∀ (n : Nat) (x3 : Int32) (x4 : Int32) (wd : Nat → Nat → Int64) , wp_X2_addCoins_5 i0 x1 K X n x3 x4 wd → jw Γ 6 0 0 (cgW a q sz pr pm kv kn kr kt kb ks kj kw kg wd fw ad bk md cr ow hd) [(0, .ref (a (17 + i0))), (1, .int x1), (3, .int x3), (4, .int x4)] [] 5 := by
  intro n
  induction n with
  | zero =>
    intro _ _ _ h
    exact False.elim h
  | succ n ih =>
    intro x3 x4 wd h
    unfold wp_X2_addCoins_5 at h
    refine j_iload g 3 rfl dX2_addCoins_5 ?_
    refine j_bipush g (v := 20) (by decide) dX2_addCoins_7 ?_
    refine j_icmp_gt g dX2_addCoins_9 (tgt := 46) (by decide) (fun c1 => ?_) (fun c1 => ?_)
    · replace h := h.1 c1
      refine j_sub [] rfl ?_
      exact hX wd h
    replace h := h.2 c1
    refine j_iload_n g 2 rfl dX2_addCoins_12 ?_
    refine j_if_le g dX2_addCoins_13 (tgt := 46) (by decide) (fun c2 => ?_) (fun c2 => ?_)
    · replace h := h.1 c2
      refine j_sub [] rfl ?_
      exact hX wd h
    replace h := h.2 c2
    refine j_iload g 3 rfl dX2_addCoins_16 ?_
    refine j_iload_n g 2 rfl dX2_addCoins_18 ?_
    refine j_mmin g lm_X2_27 lm_min_s lm_i lm_min_c (Nat.le_of_ble_eq_true rfl) (Nat.le_of_ble_eq_true rfl) (Nat.zero_le _) (Nat.zero_le _) dX2_addCoins_19 ?_
    refine j_istore g (lv' := [(5, .int (if x3 < x4 then x3 else x4)), (0, .ref (a (17 + i0))), (1, .int x1), (3, .int x3), (4, .int x4)]) (by decide) rfl dX2_addCoins_22 ?_
    refine j_aload_n g 1 rfl dX2_addCoins_24 ?_
    refine j_iload g 0 rfl dX2_addCoins_25 ?_
    refine j_iload_n g 2 rfl dX2_addCoins_27 ?_
    refine j_imul g dX2_addCoins_28 ?_
    refine j_callVV_1 g (As := [.int ((if x3 < x4 then x3 else x4) * x1)]) (st := []) (c_X2_addShifted hi0 h) cl_X2_33 (17 + i0) 2 (cg_S hi0) rfl rfl (Nat.le_of_ble_eq_true rfl) (Nat.le_of_ble_eq_true rfl) (Nat.zero_le _) (Nat.zero_le _) rfl rfl (Nat.le_of_ble_eq_true rfl) dX2_addCoins_29 (fun wd_3 h => ?_)
    refine j_ws (ws' := (cgW a q sz pr pm kv kn kr kt kb ks kj kw kg wd_3 fw ad bk md cr ow hd)) rfl ?_
    refine j_iload_n g 3 rfl dX2_addCoins_32 ?_
    refine j_iload g 0 rfl dX2_addCoins_33 ?_
    refine j_isub g dX2_addCoins_35 ?_
    refine j_istore_n g (lv' := [(3, .int (x3 - (if x3 < x4 then x3 else x4))), (5, .int (if x3 < x4 then x3 else x4)), (0, .ref (a (17 + i0))), (1, .int x1), (4, .int x4)]) (by decide) rfl dX2_addCoins_36 ?_
    refine j_iload g 4 rfl dX2_addCoins_37 ?_
    refine j_iconst g (v := 2) (by decide) dX2_addCoins_39 ?_
    refine j_imul g dX2_addCoins_40 ?_
    refine j_istore g (lv' := [(4, .int (x4 * (2 : Int32))), (3, .int (x3 - (if x3 < x4 then x3 else x4))), (5, .int (if x3 < x4 then x3 else x4)), (0, .ref (a (17 + i0))), (1, .int x1)]) (by decide) rfl dX2_addCoins_41 ?_
    refine j_goto g dX2_addCoins_43 (tgt := 5) (by decide) ?_
    refine j_sub [3, 4, 1, 0] rfl ?_
    exact ih (x3 - (if x3 < x4 then x3 else x4)) (x4 * (2 : Int32)) wd_3 h
set_option maxRecDepth 20000 in
set_option maxHeartbeats 4000000 in
theorem c_X2_addCoins {a : Nat → Nat} {q : Nat → ClassId} {j0 : Nat} {x1 : Int32} {x2 : Int32} (hj0 : j0 < 6) {sz : Int32} {pr : Nat → Int32} {pm : Nat → Nat} {kv : Nat → Int32} {kn : Nat → Int32} {kr : Nat → Int32} {kt : Nat → Int32} {kb : Nat → Int32} {ks : Nat → Int32} {kj : Nat → Int32} {kw : Nat → Int32} {kg : Nat → Int32} {wd : Nat → Nat → Int64} {fw : Nat → Nat → Int32} {ad : Nat → Int32} {bk : Nat → Int32} {md : Int32} {cr : Int32} {ow : Int32} {hd : Int32} {K : (Nat → Nat → Int64) → Prop} (h : wp_X2_addCoins j0 x1 x2 wd K) : ctV_1 q yX2_addCoins cX2_addCoins 6 1 26 [.ref (a (17 + j0)), .int x1, .int x2] (cgW a q sz pr pm kv kn kr kt kb ks kj kw kg wd fw ad bk md cr ow hd) (fun (wd : Nat → Nat → Int64) => (cgW a q sz pr pm kv kn kr kt kb ks kj kw kg wd fw ad bk md cr ow hd)) K := by
  refine met_V_1 (by decide) (Nat.le_of_ble_eq_true rfl) (fun Γ g hret => ?_)
  unfold wp_X2_addCoins at h
  show jw Γ 6 0 0 (cgW a q sz pr pm kv kn kr kt kb ks kj kw kg wd fw ad bk md cr ow hd) [(0, .ref (a (17 + j0))), (1, .int x1), (2, .int x2)] [] 0
  refine j_iload_n g 2 rfl dX2_addCoins_0 ?_
  refine j_istore_n g (lv' := [(3, .int x2), (0, .ref (a (17 + j0))), (1, .int x1), (2, .int x2)]) (by decide) rfl dX2_addCoins_1 ?_
  refine j_iconst g (v := 1) (by decide) dX2_addCoins_2 ?_
  refine j_istore g (lv' := [(4, .int (1 : Int32)), (3, .int x2), (0, .ref (a (17 + j0))), (1, .int x1), (2, .int x2)]) (by decide) rfl dX2_addCoins_3 ?_
  obtain ⟨n1, h⟩ := h
  refine j_sub [2, 3, 1, 0] rfl ?_
  refine wk_X2_addCoins_5 hj0 g hret (fun wd_1 h => ?_) n1 x2 (1 : Int32) wd h
  exact hret.go dX2_addCoins_46 h

def wp_X2_has (j0 : Nat) (x1 : Int32) (wd : Nat → Nat → Int64) (K : Int32 → Prop) : Prop :=
  ((x1 < 0 → K (0 : Int32)) ∧ (¬ x1 < 0 → ((x1 ≤ (999 : Int32) → (vp_in (x1 / (64 : Int32)) 16 ∧ ((lg_cmp ((((wd j0 (x1 / (64 : Int32)).toNatClampNeg).toUInt64 >>> ((x1 - x1 / (64 : Int32) * (64 : Int32)).toInt64.toUInt64 &&& Int64.toUInt64 63)).toInt64) &&& (1 : Int64)) (0 : Int64) = 0 → K (0 : Int32)) ∧ (¬ lg_cmp ((((wd j0 (x1 / (64 : Int32)).toNatClampNeg).toUInt64 >>> ((x1 - x1 / (64 : Int32) * (64 : Int32)).toInt64.toUInt64 &&& Int64.toUInt64 63)).toInt64) &&& (1 : Int64)) (0 : Int64) = 0 → K (1 : Int32))))) ∧ (¬ x1 ≤ (999 : Int32) → K (0 : Int32)))))
theorem dX2_has_0 : decode cX2_has 0 = .ok (.iload_n 1, 1) := by decide +kernel
theorem dX2_has_1 : decode cX2_has 1 = .ok (.ifCond .lt 10, 3) := by decide +kernel
theorem dX2_has_4 : decode cX2_has 4 = .ok (.iload_n 1, 1) := by decide +kernel
theorem dX2_has_5 : decode cX2_has 5 = .ok (.sipush 999, 3) := by decide +kernel
theorem dX2_has_8 : decode cX2_has 8 = .ok (.if_icmp .le 5, 3) := by decide +kernel
theorem dX2_has_11 : decode cX2_has 11 = .ok (.iconst 0, 1) := by decide +kernel
theorem dX2_has_12 : decode cX2_has 12 = .ok (.ireturn, 1) := by decide +kernel
theorem dX2_has_13 : decode cX2_has 13 = .ok (.aload_n 0, 1) := by decide +kernel
theorem dX2_has_14 : decode cX2_has 14 = .ok (.getfield 11, 3) := by decide +kernel
theorem dX2_has_17 : decode cX2_has 17 = .ok (.iload_n 1, 1) := by decide +kernel
theorem dX2_has_18 : decode cX2_has 18 = .ok (.bipush 64, 2) := by decide +kernel
theorem dX2_has_20 : decode cX2_has 20 = .ok (.idiv, 1) := by decide +kernel
theorem dX2_has_21 : decode cX2_has 21 = .ok (.laload, 1) := by decide +kernel
theorem dX2_has_22 : decode cX2_has 22 = .ok (.iload_n 1, 1) := by decide +kernel
theorem dX2_has_23 : decode cX2_has 23 = .ok (.bipush 64, 2) := by decide +kernel
theorem dX2_has_25 : decode cX2_has 25 = .ok (.irem, 1) := by decide +kernel
theorem dX2_has_26 : decode cX2_has 26 = .ok (.lushr, 1) := by decide +kernel
theorem dX2_has_27 : decode cX2_has 27 = .ok (.lconst 1, 1) := by decide +kernel
theorem dX2_has_28 : decode cX2_has 28 = .ok (.land, 1) := by decide +kernel
theorem dX2_has_29 : decode cX2_has 29 = .ok (.lconst 0, 1) := by decide +kernel
theorem dX2_has_30 : decode cX2_has 30 = .ok (.lcmp, 1) := by decide +kernel
theorem dX2_has_31 : decode cX2_has 31 = .ok (.ifCond .eq 7, 3) := by decide +kernel
theorem dX2_has_34 : decode cX2_has 34 = .ok (.iconst 1, 1) := by decide +kernel
theorem dX2_has_35 : decode cX2_has 35 = .ok (.goto 4, 3) := by decide +kernel
theorem dX2_has_38 : decode cX2_has 38 = .ok (.iconst 0, 1) := by decide +kernel
theorem dX2_has_39 : decode cX2_has 39 = .ok (.ireturn, 1) := by decide +kernel
set_option maxRecDepth 20000 in
set_option maxHeartbeats 4000000 in
theorem c_X2_has {a : Nat → Nat} {q : Nat → ClassId} {j0 : Nat} {x1 : Int32} (hj0 : j0 < 6) {sz : Int32} {pr : Nat → Int32} {pm : Nat → Nat} {kv : Nat → Int32} {kn : Nat → Int32} {kr : Nat → Int32} {kt : Nat → Int32} {kb : Nat → Int32} {ks : Nat → Int32} {kj : Nat → Int32} {kw : Nat → Int32} {kg : Nat → Int32} {wd : Nat → Nat → Int64} {fw : Nat → Nat → Int32} {ad : Nat → Int32} {bk : Nat → Int32} {md : Int32} {cr : Int32} {ow : Int32} {hd : Int32} {K : Int32 → Prop} (h : wp_X2_has j0 x1 wd K) : ctZ_0 q yX2_has cX2_has 2 0 0 [.ref (a (17 + j0)), .int x1] (cgW a q sz pr pm kv kn kr kt kb ks kj kw kg wd fw ad bk md cr ow hd) (cgW a q sz pr pm kv kn kr kt kb ks kj kw kg wd fw ad bk md cr ow hd) K := by
  refine met_Z_0 (by decide) (Nat.le_of_ble_eq_true rfl) (fun Γ g hret => ?_)
  unfold wp_X2_has at h
  show jw Γ 2 0 0 (cgW a q sz pr pm kv kn kr kt kb ks kj kw kg wd fw ad bk md cr ow hd) [(0, .ref (a (17 + j0))), (1, .int x1)] [] 0
  refine j_iload_n g 1 rfl dX2_has_0 ?_
  refine j_if_lt g dX2_has_1 (tgt := 11) (by decide) (fun c1 => ?_) (fun c1 => ?_)
  · replace h := h.1 c1
    refine j_iconst g (v := 0) (by decide) dX2_has_11 ?_
    exact hret.go dX2_has_12 (Or.inl rfl) h
  replace h := h.2 c1
  refine j_iload_n g 1 rfl dX2_has_4 ?_
  refine j_sipush g (v := 999) (by decide) dX2_has_5 ?_
  refine j_icmp_le g dX2_has_8 (tgt := 13) (by decide) (fun c2 => ?_) (fun c2 => ?_)
  rotate_left
  · replace h := h.2 c2
    refine j_iconst g (v := 0) (by decide) dX2_has_11 ?_
    exact hret.go dX2_has_12 (Or.inl rfl) h
  replace h := h.1 c2
  refine j_aload_n g 0 rfl dX2_has_13 ?_
  refine j_get g fl_X2_11 (17 + j0) (cg_S hj0) rfl dX2_has_14 ?_
  refine j_iload_n g 1 rfl dX2_has_17 ?_
  refine j_bipush g (v := 64) (by decide) dX2_has_18 ?_
  refine j_idiv g (by decide) dX2_has_20 ?_
  obtain ⟨hv3, h⟩ := h
  refine j_lald g (23 + j0) (cg_w hj0) hv3 dX2_has_21 ?_
  refine j_iload_n g 1 rfl dX2_has_22 ?_
  refine j_bipush g (v := 64) (by decide) dX2_has_23 ?_
  refine j_irem g (by decide) dX2_has_25 ?_
  refine j_lushr g dX2_has_26 ?_
  refine j_lconst g (v := 1) (by decide) dX2_has_27 ?_
  refine j_land g dX2_has_28 ?_
  refine j_lconst g (v := 0) (by decide) dX2_has_29 ?_
  refine j_lcmp g dX2_has_30 ?_
  refine j_if_eq g dX2_has_31 (tgt := 38) (by decide) (fun c4 => ?_) (fun c4 => ?_)
  · replace h := h.1 c4
    refine j_iconst g (v := 0) (by decide) dX2_has_38 ?_
    exact hret.go dX2_has_39 (Or.inl rfl) h
  replace h := h.2 c4
  refine j_iconst g (v := 1) (by decide) dX2_has_34 ?_
  refine j_goto g dX2_has_35 (tgt := 39) (by decide) ?_
  exact hret.go dX2_has_39 (Or.inr rfl) h

def wp_X2_hasWith (j0 : Nat) (x1 : Int32) (x2 : Int32) (wd : Nat → Nat → Int64) (K : Int32 → Prop) : Prop :=
  wp_X2_has j0 x1 wd (fun (r_1 : Int32)  => ((¬ r_1 = 0 → K (1 : Int32)) ∧ (r_1 = 0 → ((x2 ≤ 0 → K (0 : Int32)) ∧ (¬ x2 ≤ 0 → wp_X2_has j0 (x1 - x2) wd (fun (r_4 : Int32)  => ((r_4 = 0 → K (0 : Int32)) ∧ (¬ r_4 = 0 → K (1 : Int32)))))))))
theorem dX2_hasWith_0 : decode cX2_hasWith 0 = .ok (.aload_n 0, 1) := by decide +kernel
theorem dX2_hasWith_1 : decode cX2_hasWith 1 = .ok (.iload_n 1, 1) := by decide +kernel
theorem dX2_hasWith_2 : decode cX2_hasWith 2 = .ok (.invokevirtual 37, 3) := by decide +kernel
theorem dX2_hasWith_5 : decode cX2_hasWith 5 = .ok (.ifCond .ne 17, 3) := by decide +kernel
theorem dX2_hasWith_8 : decode cX2_hasWith 8 = .ok (.iload_n 2, 1) := by decide +kernel
theorem dX2_hasWith_9 : decode cX2_hasWith 9 = .ok (.ifCond .le 17, 3) := by decide +kernel
theorem dX2_hasWith_12 : decode cX2_hasWith 12 = .ok (.aload_n 0, 1) := by decide +kernel
theorem dX2_hasWith_13 : decode cX2_hasWith 13 = .ok (.iload_n 1, 1) := by decide +kernel
theorem dX2_hasWith_14 : decode cX2_hasWith 14 = .ok (.iload_n 2, 1) := by decide +kernel
theorem dX2_hasWith_15 : decode cX2_hasWith 15 = .ok (.isub, 1) := by decide +kernel
theorem dX2_hasWith_16 : decode cX2_hasWith 16 = .ok (.invokevirtual 37, 3) := by decide +kernel
theorem dX2_hasWith_19 : decode cX2_hasWith 19 = .ok (.ifCond .eq 7, 3) := by decide +kernel
theorem dX2_hasWith_22 : decode cX2_hasWith 22 = .ok (.iconst 1, 1) := by decide +kernel
theorem dX2_hasWith_23 : decode cX2_hasWith 23 = .ok (.goto 4, 3) := by decide +kernel
theorem dX2_hasWith_26 : decode cX2_hasWith 26 = .ok (.iconst 0, 1) := by decide +kernel
theorem dX2_hasWith_27 : decode cX2_hasWith 27 = .ok (.ireturn, 1) := by decide +kernel
set_option maxRecDepth 20000 in
set_option maxHeartbeats 4000000 in
theorem c_X2_hasWith {a : Nat → Nat} {q : Nat → ClassId} {j0 : Nat} {x1 : Int32} {x2 : Int32} (hj0 : j0 < 6) {sz : Int32} {pr : Nat → Int32} {pm : Nat → Nat} {kv : Nat → Int32} {kn : Nat → Int32} {kr : Nat → Int32} {kt : Nat → Int32} {kb : Nat → Int32} {ks : Nat → Int32} {kj : Nat → Int32} {kw : Nat → Int32} {kg : Nat → Int32} {wd : Nat → Nat → Int64} {fw : Nat → Nat → Int32} {ad : Nat → Int32} {bk : Nat → Int32} {md : Int32} {cr : Int32} {ow : Int32} {hd : Int32} {K : Int32 → Prop} (h : wp_X2_hasWith j0 x1 x2 wd K) : ctZ_0 q yX2_hasWith cX2_hasWith 3 1 21 [.ref (a (17 + j0)), .int x1, .int x2] (cgW a q sz pr pm kv kn kr kt kb ks kj kw kg wd fw ad bk md cr ow hd) (cgW a q sz pr pm kv kn kr kt kb ks kj kw kg wd fw ad bk md cr ow hd) K := by
  refine met_Z_0 (by decide) (Nat.le_of_ble_eq_true rfl) (fun Γ g hret => ?_)
  unfold wp_X2_hasWith at h
  show jw Γ 3 0 0 (cgW a q sz pr pm kv kn kr kt kb ks kj kw kg wd fw ad bk md cr ow hd) [(0, .ref (a (17 + j0))), (1, .int x1), (2, .int x2)] [] 0
  refine j_aload_n g 0 rfl dX2_hasWith_0 ?_
  refine j_iload_n g 1 rfl dX2_hasWith_1 ?_
  refine j_callVZ_0 g (As := [.int x1]) (st := []) (c_X2_has hj0 h) cl_X2_37 (17 + j0) 2 (cg_S hj0) rfl rfl (Nat.le_of_ble_eq_true rfl) (Nat.le_of_ble_eq_true rfl) (Nat.zero_le _) (Nat.zero_le _) rfl rfl (Nat.le_of_ble_eq_true rfl) dX2_hasWith_2 (fun r_1  hz_1 h => ?_)
  refine j_if_ne g dX2_hasWith_5 (tgt := 22) (by decide) (fun c2 => ?_) (fun c2 => ?_)
  · replace h := h.1 c2
    refine j_iconst g (v := 1) (by decide) dX2_hasWith_22 ?_
    refine j_goto g dX2_hasWith_23 (tgt := 27) (by decide) ?_
    exact hret.go dX2_hasWith_27 (Or.inr rfl) h
  replace h := h.2 c2
  refine j_iload_n g 2 rfl dX2_hasWith_8 ?_
  refine j_if_le g dX2_hasWith_9 (tgt := 26) (by decide) (fun c3 => ?_) (fun c3 => ?_)
  · replace h := h.1 c3
    refine j_iconst g (v := 0) (by decide) dX2_hasWith_26 ?_
    exact hret.go dX2_hasWith_27 (Or.inl rfl) h
  replace h := h.2 c3
  refine j_aload_n g 0 rfl dX2_hasWith_12 ?_
  refine j_iload_n g 1 rfl dX2_hasWith_13 ?_
  refine j_iload_n g 2 rfl dX2_hasWith_14 ?_
  refine j_isub g dX2_hasWith_15 ?_
  refine j_callVZ_0 g (As := [.int (x1 - x2)]) (st := []) (c_X2_has hj0 h) cl_X2_37 (17 + j0) 2 (cg_S hj0) rfl rfl (Nat.le_of_ble_eq_true rfl) (Nat.le_of_ble_eq_true rfl) (Nat.zero_le _) (Nat.zero_le _) rfl rfl (Nat.le_of_ble_eq_true rfl) dX2_hasWith_16 (fun r_4  hz_4 h => ?_)
  refine j_if_eq g dX2_hasWith_19 (tgt := 26) (by decide) (fun c5 => ?_) (fun c5 => ?_)
  · replace h := h.1 c5
    refine j_iconst g (v := 0) (by decide) dX2_hasWith_26 ?_
    exact hret.go dX2_hasWith_27 (Or.inl rfl) h
  replace h := h.2 c5
  refine j_iconst g (v := 1) (by decide) dX2_hasWith_22 ?_
  refine j_goto g dX2_hasWith_23 (tgt := 27) (by decide) ?_
  exact hret.go dX2_hasWith_27 (Or.inr rfl) h

def wp_X2_howMany_4 (i0 : Nat) (x1 : Int32) (wd : Nat → Nat → Int64) (K : Int32 → Prop) (X : Int32 → Prop) : Nat → Int32 → Int32 → Prop
  | 0, _, _ => False
  | n + 1, x2, x3 => ((x1 < x3 → X x2) ∧ (¬ x1 < x3 → (((999 : Int32) < x3 → X x2) ∧ (¬ (999 : Int32) < x3 → wp_X2_has i0 x3 wd (fun (r_3 : Int32)  => ((r_3 = 0 → wp_X2_howMany_4 i0 x1 wd K X n x2 (x3 + 1)) ∧ (¬ r_3 = 0 → wp_X2_howMany_4 i0 x1 wd K X n (x2 + 1) (x3 + 1))))))))
def wp_X2_howMany (j0 : Nat) (x1 : Int32) (wd : Nat → Nat → Int64) (K : Int32 → Prop) : Prop :=
  ∃ n : Nat, wp_X2_howMany_4 j0 x1 wd K (fun (x2_1 : Int32) => K x2_1) n (0 : Int32) (1 : Int32)
theorem dX2_howMany_0 : decode cX2_howMany 0 = .ok (.iconst 0, 1) := by decide +kernel
theorem dX2_howMany_1 : decode cX2_howMany 1 = .ok (.istore_n 2, 1) := by decide +kernel
theorem dX2_howMany_2 : decode cX2_howMany 2 = .ok (.iconst 1, 1) := by decide +kernel
theorem dX2_howMany_3 : decode cX2_howMany 3 = .ok (.istore_n 3, 1) := by decide +kernel
theorem dX2_howMany_4 : decode cX2_howMany 4 = .ok (.iload_n 3, 1) := by decide +kernel
theorem dX2_howMany_5 : decode cX2_howMany 5 = .ok (.iload_n 1, 1) := by decide +kernel
theorem dX2_howMany_6 : decode cX2_howMany 6 = .ok (.if_icmp .gt 27, 3) := by decide +kernel
theorem dX2_howMany_9 : decode cX2_howMany 9 = .ok (.iload_n 3, 1) := by decide +kernel
theorem dX2_howMany_10 : decode cX2_howMany 10 = .ok (.sipush 999, 3) := by decide +kernel
theorem dX2_howMany_13 : decode cX2_howMany 13 = .ok (.if_icmp .gt 20, 3) := by decide +kernel
theorem dX2_howMany_16 : decode cX2_howMany 16 = .ok (.aload_n 0, 1) := by decide +kernel
theorem dX2_howMany_17 : decode cX2_howMany 17 = .ok (.iload_n 3, 1) := by decide +kernel
theorem dX2_howMany_18 : decode cX2_howMany 18 = .ok (.invokevirtual 37, 3) := by decide +kernel
theorem dX2_howMany_21 : decode cX2_howMany 21 = .ok (.ifCond .eq 6, 3) := by decide +kernel
theorem dX2_howMany_24 : decode cX2_howMany 24 = .ok (.iinc 2 1, 3) := by decide +kernel
theorem dX2_howMany_27 : decode cX2_howMany 27 = .ok (.iinc 3 1, 3) := by decide +kernel
theorem dX2_howMany_30 : decode cX2_howMany 30 = .ok (.goto (-26), 3) := by decide +kernel
theorem dX2_howMany_33 : decode cX2_howMany 33 = .ok (.iload_n 2, 1) := by decide +kernel
theorem dX2_howMany_34 : decode cX2_howMany 34 = .ok (.ireturn, 1) := by decide +kernel
set_option maxRecDepth 20000 in
set_option maxHeartbeats 4000000 in
theorem wk_X2_howMany_4 {Γ : GT} {a : Nat → Nat} {q : Nat → ClassId} {i0 : Nat} {x1 : Int32} (hi0 : i0 < 6) {sz : Int32} {pr : Nat → Int32} {pm : Nat → Nat} {kv : Nat → Int32} {kn : Nat → Int32} {kr : Nat → Int32} {kt : Nat → Int32} {kb : Nat → Int32} {ks : Nat → Int32} {kj : Nat → Int32} {kw : Nat → Int32} {kg : Nat → Int32} {wd : Nat → Nat → Int64} {fw : Nat → Nat → Int32} {ad : Nat → Int32} {bk : Nat → Int32} {md : Int32} {cr : Int32} {ow : Int32} {hd : Int32} {K : Int32 → Prop} {X : Int32 → Prop} (g : gd Γ cX2_howMany RX2 4 (rmz 1 21) q) (hret : rtI_0 Γ cX2_howMany 4 (cgW a q sz pr pm kv kn kr kt kb ks kj kw kg wd fw ad bk md cr ow hd) K) (hX : ∀ (x2 : Int32) , X x2 → jw Γ 4 0 0 (cgW a q sz pr pm kv kn kr kt kb ks kj kw kg wd fw ad bk md cr ow hd) [(2, .int x2)] [] 33) :
    ∀ (n : Nat) (x2 : Int32) (x3 : Int32) , wp_X2_howMany_4 i0 x1 wd K X n x2 x3 → jw Γ 4 0 0 (cgW a q sz pr pm kv kn kr kt kb ks kj kw kg wd fw ad bk md cr ow hd) [(0, .ref (a (17 + i0))), (1, .int x1), (2, .int x2), (3, .int x3)] [] 4 := by
  intro n
  induction n with
  | zero =>
    intro _ _ h
    exact False.elim h
  | succ n ih =>
    intro x2 x3 h
    unfold wp_X2_howMany_4 at h
    refine j_iload_n g 3 rfl dX2_howMany_4 ?_
    refine j_iload_n g 1 rfl dX2_howMany_5 ?_
    refine j_icmp_gt g dX2_howMany_6 (tgt := 33) (by decide) (fun c1 => ?_) (fun c1 => ?_)
    · replace h := h.1 c1
      refine j_sub [2] rfl ?_
      exact hX x2 h
    replace h := h.2 c1
    refine j_iload_n g 3 rfl dX2_howMany_9 ?_
    refine j_sipush g (v := 999) (by decide) dX2_howMany_10 ?_
    refine j_icmp_gt g dX2_howMany_13 (tgt := 33) (by decide) (fun c2 => ?_) (fun c2 => ?_)
    · replace h := h.1 c2
      refine j_sub [2] rfl ?_
      exact hX x2 h
    replace h := h.2 c2
    refine j_aload_n g 0 rfl dX2_howMany_16 ?_
    refine j_iload_n g 3 rfl dX2_howMany_17 ?_
    refine j_callVZ_0 g (As := [.int x3]) (st := []) (c_X2_has hi0 h) cl_X2_37 (17 + i0) 2 (cg_S hi0) rfl rfl (Nat.le_of_ble_eq_true rfl) (Nat.le_of_ble_eq_true rfl) (Nat.zero_le _) (Nat.zero_le _) rfl rfl (Nat.le_of_ble_eq_true rfl) dX2_howMany_18 (fun r_3  hz_3 h => ?_)
    refine j_if_eq g dX2_howMany_21 (tgt := 27) (by decide) (fun c4 => ?_) (fun c4 => ?_)
    · replace h := h.1 c4
      refine j_iinc g 3 (n := 1) (v := x3 + 1) (lv' := [(3, .int (x3 + 1)), (0, .ref (a (17 + i0))), (1, .int x1), (2, .int x2)]) rfl rfl (by decide) rfl dX2_howMany_27 ?_
      refine j_goto g dX2_howMany_30 (tgt := 4) (by decide) ?_
      refine j_sub [1, 2, 3, 0] rfl ?_
      exact ih x2 (x3 + 1) h
    replace h := h.2 c4
    refine j_iinc g 2 (n := 1) (v := x2 + 1) (lv' := [(2, .int (x2 + 1)), (0, .ref (a (17 + i0))), (1, .int x1), (3, .int x3)]) rfl rfl (by decide) rfl dX2_howMany_24 ?_
    refine j_iinc g 3 (n := 1) (v := x3 + 1) (lv' := [(3, .int (x3 + 1)), (2, .int (x2 + 1)), (0, .ref (a (17 + i0))), (1, .int x1)]) rfl rfl (by decide) rfl dX2_howMany_27 ?_
    refine j_goto g dX2_howMany_30 (tgt := 4) (by decide) ?_
    refine j_sub [2, 3, 1, 0] rfl ?_
    exact ih (x2 + 1) (x3 + 1) h
set_option maxRecDepth 20000 in
set_option maxHeartbeats 4000000 in
theorem c_X2_howMany {a : Nat → Nat} {q : Nat → ClassId} {j0 : Nat} {x1 : Int32} (hj0 : j0 < 6) {sz : Int32} {pr : Nat → Int32} {pm : Nat → Nat} {kv : Nat → Int32} {kn : Nat → Int32} {kr : Nat → Int32} {kt : Nat → Int32} {kb : Nat → Int32} {ks : Nat → Int32} {kj : Nat → Int32} {kw : Nat → Int32} {kg : Nat → Int32} {wd : Nat → Nat → Int64} {fw : Nat → Nat → Int32} {ad : Nat → Int32} {bk : Nat → Int32} {md : Int32} {cr : Int32} {ow : Int32} {hd : Int32} {K : Int32 → Prop} (h : wp_X2_howMany j0 x1 wd K) : ctI_0 q yX2_howMany cX2_howMany 4 1 21 [.ref (a (17 + j0)), .int x1] (cgW a q sz pr pm kv kn kr kt kb ks kj kw kg wd fw ad bk md cr ow hd) (cgW a q sz pr pm kv kn kr kt kb ks kj kw kg wd fw ad bk md cr ow hd) K := by
  refine met_I_0 (by decide) (Nat.le_of_ble_eq_true rfl) (fun Γ g hret => ?_)
  unfold wp_X2_howMany at h
  show jw Γ 4 0 0 (cgW a q sz pr pm kv kn kr kt kb ks kj kw kg wd fw ad bk md cr ow hd) [(0, .ref (a (17 + j0))), (1, .int x1)] [] 0
  refine j_iconst g (v := 0) (by decide) dX2_howMany_0 ?_
  refine j_istore_n g (lv' := [(2, .int (0 : Int32)), (0, .ref (a (17 + j0))), (1, .int x1)]) (by decide) rfl dX2_howMany_1 ?_
  refine j_iconst g (v := 1) (by decide) dX2_howMany_2 ?_
  refine j_istore_n g (lv' := [(3, .int (1 : Int32)), (2, .int (0 : Int32)), (0, .ref (a (17 + j0))), (1, .int x1)]) (by decide) rfl dX2_howMany_3 ?_
  obtain ⟨n1, h⟩ := h
  refine j_sub [2, 3, 1, 0] rfl ?_
  refine wk_X2_howMany_4 hj0 g hret (fun x2_1 h => ?_) n1 (0 : Int32) (1 : Int32) h
  refine j_iload_n g 0 rfl dX2_howMany_33 ?_
  exact hret.go dX2_howMany_34 h
end
