section
-- ===== PART A: goes FIRST, ahead of the names: the tables' words, and 'selects' of the private methods out of them =====
/-- a private method of a class that the tables say can be made, by its rows of tables_1 -/
def lw_okq (q : MethodName × Nat) : Prop := (q.1.cls ≠ "java/lang/invoke/MethodHandle" ∧ q.1.cls ≠ "java/lang/invoke/VarHandle") ∧ Cond.instantiable q.1.cls q.2 ∈ tables_1 ∧ Cond.privateMethod q.1 ∈ tables_1 ∧ Cond.instanceMethod q.1 ∈ tables_1
theorem lw_p0 : lw_okq (⟨"ChangeGiver", "addKind", "(IIZ)I"⟩, 9) := ⟨⟨by decide +kernel, by decide +kernel⟩, List.mem_of_getElem? (i := 12) (by decide +kernel), List.mem_of_getElem? (i := 177) (by decide +kernel), List.mem_of_getElem? (i := 178) (by decide +kernel)⟩
theorem lw_p1 : lw_okq (⟨"ChangeGiver", "canTake", "(LChangeGiver$Kind;)Z"⟩, 9) := ⟨⟨by decide +kernel, by decide +kernel⟩, List.mem_of_getElem? (i := 12) (by decide +kernel), List.mem_of_getElem? (i := 230) (by decide +kernel), List.mem_of_getElem? (i := 231) (by decide +kernel)⟩
theorem lw_p2 : lw_okq (⟨"ChangeGiver$Sums", "addShifted", "(I)V"⟩, 1) := ⟨⟨by decide +kernel, by decide +kernel⟩, List.mem_of_getElem? (i := 102) (by decide +kernel), List.mem_of_getElem? (i := 263) (by decide +kernel), List.mem_of_getElem? (i := 264) (by decide +kernel)⟩
theorem lw_p3 : lw_okq (⟨"ChangeGiver", "heldValue", "()I"⟩, 9) := ⟨⟨by decide +kernel, by decide +kernel⟩, List.mem_of_getElem? (i := 12) (by decide +kernel), List.mem_of_getElem? (i := 267) (by decide +kernel), List.mem_of_getElem? (i := 268) (by decide +kernel)⟩
theorem lw_p4 : lw_okq (⟨"ChangeGiver", "endCredit", "()V"⟩, 9) := ⟨⟨by decide +kernel, by decide +kernel⟩, List.mem_of_getElem? (i := 12) (by decide +kernel), List.mem_of_getElem? (i := 296) (by decide +kernel), List.mem_of_getElem? (i := 297) (by decide +kernel)⟩
theorem lw_p5 : lw_okq (⟨"ChangeGiver", "giveOut", "(I)I"⟩, 9) := ⟨⟨by decide +kernel, by decide +kernel⟩, List.mem_of_getElem? (i := 12) (by decide +kernel), List.mem_of_getElem? (i := 300) (by decide +kernel), List.mem_of_getElem? (i := 301) (by decide +kernel)⟩
theorem lw_p6 : lw_okq (⟨"ChangeGiver", "plan", "(I)Z"⟩, 9) := ⟨⟨by decide +kernel, by decide +kernel⟩, List.mem_of_getElem? (i := 12) (by decide +kernel), List.mem_of_getElem? (i := 308) (by decide +kernel), List.mem_of_getElem? (i := 309) (by decide +kernel)⟩
theorem lw_p7 : lw_okq (⟨"ChangeGiver", "giveByWay", "(I)I"⟩, 9) := ⟨⟨by decide +kernel, by decide +kernel⟩, List.mem_of_getElem? (i := 12) (by decide +kernel), List.mem_of_getElem? (i := 340) (by decide +kernel), List.mem_of_getElem? (i := 341) (by decide +kernel)⟩
theorem lw_p8 : lw_okq (⟨"ChangeGiver$Refill", "isOut", "(LChangeGiver$Till;I)Z"⟩, 2) := ⟨⟨by decide +kernel, by decide +kernel⟩, List.mem_of_getElem? (i := 128) (by decide +kernel), List.mem_of_getElem? (i := 397) (by decide +kernel), List.mem_of_getElem? (i := 398) (by decide +kernel)⟩
theorem lw_p9 : lw_okq (⟨"ChangeGiverModel", "canCome", "(I)Z"⟩, 23) := ⟨⟨by decide +kernel, by decide +kernel⟩, List.mem_of_getElem? (i := 448) (by decide +kernel), List.mem_of_getElem? (i := 529) (by decide +kernel), List.mem_of_getElem? (i := 530) (by decide +kernel)⟩
theorem lw_p10 : lw_okq (⟨"ChangeGiverModel", "isCoin", "(I)Z"⟩, 23) := ⟨⟨by decide +kernel, by decide +kernel⟩, List.mem_of_getElem? (i := 448) (by decide +kernel), List.mem_of_getElem? (i := 549) (by decide +kernel), List.mem_of_getElem? (i := 550) (by decide +kernel)⟩
theorem lw_p11 : lw_okq (⟨"ChangeGiverModel", "isKind", "(I)Z"⟩, 23) := ⟨⟨by decide +kernel, by decide +kernel⟩, List.mem_of_getElem? (i := 448) (by decide +kernel), List.mem_of_getElem? (i := 553) (by decide +kernel), List.mem_of_getElem? (i := 554) (by decide +kernel)⟩
theorem lw_p12 : lw_okq (⟨"ChangeGiverModel", "findWay", "(I)Z"⟩, 23) := ⟨⟨by decide +kernel, by decide +kernel⟩, List.mem_of_getElem? (i := 448) (by decide +kernel), List.mem_of_getElem? (i := 569) (by decide +kernel), List.mem_of_getElem? (i := 570) (by decide +kernel)⟩
theorem lw_p13 : lw_okq (⟨"ChangeGiverModel", "isWay", "(II)Z"⟩, 23) := ⟨⟨by decide +kernel, by decide +kernel⟩, List.mem_of_getElem? (i := 448) (by decide +kernel), List.mem_of_getElem? (i := 573) (by decide +kernel), List.mem_of_getElem? (i := 574) (by decide +kernel)⟩
theorem lw_p14 : lw_okq (⟨"ChangeGiverModel", "rank", "()V"⟩, 23) := ⟨⟨by decide +kernel, by decide +kernel⟩, List.mem_of_getElem? (i := 448) (by decide +kernel), List.mem_of_getElem? (i := 577) (by decide +kernel), List.mem_of_getElem? (i := 578) (by decide +kernel)⟩
theorem lw_p15 : lw_okq (⟨"ChangeGiverModel", "mayUse", "(II)I"⟩, 23) := ⟨⟨by decide +kernel, by decide +kernel⟩, List.mem_of_getElem? (i := 448) (by decide +kernel), List.mem_of_getElem? (i := 582) (by decide +kernel), List.mem_of_getElem? (i := 583) (by decide +kernel)⟩
def lw_privs_1 : List (MethodName × Nat) := [(⟨"ChangeGiver", "addKind", "(IIZ)I"⟩, 9), (⟨"ChangeGiver", "canTake", "(LChangeGiver$Kind;)Z"⟩, 9), (⟨"ChangeGiver$Sums", "addShifted", "(I)V"⟩, 1), (⟨"ChangeGiver", "heldValue", "()I"⟩, 9), (⟨"ChangeGiver", "endCredit", "()V"⟩, 9), (⟨"ChangeGiver", "giveOut", "(I)I"⟩, 9), (⟨"ChangeGiver", "plan", "(I)Z"⟩, 9), (⟨"ChangeGiver", "giveByWay", "(I)I"⟩, 9), (⟨"ChangeGiver$Refill", "isOut", "(LChangeGiver$Till;I)Z"⟩, 2), (⟨"ChangeGiverModel", "canCome", "(I)Z"⟩, 23), (⟨"ChangeGiverModel", "isCoin", "(I)Z"⟩, 23), (⟨"ChangeGiverModel", "isKind", "(I)Z"⟩, 23), (⟨"ChangeGiverModel", "findWay", "(I)Z"⟩, 23), (⟨"ChangeGiverModel", "isWay", "(II)Z"⟩, 23), (⟨"ChangeGiverModel", "rank", "()V"⟩, 23), (⟨"ChangeGiverModel", "mayUse", "(II)I"⟩, 23)]
theorem lw_r1 : ∀ q ∈ lw_privs_1, lw_okq q := List.forall_mem_cons.mpr ⟨lw_p0, List.forall_mem_cons.mpr ⟨lw_p1, List.forall_mem_cons.mpr ⟨lw_p2, List.forall_mem_cons.mpr ⟨lw_p3, List.forall_mem_cons.mpr ⟨lw_p4, List.forall_mem_cons.mpr ⟨lw_p5, List.forall_mem_cons.mpr ⟨lw_p6, List.forall_mem_cons.mpr ⟨lw_p7, List.forall_mem_cons.mpr ⟨lw_p8, List.forall_mem_cons.mpr ⟨lw_p9, List.forall_mem_cons.mpr ⟨lw_p10, List.forall_mem_cons.mpr ⟨lw_p11, List.forall_mem_cons.mpr ⟨lw_p12, List.forall_mem_cons.mpr ⟨lw_p13, List.forall_mem_cons.mpr ⟨lw_p14, List.forall_mem_cons.mpr ⟨lw_p15, fun _ h => absurd h List.not_mem_nil⟩⟩⟩⟩⟩⟩⟩⟩⟩⟩⟩⟩⟩⟩⟩⟩
theorem lw_p16 : lw_okq (⟨"ChangeGiverModel", "findSums", "()V"⟩, 23) := ⟨⟨by decide +kernel, by decide +kernel⟩, List.mem_of_getElem? (i := 448) (by decide +kernel), List.mem_of_getElem? (i := 594) (by decide +kernel), List.mem_of_getElem? (i := 595) (by decide +kernel)⟩
theorem lw_p17 : lw_okq (⟨"ChangeGiverModel", "heldValue", "()I"⟩, 23) := ⟨⟨by decide +kernel, by decide +kernel⟩, List.mem_of_getElem? (i := 448) (by decide +kernel), List.mem_of_getElem? (i := 602) (by decide +kernel), List.mem_of_getElem? (i := 603) (by decide +kernel)⟩
theorem lw_p18 : lw_okq (⟨"ChangeGiverModel", "wouldTake", "(III)Z"⟩, 23) := ⟨⟨by decide +kernel, by decide +kernel⟩, List.mem_of_getElem? (i := 448) (by decide +kernel), List.mem_of_getElem? (i := 606) (by decide +kernel), List.mem_of_getElem? (i := 607) (by decide +kernel)⟩
theorem lw_p19 : lw_okq (⟨"ChangeGiverModel", "gives", "(I)I"⟩, 23) := ⟨⟨by decide +kernel, by decide +kernel⟩, List.mem_of_getElem? (i := 448) (by decide +kernel), List.mem_of_getElem? (i := 618) (by decide +kernel), List.mem_of_getElem? (i := 619) (by decide +kernel)⟩
theorem lw_p20 : lw_okq (⟨"ChangeGiverModel", "nextUsed", "()I"⟩, 23) := ⟨⟨by decide +kernel, by decide +kernel⟩, List.mem_of_getElem? (i := 448) (by decide +kernel), List.mem_of_getElem? (i := 622) (by decide +kernel), List.mem_of_getElem? (i := 623) (by decide +kernel)⟩
theorem lw_p21 : lw_okq (⟨"ChangeGiverModel", "isLit", "()Z"⟩, 23) := ⟨⟨by decide +kernel, by decide +kernel⟩, List.mem_of_getElem? (i := 448) (by decide +kernel), List.mem_of_getElem? (i := 642) (by decide +kernel), List.mem_of_getElem? (i := 643) (by decide +kernel)⟩
theorem lw_p22 : lw_okq (⟨"ChangeGiverModel", "isOutBy", "(I)Z"⟩, 23) := ⟨⟨by decide +kernel, by decide +kernel⟩, List.mem_of_getElem? (i := 448) (by decide +kernel), List.mem_of_getElem? (i := 650) (by decide +kernel), List.mem_of_getElem? (i := 651) (by decide +kernel)⟩
theorem lw_p23 : lw_okq (⟨"ChangeGiverModel", "canAdd", "()Z"⟩, 23) := ⟨⟨by decide +kernel, by decide +kernel⟩, List.mem_of_getElem? (i := 448) (by decide +kernel), List.mem_of_getElem? (i := 654) (by decide +kernel), List.mem_of_getElem? (i := 655) (by decide +kernel)⟩
theorem lw_p24 : lw_okq (⟨"ChangeGiverModel", "goesOn", "()Z"⟩, 23) := ⟨⟨by decide +kernel, by decide +kernel⟩, List.mem_of_getElem? (i := 448) (by decide +kernel), List.mem_of_getElem? (i := 658) (by decide +kernel), List.mem_of_getElem? (i := 659) (by decide +kernel)⟩
theorem lw_p25 : lw_okq (⟨"ChangeGiverModel", "boxed", "()I"⟩, 23) := ⟨⟨by decide +kernel, by decide +kernel⟩, List.mem_of_getElem? (i := 448) (by decide +kernel), List.mem_of_getElem? (i := 666) (by decide +kernel), List.mem_of_getElem? (i := 667) (by decide +kernel)⟩
def lw_privs_2 : List (MethodName × Nat) := [(⟨"ChangeGiverModel", "findSums", "()V"⟩, 23), (⟨"ChangeGiverModel", "heldValue", "()I"⟩, 23), (⟨"ChangeGiverModel", "wouldTake", "(III)Z"⟩, 23), (⟨"ChangeGiverModel", "gives", "(I)I"⟩, 23), (⟨"ChangeGiverModel", "nextUsed", "()I"⟩, 23), (⟨"ChangeGiverModel", "isLit", "()Z"⟩, 23), (⟨"ChangeGiverModel", "isOutBy", "(I)Z"⟩, 23), (⟨"ChangeGiverModel", "canAdd", "()Z"⟩, 23), (⟨"ChangeGiverModel", "goesOn", "()Z"⟩, 23), (⟨"ChangeGiverModel", "boxed", "()I"⟩, 23)]
theorem lw_r2 : ∀ q ∈ lw_privs_2, lw_okq q := List.forall_mem_cons.mpr ⟨lw_p16, List.forall_mem_cons.mpr ⟨lw_p17, List.forall_mem_cons.mpr ⟨lw_p18, List.forall_mem_cons.mpr ⟨lw_p19, List.forall_mem_cons.mpr ⟨lw_p20, List.forall_mem_cons.mpr ⟨lw_p21, List.forall_mem_cons.mpr ⟨lw_p22, List.forall_mem_cons.mpr ⟨lw_p23, List.forall_mem_cons.mpr ⟨lw_p24, List.forall_mem_cons.mpr ⟨lw_p25, fun _ h => absurd h List.not_mem_nil⟩⟩⟩⟩⟩⟩⟩⟩⟩⟩
def lw_privs : List (MethodName × Nat) := lw_privs_1 ++ (lw_privs_2)
def lw_tbl : List Cond := k2_sels lw_privs ++ tables_1
theorem lw_privs_ok : ∀ q ∈ lw_privs, lw_okq q := by
  show ∀ q ∈ lw_privs_1 ++ (lw_privs_2), lw_okq q
  exact List.forall_mem_append.mpr ⟨lw_r1, lw_r2⟩
end
section
/-! names: from the printed list of names of this claim -/
/-! ===== BEGIN printed: names, fields, word lists, decode rows ===== -/
def RX0 : String := "ChangeGiver$Kind"
def TX0 : u_T := fun k => match k with
  | 0 => ("ChangeGiver$Kind", "value", "I", false)
  | 1 => ("ChangeGiver$Kind", "isNote", "Z", false)
  | 2 => ("ChangeGiver$Kind", "room", "I", false)
  | 3 => ("ChangeGiver$Kind", "inTube", "I", false)
  | 4 => ("ChangeGiver$Kind", "inBox", "I", false)
  | 5 => ("ChangeGiver$Kind", "isStuck", "Z", false)
  | 6 => ("ChangeGiver$Kind", "jamsBehind", "I", false)
  | 7 => ("ChangeGiver$Kind", "inWay", "I", false)
  | _ => ("ChangeGiver$Kind", "given", "I", false)
def tyX0 : Nat → FieldType := fun k => match k with
  | 0 => .int
  | 1 => .boolean
  | 2 => .int
  | 3 => .int
  | 4 => .int
  | 5 => .boolean
  | 6 => .int
  | 7 => .int
  | _ => .int
abbrev wsX00 : List Cond := u_ws RX0 TX0 9
theorem nmX0 : ∀ a, a < 9 → ∀ b, b < 9 → a ≠ b → (TX0 a).2.1 ≠ (TX0 b).2.1 := by decide +kernel
theorem tyX0_ok : ∀ k, k < 9 → parseFieldDescriptor (TX0 k).2.2.1 = some (tyX0 k) := by decide +kernel
abbrev cX0_init : ByteArray := prog_2_method_1_code
def yX0_init : MethodName := ⟨RX0, "<init>", "()V"⟩
abbrev cX0_free : ByteArray := prog_2_method_2_code
def yX0_free : MethodName := ⟨RX0, "free", "()I"⟩
abbrev cX0_gives : ByteArray := prog_2_method_3_code
def yX0_gives : MethodName := ⟨RX0, "gives", "()Z"⟩
abbrev cX0_spare : ByteArray := prog_2_method_4_code
def yX0_spare : MethodName := ⟨RX0, "spare", "(I)I"⟩
abbrev cX0_release : ByteArray := prog_2_method_5_code
def yX0_release : MethodName := ⟨RX0, "release", "()Z"⟩
def RX1 : String := "ChangeGiver$Refill"
def TX1 : u_T := fun k => match k with
  | 0 => ("ChangeGiver$Refill", "added", "[I", true)
  | _ => ("ChangeGiver$Refill", "levels", "[LChangeGiver$Sums;", true)
def tyX1 : Nat → FieldType := fun k => match k with
  | 0 => .array .int
  | _ => .array (.object "ChangeGiver$Sums")
abbrev wsX10 : List Cond := u_ws RX1 TX1 2
theorem nmX1 : ∀ a, a < 2 → ∀ b, b < 2 → a ≠ b → (TX1 a).2.1 ≠ (TX1 b).2.1 := by decide +kernel
theorem tyX1_ok : ∀ k, k < 2 → parseFieldDescriptor (TX1 k).2.2.1 = some (tyX1 k) := by decide +kernel
abbrev cX1_init : ByteArray := prog_3_method_1_code
def yX1_init : MethodName := ⟨RX1, "<init>", "()V"⟩
abbrev cX1_fewest : ByteArray := prog_3_method_2_code
def yX1_fewest : MethodName := ⟨RX1, "fewest", "(LChangeGiver$Till;I)I"⟩
abbrev cX1_putsOut : ByteArray := prog_3_method_3_code
def yX1_putsOut : MethodName := ⟨RX1, "putsOut", "(LChangeGiver$Refill;LChangeGiver$Till;III)Z"⟩
abbrev cX1_isOut : ByteArray := prog_3_method_4_code
def yX1_isOut : MethodName := ⟨RX1, "isOut", "(LChangeGiver$Till;I)Z"⟩
def RX2 : String := "ChangeGiver$Sums"
def TX2 : u_T := fun k => match k with
  | _ => ("ChangeGiver$Sums", "words", "[J", true)
def tyX2 : Nat → FieldType := fun k => match k with
  | _ => .array .long
abbrev wsX20 : List Cond := u_ws RX2 TX2 1
theorem nmX2 : ∀ a, a < 1 → ∀ b, b < 1 → a ≠ b → (TX2 a).2.1 ≠ (TX2 b).2.1 := by decide +kernel
theorem tyX2_ok : ∀ k, k < 1 → parseFieldDescriptor (TX2 k).2.2.1 = some (tyX2 k) := by decide +kernel
abbrev cX2_init : ByteArray := prog_4_method_1_code
def yX2_init : MethodName := ⟨RX2, "<init>", "()V"⟩
abbrev cX2_onlyZero : ByteArray := prog_4_method_2_code
def yX2_onlyZero : MethodName := ⟨RX2, "onlyZero", "()V"⟩
abbrev cX2_copyOf : ByteArray := prog_4_method_3_code
def yX2_copyOf : MethodName := ⟨RX2, "copyOf", "(LChangeGiver$Sums;)V"⟩
abbrev cX2_addCoins : ByteArray := prog_4_method_4_code
def yX2_addCoins : MethodName := ⟨RX2, "addCoins", "(II)V"⟩
abbrev cX2_addShifted : ByteArray := prog_4_method_5_code
def yX2_addShifted : MethodName := ⟨RX2, "addShifted", "(I)V"⟩
abbrev cX2_has : ByteArray := prog_4_method_6_code
def yX2_has : MethodName := ⟨RX2, "has", "(I)Z"⟩
abbrev cX2_hasWith : ByteArray := prog_4_method_7_code
def yX2_hasWith : MethodName := ⟨RX2, "hasWith", "(II)Z"⟩
abbrev cX2_howMany : ByteArray := prog_4_method_8_code
def yX2_howMany : MethodName := ⟨RX2, "howMany", "(I)I"⟩
def RX3 : String := "ChangeGiver$Till"
def TX3 : u_T := fun k => match k with
  | 0 => ("ChangeGiver$Till", "kinds", "[LChangeGiver$Kind;", true)
  | 1 => ("ChangeGiver$Till", "byValue", "[LChangeGiver$Kind;", true)
  | 2 => ("ChangeGiver$Till", "prices", "[I", true)
  | _ => ("ChangeGiver$Till", "size", "I", false)
def tyX3 : Nat → FieldType := fun k => match k with
  | 0 => .array (.object "ChangeGiver$Kind")
  | 1 => .array (.object "ChangeGiver$Kind")
  | 2 => .array .int
  | _ => .int
abbrev wsX30 : List Cond := u_ws RX3 TX3 4
theorem nmX3 : ∀ a, a < 4 → ∀ b, b < 4 → a ≠ b → (TX3 a).2.1 ≠ (TX3 b).2.1 := by decide +kernel
theorem tyX3_ok : ∀ k, k < 4 → parseFieldDescriptor (TX3 k).2.2.1 = some (tyX3 k) := by decide +kernel
abbrev cX3_init : ByteArray := prog_5_method_1_code
def yX3_init : MethodName := ⟨RX3, "<init>", "()V"⟩
abbrev cX3_find : ByteArray := prog_5_method_2_code
def yX3_find : MethodName := ⟨RX3, "find", "(I)LChangeGiver$Kind;"⟩
abbrev cX3_findCoin : ByteArray := prog_5_method_3_code
def yX3_findCoin : MethodName := ⟨RX3, "findCoin", "(I)LChangeGiver$Kind;"⟩
abbrev cX3_add : ByteArray := prog_5_method_4_code
def yX3_add : MethodName := ⟨RX3, "add", "(IIZ)I"⟩
abbrev cX3_hasValue : ByteArray := prog_5_method_5_code
def yX3_hasValue : MethodName := ⟨RX3, "hasValue", "(I)Z"⟩
abbrev cX3_fewestInTube : ByteArray := prog_5_method_6_code
def yX3_fewestInTube : MethodName := ⟨RX3, "fewestInTube", "()I"⟩
abbrev cX3_collect : ByteArray := prog_5_method_7_code
def yX3_collect : MethodName := ⟨RX3, "collect", "(LChangeGiver$Sums;I)V"⟩
abbrev cX3_collectOneOfEach : ByteArray := prog_5_method_8_code
def yX3_collectOneOfEach : MethodName := ⟨RX3, "collectOneOfEach", "(LChangeGiver$Sums;)V"⟩
abbrev cX3_mayTake : ByteArray := prog_5_method_9_code
def yX3_mayTake : MethodName := ⟨RX3, "mayTake", "(LChangeGiver$Kind;ZLChangeGiver$Sums;II)Z"⟩
abbrev cX3_coinsInWay : ByteArray := prog_5_method_10_code
def yX3_coinsInWay : MethodName := ⟨RX3, "coinsInWay", "()I"⟩
abbrev cX3_coinsGiven : ByteArray := prog_5_method_11_code
def yX3_coinsGiven : MethodName := ⟨RX3, "coinsGiven", "()I"⟩
abbrev cX3_forgetGiven : ByteArray := prog_5_method_12_code
def yX3_forgetGiven : MethodName := ⟨RX3, "forgetGiven", "()V"⟩
abbrev cX3_tubesValue : ByteArray := prog_5_method_13_code
def yX3_tubesValue : MethodName := ⟨RX3, "tubesValue", "()I"⟩
abbrev cX3_boxValue : ByteArray := prog_5_method_14_code
def yX3_boxValue : MethodName := ⟨RX3, "boxValue", "()I"⟩
abbrev cX3_clearBox : ByteArray := prog_5_method_15_code
def yX3_clearBox : MethodName := ⟨RX3, "clearBox", "()V"⟩
def RX4 : String := "ChangeGiver$Ways"
def TX4 : u_T := fun k => match k with
  | _ => ("ChangeGiver$Ways", "fewest", "[[I", true)
def tyX4 : Nat → FieldType := fun k => match k with
  | _ => .array (.array .int)
abbrev wsX40 : List Cond := u_ws RX4 TX4 1
theorem nmX4 : ∀ a, a < 1 → ∀ b, b < 1 → a ≠ b → (TX4 a).2.1 ≠ (TX4 b).2.1 := by decide +kernel
theorem tyX4_ok : ∀ k, k < 1 → parseFieldDescriptor (TX4 k).2.2.1 = some (tyX4 k) := by decide +kernel
abbrev cX4_init : ByteArray := prog_6_method_1_code
def yX4_init : MethodName := ⟨RX4, "<init>", "()V"⟩
abbrev cX4_choose : ByteArray := prog_6_method_2_code
def yX4_choose : MethodName := ⟨RX4, "choose", "(LChangeGiver$Till;II)Z"⟩
abbrev cX4_addCoins : ByteArray := prog_6_method_3_code
def yX4_addCoins : MethodName := ⟨RX4, "addCoins", "([IIII)V"⟩
abbrev cX4_addPart : ByteArray := prog_6_method_4_code
def yX4_addPart : MethodName := ⟨RX4, "addPart", "([IIII)V"⟩
abbrev cX4_mostOfFewest : ByteArray := prog_6_method_5_code
def yX4_mostOfFewest : MethodName := ⟨RX4, "mostOfFewest", "([IIII)I"⟩
def RX5 : String := "ChangeGiver"
def TX5 : u_T := fun k => match k with
  | 0 => ("ChangeGiver", "till", "LChangeGiver$Till;", true)
  | 1 => ("ChangeGiver", "sums", "LChangeGiver$Sums;", true)
  | 2 => ("ChangeGiver", "ways", "LChangeGiver$Ways;", true)
  | 3 => ("ChangeGiver", "refill", "LChangeGiver$Refill;", true)
  | 4 => ("ChangeGiver", "books", "[I", true)
  | 5 => ("ChangeGiver", "wayMode", "I", false)
  | 6 => ("ChangeGiver", "credit", "I", false)
  | 7 => ("ChangeGiver", "owed", "I", false)
  | _ => ("ChangeGiver", "held", "I", false)
def tyX5 : Nat → FieldType := fun k => match k with
  | 0 => .object "ChangeGiver$Till"
  | 1 => .object "ChangeGiver$Sums"
  | 2 => .object "ChangeGiver$Ways"
  | 3 => .object "ChangeGiver$Refill"
  | 4 => .array .int
  | 5 => .int
  | 6 => .int
  | 7 => .int
  | _ => .int
abbrev wsX50 : List Cond := u_ws RX5 TX5 9
theorem nmX5 : ∀ a, a < 9 → ∀ b, b < 9 → a ≠ b → (TX5 a).2.1 ≠ (TX5 b).2.1 := by decide +kernel
theorem tyX5_ok : ∀ k, k < 9 → parseFieldDescriptor (TX5 k).2.2.1 = some (tyX5 k) := by decide +kernel
abbrev cX5_init : ByteArray := prog_1_method_1_code
def yX5_init : MethodName := ⟨RX5, "<init>", "()V"⟩
abbrev cX5_coin : ByteArray := prog_1_method_2_code
def yX5_coin : MethodName := ⟨RX5, "coin", "(II)I"⟩
abbrev cX5_note : ByteArray := prog_1_method_3_code
def yX5_note : MethodName := ⟨RX5, "note", "(I)I"⟩
abbrev cX5_price : ByteArray := prog_1_method_4_code
def yX5_price : MethodName := ⟨RX5, "price", "(II)Z"⟩
abbrev cX5_mode : ByteArray := prog_1_method_5_code
def yX5_mode : MethodName := ⟨RX5, "mode", "(I)Z"⟩
abbrev cX5_fill : ByteArray := prog_1_method_6_code
def yX5_fill : MethodName := ⟨RX5, "fill", "(II)Z"⟩
abbrev cX5_stuck : ByteArray := prog_1_method_7_code
def yX5_stuck : MethodName := ⟨RX5, "stuck", "(IZ)Z"⟩
abbrev cX5_jam : ByteArray := prog_1_method_8_code
def yX5_jam : MethodName := ⟨RX5, "jam", "(II)Z"⟩
abbrev cX5_put : ByteArray := prog_1_method_9_code
def yX5_put : MethodName := ⟨RX5, "put", "(I)I"⟩
abbrev cX5_takes : ByteArray := prog_1_method_10_code
def yX5_takes : MethodName := ⟨RX5, "takes", "(I)I"⟩
abbrev cX5_buy : ByteArray := prog_1_method_11_code
def yX5_buy : MethodName := ⟨RX5, "buy", "(I)I"⟩
abbrev cX5_refund : ByteArray := prog_1_method_12_code
def yX5_refund : MethodName := ⟨RX5, "refund", "()I"⟩
abbrev cX5_pay : ByteArray := prog_1_method_13_code
def yX5_pay : MethodName := ⟨RX5, "pay", "()I"⟩
abbrev cX5_gave : ByteArray := prog_1_method_14_code
def yX5_gave : MethodName := ⟨RX5, "gave", "(I)I"⟩
abbrev cX5_way : ByteArray := prog_1_method_15_code
def yX5_way : MethodName := ⟨RX5, "way", "(II)I"⟩
abbrev cX5_coins : ByteArray := prog_1_method_16_code
def yX5_coins : MethodName := ⟨RX5, "coins", "(I)I"⟩
abbrev cX5_givable : ByteArray := prog_1_method_17_code
def yX5_givable : MethodName := ⟨RX5, "givable", "(I)I"⟩
abbrev cX5_light : ByteArray := prog_1_method_18_code
def yX5_light : MethodName := ⟨RX5, "light", "()Z"⟩
abbrev cX5_need : ByteArray := prog_1_method_19_code
def yX5_need : MethodName := ⟨RX5, "need", "(I)I"⟩
abbrev cX5_look : ByteArray := prog_1_method_20_code
def yX5_look : MethodName := ⟨RX5, "look", "(I)I"⟩
abbrev cX5_kind : ByteArray := prog_1_method_21_code
def yX5_kind : MethodName := ⟨RX5, "kind", "(II)I"⟩
abbrev cX5_priced : ByteArray := prog_1_method_22_code
def yX5_priced : MethodName := ⟨RX5, "priced", "(I)I"⟩
abbrev cX5_empty : ByteArray := prog_1_method_23_code
def yX5_empty : MethodName := ⟨RX5, "empty", "()I"⟩
abbrev cX5_drain : ByteArray := prog_1_method_24_code
def yX5_drain : MethodName := ⟨RX5, "drain", "(II)Z"⟩
abbrev cX5_count : ByteArray := prog_1_method_25_code
def yX5_count : MethodName := ⟨RX5, "count", "(II)I"⟩
abbrev cX5_addKind : ByteArray := prog_1_method_26_code
def yX5_addKind : MethodName := ⟨RX5, "addKind", "(IIZ)I"⟩
abbrev cX5_heldValue : ByteArray := prog_1_method_27_code
def yX5_heldValue : MethodName := ⟨RX5, "heldValue", "()I"⟩
abbrev cX5_canTake : ByteArray := prog_1_method_28_code
def yX5_canTake : MethodName := ⟨RX5, "canTake", "(LChangeGiver$Kind;)Z"⟩
abbrev cX5_plan : ByteArray := prog_1_method_29_code
def yX5_plan : MethodName := ⟨RX5, "plan", "(I)Z"⟩
abbrev cX5_endCredit : ByteArray := prog_1_method_30_code
def yX5_endCredit : MethodName := ⟨RX5, "endCredit", "()V"⟩
abbrev cX5_giveOut : ByteArray := prog_1_method_31_code
def yX5_giveOut : MethodName := ⟨RX5, "giveOut", "(I)I"⟩
abbrev cX5_giveByWay : ByteArray := prog_1_method_32_code
def yX5_giveByWay : MethodName := ⟨RX5, "giveByWay", "(I)I"⟩
def RX6 : String := "ChangeGiverModel"
def TX6 : u_T := fun k => match k with
  | 0 => ("ChangeGiverModel", "told", "I", false)
  | 1 => ("ChangeGiverModel", "kinds", "I", false)
  | 2 => ("ChangeGiverModel", "value", "[I", true)
  | 3 => ("ChangeGiverModel", "isNote", "[Z", true)
  | 4 => ("ChangeGiverModel", "room", "[I", true)
  | 5 => ("ChangeGiverModel", "tube", "[I", true)
  | 6 => ("ChangeGiverModel", "box", "[I", true)
  | 7 => ("ChangeGiverModel", "isStuck", "[Z", true)
  | 8 => ("ChangeGiverModel", "jam", "[I", true)
  | 9 => ("ChangeGiverModel", "price", "[I", true)
  | 10 => ("ChangeGiverModel", "credit", "I", false)
  | 11 => ("ChangeGiverModel", "owed", "I", false)
  | 12 => ("ChangeGiverModel", "held", "I", false)
  | 13 => ("ChangeGiverModel", "mode", "I", false)
  | 14 => ("ChangeGiverModel", "book", "[I", true)
  | 15 => ("ChangeGiverModel", "can", "[Z", true)
  | 16 => ("ChangeGiverModel", "free", "[I", true)
  | 17 => ("ChangeGiverModel", "ranks", "I", false)
  | 18 => ("ChangeGiverModel", "ranked", "[I", true)
  | 19 => ("ChangeGiverModel", "fewest", "[I", true)
  | 20 => ("ChangeGiverModel", "use", "[I", true)
  | 21 => ("ChangeGiverModel", "given", "[I", true)
  | _ => ("ChangeGiverModel", "adds", "[I", true)
def tyX6 : Nat → FieldType := fun k => match k with
  | 0 => .int
  | 1 => .int
  | 2 => .array .int
  | 3 => .array .boolean
  | 4 => .array .int
  | 5 => .array .int
  | 6 => .array .int
  | 7 => .array .boolean
  | 8 => .array .int
  | 9 => .array .int
  | 10 => .int
  | 11 => .int
  | 12 => .int
  | 13 => .int
  | 14 => .array .int
  | 15 => .array .boolean
  | 16 => .array .int
  | 17 => .int
  | 18 => .array .int
  | 19 => .array .int
  | 20 => .array .int
  | 21 => .array .int
  | _ => .array .int
abbrev wsX60 : List Cond := u_ws RX6 TX6 23
theorem nmX6 : ∀ a, a < 23 → ∀ b, b < 23 → a ≠ b → (TX6 a).2.1 ≠ (TX6 b).2.1 := by decide +kernel
theorem tyX6_ok : ∀ k, k < 23 → parseFieldDescriptor (TX6 k).2.2.1 = some (tyX6 k) := by decide +kernel
abbrev cX6_init : ByteArray := prog_8_method_1_code
def yX6_init : MethodName := ⟨RX6, "<init>", "()V"⟩
abbrev cX6_isKind : ByteArray := prog_8_method_3_code
def yX6_isKind : MethodName := ⟨RX6, "isKind", "(I)Z"⟩
abbrev cX6_isCoin : ByteArray := prog_8_method_4_code
def yX6_isCoin : MethodName := ⟨RX6, "isCoin", "(I)Z"⟩
abbrev cX6_canCome : ByteArray := prog_8_method_5_code
def yX6_canCome : MethodName := ⟨RX6, "canCome", "(I)Z"⟩
abbrev cX6_coin : ByteArray := prog_8_method_6_code
def yX6_coin : MethodName := ⟨RX6, "coin", "(II)I"⟩
abbrev cX6_note : ByteArray := prog_8_method_7_code
def yX6_note : MethodName := ⟨RX6, "note", "(I)I"⟩
abbrev cX6_price : ByteArray := prog_8_method_8_code
def yX6_price : MethodName := ⟨RX6, "price", "(II)Z"⟩
abbrev cX6_mode : ByteArray := prog_8_method_9_code
def yX6_mode : MethodName := ⟨RX6, "mode", "(I)Z"⟩
abbrev cX6_fill : ByteArray := prog_8_method_10_code
def yX6_fill : MethodName := ⟨RX6, "fill", "(II)Z"⟩
abbrev cX6_stuck : ByteArray := prog_8_method_11_code
def yX6_stuck : MethodName := ⟨RX6, "stuck", "(IZ)Z"⟩
abbrev cX6_jam : ByteArray := prog_8_method_12_code
def yX6_jam : MethodName := ⟨RX6, "jam", "(II)Z"⟩
abbrev cX6_findSums : ByteArray := prog_8_method_13_code
def yX6_findSums : MethodName := ⟨RX6, "findSums", "()V"⟩
abbrev cX6_rank : ByteArray := prog_8_method_14_code
def yX6_rank : MethodName := ⟨RX6, "rank", "()V"⟩
abbrev cX6_mayUse : ByteArray := prog_8_method_15_code
def yX6_mayUse : MethodName := ⟨RX6, "mayUse", "(II)I"⟩
abbrev cX6_isWay : ByteArray := prog_8_method_16_code
def yX6_isWay : MethodName := ⟨RX6, "isWay", "(II)Z"⟩
abbrev cX6_findWay : ByteArray := prog_8_method_17_code
def yX6_findWay : MethodName := ⟨RX6, "findWay", "(I)Z"⟩
abbrev cX6_way : ByteArray := prog_8_method_18_code
def yX6_way : MethodName := ⟨RX6, "way", "(II)I"⟩
abbrev cX6_coins : ByteArray := prog_8_method_19_code
def yX6_coins : MethodName := ⟨RX6, "coins", "(I)I"⟩
abbrev cX6_givable : ByteArray := prog_8_method_20_code
def yX6_givable : MethodName := ⟨RX6, "givable", "(I)I"⟩
abbrev cX6_wouldTake : ByteArray := prog_8_method_21_code
def yX6_wouldTake : MethodName := ⟨RX6, "wouldTake", "(III)Z"⟩
abbrev cX6_heldValue : ByteArray := prog_8_method_22_code
def yX6_heldValue : MethodName := ⟨RX6, "heldValue", "()I"⟩
abbrev cX6_takes : ByteArray := prog_8_method_23_code
def yX6_takes : MethodName := ⟨RX6, "takes", "(I)I"⟩
abbrev cX6_put : ByteArray := prog_8_method_24_code
def yX6_put : MethodName := ⟨RX6, "put", "(I)I"⟩
abbrev cX6_nextUsed : ByteArray := prog_8_method_25_code
def yX6_nextUsed : MethodName := ⟨RX6, "nextUsed", "()I"⟩
abbrev cX6_gives : ByteArray := prog_8_method_26_code
def yX6_gives : MethodName := ⟨RX6, "gives", "(I)I"⟩
abbrev cX6_buy : ByteArray := prog_8_method_27_code
def yX6_buy : MethodName := ⟨RX6, "buy", "(I)I"⟩
abbrev cX6_refund : ByteArray := prog_8_method_28_code
def yX6_refund : MethodName := ⟨RX6, "refund", "()I"⟩
abbrev cX6_pay : ByteArray := prog_8_method_29_code
def yX6_pay : MethodName := ⟨RX6, "pay", "()I"⟩
abbrev cX6_gave : ByteArray := prog_8_method_30_code
def yX6_gave : MethodName := ⟨RX6, "gave", "(I)I"⟩
abbrev cX6_isLit : ByteArray := prog_8_method_31_code
def yX6_isLit : MethodName := ⟨RX6, "isLit", "()Z"⟩
abbrev cX6_light : ByteArray := prog_8_method_32_code
def yX6_light : MethodName := ⟨RX6, "light", "()Z"⟩
abbrev cX6_goesOn : ByteArray := prog_8_method_33_code
def yX6_goesOn : MethodName := ⟨RX6, "goesOn", "()Z"⟩
abbrev cX6_canAdd : ByteArray := prog_8_method_34_code
def yX6_canAdd : MethodName := ⟨RX6, "canAdd", "()Z"⟩
abbrev cX6_isOutBy : ByteArray := prog_8_method_35_code
def yX6_isOutBy : MethodName := ⟨RX6, "isOutBy", "(I)Z"⟩
abbrev cX6_need : ByteArray := prog_8_method_36_code
def yX6_need : MethodName := ⟨RX6, "need", "(I)I"⟩
abbrev cX6_boxed : ByteArray := prog_8_method_37_code
def yX6_boxed : MethodName := ⟨RX6, "boxed", "()I"⟩
abbrev cX6_look : ByteArray := prog_8_method_38_code
def yX6_look : MethodName := ⟨RX6, "look", "(I)I"⟩
abbrev cX6_kind : ByteArray := prog_8_method_39_code
def yX6_kind : MethodName := ⟨RX6, "kind", "(II)I"⟩
abbrev cX6_priced : ByteArray := prog_8_method_40_code
def yX6_priced : MethodName := ⟨RX6, "priced", "(I)I"⟩
abbrev cX6_empty : ByteArray := prog_8_method_41_code
def yX6_empty : MethodName := ⟨RX6, "empty", "()I"⟩
abbrev cX6_drain : ByteArray := prog_8_method_42_code
def yX6_drain : MethodName := ⟨RX6, "drain", "(II)Z"⟩
abbrev cX6_count : ByteArray := prog_8_method_43_code
def yX6_count : MethodName := ⟨RX6, "count", "(II)I"⟩
def RJ7 : String := "java/util/Arrays"
abbrev cJ7_fill_d0a16 : ByteArray := prog_11_method_101_code
def yJ7_fill_d0a16 : MethodName := ⟨RJ7, "fill", "([JJ)V"⟩
abbrev cJ7_fill_53178 : ByteArray := prog_11_method_103_code
def yJ7_fill_53178 : MethodName := ⟨RJ7, "fill", "([II)V"⟩
end
section
/-! the judgement: from every heap that holds the world ws and every array of locals that holds lv, the machine at pc with the stack st comes to its end -/
def gt : List Cond := lw_tbl.filter goodWord
theorem gt_in {w : Cond} (h : w ∈ lw_tbl) (g : goodWord w = true) : w ∈ gt := List.mem_filter.mpr ⟨h, g⟩
theorem gt_goodIn {ws : List Cond} (h : ∀ w ∈ ws, w ∈ gt) : GoodIn gt ws := fun w hw => ⟨h w hw, good_of_word (List.mem_filter.mp (h w hw)).2⟩
theorem gt_sub {w : Cond} (h : w ∈ gt) : w ∈ lw_tbl := (List.mem_filter.mp h).1
abbrev jclasses : List vw_C := [(RX0, TX0, 9), (RX1, TX1, 2), (RX2, TX2, 1), (RX3, TX3, 4), (RX4, TX4, 1), (RX5, TX5, 9), (RX6, TX6, 23)]
/-- the array classes: int, long, boolean, Kind, Sums, int[] -/
abbrev jtys (q : Nat → ClassId) : List (ClassId × FieldType) := [(q 0, .int), (q 1, .long), (q 2, .boolean), (q 3, .object RX0), (q 4, .object RX2), (q 5, .array .int)]
abbrev GT : Type := Program × Launch × Env × Room × State × MethodId × Array Value × List Frame × Method × Code × va_G × (Nat → Prop) × (State → Prop)
def jw (Γ : GT) (nL kc ks : Nat) (ws : va_W) (lv : List (Nat × Value)) (st : List Value) (pc : Nat) : Prop :=
  match Γ with
  | (p, l, e, R, s, m, args, below, meth, c, D, A, Q) => ∀ (H : Heap) (locs : List Loc) (ls : Array Slot), va_P D jclasses ws H → va_D A ws → va_S A s.heap H locs → lv_has ls nL lv → W p l e R s m args below meth c H locs kc ks Q (F0 m pc ls st)
def gd (Γ : GT) (cc : ByteArray) (own : String) (nL : Nat) (rm : Room) (q : Nat → ClassId) : Prop :=
  match Γ with
  | (p, _, _, R, s, m, args, _, _, c, D, A, _) => p.tables.exec = Jvm.exec ∧ c.code = cc ∧ c.maxLocals = nL ∧ s.vm.findClass own = some m.cls ∧ (∀ w ∈ gt, w.before args s = true) ∧ va_K D jclasses (jtys q) s ∧ (∀ z, s.heap.size ≤ z → A z) ∧ R = rm
/-- the room of a method that makes nothing -/
abbrev rmz (fr lo : Nat) : Room := { frames := fr, cells := 0, slots := 0, locals := lo }
section JW
variable {Γ : GT} {cc : ByteArray} {own : String} {nL kc ks : Nat} {rm : Room} {q : Nat → ClassId} {ws : va_W} {lv : List (Nat × Value)} {st : List Value} {pc : Nat}

theorem j_iconst (g : gd Γ cc own nL rm q) {n : Int} {v : Int32} (hv : Int32.ofInt n = v) (hd : decode cc pc = .ok (.iconst n, 1)) (k : jw Γ nL kc ks ws lv (.int v :: st) (pc + 1)) : jw Γ nL kc ks ws lv st pc := by
  obtain ⟨p, l, e, R, s, m, args, below, meth, c, D, A, Q⟩ := Γ
  obtain ⟨hx, hb, hml, hown, hts, hK, hA, hR⟩ := g
  intro H locs ls hP hD hS hl
  exact lv_iconst hx hb hd hv (k H locs ls hP hD hS hl)

theorem j_bipush (g : gd Γ cc own nL rm q) {n : Int} {v : Int32} (hv : (Int8.ofInt n).toInt32 = v) (hd : decode cc pc = .ok (.bipush n, 2)) (k : jw Γ nL kc ks ws lv (.int v :: st) (pc + 2)) : jw Γ nL kc ks ws lv st pc := by
  obtain ⟨p, l, e, R, s, m, args, below, meth, c, D, A, Q⟩ := Γ
  obtain ⟨hx, hb, hml, hown, hts, hK, hA, hR⟩ := g
  intro H locs ls hP hD hS hl
  exact lv_bipush hx hb hd hv (k H locs ls hP hD hS hl)

theorem j_sipush (g : gd Γ cc own nL rm q) {n : Int} {v : Int32} (hv : (Int16.ofInt n).toInt32 = v) (hd : decode cc pc = .ok (.sipush n, 3)) (k : jw Γ nL kc ks ws lv (.int v :: st) (pc + 3)) : jw Γ nL kc ks ws lv st pc := by
  obtain ⟨p, l, e, R, s, m, args, below, meth, c, D, A, Q⟩ := Γ
  obtain ⟨hx, hb, hml, hown, hts, hK, hA, hR⟩ := g
  intro H locs ls hP hD hS hl
  exact lv_sipush hx hb hd hv (k H locs ls hP hD hS hl)

theorem j_lconst (g : gd Γ cc own nL rm q) {n : Fin 2} {v : Int64} (hv : Int64.ofInt (n : Nat) = v) (hd : decode cc pc = .ok (.lconst n, 1)) (k : jw Γ nL kc ks ws lv (.long v :: st) (pc + 1)) : jw Γ nL kc ks ws lv st pc := by
  obtain ⟨p, l, e, R, s, m, args, below, meth, c, D, A, Q⟩ := Γ
  obtain ⟨hx, hb, hml, hown, hts, hK, hA, hR⟩ := g
  intro H locs ls hP hD hS hl
  exact lv_lconst hx hb hd hv (k H locs ls hP hD hS hl)

theorem j_null (g : gd Γ cc own nL rm q)  (hd : decode cc pc = .ok (.aconst_null, 1)) (k : jw Γ nL kc ks ws lv (.null :: st) (pc + 1)) : jw Γ nL kc ks ws lv st pc := by
  obtain ⟨p, l, e, R, s, m, args, below, meth, c, D, A, Q⟩ := Γ
  obtain ⟨hx, hb, hml, hown, hts, hK, hA, hR⟩ := g
  intro H locs ls hP hD hS hl
  exact lv_null hx hb hd (k H locs ls hP hD hS hl)

theorem j_ldc (g : gd Γ cc own nL rm q) {index : Nat} {v : Int32} (hc : Cond.constant own index v ∈ gt) (hd : decode cc pc = .ok (.ldc index, 2)) (k : jw Γ nL kc ks ws lv (.int v :: st) (pc + 2)) : jw Γ nL kc ks ws lv st pc := by
  obtain ⟨p, l, e, R, s, m, args, below, meth, c, D, A, Q⟩ := Γ
  obtain ⟨hx, hb, hml, hown, hts, hK, hA, hR⟩ := g
  intro H locs ls hP hD hS hl
  exact lv_ldc hx hb hown (hts _ hc) hd (k H locs ls hP hD hS hl)

theorem j_iload_n (g : gd Γ cc own nL rm q) {i : Fin 4} {x : Int32} (z : Nat) (hz : lv[z]? = some ((i : Nat), .int x)) (hd : decode cc pc = .ok (.iload_n i, 1)) (k : jw Γ nL kc ks ws lv (.int x :: st) (pc + 1)) : jw Γ nL kc ks ws lv st pc := by
  obtain ⟨p, l, e, R, s, m, args, below, meth, c, D, A, Q⟩ := Γ
  obtain ⟨hx, hb, hml, hown, hts, hK, hA, hR⟩ := g
  intro H locs ls hP hD hS hl
  exact lv_iload_n hx hb hd rfl (lv_at hl z hz) (k H locs ls hP hD hS hl)

theorem j_iload (g : gd Γ cc own nL rm q) {i : Nat} {x : Int32} (z : Nat) (hz : lv[z]? = some (i, .int x)) (hd : decode cc pc = .ok (.iload i, 2)) (k : jw Γ nL kc ks ws lv (.int x :: st) (pc + 2)) : jw Γ nL kc ks ws lv st pc := by
  obtain ⟨p, l, e, R, s, m, args, below, meth, c, D, A, Q⟩ := Γ
  obtain ⟨hx, hb, hml, hown, hts, hK, hA, hR⟩ := g
  intro H locs ls hP hD hS hl
  exact lv_iload hx hb hd (lv_at hl z hz) (k H locs ls hP hD hS hl)

theorem j_lload_n (g : gd Γ cc own nL rm q) {i : Fin 4} {x : Int64} (z : Nat) (hz : lv[z]? = some ((i : Nat), .long x)) (hd : decode cc pc = .ok (.lload_n i, 1)) (k : jw Γ nL kc ks ws lv (.long x :: st) (pc + 1)) : jw Γ nL kc ks ws lv st pc := by
  obtain ⟨p, l, e, R, s, m, args, below, meth, c, D, A, Q⟩ := Γ
  obtain ⟨hx, hb, hml, hown, hts, hK, hA, hR⟩ := g
  intro H locs ls hP hD hS hl
  exact lv_lload_n hx hb hd rfl (lv_at hl z hz) (k H locs ls hP hD hS hl)

theorem j_lload (g : gd Γ cc own nL rm q) {i : Nat} {x : Int64} (z : Nat) (hz : lv[z]? = some (i, .long x)) (hd : decode cc pc = .ok (.lload i, 2)) (k : jw Γ nL kc ks ws lv (.long x :: st) (pc + 2)) : jw Γ nL kc ks ws lv st pc := by
  obtain ⟨p, l, e, R, s, m, args, below, meth, c, D, A, Q⟩ := Γ
  obtain ⟨hx, hb, hml, hown, hts, hK, hA, hR⟩ := g
  intro H locs ls hP hD hS hl
  exact lv_lload hx hb hd (lv_at hl z hz) (k H locs ls hP hD hS hl)

theorem j_aload_n (g : gd Γ cc own nL rm q) {i : Fin 4} {x : Nat} (z : Nat) (hz : lv[z]? = some ((i : Nat), .ref x)) (hd : decode cc pc = .ok (.aload_n i, 1)) (k : jw Γ nL kc ks ws lv (.ref x :: st) (pc + 1)) : jw Γ nL kc ks ws lv st pc := by
  obtain ⟨p, l, e, R, s, m, args, below, meth, c, D, A, Q⟩ := Γ
  obtain ⟨hx, hb, hml, hown, hts, hK, hA, hR⟩ := g
  intro H locs ls hP hD hS hl
  exact lv_aload_n hx hb hd rfl (lv_at hl z hz) (k H locs ls hP hD hS hl)

theorem j_aload (g : gd Γ cc own nL rm q) {i : Nat} {x : Nat} (z : Nat) (hz : lv[z]? = some (i, .ref x)) (hd : decode cc pc = .ok (.aload i, 2)) (k : jw Γ nL kc ks ws lv (.ref x :: st) (pc + 2)) : jw Γ nL kc ks ws lv st pc := by
  obtain ⟨p, l, e, R, s, m, args, below, meth, c, D, A, Q⟩ := Γ
  obtain ⟨hx, hb, hml, hown, hts, hK, hA, hR⟩ := g
  intro H locs ls hP hD hS hl
  exact lv_aload hx hb hd (lv_at hl z hz) (k H locs ls hP hD hS hl)

theorem j_aload_nN (g : gd Γ cc own nL rm q) {i : Fin 4} (z : Nat) (hz : lv[z]? = some ((i : Nat), .null)) (hd : decode cc pc = .ok (.aload_n i, 1)) (k : jw Γ nL kc ks ws lv (.null :: st) (pc + 1)) : jw Γ nL kc ks ws lv st pc := by
  obtain ⟨p, l, e, R, s, m, args, below, meth, c, D, A, Q⟩ := Γ
  obtain ⟨hx, hb, hml, hown, hts, hK, hA, hR⟩ := g
  intro H locs ls hP hD hS hl
  exact lv_aload_nN hx hb hd rfl (lv_at hl z hz) (k H locs ls hP hD hS hl)

theorem j_aloadN (g : gd Γ cc own nL rm q) {i : Nat} (z : Nat) (hz : lv[z]? = some (i, .null)) (hd : decode cc pc = .ok (.aload i, 2)) (k : jw Γ nL kc ks ws lv (.null :: st) (pc + 2)) : jw Γ nL kc ks ws lv st pc := by
  obtain ⟨p, l, e, R, s, m, args, below, meth, c, D, A, Q⟩ := Γ
  obtain ⟨hx, hb, hml, hown, hts, hK, hA, hR⟩ := g
  intro H locs ls hP hD hS hl
  exact lv_aloadN hx hb hd (lv_at hl z hz) (k H locs ls hP hD hS hl)

theorem j_istore_n (g : gd Γ cc own nL rm q) {i : Fin 4} {x : Int32} {lv' : List (Nat × Value)} (hn : (i : Nat) < nL) (hv : ((i : Nat), Value.int x) :: lv.filter (fun q => !(q.1 == (i : Nat)) && !(q.1 + 1 == (i : Nat) && q.2.category == 2)) = lv') (hd : decode cc pc = .ok (.istore_n i, 1)) (k : jw Γ nL kc ks ws lv' st (pc + 1)) : jw Γ nL kc ks ws lv (.int x :: st) pc := by
  obtain ⟨p, l, e, R, s, m, args, below, meth, c, D, A, Q⟩ := Γ
  obtain ⟨hx, hb, hml, hown, hts, hK, hA, hR⟩ := g
  intro H locs ls hP hD hS hl
  exact lv_istore_n hx hb hd rfl hl hn hv (fun ls hl => k H locs ls hP hD hS hl)

theorem j_istore (g : gd Γ cc own nL rm q) {i : Nat} {x : Int32} {lv' : List (Nat × Value)} (hn : i < nL) (hv : (i, Value.int x) :: lv.filter (fun q => !(q.1 == i) && !(q.1 + 1 == i && q.2.category == 2)) = lv') (hd : decode cc pc = .ok (.istore i, 2)) (k : jw Γ nL kc ks ws lv' st (pc + 2)) : jw Γ nL kc ks ws lv (.int x :: st) pc := by
  obtain ⟨p, l, e, R, s, m, args, below, meth, c, D, A, Q⟩ := Γ
  obtain ⟨hx, hb, hml, hown, hts, hK, hA, hR⟩ := g
  intro H locs ls hP hD hS hl
  exact lv_istore hx hb hd hl hn hv (fun ls hl => k H locs ls hP hD hS hl)

theorem j_astore_n (g : gd Γ cc own nL rm q) {i : Fin 4} {x : Nat} {lv' : List (Nat × Value)} (hn : (i : Nat) < nL) (hv : ((i : Nat), Value.ref x) :: lv.filter (fun q => !(q.1 == (i : Nat)) && !(q.1 + 1 == (i : Nat) && q.2.category == 2)) = lv') (hd : decode cc pc = .ok (.astore_n i, 1)) (k : jw Γ nL kc ks ws lv' st (pc + 1)) : jw Γ nL kc ks ws lv (.ref x :: st) pc := by
  obtain ⟨p, l, e, R, s, m, args, below, meth, c, D, A, Q⟩ := Γ
  obtain ⟨hx, hb, hml, hown, hts, hK, hA, hR⟩ := g
  intro H locs ls hP hD hS hl
  exact lv_astore_n hx hb hd rfl hl hn hv (fun ls hl => k H locs ls hP hD hS hl)

theorem j_astore (g : gd Γ cc own nL rm q) {i : Nat} {x : Nat} {lv' : List (Nat × Value)} (hn : i < nL) (hv : (i, Value.ref x) :: lv.filter (fun q => !(q.1 == i) && !(q.1 + 1 == i && q.2.category == 2)) = lv') (hd : decode cc pc = .ok (.astore i, 2)) (k : jw Γ nL kc ks ws lv' st (pc + 2)) : jw Γ nL kc ks ws lv (.ref x :: st) pc := by
  obtain ⟨p, l, e, R, s, m, args, below, meth, c, D, A, Q⟩ := Γ
  obtain ⟨hx, hb, hml, hown, hts, hK, hA, hR⟩ := g
  intro H locs ls hP hD hS hl
  exact lv_astore hx hb hd hl hn hv (fun ls hl => k H locs ls hP hD hS hl)

theorem j_astore_nN (g : gd Γ cc own nL rm q) {i : Fin 4} {lv' : List (Nat × Value)} (hn : (i : Nat) < nL) (hv : ((i : Nat), Value.null) :: lv.filter (fun q => !(q.1 == (i : Nat)) && !(q.1 + 1 == (i : Nat) && q.2.category == 2)) = lv') (hd : decode cc pc = .ok (.astore_n i, 1)) (k : jw Γ nL kc ks ws lv' st (pc + 1)) : jw Γ nL kc ks ws lv (.null :: st) pc := by
  obtain ⟨p, l, e, R, s, m, args, below, meth, c, D, A, Q⟩ := Γ
  obtain ⟨hx, hb, hml, hown, hts, hK, hA, hR⟩ := g
  intro H locs ls hP hD hS hl
  exact lv_astore_nN hx hb hd rfl hl hn hv (fun ls hl => k H locs ls hP hD hS hl)

theorem j_astoreN (g : gd Γ cc own nL rm q) {i : Nat} {lv' : List (Nat × Value)} (hn : i < nL) (hv : (i, Value.null) :: lv.filter (fun q => !(q.1 == i) && !(q.1 + 1 == i && q.2.category == 2)) = lv') (hd : decode cc pc = .ok (.astore i, 2)) (k : jw Γ nL kc ks ws lv' st (pc + 2)) : jw Γ nL kc ks ws lv (.null :: st) pc := by
  obtain ⟨p, l, e, R, s, m, args, below, meth, c, D, A, Q⟩ := Γ
  obtain ⟨hx, hb, hml, hown, hts, hK, hA, hR⟩ := g
  intro H locs ls hP hD hS hl
  exact lv_astoreN hx hb hd hl hn hv (fun ls hl => k H locs ls hP hD hS hl)

theorem j_iinc (g : gd Γ cc own nL rm q) {i : Nat} {n : Int} {x v : Int32} {lv' : List (Nat × Value)} (z : Nat) (hz : lv[z]? = some (i, .int x)) (he : x + Int32.ofInt n = v) (hn : i < nL) (hv : (i, Value.int v) :: lv.filter (fun q => !(q.1 == i) && !(q.1 + 1 == i && q.2.category == 2)) = lv') (hd : decode cc pc = .ok (.iinc i n, 3)) (k : jw Γ nL kc ks ws lv' st (pc + 3)) : jw Γ nL kc ks ws lv st pc := by
  obtain ⟨p, l, e, R, s, m, args, below, meth, c, D, A, Q⟩ := Γ
  obtain ⟨hx, hb, hml, hown, hts, hK, hA, hR⟩ := g
  intro H locs ls hP hD hS hl
  exact lv_iinc hx hb hd hl hz he hn hv (fun ls hl => k H locs ls hP hD hS hl)

theorem j_sub {lv' : List (Nat × Value)} (zs : List Nat) (h : lv_pick lv zs = lv') (k : jw Γ nL kc ks ws lv' st pc) : jw Γ nL kc ks ws lv st pc := by
  obtain ⟨p, l, e, R, s, m, args, below, meth, c, D, A, Q⟩ := Γ
  intro H locs ls hP hD hS hl
  exact k H locs ls hP hD hS (lv_sub hl zs h)
theorem j_ws {ws' : va_W} (h : ws = ws') (k : jw Γ nL kc ks ws' lv st pc) : jw Γ nL kc ks ws lv st pc := h ▸ k
theorem j_st {st' : List Value} (h : st = st') (k : jw Γ nL kc ks ws lv st' pc) : jw Γ nL kc ks ws lv st pc := h ▸ k

theorem j_iadd (g : gd Γ cc own nL rm q) {x y : Int32} (hd : decode cc pc = .ok (.iadd, 1)) (k : jw Γ nL kc ks ws lv (.int (x + y) :: st) (pc + 1)) : jw Γ nL kc ks ws lv (.int y :: .int x :: st) pc := by
  obtain ⟨p, l, e, R, s, m, args, below, meth, c, D, A, Q⟩ := Γ
  obtain ⟨hx, hb, hml, hown, hts, hK, hA, hR⟩ := g
  intro H locs ls hP hD hS hl
  exact lv_iadd hx hb hd (k H locs ls hP hD hS hl)

theorem j_isub (g : gd Γ cc own nL rm q) {x y : Int32} (hd : decode cc pc = .ok (.isub, 1)) (k : jw Γ nL kc ks ws lv (.int (x - y) :: st) (pc + 1)) : jw Γ nL kc ks ws lv (.int y :: .int x :: st) pc := by
  obtain ⟨p, l, e, R, s, m, args, below, meth, c, D, A, Q⟩ := Γ
  obtain ⟨hx, hb, hml, hown, hts, hK, hA, hR⟩ := g
  intro H locs ls hP hD hS hl
  exact lv_isub hx hb hd (k H locs ls hP hD hS hl)

theorem j_imul (g : gd Γ cc own nL rm q) {x y : Int32} (hd : decode cc pc = .ok (.imul, 1)) (k : jw Γ nL kc ks ws lv (.int (x * y) :: st) (pc + 1)) : jw Γ nL kc ks ws lv (.int y :: .int x :: st) pc := by
  obtain ⟨p, l, e, R, s, m, args, below, meth, c, D, A, Q⟩ := Γ
  obtain ⟨hx, hb, hml, hown, hts, hK, hA, hR⟩ := g
  intro H locs ls hP hD hS hl
  exact lv_imul hx hb hd (k H locs ls hP hD hS hl)

theorem j_iand (g : gd Γ cc own nL rm q) {x y : Int32} (hd : decode cc pc = .ok (.iand, 1)) (k : jw Γ nL kc ks ws lv (.int (x &&& y) :: st) (pc + 1)) : jw Γ nL kc ks ws lv (.int y :: .int x :: st) pc := by
  obtain ⟨p, l, e, R, s, m, args, below, meth, c, D, A, Q⟩ := Γ
  obtain ⟨hx, hb, hml, hown, hts, hK, hA, hR⟩ := g
  intro H locs ls hP hD hS hl
  exact lv_iand hx hb hd (k H locs ls hP hD hS hl)

theorem j_idiv (g : gd Γ cc own nL rm q) {x y : Int32} (hy : ¬ y = 0) (hd : decode cc pc = .ok (.idiv, 1)) (k : jw Γ nL kc ks ws lv (.int (x / y) :: st) (pc + 1)) : jw Γ nL kc ks ws lv (.int y :: .int x :: st) pc := by
  obtain ⟨p, l, e, R, s, m, args, below, meth, c, D, A, Q⟩ := Γ
  obtain ⟨hx, hb, hml, hown, hts, hK, hA, hR⟩ := g
  intro H locs ls hP hD hS hl
  exact lv_idiv hx hb hd hy (k H locs ls hP hD hS hl)

theorem j_irem (g : gd Γ cc own nL rm q) {x y : Int32} (hy : ¬ y = 0) (hd : decode cc pc = .ok (.irem, 1)) (k : jw Γ nL kc ks ws lv (.int (x - x / y * y) :: st) (pc + 1)) : jw Γ nL kc ks ws lv (.int y :: .int x :: st) pc := by
  obtain ⟨p, l, e, R, s, m, args, below, meth, c, D, A, Q⟩ := Γ
  obtain ⟨hx, hb, hml, hown, hts, hK, hA, hR⟩ := g
  intro H locs ls hP hD hS hl
  exact lv_irem hx hb hd hy (k H locs ls hP hD hS hl)

theorem j_land (g : gd Γ cc own nL rm q) {x y : Int64} (hd : decode cc pc = .ok (.land, 1)) (k : jw Γ nL kc ks ws lv (.long (x &&& y) :: st) (pc + 1)) : jw Γ nL kc ks ws lv (.long y :: .long x :: st) pc := by
  obtain ⟨p, l, e, R, s, m, args, below, meth, c, D, A, Q⟩ := Γ
  obtain ⟨hx, hb, hml, hown, hts, hK, hA, hR⟩ := g
  intro H locs ls hP hD hS hl
  exact lv_land hx hb hd (k H locs ls hP hD hS hl)

theorem j_lor (g : gd Γ cc own nL rm q) {x y : Int64} (hd : decode cc pc = .ok (.lor, 1)) (k : jw Γ nL kc ks ws lv (.long (x ||| y) :: st) (pc + 1)) : jw Γ nL kc ks ws lv (.long y :: .long x :: st) pc := by
  obtain ⟨p, l, e, R, s, m, args, below, meth, c, D, A, Q⟩ := Γ
  obtain ⟨hx, hb, hml, hown, hts, hK, hA, hR⟩ := g
  intro H locs ls hP hD hS hl
  exact lv_lor hx hb hd (k H locs ls hP hD hS hl)

theorem j_lushr (g : gd Γ cc own nL rm q) {x : Int64} {y : Int32} (hd : decode cc pc = .ok (.lushr, 1)) (k : jw Γ nL kc ks ws lv (.long ((x.toUInt64 >>> (y.toInt64.toUInt64 &&& Int64.toUInt64 63)).toInt64) :: st) (pc + 1)) : jw Γ nL kc ks ws lv (.int y :: .long x :: st) pc := by
  obtain ⟨p, l, e, R, s, m, args, below, meth, c, D, A, Q⟩ := Γ
  obtain ⟨hx, hb, hml, hown, hts, hK, hA, hR⟩ := g
  intro H locs ls hP hD hS hl
  exact lv_lushr hx hb hd rfl (k H locs ls hP hD hS hl)

theorem j_lshl (g : gd Γ cc own nL rm q) {x : Int64} {y : Int32} (hd : decode cc pc = .ok (.lshl, 1)) (k : jw Γ nL kc ks ws lv (.long (x <<< (y.toInt64 &&& 63)) :: st) (pc + 1)) : jw Γ nL kc ks ws lv (.int y :: .long x :: st) pc := by
  obtain ⟨p, l, e, R, s, m, args, below, meth, c, D, A, Q⟩ := Γ
  obtain ⟨hx, hb, hml, hown, hts, hK, hA, hR⟩ := g
  intro H locs ls hP hD hS hl
  exact lv_lshl hx hb hd rfl (k H locs ls hP hD hS hl)

theorem j_dup (g : gd Γ cc own nL rm q) {v : Value} (hv : v.category = 1) (hd : decode cc pc = .ok (.dup, 1)) (k : jw Γ nL kc ks ws lv (v :: v :: st) (pc + 1)) : jw Γ nL kc ks ws lv (v :: st) pc := by
  obtain ⟨p, l, e, R, s, m, args, below, meth, c, D, A, Q⟩ := Γ
  obtain ⟨hx, hb, hml, hown, hts, hK, hA, hR⟩ := g
  intro H locs ls hP hD hS hl
  exact lv_dup hx hb hd hv (k H locs ls hP hD hS hl)

theorem j_dup2 (g : gd Γ cc own nL rm q) {v u : Value} (hv : v.category = 1) (hu : u.category = 1) (hd : decode cc pc = .ok (.dup2, 1)) (k : jw Γ nL kc ks ws lv (v :: u :: v :: u :: st) (pc + 1)) : jw Γ nL kc ks ws lv (v :: u :: st) pc := by
  obtain ⟨p, l, e, R, s, m, args, below, meth, c, D, A, Q⟩ := Γ
  obtain ⟨hx, hb, hml, hown, hts, hK, hA, hR⟩ := g
  intro H locs ls hP hD hS hl
  exact lv_dup2_11 hx hb hd hv hu (k H locs ls hP hD hS hl)

-- CONDS
theorem j_icmp_eq (g : gd Γ cc own nL rm q) {x y : Int32} {off : Int} {tgt : Nat} (hd : decode cc pc = .ok (.if_icmp .eq off, 3)) (ht : (pc : Int) + off = (tgt : Int)) (kt : x = y → jw Γ nL kc ks ws lv st tgt) (kf : ¬ x = y → jw Γ nL kc ks ws lv st (pc + 3)) : jw Γ nL kc ks ws lv (.int y :: .int x :: st) pc := by
  obtain ⟨p, l, e, R, s, m, args, below, meth, c, D, A, Q⟩ := Γ
  obtain ⟨hx, hb, hml, hown, hts, hK, hA, hR⟩ := g
  intro H locs ls hP hD hS hl
  exact lv_icmp_eq hx hb hd ht (fun h => kt h H locs ls hP hD hS hl) (fun h => kf h H locs ls hP hD hS hl)

theorem j_icmp_ne (g : gd Γ cc own nL rm q) {x y : Int32} {off : Int} {tgt : Nat} (hd : decode cc pc = .ok (.if_icmp .ne off, 3)) (ht : (pc : Int) + off = (tgt : Int)) (kt : ¬ x = y → jw Γ nL kc ks ws lv st tgt) (kf : x = y → jw Γ nL kc ks ws lv st (pc + 3)) : jw Γ nL kc ks ws lv (.int y :: .int x :: st) pc := by
  obtain ⟨p, l, e, R, s, m, args, below, meth, c, D, A, Q⟩ := Γ
  obtain ⟨hx, hb, hml, hown, hts, hK, hA, hR⟩ := g
  intro H locs ls hP hD hS hl
  exact lv_icmp_ne hx hb hd ht (fun h => kt h H locs ls hP hD hS hl) (fun h => kf h H locs ls hP hD hS hl)

theorem j_icmp_lt (g : gd Γ cc own nL rm q) {x y : Int32} {off : Int} {tgt : Nat} (hd : decode cc pc = .ok (.if_icmp .lt off, 3)) (ht : (pc : Int) + off = (tgt : Int)) (kt : x < y → jw Γ nL kc ks ws lv st tgt) (kf : ¬ x < y → jw Γ nL kc ks ws lv st (pc + 3)) : jw Γ nL kc ks ws lv (.int y :: .int x :: st) pc := by
  obtain ⟨p, l, e, R, s, m, args, below, meth, c, D, A, Q⟩ := Γ
  obtain ⟨hx, hb, hml, hown, hts, hK, hA, hR⟩ := g
  intro H locs ls hP hD hS hl
  exact lv_icmp_lt hx hb hd ht (fun h => kt h H locs ls hP hD hS hl) (fun h => kf h H locs ls hP hD hS hl)

theorem j_icmp_ge (g : gd Γ cc own nL rm q) {x y : Int32} {off : Int} {tgt : Nat} (hd : decode cc pc = .ok (.if_icmp .ge off, 3)) (ht : (pc : Int) + off = (tgt : Int)) (kt : y ≤ x → jw Γ nL kc ks ws lv st tgt) (kf : ¬ y ≤ x → jw Γ nL kc ks ws lv st (pc + 3)) : jw Γ nL kc ks ws lv (.int y :: .int x :: st) pc := by
  obtain ⟨p, l, e, R, s, m, args, below, meth, c, D, A, Q⟩ := Γ
  obtain ⟨hx, hb, hml, hown, hts, hK, hA, hR⟩ := g
  intro H locs ls hP hD hS hl
  exact lv_icmp_ge hx hb hd ht (fun h => kt h H locs ls hP hD hS hl) (fun h => kf h H locs ls hP hD hS hl)

theorem j_icmp_gt (g : gd Γ cc own nL rm q) {x y : Int32} {off : Int} {tgt : Nat} (hd : decode cc pc = .ok (.if_icmp .gt off, 3)) (ht : (pc : Int) + off = (tgt : Int)) (kt : y < x → jw Γ nL kc ks ws lv st tgt) (kf : ¬ y < x → jw Γ nL kc ks ws lv st (pc + 3)) : jw Γ nL kc ks ws lv (.int y :: .int x :: st) pc := by
  obtain ⟨p, l, e, R, s, m, args, below, meth, c, D, A, Q⟩ := Γ
  obtain ⟨hx, hb, hml, hown, hts, hK, hA, hR⟩ := g
  intro H locs ls hP hD hS hl
  exact lv_icmp_gt hx hb hd ht (fun h => kt h H locs ls hP hD hS hl) (fun h => kf h H locs ls hP hD hS hl)

theorem j_icmp_le (g : gd Γ cc own nL rm q) {x y : Int32} {off : Int} {tgt : Nat} (hd : decode cc pc = .ok (.if_icmp .le off, 3)) (ht : (pc : Int) + off = (tgt : Int)) (kt : x ≤ y → jw Γ nL kc ks ws lv st tgt) (kf : ¬ x ≤ y → jw Γ nL kc ks ws lv st (pc + 3)) : jw Γ nL kc ks ws lv (.int y :: .int x :: st) pc := by
  obtain ⟨p, l, e, R, s, m, args, below, meth, c, D, A, Q⟩ := Γ
  obtain ⟨hx, hb, hml, hown, hts, hK, hA, hR⟩ := g
  intro H locs ls hP hD hS hl
  exact lv_icmp_le hx hb hd ht (fun h => kt h H locs ls hP hD hS hl) (fun h => kf h H locs ls hP hD hS hl)

theorem j_if_eq (g : gd Γ cc own nL rm q) {x : Int32} {off : Int} {tgt : Nat} (hd : decode cc pc = .ok (.ifCond .eq off, 3)) (ht : (pc : Int) + off = (tgt : Int)) (kt : x = 0 → jw Γ nL kc ks ws lv st tgt) (kf : ¬ x = 0 → jw Γ nL kc ks ws lv st (pc + 3)) : jw Γ nL kc ks ws lv (.int x :: st) pc := by
  obtain ⟨p, l, e, R, s, m, args, below, meth, c, D, A, Q⟩ := Γ
  obtain ⟨hx, hb, hml, hown, hts, hK, hA, hR⟩ := g
  intro H locs ls hP hD hS hl
  exact lv_if_eq hx hb hd ht (fun h => kt h H locs ls hP hD hS hl) (fun h => kf h H locs ls hP hD hS hl)

theorem j_if_ne (g : gd Γ cc own nL rm q) {x : Int32} {off : Int} {tgt : Nat} (hd : decode cc pc = .ok (.ifCond .ne off, 3)) (ht : (pc : Int) + off = (tgt : Int)) (kt : ¬ x = 0 → jw Γ nL kc ks ws lv st tgt) (kf : x = 0 → jw Γ nL kc ks ws lv st (pc + 3)) : jw Γ nL kc ks ws lv (.int x :: st) pc := by
  obtain ⟨p, l, e, R, s, m, args, below, meth, c, D, A, Q⟩ := Γ
  obtain ⟨hx, hb, hml, hown, hts, hK, hA, hR⟩ := g
  intro H locs ls hP hD hS hl
  exact lv_if_ne hx hb hd ht (fun h => kt h H locs ls hP hD hS hl) (fun h => kf h H locs ls hP hD hS hl)

theorem j_if_lt (g : gd Γ cc own nL rm q) {x : Int32} {off : Int} {tgt : Nat} (hd : decode cc pc = .ok (.ifCond .lt off, 3)) (ht : (pc : Int) + off = (tgt : Int)) (kt : x < 0 → jw Γ nL kc ks ws lv st tgt) (kf : ¬ x < 0 → jw Γ nL kc ks ws lv st (pc + 3)) : jw Γ nL kc ks ws lv (.int x :: st) pc := by
  obtain ⟨p, l, e, R, s, m, args, below, meth, c, D, A, Q⟩ := Γ
  obtain ⟨hx, hb, hml, hown, hts, hK, hA, hR⟩ := g
  intro H locs ls hP hD hS hl
  exact lv_if_lt hx hb hd ht (fun h => kt h H locs ls hP hD hS hl) (fun h => kf h H locs ls hP hD hS hl)

theorem j_if_ge (g : gd Γ cc own nL rm q) {x : Int32} {off : Int} {tgt : Nat} (hd : decode cc pc = .ok (.ifCond .ge off, 3)) (ht : (pc : Int) + off = (tgt : Int)) (kt : 0 ≤ x → jw Γ nL kc ks ws lv st tgt) (kf : ¬ 0 ≤ x → jw Γ nL kc ks ws lv st (pc + 3)) : jw Γ nL kc ks ws lv (.int x :: st) pc := by
  obtain ⟨p, l, e, R, s, m, args, below, meth, c, D, A, Q⟩ := Γ
  obtain ⟨hx, hb, hml, hown, hts, hK, hA, hR⟩ := g
  intro H locs ls hP hD hS hl
  exact lv_if_ge hx hb hd ht (fun h => kt h H locs ls hP hD hS hl) (fun h => kf h H locs ls hP hD hS hl)

theorem j_if_gt (g : gd Γ cc own nL rm q) {x : Int32} {off : Int} {tgt : Nat} (hd : decode cc pc = .ok (.ifCond .gt off, 3)) (ht : (pc : Int) + off = (tgt : Int)) (kt : 0 < x → jw Γ nL kc ks ws lv st tgt) (kf : ¬ 0 < x → jw Γ nL kc ks ws lv st (pc + 3)) : jw Γ nL kc ks ws lv (.int x :: st) pc := by
  obtain ⟨p, l, e, R, s, m, args, below, meth, c, D, A, Q⟩ := Γ
  obtain ⟨hx, hb, hml, hown, hts, hK, hA, hR⟩ := g
  intro H locs ls hP hD hS hl
  exact lv_if_gt hx hb hd ht (fun h => kt h H locs ls hP hD hS hl) (fun h => kf h H locs ls hP hD hS hl)

theorem j_if_le (g : gd Γ cc own nL rm q) {x : Int32} {off : Int} {tgt : Nat} (hd : decode cc pc = .ok (.ifCond .le off, 3)) (ht : (pc : Int) + off = (tgt : Int)) (kt : x ≤ 0 → jw Γ nL kc ks ws lv st tgt) (kf : ¬ x ≤ 0 → jw Γ nL kc ks ws lv st (pc + 3)) : jw Γ nL kc ks ws lv (.int x :: st) pc := by
  obtain ⟨p, l, e, R, s, m, args, below, meth, c, D, A, Q⟩ := Γ
  obtain ⟨hx, hb, hml, hown, hts, hK, hA, hR⟩ := g
  intro H locs ls hP hD hS hl
  exact lv_if_le hx hb hd ht (fun h => kt h H locs ls hP hD hS hl) (fun h => kf h H locs ls hP hD hS hl)

theorem j_goto (g : gd Γ cc own nL rm q) {off : Int} {tgt : Nat} (hd : decode cc pc = .ok (.goto off, 3)) (ht : (pc : Int) + off = (tgt : Int)) (k : jw Γ nL kc ks ws lv st tgt) : jw Γ nL kc ks ws lv st pc := by
  obtain ⟨p, l, e, R, s, m, args, below, meth, c, D, A, Q⟩ := Γ
  obtain ⟨hx, hb, hml, hown, hts, hK, hA, hR⟩ := g
  intro H locs ls hP hD hS hl
  exact lv_goto hx hb hd ht (k H locs ls hP hD hS hl)
theorem j_ifnull (g : gd Γ cc own nL rm q) {x : Nat} {off : Int} (hd : decode cc pc = .ok (.ifnull off, 3)) (k : jw Γ nL kc ks ws lv st (pc + 3)) : jw Γ nL kc ks ws lv (.ref x :: st) pc := by
  obtain ⟨p, l, e, R, s, m, args, below, meth, c, D, A, Q⟩ := Γ
  obtain ⟨hx, hb, hml, hown, hts, hK, hA, hR⟩ := g
  intro H locs ls hP hD hS hl
  exact lv_ifnull hx hb hd (k H locs ls hP hD hS hl)
theorem j_ifnullN (g : gd Γ cc own nL rm q) {off : Int} {tgt : Nat} (hd : decode cc pc = .ok (.ifnull off, 3)) (ht : (pc : Int) + off = (tgt : Int)) (k : jw Γ nL kc ks ws lv st tgt) : jw Γ nL kc ks ws lv (.null :: st) pc := by
  obtain ⟨p, l, e, R, s, m, args, below, meth, c, D, A, Q⟩ := Γ
  obtain ⟨hx, hb, hml, hown, hts, hK, hA, hR⟩ := g
  intro H locs ls hP hD hS hl
  exact lv_ifnullN hx hb hd ht (k H locs ls hP hD hS hl)
theorem j_ifnonnull (g : gd Γ cc own nL rm q) {x : Nat} {off : Int} {tgt : Nat} (hd : decode cc pc = .ok (.ifnonnull off, 3)) (ht : (pc : Int) + off = (tgt : Int)) (k : jw Γ nL kc ks ws lv st tgt) : jw Γ nL kc ks ws lv (.ref x :: st) pc := by
  obtain ⟨p, l, e, R, s, m, args, below, meth, c, D, A, Q⟩ := Γ
  obtain ⟨hx, hb, hml, hown, hts, hK, hA, hR⟩ := g
  intro H locs ls hP hD hS hl
  exact lv_ifnonnull hx hb hd ht (k H locs ls hP hD hS hl)
theorem j_ifnonnullN (g : gd Γ cc own nL rm q) {off : Int} (hd : decode cc pc = .ok (.ifnonnull off, 3)) (k : jw Γ nL kc ks ws lv st (pc + 3)) : jw Γ nL kc ks ws lv (.null :: st) pc := by
  obtain ⟨p, l, e, R, s, m, args, below, meth, c, D, A, Q⟩ := Γ
  obtain ⟨hx, hb, hml, hown, hts, hK, hA, hR⟩ := g
  intro H locs ls hP hD hS hl
  exact lv_ifnonnullN hx hb hd (k H locs ls hP hD hS hl)
/-- the link of a field: own's constant index names field k of class ci -/
def fdL (own : String) (index ci k : Nat) (C : String) (T : u_T) (N : Nat) : Prop := (∀ w ∈ u_ws C T N, w ∈ gt) ∧ jclasses[ci]? = some (C, T, N) ∧ k < N ∧ Cond.fieldLink own index (T k).1 (T k).2.1 (T k).2.2.1 ∈ gt
theorem j_get (g : gd Γ cc own nL rm q) {a ci k index N : Nat} {C : String} {T : u_T} (F : fdL own index ci k C T N) (q0 : Nat) {fs : List Value} {v : Value} (he : ws[q0]? = some (a, .inr (ci, fs))) (hv : fs[k]? = some v) (hd : decode cc pc = .ok (.getfield index, 3)) (kk : jw Γ nL kc ks ws lv (v :: st) (pc + 3)) : jw Γ nL kc ks ws lv (.ref a :: st) pc := by
  obtain ⟨p, l, e, R, s, m, args, below, meth, c, D, A, Q⟩ := Γ
  obtain ⟨hx, hb, hml, hown, hts, hK, hA, hR⟩ := g
  intro H locs ls hP hD hS hl
  exact va_get hx hb hts F.1 hown hK hP q0 he F.2.1 k F.2.2.1 (hts _ F.2.2.2) (fun _ h => h) hv hd (kk H locs ls hP hD hS hl)
/-- a field that may be put: not final, its type -/
def fpL (k : Nat) (T : u_T) (N : Nat) (ty : FieldType) : Prop := (∃ ty0 : Nat → FieldType, ∀ k, k < N → parseFieldDescriptor (T k).2.2.1 = some (ty0 k)) ∧ (∀ a, a < N → ∀ b, b < N → a ≠ b → (T a).2.1 ≠ (T b).2.1) ∧ (T k).2.2.2 = false ∧ parseFieldDescriptor (T k).2.2.1 = some ty
theorem j_put (g : gd Γ cc own nL rm q) {a ci k index N : Nat} {C : String} {T : u_T} {ty : FieldType} (F : fdL own index ci k C T N) (G : fpL k T N ty) (q0 : Nat) {fs : List Value} {v : Value} (he : ws[q0]? = some (a, .inr (ci, fs))) (hn : narrow ty v = v) (hf : fits ty v = true) (hk : k < fs.length) {ws' : va_W} (hw : ws.set q0 (a, .inr (ci, fs.set k v)) = ws') (hd : decode cc pc = .ok (.putfield index, 3)) (kk : jw Γ nL kc ks ws' lv st (pc + 3)) : jw Γ nL kc ks ws lv (v :: .ref a :: st) pc := by
  obtain ⟨p, l, e, R, s, m, args, below, meth, c, D, A, Q⟩ := Γ
  obtain ⟨hx, hb, hml, hown, hts, hK, hA, hR⟩ := g
  intro H locs ls hP hD hS hl
  obtain ⟨⟨ty0, h0⟩, h1, h2, h3⟩ := G
  subst hw
  exact va_put hx hb hts F.1 ty0 h0 h1 hown hK hP hD hS q0 he F.2.1 k F.2.2.1 (hts _ F.2.2.2) (fun _ h => h) h2 h3 hn hf hk hd (fun H1 locs1 hP hD hS => kk H1 locs1 ls hP hD hS hl)
theorem j_iald (g : gd Γ cc own nL rm q) {a n : Nat} {f : Nat → Int32} {i : Int32} (q0 : Nat) (ha : ws[q0]? = some (a, .inl (q 0, n, .inl f))) (hin : vp_in i n) (hd : decode cc pc = .ok (.iaload, 1)) (k : jw Γ nL kc ks ws lv (.int (f i.toNatClampNeg) :: st) (pc + 1)) : jw Γ nL kc ks ws lv (.int i :: .ref a :: st) pc := by
  obtain ⟨p, l, e, R, s, m, args, below, meth, c, D, A, Q⟩ := Γ
  obtain ⟨hx, hb, hml, hown, hts, hK, hA, hR⟩ := g
  intro H locs ls hP hD hS hl
  exact va_iald hx hb hK hP q0 0 ha rfl hin hd (k H locs ls hP hD hS hl)
theorem j_zald (g : gd Γ cc own nL rm q) {a n : Nat} {f : Nat → Int32} {i : Int32} (q0 : Nat) (ha : ws[q0]? = some (a, .inl (q 2, n, .inl f))) (hin : vp_in i n) (hd : decode cc pc = .ok (.baload, 1)) (k : jw Γ nL kc ks ws lv (.int (f i.toNatClampNeg) :: st) (pc + 1)) : jw Γ nL kc ks ws lv (.int i :: .ref a :: st) pc := by
  obtain ⟨p, l, e, R, s, m, args, below, meth, c, D, A, Q⟩ := Γ
  obtain ⟨hx, hb, hml, hown, hts, hK, hA, hR⟩ := g
  intro H locs ls hP hD hS hl
  exact va_zald hx hb hK hP q0 2 ha rfl hin hd (k H locs ls hP hD hS hl)
theorem j_lald (g : gd Γ cc own nL rm q) {a n : Nat} {f : Nat → Int64} {i : Int32} (q0 : Nat) (ha : ws[q0]? = some (a, .inl (q 1, n, .inr (.inl f)))) (hin : vp_in i n) (hd : decode cc pc = .ok (.laload, 1)) (k : jw Γ nL kc ks ws lv (.long (f i.toNatClampNeg) :: st) (pc + 1)) : jw Γ nL kc ks ws lv (.int i :: .ref a :: st) pc := by
  obtain ⟨p, l, e, R, s, m, args, below, meth, c, D, A, Q⟩ := Γ
  obtain ⟨hx, hb, hml, hown, hts, hK, hA, hR⟩ := g
  intro H locs ls hP hD hS hl
  exact va_lald hx hb hK hP q0 1 ha rfl hin hd (k H locs ls hP hD hS hl)
/-- an array of references: any of its three kinds -/
theorem j_aald (g : gd Γ cc own nL rm q) {a n : Nat} {f : Nat → Option Nat} {i : Int32} (q0 t0 : Nat) {cA : ClassId} {ty : FieldType} (ha : ws[q0]? = some (a, .inl (cA, n, .inr (.inr (.inr (.inr f)))))) (ht : (jtys q)[t0]? = some (cA, ty)) (hrk : 3 ≤ t0) (hin : vp_in i n) {x : Nat} (hf : f i.toNatClampNeg = some x) (hd : decode cc pc = .ok (.aaload, 1)) (k : jw Γ nL kc ks ws lv (.ref x :: st) (pc + 1)) : jw Γ nL kc ks ws lv (.int i :: .ref a :: st) pc := by
  obtain ⟨p, l, e, R, s, m, args, below, meth, c, D, A, Q⟩ := Γ
  obtain ⟨hx, hb, hml, hown, hts, hK, hA, hR⟩ := g
  intro H locs ls hP hD hS hl
  have hlt : i.toNatClampNeg < n := Nat.not_le.mp fun q => hin (Or.inr q)
  have hv : va_rf (f i.toNatClampNeg) = .ref x := by rw [hf]; rfl
  have hKt := (hK.2 t0 _ ht).1 n (fun j => va_rf (f j))
  have hrf : ∃ t, ty = .object t ∨ ty = .array .int := by
    match t0, ht, hrk with
    | 3, ht, _ => cases ht; exact ⟨_, Or.inl rfl⟩
    | 4, ht, _ => cases ht; exact ⟨_, Or.inl rfl⟩
    | 5, ht, _ => cases ht; exact ⟨"", Or.inr rfl⟩
    | t + 6, ht, _ => simp at ht
  obtain ⟨t, rfl | rfl⟩ := hrf
  · exact W.aald (v := .ref x) (ty := .object t) hx hb (hP q0 _ ha) hKt rfl (fun q => by cases q) (by show ¬ (i < 0 ∨ (arrV _ _ _).slots.size ≤ _); rw [arrV_size]; exact hin) (by show (arrV _ _ _).slots[_]? = _; rw [arrV_read _ _ hlt]; exact congrArg some hv) rfl rfl hd (k H locs ls hP hD hS hl)
  · exact W.aald (v := .ref x) (ty := .array .int) hx hb (hP q0 _ ha) hKt rfl (fun q => by cases q) (by show ¬ (i < 0 ∨ (arrV _ _ _).slots.size ≤ _); rw [arrV_size]; exact hin) (by show (arrV _ _ _).slots[_]? = _; rw [arrV_read _ _ hlt]; exact congrArg some hv) rfl rfl hd (k H locs ls hP hD hS hl)
theorem j_iast (g : gd Γ cc own nL rm q) {a n : Nat} {f : Nat → Int32} {i x : Int32} (q0 : Nat) (ha : ws[q0]? = some (a, .inl (q 0, n, .inl f))) (hin : vp_in i n) {ws' : va_W} (hw : ws.set q0 (a, .inl (q 0, n, .inl (upd f i.toNatClampNeg x))) = ws') (hd : decode cc pc = .ok (.iastore, 1)) (k : jw Γ nL kc ks ws' lv st (pc + 1)) : jw Γ nL kc ks ws lv (.int x :: .int i :: .ref a :: st) pc := by
  obtain ⟨p, l, e, R, s, m, args, below, meth, c, D, A, Q⟩ := Γ
  obtain ⟨hx, hb, hml, hown, hts, hK, hA, hR⟩ := g
  intro H locs ls hP hD hS hl
  subst hw
  exact va_iast hx hb hK hP hD hS q0 0 ha rfl hin hd (fun H1 locs1 hP hD hS => k H1 locs1 ls hP hD hS hl)
theorem j_zast (g : gd Γ cc own nL rm q) {a n : Nat} {f : Nat → Int32} {i x : Int32} (q0 : Nat) (ha : ws[q0]? = some (a, .inl (q 2, n, .inl f))) (hin : vp_in i n) (hn : vp_nar .boolean x = x) {ws' : va_W} (hw : ws.set q0 (a, .inl (q 2, n, .inl (upd f i.toNatClampNeg x))) = ws') (hd : decode cc pc = .ok (.bastore, 1)) (k : jw Γ nL kc ks ws' lv st (pc + 1)) : jw Γ nL kc ks ws lv (.int x :: .int i :: .ref a :: st) pc := by
  obtain ⟨p, l, e, R, s, m, args, below, meth, c, D, A, Q⟩ := Γ
  obtain ⟨hx, hb, hml, hown, hts, hK, hA, hR⟩ := g
  intro H locs ls hP hD hS hl
  subst hw
  exact va_zast hx hb hK hP hD hS q0 2 ha rfl hin hd (fun H1 locs1 hP hD hS => k H1 locs1 ls (hn ▸ hP) (hn ▸ hD) hS hl)
theorem j_last (g : gd Γ cc own nL rm q) {a n : Nat} {f : Nat → Int64} {i : Int32} {x : Int64} (q0 : Nat) (ha : ws[q0]? = some (a, .inl (q 1, n, .inr (.inl f)))) (hin : vp_in i n) {ws' : va_W} (hw : ws.set q0 (a, .inl (q 1, n, .inr (.inl (vp_updL f i.toNatClampNeg x)))) = ws') (hd : decode cc pc = .ok (.lastore, 1)) (k : jw Γ nL kc ks ws' lv st (pc + 1)) : jw Γ nL kc ks ws lv (.long x :: .int i :: .ref a :: st) pc := by
  obtain ⟨p, l, e, R, s, m, args, below, meth, c, D, A, Q⟩ := Γ
  obtain ⟨hx, hb, hml, hown, hts, hK, hA, hR⟩ := g
  intro H locs ls hP hD hS hl
  subst hw
  exact va_last hx hb hK hP hD hS q0 1 ha rfl hin hd (fun H1 locs1 hP hD hS => k H1 locs1 ls hP hD hS hl)
theorem j_aast (g : gd Γ cc own nL rm q) {a n v : Nat} {f : Nat → Option Nat} {i : Int32} (q0 t0 qk ci : Nat) {cA : ClassId} {r : vw_C} {vs : List Value} (ha : ws[q0]? = some (a, .inl (cA, n, .inr (.inr (.inr (.inr f)))))) (ht : (jtys q)[t0]? = some (cA, .object r.1)) (hv : ws[qk]? = some (v, .inr (ci, vs))) (hc : jclasses[ci]? = some r) (hin : vp_in i n) {ws' : va_W} (hw : ws.set q0 (a, .inl (cA, n, .inr (.inr (.inr (.inr (va_up f i.toNatClampNeg (some v))))))) = ws') (hd : decode cc pc = .ok (.aastore, 1)) (k : jw Γ nL kc ks ws' lv st (pc + 1)) : jw Γ nL kc ks ws lv (.ref v :: .int i :: .ref a :: st) pc := by
  obtain ⟨p, l, e, R, s, m, args, below, meth, c, D, A, Q⟩ := Γ
  obtain ⟨hx, hb, hml, hown, hts, hK, hA, hR⟩ := g
  intro H locs ls hP hD hS hl
  subst hw
  exact va_astq hx hb hK hP hD hS q0 t0 qk ci ha ht hv hc hin hd (fun H1 locs1 hP hD hS => k H1 locs1 ls hP hD hS hl)
theorem j_alen (g : gd Γ cc own nL rm q) {a : Nat} (q0 t0 : Nat) {cA : ClassId} {x : vp_A} {ty : FieldType} {v : Int32} (ha : ws[q0]? = some (a, .inl (cA, x))) (ht : (jtys q)[t0]? = some (cA, ty)) (hv : Int32.ofNat x.1 = v) (hd : decode cc pc = .ok (.arraylength, 1)) (k : jw Γ nL kc ks ws lv (.int v :: st) (pc + 1)) : jw Γ nL kc ks ws lv (.ref a :: st) pc := by
  obtain ⟨p, l, e, R, s, m, args, below, meth, c, D, A, Q⟩ := Γ
  obtain ⟨hx, hb, hml, hown, hts, hK, hA, hR⟩ := g
  intro H locs ls hP hD hS hl
  exact va_alen hx hb hK hP q0 t0 ha ht hv hd (k H locs ls hP hD hS hl)
theorem j_mmax (g : gd Γ cc own nL rm q) {index : Nat} {x y : Int32} (h1 : Cond.methodLink own index Lib.Math.max.name ∈ gt) (h2 : Cond.static Lib.Math.max.name ∈ gt) (h3 : Cond.initialized "java/lang/Math" ∈ gt) (h4 : Cond.code Lib.Math.max.name Lib.Math.max.code 2 (some .int) ∈ gt) (hf : 1 ≤ rm.frames) (hl0 : (st.map fun v => v.category).sum + 13 ≤ rm.locals) (hc : kc ≤ rm.cells) (hs : ks ≤ rm.slots) (hd : decode cc pc = .ok (.invokestatic index, 3)) (k : jw Γ nL kc ks ws lv (.int (if x < y then y else x) :: st) (pc + 3)) : jw Γ nL kc ks ws lv (.int y :: .int x :: st) pc := by
  obtain ⟨p, l, e, R, s, m, args, below, meth, c, D, A, Q⟩ := Γ
  obtain ⟨hx, hb, hml, hown, hts, hK, hA, hR⟩ := g
  intro H locs ls hP hD hS hl
  subst hR
  exact va_mmax hx hb (hml.trans hl.1.symm) hown (hts _ h1) (hts _ h2) (hts _ h3) (hts _ h4) hf hl0 hc hs hd (k H locs ls hP hD hS hl)
theorem j_mmin (g : gd Γ cc own nL rm q) {index : Nat} {x y : Int32} (h1 : Cond.methodLink own index Lib.Math.min.name ∈ gt) (h2 : Cond.static Lib.Math.min.name ∈ gt) (h3 : Cond.initialized "java/lang/Math" ∈ gt) (h4 : Cond.code Lib.Math.min.name Lib.Math.min.code 2 (some .int) ∈ gt) (hf : 1 ≤ rm.frames) (hl0 : (st.map fun v => v.category).sum + 13 ≤ rm.locals) (hc : kc ≤ rm.cells) (hs : ks ≤ rm.slots) (hd : decode cc pc = .ok (.invokestatic index, 3)) (k : jw Γ nL kc ks ws lv (.int (if y < x then y else x) :: st) (pc + 3)) : jw Γ nL kc ks ws lv (.int y :: .int x :: st) pc := by
  obtain ⟨p, l, e, R, s, m, args, below, meth, c, D, A, Q⟩ := Γ
  obtain ⟨hx, hb, hml, hown, hts, hK, hA, hR⟩ := g
  intro H locs ls hP hD hS hl
  subst hR
  exact va_mmin hx hb (hml.trans hl.1.symm) hown (hts _ h1) (hts _ h2) (hts _ h3) (hts _ h4) hf hl0 hc hs hd (k H locs ls hP hD hS hl)
end JW
end
section
/-! contracts over a whole world, and calls -/
def jPre (D : va_G) (q : Nat → ClassId) (W0 : va_W) (sz : Nat) (av : List Value) : Array Value → State → Prop := va_Pc av (fun U => U.heap.size = sz ∧ va_P D jclasses W0 U.heap ∧ va_K D jclasses (jtys q) U ∧ va_D (fun _ => True) W0)
def jPost (D : va_G) (q : Nat → ClassId) (W0 : va_W) (sz : Nat) {S : Type} (Wd : S → va_W) (u : S) (t : State) : Prop := va_P D jclasses (Wd u) t.heap ∧ va_K D jclasses (jtys q) t ∧ va_D (va_A W0 sz) (Wd u)
theorem jPre_blind {D : va_G} {q : Nat → ClassId} {W0 : va_W} {sz : Nat} {av : List Value} : FrameBlind (jPre D q W0 sz av) := fun a U g mk h => by
  obtain ⟨q0, q1, qP, qK, qD⟩ := h
  exact ⟨q0, q1, qP, va_K.moved (u := U) (U := U.calling g mk a) (Vm.Alike.refl U.vm) qK, qD⟩
/-- the contracts: of an int, of a boolean (0 or 1), of nothing, of a kind or null -/
def ctI (q : Nat → ClassId) (y : MethodName) (cc : ByteArray) (nL fr lo : Nat) (av : List Value) (W0 : va_W) {S : Type} (Wd : S → va_W) (K : Int32 → S → Prop) : Prop := ∀ (l : Launch) (D : va_G) (sz : Nat), Met l y (.code y cc nL (some .int) :: gt) (rmz fr lo) (jPre D q W0 sz av) (va_Qi K (jPost D q W0 sz Wd) (va_A W0 sz)) 0 0 (va_A W0 sz)
def ctZ (q : Nat → ClassId) (y : MethodName) (cc : ByteArray) (nL fr lo : Nat) (av : List Value) (W0 : va_W) {S : Type} (Wd : S → va_W) (K : Int32 → S → Prop) : Prop := ∀ (l : Launch) (D : va_G) (sz : Nat), Met l y (.code y cc nL (some .boolean) :: gt) (rmz fr lo) (jPre D q W0 sz av) (va_Qi (fun r u => (r = 0 ∨ r = 1) ∧ K r u) (jPost D q W0 sz Wd) (va_A W0 sz)) 0 0 (va_A W0 sz)
def ctV (q : Nat → ClassId) (y : MethodName) (cc : ByteArray) (nL fr lo : Nat) (av : List Value) (W0 : va_W) {S : Type} (Wd : S → va_W) (K : S → Prop) : Prop := ∀ (l : Launch) (D : va_G) (sz : Nat), Met l y (.code y cc nL none :: gt) (rmz fr lo) (jPre D q W0 sz av) (va_Qv K (jPost D q W0 sz Wd) (va_A W0 sz)) 0 0 (va_A W0 sz)
def ctQ (q : Nat → ClassId) (y : MethodName) (cc : ByteArray) (nL fr lo : Nat) (av : List Value) (W0 : va_W) (ad : Nat → Nat) {S : Type} (Wd : S → va_W) (K : Option Nat → S → Prop) : Prop := ∀ (l : Launch) (D : va_G) (sz : Nat), Met l y (.code y cc nL (some (.object RX0)) :: gt) (rmz fr lo) (jPre D q W0 sz av) (va_Qq (fun r u => ∃ o : Option Nat, r = o.map ad ∧ (∀ i, o = some i → i < 6) ∧ K o u) (jPost D q W0 sz Wd) (va_A W0 sz)) 0 0 (va_A W0 sz)
/-- how a method leaves -/
def rtI (Γ : GT) (cc : ByteArray) (nL : Nat) {S : Type} (Wd : S → va_W) (K : Int32 → S → Prop) : Prop := ∀ (lv : List (Nat × Value)) (pc : Nat) (r : Int32) (u : S), decode cc pc = .ok (.ireturn, 1) → K r u → jw Γ nL 0 0 (Wd u) lv [.int r] pc
def rtZ (Γ : GT) (cc : ByteArray) (nL : Nat) {S : Type} (Wd : S → va_W) (K : Int32 → S → Prop) : Prop := ∀ (lv : List (Nat × Value)) (pc : Nat) (r : Int32) (u : S), decode cc pc = .ok (.ireturn, 1) → (r = 0 ∨ r = 1) → K r u → jw Γ nL 0 0 (Wd u) lv [.int r] pc
def rtV (Γ : GT) (cc : ByteArray) (nL : Nat) {S : Type} (Wd : S → va_W) (K : S → Prop) : Prop := ∀ (lv : List (Nat × Value)) (pc : Nat) (u : S), decode cc pc = .ok (.return_, 1) → K u → jw Γ nL 0 0 (Wd u) lv [] pc
def rtQ (Γ : GT) (cc : ByteArray) (nL : Nat) (ad : Nat → Nat) {S : Type} (Wd : S → va_W) (K : Option Nat → S → Prop) : Prop := ∀ (lv : List (Nat × Value)) (pc : Nat) (o : Option Nat) (u : S), decode cc pc = .ok (.areturn, 1) → (∀ i, o = some i → i < 6) → K o u → jw Γ nL 0 0 (Wd u) lv [va_rf (o.map ad)] pc

theorem met_I {q : Nat → ClassId} {y : MethodName} {cc : ByteArray} {nL fr lo : Nat} {av : List Value} {W0 : va_W} {S : Type} {Wd : S → va_W} {K : Int32 → S → Prop} (hy : plainName y.cls = true) (hav : (lg_sl av).length ≤ nL)
    (walk : ∀ Γ : GT, gd Γ cc y.cls nL (rmz fr lo) q → rtI Γ cc nL Wd K → jw Γ nL 0 0 W0 (lv_args 0 av) [] 0) : ctI q y cc nL fr lo av W0 Wd K := by
  intro l D sz
  refine Met.ofW (cc := cc) (maxL := nL) (ret := (some .int)) hy rfl ?_
  intro p e s m args below meth c s₁ B hml hv
  obtain ⟨rfl, hsz, hP, hK, hD0⟩ := hv
  have hx := B.exec
  have hb := B.bytes
  have hr := B.returns
  have hts := atoms_spec (ws := .code y cc nL (some .int) :: gt) B.pre
  have hown : s.vm.findClass y.cls = some m.cls := findClass_of_methodNamed B.named
  have hlocks := B.notSynchronized
  subst hsz
  have hD := hD0.self (sz := s.heap.size)
  have hA : ∀ z : Nat, s.heap.size ≤ z → va_A W0 s.heap.size z := fun z h => Or.inr h
  have hl := lv_entry av (n := nL) hav
  rw [lg_entry_eq]
  refine walk (p, l, e, rmz fr lo, s, m, av.toArray, below, meth, c, D, va_A W0 s.heap.size, _) ⟨hx, hb, hml, hown, fun w hw => hts w (List.mem_cons_of_mem _ hw), hK, hA, rfl⟩ ?_ s.heap [] _ hP hD va_S.rf hl
  intro lv pc r u hd hKr
  intro H locs ls hP9 hD9 hS _
  exact W.iret (v := r) hx hb hr (fun t ht hW => ⟨⟨r, u, rfl, hKr, by rw [ht]; exact hP9, va_K.moved hW.alike hK, hD9⟩, hS.F ht⟩) hS.2.2 hd
theorem met_Z {q : Nat → ClassId} {y : MethodName} {cc : ByteArray} {nL fr lo : Nat} {av : List Value} {W0 : va_W} {S : Type} {Wd : S → va_W} {K : Int32 → S → Prop} (hy : plainName y.cls = true) (hav : (lg_sl av).length ≤ nL)
    (walk : ∀ Γ : GT, gd Γ cc y.cls nL (rmz fr lo) q → rtZ Γ cc nL Wd K → jw Γ nL 0 0 W0 (lv_args 0 av) [] 0) : ctZ q y cc nL fr lo av W0 Wd K := by
  intro l D sz
  refine Met.ofW (cc := cc) (maxL := nL) (ret := (some .boolean)) hy rfl ?_
  intro p e s m args below meth c s₁ B hml hv
  obtain ⟨rfl, hsz, hP, hK, hD0⟩ := hv
  have hx := B.exec
  have hb := B.bytes
  have hr := B.returns
  have hts := atoms_spec (ws := .code y cc nL (some .boolean) :: gt) B.pre
  have hown : s.vm.findClass y.cls = some m.cls := findClass_of_methodNamed B.named
  have hlocks := B.notSynchronized
  subst hsz
  have hD := hD0.self (sz := s.heap.size)
  have hA : ∀ z : Nat, s.heap.size ≤ z → va_A W0 s.heap.size z := fun z h => Or.inr h
  have hl := lv_entry av (n := nL) hav
  rw [lg_entry_eq]
  refine walk (p, l, e, rmz fr lo, s, m, av.toArray, below, meth, c, D, va_A W0 s.heap.size, _) ⟨hx, hb, hml, hown, fun w hw => hts w (List.mem_cons_of_mem _ hw), hK, hA, rfl⟩ ?_ s.heap [] _ hP hD va_S.rf hl
  intro lv pc r u hd hz hKr
  intro H locs ls hP9 hD9 hS _
  have hn : narrow .boolean (.int r) = .int r := by rcases hz with rfl | rfl <;> rfl
  exact W.zret (v := r) hx hb hr hn (fun t ht hW => ⟨⟨r, u, rfl, ⟨hz, hKr⟩, by rw [ht]; exact hP9, va_K.moved hW.alike hK, hD9⟩, hS.F ht⟩) hS.2.2 hd
theorem met_V {q : Nat → ClassId} {y : MethodName} {cc : ByteArray} {nL fr lo : Nat} {av : List Value} {W0 : va_W} {S : Type} {Wd : S → va_W} {K : S → Prop} (hy : plainName y.cls = true) (hav : (lg_sl av).length ≤ nL)
    (walk : ∀ Γ : GT, gd Γ cc y.cls nL (rmz fr lo) q → rtV Γ cc nL Wd K → jw Γ nL 0 0 W0 (lv_args 0 av) [] 0) : ctV q y cc nL fr lo av W0 Wd K := by
  intro l D sz
  refine Met.ofW (cc := cc) (maxL := nL) (ret := none) hy rfl ?_
  intro p e s m args below meth c s₁ B hml hv
  obtain ⟨rfl, hsz, hP, hK, hD0⟩ := hv
  have hx := B.exec
  have hb := B.bytes
  have hr := B.returns
  have hts := atoms_spec (ws := .code y cc nL none :: gt) B.pre
  have hown : s.vm.findClass y.cls = some m.cls := findClass_of_methodNamed B.named
  have hlocks := B.notSynchronized
  subst hsz
  have hD := hD0.self (sz := s.heap.size)
  have hA : ∀ z : Nat, s.heap.size ≤ z → va_A W0 s.heap.size z := fun z h => Or.inr h
  have hl := lv_entry av (n := nL) hav
  rw [lg_entry_eq]
  refine walk (p, l, e, rmz fr lo, s, m, av.toArray, below, meth, c, D, va_A W0 s.heap.size, _) ⟨hx, hb, hml, hown, fun w hw => hts w (List.mem_cons_of_mem _ hw), hK, hA, rfl⟩ ?_ s.heap [] _ hP hD va_S.rf hl
  intro lv pc u hd hKr
  intro H locs ls hP9 hD9 hS _
  exact W.vret hx hb hr (fun t ht hW => ⟨⟨u, rfl, hKr, by rw [ht]; exact hP9, va_K.moved hW.alike hK, hD9⟩, hS.F ht⟩) hS.2.2 hd
theorem met_Q {q : Nat → ClassId} {y : MethodName} {cc : ByteArray} {nL fr lo : Nat} {av : List Value} {W0 : va_W} (ad : Nat → Nat) {S : Type} {Wd : S → va_W} {K : Option Nat → S → Prop} (hy : plainName y.cls = true) (hav : (lg_sl av).length ≤ nL)
    (walk : ∀ Γ : GT, gd Γ cc y.cls nL (rmz fr lo) q → rtQ Γ cc nL ad Wd K → jw Γ nL 0 0 W0 (lv_args 0 av) [] 0) : ctQ q y cc nL fr lo av W0 ad Wd K := by
  intro l D sz
  refine Met.ofW (cc := cc) (maxL := nL) (ret := (some (.object RX0))) hy rfl ?_
  intro p e s m args below meth c s₁ B hml hv
  obtain ⟨rfl, hsz, hP, hK, hD0⟩ := hv
  have hx := B.exec
  have hb := B.bytes
  have hr := B.returns
  have hts := atoms_spec (ws := .code y cc nL (some (.object RX0)) :: gt) B.pre
  have hown : s.vm.findClass y.cls = some m.cls := findClass_of_methodNamed B.named
  have hlocks := B.notSynchronized
  subst hsz
  have hD := hD0.self (sz := s.heap.size)
  have hA : ∀ z : Nat, s.heap.size ≤ z → va_A W0 s.heap.size z := fun z h => Or.inr h
  have hl := lv_entry av (n := nL) hav
  rw [lg_entry_eq]
  refine walk (p, l, e, rmz fr lo, s, m, av.toArray, below, meth, c, D, va_A W0 s.heap.size, _) ⟨hx, hb, hml, hown, fun w hw => hts w (List.mem_cons_of_mem _ hw), hK, hA, rfl⟩ ?_ s.heap [] _ hP hD va_S.rf hl
  intro lv pc o u hd ho hKr
  intro H locs ls hP9 hD9 hS _
  exact W.aret (v := va_rf (o.map ad)) hx hb hr (Or.inl ⟨_, rfl⟩) (va_rf_or _) (fun t ht hW => ⟨⟨o.map ad, u, rfl, ⟨o, rfl, ho, hKr⟩, by rw [ht]; exact hP9, va_K.moved hW.alike hK, hD9⟩, hS.F ht⟩) hS.2.2 hd

/-- the link of a call -/
def clV (own : String) (index : Nat) (y : MethodName) (cc : ByteArray) (nL : Nat) (ret : Option FieldType) (n : Nat) : Prop := Cond.methodLink own index y ∈ gt ∧ Cond.instanceMethod y ∈ gt ∧ Cond.selects y.cls y y ∈ gt ∧ Cond.initialized y.cls ∈ gt ∧ Cond.code y cc nL ret ∈ gt ∧ (y.cls ≠ "java/lang/invoke/MethodHandle" ∧ y.cls ≠ "java/lang/invoke/VarHandle" ∧ (parseMethodDescriptor y.desc).map (fun d => d.parameters.length) = some n)
def clS (own : String) (index : Nat) (y : MethodName) (cc : ByteArray) (nL : Nat) (ret : Option FieldType) (n : Nat) : Prop := Cond.methodLink own index y ∈ gt ∧ Cond.static y ∈ gt ∧ Cond.initialized y.cls ∈ gt ∧ Cond.code y cc nL ret ∈ gt ∧ (y.cls ≠ "java/lang/invoke/MethodHandle" ∧ y.cls ≠ "java/lang/invoke/VarHandle" ∧ (parseMethodDescriptor y.desc).map (fun d => d.parameters.length) = some n)
theorem gt_call {y : MethodName} {cc : ByteArray} {nL : Nat} {ret : Option FieldType} (h : Cond.code y cc nL ret ∈ gt) : GoodIn gt (.code y cc nL ret :: gt) := gt_goodIn (fun w hw => by
  rcases List.mem_cons.mp hw with rfl | hw
  · exact h
  · exact hw)
section JC
variable {Γ : GT} {cc : ByteArray} {own : String} {nL kc ks : Nat} {rm : Room} {q : Nat → ClassId} {ws : va_W} {lv : List (Nat × Value)} {st : List Value} {pc : Nat}
variable {y : MethodName} {ccY : ByteArray} {nY frY loY index n : Nat} {S : Type} {Wd : S → va_W}

theorem j_callVI (g : gd Γ cc own nL rm q) {b : Nat} {As : List Value} {K : Int32 → S → Prop} {st0 : List Value} (hC : ctI q y ccY nY frY loY (.ref b :: As) ws Wd K) (L : clV own index y ccY nY (some .int) n) (q0 ci : Nat) {fs : List Value} {rc : vw_C} (he : ws[q0]? = some (b, .inr (ci, fs))) (hrc : jclasses[ci]? = some rc) (hcn : rc.1 = y.cls) (hfr : frY + 1 ≤ rm.frames) (hlo : 8 + (nY + 11) + loY ≤ rm.locals) (hcells : kc + 0 ≤ rm.cells) (hslots : ks + 0 ≤ rm.slots) (hAs : As.length = n) (hst : st0 = As.reverse ++ .ref b :: st) (hcat : (st.map fun v => v.category).sum ≤ 8) (hd : decode cc pc = .ok (.invokevirtual index, 3)) (k : ∀ (r : Int32) (u : S), K r u → jw Γ nL kc ks (Wd u) lv (.int r :: st) (pc + 3)) : jw Γ nL kc ks ws lv st0 pc := by
  obtain ⟨p, l, e, R, s, m, args, below, meth, c, D, A, Q⟩ := Γ
  obtain ⟨hx, hb, hml, hown, hts, hK, hA, hR⟩ := g
  intro H locs ls hP hD hS hl
  subst hR
  have hF : ∀ z, va_A ws H.size z → A z := fun z h => by
    rcases h with ⟨k9, e9, h9⟩ | h9
    · exact hD.2 k9 _ h9
    · exact hA z (Nat.le_trans hS.1 h9)
  refine va_calli (va_runV (As := As) (rest := st) ⟨hx, hb, hml, hown, hts⟩ (hC l D H.size) ⟨callB_of n hts (gt_call L.2.2.2.2.1) rfl rfl rfl (hts _ L.2.2.2.1) (hts _ L.1) L.2.2.2.2.2 ⟨hfr, hlo⟩, hts _ L.2.1, hts _ L.2.2.1⟩ ⟨jPre_blind, hcn ▸ va_recv hK hP hrc he, fun U hU hW => ⟨rfl, by rw [hU], by rw [hU]; exact hP, va_K.moved hW.alike hK, hD.weaken (fun _ _ _ _ => trivial)⟩⟩ rfl hAs hl.1 hst (lv_room hcat) hd ⟨hcells, hslots⟩) hS (fun z _ h => hF z h) hF (fun r_ u t H1 locs1 ht hvm hp hB hz1 hk1 hS1 => ?_)
  subst ht
  have hD2 : va_D A (Wd u) := hB.2.2.weaken (fun _ _ _ h => hF _ h)
  exact k r_ u hp _ locs1 ls hB.1 hD2 hS1 hl
theorem j_callVZ (g : gd Γ cc own nL rm q) {b : Nat} {As : List Value} {K : Int32 → S → Prop} {st0 : List Value} (hC : ctZ q y ccY nY frY loY (.ref b :: As) ws Wd K) (L : clV own index y ccY nY (some .boolean) n) (q0 ci : Nat) {fs : List Value} {rc : vw_C} (he : ws[q0]? = some (b, .inr (ci, fs))) (hrc : jclasses[ci]? = some rc) (hcn : rc.1 = y.cls) (hfr : frY + 1 ≤ rm.frames) (hlo : 8 + (nY + 11) + loY ≤ rm.locals) (hcells : kc + 0 ≤ rm.cells) (hslots : ks + 0 ≤ rm.slots) (hAs : As.length = n) (hst : st0 = As.reverse ++ .ref b :: st) (hcat : (st.map fun v => v.category).sum ≤ 8) (hd : decode cc pc = .ok (.invokevirtual index, 3)) (k : ∀ (r : Int32) (u : S), (r = 0 ∨ r = 1) → K r u → jw Γ nL kc ks (Wd u) lv (.int r :: st) (pc + 3)) : jw Γ nL kc ks ws lv st0 pc := by
  obtain ⟨p, l, e, R, s, m, args, below, meth, c, D, A, Q⟩ := Γ
  obtain ⟨hx, hb, hml, hown, hts, hK, hA, hR⟩ := g
  intro H locs ls hP hD hS hl
  subst hR
  have hF : ∀ z, va_A ws H.size z → A z := fun z h => by
    rcases h with ⟨k9, e9, h9⟩ | h9
    · exact hD.2 k9 _ h9
    · exact hA z (Nat.le_trans hS.1 h9)
  refine va_calli (va_runV (As := As) (rest := st) ⟨hx, hb, hml, hown, hts⟩ (hC l D H.size) ⟨callB_of n hts (gt_call L.2.2.2.2.1) rfl rfl rfl (hts _ L.2.2.2.1) (hts _ L.1) L.2.2.2.2.2 ⟨hfr, hlo⟩, hts _ L.2.1, hts _ L.2.2.1⟩ ⟨jPre_blind, hcn ▸ va_recv hK hP hrc he, fun U hU hW => ⟨rfl, by rw [hU], by rw [hU]; exact hP, va_K.moved hW.alike hK, hD.weaken (fun _ _ _ _ => trivial)⟩⟩ rfl hAs hl.1 hst (lv_room hcat) hd ⟨hcells, hslots⟩) hS (fun z _ h => hF z h) hF (fun r_ u t H1 locs1 ht hvm hp hB hz1 hk1 hS1 => ?_)
  subst ht
  have hD2 : va_D A (Wd u) := hB.2.2.weaken (fun _ _ _ h => hF _ h)
  exact k r_ u hp.1 hp.2 _ locs1 ls hB.1 hD2 hS1 hl
theorem j_callVV (g : gd Γ cc own nL rm q) {b : Nat} {As : List Value} {K : S → Prop} {st0 : List Value} (hC : ctV q y ccY nY frY loY (.ref b :: As) ws Wd K) (L : clV own index y ccY nY none n) (q0 ci : Nat) {fs : List Value} {rc : vw_C} (he : ws[q0]? = some (b, .inr (ci, fs))) (hrc : jclasses[ci]? = some rc) (hcn : rc.1 = y.cls) (hfr : frY + 1 ≤ rm.frames) (hlo : 8 + (nY + 11) + loY ≤ rm.locals) (hcells : kc + 0 ≤ rm.cells) (hslots : ks + 0 ≤ rm.slots) (hAs : As.length = n) (hst : st0 = As.reverse ++ .ref b :: st) (hcat : (st.map fun v => v.category).sum ≤ 8) (hd : decode cc pc = .ok (.invokevirtual index, 3)) (k : ∀ u : S, K u → jw Γ nL kc ks (Wd u) lv st (pc + 3)) : jw Γ nL kc ks ws lv st0 pc := by
  obtain ⟨p, l, e, R, s, m, args, below, meth, c, D, A, Q⟩ := Γ
  obtain ⟨hx, hb, hml, hown, hts, hK, hA, hR⟩ := g
  intro H locs ls hP hD hS hl
  subst hR
  have hF : ∀ z, va_A ws H.size z → A z := fun z h => by
    rcases h with ⟨k9, e9, h9⟩ | h9
    · exact hD.2 k9 _ h9
    · exact hA z (Nat.le_trans hS.1 h9)
  refine va_callv (va_runV (As := As) (rest := st) ⟨hx, hb, hml, hown, hts⟩ (hC l D H.size) ⟨callB_of n hts (gt_call L.2.2.2.2.1) rfl rfl rfl (hts _ L.2.2.2.1) (hts _ L.1) L.2.2.2.2.2 ⟨hfr, hlo⟩, hts _ L.2.1, hts _ L.2.2.1⟩ ⟨jPre_blind, hcn ▸ va_recv hK hP hrc he, fun U hU hW => ⟨rfl, by rw [hU], by rw [hU]; exact hP, va_K.moved hW.alike hK, hD.weaken (fun _ _ _ _ => trivial)⟩⟩ rfl hAs hl.1 hst (lv_room hcat) hd ⟨hcells, hslots⟩) hS (fun z _ h => hF z h) hF (fun u t H1 locs1 ht hvm hp hB hz1 hk1 hS1 => ?_)
  subst ht
  have hD2 : va_D A (Wd u) := hB.2.2.weaken (fun _ _ _ h => hF _ h)
  exact k u hp _ locs1 ls hB.1 hD2 hS1 hl
theorem j_callVQ (g : gd Γ cc own nL rm q) {b : Nat} {As : List Value} {ad : Nat → Nat} {K : Option Nat → S → Prop} {st0 : List Value} (hC : ctQ q y ccY nY frY loY (.ref b :: As) ws ad Wd K) (L : clV own index y ccY nY (some (.object RX0)) n) (q0 ci : Nat) {fs : List Value} {rc : vw_C} (he : ws[q0]? = some (b, .inr (ci, fs))) (hrc : jclasses[ci]? = some rc) (hcn : rc.1 = y.cls) (hfr : frY + 1 ≤ rm.frames) (hlo : 8 + (nY + 11) + loY ≤ rm.locals) (hcells : kc + 0 ≤ rm.cells) (hslots : ks + 0 ≤ rm.slots) (hAs : As.length = n) (hst : st0 = As.reverse ++ .ref b :: st) (hcat : (st.map fun v => v.category).sum ≤ 8) (hd : decode cc pc = .ok (.invokevirtual index, 3)) (kn : ∀ u : S, K none u → jw Γ nL kc ks (Wd u) lv (.null :: st) (pc + 3)) (k : ∀ (i : Nat) (u : S), i < 6 → K (some i) u → jw Γ nL kc ks (Wd u) lv (.ref (ad i) :: st) (pc + 3)) : jw Γ nL kc ks ws lv st0 pc := by
  obtain ⟨p, l, e, R, s, m, args, below, meth, c, D, A, Q⟩ := Γ
  obtain ⟨hx, hb, hml, hown, hts, hK, hA, hR⟩ := g
  intro H locs ls hP hD hS hl
  subst hR
  have hF : ∀ z, va_A ws H.size z → A z := fun z h => by
    rcases h with ⟨k9, e9, h9⟩ | h9
    · exact hD.2 k9 _ h9
    · exact hA z (Nat.le_trans hS.1 h9)
  refine va_callq (va_runV (As := As) (rest := st) ⟨hx, hb, hml, hown, hts⟩ (hC l D H.size) ⟨callB_of n hts (gt_call L.2.2.2.2.1) rfl rfl rfl (hts _ L.2.2.2.1) (hts _ L.1) L.2.2.2.2.2 ⟨hfr, hlo⟩, hts _ L.2.1, hts _ L.2.2.1⟩ ⟨jPre_blind, hcn ▸ va_recv hK hP hrc he, fun U hU hW => ⟨rfl, by rw [hU], by rw [hU]; exact hP, va_K.moved hW.alike hK, hD.weaken (fun _ _ _ _ => trivial)⟩⟩ rfl hAs hl.1 hst (lv_room hcat) hd ⟨hcells, hslots⟩) hS (fun z _ h => hF z h) hF (fun r_ u t H1 locs1 ht hvm hp hB hz1 hk1 hS1 => ?_)
  subst ht
  have hD2 : va_D A (Wd u) := hB.2.2.weaken (fun _ _ _ h => hF _ h)
  obtain ⟨o, rfl, ho, hKo⟩ := hp
  cases o with
  | none => exact kn u hKo _ locs1 ls hB.1 hD2 hS1 hl
  | some i => exact k i u (ho i rfl) hKo _ locs1 ls hB.1 hD2 hS1 hl
theorem j_callSI (g : gd Γ cc own nL rm q) {As : List Value} {K : Int32 → S → Prop} {st0 : List Value} (hC : ctI q y ccY nY frY loY As ws Wd K) (L : clS own index y ccY nY (some .int) n) (hfr : frY + 1 ≤ rm.frames) (hlo : 8 + (nY + 11) + loY ≤ rm.locals) (hcells : kc + 0 ≤ rm.cells) (hslots : ks + 0 ≤ rm.slots) (hAs : As.length = n) (hst : st0 = As.reverse ++ st) (hcat : (st.map fun v => v.category).sum ≤ 8) (hd : decode cc pc = .ok (.invokestatic index, 3)) (k : ∀ (r : Int32) (u : S), K r u → jw Γ nL kc ks (Wd u) lv (.int r :: st) (pc + 3)) : jw Γ nL kc ks ws lv st0 pc := by
  obtain ⟨p, l, e, R, s, m, args, below, meth, c, D, A, Q⟩ := Γ
  obtain ⟨hx, hb, hml, hown, hts, hK, hA, hR⟩ := g
  intro H locs ls hP hD hS hl
  subst hR
  have hF : ∀ z, va_A ws H.size z → A z := fun z h => by
    rcases h with ⟨k9, e9, h9⟩ | h9
    · exact hD.2 k9 _ h9
    · exact hA z (Nat.le_trans hS.1 h9)
  refine va_calli (va_runS (As := As) (rest := st) ⟨hx, hb, hml, hown, hts⟩ (hC l D H.size) ⟨callB_of n hts (gt_call L.2.2.2.1) rfl rfl rfl (hts _ L.2.2.1) (hts _ L.1) L.2.2.2.2 ⟨hfr, hlo⟩, hts _ L.2.1⟩ ⟨jPre_blind, fun U hU hW => ⟨rfl, by rw [hU], by rw [hU]; exact hP, va_K.moved hW.alike hK, hD.weaken (fun _ _ _ _ => trivial)⟩⟩ rfl hAs hl.1 hst (lv_room hcat) hd ⟨hcells, hslots⟩) hS (fun z _ h => hF z h) hF (fun r_ u t H1 locs1 ht hvm hp hB hz1 hk1 hS1 => ?_)
  subst ht
  have hD2 : va_D A (Wd u) := hB.2.2.weaken (fun _ _ _ h => hF _ h)
  exact k r_ u hp _ locs1 ls hB.1 hD2 hS1 hl
theorem j_callSZ (g : gd Γ cc own nL rm q) {As : List Value} {K : Int32 → S → Prop} {st0 : List Value} (hC : ctZ q y ccY nY frY loY As ws Wd K) (L : clS own index y ccY nY (some .boolean) n) (hfr : frY + 1 ≤ rm.frames) (hlo : 8 + (nY + 11) + loY ≤ rm.locals) (hcells : kc + 0 ≤ rm.cells) (hslots : ks + 0 ≤ rm.slots) (hAs : As.length = n) (hst : st0 = As.reverse ++ st) (hcat : (st.map fun v => v.category).sum ≤ 8) (hd : decode cc pc = .ok (.invokestatic index, 3)) (k : ∀ (r : Int32) (u : S), (r = 0 ∨ r = 1) → K r u → jw Γ nL kc ks (Wd u) lv (.int r :: st) (pc + 3)) : jw Γ nL kc ks ws lv st0 pc := by
  obtain ⟨p, l, e, R, s, m, args, below, meth, c, D, A, Q⟩ := Γ
  obtain ⟨hx, hb, hml, hown, hts, hK, hA, hR⟩ := g
  intro H locs ls hP hD hS hl
  subst hR
  have hF : ∀ z, va_A ws H.size z → A z := fun z h => by
    rcases h with ⟨k9, e9, h9⟩ | h9
    · exact hD.2 k9 _ h9
    · exact hA z (Nat.le_trans hS.1 h9)
  refine va_calli (va_runS (As := As) (rest := st) ⟨hx, hb, hml, hown, hts⟩ (hC l D H.size) ⟨callB_of n hts (gt_call L.2.2.2.1) rfl rfl rfl (hts _ L.2.2.1) (hts _ L.1) L.2.2.2.2 ⟨hfr, hlo⟩, hts _ L.2.1⟩ ⟨jPre_blind, fun U hU hW => ⟨rfl, by rw [hU], by rw [hU]; exact hP, va_K.moved hW.alike hK, hD.weaken (fun _ _ _ _ => trivial)⟩⟩ rfl hAs hl.1 hst (lv_room hcat) hd ⟨hcells, hslots⟩) hS (fun z _ h => hF z h) hF (fun r_ u t H1 locs1 ht hvm hp hB hz1 hk1 hS1 => ?_)
  subst ht
  have hD2 : va_D A (Wd u) := hB.2.2.weaken (fun _ _ _ h => hF _ h)
  exact k r_ u hp.1 hp.2 _ locs1 ls hB.1 hD2 hS1 hl
theorem j_callSV (g : gd Γ cc own nL rm q) {As : List Value} {K : S → Prop} {st0 : List Value} (hC : ctV q y ccY nY frY loY As ws Wd K) (L : clS own index y ccY nY none n) (hfr : frY + 1 ≤ rm.frames) (hlo : 8 + (nY + 11) + loY ≤ rm.locals) (hcells : kc + 0 ≤ rm.cells) (hslots : ks + 0 ≤ rm.slots) (hAs : As.length = n) (hst : st0 = As.reverse ++ st) (hcat : (st.map fun v => v.category).sum ≤ 8) (hd : decode cc pc = .ok (.invokestatic index, 3)) (k : ∀ u : S, K u → jw Γ nL kc ks (Wd u) lv st (pc + 3)) : jw Γ nL kc ks ws lv st0 pc := by
  obtain ⟨p, l, e, R, s, m, args, below, meth, c, D, A, Q⟩ := Γ
  obtain ⟨hx, hb, hml, hown, hts, hK, hA, hR⟩ := g
  intro H locs ls hP hD hS hl
  subst hR
  have hF : ∀ z, va_A ws H.size z → A z := fun z h => by
    rcases h with ⟨k9, e9, h9⟩ | h9
    · exact hD.2 k9 _ h9
    · exact hA z (Nat.le_trans hS.1 h9)
  refine va_callv (va_runS (As := As) (rest := st) ⟨hx, hb, hml, hown, hts⟩ (hC l D H.size) ⟨callB_of n hts (gt_call L.2.2.2.1) rfl rfl rfl (hts _ L.2.2.1) (hts _ L.1) L.2.2.2.2 ⟨hfr, hlo⟩, hts _ L.2.1⟩ ⟨jPre_blind, fun U hU hW => ⟨rfl, by rw [hU], by rw [hU]; exact hP, va_K.moved hW.alike hK, hD.weaken (fun _ _ _ _ => trivial)⟩⟩ rfl hAs hl.1 hst (lv_room hcat) hd ⟨hcells, hslots⟩) hS (fun z _ h => hF z h) hF (fun u t H1 locs1 ht hvm hp hB hz1 hk1 hS1 => ?_)
  subst ht
  have hD2 : va_D A (Wd u) := hB.2.2.weaken (fun _ _ _ h => hF _ h)
  exact k u hp _ locs1 ls hB.1 hD2 hS1 hl
end JC
end
section
/-! the worlds: the class's 35 cells, the reference's 17 -/
theorem vp_lt {i : Int32} {n : Nat} (h : vp_in i n) : i.toNatClampNeg < n := Nat.not_le.mp fun q => h (Or.inr q)
def jn {β : Type} (A : β → Prop) (B : β) : Prop := A B
theorem jn_cut {β : Type} {A : β → Prop} {B : β} {G : Prop} (h : jn A B) (k : ∀ Z : β, Z = B → A Z → G) : G := k B rfl h
def cgW (a : Nat → Nat) (q : Nat → ClassId) (sz : Int32) (pr : Nat → Int32) (pm : Nat → Nat) (kv : Nat → Int32) (kn : Nat → Int32) (kr : Nat → Int32) (kt : Nat → Int32) (kb : Nat → Int32) (ks : Nat → Int32) (kj : Nat → Int32) (kw : Nat → Int32) (kg : Nat → Int32) (wd : Nat → Nat → Int64) (fw : Nat → Nat → Int32) (ad : Nat → Int32) (bk : Nat → Int32) (md : Int32) (cr : Int32) (ow : Int32) (hd : Int32) : va_W :=
  [(a 0, .inr (5, [.ref (a 1), .ref (a (17 + 0)), .ref (a 6), .ref (a 8), .ref (a 5), .int md, .int cr, .int ow, .int hd])),
   (a 1, .inr (3, [.ref (a 2), .ref (a 3), .ref (a 4), .int sz])),
   (a 2, .inl (q 3, 6, .inr (.inr (.inr (.inr (fun j => some (a (11 + j)))))))),
   (a 3, .inl (q 3, 6, .inr (.inr (.inr (.inr (fun j => some (a (11 + pm j)))))))),
   (a 4, .inl (q 0, 6, .inl pr)),
   (a 5, .inl (q 0, 6, .inl bk)),
   (a 6, .inr (4, [.ref (a 7)])),
   (a 7, .inl (q 5, 6, .inr (.inr (.inr (.inr (fun j => some (a (29 + j)))))))),
   (a 8, .inr (1, [.ref (a 9), .ref (a 10)])),
   (a 9, .inl (q 0, 6, .inl ad)),
   (a 10, .inl (q 4, 5, .inr (.inr (.inr (.inr (fun j => some (a (17 + (j + 1))))))))),
   (a (11 + 0), .inr (0, [.int (kv 0), .int (kn 0), .int (kr 0), .int (kt 0), .int (kb 0), .int (ks 0), .int (kj 0), .int (kw 0), .int (kg 0)])),
   (a (11 + 1), .inr (0, [.int (kv 1), .int (kn 1), .int (kr 1), .int (kt 1), .int (kb 1), .int (ks 1), .int (kj 1), .int (kw 1), .int (kg 1)])),
   (a (11 + 2), .inr (0, [.int (kv 2), .int (kn 2), .int (kr 2), .int (kt 2), .int (kb 2), .int (ks 2), .int (kj 2), .int (kw 2), .int (kg 2)])),
   (a (11 + 3), .inr (0, [.int (kv 3), .int (kn 3), .int (kr 3), .int (kt 3), .int (kb 3), .int (ks 3), .int (kj 3), .int (kw 3), .int (kg 3)])),
   (a (11 + 4), .inr (0, [.int (kv 4), .int (kn 4), .int (kr 4), .int (kt 4), .int (kb 4), .int (ks 4), .int (kj 4), .int (kw 4), .int (kg 4)])),
   (a (11 + 5), .inr (0, [.int (kv 5), .int (kn 5), .int (kr 5), .int (kt 5), .int (kb 5), .int (ks 5), .int (kj 5), .int (kw 5), .int (kg 5)])),
   (a (17 + 0), .inr (2, [.ref (a (23 + 0))])),
   (a (17 + 1), .inr (2, [.ref (a (23 + 1))])),
   (a (17 + 2), .inr (2, [.ref (a (23 + 2))])),
   (a (17 + 3), .inr (2, [.ref (a (23 + 3))])),
   (a (17 + 4), .inr (2, [.ref (a (23 + 4))])),
   (a (17 + 5), .inr (2, [.ref (a (23 + 5))])),
   (a (23 + 0), .inl (q 1, 16, .inr (.inl (wd 0)))),
   (a (23 + 1), .inl (q 1, 16, .inr (.inl (wd 1)))),
   (a (23 + 2), .inl (q 1, 16, .inr (.inl (wd 2)))),
   (a (23 + 3), .inl (q 1, 16, .inr (.inl (wd 3)))),
   (a (23 + 4), .inl (q 1, 16, .inr (.inl (wd 4)))),
   (a (23 + 5), .inl (q 1, 16, .inr (.inl (wd 5)))),
   (a (29 + 0), .inl (q 0, 1000, .inl (fw 0))),
   (a (29 + 1), .inl (q 0, 1000, .inl (fw 1))),
   (a (29 + 2), .inl (q 0, 1000, .inl (fw 2))),
   (a (29 + 3), .inl (q 0, 1000, .inl (fw 3))),
   (a (29 + 4), .inl (q 0, 1000, .inl (fw 4))),
   (a (29 + 5), .inl (q 0, 1000, .inl (fw 5)))]
def mdW (a : Nat → Nat) (q : Nat → ClassId) (mtd : Int32) (mnk : Int32) (mva : Nat → Int32) (mno : Nat → Int32) (mro : Nat → Int32) (mtu : Nat → Int32) (mbx : Nat → Int32) (mst : Nat → Int32) (mja : Nat → Int32) (mpr : Nat → Int32) (mcr : Int32) (mow : Int32) (mhd : Int32) (mmo : Int32) (mbk : Nat → Int32) (mca : Nat → Int32) (mfr : Nat → Int32) (mrs : Int32) (mrk : Nat → Int32) (mfe : Nat → Int32) (mus : Nat → Int32) (mgi : Nat → Int32) (maj : Nat → Int32) : va_W :=
  [(a 0, .inr (6, [.int mtd, .int mnk, .ref (a 1), .ref (a 2), .ref (a 3), .ref (a 4), .ref (a 5), .ref (a 6), .ref (a 7), .ref (a 8), .int mcr, .int mow, .int mhd, .int mmo, .ref (a 9), .ref (a 10), .ref (a 11), .int mrs, .ref (a 12), .ref (a 13), .ref (a 14), .ref (a 15), .ref (a 16)])),
   (a 1, .inl (q 0, 6, .inl mva)),
   (a 2, .inl (q 2, 6, .inl mno)),
   (a 3, .inl (q 0, 6, .inl mro)),
   (a 4, .inl (q 0, 6, .inl mtu)),
   (a 5, .inl (q 0, 6, .inl mbx)),
   (a 6, .inl (q 2, 6, .inl mst)),
   (a 7, .inl (q 0, 6, .inl mja)),
   (a 8, .inl (q 0, 6, .inl mpr)),
   (a 9, .inl (q 0, 6, .inl mbk)),
   (a 10, .inl (q 2, 1000, .inl mca)),
   (a 11, .inl (q 0, 1000, .inl mfr)),
   (a 12, .inl (q 0, 6, .inl mrk)),
   (a 13, .inl (q 0, 7000, .inl mfe)),
   (a 14, .inl (q 0, 6, .inl mus)),
   (a 15, .inl (q 0, 6, .inl mgi)),
   (a 16, .inl (q 0, 6, .inl maj))]
section CGW
variable {a : Nat → Nat} {q : Nat → ClassId} {sz : Int32} {pr : Nat → Int32} {pm : Nat → Nat} {kv : Nat → Int32} {kn : Nat → Int32} {kr : Nat → Int32} {kt : Nat → Int32} {kb : Nat → Int32} {ks : Nat → Int32} {kj : Nat → Int32} {kw : Nat → Int32} {kg : Nat → Int32} {wd : Nat → Nat → Int64} {fw : Nat → Nat → Int32} {ad : Nat → Int32} {bk : Nat → Int32} {md : Int32} {cr : Int32} {ow : Int32} {hd : Int32}
theorem cg_0 : (cgW a q sz pr pm kv kn kr kt kb ks kj kw kg wd fw ad bk md cr ow hd)[0]? = some (a 0, .inr (5, [.ref (a 1), .ref (a (17 + 0)), .ref (a 6), .ref (a 8), .ref (a 5), .int md, .int cr, .int ow, .int hd])) := rfl
theorem cg_1 : (cgW a q sz pr pm kv kn kr kt kb ks kj kw kg wd fw ad bk md cr ow hd)[1]? = some (a 1, .inr (3, [.ref (a 2), .ref (a 3), .ref (a 4), .int sz])) := rfl
theorem cg_2 : (cgW a q sz pr pm kv kn kr kt kb ks kj kw kg wd fw ad bk md cr ow hd)[2]? = some (a 2, .inl (q 3, 6, .inr (.inr (.inr (.inr (fun j => some (a (11 + j)))))))) := rfl
theorem cg_3 : (cgW a q sz pr pm kv kn kr kt kb ks kj kw kg wd fw ad bk md cr ow hd)[3]? = some (a 3, .inl (q 3, 6, .inr (.inr (.inr (.inr (fun j => some (a (11 + pm j)))))))) := rfl
theorem cg_4 : (cgW a q sz pr pm kv kn kr kt kb ks kj kw kg wd fw ad bk md cr ow hd)[4]? = some (a 4, .inl (q 0, 6, .inl pr)) := rfl
theorem cg_5 : (cgW a q sz pr pm kv kn kr kt kb ks kj kw kg wd fw ad bk md cr ow hd)[5]? = some (a 5, .inl (q 0, 6, .inl bk)) := rfl
theorem cg_6 : (cgW a q sz pr pm kv kn kr kt kb ks kj kw kg wd fw ad bk md cr ow hd)[6]? = some (a 6, .inr (4, [.ref (a 7)])) := rfl
theorem cg_7 : (cgW a q sz pr pm kv kn kr kt kb ks kj kw kg wd fw ad bk md cr ow hd)[7]? = some (a 7, .inl (q 5, 6, .inr (.inr (.inr (.inr (fun j => some (a (29 + j)))))))) := rfl
theorem cg_8 : (cgW a q sz pr pm kv kn kr kt kb ks kj kw kg wd fw ad bk md cr ow hd)[8]? = some (a 8, .inr (1, [.ref (a 9), .ref (a 10)])) := rfl
theorem cg_9 : (cgW a q sz pr pm kv kn kr kt kb ks kj kw kg wd fw ad bk md cr ow hd)[9]? = some (a 9, .inl (q 0, 6, .inl ad)) := rfl
theorem cg_10 : (cgW a q sz pr pm kv kn kr kt kb ks kj kw kg wd fw ad bk md cr ow hd)[10]? = some (a 10, .inl (q 4, 5, .inr (.inr (.inr (.inr (fun j => some (a (17 + (j + 1))))))))) := rfl
theorem cg_K {i : Nat} (hi : i < 6) : (cgW a q sz pr pm kv kn kr kt kb ks kj kw kg wd fw ad bk md cr ow hd)[11 + i]? = some (a (11 + i), .inr (0, [.int (kv i), .int (kn i), .int (kr i), .int (kt i), .int (kb i), .int (ks i), .int (kj i), .int (kw i), .int (kg i)])) := by
  match i, hi with
  | 0, _ => rfl
  | 1, _ => rfl
  | 2, _ => rfl
  | 3, _ => rfl
  | 4, _ => rfl
  | 5, _ => rfl
theorem cg_S {i : Nat} (hi : i < 6) : (cgW a q sz pr pm kv kn kr kt kb ks kj kw kg wd fw ad bk md cr ow hd)[17 + i]? = some (a (17 + i), .inr (2, [.ref (a (23 + i))])) := by
  match i, hi with
  | 0, _ => rfl
  | 1, _ => rfl
  | 2, _ => rfl
  | 3, _ => rfl
  | 4, _ => rfl
  | 5, _ => rfl
theorem cg_w {i : Nat} (hi : i < 6) : (cgW a q sz pr pm kv kn kr kt kb ks kj kw kg wd fw ad bk md cr ow hd)[23 + i]? = some (a (23 + i), .inl (q 1, 16, .inr (.inl (wd i)))) := by
  match i, hi with
  | 0, _ => rfl
  | 1, _ => rfl
  | 2, _ => rfl
  | 3, _ => rfl
  | 4, _ => rfl
  | 5, _ => rfl
theorem cg_r {i : Nat} (hi : i < 6) : (cgW a q sz pr pm kv kn kr kt kb ks kj kw kg wd fw ad bk md cr ow hd)[29 + i]? = some (a (29 + i), .inl (q 0, 1000, .inl (fw i))) := by
  match i, hi with
  | 0, _ => rfl
  | 1, _ => rfl
  | 2, _ => rfl
  | 3, _ => rfl
  | 4, _ => rfl
  | 5, _ => rfl
theorem cg_s_kv {x : Int32} {i : Nat} (hi : i < 6) : (cgW a q sz pr pm kv kn kr kt kb ks kj kw kg wd fw ad bk md cr ow hd).set (11 + i) (a (11 + i), .inr (0, List.set [.int (kv i), .int (kn i), .int (kr i), .int (kt i), .int (kb i), .int (ks i), .int (kj i), .int (kw i), .int (kg i)] 0 (.int x))) = (cgW a q sz pr pm (upd kv i x) kn kr kt kb ks kj kw kg wd fw ad bk md cr ow hd) := by
  match i, hi with
  | 0, _ => rfl
  | 1, _ => rfl
  | 2, _ => rfl
  | 3, _ => rfl
  | 4, _ => rfl
  | 5, _ => rfl
theorem cg_s_kn {x : Int32} {i : Nat} (hi : i < 6) : (cgW a q sz pr pm kv kn kr kt kb ks kj kw kg wd fw ad bk md cr ow hd).set (11 + i) (a (11 + i), .inr (0, List.set [.int (kv i), .int (kn i), .int (kr i), .int (kt i), .int (kb i), .int (ks i), .int (kj i), .int (kw i), .int (kg i)] 1 (.int x))) = (cgW a q sz pr pm kv (upd kn i x) kr kt kb ks kj kw kg wd fw ad bk md cr ow hd) := by
  match i, hi with
  | 0, _ => rfl
  | 1, _ => rfl
  | 2, _ => rfl
  | 3, _ => rfl
  | 4, _ => rfl
  | 5, _ => rfl
theorem cg_s_kr {x : Int32} {i : Nat} (hi : i < 6) : (cgW a q sz pr pm kv kn kr kt kb ks kj kw kg wd fw ad bk md cr ow hd).set (11 + i) (a (11 + i), .inr (0, List.set [.int (kv i), .int (kn i), .int (kr i), .int (kt i), .int (kb i), .int (ks i), .int (kj i), .int (kw i), .int (kg i)] 2 (.int x))) = (cgW a q sz pr pm kv kn (upd kr i x) kt kb ks kj kw kg wd fw ad bk md cr ow hd) := by
  match i, hi with
  | 0, _ => rfl
  | 1, _ => rfl
  | 2, _ => rfl
  | 3, _ => rfl
  | 4, _ => rfl
  | 5, _ => rfl
theorem cg_s_kt {x : Int32} {i : Nat} (hi : i < 6) : (cgW a q sz pr pm kv kn kr kt kb ks kj kw kg wd fw ad bk md cr ow hd).set (11 + i) (a (11 + i), .inr (0, List.set [.int (kv i), .int (kn i), .int (kr i), .int (kt i), .int (kb i), .int (ks i), .int (kj i), .int (kw i), .int (kg i)] 3 (.int x))) = (cgW a q sz pr pm kv kn kr (upd kt i x) kb ks kj kw kg wd fw ad bk md cr ow hd) := by
  match i, hi with
  | 0, _ => rfl
  | 1, _ => rfl
  | 2, _ => rfl
  | 3, _ => rfl
  | 4, _ => rfl
  | 5, _ => rfl
theorem cg_s_kb {x : Int32} {i : Nat} (hi : i < 6) : (cgW a q sz pr pm kv kn kr kt kb ks kj kw kg wd fw ad bk md cr ow hd).set (11 + i) (a (11 + i), .inr (0, List.set [.int (kv i), .int (kn i), .int (kr i), .int (kt i), .int (kb i), .int (ks i), .int (kj i), .int (kw i), .int (kg i)] 4 (.int x))) = (cgW a q sz pr pm kv kn kr kt (upd kb i x) ks kj kw kg wd fw ad bk md cr ow hd) := by
  match i, hi with
  | 0, _ => rfl
  | 1, _ => rfl
  | 2, _ => rfl
  | 3, _ => rfl
  | 4, _ => rfl
  | 5, _ => rfl
theorem cg_s_ks {x : Int32} {i : Nat} (hi : i < 6) : (cgW a q sz pr pm kv kn kr kt kb ks kj kw kg wd fw ad bk md cr ow hd).set (11 + i) (a (11 + i), .inr (0, List.set [.int (kv i), .int (kn i), .int (kr i), .int (kt i), .int (kb i), .int (ks i), .int (kj i), .int (kw i), .int (kg i)] 5 (.int x))) = (cgW a q sz pr pm kv kn kr kt kb (upd ks i x) kj kw kg wd fw ad bk md cr ow hd) := by
  match i, hi with
  | 0, _ => rfl
  | 1, _ => rfl
  | 2, _ => rfl
  | 3, _ => rfl
  | 4, _ => rfl
  | 5, _ => rfl
theorem cg_s_kj {x : Int32} {i : Nat} (hi : i < 6) : (cgW a q sz pr pm kv kn kr kt kb ks kj kw kg wd fw ad bk md cr ow hd).set (11 + i) (a (11 + i), .inr (0, List.set [.int (kv i), .int (kn i), .int (kr i), .int (kt i), .int (kb i), .int (ks i), .int (kj i), .int (kw i), .int (kg i)] 6 (.int x))) = (cgW a q sz pr pm kv kn kr kt kb ks (upd kj i x) kw kg wd fw ad bk md cr ow hd) := by
  match i, hi with
  | 0, _ => rfl
  | 1, _ => rfl
  | 2, _ => rfl
  | 3, _ => rfl
  | 4, _ => rfl
  | 5, _ => rfl
theorem cg_s_kw {x : Int32} {i : Nat} (hi : i < 6) : (cgW a q sz pr pm kv kn kr kt kb ks kj kw kg wd fw ad bk md cr ow hd).set (11 + i) (a (11 + i), .inr (0, List.set [.int (kv i), .int (kn i), .int (kr i), .int (kt i), .int (kb i), .int (ks i), .int (kj i), .int (kw i), .int (kg i)] 7 (.int x))) = (cgW a q sz pr pm kv kn kr kt kb ks kj (upd kw i x) kg wd fw ad bk md cr ow hd) := by
  match i, hi with
  | 0, _ => rfl
  | 1, _ => rfl
  | 2, _ => rfl
  | 3, _ => rfl
  | 4, _ => rfl
  | 5, _ => rfl
theorem cg_s_kg {x : Int32} {i : Nat} (hi : i < 6) : (cgW a q sz pr pm kv kn kr kt kb ks kj kw kg wd fw ad bk md cr ow hd).set (11 + i) (a (11 + i), .inr (0, List.set [.int (kv i), .int (kn i), .int (kr i), .int (kt i), .int (kb i), .int (ks i), .int (kj i), .int (kw i), .int (kg i)] 8 (.int x))) = (cgW a q sz pr pm kv kn kr kt kb ks kj kw (upd kg i x) wd fw ad bk md cr ow hd) := by
  match i, hi with
  | 0, _ => rfl
  | 1, _ => rfl
  | 2, _ => rfl
  | 3, _ => rfl
  | 4, _ => rfl
  | 5, _ => rfl
theorem cg_s_w {g : Nat → Int64} {i : Nat} (hi : i < 6) : (cgW a q sz pr pm kv kn kr kt kb ks kj kw kg wd fw ad bk md cr ow hd).set (23 + i) (a (23 + i), .inl (q 1, 16, .inr (.inl g))) = (cgW a q sz pr pm kv kn kr kt kb ks kj kw kg (va_up wd i g) fw ad bk md cr ow hd) := by
  match i, hi with
  | 0, _ => rfl
  | 1, _ => rfl
  | 2, _ => rfl
  | 3, _ => rfl
  | 4, _ => rfl
  | 5, _ => rfl
theorem cg_s_r {g : Nat → Int32} {i : Nat} (hi : i < 6) : (cgW a q sz pr pm kv kn kr kt kb ks kj kw kg wd fw ad bk md cr ow hd).set (29 + i) (a (29 + i), .inl (q 0, 1000, .inl g)) = (cgW a q sz pr pm kv kn kr kt kb ks kj kw kg wd (va_up fw i g) ad bk md cr ow hd) := by
  match i, hi with
  | 0, _ => rfl
  | 1, _ => rfl
  | 2, _ => rfl
  | 3, _ => rfl
  | 4, _ => rfl
  | 5, _ => rfl
theorem cg_up_pm {k x : Nat} : va_up (fun j => some (a (11 + pm j))) k (some (a (11 + x))) = fun j => some (a (11 + va_up pm k x j)) := by
  funext j
  unfold va_up
  by_cases h : j = k <;> simp [h]
theorem cg_s_pm {k x : Nat} : (cgW a q sz pr pm kv kn kr kt kb ks kj kw kg wd fw ad bk md cr ow hd).set 3 (a 3, .inl (q 3, 6, .inr (.inr (.inr (.inr (va_up (fun j => some (a (11 + pm j))) k (some (a (11 + x))))))))) = (cgW a q sz pr (va_up pm k x) kv kn kr kt kb ks kj kw kg wd fw ad bk md cr ow hd) := by
  rw [cg_up_pm]
  rfl
end CGW
section MDW
variable {a : Nat → Nat} {q : Nat → ClassId} {mtd : Int32} {mnk : Int32} {mva : Nat → Int32} {mno : Nat → Int32} {mro : Nat → Int32} {mtu : Nat → Int32} {mbx : Nat → Int32} {mst : Nat → Int32} {mja : Nat → Int32} {mpr : Nat → Int32} {mcr : Int32} {mow : Int32} {mhd : Int32} {mmo : Int32} {mbk : Nat → Int32} {mca : Nat → Int32} {mfr : Nat → Int32} {mrs : Int32} {mrk : Nat → Int32} {mfe : Nat → Int32} {mus : Nat → Int32} {mgi : Nat → Int32} {maj : Nat → Int32}
theorem md_0 : (mdW a q mtd mnk mva mno mro mtu mbx mst mja mpr mcr mow mhd mmo mbk mca mfr mrs mrk mfe mus mgi maj)[0]? = some (a 0, .inr (6, [.int mtd, .int mnk, .ref (a 1), .ref (a 2), .ref (a 3), .ref (a 4), .ref (a 5), .ref (a 6), .ref (a 7), .ref (a 8), .int mcr, .int mow, .int mhd, .int mmo, .ref (a 9), .ref (a 10), .ref (a 11), .int mrs, .ref (a 12), .ref (a 13), .ref (a 14), .ref (a 15), .ref (a 16)])) := rfl
theorem md_1 : (mdW a q mtd mnk mva mno mro mtu mbx mst mja mpr mcr mow mhd mmo mbk mca mfr mrs mrk mfe mus mgi maj)[1]? = some (a 1, .inl (q 0, 6, .inl mva)) := rfl
theorem md_2 : (mdW a q mtd mnk mva mno mro mtu mbx mst mja mpr mcr mow mhd mmo mbk mca mfr mrs mrk mfe mus mgi maj)[2]? = some (a 2, .inl (q 2, 6, .inl mno)) := rfl
theorem md_3 : (mdW a q mtd mnk mva mno mro mtu mbx mst mja mpr mcr mow mhd mmo mbk mca mfr mrs mrk mfe mus mgi maj)[3]? = some (a 3, .inl (q 0, 6, .inl mro)) := rfl
theorem md_4 : (mdW a q mtd mnk mva mno mro mtu mbx mst mja mpr mcr mow mhd mmo mbk mca mfr mrs mrk mfe mus mgi maj)[4]? = some (a 4, .inl (q 0, 6, .inl mtu)) := rfl
theorem md_5 : (mdW a q mtd mnk mva mno mro mtu mbx mst mja mpr mcr mow mhd mmo mbk mca mfr mrs mrk mfe mus mgi maj)[5]? = some (a 5, .inl (q 0, 6, .inl mbx)) := rfl
theorem md_6 : (mdW a q mtd mnk mva mno mro mtu mbx mst mja mpr mcr mow mhd mmo mbk mca mfr mrs mrk mfe mus mgi maj)[6]? = some (a 6, .inl (q 2, 6, .inl mst)) := rfl
theorem md_7 : (mdW a q mtd mnk mva mno mro mtu mbx mst mja mpr mcr mow mhd mmo mbk mca mfr mrs mrk mfe mus mgi maj)[7]? = some (a 7, .inl (q 0, 6, .inl mja)) := rfl
theorem md_8 : (mdW a q mtd mnk mva mno mro mtu mbx mst mja mpr mcr mow mhd mmo mbk mca mfr mrs mrk mfe mus mgi maj)[8]? = some (a 8, .inl (q 0, 6, .inl mpr)) := rfl
theorem md_9 : (mdW a q mtd mnk mva mno mro mtu mbx mst mja mpr mcr mow mhd mmo mbk mca mfr mrs mrk mfe mus mgi maj)[9]? = some (a 9, .inl (q 0, 6, .inl mbk)) := rfl
theorem md_10 : (mdW a q mtd mnk mva mno mro mtu mbx mst mja mpr mcr mow mhd mmo mbk mca mfr mrs mrk mfe mus mgi maj)[10]? = some (a 10, .inl (q 2, 1000, .inl mca)) := rfl
theorem md_11 : (mdW a q mtd mnk mva mno mro mtu mbx mst mja mpr mcr mow mhd mmo mbk mca mfr mrs mrk mfe mus mgi maj)[11]? = some (a 11, .inl (q 0, 1000, .inl mfr)) := rfl
theorem md_12 : (mdW a q mtd mnk mva mno mro mtu mbx mst mja mpr mcr mow mhd mmo mbk mca mfr mrs mrk mfe mus mgi maj)[12]? = some (a 12, .inl (q 0, 6, .inl mrk)) := rfl
theorem md_13 : (mdW a q mtd mnk mva mno mro mtu mbx mst mja mpr mcr mow mhd mmo mbk mca mfr mrs mrk mfe mus mgi maj)[13]? = some (a 13, .inl (q 0, 7000, .inl mfe)) := rfl
theorem md_14 : (mdW a q mtd mnk mva mno mro mtu mbx mst mja mpr mcr mow mhd mmo mbk mca mfr mrs mrk mfe mus mgi maj)[14]? = some (a 14, .inl (q 0, 6, .inl mus)) := rfl
theorem md_15 : (mdW a q mtd mnk mva mno mro mtu mbx mst mja mpr mcr mow mhd mmo mbk mca mfr mrs mrk mfe mus mgi maj)[15]? = some (a 15, .inl (q 0, 6, .inl mgi)) := rfl
theorem md_16 : (mdW a q mtd mnk mva mno mro mtu mbx mst mja mpr mcr mow mhd mmo mbk mca mfr mrs mrk mfe mus mgi maj)[16]? = some (a 16, .inl (q 0, 6, .inl maj)) := rfl
end MDW
end
section
/-! links of fields and calls -/
theorem nz_z {x : Int32} (h : x = 0 ∨ x = 1) : narrow .boolean (.int x) = .int x := by rcases h with rfl | rfl <;> rfl
theorem nz_f {x : Int32} (h : x = 0 ∨ x = 1) : fits .boolean (.int x) = true := by rcases h with rfl | rfl <;> rfl
theorem nz_v {x : Int32} (h : x = 0 ∨ x = 1) : vp_nar .boolean x = x := by rcases h with rfl | rfl <;> rfl
theorem lm_i : Cond.initialized "java/lang/Math" ∈ gt := gt_in (by decide +kernel) rfl
theorem lm_max_s : Cond.static Lib.Math.max.name ∈ gt := gt_in (by decide +kernel) rfl
theorem lm_min_s : Cond.static Lib.Math.min.name ∈ gt := gt_in (by decide +kernel) rfl
theorem lm_max_c : Cond.code Lib.Math.max.name Lib.Math.max.code 2 (some .int) ∈ gt := gt_in (by decide +kernel) rfl
theorem lm_min_c : Cond.code Lib.Math.min.name Lib.Math.min.code 2 (some .int) ∈ gt := gt_in (by decide +kernel) rfl
theorem ws_X0 : ∀ w ∈ u_ws RX0 TX0 9, w ∈ gt := by decide +kernel
theorem ws_X1 : ∀ w ∈ u_ws RX1 TX1 2, w ∈ gt := by decide +kernel
theorem ws_X2 : ∀ w ∈ u_ws RX2 TX2 1, w ∈ gt := by decide +kernel
theorem ws_X3 : ∀ w ∈ u_ws RX3 TX3 4, w ∈ gt := by decide +kernel
theorem ws_X4 : ∀ w ∈ u_ws RX4 TX4 1, w ∈ gt := by decide +kernel
theorem ws_X5 : ∀ w ∈ u_ws RX5 TX5 9, w ∈ gt := by decide +kernel
theorem ws_X6 : ∀ w ∈ u_ws RX6 TX6 23, w ∈ gt := by decide +kernel
theorem cl_X0_40 : clV RX0 40 yX0_gives cX0_gives 1 (some .boolean) 0 := ⟨gt_in (by decide +kernel) rfl, gt_in (by decide +kernel) rfl, gt_in (by decide +kernel) rfl, gt_in (by decide +kernel) rfl, gt_in (by decide +kernel) rfl, by decide +kernel⟩
theorem cl_X1_22 : clV RX1 22 yX3_collect cX3_collect 4 none 2 := ⟨gt_in (by decide +kernel) rfl, gt_in (by decide +kernel) rfl, gt_in (by decide +kernel) rfl, gt_in (by decide +kernel) rfl, gt_in (by decide +kernel) rfl, by decide +kernel⟩
theorem cl_X1_28 : clS RX1 28 yJ7_fill_53178 cJ7_fill_53178 4 none 2 := ⟨gt_in (by decide +kernel) rfl, gt_in (by decide +kernel) rfl, gt_in (by decide +kernel) rfl, gt_in (by decide +kernel) rfl, by decide +kernel⟩
theorem cl_X1_34 : clS RX1 34 yX1_putsOut cX1_putsOut 7 (some .boolean) 5 := ⟨gt_in (by decide +kernel) rfl, gt_in (by decide +kernel) rfl, gt_in (by decide +kernel) rfl, gt_in (by decide +kernel) rfl, by decide +kernel⟩
theorem cl_X1_38 : clV RX1 38 yX1_isOut cX1_isOut 7 (some .boolean) 2 := ⟨gt_in (by decide +kernel) rfl, gt_in (by decide +kernel) rfl, gt_in (by decide +kernel) rfl, gt_in (by decide +kernel) rfl, gt_in (by decide +kernel) rfl, by decide +kernel⟩
theorem cl_X1_50 : clV RX1 50 yX0_gives cX0_gives 1 (some .boolean) 0 := ⟨gt_in (by decide +kernel) rfl, gt_in (by decide +kernel) rfl, gt_in (by decide +kernel) rfl, gt_in (by decide +kernel) rfl, gt_in (by decide +kernel) rfl, by decide +kernel⟩
theorem cl_X1_56 : clV RX1 56 yX0_free cX0_free 1 (some .int) 0 := ⟨gt_in (by decide +kernel) rfl, gt_in (by decide +kernel) rfl, gt_in (by decide +kernel) rfl, gt_in (by decide +kernel) rfl, gt_in (by decide +kernel) rfl, by decide +kernel⟩
theorem cl_X1_60 : clV RX1 60 yX2_copyOf cX2_copyOf 2 none 1 := ⟨gt_in (by decide +kernel) rfl, gt_in (by decide +kernel) rfl, gt_in (by decide +kernel) rfl, gt_in (by decide +kernel) rfl, gt_in (by decide +kernel) rfl, by decide +kernel⟩
theorem cl_X1_67 : clV RX1 67 yX2_addCoins cX2_addCoins 6 none 2 := ⟨gt_in (by decide +kernel) rfl, gt_in (by decide +kernel) rfl, gt_in (by decide +kernel) rfl, gt_in (by decide +kernel) rfl, gt_in (by decide +kernel) rfl, by decide +kernel⟩
theorem cl_X1_75 : clV RX1 75 yX3_mayTake cX3_mayTake 9 (some .boolean) 5 := ⟨gt_in (by decide +kernel) rfl, gt_in (by decide +kernel) rfl, gt_in (by decide +kernel) rfl, gt_in (by decide +kernel) rfl, gt_in (by decide +kernel) rfl, by decide +kernel⟩
theorem cl_X2_15 : clS RX2 15 yJ7_fill_d0a16 cJ7_fill_d0a16 5 none 2 := ⟨gt_in (by decide +kernel) rfl, gt_in (by decide +kernel) rfl, gt_in (by decide +kernel) rfl, gt_in (by decide +kernel) rfl, by decide +kernel⟩
theorem cl_X2_33 : clV RX2 33 yX2_addShifted cX2_addShifted 7 none 1 := ⟨gt_in (by decide +kernel) rfl, gt_in (by decide +kernel) rfl, gt_in (by decide +kernel) rfl, gt_in (by decide +kernel) rfl, gt_in (by decide +kernel) rfl, by decide +kernel⟩
theorem cl_X2_37 : clV RX2 37 yX2_has cX2_has 2 (some .boolean) 1 := ⟨gt_in (by decide +kernel) rfl, gt_in (by decide +kernel) rfl, gt_in (by decide +kernel) rfl, gt_in (by decide +kernel) rfl, gt_in (by decide +kernel) rfl, by decide +kernel⟩
theorem cl_X3_29 : clV RX3 29 yX3_find cX3_find 2 (some (.object RX0)) 1 := ⟨gt_in (by decide +kernel) rfl, gt_in (by decide +kernel) rfl, gt_in (by decide +kernel) rfl, gt_in (by decide +kernel) rfl, gt_in (by decide +kernel) rfl, by decide +kernel⟩
theorem cl_X3_37 : clV RX3 37 yX3_hasValue cX3_hasValue 3 (some .boolean) 1 := ⟨gt_in (by decide +kernel) rfl, gt_in (by decide +kernel) rfl, gt_in (by decide +kernel) rfl, gt_in (by decide +kernel) rfl, gt_in (by decide +kernel) rfl, by decide +kernel⟩
theorem cl_X3_47 : clV RX3 47 yX0_gives cX0_gives 1 (some .boolean) 0 := ⟨gt_in (by decide +kernel) rfl, gt_in (by decide +kernel) rfl, gt_in (by decide +kernel) rfl, gt_in (by decide +kernel) rfl, gt_in (by decide +kernel) rfl, by decide +kernel⟩
theorem cl_X3_60 : clV RX3 60 yX2_onlyZero cX2_onlyZero 1 none 0 := ⟨gt_in (by decide +kernel) rfl, gt_in (by decide +kernel) rfl, gt_in (by decide +kernel) rfl, gt_in (by decide +kernel) rfl, gt_in (by decide +kernel) rfl, by decide +kernel⟩
theorem cl_X3_65 : clV RX3 65 yX0_spare cX0_spare 2 (some .int) 1 := ⟨gt_in (by decide +kernel) rfl, gt_in (by decide +kernel) rfl, gt_in (by decide +kernel) rfl, gt_in (by decide +kernel) rfl, gt_in (by decide +kernel) rfl, by decide +kernel⟩
theorem cl_X3_69 : clV RX3 69 yX2_addCoins cX2_addCoins 6 none 2 := ⟨gt_in (by decide +kernel) rfl, gt_in (by decide +kernel) rfl, gt_in (by decide +kernel) rfl, gt_in (by decide +kernel) rfl, gt_in (by decide +kernel) rfl, by decide +kernel⟩
theorem cl_X3_73 : clV RX3 73 yX2_hasWith cX2_hasWith 3 (some .boolean) 2 := ⟨gt_in (by decide +kernel) rfl, gt_in (by decide +kernel) rfl, gt_in (by decide +kernel) rfl, gt_in (by decide +kernel) rfl, gt_in (by decide +kernel) rfl, by decide +kernel⟩
theorem cl_X4_43 : clV RX4 43 yX0_spare cX0_spare 2 (some .int) 1 := ⟨gt_in (by decide +kernel) rfl, gt_in (by decide +kernel) rfl, gt_in (by decide +kernel) rfl, gt_in (by decide +kernel) rfl, gt_in (by decide +kernel) rfl, by decide +kernel⟩
theorem cl_X4_47 : clS RX4 47 yX4_addCoins cX4_addCoins 7 none 4 := ⟨gt_in (by decide +kernel) rfl, gt_in (by decide +kernel) rfl, gt_in (by decide +kernel) rfl, gt_in (by decide +kernel) rfl, by decide +kernel⟩
theorem cl_X4_51 : clS RX4 51 yX4_mostOfFewest cX4_mostOfFewest 8 (some .int) 4 := ⟨gt_in (by decide +kernel) rfl, gt_in (by decide +kernel) rfl, gt_in (by decide +kernel) rfl, gt_in (by decide +kernel) rfl, by decide +kernel⟩
theorem cl_X4_64 : clS RX4 64 yX4_addPart cX4_addPart 6 none 4 := ⟨gt_in (by decide +kernel) rfl, gt_in (by decide +kernel) rfl, gt_in (by decide +kernel) rfl, gt_in (by decide +kernel) rfl, by decide +kernel⟩
theorem cl_X5_101 : clV RX5 101 yX5_endCredit cX5_endCredit 1 none 0 := ⟨gt_in (by decide +kernel) rfl, gt_in (by decide +kernel) rfl, gt_in (by decide +kernel) rfl, gt_in (by decide +kernel) rfl, gt_in (by decide +kernel) rfl, by decide +kernel⟩
theorem cl_X5_104 : clV RX5 104 yX5_giveOut cX5_giveOut 4 (some .int) 1 := ⟨gt_in (by decide +kernel) rfl, gt_in (by decide +kernel) rfl, gt_in (by decide +kernel) rfl, gt_in (by decide +kernel) rfl, gt_in (by decide +kernel) rfl, by decide +kernel⟩
theorem cl_X5_107 : clV RX5 107 yX5_heldValue cX5_heldValue 2 (some .int) 0 := ⟨gt_in (by decide +kernel) rfl, gt_in (by decide +kernel) rfl, gt_in (by decide +kernel) rfl, gt_in (by decide +kernel) rfl, gt_in (by decide +kernel) rfl, by decide +kernel⟩
theorem cl_X5_110 : clV RX5 110 yX5_plan cX5_plan 3 (some .boolean) 1 := ⟨gt_in (by decide +kernel) rfl, gt_in (by decide +kernel) rfl, gt_in (by decide +kernel) rfl, gt_in (by decide +kernel) rfl, gt_in (by decide +kernel) rfl, by decide +kernel⟩
theorem cl_X5_120 : clV RX5 120 yX3_coinsInWay cX3_coinsInWay 3 (some .int) 0 := ⟨gt_in (by decide +kernel) rfl, gt_in (by decide +kernel) rfl, gt_in (by decide +kernel) rfl, gt_in (by decide +kernel) rfl, gt_in (by decide +kernel) rfl, by decide +kernel⟩
theorem cl_X5_123 : clV RX5 123 yX3_collect cX3_collect 4 none 2 := ⟨gt_in (by decide +kernel) rfl, gt_in (by decide +kernel) rfl, gt_in (by decide +kernel) rfl, gt_in (by decide +kernel) rfl, gt_in (by decide +kernel) rfl, by decide +kernel⟩
theorem cl_X5_127 : clV RX5 127 yX2_howMany cX2_howMany 4 (some .int) 1 := ⟨gt_in (by decide +kernel) rfl, gt_in (by decide +kernel) rfl, gt_in (by decide +kernel) rfl, gt_in (by decide +kernel) rfl, gt_in (by decide +kernel) rfl, by decide +kernel⟩
theorem cl_X5_130 : clV RX5 130 yX1_fewest cX1_fewest 4 (some .int) 2 := ⟨gt_in (by decide +kernel) rfl, gt_in (by decide +kernel) rfl, gt_in (by decide +kernel) rfl, gt_in (by decide +kernel) rfl, gt_in (by decide +kernel) rfl, by decide +kernel⟩
theorem cl_X5_140 : clV RX5 140 yX3_tubesValue cX3_tubesValue 3 (some .int) 0 := ⟨gt_in (by decide +kernel) rfl, gt_in (by decide +kernel) rfl, gt_in (by decide +kernel) rfl, gt_in (by decide +kernel) rfl, gt_in (by decide +kernel) rfl, by decide +kernel⟩
theorem cl_X5_143 : clV RX5 143 yX3_boxValue cX3_boxValue 3 (some .int) 0 := ⟨gt_in (by decide +kernel) rfl, gt_in (by decide +kernel) rfl, gt_in (by decide +kernel) rfl, gt_in (by decide +kernel) rfl, gt_in (by decide +kernel) rfl, by decide +kernel⟩
theorem cl_X5_150 : clV RX5 150 yX3_clearBox cX3_clearBox 2 none 0 := ⟨gt_in (by decide +kernel) rfl, gt_in (by decide +kernel) rfl, gt_in (by decide +kernel) rfl, gt_in (by decide +kernel) rfl, gt_in (by decide +kernel) rfl, by decide +kernel⟩
theorem cl_X5_153 : clV RX5 153 yX3_add cX3_add 6 (some .int) 3 := ⟨gt_in (by decide +kernel) rfl, gt_in (by decide +kernel) rfl, gt_in (by decide +kernel) rfl, gt_in (by decide +kernel) rfl, gt_in (by decide +kernel) rfl, by decide +kernel⟩
theorem cl_X5_156 : clV RX5 156 yX3_mayTake cX3_mayTake 9 (some .boolean) 5 := ⟨gt_in (by decide +kernel) rfl, gt_in (by decide +kernel) rfl, gt_in (by decide +kernel) rfl, gt_in (by decide +kernel) rfl, gt_in (by decide +kernel) rfl, by decide +kernel⟩
theorem cl_X5_160 : clV RX5 160 yX3_fewestInTube cX3_fewestInTube 4 (some .int) 0 := ⟨gt_in (by decide +kernel) rfl, gt_in (by decide +kernel) rfl, gt_in (by decide +kernel) rfl, gt_in (by decide +kernel) rfl, gt_in (by decide +kernel) rfl, by decide +kernel⟩
theorem cl_X5_163 : clV RX5 163 yX2_has cX2_has 2 (some .boolean) 1 := ⟨gt_in (by decide +kernel) rfl, gt_in (by decide +kernel) rfl, gt_in (by decide +kernel) rfl, gt_in (by decide +kernel) rfl, gt_in (by decide +kernel) rfl, by decide +kernel⟩
theorem cl_X5_166 : clV RX5 166 yX3_collectOneOfEach cX3_collectOneOfEach 3 none 1 := ⟨gt_in (by decide +kernel) rfl, gt_in (by decide +kernel) rfl, gt_in (by decide +kernel) rfl, gt_in (by decide +kernel) rfl, gt_in (by decide +kernel) rfl, by decide +kernel⟩
theorem cl_X5_170 : clV RX5 170 yX4_choose cX4_choose 7 (some .boolean) 3 := ⟨gt_in (by decide +kernel) rfl, gt_in (by decide +kernel) rfl, gt_in (by decide +kernel) rfl, gt_in (by decide +kernel) rfl, gt_in (by decide +kernel) rfl, by decide +kernel⟩
theorem cl_X5_174 : clV RX5 174 yX3_forgetGiven cX3_forgetGiven 2 none 0 := ⟨gt_in (by decide +kernel) rfl, gt_in (by decide +kernel) rfl, gt_in (by decide +kernel) rfl, gt_in (by decide +kernel) rfl, gt_in (by decide +kernel) rfl, by decide +kernel⟩
theorem cl_X5_177 : clV RX5 177 yX5_giveByWay cX5_giveByWay 7 (some .int) 1 := ⟨gt_in (by decide +kernel) rfl, gt_in (by decide +kernel) rfl, gt_in (by decide +kernel) rfl, gt_in (by decide +kernel) rfl, gt_in (by decide +kernel) rfl, by decide +kernel⟩
theorem cl_X5_180 : clV RX5 180 yX3_coinsGiven cX3_coinsGiven 3 (some .int) 0 := ⟨gt_in (by decide +kernel) rfl, gt_in (by decide +kernel) rfl, gt_in (by decide +kernel) rfl, gt_in (by decide +kernel) rfl, gt_in (by decide +kernel) rfl, by decide +kernel⟩
theorem cl_X5_187 : clV RX5 187 yX0_release cX0_release 1 (some .boolean) 0 := ⟨gt_in (by decide +kernel) rfl, gt_in (by decide +kernel) rfl, gt_in (by decide +kernel) rfl, gt_in (by decide +kernel) rfl, gt_in (by decide +kernel) rfl, by decide +kernel⟩
theorem cl_X5_54 : clV RX5 54 yX5_addKind cX5_addKind 4 (some .int) 3 := ⟨gt_in (by decide +kernel) rfl, gt_in (by decide +kernel) rfl, gt_in (by decide +kernel) rfl, gt_in (by decide +kernel) rfl, gt_in (by decide +kernel) rfl, by decide +kernel⟩
theorem cl_X5_61 : clV RX5 61 yX3_findCoin cX3_findCoin 3 (some (.object RX0)) 1 := ⟨gt_in (by decide +kernel) rfl, gt_in (by decide +kernel) rfl, gt_in (by decide +kernel) rfl, gt_in (by decide +kernel) rfl, gt_in (by decide +kernel) rfl, by decide +kernel⟩
theorem cl_X5_65 : clV RX5 65 yX0_free cX0_free 1 (some .int) 0 := ⟨gt_in (by decide +kernel) rfl, gt_in (by decide +kernel) rfl, gt_in (by decide +kernel) rfl, gt_in (by decide +kernel) rfl, gt_in (by decide +kernel) rfl, by decide +kernel⟩
theorem cl_X5_84 : clV RX5 84 yX3_find cX3_find 2 (some (.object RX0)) 1 := ⟨gt_in (by decide +kernel) rfl, gt_in (by decide +kernel) rfl, gt_in (by decide +kernel) rfl, gt_in (by decide +kernel) rfl, gt_in (by decide +kernel) rfl, by decide +kernel⟩
theorem cl_X5_87 : clV RX5 87 yX5_canTake cX5_canTake 3 (some .boolean) 1 := ⟨gt_in (by decide +kernel) rfl, gt_in (by decide +kernel) rfl, gt_in (by decide +kernel) rfl, gt_in (by decide +kernel) rfl, gt_in (by decide +kernel) rfl, by decide +kernel⟩
theorem cl_X5_97 : clV RX5 97 yX5_priced cX5_priced 2 (some .int) 1 := ⟨gt_in (by decide +kernel) rfl, gt_in (by decide +kernel) rfl, gt_in (by decide +kernel) rfl, gt_in (by decide +kernel) rfl, gt_in (by decide +kernel) rfl, by decide +kernel⟩
theorem cl_X6_100 : clV RX6 100 yX6_findWay cX6_findWay 3 (some .boolean) 1 := ⟨gt_in (by decide +kernel) rfl, gt_in (by decide +kernel) rfl, gt_in (by decide +kernel) rfl, gt_in (by decide +kernel) rfl, gt_in (by decide +kernel) rfl, by decide +kernel⟩
theorem cl_X6_103 : clV RX6 103 yX6_findSums cX6_findSums 3 none 0 := ⟨gt_in (by decide +kernel) rfl, gt_in (by decide +kernel) rfl, gt_in (by decide +kernel) rfl, gt_in (by decide +kernel) rfl, gt_in (by decide +kernel) rfl, by decide +kernel⟩
theorem cl_X6_106 : clV RX6 106 yX6_heldValue cX6_heldValue 1 (some .int) 0 := ⟨gt_in (by decide +kernel) rfl, gt_in (by decide +kernel) rfl, gt_in (by decide +kernel) rfl, gt_in (by decide +kernel) rfl, gt_in (by decide +kernel) rfl, by decide +kernel⟩
theorem cl_X6_110 : clV RX6 110 yX6_wouldTake cX6_wouldTake 8 (some .boolean) 3 := ⟨gt_in (by decide +kernel) rfl, gt_in (by decide +kernel) rfl, gt_in (by decide +kernel) rfl, gt_in (by decide +kernel) rfl, gt_in (by decide +kernel) rfl, by decide +kernel⟩
theorem cl_X6_114 : clV RX6 114 yX6_nextUsed cX6_nextUsed 2 (some .int) 0 := ⟨gt_in (by decide +kernel) rfl, gt_in (by decide +kernel) rfl, gt_in (by decide +kernel) rfl, gt_in (by decide +kernel) rfl, gt_in (by decide +kernel) rfl, by decide +kernel⟩
theorem cl_X6_120 : clV RX6 120 yX6_gives cX6_gives 6 (some .int) 1 := ⟨gt_in (by decide +kernel) rfl, gt_in (by decide +kernel) rfl, gt_in (by decide +kernel) rfl, gt_in (by decide +kernel) rfl, gt_in (by decide +kernel) rfl, by decide +kernel⟩
theorem cl_X6_124 : clV RX6 124 yX6_isLit cX6_isLit 2 (some .boolean) 0 := ⟨gt_in (by decide +kernel) rfl, gt_in (by decide +kernel) rfl, gt_in (by decide +kernel) rfl, gt_in (by decide +kernel) rfl, gt_in (by decide +kernel) rfl, by decide +kernel⟩
theorem cl_X6_128 : clV RX6 128 yX6_canAdd cX6_canAdd 2 (some .boolean) 0 := ⟨gt_in (by decide +kernel) rfl, gt_in (by decide +kernel) rfl, gt_in (by decide +kernel) rfl, gt_in (by decide +kernel) rfl, gt_in (by decide +kernel) rfl, by decide +kernel⟩
theorem cl_X6_131 : clV RX6 131 yX6_goesOn cX6_goesOn 3 (some .boolean) 0 := ⟨gt_in (by decide +kernel) rfl, gt_in (by decide +kernel) rfl, gt_in (by decide +kernel) rfl, gt_in (by decide +kernel) rfl, gt_in (by decide +kernel) rfl, by decide +kernel⟩
theorem cl_X6_134 : clV RX6 134 yX6_isOutBy cX6_isOutBy 5 (some .boolean) 1 := ⟨gt_in (by decide +kernel) rfl, gt_in (by decide +kernel) rfl, gt_in (by decide +kernel) rfl, gt_in (by decide +kernel) rfl, gt_in (by decide +kernel) rfl, by decide +kernel⟩
theorem cl_X6_137 : clV RX6 137 yX6_boxed cX6_boxed 3 (some .int) 0 := ⟨gt_in (by decide +kernel) rfl, gt_in (by decide +kernel) rfl, gt_in (by decide +kernel) rfl, gt_in (by decide +kernel) rfl, gt_in (by decide +kernel) rfl, by decide +kernel⟩
theorem cl_X6_69 : clV RX6 69 yX6_isKind cX6_isKind 2 (some .boolean) 1 := ⟨gt_in (by decide +kernel) rfl, gt_in (by decide +kernel) rfl, gt_in (by decide +kernel) rfl, gt_in (by decide +kernel) rfl, gt_in (by decide +kernel) rfl, by decide +kernel⟩
theorem cl_X6_76 : clV RX6 76 yX6_canCome cX6_canCome 3 (some .boolean) 1 := ⟨gt_in (by decide +kernel) rfl, gt_in (by decide +kernel) rfl, gt_in (by decide +kernel) rfl, gt_in (by decide +kernel) rfl, gt_in (by decide +kernel) rfl, by decide +kernel⟩
theorem cl_X6_82 : clV RX6 82 yX6_isCoin cX6_isCoin 2 (some .boolean) 1 := ⟨gt_in (by decide +kernel) rfl, gt_in (by decide +kernel) rfl, gt_in (by decide +kernel) rfl, gt_in (by decide +kernel) rfl, gt_in (by decide +kernel) rfl, by decide +kernel⟩
theorem cl_X6_89 : clV RX6 89 yX6_rank cX6_rank 3 none 0 := ⟨gt_in (by decide +kernel) rfl, gt_in (by decide +kernel) rfl, gt_in (by decide +kernel) rfl, gt_in (by decide +kernel) rfl, gt_in (by decide +kernel) rfl, by decide +kernel⟩
theorem cl_X6_92 : clV RX6 92 yX6_mayUse cX6_mayUse 3 (some .int) 2 := ⟨gt_in (by decide +kernel) rfl, gt_in (by decide +kernel) rfl, gt_in (by decide +kernel) rfl, gt_in (by decide +kernel) rfl, gt_in (by decide +kernel) rfl, by decide +kernel⟩
theorem cl_X6_96 : clV RX6 96 yX6_isWay cX6_isWay 9 (some .boolean) 2 := ⟨gt_in (by decide +kernel) rfl, gt_in (by decide +kernel) rfl, gt_in (by decide +kernel) rfl, gt_in (by decide +kernel) rfl, gt_in (by decide +kernel) rfl, by decide +kernel⟩
theorem fl_X0_15 : fdL RX0 15 0 1 RX0 TX0 9 := ⟨ws_X0, rfl, by decide, gt_in (by decide +kernel) rfl⟩
theorem fl_X0_19 : fdL RX0 19 0 2 RX0 TX0 9 := ⟨ws_X0, rfl, by decide, gt_in (by decide +kernel) rfl⟩
theorem fl_X0_22 : fdL RX0 22 0 3 RX0 TX0 9 := ⟨ws_X0, rfl, by decide, gt_in (by decide +kernel) rfl⟩
theorem fl_X0_28 : fdL RX0 28 0 5 RX0 TX0 9 := ⟨ws_X0, rfl, by decide, gt_in (by decide +kernel) rfl⟩
theorem fl_X0_31 : fdL RX0 31 0 6 RX0 TX0 9 := ⟨ws_X0, rfl, by decide, gt_in (by decide +kernel) rfl⟩
theorem fl_X0_37 : fdL RX0 37 0 8 RX0 TX0 9 := ⟨ws_X0, rfl, by decide, gt_in (by decide +kernel) rfl⟩
theorem fl_X1_17 : fdL RX1 17 1 1 RX1 TX1 2 := ⟨ws_X1, rfl, by decide, gt_in (by decide +kernel) rfl⟩
theorem fl_X1_42 : fdL RX1 42 3 3 RX3 TX3 4 := ⟨ws_X3, rfl, by decide, gt_in (by decide +kernel) rfl⟩
theorem fl_X1_46 : fdL RX1 46 3 0 RX3 TX3 4 := ⟨ws_X3, rfl, by decide, gt_in (by decide +kernel) rfl⟩
theorem fl_X1_64 : fdL RX1 64 0 0 RX0 TX0 9 := ⟨ws_X0, rfl, by decide, gt_in (by decide +kernel) rfl⟩
theorem fl_X1_71 : fdL RX1 71 0 1 RX0 TX0 9 := ⟨ws_X0, rfl, by decide, gt_in (by decide +kernel) rfl⟩
theorem fl_X1_9 : fdL RX1 9 1 0 RX1 TX1 2 := ⟨ws_X1, rfl, by decide, gt_in (by decide +kernel) rfl⟩
theorem fl_X2_11 : fdL RX2 11 2 0 RX2 TX2 1 := ⟨ws_X2, rfl, by decide, gt_in (by decide +kernel) rfl⟩
theorem fl_X3_11 : fdL RX3 11 3 0 RX3 TX3 4 := ⟨ws_X3, rfl, by decide, gt_in (by decide +kernel) rfl⟩
theorem fl_X3_17 : fdL RX3 17 3 1 RX3 TX3 4 := ⟨ws_X3, rfl, by decide, gt_in (by decide +kernel) rfl⟩
theorem fl_X3_20 : fdL RX3 20 3 2 RX3 TX3 4 := ⟨ws_X3, rfl, by decide, gt_in (by decide +kernel) rfl⟩
theorem fl_X3_24 : fdL RX3 24 3 3 RX3 TX3 4 := ⟨ws_X3, rfl, by decide, gt_in (by decide +kernel) rfl⟩
theorem fl_X3_33 : fdL RX3 33 0 1 RX0 TX0 9 := ⟨ws_X0, rfl, by decide, gt_in (by decide +kernel) rfl⟩
theorem fl_X3_41 : fdL RX3 41 0 0 RX0 TX0 9 := ⟨ws_X0, rfl, by decide, gt_in (by decide +kernel) rfl⟩
theorem fl_X3_44 : fdL RX3 44 0 2 RX0 TX0 9 := ⟨ws_X0, rfl, by decide, gt_in (by decide +kernel) rfl⟩
theorem fl_X3_51 : fdL RX3 51 0 3 RX0 TX0 9 := ⟨ws_X0, rfl, by decide, gt_in (by decide +kernel) rfl⟩
theorem fl_X3_77 : fdL RX3 77 0 7 RX0 TX0 9 := ⟨ws_X0, rfl, by decide, gt_in (by decide +kernel) rfl⟩
theorem fl_X3_80 : fdL RX3 80 0 8 RX0 TX0 9 := ⟨ws_X0, rfl, by decide, gt_in (by decide +kernel) rfl⟩
theorem fl_X3_83 : fdL RX3 83 0 4 RX0 TX0 9 := ⟨ws_X0, rfl, by decide, gt_in (by decide +kernel) rfl⟩
theorem fl_X4_11 : fdL RX4 11 4 0 RX4 TX4 1 := ⟨ws_X4, rfl, by decide, gt_in (by decide +kernel) rfl⟩
theorem fl_X4_22 : fdL RX4 22 3 3 RX3 TX3 4 := ⟨ws_X3, rfl, by decide, gt_in (by decide +kernel) rfl⟩
theorem fl_X4_34 : fdL RX4 34 3 1 RX3 TX3 4 := ⟨ws_X3, rfl, by decide, gt_in (by decide +kernel) rfl⟩
theorem fl_X4_38 : fdL RX4 38 0 0 RX0 TX0 9 := ⟨ws_X0, rfl, by decide, gt_in (by decide +kernel) rfl⟩
theorem fl_X4_55 : fdL RX4 55 0 7 RX0 TX0 9 := ⟨ws_X0, rfl, by decide, gt_in (by decide +kernel) rfl⟩
theorem fl_X5_114 : fdL RX5 114 0 8 RX0 TX0 9 := ⟨ws_X0, rfl, by decide, gt_in (by decide +kernel) rfl⟩
theorem fl_X5_117 : fdL RX5 117 0 7 RX0 TX0 9 := ⟨ws_X0, rfl, by decide, gt_in (by decide +kernel) rfl⟩
theorem fl_X5_12 : fdL RX5 12 5 0 RX5 TX5 9 := ⟨ws_X5, rfl, by decide, gt_in (by decide +kernel) rfl⟩
theorem fl_X5_134 : fdL RX5 134 1 0 RX1 TX1 2 := ⟨ws_X1, rfl, by decide, gt_in (by decide +kernel) rfl⟩
theorem fl_X5_137 : fdL RX5 137 3 3 RX3 TX3 4 := ⟨ws_X3, rfl, by decide, gt_in (by decide +kernel) rfl⟩
theorem fl_X5_147 : fdL RX5 147 0 2 RX0 TX0 9 := ⟨ws_X0, rfl, by decide, gt_in (by decide +kernel) rfl⟩
theorem fl_X5_183 : fdL RX5 183 3 1 RX3 TX3 4 := ⟨ws_X3, rfl, by decide, gt_in (by decide +kernel) rfl⟩
theorem fl_X5_19 : fdL RX5 19 5 1 RX5 TX5 9 := ⟨ws_X5, rfl, by decide, gt_in (by decide +kernel) rfl⟩
theorem fl_X5_26 : fdL RX5 26 5 2 RX5 TX5 9 := ⟨ws_X5, rfl, by decide, gt_in (by decide +kernel) rfl⟩
theorem fl_X5_33 : fdL RX5 33 5 3 RX5 TX5 9 := ⟨ws_X5, rfl, by decide, gt_in (by decide +kernel) rfl⟩
theorem fl_X5_37 : fdL RX5 37 5 4 RX5 TX5 9 := ⟨ws_X5, rfl, by decide, gt_in (by decide +kernel) rfl⟩
theorem fl_X5_41 : fdL RX5 41 5 5 RX5 TX5 9 := ⟨ws_X5, rfl, by decide, gt_in (by decide +kernel) rfl⟩
theorem fl_X5_45 : fdL RX5 45 5 6 RX5 TX5 9 := ⟨ws_X5, rfl, by decide, gt_in (by decide +kernel) rfl⟩
theorem fl_X5_48 : fdL RX5 48 5 7 RX5 TX5 9 := ⟨ws_X5, rfl, by decide, gt_in (by decide +kernel) rfl⟩
theorem fl_X5_51 : fdL RX5 51 5 8 RX5 TX5 9 := ⟨ws_X5, rfl, by decide, gt_in (by decide +kernel) rfl⟩
theorem fl_X5_58 : fdL RX5 58 3 2 RX3 TX3 4 := ⟨ws_X3, rfl, by decide, gt_in (by decide +kernel) rfl⟩
theorem fl_X5_71 : fdL RX5 71 0 3 RX0 TX0 9 := ⟨ws_X0, rfl, by decide, gt_in (by decide +kernel) rfl⟩
theorem fl_X5_74 : fdL RX5 74 0 0 RX0 TX0 9 := ⟨ws_X0, rfl, by decide, gt_in (by decide +kernel) rfl⟩
theorem fl_X5_77 : fdL RX5 77 0 5 RX0 TX0 9 := ⟨ws_X0, rfl, by decide, gt_in (by decide +kernel) rfl⟩
theorem fl_X5_81 : fdL RX5 81 0 6 RX0 TX0 9 := ⟨ws_X0, rfl, by decide, gt_in (by decide +kernel) rfl⟩
theorem fl_X5_91 : fdL RX5 91 0 1 RX0 TX0 9 := ⟨ws_X0, rfl, by decide, gt_in (by decide +kernel) rfl⟩
theorem fl_X5_94 : fdL RX5 94 0 4 RX0 TX0 9 := ⟨ws_X0, rfl, by decide, gt_in (by decide +kernel) rfl⟩
theorem fl_X6_117 : fdL RX6 117 6 11 RX6 TX6 23 := ⟨ws_X6, rfl, by decide, gt_in (by decide +kernel) rfl⟩
theorem fl_X6_13 : fdL RX6 13 6 3 RX6 TX6 23 := ⟨ws_X6, rfl, by decide, gt_in (by decide +kernel) rfl⟩
theorem fl_X6_17 : fdL RX6 17 6 4 RX6 TX6 23 := ⟨ws_X6, rfl, by decide, gt_in (by decide +kernel) rfl⟩
theorem fl_X6_20 : fdL RX6 20 6 5 RX6 TX6 23 := ⟨ws_X6, rfl, by decide, gt_in (by decide +kernel) rfl⟩
theorem fl_X6_23 : fdL RX6 23 6 6 RX6 TX6 23 := ⟨ws_X6, rfl, by decide, gt_in (by decide +kernel) rfl⟩
theorem fl_X6_26 : fdL RX6 26 6 7 RX6 TX6 23 := ⟨ws_X6, rfl, by decide, gt_in (by decide +kernel) rfl⟩
theorem fl_X6_29 : fdL RX6 29 6 8 RX6 TX6 23 := ⟨ws_X6, rfl, by decide, gt_in (by decide +kernel) rfl⟩
theorem fl_X6_32 : fdL RX6 32 6 9 RX6 TX6 23 := ⟨ws_X6, rfl, by decide, gt_in (by decide +kernel) rfl⟩
theorem fl_X6_35 : fdL RX6 35 6 12 RX6 TX6 23 := ⟨ws_X6, rfl, by decide, gt_in (by decide +kernel) rfl⟩
theorem fl_X6_39 : fdL RX6 39 6 14 RX6 TX6 23 := ⟨ws_X6, rfl, by decide, gt_in (by decide +kernel) rfl⟩
theorem fl_X6_42 : fdL RX6 42 6 15 RX6 TX6 23 := ⟨ws_X6, rfl, by decide, gt_in (by decide +kernel) rfl⟩
theorem fl_X6_45 : fdL RX6 45 6 16 RX6 TX6 23 := ⟨ws_X6, rfl, by decide, gt_in (by decide +kernel) rfl⟩
theorem fl_X6_48 : fdL RX6 48 6 18 RX6 TX6 23 := ⟨ws_X6, rfl, by decide, gt_in (by decide +kernel) rfl⟩
theorem fl_X6_51 : fdL RX6 51 6 19 RX6 TX6 23 := ⟨ws_X6, rfl, by decide, gt_in (by decide +kernel) rfl⟩
theorem fl_X6_54 : fdL RX6 54 6 20 RX6 TX6 23 := ⟨ws_X6, rfl, by decide, gt_in (by decide +kernel) rfl⟩
theorem fl_X6_57 : fdL RX6 57 6 21 RX6 TX6 23 := ⟨ws_X6, rfl, by decide, gt_in (by decide +kernel) rfl⟩
theorem fl_X6_60 : fdL RX6 60 6 22 RX6 TX6 23 := ⟨ws_X6, rfl, by decide, gt_in (by decide +kernel) rfl⟩
theorem fl_X6_63 : fdL RX6 63 6 0 RX6 TX6 23 := ⟨ws_X6, rfl, by decide, gt_in (by decide +kernel) rfl⟩
theorem fl_X6_66 : fdL RX6 66 6 1 RX6 TX6 23 := ⟨ws_X6, rfl, by decide, gt_in (by decide +kernel) rfl⟩
theorem fl_X6_7 : fdL RX6 7 6 2 RX6 TX6 23 := ⟨ws_X6, rfl, by decide, gt_in (by decide +kernel) rfl⟩
theorem fl_X6_73 : fdL RX6 73 6 10 RX6 TX6 23 := ⟨ws_X6, rfl, by decide, gt_in (by decide +kernel) rfl⟩
theorem fl_X6_79 : fdL RX6 79 6 13 RX6 TX6 23 := ⟨ws_X6, rfl, by decide, gt_in (by decide +kernel) rfl⟩
theorem fl_X6_86 : fdL RX6 86 6 17 RX6 TX6 23 := ⟨ws_X6, rfl, by decide, gt_in (by decide +kernel) rfl⟩
theorem fp_X0_0 : fpL 0 TX0 9 .int := ⟨⟨tyX0, tyX0_ok⟩, nmX0, rfl, by decide +kernel⟩
theorem fp_X0_1 : fpL 1 TX0 9 .boolean := ⟨⟨tyX0, tyX0_ok⟩, nmX0, rfl, by decide +kernel⟩
theorem fp_X0_2 : fpL 2 TX0 9 .int := ⟨⟨tyX0, tyX0_ok⟩, nmX0, rfl, by decide +kernel⟩
theorem fp_X0_3 : fpL 3 TX0 9 .int := ⟨⟨tyX0, tyX0_ok⟩, nmX0, rfl, by decide +kernel⟩
theorem fp_X0_4 : fpL 4 TX0 9 .int := ⟨⟨tyX0, tyX0_ok⟩, nmX0, rfl, by decide +kernel⟩
theorem fp_X0_5 : fpL 5 TX0 9 .boolean := ⟨⟨tyX0, tyX0_ok⟩, nmX0, rfl, by decide +kernel⟩
theorem fp_X0_6 : fpL 6 TX0 9 .int := ⟨⟨tyX0, tyX0_ok⟩, nmX0, rfl, by decide +kernel⟩
theorem fp_X0_7 : fpL 7 TX0 9 .int := ⟨⟨tyX0, tyX0_ok⟩, nmX0, rfl, by decide +kernel⟩
theorem fp_X0_8 : fpL 8 TX0 9 .int := ⟨⟨tyX0, tyX0_ok⟩, nmX0, rfl, by decide +kernel⟩
theorem fp_X3_3 : fpL 3 TX3 4 .int := ⟨⟨tyX3, tyX3_ok⟩, nmX3, rfl, by decide +kernel⟩
theorem fp_X5_5 : fpL 5 TX5 9 .int := ⟨⟨tyX5, tyX5_ok⟩, nmX5, rfl, by decide +kernel⟩
theorem fp_X5_6 : fpL 6 TX5 9 .int := ⟨⟨tyX5, tyX5_ok⟩, nmX5, rfl, by decide +kernel⟩
theorem fp_X5_7 : fpL 7 TX5 9 .int := ⟨⟨tyX5, tyX5_ok⟩, nmX5, rfl, by decide +kernel⟩
theorem fp_X5_8 : fpL 8 TX5 9 .int := ⟨⟨tyX5, tyX5_ok⟩, nmX5, rfl, by decide +kernel⟩
theorem fp_X6_0 : fpL 0 TX6 23 .int := ⟨⟨tyX6, tyX6_ok⟩, nmX6, rfl, by decide +kernel⟩
theorem fp_X6_1 : fpL 1 TX6 23 .int := ⟨⟨tyX6, tyX6_ok⟩, nmX6, rfl, by decide +kernel⟩
theorem fp_X6_10 : fpL 10 TX6 23 .int := ⟨⟨tyX6, tyX6_ok⟩, nmX6, rfl, by decide +kernel⟩
theorem fp_X6_11 : fpL 11 TX6 23 .int := ⟨⟨tyX6, tyX6_ok⟩, nmX6, rfl, by decide +kernel⟩
theorem fp_X6_12 : fpL 12 TX6 23 .int := ⟨⟨tyX6, tyX6_ok⟩, nmX6, rfl, by decide +kernel⟩
theorem fp_X6_13 : fpL 13 TX6 23 .int := ⟨⟨tyX6, tyX6_ok⟩, nmX6, rfl, by decide +kernel⟩
theorem fp_X6_17 : fpL 17 TX6 23 .int := ⟨⟨tyX6, tyX6_ok⟩, nmX6, rfl, by decide +kernel⟩
theorem ld_X5_146 : Cond.constant RX5 146 (-1000000) ∈ gt := gt_in (by decide +kernel) rfl
theorem ld_X6_140 : Cond.constant RX6 140 (-1000000) ∈ gt := gt_in (by decide +kernel) rfl
theorem ld_X6_85 : Cond.constant RX6 85 (1000000) ∈ gt := gt_in (by decide +kernel) rfl
theorem lm_X0_44 : Cond.methodLink RX0 44 Lib.Math.max.name ∈ gt := gt_in (by decide +kernel) rfl
theorem lm_X2_21 : Cond.methodLink RX2 21 arraycopyName ∈ gt := gt_in (by decide +kernel) rfl
theorem lm_X2_27 : Cond.methodLink RX2 27 Lib.Math.min.name ∈ gt := gt_in (by decide +kernel) rfl
theorem lm_X3_54 : Cond.methodLink RX3 54 Lib.Math.max.name ∈ gt := gt_in (by decide +kernel) rfl
theorem lm_X4_28 : Cond.methodLink RX4 28 arraycopyName ∈ gt := gt_in (by decide +kernel) rfl
theorem lm_X4_58 : Cond.methodLink RX4 58 Lib.Math.min.name ∈ gt := gt_in (by decide +kernel) rfl
end
section
def ctI_0 (q : Nat → ClassId) (y : MethodName) (cc : ByteArray) (nL fr lo : Nat) (av : List Value) (W0 : va_W) (Wd : va_W) (K : Int32 → Prop) : Prop := ctI q y cc nL fr lo av W0 (fun u : Unit => Wd ) (fun r (u : Unit) => K r )
def rtI_0 (Γ : GT) (cc : ByteArray) (nL : Nat) (Wd : va_W) (K : Int32 → Prop) : Prop := rtI Γ cc nL (fun u : Unit => Wd ) (fun r (u : Unit) => K r )
theorem met_I_0 {q : Nat → ClassId} {y : MethodName} {cc : ByteArray} {nL fr lo : Nat} {av : List Value} {W0 : va_W} {Wd : va_W} {K : Int32 → Prop} (hy : plainName y.cls = true) (hav : (lg_sl av).length ≤ nL)
    (walk : ∀ Γ : GT, gd Γ cc y.cls nL (rmz fr lo) q → rtI_0 Γ cc nL Wd K → jw Γ nL 0 0 W0 (lv_args 0 av) [] 0) : ctI_0 q y cc nL fr lo av W0 Wd K := met_I hy hav walk
theorem rtI_0.go {Γ : GT} {cc : ByteArray} {nL : Nat} {Wd : va_W} {K : Int32 → Prop} (hr : rtI_0 Γ cc nL Wd K) {lv : List (Nat × Value)} {pc : Nat} {r : Int32}  (hd : decode cc pc = .ok (.ireturn, 1)) (h : K r ) : jw Γ nL 0 0 (Wd ) lv [.int r] pc := hr lv pc r () hd h
def ctI_1 (q : Nat → ClassId) (y : MethodName) (cc : ByteArray) (nL fr lo : Nat) (av : List Value) (W0 : va_W) {A1 : Type} (Wd : A1 → va_W) (K : Int32 → A1 → Prop) : Prop := ctI q y cc nL fr lo av W0 (fun u : A1 => Wd u) (fun r (u : A1) => K r u)
def rtI_1 (Γ : GT) (cc : ByteArray) (nL : Nat) {A1 : Type} (Wd : A1 → va_W) (K : Int32 → A1 → Prop) : Prop := rtI Γ cc nL (fun u : A1 => Wd u) (fun r (u : A1) => K r u)
theorem met_I_1 {q : Nat → ClassId} {y : MethodName} {cc : ByteArray} {nL fr lo : Nat} {av : List Value} {W0 : va_W} {A1 : Type} {Wd : A1 → va_W} {K : Int32 → A1 → Prop} (hy : plainName y.cls = true) (hav : (lg_sl av).length ≤ nL)
    (walk : ∀ Γ : GT, gd Γ cc y.cls nL (rmz fr lo) q → rtI_1 Γ cc nL Wd K → jw Γ nL 0 0 W0 (lv_args 0 av) [] 0) : ctI_1 q y cc nL fr lo av W0 Wd K := met_I hy hav walk
theorem rtI_1.go {Γ : GT} {cc : ByteArray} {nL : Nat} {A1 : Type} {Wd : A1 → va_W} {K : Int32 → A1 → Prop} (hr : rtI_1 Γ cc nL Wd K) {lv : List (Nat × Value)} {pc : Nat} {r : Int32} {m1 : A1} (hd : decode cc pc = .ok (.ireturn, 1)) (h : K r m1) : jw Γ nL 0 0 (Wd m1) lv [.int r] pc := hr lv pc r m1 hd h
def ctI_2 (q : Nat → ClassId) (y : MethodName) (cc : ByteArray) (nL fr lo : Nat) (av : List Value) (W0 : va_W) {A1 A2 : Type} (Wd : A1 → A2 → va_W) (K : Int32 → A1 → A2 → Prop) : Prop := ctI q y cc nL fr lo av W0 (fun u : A1 × A2 => Wd u.1 u.2) (fun r (u : A1 × A2) => K r u.1 u.2)
def rtI_2 (Γ : GT) (cc : ByteArray) (nL : Nat) {A1 A2 : Type} (Wd : A1 → A2 → va_W) (K : Int32 → A1 → A2 → Prop) : Prop := rtI Γ cc nL (fun u : A1 × A2 => Wd u.1 u.2) (fun r (u : A1 × A2) => K r u.1 u.2)
theorem met_I_2 {q : Nat → ClassId} {y : MethodName} {cc : ByteArray} {nL fr lo : Nat} {av : List Value} {W0 : va_W} {A1 A2 : Type} {Wd : A1 → A2 → va_W} {K : Int32 → A1 → A2 → Prop} (hy : plainName y.cls = true) (hav : (lg_sl av).length ≤ nL)
    (walk : ∀ Γ : GT, gd Γ cc y.cls nL (rmz fr lo) q → rtI_2 Γ cc nL Wd K → jw Γ nL 0 0 W0 (lv_args 0 av) [] 0) : ctI_2 q y cc nL fr lo av W0 Wd K := met_I hy hav walk
theorem rtI_2.go {Γ : GT} {cc : ByteArray} {nL : Nat} {A1 A2 : Type} {Wd : A1 → A2 → va_W} {K : Int32 → A1 → A2 → Prop} (hr : rtI_2 Γ cc nL Wd K) {lv : List (Nat × Value)} {pc : Nat} {r : Int32} {m1 : A1} {m2 : A2} (hd : decode cc pc = .ok (.ireturn, 1)) (h : K r m1 m2) : jw Γ nL 0 0 (Wd m1 m2) lv [.int r] pc := hr lv pc r (m1, m2) hd h
def ctI_3 (q : Nat → ClassId) (y : MethodName) (cc : ByteArray) (nL fr lo : Nat) (av : List Value) (W0 : va_W) {A1 A2 A3 : Type} (Wd : A1 → A2 → A3 → va_W) (K : Int32 → A1 → A2 → A3 → Prop) : Prop := ctI q y cc nL fr lo av W0 (fun u : A1 × A2 × A3 => Wd u.1 u.2.1 u.2.2) (fun r (u : A1 × A2 × A3) => K r u.1 u.2.1 u.2.2)
def rtI_3 (Γ : GT) (cc : ByteArray) (nL : Nat) {A1 A2 A3 : Type} (Wd : A1 → A2 → A3 → va_W) (K : Int32 → A1 → A2 → A3 → Prop) : Prop := rtI Γ cc nL (fun u : A1 × A2 × A3 => Wd u.1 u.2.1 u.2.2) (fun r (u : A1 × A2 × A3) => K r u.1 u.2.1 u.2.2)
theorem met_I_3 {q : Nat → ClassId} {y : MethodName} {cc : ByteArray} {nL fr lo : Nat} {av : List Value} {W0 : va_W} {A1 A2 A3 : Type} {Wd : A1 → A2 → A3 → va_W} {K : Int32 → A1 → A2 → A3 → Prop} (hy : plainName y.cls = true) (hav : (lg_sl av).length ≤ nL)
    (walk : ∀ Γ : GT, gd Γ cc y.cls nL (rmz fr lo) q → rtI_3 Γ cc nL Wd K → jw Γ nL 0 0 W0 (lv_args 0 av) [] 0) : ctI_3 q y cc nL fr lo av W0 Wd K := met_I hy hav walk
theorem rtI_3.go {Γ : GT} {cc : ByteArray} {nL : Nat} {A1 A2 A3 : Type} {Wd : A1 → A2 → A3 → va_W} {K : Int32 → A1 → A2 → A3 → Prop} (hr : rtI_3 Γ cc nL Wd K) {lv : List (Nat × Value)} {pc : Nat} {r : Int32} {m1 : A1} {m2 : A2} {m3 : A3} (hd : decode cc pc = .ok (.ireturn, 1)) (h : K r m1 m2 m3) : jw Γ nL 0 0 (Wd m1 m2 m3) lv [.int r] pc := hr lv pc r (m1, m2, m3) hd h
def ctI_4 (q : Nat → ClassId) (y : MethodName) (cc : ByteArray) (nL fr lo : Nat) (av : List Value) (W0 : va_W) {A1 A2 A3 A4 : Type} (Wd : A1 → A2 → A3 → A4 → va_W) (K : Int32 → A1 → A2 → A3 → A4 → Prop) : Prop := ctI q y cc nL fr lo av W0 (fun u : A1 × A2 × A3 × A4 => Wd u.1 u.2.1 u.2.2.1 u.2.2.2) (fun r (u : A1 × A2 × A3 × A4) => K r u.1 u.2.1 u.2.2.1 u.2.2.2)
def rtI_4 (Γ : GT) (cc : ByteArray) (nL : Nat) {A1 A2 A3 A4 : Type} (Wd : A1 → A2 → A3 → A4 → va_W) (K : Int32 → A1 → A2 → A3 → A4 → Prop) : Prop := rtI Γ cc nL (fun u : A1 × A2 × A3 × A4 => Wd u.1 u.2.1 u.2.2.1 u.2.2.2) (fun r (u : A1 × A2 × A3 × A4) => K r u.1 u.2.1 u.2.2.1 u.2.2.2)
theorem met_I_4 {q : Nat → ClassId} {y : MethodName} {cc : ByteArray} {nL fr lo : Nat} {av : List Value} {W0 : va_W} {A1 A2 A3 A4 : Type} {Wd : A1 → A2 → A3 → A4 → va_W} {K : Int32 → A1 → A2 → A3 → A4 → Prop} (hy : plainName y.cls = true) (hav : (lg_sl av).length ≤ nL)
    (walk : ∀ Γ : GT, gd Γ cc y.cls nL (rmz fr lo) q → rtI_4 Γ cc nL Wd K → jw Γ nL 0 0 W0 (lv_args 0 av) [] 0) : ctI_4 q y cc nL fr lo av W0 Wd K := met_I hy hav walk
theorem rtI_4.go {Γ : GT} {cc : ByteArray} {nL : Nat} {A1 A2 A3 A4 : Type} {Wd : A1 → A2 → A3 → A4 → va_W} {K : Int32 → A1 → A2 → A3 → A4 → Prop} (hr : rtI_4 Γ cc nL Wd K) {lv : List (Nat × Value)} {pc : Nat} {r : Int32} {m1 : A1} {m2 : A2} {m3 : A3} {m4 : A4} (hd : decode cc pc = .ok (.ireturn, 1)) (h : K r m1 m2 m3 m4) : jw Γ nL 0 0 (Wd m1 m2 m3 m4) lv [.int r] pc := hr lv pc r (m1, m2, m3, m4) hd h
def ctI_5 (q : Nat → ClassId) (y : MethodName) (cc : ByteArray) (nL fr lo : Nat) (av : List Value) (W0 : va_W) {A1 A2 A3 A4 A5 : Type} (Wd : A1 → A2 → A3 → A4 → A5 → va_W) (K : Int32 → A1 → A2 → A3 → A4 → A5 → Prop) : Prop := ctI q y cc nL fr lo av W0 (fun u : A1 × A2 × A3 × A4 × A5 => Wd u.1 u.2.1 u.2.2.1 u.2.2.2.1 u.2.2.2.2) (fun r (u : A1 × A2 × A3 × A4 × A5) => K r u.1 u.2.1 u.2.2.1 u.2.2.2.1 u.2.2.2.2)
def rtI_5 (Γ : GT) (cc : ByteArray) (nL : Nat) {A1 A2 A3 A4 A5 : Type} (Wd : A1 → A2 → A3 → A4 → A5 → va_W) (K : Int32 → A1 → A2 → A3 → A4 → A5 → Prop) : Prop := rtI Γ cc nL (fun u : A1 × A2 × A3 × A4 × A5 => Wd u.1 u.2.1 u.2.2.1 u.2.2.2.1 u.2.2.2.2) (fun r (u : A1 × A2 × A3 × A4 × A5) => K r u.1 u.2.1 u.2.2.1 u.2.2.2.1 u.2.2.2.2)
theorem met_I_5 {q : Nat → ClassId} {y : MethodName} {cc : ByteArray} {nL fr lo : Nat} {av : List Value} {W0 : va_W} {A1 A2 A3 A4 A5 : Type} {Wd : A1 → A2 → A3 → A4 → A5 → va_W} {K : Int32 → A1 → A2 → A3 → A4 → A5 → Prop} (hy : plainName y.cls = true) (hav : (lg_sl av).length ≤ nL)
    (walk : ∀ Γ : GT, gd Γ cc y.cls nL (rmz fr lo) q → rtI_5 Γ cc nL Wd K → jw Γ nL 0 0 W0 (lv_args 0 av) [] 0) : ctI_5 q y cc nL fr lo av W0 Wd K := met_I hy hav walk
theorem rtI_5.go {Γ : GT} {cc : ByteArray} {nL : Nat} {A1 A2 A3 A4 A5 : Type} {Wd : A1 → A2 → A3 → A4 → A5 → va_W} {K : Int32 → A1 → A2 → A3 → A4 → A5 → Prop} (hr : rtI_5 Γ cc nL Wd K) {lv : List (Nat × Value)} {pc : Nat} {r : Int32} {m1 : A1} {m2 : A2} {m3 : A3} {m4 : A4} {m5 : A5} (hd : decode cc pc = .ok (.ireturn, 1)) (h : K r m1 m2 m3 m4 m5) : jw Γ nL 0 0 (Wd m1 m2 m3 m4 m5) lv [.int r] pc := hr lv pc r (m1, m2, m3, m4, m5) hd h
def ctI_6 (q : Nat → ClassId) (y : MethodName) (cc : ByteArray) (nL fr lo : Nat) (av : List Value) (W0 : va_W) {A1 A2 A3 A4 A5 A6 : Type} (Wd : A1 → A2 → A3 → A4 → A5 → A6 → va_W) (K : Int32 → A1 → A2 → A3 → A4 → A5 → A6 → Prop) : Prop := ctI q y cc nL fr lo av W0 (fun u : A1 × A2 × A3 × A4 × A5 × A6 => Wd u.1 u.2.1 u.2.2.1 u.2.2.2.1 u.2.2.2.2.1 u.2.2.2.2.2) (fun r (u : A1 × A2 × A3 × A4 × A5 × A6) => K r u.1 u.2.1 u.2.2.1 u.2.2.2.1 u.2.2.2.2.1 u.2.2.2.2.2)
def rtI_6 (Γ : GT) (cc : ByteArray) (nL : Nat) {A1 A2 A3 A4 A5 A6 : Type} (Wd : A1 → A2 → A3 → A4 → A5 → A6 → va_W) (K : Int32 → A1 → A2 → A3 → A4 → A5 → A6 → Prop) : Prop := rtI Γ cc nL (fun u : A1 × A2 × A3 × A4 × A5 × A6 => Wd u.1 u.2.1 u.2.2.1 u.2.2.2.1 u.2.2.2.2.1 u.2.2.2.2.2) (fun r (u : A1 × A2 × A3 × A4 × A5 × A6) => K r u.1 u.2.1 u.2.2.1 u.2.2.2.1 u.2.2.2.2.1 u.2.2.2.2.2)
theorem met_I_6 {q : Nat → ClassId} {y : MethodName} {cc : ByteArray} {nL fr lo : Nat} {av : List Value} {W0 : va_W} {A1 A2 A3 A4 A5 A6 : Type} {Wd : A1 → A2 → A3 → A4 → A5 → A6 → va_W} {K : Int32 → A1 → A2 → A3 → A4 → A5 → A6 → Prop} (hy : plainName y.cls = true) (hav : (lg_sl av).length ≤ nL)
    (walk : ∀ Γ : GT, gd Γ cc y.cls nL (rmz fr lo) q → rtI_6 Γ cc nL Wd K → jw Γ nL 0 0 W0 (lv_args 0 av) [] 0) : ctI_6 q y cc nL fr lo av W0 Wd K := met_I hy hav walk
theorem rtI_6.go {Γ : GT} {cc : ByteArray} {nL : Nat} {A1 A2 A3 A4 A5 A6 : Type} {Wd : A1 → A2 → A3 → A4 → A5 → A6 → va_W} {K : Int32 → A1 → A2 → A3 → A4 → A5 → A6 → Prop} (hr : rtI_6 Γ cc nL Wd K) {lv : List (Nat × Value)} {pc : Nat} {r : Int32} {m1 : A1} {m2 : A2} {m3 : A3} {m4 : A4} {m5 : A5} {m6 : A6} (hd : decode cc pc = .ok (.ireturn, 1)) (h : K r m1 m2 m3 m4 m5 m6) : jw Γ nL 0 0 (Wd m1 m2 m3 m4 m5 m6) lv [.int r] pc := hr lv pc r (m1, m2, m3, m4, m5, m6) hd h
def ctI_8 (q : Nat → ClassId) (y : MethodName) (cc : ByteArray) (nL fr lo : Nat) (av : List Value) (W0 : va_W) {A1 A2 A3 A4 A5 A6 A7 A8 : Type} (Wd : A1 → A2 → A3 → A4 → A5 → A6 → A7 → A8 → va_W) (K : Int32 → A1 → A2 → A3 → A4 → A5 → A6 → A7 → A8 → Prop) : Prop := ctI q y cc nL fr lo av W0 (fun u : A1 × A2 × A3 × A4 × A5 × A6 × A7 × A8 => Wd u.1 u.2.1 u.2.2.1 u.2.2.2.1 u.2.2.2.2.1 u.2.2.2.2.2.1 u.2.2.2.2.2.2.1 u.2.2.2.2.2.2.2) (fun r (u : A1 × A2 × A3 × A4 × A5 × A6 × A7 × A8) => K r u.1 u.2.1 u.2.2.1 u.2.2.2.1 u.2.2.2.2.1 u.2.2.2.2.2.1 u.2.2.2.2.2.2.1 u.2.2.2.2.2.2.2)
def rtI_8 (Γ : GT) (cc : ByteArray) (nL : Nat) {A1 A2 A3 A4 A5 A6 A7 A8 : Type} (Wd : A1 → A2 → A3 → A4 → A5 → A6 → A7 → A8 → va_W) (K : Int32 → A1 → A2 → A3 → A4 → A5 → A6 → A7 → A8 → Prop) : Prop := rtI Γ cc nL (fun u : A1 × A2 × A3 × A4 × A5 × A6 × A7 × A8 => Wd u.1 u.2.1 u.2.2.1 u.2.2.2.1 u.2.2.2.2.1 u.2.2.2.2.2.1 u.2.2.2.2.2.2.1 u.2.2.2.2.2.2.2) (fun r (u : A1 × A2 × A3 × A4 × A5 × A6 × A7 × A8) => K r u.1 u.2.1 u.2.2.1 u.2.2.2.1 u.2.2.2.2.1 u.2.2.2.2.2.1 u.2.2.2.2.2.2.1 u.2.2.2.2.2.2.2)
theorem met_I_8 {q : Nat → ClassId} {y : MethodName} {cc : ByteArray} {nL fr lo : Nat} {av : List Value} {W0 : va_W} {A1 A2 A3 A4 A5 A6 A7 A8 : Type} {Wd : A1 → A2 → A3 → A4 → A5 → A6 → A7 → A8 → va_W} {K : Int32 → A1 → A2 → A3 → A4 → A5 → A6 → A7 → A8 → Prop} (hy : plainName y.cls = true) (hav : (lg_sl av).length ≤ nL)
    (walk : ∀ Γ : GT, gd Γ cc y.cls nL (rmz fr lo) q → rtI_8 Γ cc nL Wd K → jw Γ nL 0 0 W0 (lv_args 0 av) [] 0) : ctI_8 q y cc nL fr lo av W0 Wd K := met_I hy hav walk
theorem rtI_8.go {Γ : GT} {cc : ByteArray} {nL : Nat} {A1 A2 A3 A4 A5 A6 A7 A8 : Type} {Wd : A1 → A2 → A3 → A4 → A5 → A6 → A7 → A8 → va_W} {K : Int32 → A1 → A2 → A3 → A4 → A5 → A6 → A7 → A8 → Prop} (hr : rtI_8 Γ cc nL Wd K) {lv : List (Nat × Value)} {pc : Nat} {r : Int32} {m1 : A1} {m2 : A2} {m3 : A3} {m4 : A4} {m5 : A5} {m6 : A6} {m7 : A7} {m8 : A8} (hd : decode cc pc = .ok (.ireturn, 1)) (h : K r m1 m2 m3 m4 m5 m6 m7 m8) : jw Γ nL 0 0 (Wd m1 m2 m3 m4 m5 m6 m7 m8) lv [.int r] pc := hr lv pc r (m1, m2, m3, m4, m5, m6, m7, m8) hd h
def ctI_9 (q : Nat → ClassId) (y : MethodName) (cc : ByteArray) (nL fr lo : Nat) (av : List Value) (W0 : va_W) {A1 A2 A3 A4 A5 A6 A7 A8 A9 : Type} (Wd : A1 → A2 → A3 → A4 → A5 → A6 → A7 → A8 → A9 → va_W) (K : Int32 → A1 → A2 → A3 → A4 → A5 → A6 → A7 → A8 → A9 → Prop) : Prop := ctI q y cc nL fr lo av W0 (fun u : A1 × A2 × A3 × A4 × A5 × A6 × A7 × A8 × A9 => Wd u.1 u.2.1 u.2.2.1 u.2.2.2.1 u.2.2.2.2.1 u.2.2.2.2.2.1 u.2.2.2.2.2.2.1 u.2.2.2.2.2.2.2.1 u.2.2.2.2.2.2.2.2) (fun r (u : A1 × A2 × A3 × A4 × A5 × A6 × A7 × A8 × A9) => K r u.1 u.2.1 u.2.2.1 u.2.2.2.1 u.2.2.2.2.1 u.2.2.2.2.2.1 u.2.2.2.2.2.2.1 u.2.2.2.2.2.2.2.1 u.2.2.2.2.2.2.2.2)
def rtI_9 (Γ : GT) (cc : ByteArray) (nL : Nat) {A1 A2 A3 A4 A5 A6 A7 A8 A9 : Type} (Wd : A1 → A2 → A3 → A4 → A5 → A6 → A7 → A8 → A9 → va_W) (K : Int32 → A1 → A2 → A3 → A4 → A5 → A6 → A7 → A8 → A9 → Prop) : Prop := rtI Γ cc nL (fun u : A1 × A2 × A3 × A4 × A5 × A6 × A7 × A8 × A9 => Wd u.1 u.2.1 u.2.2.1 u.2.2.2.1 u.2.2.2.2.1 u.2.2.2.2.2.1 u.2.2.2.2.2.2.1 u.2.2.2.2.2.2.2.1 u.2.2.2.2.2.2.2.2) (fun r (u : A1 × A2 × A3 × A4 × A5 × A6 × A7 × A8 × A9) => K r u.1 u.2.1 u.2.2.1 u.2.2.2.1 u.2.2.2.2.1 u.2.2.2.2.2.1 u.2.2.2.2.2.2.1 u.2.2.2.2.2.2.2.1 u.2.2.2.2.2.2.2.2)
theorem met_I_9 {q : Nat → ClassId} {y : MethodName} {cc : ByteArray} {nL fr lo : Nat} {av : List Value} {W0 : va_W} {A1 A2 A3 A4 A5 A6 A7 A8 A9 : Type} {Wd : A1 → A2 → A3 → A4 → A5 → A6 → A7 → A8 → A9 → va_W} {K : Int32 → A1 → A2 → A3 → A4 → A5 → A6 → A7 → A8 → A9 → Prop} (hy : plainName y.cls = true) (hav : (lg_sl av).length ≤ nL)
    (walk : ∀ Γ : GT, gd Γ cc y.cls nL (rmz fr lo) q → rtI_9 Γ cc nL Wd K → jw Γ nL 0 0 W0 (lv_args 0 av) [] 0) : ctI_9 q y cc nL fr lo av W0 Wd K := met_I hy hav walk
theorem rtI_9.go {Γ : GT} {cc : ByteArray} {nL : Nat} {A1 A2 A3 A4 A5 A6 A7 A8 A9 : Type} {Wd : A1 → A2 → A3 → A4 → A5 → A6 → A7 → A8 → A9 → va_W} {K : Int32 → A1 → A2 → A3 → A4 → A5 → A6 → A7 → A8 → A9 → Prop} (hr : rtI_9 Γ cc nL Wd K) {lv : List (Nat × Value)} {pc : Nat} {r : Int32} {m1 : A1} {m2 : A2} {m3 : A3} {m4 : A4} {m5 : A5} {m6 : A6} {m7 : A7} {m8 : A8} {m9 : A9} (hd : decode cc pc = .ok (.ireturn, 1)) (h : K r m1 m2 m3 m4 m5 m6 m7 m8 m9) : jw Γ nL 0 0 (Wd m1 m2 m3 m4 m5 m6 m7 m8 m9) lv [.int r] pc := hr lv pc r (m1, m2, m3, m4, m5, m6, m7, m8, m9) hd h
def ctI_10 (q : Nat → ClassId) (y : MethodName) (cc : ByteArray) (nL fr lo : Nat) (av : List Value) (W0 : va_W) {A1 A2 A3 A4 A5 A6 A7 A8 A9 A10 : Type} (Wd : A1 → A2 → A3 → A4 → A5 → A6 → A7 → A8 → A9 → A10 → va_W) (K : Int32 → A1 → A2 → A3 → A4 → A5 → A6 → A7 → A8 → A9 → A10 → Prop) : Prop := ctI q y cc nL fr lo av W0 (fun u : A1 × A2 × A3 × A4 × A5 × A6 × A7 × A8 × A9 × A10 => Wd u.1 u.2.1 u.2.2.1 u.2.2.2.1 u.2.2.2.2.1 u.2.2.2.2.2.1 u.2.2.2.2.2.2.1 u.2.2.2.2.2.2.2.1 u.2.2.2.2.2.2.2.2.1 u.2.2.2.2.2.2.2.2.2) (fun r (u : A1 × A2 × A3 × A4 × A5 × A6 × A7 × A8 × A9 × A10) => K r u.1 u.2.1 u.2.2.1 u.2.2.2.1 u.2.2.2.2.1 u.2.2.2.2.2.1 u.2.2.2.2.2.2.1 u.2.2.2.2.2.2.2.1 u.2.2.2.2.2.2.2.2.1 u.2.2.2.2.2.2.2.2.2)
def rtI_10 (Γ : GT) (cc : ByteArray) (nL : Nat) {A1 A2 A3 A4 A5 A6 A7 A8 A9 A10 : Type} (Wd : A1 → A2 → A3 → A4 → A5 → A6 → A7 → A8 → A9 → A10 → va_W) (K : Int32 → A1 → A2 → A3 → A4 → A5 → A6 → A7 → A8 → A9 → A10 → Prop) : Prop := rtI Γ cc nL (fun u : A1 × A2 × A3 × A4 × A5 × A6 × A7 × A8 × A9 × A10 => Wd u.1 u.2.1 u.2.2.1 u.2.2.2.1 u.2.2.2.2.1 u.2.2.2.2.2.1 u.2.2.2.2.2.2.1 u.2.2.2.2.2.2.2.1 u.2.2.2.2.2.2.2.2.1 u.2.2.2.2.2.2.2.2.2) (fun r (u : A1 × A2 × A3 × A4 × A5 × A6 × A7 × A8 × A9 × A10) => K r u.1 u.2.1 u.2.2.1 u.2.2.2.1 u.2.2.2.2.1 u.2.2.2.2.2.1 u.2.2.2.2.2.2.1 u.2.2.2.2.2.2.2.1 u.2.2.2.2.2.2.2.2.1 u.2.2.2.2.2.2.2.2.2)
theorem met_I_10 {q : Nat → ClassId} {y : MethodName} {cc : ByteArray} {nL fr lo : Nat} {av : List Value} {W0 : va_W} {A1 A2 A3 A4 A5 A6 A7 A8 A9 A10 : Type} {Wd : A1 → A2 → A3 → A4 → A5 → A6 → A7 → A8 → A9 → A10 → va_W} {K : Int32 → A1 → A2 → A3 → A4 → A5 → A6 → A7 → A8 → A9 → A10 → Prop} (hy : plainName y.cls = true) (hav : (lg_sl av).length ≤ nL)
    (walk : ∀ Γ : GT, gd Γ cc y.cls nL (rmz fr lo) q → rtI_10 Γ cc nL Wd K → jw Γ nL 0 0 W0 (lv_args 0 av) [] 0) : ctI_10 q y cc nL fr lo av W0 Wd K := met_I hy hav walk
theorem rtI_10.go {Γ : GT} {cc : ByteArray} {nL : Nat} {A1 A2 A3 A4 A5 A6 A7 A8 A9 A10 : Type} {Wd : A1 → A2 → A3 → A4 → A5 → A6 → A7 → A8 → A9 → A10 → va_W} {K : Int32 → A1 → A2 → A3 → A4 → A5 → A6 → A7 → A8 → A9 → A10 → Prop} (hr : rtI_10 Γ cc nL Wd K) {lv : List (Nat × Value)} {pc : Nat} {r : Int32} {m1 : A1} {m2 : A2} {m3 : A3} {m4 : A4} {m5 : A5} {m6 : A6} {m7 : A7} {m8 : A8} {m9 : A9} {m10 : A10} (hd : decode cc pc = .ok (.ireturn, 1)) (h : K r m1 m2 m3 m4 m5 m6 m7 m8 m9 m10) : jw Γ nL 0 0 (Wd m1 m2 m3 m4 m5 m6 m7 m8 m9 m10) lv [.int r] pc := hr lv pc r (m1, m2, m3, m4, m5, m6, m7, m8, m9, m10) hd h
def ctI_11 (q : Nat → ClassId) (y : MethodName) (cc : ByteArray) (nL fr lo : Nat) (av : List Value) (W0 : va_W) {A1 A2 A3 A4 A5 A6 A7 A8 A9 A10 A11 : Type} (Wd : A1 → A2 → A3 → A4 → A5 → A6 → A7 → A8 → A9 → A10 → A11 → va_W) (K : Int32 → A1 → A2 → A3 → A4 → A5 → A6 → A7 → A8 → A9 → A10 → A11 → Prop) : Prop := ctI q y cc nL fr lo av W0 (fun u : A1 × A2 × A3 × A4 × A5 × A6 × A7 × A8 × A9 × A10 × A11 => Wd u.1 u.2.1 u.2.2.1 u.2.2.2.1 u.2.2.2.2.1 u.2.2.2.2.2.1 u.2.2.2.2.2.2.1 u.2.2.2.2.2.2.2.1 u.2.2.2.2.2.2.2.2.1 u.2.2.2.2.2.2.2.2.2.1 u.2.2.2.2.2.2.2.2.2.2) (fun r (u : A1 × A2 × A3 × A4 × A5 × A6 × A7 × A8 × A9 × A10 × A11) => K r u.1 u.2.1 u.2.2.1 u.2.2.2.1 u.2.2.2.2.1 u.2.2.2.2.2.1 u.2.2.2.2.2.2.1 u.2.2.2.2.2.2.2.1 u.2.2.2.2.2.2.2.2.1 u.2.2.2.2.2.2.2.2.2.1 u.2.2.2.2.2.2.2.2.2.2)
def rtI_11 (Γ : GT) (cc : ByteArray) (nL : Nat) {A1 A2 A3 A4 A5 A6 A7 A8 A9 A10 A11 : Type} (Wd : A1 → A2 → A3 → A4 → A5 → A6 → A7 → A8 → A9 → A10 → A11 → va_W) (K : Int32 → A1 → A2 → A3 → A4 → A5 → A6 → A7 → A8 → A9 → A10 → A11 → Prop) : Prop := rtI Γ cc nL (fun u : A1 × A2 × A3 × A4 × A5 × A6 × A7 × A8 × A9 × A10 × A11 => Wd u.1 u.2.1 u.2.2.1 u.2.2.2.1 u.2.2.2.2.1 u.2.2.2.2.2.1 u.2.2.2.2.2.2.1 u.2.2.2.2.2.2.2.1 u.2.2.2.2.2.2.2.2.1 u.2.2.2.2.2.2.2.2.2.1 u.2.2.2.2.2.2.2.2.2.2) (fun r (u : A1 × A2 × A3 × A4 × A5 × A6 × A7 × A8 × A9 × A10 × A11) => K r u.1 u.2.1 u.2.2.1 u.2.2.2.1 u.2.2.2.2.1 u.2.2.2.2.2.1 u.2.2.2.2.2.2.1 u.2.2.2.2.2.2.2.1 u.2.2.2.2.2.2.2.2.1 u.2.2.2.2.2.2.2.2.2.1 u.2.2.2.2.2.2.2.2.2.2)
theorem met_I_11 {q : Nat → ClassId} {y : MethodName} {cc : ByteArray} {nL fr lo : Nat} {av : List Value} {W0 : va_W} {A1 A2 A3 A4 A5 A6 A7 A8 A9 A10 A11 : Type} {Wd : A1 → A2 → A3 → A4 → A5 → A6 → A7 → A8 → A9 → A10 → A11 → va_W} {K : Int32 → A1 → A2 → A3 → A4 → A5 → A6 → A7 → A8 → A9 → A10 → A11 → Prop} (hy : plainName y.cls = true) (hav : (lg_sl av).length ≤ nL)
    (walk : ∀ Γ : GT, gd Γ cc y.cls nL (rmz fr lo) q → rtI_11 Γ cc nL Wd K → jw Γ nL 0 0 W0 (lv_args 0 av) [] 0) : ctI_11 q y cc nL fr lo av W0 Wd K := met_I hy hav walk
theorem rtI_11.go {Γ : GT} {cc : ByteArray} {nL : Nat} {A1 A2 A3 A4 A5 A6 A7 A8 A9 A10 A11 : Type} {Wd : A1 → A2 → A3 → A4 → A5 → A6 → A7 → A8 → A9 → A10 → A11 → va_W} {K : Int32 → A1 → A2 → A3 → A4 → A5 → A6 → A7 → A8 → A9 → A10 → A11 → Prop} (hr : rtI_11 Γ cc nL Wd K) {lv : List (Nat × Value)} {pc : Nat} {r : Int32} {m1 : A1} {m2 : A2} {m3 : A3} {m4 : A4} {m5 : A5} {m6 : A6} {m7 : A7} {m8 : A8} {m9 : A9} {m10 : A10} {m11 : A11} (hd : decode cc pc = .ok (.ireturn, 1)) (h : K r m1 m2 m3 m4 m5 m6 m7 m8 m9 m10 m11) : jw Γ nL 0 0 (Wd m1 m2 m3 m4 m5 m6 m7 m8 m9 m10 m11) lv [.int r] pc := hr lv pc r (m1, m2, m3, m4, m5, m6, m7, m8, m9, m10, m11) hd h
def ctI_12 (q : Nat → ClassId) (y : MethodName) (cc : ByteArray) (nL fr lo : Nat) (av : List Value) (W0 : va_W) {A1 A2 A3 A4 A5 A6 A7 A8 A9 A10 A11 A12 : Type} (Wd : A1 → A2 → A3 → A4 → A5 → A6 → A7 → A8 → A9 → A10 → A11 → A12 → va_W) (K : Int32 → A1 → A2 → A3 → A4 → A5 → A6 → A7 → A8 → A9 → A10 → A11 → A12 → Prop) : Prop := ctI q y cc nL fr lo av W0 (fun u : A1 × A2 × A3 × A4 × A5 × A6 × A7 × A8 × A9 × A10 × A11 × A12 => Wd u.1 u.2.1 u.2.2.1 u.2.2.2.1 u.2.2.2.2.1 u.2.2.2.2.2.1 u.2.2.2.2.2.2.1 u.2.2.2.2.2.2.2.1 u.2.2.2.2.2.2.2.2.1 u.2.2.2.2.2.2.2.2.2.1 u.2.2.2.2.2.2.2.2.2.2.1 u.2.2.2.2.2.2.2.2.2.2.2) (fun r (u : A1 × A2 × A3 × A4 × A5 × A6 × A7 × A8 × A9 × A10 × A11 × A12) => K r u.1 u.2.1 u.2.2.1 u.2.2.2.1 u.2.2.2.2.1 u.2.2.2.2.2.1 u.2.2.2.2.2.2.1 u.2.2.2.2.2.2.2.1 u.2.2.2.2.2.2.2.2.1 u.2.2.2.2.2.2.2.2.2.1 u.2.2.2.2.2.2.2.2.2.2.1 u.2.2.2.2.2.2.2.2.2.2.2)
def rtI_12 (Γ : GT) (cc : ByteArray) (nL : Nat) {A1 A2 A3 A4 A5 A6 A7 A8 A9 A10 A11 A12 : Type} (Wd : A1 → A2 → A3 → A4 → A5 → A6 → A7 → A8 → A9 → A10 → A11 → A12 → va_W) (K : Int32 → A1 → A2 → A3 → A4 → A5 → A6 → A7 → A8 → A9 → A10 → A11 → A12 → Prop) : Prop := rtI Γ cc nL (fun u : A1 × A2 × A3 × A4 × A5 × A6 × A7 × A8 × A9 × A10 × A11 × A12 => Wd u.1 u.2.1 u.2.2.1 u.2.2.2.1 u.2.2.2.2.1 u.2.2.2.2.2.1 u.2.2.2.2.2.2.1 u.2.2.2.2.2.2.2.1 u.2.2.2.2.2.2.2.2.1 u.2.2.2.2.2.2.2.2.2.1 u.2.2.2.2.2.2.2.2.2.2.1 u.2.2.2.2.2.2.2.2.2.2.2) (fun r (u : A1 × A2 × A3 × A4 × A5 × A6 × A7 × A8 × A9 × A10 × A11 × A12) => K r u.1 u.2.1 u.2.2.1 u.2.2.2.1 u.2.2.2.2.1 u.2.2.2.2.2.1 u.2.2.2.2.2.2.1 u.2.2.2.2.2.2.2.1 u.2.2.2.2.2.2.2.2.1 u.2.2.2.2.2.2.2.2.2.1 u.2.2.2.2.2.2.2.2.2.2.1 u.2.2.2.2.2.2.2.2.2.2.2)
theorem met_I_12 {q : Nat → ClassId} {y : MethodName} {cc : ByteArray} {nL fr lo : Nat} {av : List Value} {W0 : va_W} {A1 A2 A3 A4 A5 A6 A7 A8 A9 A10 A11 A12 : Type} {Wd : A1 → A2 → A3 → A4 → A5 → A6 → A7 → A8 → A9 → A10 → A11 → A12 → va_W} {K : Int32 → A1 → A2 → A3 → A4 → A5 → A6 → A7 → A8 → A9 → A10 → A11 → A12 → Prop} (hy : plainName y.cls = true) (hav : (lg_sl av).length ≤ nL)
    (walk : ∀ Γ : GT, gd Γ cc y.cls nL (rmz fr lo) q → rtI_12 Γ cc nL Wd K → jw Γ nL 0 0 W0 (lv_args 0 av) [] 0) : ctI_12 q y cc nL fr lo av W0 Wd K := met_I hy hav walk
theorem rtI_12.go {Γ : GT} {cc : ByteArray} {nL : Nat} {A1 A2 A3 A4 A5 A6 A7 A8 A9 A10 A11 A12 : Type} {Wd : A1 → A2 → A3 → A4 → A5 → A6 → A7 → A8 → A9 → A10 → A11 → A12 → va_W} {K : Int32 → A1 → A2 → A3 → A4 → A5 → A6 → A7 → A8 → A9 → A10 → A11 → A12 → Prop} (hr : rtI_12 Γ cc nL Wd K) {lv : List (Nat × Value)} {pc : Nat} {r : Int32} {m1 : A1} {m2 : A2} {m3 : A3} {m4 : A4} {m5 : A5} {m6 : A6} {m7 : A7} {m8 : A8} {m9 : A9} {m10 : A10} {m11 : A11} {m12 : A12} (hd : decode cc pc = .ok (.ireturn, 1)) (h : K r m1 m2 m3 m4 m5 m6 m7 m8 m9 m10 m11 m12) : jw Γ nL 0 0 (Wd m1 m2 m3 m4 m5 m6 m7 m8 m9 m10 m11 m12) lv [.int r] pc := hr lv pc r (m1, m2, m3, m4, m5, m6, m7, m8, m9, m10, m11, m12) hd h
def ctI_13 (q : Nat → ClassId) (y : MethodName) (cc : ByteArray) (nL fr lo : Nat) (av : List Value) (W0 : va_W) {A1 A2 A3 A4 A5 A6 A7 A8 A9 A10 A11 A12 A13 : Type} (Wd : A1 → A2 → A3 → A4 → A5 → A6 → A7 → A8 → A9 → A10 → A11 → A12 → A13 → va_W) (K : Int32 → A1 → A2 → A3 → A4 → A5 → A6 → A7 → A8 → A9 → A10 → A11 → A12 → A13 → Prop) : Prop := ctI q y cc nL fr lo av W0 (fun u : A1 × A2 × A3 × A4 × A5 × A6 × A7 × A8 × A9 × A10 × A11 × A12 × A13 => Wd u.1 u.2.1 u.2.2.1 u.2.2.2.1 u.2.2.2.2.1 u.2.2.2.2.2.1 u.2.2.2.2.2.2.1 u.2.2.2.2.2.2.2.1 u.2.2.2.2.2.2.2.2.1 u.2.2.2.2.2.2.2.2.2.1 u.2.2.2.2.2.2.2.2.2.2.1 u.2.2.2.2.2.2.2.2.2.2.2.1 u.2.2.2.2.2.2.2.2.2.2.2.2) (fun r (u : A1 × A2 × A3 × A4 × A5 × A6 × A7 × A8 × A9 × A10 × A11 × A12 × A13) => K r u.1 u.2.1 u.2.2.1 u.2.2.2.1 u.2.2.2.2.1 u.2.2.2.2.2.1 u.2.2.2.2.2.2.1 u.2.2.2.2.2.2.2.1 u.2.2.2.2.2.2.2.2.1 u.2.2.2.2.2.2.2.2.2.1 u.2.2.2.2.2.2.2.2.2.2.1 u.2.2.2.2.2.2.2.2.2.2.2.1 u.2.2.2.2.2.2.2.2.2.2.2.2)
def rtI_13 (Γ : GT) (cc : ByteArray) (nL : Nat) {A1 A2 A3 A4 A5 A6 A7 A8 A9 A10 A11 A12 A13 : Type} (Wd : A1 → A2 → A3 → A4 → A5 → A6 → A7 → A8 → A9 → A10 → A11 → A12 → A13 → va_W) (K : Int32 → A1 → A2 → A3 → A4 → A5 → A6 → A7 → A8 → A9 → A10 → A11 → A12 → A13 → Prop) : Prop := rtI Γ cc nL (fun u : A1 × A2 × A3 × A4 × A5 × A6 × A7 × A8 × A9 × A10 × A11 × A12 × A13 => Wd u.1 u.2.1 u.2.2.1 u.2.2.2.1 u.2.2.2.2.1 u.2.2.2.2.2.1 u.2.2.2.2.2.2.1 u.2.2.2.2.2.2.2.1 u.2.2.2.2.2.2.2.2.1 u.2.2.2.2.2.2.2.2.2.1 u.2.2.2.2.2.2.2.2.2.2.1 u.2.2.2.2.2.2.2.2.2.2.2.1 u.2.2.2.2.2.2.2.2.2.2.2.2) (fun r (u : A1 × A2 × A3 × A4 × A5 × A6 × A7 × A8 × A9 × A10 × A11 × A12 × A13) => K r u.1 u.2.1 u.2.2.1 u.2.2.2.1 u.2.2.2.2.1 u.2.2.2.2.2.1 u.2.2.2.2.2.2.1 u.2.2.2.2.2.2.2.1 u.2.2.2.2.2.2.2.2.1 u.2.2.2.2.2.2.2.2.2.1 u.2.2.2.2.2.2.2.2.2.2.1 u.2.2.2.2.2.2.2.2.2.2.2.1 u.2.2.2.2.2.2.2.2.2.2.2.2)
theorem met_I_13 {q : Nat → ClassId} {y : MethodName} {cc : ByteArray} {nL fr lo : Nat} {av : List Value} {W0 : va_W} {A1 A2 A3 A4 A5 A6 A7 A8 A9 A10 A11 A12 A13 : Type} {Wd : A1 → A2 → A3 → A4 → A5 → A6 → A7 → A8 → A9 → A10 → A11 → A12 → A13 → va_W} {K : Int32 → A1 → A2 → A3 → A4 → A5 → A6 → A7 → A8 → A9 → A10 → A11 → A12 → A13 → Prop} (hy : plainName y.cls = true) (hav : (lg_sl av).length ≤ nL)
    (walk : ∀ Γ : GT, gd Γ cc y.cls nL (rmz fr lo) q → rtI_13 Γ cc nL Wd K → jw Γ nL 0 0 W0 (lv_args 0 av) [] 0) : ctI_13 q y cc nL fr lo av W0 Wd K := met_I hy hav walk
theorem rtI_13.go {Γ : GT} {cc : ByteArray} {nL : Nat} {A1 A2 A3 A4 A5 A6 A7 A8 A9 A10 A11 A12 A13 : Type} {Wd : A1 → A2 → A3 → A4 → A5 → A6 → A7 → A8 → A9 → A10 → A11 → A12 → A13 → va_W} {K : Int32 → A1 → A2 → A3 → A4 → A5 → A6 → A7 → A8 → A9 → A10 → A11 → A12 → A13 → Prop} (hr : rtI_13 Γ cc nL Wd K) {lv : List (Nat × Value)} {pc : Nat} {r : Int32} {m1 : A1} {m2 : A2} {m3 : A3} {m4 : A4} {m5 : A5} {m6 : A6} {m7 : A7} {m8 : A8} {m9 : A9} {m10 : A10} {m11 : A11} {m12 : A12} {m13 : A13} (hd : decode cc pc = .ok (.ireturn, 1)) (h : K r m1 m2 m3 m4 m5 m6 m7 m8 m9 m10 m11 m12 m13) : jw Γ nL 0 0 (Wd m1 m2 m3 m4 m5 m6 m7 m8 m9 m10 m11 m12 m13) lv [.int r] pc := hr lv pc r (m1, m2, m3, m4, m5, m6, m7, m8, m9, m10, m11, m12, m13) hd h
def ctI_14 (q : Nat → ClassId) (y : MethodName) (cc : ByteArray) (nL fr lo : Nat) (av : List Value) (W0 : va_W) {A1 A2 A3 A4 A5 A6 A7 A8 A9 A10 A11 A12 A13 A14 : Type} (Wd : A1 → A2 → A3 → A4 → A5 → A6 → A7 → A8 → A9 → A10 → A11 → A12 → A13 → A14 → va_W) (K : Int32 → A1 → A2 → A3 → A4 → A5 → A6 → A7 → A8 → A9 → A10 → A11 → A12 → A13 → A14 → Prop) : Prop := ctI q y cc nL fr lo av W0 (fun u : A1 × A2 × A3 × A4 × A5 × A6 × A7 × A8 × A9 × A10 × A11 × A12 × A13 × A14 => Wd u.1 u.2.1 u.2.2.1 u.2.2.2.1 u.2.2.2.2.1 u.2.2.2.2.2.1 u.2.2.2.2.2.2.1 u.2.2.2.2.2.2.2.1 u.2.2.2.2.2.2.2.2.1 u.2.2.2.2.2.2.2.2.2.1 u.2.2.2.2.2.2.2.2.2.2.1 u.2.2.2.2.2.2.2.2.2.2.2.1 u.2.2.2.2.2.2.2.2.2.2.2.2.1 u.2.2.2.2.2.2.2.2.2.2.2.2.2) (fun r (u : A1 × A2 × A3 × A4 × A5 × A6 × A7 × A8 × A9 × A10 × A11 × A12 × A13 × A14) => K r u.1 u.2.1 u.2.2.1 u.2.2.2.1 u.2.2.2.2.1 u.2.2.2.2.2.1 u.2.2.2.2.2.2.1 u.2.2.2.2.2.2.2.1 u.2.2.2.2.2.2.2.2.1 u.2.2.2.2.2.2.2.2.2.1 u.2.2.2.2.2.2.2.2.2.2.1 u.2.2.2.2.2.2.2.2.2.2.2.1 u.2.2.2.2.2.2.2.2.2.2.2.2.1 u.2.2.2.2.2.2.2.2.2.2.2.2.2)
def rtI_14 (Γ : GT) (cc : ByteArray) (nL : Nat) {A1 A2 A3 A4 A5 A6 A7 A8 A9 A10 A11 A12 A13 A14 : Type} (Wd : A1 → A2 → A3 → A4 → A5 → A6 → A7 → A8 → A9 → A10 → A11 → A12 → A13 → A14 → va_W) (K : Int32 → A1 → A2 → A3 → A4 → A5 → A6 → A7 → A8 → A9 → A10 → A11 → A12 → A13 → A14 → Prop) : Prop := rtI Γ cc nL (fun u : A1 × A2 × A3 × A4 × A5 × A6 × A7 × A8 × A9 × A10 × A11 × A12 × A13 × A14 => Wd u.1 u.2.1 u.2.2.1 u.2.2.2.1 u.2.2.2.2.1 u.2.2.2.2.2.1 u.2.2.2.2.2.2.1 u.2.2.2.2.2.2.2.1 u.2.2.2.2.2.2.2.2.1 u.2.2.2.2.2.2.2.2.2.1 u.2.2.2.2.2.2.2.2.2.2.1 u.2.2.2.2.2.2.2.2.2.2.2.1 u.2.2.2.2.2.2.2.2.2.2.2.2.1 u.2.2.2.2.2.2.2.2.2.2.2.2.2) (fun r (u : A1 × A2 × A3 × A4 × A5 × A6 × A7 × A8 × A9 × A10 × A11 × A12 × A13 × A14) => K r u.1 u.2.1 u.2.2.1 u.2.2.2.1 u.2.2.2.2.1 u.2.2.2.2.2.1 u.2.2.2.2.2.2.1 u.2.2.2.2.2.2.2.1 u.2.2.2.2.2.2.2.2.1 u.2.2.2.2.2.2.2.2.2.1 u.2.2.2.2.2.2.2.2.2.2.1 u.2.2.2.2.2.2.2.2.2.2.2.1 u.2.2.2.2.2.2.2.2.2.2.2.2.1 u.2.2.2.2.2.2.2.2.2.2.2.2.2)
theorem met_I_14 {q : Nat → ClassId} {y : MethodName} {cc : ByteArray} {nL fr lo : Nat} {av : List Value} {W0 : va_W} {A1 A2 A3 A4 A5 A6 A7 A8 A9 A10 A11 A12 A13 A14 : Type} {Wd : A1 → A2 → A3 → A4 → A5 → A6 → A7 → A8 → A9 → A10 → A11 → A12 → A13 → A14 → va_W} {K : Int32 → A1 → A2 → A3 → A4 → A5 → A6 → A7 → A8 → A9 → A10 → A11 → A12 → A13 → A14 → Prop} (hy : plainName y.cls = true) (hav : (lg_sl av).length ≤ nL)
    (walk : ∀ Γ : GT, gd Γ cc y.cls nL (rmz fr lo) q → rtI_14 Γ cc nL Wd K → jw Γ nL 0 0 W0 (lv_args 0 av) [] 0) : ctI_14 q y cc nL fr lo av W0 Wd K := met_I hy hav walk
theorem rtI_14.go {Γ : GT} {cc : ByteArray} {nL : Nat} {A1 A2 A3 A4 A5 A6 A7 A8 A9 A10 A11 A12 A13 A14 : Type} {Wd : A1 → A2 → A3 → A4 → A5 → A6 → A7 → A8 → A9 → A10 → A11 → A12 → A13 → A14 → va_W} {K : Int32 → A1 → A2 → A3 → A4 → A5 → A6 → A7 → A8 → A9 → A10 → A11 → A12 → A13 → A14 → Prop} (hr : rtI_14 Γ cc nL Wd K) {lv : List (Nat × Value)} {pc : Nat} {r : Int32} {m1 : A1} {m2 : A2} {m3 : A3} {m4 : A4} {m5 : A5} {m6 : A6} {m7 : A7} {m8 : A8} {m9 : A9} {m10 : A10} {m11 : A11} {m12 : A12} {m13 : A13} {m14 : A14} (hd : decode cc pc = .ok (.ireturn, 1)) (h : K r m1 m2 m3 m4 m5 m6 m7 m8 m9 m10 m11 m12 m13 m14) : jw Γ nL 0 0 (Wd m1 m2 m3 m4 m5 m6 m7 m8 m9 m10 m11 m12 m13 m14) lv [.int r] pc := hr lv pc r (m1, m2, m3, m4, m5, m6, m7, m8, m9, m10, m11, m12, m13, m14) hd h
def ctI_20 (q : Nat → ClassId) (y : MethodName) (cc : ByteArray) (nL fr lo : Nat) (av : List Value) (W0 : va_W) {A1 A2 A3 A4 A5 A6 A7 A8 A9 A10 A11 A12 A13 A14 A15 A16 A17 A18 A19 A20 : Type} (Wd : A1 → A2 → A3 → A4 → A5 → A6 → A7 → A8 → A9 → A10 → A11 → A12 → A13 → A14 → A15 → A16 → A17 → A18 → A19 → A20 → va_W) (K : Int32 → A1 → A2 → A3 → A4 → A5 → A6 → A7 → A8 → A9 → A10 → A11 → A12 → A13 → A14 → A15 → A16 → A17 → A18 → A19 → A20 → Prop) : Prop := ctI q y cc nL fr lo av W0 (fun u : A1 × A2 × A3 × A4 × A5 × A6 × A7 × A8 × A9 × A10 × A11 × A12 × A13 × A14 × A15 × A16 × A17 × A18 × A19 × A20 => Wd u.1 u.2.1 u.2.2.1 u.2.2.2.1 u.2.2.2.2.1 u.2.2.2.2.2.1 u.2.2.2.2.2.2.1 u.2.2.2.2.2.2.2.1 u.2.2.2.2.2.2.2.2.1 u.2.2.2.2.2.2.2.2.2.1 u.2.2.2.2.2.2.2.2.2.2.1 u.2.2.2.2.2.2.2.2.2.2.2.1 u.2.2.2.2.2.2.2.2.2.2.2.2.1 u.2.2.2.2.2.2.2.2.2.2.2.2.2.1 u.2.2.2.2.2.2.2.2.2.2.2.2.2.2.1 u.2.2.2.2.2.2.2.2.2.2.2.2.2.2.2.1 u.2.2.2.2.2.2.2.2.2.2.2.2.2.2.2.2.1 u.2.2.2.2.2.2.2.2.2.2.2.2.2.2.2.2.2.1 u.2.2.2.2.2.2.2.2.2.2.2.2.2.2.2.2.2.2.1 u.2.2.2.2.2.2.2.2.2.2.2.2.2.2.2.2.2.2.2) (fun r (u : A1 × A2 × A3 × A4 × A5 × A6 × A7 × A8 × A9 × A10 × A11 × A12 × A13 × A14 × A15 × A16 × A17 × A18 × A19 × A20) => K r u.1 u.2.1 u.2.2.1 u.2.2.2.1 u.2.2.2.2.1 u.2.2.2.2.2.1 u.2.2.2.2.2.2.1 u.2.2.2.2.2.2.2.1 u.2.2.2.2.2.2.2.2.1 u.2.2.2.2.2.2.2.2.2.1 u.2.2.2.2.2.2.2.2.2.2.1 u.2.2.2.2.2.2.2.2.2.2.2.1 u.2.2.2.2.2.2.2.2.2.2.2.2.1 u.2.2.2.2.2.2.2.2.2.2.2.2.2.1 u.2.2.2.2.2.2.2.2.2.2.2.2.2.2.1 u.2.2.2.2.2.2.2.2.2.2.2.2.2.2.2.1 u.2.2.2.2.2.2.2.2.2.2.2.2.2.2.2.2.1 u.2.2.2.2.2.2.2.2.2.2.2.2.2.2.2.2.2.1 u.2.2.2.2.2.2.2.2.2.2.2.2.2.2.2.2.2.2.1 u.2.2.2.2.2.2.2.2.2.2.2.2.2.2.2.2.2.2.2)
def rtI_20 (Γ : GT) (cc : ByteArray) (nL : Nat) {A1 A2 A3 A4 A5 A6 A7 A8 A9 A10 A11 A12 A13 A14 A15 A16 A17 A18 A19 A20 : Type} (Wd : A1 → A2 → A3 → A4 → A5 → A6 → A7 → A8 → A9 → A10 → A11 → A12 → A13 → A14 → A15 → A16 → A17 → A18 → A19 → A20 → va_W) (K : Int32 → A1 → A2 → A3 → A4 → A5 → A6 → A7 → A8 → A9 → A10 → A11 → A12 → A13 → A14 → A15 → A16 → A17 → A18 → A19 → A20 → Prop) : Prop := rtI Γ cc nL (fun u : A1 × A2 × A3 × A4 × A5 × A6 × A7 × A8 × A9 × A10 × A11 × A12 × A13 × A14 × A15 × A16 × A17 × A18 × A19 × A20 => Wd u.1 u.2.1 u.2.2.1 u.2.2.2.1 u.2.2.2.2.1 u.2.2.2.2.2.1 u.2.2.2.2.2.2.1 u.2.2.2.2.2.2.2.1 u.2.2.2.2.2.2.2.2.1 u.2.2.2.2.2.2.2.2.2.1 u.2.2.2.2.2.2.2.2.2.2.1 u.2.2.2.2.2.2.2.2.2.2.2.1 u.2.2.2.2.2.2.2.2.2.2.2.2.1 u.2.2.2.2.2.2.2.2.2.2.2.2.2.1 u.2.2.2.2.2.2.2.2.2.2.2.2.2.2.1 u.2.2.2.2.2.2.2.2.2.2.2.2.2.2.2.1 u.2.2.2.2.2.2.2.2.2.2.2.2.2.2.2.2.1 u.2.2.2.2.2.2.2.2.2.2.2.2.2.2.2.2.2.1 u.2.2.2.2.2.2.2.2.2.2.2.2.2.2.2.2.2.2.1 u.2.2.2.2.2.2.2.2.2.2.2.2.2.2.2.2.2.2.2) (fun r (u : A1 × A2 × A3 × A4 × A5 × A6 × A7 × A8 × A9 × A10 × A11 × A12 × A13 × A14 × A15 × A16 × A17 × A18 × A19 × A20) => K r u.1 u.2.1 u.2.2.1 u.2.2.2.1 u.2.2.2.2.1 u.2.2.2.2.2.1 u.2.2.2.2.2.2.1 u.2.2.2.2.2.2.2.1 u.2.2.2.2.2.2.2.2.1 u.2.2.2.2.2.2.2.2.2.1 u.2.2.2.2.2.2.2.2.2.2.1 u.2.2.2.2.2.2.2.2.2.2.2.1 u.2.2.2.2.2.2.2.2.2.2.2.2.1 u.2.2.2.2.2.2.2.2.2.2.2.2.2.1 u.2.2.2.2.2.2.2.2.2.2.2.2.2.2.1 u.2.2.2.2.2.2.2.2.2.2.2.2.2.2.2.1 u.2.2.2.2.2.2.2.2.2.2.2.2.2.2.2.2.1 u.2.2.2.2.2.2.2.2.2.2.2.2.2.2.2.2.2.1 u.2.2.2.2.2.2.2.2.2.2.2.2.2.2.2.2.2.2.1 u.2.2.2.2.2.2.2.2.2.2.2.2.2.2.2.2.2.2.2)
theorem met_I_20 {q : Nat → ClassId} {y : MethodName} {cc : ByteArray} {nL fr lo : Nat} {av : List Value} {W0 : va_W} {A1 A2 A3 A4 A5 A6 A7 A8 A9 A10 A11 A12 A13 A14 A15 A16 A17 A18 A19 A20 : Type} {Wd : A1 → A2 → A3 → A4 → A5 → A6 → A7 → A8 → A9 → A10 → A11 → A12 → A13 → A14 → A15 → A16 → A17 → A18 → A19 → A20 → va_W} {K : Int32 → A1 → A2 → A3 → A4 → A5 → A6 → A7 → A8 → A9 → A10 → A11 → A12 → A13 → A14 → A15 → A16 → A17 → A18 → A19 → A20 → Prop} (hy : plainName y.cls = true) (hav : (lg_sl av).length ≤ nL)
    (walk : ∀ Γ : GT, gd Γ cc y.cls nL (rmz fr lo) q → rtI_20 Γ cc nL Wd K → jw Γ nL 0 0 W0 (lv_args 0 av) [] 0) : ctI_20 q y cc nL fr lo av W0 Wd K := met_I hy hav walk
theorem rtI_20.go {Γ : GT} {cc : ByteArray} {nL : Nat} {A1 A2 A3 A4 A5 A6 A7 A8 A9 A10 A11 A12 A13 A14 A15 A16 A17 A18 A19 A20 : Type} {Wd : A1 → A2 → A3 → A4 → A5 → A6 → A7 → A8 → A9 → A10 → A11 → A12 → A13 → A14 → A15 → A16 → A17 → A18 → A19 → A20 → va_W} {K : Int32 → A1 → A2 → A3 → A4 → A5 → A6 → A7 → A8 → A9 → A10 → A11 → A12 → A13 → A14 → A15 → A16 → A17 → A18 → A19 → A20 → Prop} (hr : rtI_20 Γ cc nL Wd K) {lv : List (Nat × Value)} {pc : Nat} {r : Int32} {m1 : A1} {m2 : A2} {m3 : A3} {m4 : A4} {m5 : A5} {m6 : A6} {m7 : A7} {m8 : A8} {m9 : A9} {m10 : A10} {m11 : A11} {m12 : A12} {m13 : A13} {m14 : A14} {m15 : A15} {m16 : A16} {m17 : A17} {m18 : A18} {m19 : A19} {m20 : A20} (hd : decode cc pc = .ok (.ireturn, 1)) (h : K r m1 m2 m3 m4 m5 m6 m7 m8 m9 m10 m11 m12 m13 m14 m15 m16 m17 m18 m19 m20) : jw Γ nL 0 0 (Wd m1 m2 m3 m4 m5 m6 m7 m8 m9 m10 m11 m12 m13 m14 m15 m16 m17 m18 m19 m20) lv [.int r] pc := hr lv pc r (m1, m2, m3, m4, m5, m6, m7, m8, m9, m10, m11, m12, m13, m14, m15, m16, m17, m18, m19, m20) hd h
def ctQ_0 (q : Nat → ClassId) (y : MethodName) (cc : ByteArray) (nL fr lo : Nat) (av : List Value) (W0 : va_W) (ad : Nat → Nat) (Wd : va_W) (K : Option Nat → Prop) : Prop := ctQ q y cc nL fr lo av W0 ad (fun u : Unit => Wd ) (fun r (u : Unit) => K r )
def rtQ_0 (Γ : GT) (cc : ByteArray) (nL : Nat) (ad : Nat → Nat) (Wd : va_W) (K : Option Nat → Prop) : Prop := rtQ Γ cc nL ad (fun u : Unit => Wd ) (fun r (u : Unit) => K r )
theorem met_Q_0 {q : Nat → ClassId} {y : MethodName} {cc : ByteArray} {nL fr lo : Nat} {av : List Value} {W0 : va_W} {ad : Nat → Nat} {Wd : va_W} {K : Option Nat → Prop} (hy : plainName y.cls = true) (hav : (lg_sl av).length ≤ nL)
    (walk : ∀ Γ : GT, gd Γ cc y.cls nL (rmz fr lo) q → rtQ_0 Γ cc nL ad Wd K → jw Γ nL 0 0 W0 (lv_args 0 av) [] 0) : ctQ_0 q y cc nL fr lo av W0 ad Wd K := met_Q ad hy hav walk
theorem rtQ_0.goN {Γ : GT} {cc : ByteArray} {nL : Nat} {ad : Nat → Nat} {Wd : va_W} {K : Option Nat → Prop} (hr : rtQ_0 Γ cc nL ad Wd K) {lv : List (Nat × Value)} {pc : Nat}  (hd : decode cc pc = .ok (.areturn, 1)) (h : K none ) : jw Γ nL 0 0 (Wd ) lv [.null] pc := hr lv pc none () hd (fun i h => by cases h) h
theorem rtQ_0.go {Γ : GT} {cc : ByteArray} {nL : Nat} {ad : Nat → Nat} {Wd : va_W} {K : Option Nat → Prop} (hr : rtQ_0 Γ cc nL ad Wd K) {lv : List (Nat × Value)} {pc i : Nat}  (hd : decode cc pc = .ok (.areturn, 1)) (hi : i < 6) (h : K (some i) ) : jw Γ nL 0 0 (Wd ) lv [.ref (ad i)] pc := hr lv pc (some i) () hd (fun j h => by cases h; exact hi) h
def ctV_1 (q : Nat → ClassId) (y : MethodName) (cc : ByteArray) (nL fr lo : Nat) (av : List Value) (W0 : va_W) {A1 : Type} (Wd : A1 → va_W) (K : A1 → Prop) : Prop := ctV q y cc nL fr lo av W0 (fun u : A1 => Wd u) (fun (u : A1) => K u)
def rtV_1 (Γ : GT) (cc : ByteArray) (nL : Nat) {A1 : Type} (Wd : A1 → va_W) (K : A1 → Prop) : Prop := rtV Γ cc nL (fun u : A1 => Wd u) (fun (u : A1) => K u)
theorem met_V_1 {q : Nat → ClassId} {y : MethodName} {cc : ByteArray} {nL fr lo : Nat} {av : List Value} {W0 : va_W} {A1 : Type} {Wd : A1 → va_W} {K : A1 → Prop} (hy : plainName y.cls = true) (hav : (lg_sl av).length ≤ nL)
    (walk : ∀ Γ : GT, gd Γ cc y.cls nL (rmz fr lo) q → rtV_1 Γ cc nL Wd K → jw Γ nL 0 0 W0 (lv_args 0 av) [] 0) : ctV_1 q y cc nL fr lo av W0 Wd K := met_V hy hav walk
theorem rtV_1.go {Γ : GT} {cc : ByteArray} {nL : Nat} {A1 : Type} {Wd : A1 → va_W} {K : A1 → Prop} (hr : rtV_1 Γ cc nL Wd K) {lv : List (Nat × Value)} {pc : Nat} {m1 : A1} (hd : decode cc pc = .ok (.return_, 1)) (h : K m1) : jw Γ nL 0 0 (Wd m1) lv [] pc := hr lv pc m1 hd h
def ctV_2 (q : Nat → ClassId) (y : MethodName) (cc : ByteArray) (nL fr lo : Nat) (av : List Value) (W0 : va_W) {A1 A2 : Type} (Wd : A1 → A2 → va_W) (K : A1 → A2 → Prop) : Prop := ctV q y cc nL fr lo av W0 (fun u : A1 × A2 => Wd u.1 u.2) (fun (u : A1 × A2) => K u.1 u.2)
def rtV_2 (Γ : GT) (cc : ByteArray) (nL : Nat) {A1 A2 : Type} (Wd : A1 → A2 → va_W) (K : A1 → A2 → Prop) : Prop := rtV Γ cc nL (fun u : A1 × A2 => Wd u.1 u.2) (fun (u : A1 × A2) => K u.1 u.2)
theorem met_V_2 {q : Nat → ClassId} {y : MethodName} {cc : ByteArray} {nL fr lo : Nat} {av : List Value} {W0 : va_W} {A1 A2 : Type} {Wd : A1 → A2 → va_W} {K : A1 → A2 → Prop} (hy : plainName y.cls = true) (hav : (lg_sl av).length ≤ nL)
    (walk : ∀ Γ : GT, gd Γ cc y.cls nL (rmz fr lo) q → rtV_2 Γ cc nL Wd K → jw Γ nL 0 0 W0 (lv_args 0 av) [] 0) : ctV_2 q y cc nL fr lo av W0 Wd K := met_V hy hav walk
theorem rtV_2.go {Γ : GT} {cc : ByteArray} {nL : Nat} {A1 A2 : Type} {Wd : A1 → A2 → va_W} {K : A1 → A2 → Prop} (hr : rtV_2 Γ cc nL Wd K) {lv : List (Nat × Value)} {pc : Nat} {m1 : A1} {m2 : A2} (hd : decode cc pc = .ok (.return_, 1)) (h : K m1 m2) : jw Γ nL 0 0 (Wd m1 m2) lv [] pc := hr lv pc (m1, m2) hd h
def ctZ_0 (q : Nat → ClassId) (y : MethodName) (cc : ByteArray) (nL fr lo : Nat) (av : List Value) (W0 : va_W) (Wd : va_W) (K : Int32 → Prop) : Prop := ctZ q y cc nL fr lo av W0 (fun u : Unit => Wd ) (fun r (u : Unit) => K r )
def rtZ_0 (Γ : GT) (cc : ByteArray) (nL : Nat) (Wd : va_W) (K : Int32 → Prop) : Prop := rtZ Γ cc nL (fun u : Unit => Wd ) (fun r (u : Unit) => K r )
theorem met_Z_0 {q : Nat → ClassId} {y : MethodName} {cc : ByteArray} {nL fr lo : Nat} {av : List Value} {W0 : va_W} {Wd : va_W} {K : Int32 → Prop} (hy : plainName y.cls = true) (hav : (lg_sl av).length ≤ nL)
    (walk : ∀ Γ : GT, gd Γ cc y.cls nL (rmz fr lo) q → rtZ_0 Γ cc nL Wd K → jw Γ nL 0 0 W0 (lv_args 0 av) [] 0) : ctZ_0 q y cc nL fr lo av W0 Wd K := met_Z hy hav walk
theorem rtZ_0.go {Γ : GT} {cc : ByteArray} {nL : Nat} {Wd : va_W} {K : Int32 → Prop} (hr : rtZ_0 Γ cc nL Wd K) {lv : List (Nat × Value)} {pc : Nat} {r : Int32}  (hd : decode cc pc = .ok (.ireturn, 1)) (hz : r = 0 ∨ r = 1) (h : K r ) : jw Γ nL 0 0 (Wd ) lv [.int r] pc := hr lv pc r () hd hz h
def ctZ_1 (q : Nat → ClassId) (y : MethodName) (cc : ByteArray) (nL fr lo : Nat) (av : List Value) (W0 : va_W) {A1 : Type} (Wd : A1 → va_W) (K : Int32 → A1 → Prop) : Prop := ctZ q y cc nL fr lo av W0 (fun u : A1 => Wd u) (fun r (u : A1) => K r u)
def rtZ_1 (Γ : GT) (cc : ByteArray) (nL : Nat) {A1 : Type} (Wd : A1 → va_W) (K : Int32 → A1 → Prop) : Prop := rtZ Γ cc nL (fun u : A1 => Wd u) (fun r (u : A1) => K r u)
theorem met_Z_1 {q : Nat → ClassId} {y : MethodName} {cc : ByteArray} {nL fr lo : Nat} {av : List Value} {W0 : va_W} {A1 : Type} {Wd : A1 → va_W} {K : Int32 → A1 → Prop} (hy : plainName y.cls = true) (hav : (lg_sl av).length ≤ nL)
    (walk : ∀ Γ : GT, gd Γ cc y.cls nL (rmz fr lo) q → rtZ_1 Γ cc nL Wd K → jw Γ nL 0 0 W0 (lv_args 0 av) [] 0) : ctZ_1 q y cc nL fr lo av W0 Wd K := met_Z hy hav walk
theorem rtZ_1.go {Γ : GT} {cc : ByteArray} {nL : Nat} {A1 : Type} {Wd : A1 → va_W} {K : Int32 → A1 → Prop} (hr : rtZ_1 Γ cc nL Wd K) {lv : List (Nat × Value)} {pc : Nat} {r : Int32} {m1 : A1} (hd : decode cc pc = .ok (.ireturn, 1)) (hz : r = 0 ∨ r = 1) (h : K r m1) : jw Γ nL 0 0 (Wd m1) lv [.int r] pc := hr lv pc r m1 hd hz h
def ctZ_2 (q : Nat → ClassId) (y : MethodName) (cc : ByteArray) (nL fr lo : Nat) (av : List Value) (W0 : va_W) {A1 A2 : Type} (Wd : A1 → A2 → va_W) (K : Int32 → A1 → A2 → Prop) : Prop := ctZ q y cc nL fr lo av W0 (fun u : A1 × A2 => Wd u.1 u.2) (fun r (u : A1 × A2) => K r u.1 u.2)
def rtZ_2 (Γ : GT) (cc : ByteArray) (nL : Nat) {A1 A2 : Type} (Wd : A1 → A2 → va_W) (K : Int32 → A1 → A2 → Prop) : Prop := rtZ Γ cc nL (fun u : A1 × A2 => Wd u.1 u.2) (fun r (u : A1 × A2) => K r u.1 u.2)
theorem met_Z_2 {q : Nat → ClassId} {y : MethodName} {cc : ByteArray} {nL fr lo : Nat} {av : List Value} {W0 : va_W} {A1 A2 : Type} {Wd : A1 → A2 → va_W} {K : Int32 → A1 → A2 → Prop} (hy : plainName y.cls = true) (hav : (lg_sl av).length ≤ nL)
    (walk : ∀ Γ : GT, gd Γ cc y.cls nL (rmz fr lo) q → rtZ_2 Γ cc nL Wd K → jw Γ nL 0 0 W0 (lv_args 0 av) [] 0) : ctZ_2 q y cc nL fr lo av W0 Wd K := met_Z hy hav walk
theorem rtZ_2.go {Γ : GT} {cc : ByteArray} {nL : Nat} {A1 A2 : Type} {Wd : A1 → A2 → va_W} {K : Int32 → A1 → A2 → Prop} (hr : rtZ_2 Γ cc nL Wd K) {lv : List (Nat × Value)} {pc : Nat} {r : Int32} {m1 : A1} {m2 : A2} (hd : decode cc pc = .ok (.ireturn, 1)) (hz : r = 0 ∨ r = 1) (h : K r m1 m2) : jw Γ nL 0 0 (Wd m1 m2) lv [.int r] pc := hr lv pc r (m1, m2) hd hz h
def ctZ_3 (q : Nat → ClassId) (y : MethodName) (cc : ByteArray) (nL fr lo : Nat) (av : List Value) (W0 : va_W) {A1 A2 A3 : Type} (Wd : A1 → A2 → A3 → va_W) (K : Int32 → A1 → A2 → A3 → Prop) : Prop := ctZ q y cc nL fr lo av W0 (fun u : A1 × A2 × A3 => Wd u.1 u.2.1 u.2.2) (fun r (u : A1 × A2 × A3) => K r u.1 u.2.1 u.2.2)
def rtZ_3 (Γ : GT) (cc : ByteArray) (nL : Nat) {A1 A2 A3 : Type} (Wd : A1 → A2 → A3 → va_W) (K : Int32 → A1 → A2 → A3 → Prop) : Prop := rtZ Γ cc nL (fun u : A1 × A2 × A3 => Wd u.1 u.2.1 u.2.2) (fun r (u : A1 × A2 × A3) => K r u.1 u.2.1 u.2.2)
theorem met_Z_3 {q : Nat → ClassId} {y : MethodName} {cc : ByteArray} {nL fr lo : Nat} {av : List Value} {W0 : va_W} {A1 A2 A3 : Type} {Wd : A1 → A2 → A3 → va_W} {K : Int32 → A1 → A2 → A3 → Prop} (hy : plainName y.cls = true) (hav : (lg_sl av).length ≤ nL)
    (walk : ∀ Γ : GT, gd Γ cc y.cls nL (rmz fr lo) q → rtZ_3 Γ cc nL Wd K → jw Γ nL 0 0 W0 (lv_args 0 av) [] 0) : ctZ_3 q y cc nL fr lo av W0 Wd K := met_Z hy hav walk
theorem rtZ_3.go {Γ : GT} {cc : ByteArray} {nL : Nat} {A1 A2 A3 : Type} {Wd : A1 → A2 → A3 → va_W} {K : Int32 → A1 → A2 → A3 → Prop} (hr : rtZ_3 Γ cc nL Wd K) {lv : List (Nat × Value)} {pc : Nat} {r : Int32} {m1 : A1} {m2 : A2} {m3 : A3} (hd : decode cc pc = .ok (.ireturn, 1)) (hz : r = 0 ∨ r = 1) (h : K r m1 m2 m3) : jw Γ nL 0 0 (Wd m1 m2 m3) lv [.int r] pc := hr lv pc r (m1, m2, m3) hd hz h
def ctZ_4 (q : Nat → ClassId) (y : MethodName) (cc : ByteArray) (nL fr lo : Nat) (av : List Value) (W0 : va_W) {A1 A2 A3 A4 : Type} (Wd : A1 → A2 → A3 → A4 → va_W) (K : Int32 → A1 → A2 → A3 → A4 → Prop) : Prop := ctZ q y cc nL fr lo av W0 (fun u : A1 × A2 × A3 × A4 => Wd u.1 u.2.1 u.2.2.1 u.2.2.2) (fun r (u : A1 × A2 × A3 × A4) => K r u.1 u.2.1 u.2.2.1 u.2.2.2)
def rtZ_4 (Γ : GT) (cc : ByteArray) (nL : Nat) {A1 A2 A3 A4 : Type} (Wd : A1 → A2 → A3 → A4 → va_W) (K : Int32 → A1 → A2 → A3 → A4 → Prop) : Prop := rtZ Γ cc nL (fun u : A1 × A2 × A3 × A4 => Wd u.1 u.2.1 u.2.2.1 u.2.2.2) (fun r (u : A1 × A2 × A3 × A4) => K r u.1 u.2.1 u.2.2.1 u.2.2.2)
theorem met_Z_4 {q : Nat → ClassId} {y : MethodName} {cc : ByteArray} {nL fr lo : Nat} {av : List Value} {W0 : va_W} {A1 A2 A3 A4 : Type} {Wd : A1 → A2 → A3 → A4 → va_W} {K : Int32 → A1 → A2 → A3 → A4 → Prop} (hy : plainName y.cls = true) (hav : (lg_sl av).length ≤ nL)
    (walk : ∀ Γ : GT, gd Γ cc y.cls nL (rmz fr lo) q → rtZ_4 Γ cc nL Wd K → jw Γ nL 0 0 W0 (lv_args 0 av) [] 0) : ctZ_4 q y cc nL fr lo av W0 Wd K := met_Z hy hav walk
theorem rtZ_4.go {Γ : GT} {cc : ByteArray} {nL : Nat} {A1 A2 A3 A4 : Type} {Wd : A1 → A2 → A3 → A4 → va_W} {K : Int32 → A1 → A2 → A3 → A4 → Prop} (hr : rtZ_4 Γ cc nL Wd K) {lv : List (Nat × Value)} {pc : Nat} {r : Int32} {m1 : A1} {m2 : A2} {m3 : A3} {m4 : A4} (hd : decode cc pc = .ok (.ireturn, 1)) (hz : r = 0 ∨ r = 1) (h : K r m1 m2 m3 m4) : jw Γ nL 0 0 (Wd m1 m2 m3 m4) lv [.int r] pc := hr lv pc r (m1, m2, m3, m4) hd hz h
def ctZ_20 (q : Nat → ClassId) (y : MethodName) (cc : ByteArray) (nL fr lo : Nat) (av : List Value) (W0 : va_W) {A1 A2 A3 A4 A5 A6 A7 A8 A9 A10 A11 A12 A13 A14 A15 A16 A17 A18 A19 A20 : Type} (Wd : A1 → A2 → A3 → A4 → A5 → A6 → A7 → A8 → A9 → A10 → A11 → A12 → A13 → A14 → A15 → A16 → A17 → A18 → A19 → A20 → va_W) (K : Int32 → A1 → A2 → A3 → A4 → A5 → A6 → A7 → A8 → A9 → A10 → A11 → A12 → A13 → A14 → A15 → A16 → A17 → A18 → A19 → A20 → Prop) : Prop := ctZ q y cc nL fr lo av W0 (fun u : A1 × A2 × A3 × A4 × A5 × A6 × A7 × A8 × A9 × A10 × A11 × A12 × A13 × A14 × A15 × A16 × A17 × A18 × A19 × A20 => Wd u.1 u.2.1 u.2.2.1 u.2.2.2.1 u.2.2.2.2.1 u.2.2.2.2.2.1 u.2.2.2.2.2.2.1 u.2.2.2.2.2.2.2.1 u.2.2.2.2.2.2.2.2.1 u.2.2.2.2.2.2.2.2.2.1 u.2.2.2.2.2.2.2.2.2.2.1 u.2.2.2.2.2.2.2.2.2.2.2.1 u.2.2.2.2.2.2.2.2.2.2.2.2.1 u.2.2.2.2.2.2.2.2.2.2.2.2.2.1 u.2.2.2.2.2.2.2.2.2.2.2.2.2.2.1 u.2.2.2.2.2.2.2.2.2.2.2.2.2.2.2.1 u.2.2.2.2.2.2.2.2.2.2.2.2.2.2.2.2.1 u.2.2.2.2.2.2.2.2.2.2.2.2.2.2.2.2.2.1 u.2.2.2.2.2.2.2.2.2.2.2.2.2.2.2.2.2.2.1 u.2.2.2.2.2.2.2.2.2.2.2.2.2.2.2.2.2.2.2) (fun r (u : A1 × A2 × A3 × A4 × A5 × A6 × A7 × A8 × A9 × A10 × A11 × A12 × A13 × A14 × A15 × A16 × A17 × A18 × A19 × A20) => K r u.1 u.2.1 u.2.2.1 u.2.2.2.1 u.2.2.2.2.1 u.2.2.2.2.2.1 u.2.2.2.2.2.2.1 u.2.2.2.2.2.2.2.1 u.2.2.2.2.2.2.2.2.1 u.2.2.2.2.2.2.2.2.2.1 u.2.2.2.2.2.2.2.2.2.2.1 u.2.2.2.2.2.2.2.2.2.2.2.1 u.2.2.2.2.2.2.2.2.2.2.2.2.1 u.2.2.2.2.2.2.2.2.2.2.2.2.2.1 u.2.2.2.2.2.2.2.2.2.2.2.2.2.2.1 u.2.2.2.2.2.2.2.2.2.2.2.2.2.2.2.1 u.2.2.2.2.2.2.2.2.2.2.2.2.2.2.2.2.1 u.2.2.2.2.2.2.2.2.2.2.2.2.2.2.2.2.2.1 u.2.2.2.2.2.2.2.2.2.2.2.2.2.2.2.2.2.2.1 u.2.2.2.2.2.2.2.2.2.2.2.2.2.2.2.2.2.2.2)
def rtZ_20 (Γ : GT) (cc : ByteArray) (nL : Nat) {A1 A2 A3 A4 A5 A6 A7 A8 A9 A10 A11 A12 A13 A14 A15 A16 A17 A18 A19 A20 : Type} (Wd : A1 → A2 → A3 → A4 → A5 → A6 → A7 → A8 → A9 → A10 → A11 → A12 → A13 → A14 → A15 → A16 → A17 → A18 → A19 → A20 → va_W) (K : Int32 → A1 → A2 → A3 → A4 → A5 → A6 → A7 → A8 → A9 → A10 → A11 → A12 → A13 → A14 → A15 → A16 → A17 → A18 → A19 → A20 → Prop) : Prop := rtZ Γ cc nL (fun u : A1 × A2 × A3 × A4 × A5 × A6 × A7 × A8 × A9 × A10 × A11 × A12 × A13 × A14 × A15 × A16 × A17 × A18 × A19 × A20 => Wd u.1 u.2.1 u.2.2.1 u.2.2.2.1 u.2.2.2.2.1 u.2.2.2.2.2.1 u.2.2.2.2.2.2.1 u.2.2.2.2.2.2.2.1 u.2.2.2.2.2.2.2.2.1 u.2.2.2.2.2.2.2.2.2.1 u.2.2.2.2.2.2.2.2.2.2.1 u.2.2.2.2.2.2.2.2.2.2.2.1 u.2.2.2.2.2.2.2.2.2.2.2.2.1 u.2.2.2.2.2.2.2.2.2.2.2.2.2.1 u.2.2.2.2.2.2.2.2.2.2.2.2.2.2.1 u.2.2.2.2.2.2.2.2.2.2.2.2.2.2.2.1 u.2.2.2.2.2.2.2.2.2.2.2.2.2.2.2.2.1 u.2.2.2.2.2.2.2.2.2.2.2.2.2.2.2.2.2.1 u.2.2.2.2.2.2.2.2.2.2.2.2.2.2.2.2.2.2.1 u.2.2.2.2.2.2.2.2.2.2.2.2.2.2.2.2.2.2.2) (fun r (u : A1 × A2 × A3 × A4 × A5 × A6 × A7 × A8 × A9 × A10 × A11 × A12 × A13 × A14 × A15 × A16 × A17 × A18 × A19 × A20) => K r u.1 u.2.1 u.2.2.1 u.2.2.2.1 u.2.2.2.2.1 u.2.2.2.2.2.1 u.2.2.2.2.2.2.1 u.2.2.2.2.2.2.2.1 u.2.2.2.2.2.2.2.2.1 u.2.2.2.2.2.2.2.2.2.1 u.2.2.2.2.2.2.2.2.2.2.1 u.2.2.2.2.2.2.2.2.2.2.2.1 u.2.2.2.2.2.2.2.2.2.2.2.2.1 u.2.2.2.2.2.2.2.2.2.2.2.2.2.1 u.2.2.2.2.2.2.2.2.2.2.2.2.2.2.1 u.2.2.2.2.2.2.2.2.2.2.2.2.2.2.2.1 u.2.2.2.2.2.2.2.2.2.2.2.2.2.2.2.2.1 u.2.2.2.2.2.2.2.2.2.2.2.2.2.2.2.2.2.1 u.2.2.2.2.2.2.2.2.2.2.2.2.2.2.2.2.2.2.1 u.2.2.2.2.2.2.2.2.2.2.2.2.2.2.2.2.2.2.2)
theorem met_Z_20 {q : Nat → ClassId} {y : MethodName} {cc : ByteArray} {nL fr lo : Nat} {av : List Value} {W0 : va_W} {A1 A2 A3 A4 A5 A6 A7 A8 A9 A10 A11 A12 A13 A14 A15 A16 A17 A18 A19 A20 : Type} {Wd : A1 → A2 → A3 → A4 → A5 → A6 → A7 → A8 → A9 → A10 → A11 → A12 → A13 → A14 → A15 → A16 → A17 → A18 → A19 → A20 → va_W} {K : Int32 → A1 → A2 → A3 → A4 → A5 → A6 → A7 → A8 → A9 → A10 → A11 → A12 → A13 → A14 → A15 → A16 → A17 → A18 → A19 → A20 → Prop} (hy : plainName y.cls = true) (hav : (lg_sl av).length ≤ nL)
    (walk : ∀ Γ : GT, gd Γ cc y.cls nL (rmz fr lo) q → rtZ_20 Γ cc nL Wd K → jw Γ nL 0 0 W0 (lv_args 0 av) [] 0) : ctZ_20 q y cc nL fr lo av W0 Wd K := met_Z hy hav walk
theorem rtZ_20.go {Γ : GT} {cc : ByteArray} {nL : Nat} {A1 A2 A3 A4 A5 A6 A7 A8 A9 A10 A11 A12 A13 A14 A15 A16 A17 A18 A19 A20 : Type} {Wd : A1 → A2 → A3 → A4 → A5 → A6 → A7 → A8 → A9 → A10 → A11 → A12 → A13 → A14 → A15 → A16 → A17 → A18 → A19 → A20 → va_W} {K : Int32 → A1 → A2 → A3 → A4 → A5 → A6 → A7 → A8 → A9 → A10 → A11 → A12 → A13 → A14 → A15 → A16 → A17 → A18 → A19 → A20 → Prop} (hr : rtZ_20 Γ cc nL Wd K) {lv : List (Nat × Value)} {pc : Nat} {r : Int32} {m1 : A1} {m2 : A2} {m3 : A3} {m4 : A4} {m5 : A5} {m6 : A6} {m7 : A7} {m8 : A8} {m9 : A9} {m10 : A10} {m11 : A11} {m12 : A12} {m13 : A13} {m14 : A14} {m15 : A15} {m16 : A16} {m17 : A17} {m18 : A18} {m19 : A19} {m20 : A20} (hd : decode cc pc = .ok (.ireturn, 1)) (hz : r = 0 ∨ r = 1) (h : K r m1 m2 m3 m4 m5 m6 m7 m8 m9 m10 m11 m12 m13 m14 m15 m16 m17 m18 m19 m20) : jw Γ nL 0 0 (Wd m1 m2 m3 m4 m5 m6 m7 m8 m9 m10 m11 m12 m13 m14 m15 m16 m17 m18 m19 m20) lv [.int r] pc := hr lv pc r (m1, m2, m3, m4, m5, m6, m7, m8, m9, m10, m11, m12, m13, m14, m15, m16, m17, m18, m19, m20) hd hz h
section JCN
variable {Γ : GT} {cc : ByteArray} {own : String} {nL kc ks : Nat} {rm : Room} {q : Nat → ClassId} {ws : va_W} {lv : List (Nat × Value)} {st : List Value} {pc : Nat}
variable {y : MethodName} {ccY : ByteArray} {nY frY loY index n : Nat}
theorem j_callSI_0 (g : gd Γ cc own nL rm q) {As : List Value} {Wd : va_W} {K : Int32 → Prop} {st0 : List Value} (hC : ctI_0 q y ccY nY frY loY As ws Wd K) (L : clS own index y ccY nY (some .int) n) (hfr : frY + 1 ≤ rm.frames) (hlo : 8 + (nY + 11) + loY ≤ rm.locals) (hcells : kc + 0 ≤ rm.cells) (hslots : ks + 0 ≤ rm.slots) (hAs : As.length = n) (hst : st0 = As.reverse ++ st) (hcat : (st.map fun v => v.category).sum ≤ 8) (hd : decode cc pc = .ok (.invokestatic index, 3)) (k : ∀ (r : Int32) , K r  → jw Γ nL kc ks (Wd ) lv (.int r :: st) (pc + 3)) : jw Γ nL kc ks ws lv st0 pc :=
  j_callSI g hC L hfr hlo hcells hslots hAs hst hcat hd (fun r u h => k r  h)
theorem j_callSV_1 (g : gd Γ cc own nL rm q) {As : List Value} {A1 : Type} {Wd : A1 → va_W} {K : A1 → Prop} {st0 : List Value} (hC : ctV_1 q y ccY nY frY loY As ws Wd K) (L : clS own index y ccY nY none n) (hfr : frY + 1 ≤ rm.frames) (hlo : 8 + (nY + 11) + loY ≤ rm.locals) (hcells : kc + 0 ≤ rm.cells) (hslots : ks + 0 ≤ rm.slots) (hAs : As.length = n) (hst : st0 = As.reverse ++ st) (hcat : (st.map fun v => v.category).sum ≤ 8) (hd : decode cc pc = .ok (.invokestatic index, 3)) (k : ∀ (m1 : A1), K m1 → jw Γ nL kc ks (Wd m1) lv st (pc + 3)) : jw Γ nL kc ks ws lv st0 pc :=
  j_callSV g hC L hfr hlo hcells hslots hAs hst hcat hd (fun u h => k u h)
theorem j_callSZ_20 (g : gd Γ cc own nL rm q) {As : List Value} {A1 A2 A3 A4 A5 A6 A7 A8 A9 A10 A11 A12 A13 A14 A15 A16 A17 A18 A19 A20 : Type} {Wd : A1 → A2 → A3 → A4 → A5 → A6 → A7 → A8 → A9 → A10 → A11 → A12 → A13 → A14 → A15 → A16 → A17 → A18 → A19 → A20 → va_W} {K : Int32 → A1 → A2 → A3 → A4 → A5 → A6 → A7 → A8 → A9 → A10 → A11 → A12 → A13 → A14 → A15 → A16 → A17 → A18 → A19 → A20 → Prop} {st0 : List Value} (hC : ctZ_20 q y ccY nY frY loY As ws Wd K) (L : clS own index y ccY nY (some .boolean) n) (hfr : frY + 1 ≤ rm.frames) (hlo : 8 + (nY + 11) + loY ≤ rm.locals) (hcells : kc + 0 ≤ rm.cells) (hslots : ks + 0 ≤ rm.slots) (hAs : As.length = n) (hst : st0 = As.reverse ++ st) (hcat : (st.map fun v => v.category).sum ≤ 8) (hd : decode cc pc = .ok (.invokestatic index, 3)) (k : ∀ (r : Int32) (m1 : A1) (m2 : A2) (m3 : A3) (m4 : A4) (m5 : A5) (m6 : A6) (m7 : A7) (m8 : A8) (m9 : A9) (m10 : A10) (m11 : A11) (m12 : A12) (m13 : A13) (m14 : A14) (m15 : A15) (m16 : A16) (m17 : A17) (m18 : A18) (m19 : A19) (m20 : A20), (r = 0 ∨ r = 1) → K r m1 m2 m3 m4 m5 m6 m7 m8 m9 m10 m11 m12 m13 m14 m15 m16 m17 m18 m19 m20 → jw Γ nL kc ks (Wd m1 m2 m3 m4 m5 m6 m7 m8 m9 m10 m11 m12 m13 m14 m15 m16 m17 m18 m19 m20) lv (.int r :: st) (pc + 3)) : jw Γ nL kc ks ws lv st0 pc :=
  j_callSZ g hC L hfr hlo hcells hslots hAs hst hcat hd (fun r u hz h => k r u.1 u.2.1 u.2.2.1 u.2.2.2.1 u.2.2.2.2.1 u.2.2.2.2.2.1 u.2.2.2.2.2.2.1 u.2.2.2.2.2.2.2.1 u.2.2.2.2.2.2.2.2.1 u.2.2.2.2.2.2.2.2.2.1 u.2.2.2.2.2.2.2.2.2.2.1 u.2.2.2.2.2.2.2.2.2.2.2.1 u.2.2.2.2.2.2.2.2.2.2.2.2.1 u.2.2.2.2.2.2.2.2.2.2.2.2.2.1 u.2.2.2.2.2.2.2.2.2.2.2.2.2.2.1 u.2.2.2.2.2.2.2.2.2.2.2.2.2.2.2.1 u.2.2.2.2.2.2.2.2.2.2.2.2.2.2.2.2.1 u.2.2.2.2.2.2.2.2.2.2.2.2.2.2.2.2.2.1 u.2.2.2.2.2.2.2.2.2.2.2.2.2.2.2.2.2.2.1 u.2.2.2.2.2.2.2.2.2.2.2.2.2.2.2.2.2.2.2 hz h)
theorem j_callVI_0 (g : gd Γ cc own nL rm q) {b : Nat} {As : List Value} {Wd : va_W} {K : Int32 → Prop} {st0 : List Value} (hC : ctI_0 q y ccY nY frY loY (.ref b :: As) ws Wd K) (L : clV own index y ccY nY (some .int) n) (q0 ci : Nat) {fs : List Value} {rc : vw_C} (he : ws[q0]? = some (b, .inr (ci, fs))) (hrc : jclasses[ci]? = some rc) (hcn : rc.1 = y.cls) (hfr : frY + 1 ≤ rm.frames) (hlo : 8 + (nY + 11) + loY ≤ rm.locals) (hcells : kc + 0 ≤ rm.cells) (hslots : ks + 0 ≤ rm.slots) (hAs : As.length = n) (hst : st0 = As.reverse ++ .ref b :: st) (hcat : (st.map fun v => v.category).sum ≤ 8) (hd : decode cc pc = .ok (.invokevirtual index, 3)) (k : ∀ (r : Int32) , K r  → jw Γ nL kc ks (Wd ) lv (.int r :: st) (pc + 3)) : jw Γ nL kc ks ws lv st0 pc :=
  j_callVI g hC L q0 ci he hrc hcn hfr hlo hcells hslots hAs hst hcat hd (fun r u h => k r  h)
theorem j_callVI_4 (g : gd Γ cc own nL rm q) {b : Nat} {As : List Value} {A1 A2 A3 A4 : Type} {Wd : A1 → A2 → A3 → A4 → va_W} {K : Int32 → A1 → A2 → A3 → A4 → Prop} {st0 : List Value} (hC : ctI_4 q y ccY nY frY loY (.ref b :: As) ws Wd K) (L : clV own index y ccY nY (some .int) n) (q0 ci : Nat) {fs : List Value} {rc : vw_C} (he : ws[q0]? = some (b, .inr (ci, fs))) (hrc : jclasses[ci]? = some rc) (hcn : rc.1 = y.cls) (hfr : frY + 1 ≤ rm.frames) (hlo : 8 + (nY + 11) + loY ≤ rm.locals) (hcells : kc + 0 ≤ rm.cells) (hslots : ks + 0 ≤ rm.slots) (hAs : As.length = n) (hst : st0 = As.reverse ++ .ref b :: st) (hcat : (st.map fun v => v.category).sum ≤ 8) (hd : decode cc pc = .ok (.invokevirtual index, 3)) (k : ∀ (r : Int32) (m1 : A1) (m2 : A2) (m3 : A3) (m4 : A4), K r m1 m2 m3 m4 → jw Γ nL kc ks (Wd m1 m2 m3 m4) lv (.int r :: st) (pc + 3)) : jw Γ nL kc ks ws lv st0 pc :=
  j_callVI g hC L q0 ci he hrc hcn hfr hlo hcells hslots hAs hst hcat hd (fun r u h => k r u.1 u.2.1 u.2.2.1 u.2.2.2 h)
theorem j_callVI_5 (g : gd Γ cc own nL rm q) {b : Nat} {As : List Value} {A1 A2 A3 A4 A5 : Type} {Wd : A1 → A2 → A3 → A4 → A5 → va_W} {K : Int32 → A1 → A2 → A3 → A4 → A5 → Prop} {st0 : List Value} (hC : ctI_5 q y ccY nY frY loY (.ref b :: As) ws Wd K) (L : clV own index y ccY nY (some .int) n) (q0 ci : Nat) {fs : List Value} {rc : vw_C} (he : ws[q0]? = some (b, .inr (ci, fs))) (hrc : jclasses[ci]? = some rc) (hcn : rc.1 = y.cls) (hfr : frY + 1 ≤ rm.frames) (hlo : 8 + (nY + 11) + loY ≤ rm.locals) (hcells : kc + 0 ≤ rm.cells) (hslots : ks + 0 ≤ rm.slots) (hAs : As.length = n) (hst : st0 = As.reverse ++ .ref b :: st) (hcat : (st.map fun v => v.category).sum ≤ 8) (hd : decode cc pc = .ok (.invokevirtual index, 3)) (k : ∀ (r : Int32) (m1 : A1) (m2 : A2) (m3 : A3) (m4 : A4) (m5 : A5), K r m1 m2 m3 m4 m5 → jw Γ nL kc ks (Wd m1 m2 m3 m4 m5) lv (.int r :: st) (pc + 3)) : jw Γ nL kc ks ws lv st0 pc :=
  j_callVI g hC L q0 ci he hrc hcn hfr hlo hcells hslots hAs hst hcat hd (fun r u h => k r u.1 u.2.1 u.2.2.1 u.2.2.2.1 u.2.2.2.2 h)
theorem j_callVI_9 (g : gd Γ cc own nL rm q) {b : Nat} {As : List Value} {A1 A2 A3 A4 A5 A6 A7 A8 A9 : Type} {Wd : A1 → A2 → A3 → A4 → A5 → A6 → A7 → A8 → A9 → va_W} {K : Int32 → A1 → A2 → A3 → A4 → A5 → A6 → A7 → A8 → A9 → Prop} {st0 : List Value} (hC : ctI_9 q y ccY nY frY loY (.ref b :: As) ws Wd K) (L : clV own index y ccY nY (some .int) n) (q0 ci : Nat) {fs : List Value} {rc : vw_C} (he : ws[q0]? = some (b, .inr (ci, fs))) (hrc : jclasses[ci]? = some rc) (hcn : rc.1 = y.cls) (hfr : frY + 1 ≤ rm.frames) (hlo : 8 + (nY + 11) + loY ≤ rm.locals) (hcells : kc + 0 ≤ rm.cells) (hslots : ks + 0 ≤ rm.slots) (hAs : As.length = n) (hst : st0 = As.reverse ++ .ref b :: st) (hcat : (st.map fun v => v.category).sum ≤ 8) (hd : decode cc pc = .ok (.invokevirtual index, 3)) (k : ∀ (r : Int32) (m1 : A1) (m2 : A2) (m3 : A3) (m4 : A4) (m5 : A5) (m6 : A6) (m7 : A7) (m8 : A8) (m9 : A9), K r m1 m2 m3 m4 m5 m6 m7 m8 m9 → jw Γ nL kc ks (Wd m1 m2 m3 m4 m5 m6 m7 m8 m9) lv (.int r :: st) (pc + 3)) : jw Γ nL kc ks ws lv st0 pc :=
  j_callVI g hC L q0 ci he hrc hcn hfr hlo hcells hslots hAs hst hcat hd (fun r u h => k r u.1 u.2.1 u.2.2.1 u.2.2.2.1 u.2.2.2.2.1 u.2.2.2.2.2.1 u.2.2.2.2.2.2.1 u.2.2.2.2.2.2.2.1 u.2.2.2.2.2.2.2.2 h)
theorem j_callVI_10 (g : gd Γ cc own nL rm q) {b : Nat} {As : List Value} {A1 A2 A3 A4 A5 A6 A7 A8 A9 A10 : Type} {Wd : A1 → A2 → A3 → A4 → A5 → A6 → A7 → A8 → A9 → A10 → va_W} {K : Int32 → A1 → A2 → A3 → A4 → A5 → A6 → A7 → A8 → A9 → A10 → Prop} {st0 : List Value} (hC : ctI_10 q y ccY nY frY loY (.ref b :: As) ws Wd K) (L : clV own index y ccY nY (some .int) n) (q0 ci : Nat) {fs : List Value} {rc : vw_C} (he : ws[q0]? = some (b, .inr (ci, fs))) (hrc : jclasses[ci]? = some rc) (hcn : rc.1 = y.cls) (hfr : frY + 1 ≤ rm.frames) (hlo : 8 + (nY + 11) + loY ≤ rm.locals) (hcells : kc + 0 ≤ rm.cells) (hslots : ks + 0 ≤ rm.slots) (hAs : As.length = n) (hst : st0 = As.reverse ++ .ref b :: st) (hcat : (st.map fun v => v.category).sum ≤ 8) (hd : decode cc pc = .ok (.invokevirtual index, 3)) (k : ∀ (r : Int32) (m1 : A1) (m2 : A2) (m3 : A3) (m4 : A4) (m5 : A5) (m6 : A6) (m7 : A7) (m8 : A8) (m9 : A9) (m10 : A10), K r m1 m2 m3 m4 m5 m6 m7 m8 m9 m10 → jw Γ nL kc ks (Wd m1 m2 m3 m4 m5 m6 m7 m8 m9 m10) lv (.int r :: st) (pc + 3)) : jw Γ nL kc ks ws lv st0 pc :=
  j_callVI g hC L q0 ci he hrc hcn hfr hlo hcells hslots hAs hst hcat hd (fun r u h => k r u.1 u.2.1 u.2.2.1 u.2.2.2.1 u.2.2.2.2.1 u.2.2.2.2.2.1 u.2.2.2.2.2.2.1 u.2.2.2.2.2.2.2.1 u.2.2.2.2.2.2.2.2.1 u.2.2.2.2.2.2.2.2.2 h)
theorem j_callVI_20 (g : gd Γ cc own nL rm q) {b : Nat} {As : List Value} {A1 A2 A3 A4 A5 A6 A7 A8 A9 A10 A11 A12 A13 A14 A15 A16 A17 A18 A19 A20 : Type} {Wd : A1 → A2 → A3 → A4 → A5 → A6 → A7 → A8 → A9 → A10 → A11 → A12 → A13 → A14 → A15 → A16 → A17 → A18 → A19 → A20 → va_W} {K : Int32 → A1 → A2 → A3 → A4 → A5 → A6 → A7 → A8 → A9 → A10 → A11 → A12 → A13 → A14 → A15 → A16 → A17 → A18 → A19 → A20 → Prop} {st0 : List Value} (hC : ctI_20 q y ccY nY frY loY (.ref b :: As) ws Wd K) (L : clV own index y ccY nY (some .int) n) (q0 ci : Nat) {fs : List Value} {rc : vw_C} (he : ws[q0]? = some (b, .inr (ci, fs))) (hrc : jclasses[ci]? = some rc) (hcn : rc.1 = y.cls) (hfr : frY + 1 ≤ rm.frames) (hlo : 8 + (nY + 11) + loY ≤ rm.locals) (hcells : kc + 0 ≤ rm.cells) (hslots : ks + 0 ≤ rm.slots) (hAs : As.length = n) (hst : st0 = As.reverse ++ .ref b :: st) (hcat : (st.map fun v => v.category).sum ≤ 8) (hd : decode cc pc = .ok (.invokevirtual index, 3)) (k : ∀ (r : Int32) (m1 : A1) (m2 : A2) (m3 : A3) (m4 : A4) (m5 : A5) (m6 : A6) (m7 : A7) (m8 : A8) (m9 : A9) (m10 : A10) (m11 : A11) (m12 : A12) (m13 : A13) (m14 : A14) (m15 : A15) (m16 : A16) (m17 : A17) (m18 : A18) (m19 : A19) (m20 : A20), K r m1 m2 m3 m4 m5 m6 m7 m8 m9 m10 m11 m12 m13 m14 m15 m16 m17 m18 m19 m20 → jw Γ nL kc ks (Wd m1 m2 m3 m4 m5 m6 m7 m8 m9 m10 m11 m12 m13 m14 m15 m16 m17 m18 m19 m20) lv (.int r :: st) (pc + 3)) : jw Γ nL kc ks ws lv st0 pc :=
  j_callVI g hC L q0 ci he hrc hcn hfr hlo hcells hslots hAs hst hcat hd (fun r u h => k r u.1 u.2.1 u.2.2.1 u.2.2.2.1 u.2.2.2.2.1 u.2.2.2.2.2.1 u.2.2.2.2.2.2.1 u.2.2.2.2.2.2.2.1 u.2.2.2.2.2.2.2.2.1 u.2.2.2.2.2.2.2.2.2.1 u.2.2.2.2.2.2.2.2.2.2.1 u.2.2.2.2.2.2.2.2.2.2.2.1 u.2.2.2.2.2.2.2.2.2.2.2.2.1 u.2.2.2.2.2.2.2.2.2.2.2.2.2.1 u.2.2.2.2.2.2.2.2.2.2.2.2.2.2.1 u.2.2.2.2.2.2.2.2.2.2.2.2.2.2.2.1 u.2.2.2.2.2.2.2.2.2.2.2.2.2.2.2.2.1 u.2.2.2.2.2.2.2.2.2.2.2.2.2.2.2.2.2.1 u.2.2.2.2.2.2.2.2.2.2.2.2.2.2.2.2.2.2.1 u.2.2.2.2.2.2.2.2.2.2.2.2.2.2.2.2.2.2.2 h)
theorem j_callVQ_0 (g : gd Γ cc own nL rm q) {b : Nat} {As : List Value} {ad : Nat → Nat} {Wd : va_W} {K : Option Nat → Prop} {st0 : List Value} (hC : ctQ_0 q y ccY nY frY loY (.ref b :: As) ws ad Wd K) (L : clV own index y ccY nY (some (.object RX0)) n) (q0 ci : Nat) {fs : List Value} {rc : vw_C} (he : ws[q0]? = some (b, .inr (ci, fs))) (hrc : jclasses[ci]? = some rc) (hcn : rc.1 = y.cls) (hfr : frY + 1 ≤ rm.frames) (hlo : 8 + (nY + 11) + loY ≤ rm.locals) (hcells : kc + 0 ≤ rm.cells) (hslots : ks + 0 ≤ rm.slots) (hAs : As.length = n) (hst : st0 = As.reverse ++ .ref b :: st) (hcat : (st.map fun v => v.category).sum ≤ 8) (hd : decode cc pc = .ok (.invokevirtual index, 3)) (kn : K none  → jw Γ nL kc ks (Wd ) lv (.null :: st) (pc + 3)) (k : ∀ (i : Nat) , i < 6 → K (some i)  → jw Γ nL kc ks (Wd ) lv (.ref (ad i) :: st) (pc + 3)) : jw Γ nL kc ks ws lv st0 pc :=
  j_callVQ g hC L q0 ci he hrc hcn hfr hlo hcells hslots hAs hst hcat hd (fun u h => kn  h) (fun i u hi h => k i  hi h)
theorem j_callVV_1 (g : gd Γ cc own nL rm q) {b : Nat} {As : List Value} {A1 : Type} {Wd : A1 → va_W} {K : A1 → Prop} {st0 : List Value} (hC : ctV_1 q y ccY nY frY loY (.ref b :: As) ws Wd K) (L : clV own index y ccY nY none n) (q0 ci : Nat) {fs : List Value} {rc : vw_C} (he : ws[q0]? = some (b, .inr (ci, fs))) (hrc : jclasses[ci]? = some rc) (hcn : rc.1 = y.cls) (hfr : frY + 1 ≤ rm.frames) (hlo : 8 + (nY + 11) + loY ≤ rm.locals) (hcells : kc + 0 ≤ rm.cells) (hslots : ks + 0 ≤ rm.slots) (hAs : As.length = n) (hst : st0 = As.reverse ++ .ref b :: st) (hcat : (st.map fun v => v.category).sum ≤ 8) (hd : decode cc pc = .ok (.invokevirtual index, 3)) (k : ∀ (m1 : A1), K m1 → jw Γ nL kc ks (Wd m1) lv st (pc + 3)) : jw Γ nL kc ks ws lv st0 pc :=
  j_callVV g hC L q0 ci he hrc hcn hfr hlo hcells hslots hAs hst hcat hd (fun u h => k u h)
theorem j_callVV_2 (g : gd Γ cc own nL rm q) {b : Nat} {As : List Value} {A1 A2 : Type} {Wd : A1 → A2 → va_W} {K : A1 → A2 → Prop} {st0 : List Value} (hC : ctV_2 q y ccY nY frY loY (.ref b :: As) ws Wd K) (L : clV own index y ccY nY none n) (q0 ci : Nat) {fs : List Value} {rc : vw_C} (he : ws[q0]? = some (b, .inr (ci, fs))) (hrc : jclasses[ci]? = some rc) (hcn : rc.1 = y.cls) (hfr : frY + 1 ≤ rm.frames) (hlo : 8 + (nY + 11) + loY ≤ rm.locals) (hcells : kc + 0 ≤ rm.cells) (hslots : ks + 0 ≤ rm.slots) (hAs : As.length = n) (hst : st0 = As.reverse ++ .ref b :: st) (hcat : (st.map fun v => v.category).sum ≤ 8) (hd : decode cc pc = .ok (.invokevirtual index, 3)) (k : ∀ (m1 : A1) (m2 : A2), K m1 m2 → jw Γ nL kc ks (Wd m1 m2) lv st (pc + 3)) : jw Γ nL kc ks ws lv st0 pc :=
  j_callVV g hC L q0 ci he hrc hcn hfr hlo hcells hslots hAs hst hcat hd (fun u h => k u.1 u.2 h)
theorem j_callVZ_0 (g : gd Γ cc own nL rm q) {b : Nat} {As : List Value} {Wd : va_W} {K : Int32 → Prop} {st0 : List Value} (hC : ctZ_0 q y ccY nY frY loY (.ref b :: As) ws Wd K) (L : clV own index y ccY nY (some .boolean) n) (q0 ci : Nat) {fs : List Value} {rc : vw_C} (he : ws[q0]? = some (b, .inr (ci, fs))) (hrc : jclasses[ci]? = some rc) (hcn : rc.1 = y.cls) (hfr : frY + 1 ≤ rm.frames) (hlo : 8 + (nY + 11) + loY ≤ rm.locals) (hcells : kc + 0 ≤ rm.cells) (hslots : ks + 0 ≤ rm.slots) (hAs : As.length = n) (hst : st0 = As.reverse ++ .ref b :: st) (hcat : (st.map fun v => v.category).sum ≤ 8) (hd : decode cc pc = .ok (.invokevirtual index, 3)) (k : ∀ (r : Int32) , (r = 0 ∨ r = 1) → K r  → jw Γ nL kc ks (Wd ) lv (.int r :: st) (pc + 3)) : jw Γ nL kc ks ws lv st0 pc :=
  j_callVZ g hC L q0 ci he hrc hcn hfr hlo hcells hslots hAs hst hcat hd (fun r u hz h => k r  hz h)
theorem j_callVZ_1 (g : gd Γ cc own nL rm q) {b : Nat} {As : List Value} {A1 : Type} {Wd : A1 → va_W} {K : Int32 → A1 → Prop} {st0 : List Value} (hC : ctZ_1 q y ccY nY frY loY (.ref b :: As) ws Wd K) (L : clV own index y ccY nY (some .boolean) n) (q0 ci : Nat) {fs : List Value} {rc : vw_C} (he : ws[q0]? = some (b, .inr (ci, fs))) (hrc : jclasses[ci]? = some rc) (hcn : rc.1 = y.cls) (hfr : frY + 1 ≤ rm.frames) (hlo : 8 + (nY + 11) + loY ≤ rm.locals) (hcells : kc + 0 ≤ rm.cells) (hslots : ks + 0 ≤ rm.slots) (hAs : As.length = n) (hst : st0 = As.reverse ++ .ref b :: st) (hcat : (st.map fun v => v.category).sum ≤ 8) (hd : decode cc pc = .ok (.invokevirtual index, 3)) (k : ∀ (r : Int32) (m1 : A1), (r = 0 ∨ r = 1) → K r m1 → jw Γ nL kc ks (Wd m1) lv (.int r :: st) (pc + 3)) : jw Γ nL kc ks ws lv st0 pc :=
  j_callVZ g hC L q0 ci he hrc hcn hfr hlo hcells hslots hAs hst hcat hd (fun r u hz h => k r u hz h)
theorem j_callVZ_2 (g : gd Γ cc own nL rm q) {b : Nat} {As : List Value} {A1 A2 : Type} {Wd : A1 → A2 → va_W} {K : Int32 → A1 → A2 → Prop} {st0 : List Value} (hC : ctZ_2 q y ccY nY frY loY (.ref b :: As) ws Wd K) (L : clV own index y ccY nY (some .boolean) n) (q0 ci : Nat) {fs : List Value} {rc : vw_C} (he : ws[q0]? = some (b, .inr (ci, fs))) (hrc : jclasses[ci]? = some rc) (hcn : rc.1 = y.cls) (hfr : frY + 1 ≤ rm.frames) (hlo : 8 + (nY + 11) + loY ≤ rm.locals) (hcells : kc + 0 ≤ rm.cells) (hslots : ks + 0 ≤ rm.slots) (hAs : As.length = n) (hst : st0 = As.reverse ++ .ref b :: st) (hcat : (st.map fun v => v.category).sum ≤ 8) (hd : decode cc pc = .ok (.invokevirtual index, 3)) (k : ∀ (r : Int32) (m1 : A1) (m2 : A2), (r = 0 ∨ r = 1) → K r m1 m2 → jw Γ nL kc ks (Wd m1 m2) lv (.int r :: st) (pc + 3)) : jw Γ nL kc ks ws lv st0 pc :=
  j_callVZ g hC L q0 ci he hrc hcn hfr hlo hcells hslots hAs hst hcat hd (fun r u hz h => k r u.1 u.2 hz h)
theorem j_callVZ_3 (g : gd Γ cc own nL rm q) {b : Nat} {As : List Value} {A1 A2 A3 : Type} {Wd : A1 → A2 → A3 → va_W} {K : Int32 → A1 → A2 → A3 → Prop} {st0 : List Value} (hC : ctZ_3 q y ccY nY frY loY (.ref b :: As) ws Wd K) (L : clV own index y ccY nY (some .boolean) n) (q0 ci : Nat) {fs : List Value} {rc : vw_C} (he : ws[q0]? = some (b, .inr (ci, fs))) (hrc : jclasses[ci]? = some rc) (hcn : rc.1 = y.cls) (hfr : frY + 1 ≤ rm.frames) (hlo : 8 + (nY + 11) + loY ≤ rm.locals) (hcells : kc + 0 ≤ rm.cells) (hslots : ks + 0 ≤ rm.slots) (hAs : As.length = n) (hst : st0 = As.reverse ++ .ref b :: st) (hcat : (st.map fun v => v.category).sum ≤ 8) (hd : decode cc pc = .ok (.invokevirtual index, 3)) (k : ∀ (r : Int32) (m1 : A1) (m2 : A2) (m3 : A3), (r = 0 ∨ r = 1) → K r m1 m2 m3 → jw Γ nL kc ks (Wd m1 m2 m3) lv (.int r :: st) (pc + 3)) : jw Γ nL kc ks ws lv st0 pc :=
  j_callVZ g hC L q0 ci he hrc hcn hfr hlo hcells hslots hAs hst hcat hd (fun r u hz h => k r u.1 u.2.1 u.2.2 hz h)
theorem j_callVZ_4 (g : gd Γ cc own nL rm q) {b : Nat} {As : List Value} {A1 A2 A3 A4 : Type} {Wd : A1 → A2 → A3 → A4 → va_W} {K : Int32 → A1 → A2 → A3 → A4 → Prop} {st0 : List Value} (hC : ctZ_4 q y ccY nY frY loY (.ref b :: As) ws Wd K) (L : clV own index y ccY nY (some .boolean) n) (q0 ci : Nat) {fs : List Value} {rc : vw_C} (he : ws[q0]? = some (b, .inr (ci, fs))) (hrc : jclasses[ci]? = some rc) (hcn : rc.1 = y.cls) (hfr : frY + 1 ≤ rm.frames) (hlo : 8 + (nY + 11) + loY ≤ rm.locals) (hcells : kc + 0 ≤ rm.cells) (hslots : ks + 0 ≤ rm.slots) (hAs : As.length = n) (hst : st0 = As.reverse ++ .ref b :: st) (hcat : (st.map fun v => v.category).sum ≤ 8) (hd : decode cc pc = .ok (.invokevirtual index, 3)) (k : ∀ (r : Int32) (m1 : A1) (m2 : A2) (m3 : A3) (m4 : A4), (r = 0 ∨ r = 1) → K r m1 m2 m3 m4 → jw Γ nL kc ks (Wd m1 m2 m3 m4) lv (.int r :: st) (pc + 3)) : jw Γ nL kc ks ws lv st0 pc :=
  j_callVZ g hC L q0 ci he hrc hcn hfr hlo hcells hslots hAs hst hcat hd (fun r u hz h => k r u.1 u.2.1 u.2.2.1 u.2.2.2 hz h)
end JCN
end
section
/-! further rows: longs, copies, fills, switches -/
section JM
variable {Γ : GT} {cc : ByteArray} {own : String} {nL kc ks : Nat} {rm : Room} {q : Nat → ClassId} {ws : va_W} {lv : List (Nat × Value)} {st : List Value} {pc : Nat}
theorem j_lstore (g : gd Γ cc own nL rm q) {i : Nat} {x : Int64} {lv' : List (Nat × Value)} (hn : i + 1 < nL) (hv : (i, Value.long x) :: lv.filter (fun q => !(q.1 == i) && (!(q.1 == i + 1) && !(q.1 + 1 == i && q.2.category == 2))) = lv') (hd : decode cc pc = .ok (.lstore i, 2)) (k : jw Γ nL kc ks ws lv' st (pc + 2)) : jw Γ nL kc ks ws lv (.long x :: st) pc := by
  obtain ⟨p, l, e, R, s, m, args, below, meth, c, D, A, Q⟩ := Γ
  obtain ⟨hx, hb, hml, hown, hts, hK, hA, hR⟩ := g
  intro H locs ls hP hD hS hl
  exact lv_lstore hx hb hd hl hn hv (fun ls hl => k H locs ls hP hD hS hl)
theorem j_lcmp (g : gd Γ cc own nL rm q) {x y : Int64} (hd : decode cc pc = .ok (.lcmp, 1)) (k : jw Γ nL kc ks ws lv (.int (lg_cmp x y) :: st) (pc + 1)) : jw Γ nL kc ks ws lv (.long y :: .long x :: st) pc := by
  obtain ⟨p, l, e, R, s, m, args, below, meth, c, D, A, Q⟩ := Γ
  obtain ⟨hx, hb, hml, hown, hts, hK, hA, hR⟩ := g
  intro H locs ls hP hD hS hl
  exact W.lcmp hx hb hd (k H locs ls hP hD hS hl)
theorem j_swI (g : gd Γ cc own nL rm q) {dflt lo hi : Int} {offs : Array Int} {len : Nat} {x : Int32} {off : Int} {tgt : Nat} (hd : decode cc pc = .ok (.tableswitch dflt lo hi offs, len)) (h1 : ¬ x.toInt < lo) (h2 : ¬ hi < x.toInt) (ho : offs[(x.toInt - lo).toNat]? = some off) (ht : (pc : Int) + off = (tgt : Int)) (k : jw Γ nL kc ks ws lv st tgt) : jw Γ nL kc ks ws lv (.int x :: st) pc := by
  obtain ⟨p, l, e, R, s, m, args, below, meth, c, D, A, Q⟩ := Γ
  obtain ⟨hx, hb, hml, hown, hts, hK, hA, hR⟩ := g
  intro H locs ls hP hD hS hl
  exact lv_tableIn hx hb hd h1 h2 ho ht (k H locs ls hP hD hS hl)
theorem j_swO (g : gd Γ cc own nL rm q) {dflt lo hi : Int} {offs : Array Int} {len : Nat} {x : Int32} {tgt : Nat} (hd : decode cc pc = .ok (.tableswitch dflt lo hi offs, len)) (h : x.toInt < lo ∨ hi < x.toInt) (ht : (pc : Int) + dflt = (tgt : Int)) (k : jw Γ nL kc ks ws lv st tgt) : jw Γ nL kc ks ws lv (.int x :: st) pc := by
  obtain ⟨p, l, e, R, s, m, args, below, meth, c, D, A, Q⟩ := Γ
  obtain ⟨hx, hb, hml, hown, hts, hK, hA, hR⟩ := g
  intro H locs ls hP hD hS hl
  exact lv_tableOut hx hb hd h ht (k H locs ls hP hD hS hl)
theorem sw_lo {x c : Int32} {lo : Int} (h : x = c) (d : ¬ c.toInt < lo) : ¬ x.toInt < lo := h ▸ d
theorem sw_hi {x c : Int32} {hi : Int} (h : x = c) (d : ¬ hi < c.toInt) : ¬ hi < x.toInt := h ▸ d
theorem sw_at {x c : Int32} {lo off : Int} {offs : Array Int} {n : Nat} (h : x = c) (d : (c.toInt - lo).toNat = n) (ho : offs[n]? = some off) : offs[(x.toInt - lo).toNat]? = some off := by
  subst h; rw [d]; exact ho
theorem sw_out7 {x : Int32} (c0 : ¬ x = (0 : Int32)) (c1 : ¬ x = (1 : Int32)) (c2 : ¬ x = (2 : Int32)) (c3 : ¬ x = (3 : Int32)) (c4 : ¬ x = (4 : Int32)) (c5 : ¬ x = (5 : Int32)) (c6 : ¬ x = (6 : Int32)) : x.toInt < 0 ∨ 6 < x.toInt := by
  by_cases h : x.toInt < 0 ∨ 6 < x.toInt
  · exact h
  · exfalso
    have h2 : x.toInt = 0 ∨ x.toInt = 1 ∨ x.toInt = 2 ∨ x.toInt = 3 ∨ x.toInt = 4 ∨ x.toInt = 5 ∨ x.toInt = 6 := by omega
    rcases h2 with h0 | h1 | h2 | h3 | h4 | h5 | h6
    · exact c0 (Int32.toInt_inj.mp (h0.trans (by decide)))
    · exact c1 (Int32.toInt_inj.mp (h1.trans (by decide)))
    · exact c2 (Int32.toInt_inj.mp (h2.trans (by decide)))
    · exact c3 (Int32.toInt_inj.mp (h3.trans (by decide)))
    · exact c4 (Int32.toInt_inj.mp (h4.trans (by decide)))
    · exact c5 (Int32.toInt_inj.mp (h5.trans (by decide)))
    · exact c6 (Int32.toInt_inj.mp (h6.trans (by decide)))
theorem sw_out24 {x : Int32} (c0 : ¬ x = (0 : Int32)) (c1 : ¬ x = (1 : Int32)) (c2 : ¬ x = (2 : Int32)) (c3 : ¬ x = (3 : Int32)) (c4 : ¬ x = (4 : Int32)) (c5 : ¬ x = (5 : Int32)) (c6 : ¬ x = (6 : Int32)) (c7 : ¬ x = (7 : Int32)) (c8 : ¬ x = (8 : Int32)) (c9 : ¬ x = (9 : Int32)) (c10 : ¬ x = (10 : Int32)) (c11 : ¬ x = (11 : Int32)) (c12 : ¬ x = (12 : Int32)) (c13 : ¬ x = (13 : Int32)) (c14 : ¬ x = (14 : Int32)) (c15 : ¬ x = (15 : Int32)) (c16 : ¬ x = (16 : Int32)) (c17 : ¬ x = (17 : Int32)) (c18 : ¬ x = (18 : Int32)) (c19 : ¬ x = (19 : Int32)) (c20 : ¬ x = (20 : Int32)) (c21 : ¬ x = (21 : Int32)) (c22 : ¬ x = (22 : Int32)) (c23 : ¬ x = (23 : Int32)) : x.toInt < 0 ∨ 23 < x.toInt := by
  by_cases h : x.toInt < 0 ∨ 23 < x.toInt
  · exact h
  · exfalso
    have h2 : x.toInt = 0 ∨ x.toInt = 1 ∨ x.toInt = 2 ∨ x.toInt = 3 ∨ x.toInt = 4 ∨ x.toInt = 5 ∨ x.toInt = 6 ∨ x.toInt = 7 ∨ x.toInt = 8 ∨ x.toInt = 9 ∨ x.toInt = 10 ∨ x.toInt = 11 ∨ x.toInt = 12 ∨ x.toInt = 13 ∨ x.toInt = 14 ∨ x.toInt = 15 ∨ x.toInt = 16 ∨ x.toInt = 17 ∨ x.toInt = 18 ∨ x.toInt = 19 ∨ x.toInt = 20 ∨ x.toInt = 21 ∨ x.toInt = 22 ∨ x.toInt = 23 := by omega
    rcases h2 with h0 | h1 | h2 | h3 | h4 | h5 | h6 | h7 | h8 | h9 | h10 | h11 | h12 | h13 | h14 | h15 | h16 | h17 | h18 | h19 | h20 | h21 | h22 | h23
    · exact c0 (Int32.toInt_inj.mp (h0.trans (by decide)))
    · exact c1 (Int32.toInt_inj.mp (h1.trans (by decide)))
    · exact c2 (Int32.toInt_inj.mp (h2.trans (by decide)))
    · exact c3 (Int32.toInt_inj.mp (h3.trans (by decide)))
    · exact c4 (Int32.toInt_inj.mp (h4.trans (by decide)))
    · exact c5 (Int32.toInt_inj.mp (h5.trans (by decide)))
    · exact c6 (Int32.toInt_inj.mp (h6.trans (by decide)))
    · exact c7 (Int32.toInt_inj.mp (h7.trans (by decide)))
    · exact c8 (Int32.toInt_inj.mp (h8.trans (by decide)))
    · exact c9 (Int32.toInt_inj.mp (h9.trans (by decide)))
    · exact c10 (Int32.toInt_inj.mp (h10.trans (by decide)))
    · exact c11 (Int32.toInt_inj.mp (h11.trans (by decide)))
    · exact c12 (Int32.toInt_inj.mp (h12.trans (by decide)))
    · exact c13 (Int32.toInt_inj.mp (h13.trans (by decide)))
    · exact c14 (Int32.toInt_inj.mp (h14.trans (by decide)))
    · exact c15 (Int32.toInt_inj.mp (h15.trans (by decide)))
    · exact c16 (Int32.toInt_inj.mp (h16.trans (by decide)))
    · exact c17 (Int32.toInt_inj.mp (h17.trans (by decide)))
    · exact c18 (Int32.toInt_inj.mp (h18.trans (by decide)))
    · exact c19 (Int32.toInt_inj.mp (h19.trans (by decide)))
    · exact c20 (Int32.toInt_inj.mp (h20.trans (by decide)))
    · exact c21 (Int32.toInt_inj.mp (h21.trans (by decide)))
    · exact c22 (Int32.toInt_inj.mp (h22.trans (by decide)))
    · exact c23 (Int32.toInt_inj.mp (h23.trans (by decide)))
def ac_ok (sp dp n : Int32) (N : Nat) : Prop := ¬ sp < 0 ∧ ¬ dp < 0 ∧ ¬ n < 0 ∧ sp.toNatClampNeg + n.toNatClampNeg ≤ N ∧ dp.toNatClampNeg + n.toNatClampNeg ≤ N
theorem ac_n : Cond.native arraycopyName ∈ gt := gt_in (by decide +kernel) rfl
theorem ac_s : Cond.static arraycopyName ∈ gt := gt_in (by decide +kernel) rfl
theorem ac_i : Cond.initialized "java/lang/System" ∈ gt := gt_in (by decide +kernel) rfl
theorem j_copyi (g : gd Γ cc own nL rm q) {index : Nat} (L : Cond.methodLink own index arraycopyName ∈ gt) (q0 q1 : Nat) {a0 a1 N : Nat} {f h : Nat → Int32} (ha0 : ws[q0]? = some (a0, .inl (q 0, N, .inl f))) (ha1 : ws[q1]? = some (a1, .inl (q 0, N, .inl h))) {sp dp n : Int32} (hc : ac_ok sp dp n N) (hf : 1 ≤ rm.frames) (hlo : (st.map fun v => v.category).sum + (nativeFrameWords "java/lang/System" "arraycopy" 5 + 11) ≤ rm.locals) {ws' : va_W} (hw : ws.set q1 (a1, .inl (q 0, N, .inl (va_cpy f h sp.toNatClampNeg dp.toNatClampNeg n.toNatClampNeg))) = ws') (hd : decode cc pc = .ok (.invokestatic index, 3)) (k : jw Γ nL kc ks ws' lv st (pc + 3)) : jw Γ nL kc ks ws lv (.int n :: .int dp :: .ref a1 :: .int sp :: .ref a0 :: st) pc := by
  obtain ⟨p, l, e, R, s, m, args, below, meth, c, D, A, Q⟩ := Γ
  obtain ⟨hx, hb, hml, hown, hts, hK, hA, hR⟩ := g
  intro H locs ls hP hD hS hl
  subst hw
  subst hR
  exact va_copyi hx hb (hml.trans hl.1.symm) hown (hts _ L) (hts _ ac_n) (hts _ ac_s) (hts _ ac_i) hK hP hD hS q0 q1 0 0 ha0 ha1 rfl rfl rfl hc.1 hc.2.1 hc.2.2.1 hc.2.2.2.1 hc.2.2.2.2 (fun _ _ => rfl) hf hlo hd (fun H1 locs1 hP hD hS => k H1 locs1 ls hP hD hS hl)
theorem j_copyl (g : gd Γ cc own nL rm q) {index : Nat} (L : Cond.methodLink own index arraycopyName ∈ gt) (q0 q1 : Nat) {a0 a1 N : Nat} {f h : Nat → Int64} (ha0 : ws[q0]? = some (a0, .inl (q 1, N, .inr (.inl f)))) (ha1 : ws[q1]? = some (a1, .inl (q 1, N, .inr (.inl h)))) {sp dp n : Int32} (hc : ac_ok sp dp n N) (hf : 1 ≤ rm.frames) (hlo : (st.map fun v => v.category).sum + (nativeFrameWords "java/lang/System" "arraycopy" 5 + 11) ≤ rm.locals) {ws' : va_W} (hw : ws.set q1 (a1, .inl (q 1, N, .inr (.inl (va_cpy f h sp.toNatClampNeg dp.toNatClampNeg n.toNatClampNeg)))) = ws') (hd : decode cc pc = .ok (.invokestatic index, 3)) (k : jw Γ nL kc ks ws' lv st (pc + 3)) : jw Γ nL kc ks ws lv (.int n :: .int dp :: .ref a1 :: .int sp :: .ref a0 :: st) pc := by
  obtain ⟨p, l, e, R, s, m, args, below, meth, c, D, A, Q⟩ := Γ
  obtain ⟨hx, hb, hml, hown, hts, hK, hA, hR⟩ := g
  intro H locs ls hP hD hS hl
  subst hw
  subst hR
  exact va_copyl hx hb (hml.trans hl.1.symm) hown (hts _ L) (hts _ ac_n) (hts _ ac_s) (hts _ ac_i) hK hP hD hS q0 q1 1 1 ha0 ha1 rfl rfl rfl hc.1 hc.2.1 hc.2.2.1 hc.2.2.2.1 hc.2.2.2.2 (fun _ _ => rfl) hf hlo hd (fun H1 locs1 hP hD hS => k H1 locs1 ls hP hD hS hl)
end JM
theorem ls_same {α : Type} {l : List α} {k : Nat} {x : α} (h : l[k]? = some x) : l.set k x = l := by
  apply List.ext_getElem?
  intro i
  rw [List.getElem?_set]
  by_cases hi : k = i
  · subst hi
    have hlt := (List.getElem?_eq_some_iff.mp h).1
    simp [hlt]
    exact (List.getElem?_eq_some_iff.mp h).2.symm
  · simp [hi]
theorem ls_get {α : Type} {l : List α} {k : Nat} {x y : α} (h : l[k]? = some x) : (l.set k y)[k]? = some y := List.getElem?_set_self (List.getElem?_eq_some_iff.mp h).1
def fillI (f : Nat → Int32) (n : Nat) (v : Int32) : Nat → Int32 := fun i => if i < n then v else f i
def fillL (f : Nat → Int64) (n : Nat) (v : Int64) : Nat → Int64 := fun i => if i < n then v else f i
theorem fillI_0 {f : Nat → Int32} {v : Int32} : fillI f 0 v = f := by funext i; simp [fillI]
theorem fillL_0 {f : Nat → Int64} {v : Int64} : fillL f 0 v = f := by funext i; simp [fillL]
theorem fillI_s {f : Nat → Int32} {k : Nat} {v : Int32} : upd (fillI f k v) k v = fillI f (k + 1) v := by
  funext i
  unfold upd fillI
  by_cases h : i = k
  · simp [h]
  · by_cases h2 : i < k
    · simp [h, h2, Nat.lt_succ_of_lt h2]
    · simp [h, h2, show ¬ i < k + 1 by omega]
theorem fillL_s {f : Nat → Int64} {k : Nat} {v : Int64} : vp_updL (fillL f k v) k v = fillL f (k + 1) v := by
  funext i
  unfold vp_updL fillL
  by_cases h : i = k
  · simp [h]
  · by_cases h2 : i < k
    · simp [h, h2, Nat.lt_succ_of_lt h2]
    · simp [h, h2, show ¬ i < k + 1 by omega]

theorem dJ7_fill_53178_0 : decode cJ7_fill_53178 0 = .ok (.iconst 0, 1) := by decide +kernel
theorem dJ7_fill_53178_1 : decode cJ7_fill_53178 1 = .ok (.istore_n 2, 1) := by decide +kernel
theorem dJ7_fill_53178_2 : decode cJ7_fill_53178 2 = .ok (.aload_n 0, 1) := by decide +kernel
theorem dJ7_fill_53178_3 : decode cJ7_fill_53178 3 = .ok (.arraylength, 1) := by decide +kernel
theorem dJ7_fill_53178_4 : decode cJ7_fill_53178 4 = .ok (.istore_n 3, 1) := by decide +kernel
theorem dJ7_fill_53178_5 : decode cJ7_fill_53178 5 = .ok (.iload_n 2, 1) := by decide +kernel
theorem dJ7_fill_53178_6 : decode cJ7_fill_53178 6 = .ok (.iload_n 3, 1) := by decide +kernel
theorem dJ7_fill_53178_7 : decode cJ7_fill_53178 7 = .ok (.if_icmp .ge 13, 3) := by decide +kernel
theorem dJ7_fill_53178_10 : decode cJ7_fill_53178 10 = .ok (.aload_n 0, 1) := by decide +kernel
theorem dJ7_fill_53178_11 : decode cJ7_fill_53178 11 = .ok (.iload_n 2, 1) := by decide +kernel
theorem dJ7_fill_53178_12 : decode cJ7_fill_53178 12 = .ok (.iload_n 1, 1) := by decide +kernel
theorem dJ7_fill_53178_13 : decode cJ7_fill_53178 13 = .ok (.iastore, 1) := by decide +kernel
theorem dJ7_fill_53178_14 : decode cJ7_fill_53178 14 = .ok (.iinc 2 1, 3) := by decide +kernel
theorem dJ7_fill_53178_17 : decode cJ7_fill_53178 17 = .ok (.goto (-12), 3) := by decide +kernel
theorem dJ7_fill_53178_20 : decode cJ7_fill_53178 20 = .ok (.return_, 1) := by decide +kernel
theorem dJ7_fill_d0a16_0 : decode cJ7_fill_d0a16 0 = .ok (.iconst 0, 1) := by decide +kernel
theorem dJ7_fill_d0a16_1 : decode cJ7_fill_d0a16 1 = .ok (.istore_n 3, 1) := by decide +kernel
theorem dJ7_fill_d0a16_2 : decode cJ7_fill_d0a16 2 = .ok (.aload_n 0, 1) := by decide +kernel
theorem dJ7_fill_d0a16_3 : decode cJ7_fill_d0a16 3 = .ok (.arraylength, 1) := by decide +kernel
theorem dJ7_fill_d0a16_4 : decode cJ7_fill_d0a16 4 = .ok (.istore 4, 2) := by decide +kernel
theorem dJ7_fill_d0a16_6 : decode cJ7_fill_d0a16 6 = .ok (.iload_n 3, 1) := by decide +kernel
theorem dJ7_fill_d0a16_7 : decode cJ7_fill_d0a16 7 = .ok (.iload 4, 2) := by decide +kernel
theorem dJ7_fill_d0a16_9 : decode cJ7_fill_d0a16 9 = .ok (.if_icmp .ge 13, 3) := by decide +kernel
theorem dJ7_fill_d0a16_12 : decode cJ7_fill_d0a16 12 = .ok (.aload_n 0, 1) := by decide +kernel
theorem dJ7_fill_d0a16_13 : decode cJ7_fill_d0a16 13 = .ok (.iload_n 3, 1) := by decide +kernel
theorem dJ7_fill_d0a16_14 : decode cJ7_fill_d0a16 14 = .ok (.lload_n 1, 1) := by decide +kernel
theorem dJ7_fill_d0a16_15 : decode cJ7_fill_d0a16 15 = .ok (.lastore, 1) := by decide +kernel
theorem dJ7_fill_d0a16_16 : decode cJ7_fill_d0a16 16 = .ok (.iinc 3 1, 3) := by decide +kernel
theorem dJ7_fill_d0a16_19 : decode cJ7_fill_d0a16 19 = .ok (.goto (-13), 3) := by decide +kernel
theorem dJ7_fill_d0a16_22 : decode cJ7_fill_d0a16 22 = .ok (.return_, 1) := by decide +kernel
set_option maxHeartbeats 1000000 in
theorem fl_loop_fill_53178 {Γ : GT} {q : Nat → ClassId} {ws : va_W} {p0 x N : Nat} {f : Nat → Int32} {v : Int32} (g : gd Γ cJ7_fill_53178 RJ7 4 (rmz 0 0) q) (he : ws[p0]? = some (x, .inl (q 0, N, .inl (f)))) (hN : N < 2147483648) (hret : ∀ lv, jw Γ 4 0 0 (ws.set p0 (x, .inl (q 0, N, .inl (fillI f N v)))) lv [] 20) :
    ∀ m k : Nat, k + m = N → jw Γ 4 0 0 (ws.set p0 (x, .inl (q 0, N, .inl (fillI f k v)))) [(2, .int (nI k)), (3, .int (nI N)), (0, .ref x), (1, .int v)] [] 5 := by
  intro m
  induction m with
  | zero =>
    intro k hk
    have e : k = N := by omega
    subst e
    refine j_iload_n g 0 rfl dJ7_fill_53178_5 ?_
    refine j_iload_n g 1 rfl dJ7_fill_53178_6 ?_
    refine j_icmp_ge g dJ7_fill_53178_7 (tgt := 20) (by decide) (fun _ => ?_) (fun c => absurd (nI_le (Nat.le_refl _) hN) c)
    exact hret _
  | succ m ih =>
    intro k hk
    have hlt : k < N := by omega
    refine j_iload_n g 0 rfl dJ7_fill_53178_5 ?_
    refine j_iload_n g 1 rfl dJ7_fill_53178_6 ?_
    refine j_icmp_ge g dJ7_fill_53178_7 (tgt := 20) (by decide) (fun c => absurd c (nI_ge hlt hN)) (fun _ => ?_)
    refine j_aload_n g 2 rfl dJ7_fill_53178_10 ?_
    refine j_iload_n g 0 rfl dJ7_fill_53178_11 ?_
    refine j_iload_n g 3 rfl dJ7_fill_53178_12 ?_
    refine j_iast g p0 (ls_get he) (vp_in_nI hlt hN) (ws' := ws.set p0 (x, .inl (q 0, N, .inl (fillI f (k + 1) v)))) (by rw [List.set_set, nI_clamp (Nat.lt_trans hlt hN), fillI_s]) dJ7_fill_53178_13 ?_
    refine j_iinc g 0 (n := 1) (v := nI (k + 1)) (lv' := [(2, .int (nI (k + 1))), (3, .int (nI N)), (0, .ref x), (1, .int v)]) rfl (nI_1 k) (by decide) rfl dJ7_fill_53178_14 ?_
    refine j_goto g dJ7_fill_53178_17 (tgt := 5) (by decide) ?_
    exact ih (k + 1) (by omega)
set_option maxHeartbeats 1000000 in
theorem c_J7_fill_53178 {q : Nat → ClassId} {ws : va_W} {p0 x N : Nat} {f : Nat → Int32} {v : Int32} (he : ws[p0]? = some (x, .inl (q 0, N, .inl (f)))) (hN : N < 2147483648) : ctV q yJ7_fill_53178 cJ7_fill_53178 4 0 0 [.ref x, .int v] ws (fun (_ : Unit) => ws.set p0 (x, .inl (q 0, N, .inl (fillI f N v)))) (fun _ => True) := by
  refine met_V (by decide) (Nat.le_of_ble_eq_true rfl) (fun Γ g hret => ?_)
  show jw Γ 4 0 0 ws [(0, .ref x), (1, .int v)] [] 0
  refine j_iconst g (v := 0) (by decide) dJ7_fill_53178_0 ?_
  refine j_istore_n g (lv' := [(2, .int 0), (0, .ref x), (1, .int v)]) (by decide) rfl dJ7_fill_53178_1 ?_
  refine j_aload_n g 1 rfl dJ7_fill_53178_2 ?_
  refine j_alen g p0 0 he rfl (v := nI N) rfl dJ7_fill_53178_3 ?_
  refine j_istore_n g (lv' := [(3, .int (nI N)), (2, .int 0), (0, .ref x), (1, .int v)]) (by decide) rfl dJ7_fill_53178_4 ?_
  refine j_sub [1, 0, 2, 3] rfl ?_
  have hl := fl_loop_fill_53178 (f := f) (v := v) g he hN (fun lv => hret lv 20 () dJ7_fill_53178_20 trivial) N 0 (by omega)
  rw [fillI_0, ls_same he, nI_0] at hl
  exact hl
theorem j_fillI {Γ : GT} {cc : ByteArray} {own : String} {nL kc ks : Nat} {rm : Room} {q : Nat → ClassId} {ws : va_W} {lv : List (Nat × Value)} {pc : Nat} (g : gd Γ cc own nL rm q) {index : Nat} (L : clS own index yJ7_fill_53178 cJ7_fill_53178 4 none 2) (p0 : Nat) {x N : Nat} {f : Nat → Int32} {v : Int32} (he : ws[p0]? = some (x, .inl (q 0, N, .inl (f)))) (hfr : 0 + 1 ≤ rm.frames) (hlo : 8 + (4 + 11) + 0 ≤ rm.locals) {ws' : va_W} (hw : ws.set p0 (x, .inl (q 0, N, .inl (fillI f N v))) = ws') (hN : N < 2147483648) (hd : decode cc pc = .ok (.invokestatic index, 3)) (k : jw Γ nL kc ks ws' lv [] (pc + 3)) (hcells : kc + 0 ≤ rm.cells := by exact Nat.zero_le _) (hslots : ks + 0 ≤ rm.slots := by exact Nat.zero_le _) : jw Γ nL kc ks ws lv [.int v, .ref x] pc := by
  subst hw
  exact j_callSV g (As := [.ref x, .int v]) (st := []) (c_J7_fill_53178 he hN) L hfr hlo hcells hslots rfl rfl (Nat.le_of_ble_eq_true rfl) hd (fun _ _ => k)

set_option maxHeartbeats 1000000 in
theorem fl_loop_fill_d0a16 {Γ : GT} {q : Nat → ClassId} {ws : va_W} {p0 x N : Nat} {f : Nat → Int64} {v : Int64} (g : gd Γ cJ7_fill_d0a16 RJ7 5 (rmz 0 0) q) (he : ws[p0]? = some (x, .inl (q 1, N, .inr (.inl (f))))) (hN : N < 2147483648) (hret : ∀ lv, jw Γ 5 0 0 (ws.set p0 (x, .inl (q 1, N, .inr (.inl (fillL f N v))))) lv [] 22) :
    ∀ m k : Nat, k + m = N → jw Γ 5 0 0 (ws.set p0 (x, .inl (q 1, N, .inr (.inl (fillL f k v))))) [(3, .int (nI k)), (4, .int (nI N)), (0, .ref x), (1, .long v)] [] 6 := by
  intro m
  induction m with
  | zero =>
    intro k hk
    have e : k = N := by omega
    subst e
    refine j_iload_n g 0 rfl dJ7_fill_d0a16_6 ?_
    refine j_iload g 1 rfl dJ7_fill_d0a16_7 ?_
    refine j_icmp_ge g dJ7_fill_d0a16_9 (tgt := 22) (by decide) (fun _ => ?_) (fun c => absurd (nI_le (Nat.le_refl _) hN) c)
    exact hret _
  | succ m ih =>
    intro k hk
    have hlt : k < N := by omega
    refine j_iload_n g 0 rfl dJ7_fill_d0a16_6 ?_
    refine j_iload g 1 rfl dJ7_fill_d0a16_7 ?_
    refine j_icmp_ge g dJ7_fill_d0a16_9 (tgt := 22) (by decide) (fun c => absurd c (nI_ge hlt hN)) (fun _ => ?_)
    refine j_aload_n g 2 rfl dJ7_fill_d0a16_12 ?_
    refine j_iload_n g 0 rfl dJ7_fill_d0a16_13 ?_
    refine j_lload_n g 3 rfl dJ7_fill_d0a16_14 ?_
    refine j_last g p0 (ls_get he) (vp_in_nI hlt hN) (ws' := ws.set p0 (x, .inl (q 1, N, .inr (.inl (fillL f (k + 1) v))))) (by rw [List.set_set, nI_clamp (Nat.lt_trans hlt hN), fillL_s]) dJ7_fill_d0a16_15 ?_
    refine j_iinc g 0 (n := 1) (v := nI (k + 1)) (lv' := [(3, .int (nI (k + 1))), (4, .int (nI N)), (0, .ref x), (1, .long v)]) rfl (nI_1 k) (by decide) rfl dJ7_fill_d0a16_16 ?_
    refine j_goto g dJ7_fill_d0a16_19 (tgt := 6) (by decide) ?_
    exact ih (k + 1) (by omega)
set_option maxHeartbeats 1000000 in
theorem c_J7_fill_d0a16 {q : Nat → ClassId} {ws : va_W} {p0 x N : Nat} {f : Nat → Int64} {v : Int64} (he : ws[p0]? = some (x, .inl (q 1, N, .inr (.inl (f))))) (hN : N < 2147483648) : ctV q yJ7_fill_d0a16 cJ7_fill_d0a16 5 0 0 [.ref x, .long v] ws (fun (_ : Unit) => ws.set p0 (x, .inl (q 1, N, .inr (.inl (fillL f N v))))) (fun _ => True) := by
  refine met_V (by decide) (Nat.le_of_ble_eq_true rfl) (fun Γ g hret => ?_)
  show jw Γ 5 0 0 ws [(0, .ref x), (1, .long v)] [] 0
  refine j_iconst g (v := 0) (by decide) dJ7_fill_d0a16_0 ?_
  refine j_istore_n g (lv' := [(3, .int 0), (0, .ref x), (1, .long v)]) (by decide) rfl dJ7_fill_d0a16_1 ?_
  refine j_aload_n g 1 rfl dJ7_fill_d0a16_2 ?_
  refine j_alen g p0 1 he rfl (v := nI N) rfl dJ7_fill_d0a16_3 ?_
  refine j_istore g (lv' := [(4, .int (nI N)), (3, .int 0), (0, .ref x), (1, .long v)]) (by decide) rfl dJ7_fill_d0a16_4 ?_
  refine j_sub [1, 0, 2, 3] rfl ?_
  have hl := fl_loop_fill_d0a16 (f := f) (v := v) g he hN (fun lv => hret lv 22 () dJ7_fill_d0a16_22 trivial) N 0 (by omega)
  rw [fillL_0, ls_same he, nI_0] at hl
  exact hl
theorem j_fillL {Γ : GT} {cc : ByteArray} {own : String} {nL kc ks : Nat} {rm : Room} {q : Nat → ClassId} {ws : va_W} {lv : List (Nat × Value)} {pc : Nat} (g : gd Γ cc own nL rm q) {index : Nat} (L : clS own index yJ7_fill_d0a16 cJ7_fill_d0a16 5 none 2) (p0 : Nat) {x N : Nat} {f : Nat → Int64} {v : Int64} (he : ws[p0]? = some (x, .inl (q 1, N, .inr (.inl (f))))) (hfr : 0 + 1 ≤ rm.frames) (hlo : 8 + (5 + 11) + 0 ≤ rm.locals) {ws' : va_W} (hw : ws.set p0 (x, .inl (q 1, N, .inr (.inl (fillL f N v)))) = ws') (hN : N < 2147483648) (hd : decode cc pc = .ok (.invokestatic index, 3)) (k : jw Γ nL kc ks ws' lv [] (pc + 3)) (hcells : kc + 0 ≤ rm.cells := by exact Nat.zero_le _) (hslots : ks + 0 ≤ rm.slots := by exact Nat.zero_le _) : jw Γ nL kc ks ws lv [.long v, .ref x] pc := by
  subst hw
  exact j_callSV g (As := [.ref x, .long v]) (st := []) (c_J7_fill_d0a16 he hN) L hfr hlo hcells hslots rfl rfl (Nat.le_of_ble_eq_true rfl) hd (fun _ _ => k)
end
section
set_option maxRecDepth 20000 in
def wp_X0_free (i0 : Nat) (kr : Nat → Int32) (kt : Nat → Int32) (K : Int32 → Prop) : Prop :=
  K ((kr i0) - (kt i0))
theorem dX0_free_0 : decode cX0_free 0 = .ok (.aload_n 0, 1) := by decide +kernel
theorem dX0_free_1 : decode cX0_free 1 = .ok (.getfield 19, 3) := by decide +kernel
theorem dX0_free_4 : decode cX0_free 4 = .ok (.aload_n 0, 1) := by decide +kernel
theorem dX0_free_5 : decode cX0_free 5 = .ok (.getfield 22, 3) := by decide +kernel
theorem dX0_free_8 : decode cX0_free 8 = .ok (.isub, 1) := by decide +kernel
theorem dX0_free_9 : decode cX0_free 9 = .ok (.ireturn, 1) := by decide +kernel
set_option maxRecDepth 20000 in
set_option maxHeartbeats 4000000 in
theorem c_X0_free {a : Nat → Nat} {q : Nat → ClassId} {i0 : Nat} (hi0 : i0 < 6) {sz : Int32} {pr : Nat → Int32} {pm : Nat → Nat} {kv : Nat → Int32} {kn : Nat → Int32} {kr : Nat → Int32} {kt : Nat → Int32} {kb : Nat → Int32} {ks : Nat → Int32} {kj : Nat → Int32} {kw : Nat → Int32} {kg : Nat → Int32} {wd : Nat → Nat → Int64} {fw : Nat → Nat → Int32} {ad : Nat → Int32} {bk : Nat → Int32} {md : Int32} {cr : Int32} {ow : Int32} {hd : Int32} {K : Int32 → Prop} (h : wp_X0_free i0 kr kt K) : ctI_0 q yX0_free cX0_free 1 0 0 [.ref (a (11 + i0))] (cgW a q sz pr pm kv kn kr kt kb ks kj kw kg wd fw ad bk md cr ow hd) (cgW a q sz pr pm kv kn kr kt kb ks kj kw kg wd fw ad bk md cr ow hd) K := by
  refine met_I_0 (by decide) (Nat.le_of_ble_eq_true rfl) (fun Γ g hret => ?_)
  unfold wp_X0_free at h
  show jw Γ 1 0 0 (cgW a q sz pr pm kv kn kr kt kb ks kj kw kg wd fw ad bk md cr ow hd) [(0, .ref (a (11 + i0)))] [] 0
  refine j_aload_n g 0 rfl dX0_free_0 ?_
  refine j_get g fl_X0_19 (11 + i0) (cg_K hi0) rfl dX0_free_1 ?_
  refine j_aload_n g 0 rfl dX0_free_4 ?_
  refine j_get g fl_X0_22 (11 + i0) (cg_K hi0) rfl dX0_free_5 ?_
  refine j_isub g dX0_free_8 ?_
  exact hret.go dX0_free_9 h

set_option maxRecDepth 20000 in
def wp_X0_gives (i0 : Nat) (kn : Nat → Int32) (ks : Nat → Int32) (K : Int32 → Prop) : Prop :=
  ((¬ kn i0 = 0 → K (0 : Int32)) ∧ (kn i0 = 0 → ((¬ ks i0 = 0 → K (0 : Int32)) ∧ (ks i0 = 0 → K (1 : Int32)))))
theorem dX0_gives_0 : decode cX0_gives 0 = .ok (.aload_n 0, 1) := by decide +kernel
theorem dX0_gives_1 : decode cX0_gives 1 = .ok (.getfield 15, 3) := by decide +kernel
theorem dX0_gives_4 : decode cX0_gives 4 = .ok (.ifCond .ne 14, 3) := by decide +kernel
theorem dX0_gives_7 : decode cX0_gives 7 = .ok (.aload_n 0, 1) := by decide +kernel
theorem dX0_gives_8 : decode cX0_gives 8 = .ok (.getfield 28, 3) := by decide +kernel
theorem dX0_gives_11 : decode cX0_gives 11 = .ok (.ifCond .ne 7, 3) := by decide +kernel
theorem dX0_gives_14 : decode cX0_gives 14 = .ok (.iconst 1, 1) := by decide +kernel
theorem dX0_gives_15 : decode cX0_gives 15 = .ok (.goto 4, 3) := by decide +kernel
theorem dX0_gives_18 : decode cX0_gives 18 = .ok (.iconst 0, 1) := by decide +kernel
theorem dX0_gives_19 : decode cX0_gives 19 = .ok (.ireturn, 1) := by decide +kernel
set_option maxRecDepth 20000 in
set_option maxHeartbeats 4000000 in
theorem c_X0_gives {a : Nat → Nat} {q : Nat → ClassId} {i0 : Nat} (hi0 : i0 < 6) {sz : Int32} {pr : Nat → Int32} {pm : Nat → Nat} {kv : Nat → Int32} {kn : Nat → Int32} {kr : Nat → Int32} {kt : Nat → Int32} {kb : Nat → Int32} {ks : Nat → Int32} {kj : Nat → Int32} {kw : Nat → Int32} {kg : Nat → Int32} {wd : Nat → Nat → Int64} {fw : Nat → Nat → Int32} {ad : Nat → Int32} {bk : Nat → Int32} {md : Int32} {cr : Int32} {ow : Int32} {hd : Int32} {K : Int32 → Prop} (h : wp_X0_gives i0 kn ks K) : ctZ_0 q yX0_gives cX0_gives 1 0 0 [.ref (a (11 + i0))] (cgW a q sz pr pm kv kn kr kt kb ks kj kw kg wd fw ad bk md cr ow hd) (cgW a q sz pr pm kv kn kr kt kb ks kj kw kg wd fw ad bk md cr ow hd) K := by
  refine met_Z_0 (by decide) (Nat.le_of_ble_eq_true rfl) (fun Γ g hret => ?_)
  unfold wp_X0_gives at h
  show jw Γ 1 0 0 (cgW a q sz pr pm kv kn kr kt kb ks kj kw kg wd fw ad bk md cr ow hd) [(0, .ref (a (11 + i0)))] [] 0
  refine j_aload_n g 0 rfl dX0_gives_0 ?_
  refine j_get g fl_X0_15 (11 + i0) (cg_K hi0) rfl dX0_gives_1 ?_
  refine j_if_ne g dX0_gives_4 (tgt := 18) (by decide) (fun c1 => ?_) (fun c1 => ?_)
  · replace h := h.1 c1
    refine j_iconst g (v := 0) (by decide) dX0_gives_18 ?_
    exact hret.go dX0_gives_19 (Or.inl rfl) h
  replace h := h.2 c1
  refine j_aload_n g 0 rfl dX0_gives_7 ?_
  refine j_get g fl_X0_28 (11 + i0) (cg_K hi0) rfl dX0_gives_8 ?_
  refine j_if_ne g dX0_gives_11 (tgt := 18) (by decide) (fun c2 => ?_) (fun c2 => ?_)
  · replace h := h.1 c2
    refine j_iconst g (v := 0) (by decide) dX0_gives_18 ?_
    exact hret.go dX0_gives_19 (Or.inl rfl) h
  replace h := h.2 c2
  refine j_iconst g (v := 1) (by decide) dX0_gives_14 ?_
  refine j_goto g dX0_gives_15 (tgt := 19) (by decide) ?_
  exact hret.go dX0_gives_19 (Or.inr rfl) h

set_option maxRecDepth 20000 in
def wp_X0_spare (i0 : Nat) (x1 : Int32) (kn : Nat → Int32) (kt : Nat → Int32) (ks : Nat → Int32) (K : Int32 → Prop) : Prop :=
  wp_X0_gives i0 kn ks (fun (r_1 : Int32)  => ((r_1 = 0 → K (0 : Int32)) ∧ (¬ r_1 = 0 → K (if (0 : Int32) < (kt i0) - x1 then (kt i0) - x1 else (0 : Int32)))))
theorem dX0_spare_0 : decode cX0_spare 0 = .ok (.aload_n 0, 1) := by decide +kernel
theorem dX0_spare_1 : decode cX0_spare 1 = .ok (.invokevirtual 40, 3) := by decide +kernel
theorem dX0_spare_4 : decode cX0_spare 4 = .ok (.ifCond .eq 16, 3) := by decide +kernel
theorem dX0_spare_7 : decode cX0_spare 7 = .ok (.iconst 0, 1) := by decide +kernel
theorem dX0_spare_8 : decode cX0_spare 8 = .ok (.aload_n 0, 1) := by decide +kernel
theorem dX0_spare_9 : decode cX0_spare 9 = .ok (.getfield 22, 3) := by decide +kernel
theorem dX0_spare_12 : decode cX0_spare 12 = .ok (.iload_n 1, 1) := by decide +kernel
theorem dX0_spare_13 : decode cX0_spare 13 = .ok (.isub, 1) := by decide +kernel
theorem dX0_spare_14 : decode cX0_spare 14 = .ok (.invokestatic 44, 3) := by decide +kernel
theorem dX0_spare_17 : decode cX0_spare 17 = .ok (.goto 4, 3) := by decide +kernel
theorem dX0_spare_20 : decode cX0_spare 20 = .ok (.iconst 0, 1) := by decide +kernel
theorem dX0_spare_21 : decode cX0_spare 21 = .ok (.ireturn, 1) := by decide +kernel
set_option maxRecDepth 20000 in
set_option maxHeartbeats 4000000 in
theorem c_X0_spare {a : Nat → Nat} {q : Nat → ClassId} {i0 : Nat} {x1 : Int32} (hi0 : i0 < 6) {sz : Int32} {pr : Nat → Int32} {pm : Nat → Nat} {kv : Nat → Int32} {kn : Nat → Int32} {kr : Nat → Int32} {kt : Nat → Int32} {kb : Nat → Int32} {ks : Nat → Int32} {kj : Nat → Int32} {kw : Nat → Int32} {kg : Nat → Int32} {wd : Nat → Nat → Int64} {fw : Nat → Nat → Int32} {ad : Nat → Int32} {bk : Nat → Int32} {md : Int32} {cr : Int32} {ow : Int32} {hd : Int32} {K : Int32 → Prop} (h : wp_X0_spare i0 x1 kn kt ks K) : ctI_0 q yX0_spare cX0_spare 2 1 21 [.ref (a (11 + i0)), .int x1] (cgW a q sz pr pm kv kn kr kt kb ks kj kw kg wd fw ad bk md cr ow hd) (cgW a q sz pr pm kv kn kr kt kb ks kj kw kg wd fw ad bk md cr ow hd) K := by
  refine met_I_0 (by decide) (Nat.le_of_ble_eq_true rfl) (fun Γ g hret => ?_)
  unfold wp_X0_spare at h
  show jw Γ 2 0 0 (cgW a q sz pr pm kv kn kr kt kb ks kj kw kg wd fw ad bk md cr ow hd) [(0, .ref (a (11 + i0))), (1, .int x1)] [] 0
  refine j_aload_n g 0 rfl dX0_spare_0 ?_
  refine j_callVZ_0 g (As := []) (st := []) (c_X0_gives hi0 h) cl_X0_40 (11 + i0) 0 (cg_K hi0) rfl rfl (Nat.le_of_ble_eq_true rfl) (Nat.le_of_ble_eq_true rfl) (Nat.zero_le _) (Nat.zero_le _) rfl rfl (Nat.le_of_ble_eq_true rfl) dX0_spare_1 (fun r_1  hz_1 h => ?_)
  refine j_if_eq g dX0_spare_4 (tgt := 20) (by decide) (fun c2 => ?_) (fun c2 => ?_)
  · replace h := h.1 c2
    refine j_iconst g (v := 0) (by decide) dX0_spare_20 ?_
    exact hret.go dX0_spare_21 h
  replace h := h.2 c2
  refine j_iconst g (v := 0) (by decide) dX0_spare_7 ?_
  refine j_aload_n g 0 rfl dX0_spare_8 ?_
  refine j_get g fl_X0_22 (11 + i0) (cg_K hi0) rfl dX0_spare_9 ?_
  refine j_iload_n g 1 rfl dX0_spare_12 ?_
  refine j_isub g dX0_spare_13 ?_
  refine j_mmax g lm_X0_44 lm_max_s lm_i lm_max_c (Nat.le_of_ble_eq_true rfl) (Nat.le_of_ble_eq_true rfl) (Nat.zero_le _) (Nat.zero_le _) dX0_spare_14 ?_
  refine j_goto g dX0_spare_17 (tgt := 21) (by decide) ?_
  exact hret.go dX0_spare_21 h

set_option maxRecDepth 20000 in
def wp_X0_release (i0 : Nat) (kt : Nat → Int32) (ks : Nat → Int32) (kj : Nat → Int32) (kg : Nat → Int32) (K : Int32 → (Nat → Int32) → (Nat → Int32) → (Nat → Int32) → (Nat → Int32) → Prop) : Prop :=
  ((¬ kj i0 = 0 → jn (fun (Z2 : (Nat → Int32) → Prop) => ((kj i0 ≤ 0 → Z2 kj) ∧ (¬ kj i0 ≤ 0 → Z2 (upd kj i0 ((kj i0) - (1 : Int32)))))) (fun (kj_2 : Nat → Int32) => K (1 : Int32) (upd kt i0 ((kt i0) - (1 : Int32))) ks kj_2 (upd kg i0 ((kg i0) + (1 : Int32))))) ∧ (kj i0 = 0 → K (0 : Int32) kt (upd ks i0 (1 : Int32)) (upd kj i0 (-1 : Int32)) kg))
theorem dX0_release_0 : decode cX0_release 0 = .ok (.aload_n 0, 1) := by decide +kernel
theorem dX0_release_1 : decode cX0_release 1 = .ok (.getfield 31, 3) := by decide +kernel
theorem dX0_release_4 : decode cX0_release 4 = .ok (.ifCond .ne 15, 3) := by decide +kernel
theorem dX0_release_7 : decode cX0_release 7 = .ok (.aload_n 0, 1) := by decide +kernel
theorem dX0_release_8 : decode cX0_release 8 = .ok (.iconst 1, 1) := by decide +kernel
theorem dX0_release_9 : decode cX0_release 9 = .ok (.putfield 28, 3) := by decide +kernel
theorem dX0_release_12 : decode cX0_release 12 = .ok (.aload_n 0, 1) := by decide +kernel
theorem dX0_release_13 : decode cX0_release 13 = .ok (.iconst (-1), 1) := by decide +kernel
theorem dX0_release_14 : decode cX0_release 14 = .ok (.putfield 31, 3) := by decide +kernel
theorem dX0_release_17 : decode cX0_release 17 = .ok (.iconst 0, 1) := by decide +kernel
theorem dX0_release_18 : decode cX0_release 18 = .ok (.ireturn, 1) := by decide +kernel
theorem dX0_release_19 : decode cX0_release 19 = .ok (.aload_n 0, 1) := by decide +kernel
theorem dX0_release_20 : decode cX0_release 20 = .ok (.getfield 31, 3) := by decide +kernel
theorem dX0_release_23 : decode cX0_release 23 = .ok (.ifCond .le 13, 3) := by decide +kernel
theorem dX0_release_26 : decode cX0_release 26 = .ok (.aload_n 0, 1) := by decide +kernel
theorem dX0_release_27 : decode cX0_release 27 = .ok (.dup, 1) := by decide +kernel
theorem dX0_release_28 : decode cX0_release 28 = .ok (.getfield 31, 3) := by decide +kernel
theorem dX0_release_31 : decode cX0_release 31 = .ok (.iconst 1, 1) := by decide +kernel
theorem dX0_release_32 : decode cX0_release 32 = .ok (.isub, 1) := by decide +kernel
theorem dX0_release_33 : decode cX0_release 33 = .ok (.putfield 31, 3) := by decide +kernel
theorem dX0_release_36 : decode cX0_release 36 = .ok (.aload_n 0, 1) := by decide +kernel
theorem dX0_release_37 : decode cX0_release 37 = .ok (.dup, 1) := by decide +kernel
theorem dX0_release_38 : decode cX0_release 38 = .ok (.getfield 22, 3) := by decide +kernel
theorem dX0_release_41 : decode cX0_release 41 = .ok (.iconst 1, 1) := by decide +kernel
theorem dX0_release_42 : decode cX0_release 42 = .ok (.isub, 1) := by decide +kernel
theorem dX0_release_43 : decode cX0_release 43 = .ok (.putfield 22, 3) := by decide +kernel
theorem dX0_release_46 : decode cX0_release 46 = .ok (.aload_n 0, 1) := by decide +kernel
theorem dX0_release_47 : decode cX0_release 47 = .ok (.dup, 1) := by decide +kernel
theorem dX0_release_48 : decode cX0_release 48 = .ok (.getfield 37, 3) := by decide +kernel
theorem dX0_release_51 : decode cX0_release 51 = .ok (.iconst 1, 1) := by decide +kernel
theorem dX0_release_52 : decode cX0_release 52 = .ok (.iadd, 1) := by decide +kernel
theorem dX0_release_53 : decode cX0_release 53 = .ok (.putfield 37, 3) := by decide +kernel
theorem dX0_release_56 : decode cX0_release 56 = .ok (.iconst 1, 1) := by decide +kernel
theorem dX0_release_57 : decode cX0_release 57 = .ok (.ireturn, 1) := by decide +kernel
set_option maxRecDepth 20000 in
set_option maxHeartbeats 4000000 in
theorem c_X0_release {a : Nat → Nat} {q : Nat → ClassId} {i0 : Nat} (hi0 : i0 < 6) {sz : Int32} {pr : Nat → Int32} {pm : Nat → Nat} {kv : Nat → Int32} {kn : Nat → Int32} {kr : Nat → Int32} {kt : Nat → Int32} {kb : Nat → Int32} {ks : Nat → Int32} {kj : Nat → Int32} {kw : Nat → Int32} {kg : Nat → Int32} {wd : Nat → Nat → Int64} {fw : Nat → Nat → Int32} {ad : Nat → Int32} {bk : Nat → Int32} {md : Int32} {cr : Int32} {ow : Int32} {hd : Int32} {K : Int32 → (Nat → Int32) → (Nat → Int32) → (Nat → Int32) → (Nat → Int32) → Prop} (h : wp_X0_release i0 kt ks kj kg K) : ctZ_4 q yX0_release cX0_release 1 0 0 [.ref (a (11 + i0))] (cgW a q sz pr pm kv kn kr kt kb ks kj kw kg wd fw ad bk md cr ow hd) (fun (kt : Nat → Int32) (ks : Nat → Int32) (kj : Nat → Int32) (kg : Nat → Int32) => (cgW a q sz pr pm kv kn kr kt kb ks kj kw kg wd fw ad bk md cr ow hd)) K := by
  refine met_Z_4 (by decide) (Nat.le_of_ble_eq_true rfl) (fun Γ g hret => ?_)
  unfold wp_X0_release at h
  show jw Γ 1 0 0 (cgW a q sz pr pm kv kn kr kt kb ks kj kw kg wd fw ad bk md cr ow hd) [(0, .ref (a (11 + i0)))] [] 0
  refine j_aload_n g 0 rfl dX0_release_0 ?_
  refine j_get g fl_X0_31 (11 + i0) (cg_K hi0) rfl dX0_release_1 ?_
  refine j_if_ne g dX0_release_4 (tgt := 19) (by decide) (fun c1 => ?_) (fun c1 => ?_)
  rotate_left
  · replace h := h.2 c1
    refine j_aload_n g 0 rfl dX0_release_7 ?_
    refine j_iconst g (v := 1) (by decide) dX0_release_8 ?_
    refine j_put g fl_X0_28 fp_X0_5 (11 + i0) (cg_K hi0) (nz_z (Or.inr rfl)) (nz_f (Or.inr rfl)) (Nat.le_of_ble_eq_true rfl) (ws' := (cgW a q sz pr pm kv kn kr kt kb (upd ks i0 (1 : Int32)) kj kw kg wd fw ad bk md cr ow hd)) (cg_s_ks hi0) dX0_release_9 ?_
    refine j_aload_n g 0 rfl dX0_release_12 ?_
    refine j_iconst g (v := -1) (by decide) dX0_release_13 ?_
    refine j_put g fl_X0_31 fp_X0_6 (11 + i0) (cg_K hi0) rfl rfl (Nat.le_of_ble_eq_true rfl) (ws' := (cgW a q sz pr pm kv kn kr kt kb (upd ks i0 (1 : Int32)) (upd kj i0 (-1 : Int32)) kw kg wd fw ad bk md cr ow hd)) (cg_s_kj hi0) dX0_release_14 ?_
    refine j_iconst g (v := 0) (by decide) dX0_release_17 ?_
    exact hret.go dX0_release_18 (Or.inl rfl) h
  replace h := h.1 c1
  refine j_aload_n g 0 rfl dX0_release_19 ?_
  refine j_get g fl_X0_31 (11 + i0) (cg_K hi0) rfl dX0_release_20 ?_
  refine jn_cut h (fun Z2 eZ2 h => ?_)
  have hZ2 : ∀ (kj_2 : Nat → Int32), Z2 kj_2 → jw Γ 1 0 0 (cgW a q sz pr pm kv kn kr kt kb ks kj_2 kw kg wd fw ad bk md cr ow hd) [(0, .ref (a (11 + i0)))] [] 36 := by
    intro kj_2 h
    rw [eZ2] at h
    refine j_aload_n g 0 rfl dX0_release_36 ?_
    refine j_dup g rfl dX0_release_37 ?_
    refine j_get g fl_X0_22 (11 + i0) (cg_K hi0) rfl dX0_release_38 ?_
    refine j_iconst g (v := 1) (by decide) dX0_release_41 ?_
    refine j_isub g dX0_release_42 ?_
    refine j_put g fl_X0_22 fp_X0_3 (11 + i0) (cg_K hi0) rfl rfl (Nat.le_of_ble_eq_true rfl) (ws' := (cgW a q sz pr pm kv kn kr (upd kt i0 ((kt i0) - (1 : Int32))) kb ks kj_2 kw kg wd fw ad bk md cr ow hd)) (cg_s_kt hi0) dX0_release_43 ?_
    refine j_aload_n g 0 rfl dX0_release_46 ?_
    refine j_dup g rfl dX0_release_47 ?_
    refine j_get g fl_X0_37 (11 + i0) (cg_K hi0) rfl dX0_release_48 ?_
    refine j_iconst g (v := 1) (by decide) dX0_release_51 ?_
    refine j_iadd g dX0_release_52 ?_
    refine j_put g fl_X0_37 fp_X0_8 (11 + i0) (cg_K hi0) rfl rfl (Nat.le_of_ble_eq_true rfl) (ws' := (cgW a q sz pr pm kv kn kr (upd kt i0 ((kt i0) - (1 : Int32))) kb ks kj_2 kw (upd kg i0 ((kg i0) + (1 : Int32))) wd fw ad bk md cr ow hd)) (cg_s_kg hi0) dX0_release_53 ?_
    refine j_iconst g (v := 1) (by decide) dX0_release_56 ?_
    exact hret.go dX0_release_57 (Or.inr rfl) h
  refine j_if_le g dX0_release_23 (tgt := 36) (by decide) (fun c3 => ?_) (fun c3 => ?_)
  · replace h := h.1 c3
    exact hZ2 kj h
  replace h := h.2 c3
  refine j_aload_n g 0 rfl dX0_release_26 ?_
  refine j_dup g rfl dX0_release_27 ?_
  refine j_get g fl_X0_31 (11 + i0) (cg_K hi0) rfl dX0_release_28 ?_
  refine j_iconst g (v := 1) (by decide) dX0_release_31 ?_
  refine j_isub g dX0_release_32 ?_
  refine j_put g fl_X0_31 fp_X0_6 (11 + i0) (cg_K hi0) rfl rfl (Nat.le_of_ble_eq_true rfl) (ws' := (cgW a q sz pr pm kv kn kr kt kb ks (upd kj i0 ((kj i0) - (1 : Int32))) kw kg wd fw ad bk md cr ow hd)) (cg_s_kj hi0) dX0_release_33 ?_
  exact hZ2 (upd kj i0 ((kj i0) - (1 : Int32))) h
end
section
set_option maxRecDepth 20000 in
def wp_X2_onlyZero (j0 : Nat) (wd : Nat → Nat → Int64) (K : (Nat → Nat → Int64) → Prop) : Prop :=
  (vp_in (0 : Int32) 16 ∧ K (va_up (va_up wd j0 (fillL (wd j0) 16 (0 : Int64))) j0 (vp_updL ((va_up wd j0 (fillL (wd j0) 16 (0 : Int64))) j0) (0 : Int32).toNatClampNeg (1 : Int64))))
theorem dX2_onlyZero_0 : decode cX2_onlyZero 0 = .ok (.aload_n 0, 1) := by decide +kernel
theorem dX2_onlyZero_1 : decode cX2_onlyZero 1 = .ok (.getfield 11, 3) := by decide +kernel
theorem dX2_onlyZero_4 : decode cX2_onlyZero 4 = .ok (.lconst 0, 1) := by decide +kernel
theorem dX2_onlyZero_5 : decode cX2_onlyZero 5 = .ok (.invokestatic 15, 3) := by decide +kernel
theorem dX2_onlyZero_8 : decode cX2_onlyZero 8 = .ok (.aload_n 0, 1) := by decide +kernel
theorem dX2_onlyZero_9 : decode cX2_onlyZero 9 = .ok (.getfield 11, 3) := by decide +kernel
theorem dX2_onlyZero_12 : decode cX2_onlyZero 12 = .ok (.iconst 0, 1) := by decide +kernel
theorem dX2_onlyZero_13 : decode cX2_onlyZero 13 = .ok (.lconst 1, 1) := by decide +kernel
theorem dX2_onlyZero_14 : decode cX2_onlyZero 14 = .ok (.lastore, 1) := by decide +kernel
theorem dX2_onlyZero_15 : decode cX2_onlyZero 15 = .ok (.return_, 1) := by decide +kernel
set_option maxRecDepth 20000 in
set_option maxHeartbeats 4000000 in
theorem c_X2_onlyZero {a : Nat → Nat} {q : Nat → ClassId} {j0 : Nat} (hj0 : j0 < 6) {sz : Int32} {pr : Nat → Int32} {pm : Nat → Nat} {kv : Nat → Int32} {kn : Nat → Int32} {kr : Nat → Int32} {kt : Nat → Int32} {kb : Nat → Int32} {ks : Nat → Int32} {kj : Nat → Int32} {kw : Nat → Int32} {kg : Nat → Int32} {wd : Nat → Nat → Int64} {fw : Nat → Nat → Int32} {ad : Nat → Int32} {bk : Nat → Int32} {md : Int32} {cr : Int32} {ow : Int32} {hd : Int32} {K : (Nat → Nat → Int64) → Prop} (h : wp_X2_onlyZero j0 wd K) : ctV_1 q yX2_onlyZero cX2_onlyZero 1 1 24 [.ref (a (17 + j0))] (cgW a q sz pr pm kv kn kr kt kb ks kj kw kg wd fw ad bk md cr ow hd) (fun (wd : Nat → Nat → Int64) => (cgW a q sz pr pm kv kn kr kt kb ks kj kw kg wd fw ad bk md cr ow hd)) K := by
  refine met_V_1 (by decide) (Nat.le_of_ble_eq_true rfl) (fun Γ g hret => ?_)
  unfold wp_X2_onlyZero at h
  show jw Γ 1 0 0 (cgW a q sz pr pm kv kn kr kt kb ks kj kw kg wd fw ad bk md cr ow hd) [(0, .ref (a (17 + j0)))] [] 0
  refine j_aload_n g 0 rfl dX2_onlyZero_0 ?_
  refine j_get g fl_X2_11 (17 + j0) (cg_S hj0) rfl dX2_onlyZero_1 ?_
  refine j_lconst g (v := 0) (by decide) dX2_onlyZero_4 ?_
  refine j_fillL g cl_X2_15 (23 + j0) (cg_w hj0) (Nat.le_of_ble_eq_true rfl) (Nat.le_of_ble_eq_true rfl) (ws' := (cgW a q sz pr pm kv kn kr kt kb ks kj kw kg (va_up wd j0 (fillL (wd j0) 16 (0 : Int64))) fw ad bk md cr ow hd)) (cg_s_w hj0) (Nat.le_of_ble_eq_true rfl) dX2_onlyZero_5 ?_
  refine j_aload_n g 0 rfl dX2_onlyZero_8 ?_
  refine j_get g fl_X2_11 (17 + j0) (cg_S hj0) rfl dX2_onlyZero_9 ?_
  refine j_iconst g (v := 0) (by decide) dX2_onlyZero_12 ?_
  refine j_lconst g (v := 1) (by decide) dX2_onlyZero_13 ?_
  obtain ⟨hv1, h⟩ := h
  refine j_last g (23 + j0) (cg_w hj0) hv1 (ws' := (cgW a q sz pr pm kv kn kr kt kb ks kj kw kg (va_up (va_up wd j0 (fillL (wd j0) 16 (0 : Int64))) j0 (vp_updL ((va_up wd j0 (fillL (wd j0) 16 (0 : Int64))) j0) (0 : Int32).toNatClampNeg (1 : Int64))) fw ad bk md cr ow hd)) (cg_s_w hj0) dX2_onlyZero_14 ?_
  exact hret.go dX2_onlyZero_15 h

set_option maxRecDepth 20000 in
def wp_X2_copyOf (j0 : Nat) (j1 : Nat) (wd : Nat → Nat → Int64) (K : (Nat → Nat → Int64) → Prop) : Prop :=
  (ac_ok (0 : Int32) (0 : Int32) (16 : Int32) 16 ∧ K (va_up wd j0 (va_cpy (wd j1) (wd j0) (0 : Int32).toNatClampNeg (0 : Int32).toNatClampNeg (16 : Int32).toNatClampNeg)))
theorem dX2_copyOf_0 : decode cX2_copyOf 0 = .ok (.aload_n 1, 1) := by decide +kernel
theorem dX2_copyOf_1 : decode cX2_copyOf 1 = .ok (.getfield 11, 3) := by decide +kernel
theorem dX2_copyOf_4 : decode cX2_copyOf 4 = .ok (.iconst 0, 1) := by decide +kernel
theorem dX2_copyOf_5 : decode cX2_copyOf 5 = .ok (.aload_n 0, 1) := by decide +kernel
theorem dX2_copyOf_6 : decode cX2_copyOf 6 = .ok (.getfield 11, 3) := by decide +kernel
theorem dX2_copyOf_9 : decode cX2_copyOf 9 = .ok (.iconst 0, 1) := by decide +kernel
theorem dX2_copyOf_10 : decode cX2_copyOf 10 = .ok (.bipush 16, 2) := by decide +kernel
theorem dX2_copyOf_12 : decode cX2_copyOf 12 = .ok (.invokestatic 21, 3) := by decide +kernel
theorem dX2_copyOf_15 : decode cX2_copyOf 15 = .ok (.return_, 1) := by decide +kernel
set_option maxRecDepth 20000 in
set_option maxHeartbeats 4000000 in
theorem c_X2_copyOf {a : Nat → Nat} {q : Nat → ClassId} {j0 : Nat} {j1 : Nat} (hj0 : j0 < 6) (hj1 : j1 < 6) {sz : Int32} {pr : Nat → Int32} {pm : Nat → Nat} {kv : Nat → Int32} {kn : Nat → Int32} {kr : Nat → Int32} {kt : Nat → Int32} {kb : Nat → Int32} {ks : Nat → Int32} {kj : Nat → Int32} {kw : Nat → Int32} {kg : Nat → Int32} {wd : Nat → Nat → Int64} {fw : Nat → Nat → Int32} {ad : Nat → Int32} {bk : Nat → Int32} {md : Int32} {cr : Int32} {ow : Int32} {hd : Int32} {K : (Nat → Nat → Int64) → Prop} (h : wp_X2_copyOf j0 j1 wd K) : ctV_1 q yX2_copyOf cX2_copyOf 2 1 60 [.ref (a (17 + j0)), .ref (a (17 + j1))] (cgW a q sz pr pm kv kn kr kt kb ks kj kw kg wd fw ad bk md cr ow hd) (fun (wd : Nat → Nat → Int64) => (cgW a q sz pr pm kv kn kr kt kb ks kj kw kg wd fw ad bk md cr ow hd)) K := by
  refine met_V_1 (by decide) (Nat.le_of_ble_eq_true rfl) (fun Γ g hret => ?_)
  unfold wp_X2_copyOf at h
  show jw Γ 2 0 0 (cgW a q sz pr pm kv kn kr kt kb ks kj kw kg wd fw ad bk md cr ow hd) [(0, .ref (a (17 + j0))), (1, .ref (a (17 + j1)))] [] 0
  refine j_aload_n g 1 rfl dX2_copyOf_0 ?_
  refine j_get g fl_X2_11 (17 + j1) (cg_S hj1) rfl dX2_copyOf_1 ?_
  refine j_iconst g (v := 0) (by decide) dX2_copyOf_4 ?_
  refine j_aload_n g 0 rfl dX2_copyOf_5 ?_
  refine j_get g fl_X2_11 (17 + j0) (cg_S hj0) rfl dX2_copyOf_6 ?_
  refine j_iconst g (v := 0) (by decide) dX2_copyOf_9 ?_
  refine j_bipush g (v := 16) (by decide) dX2_copyOf_10 ?_
  obtain ⟨hc1, h⟩ := h
  refine j_copyl g lm_X2_21 (23 + j1) (23 + j0) (cg_w hj1) (cg_w hj0) hc1 (Nat.le_of_ble_eq_true rfl) (Nat.le_of_ble_eq_true rfl) (ws' := (cgW a q sz pr pm kv kn kr kt kb ks kj kw kg (va_up wd j0 (va_cpy (wd j1) (wd j0) (0 : Int32).toNatClampNeg (0 : Int32).toNatClampNeg (16 : Int32).toNatClampNeg)) fw ad bk md cr ow hd)) (cg_s_w hj0) dX2_copyOf_12 ?_
  exact hret.go dX2_copyOf_15 h

set_option maxRecDepth 20000 in
def wp_X2_addShifted_19 (i0 : Nat) (x2 : Int32) (x3 : Int32)  (K : (Nat → Nat → Int64) → Prop) (X : (Nat → Nat → Int64) → Prop) : Nat → Int32 → (Nat → Nat → Int64) → Prop
  | 0, _, _ => False
  | n + 1, x4, wd => ((x4 < x2 → X wd) ∧ (¬ x4 < x2 → (vp_in (x4 - x2) 16 ∧ jn (fun (Z3 : Int64 → Prop) => ((x3 ≤ 0 → Z3 ((wd i0 (x4 - x2).toNatClampNeg) <<< (x3.toInt64 &&& 63))) ∧ (¬ x3 ≤ 0 → ((x4 ≤ x2 → Z3 ((wd i0 (x4 - x2).toNatClampNeg) <<< (x3.toInt64 &&& 63))) ∧ (¬ x4 ≤ x2 → (vp_in ((x4 - x2) - (1 : Int32)) 16 ∧ Z3 (((wd i0 (x4 - x2).toNatClampNeg) <<< (x3.toInt64 &&& 63)) ||| (((wd i0 ((x4 - x2) - (1 : Int32)).toNatClampNeg).toUInt64 >>> (((64 : Int32) - x3).toInt64.toUInt64 &&& Int64.toUInt64 63)).toInt64)))))))) (fun (y5_3 : Int64) => (vp_in x4 16 ∧ (vp_in x4 16 ∧ wp_X2_addShifted_19 i0 x2 x3 K X n (x4 + (-1 : Int32)) (va_up wd i0 (vp_updL (wd i0) x4.toNatClampNeg ((wd i0 x4.toNatClampNeg) ||| y5_3)))))))))
set_option maxRecDepth 20000 in
def wp_X2_addShifted (j0 : Nat) (x1 : Int32) (wd : Nat → Nat → Int64) (K : (Nat → Nat → Int64) → Prop) : Prop :=
  ((0 < x1 → ∃ n2 : Nat, wp_X2_addShifted_19 j0 (x1 / (64 : Int32)) (x1 - x1 / (64 : Int32) * (64 : Int32)) K (fun (wd_2 : Nat → Nat → Int64) => K wd_2) n2 (15 : Int32) wd) ∧ (¬ 0 < x1 → K wd))
theorem dX2_addShifted_0 : decode cX2_addShifted 0 = .ok (.iload_n 1, 1) := by decide +kernel
theorem dX2_addShifted_1 : decode cX2_addShifted 1 = .ok (.ifCond .gt 4, 3) := by decide +kernel
theorem dX2_addShifted_4 : decode cX2_addShifted 4 = .ok (.return_, 1) := by decide +kernel
theorem dX2_addShifted_5 : decode cX2_addShifted 5 = .ok (.iload_n 1, 1) := by decide +kernel
theorem dX2_addShifted_6 : decode cX2_addShifted 6 = .ok (.bipush 64, 2) := by decide +kernel
theorem dX2_addShifted_8 : decode cX2_addShifted 8 = .ok (.idiv, 1) := by decide +kernel
theorem dX2_addShifted_9 : decode cX2_addShifted 9 = .ok (.istore_n 2, 1) := by decide +kernel
theorem dX2_addShifted_10 : decode cX2_addShifted 10 = .ok (.iload_n 1, 1) := by decide +kernel
theorem dX2_addShifted_11 : decode cX2_addShifted 11 = .ok (.bipush 64, 2) := by decide +kernel
theorem dX2_addShifted_13 : decode cX2_addShifted 13 = .ok (.irem, 1) := by decide +kernel
theorem dX2_addShifted_14 : decode cX2_addShifted 14 = .ok (.istore_n 3, 1) := by decide +kernel
theorem dX2_addShifted_15 : decode cX2_addShifted 15 = .ok (.bipush 15, 2) := by decide +kernel
theorem dX2_addShifted_17 : decode cX2_addShifted 17 = .ok (.istore 4, 2) := by decide +kernel
theorem dX2_addShifted_19 : decode cX2_addShifted 19 = .ok (.iload 4, 2) := by decide +kernel
theorem dX2_addShifted_21 : decode cX2_addShifted 21 = .ok (.iload_n 2, 1) := by decide +kernel
theorem dX2_addShifted_22 : decode cX2_addShifted 22 = .ok (.if_icmp .lt 65, 3) := by decide +kernel
theorem dX2_addShifted_25 : decode cX2_addShifted 25 = .ok (.aload_n 0, 1) := by decide +kernel
theorem dX2_addShifted_26 : decode cX2_addShifted 26 = .ok (.getfield 11, 3) := by decide +kernel
theorem dX2_addShifted_29 : decode cX2_addShifted 29 = .ok (.iload 4, 2) := by decide +kernel
theorem dX2_addShifted_31 : decode cX2_addShifted 31 = .ok (.iload_n 2, 1) := by decide +kernel
theorem dX2_addShifted_32 : decode cX2_addShifted 32 = .ok (.isub, 1) := by decide +kernel
theorem dX2_addShifted_33 : decode cX2_addShifted 33 = .ok (.laload, 1) := by decide +kernel
theorem dX2_addShifted_34 : decode cX2_addShifted 34 = .ok (.iload_n 3, 1) := by decide +kernel
theorem dX2_addShifted_35 : decode cX2_addShifted 35 = .ok (.lshl, 1) := by decide +kernel
theorem dX2_addShifted_36 : decode cX2_addShifted 36 = .ok (.lstore 5, 2) := by decide +kernel
theorem dX2_addShifted_38 : decode cX2_addShifted 38 = .ok (.iload_n 3, 1) := by decide +kernel
theorem dX2_addShifted_39 : decode cX2_addShifted 39 = .ok (.ifCond .le 30, 3) := by decide +kernel
theorem dX2_addShifted_42 : decode cX2_addShifted 42 = .ok (.iload 4, 2) := by decide +kernel
theorem dX2_addShifted_44 : decode cX2_addShifted 44 = .ok (.iload_n 2, 1) := by decide +kernel
theorem dX2_addShifted_45 : decode cX2_addShifted 45 = .ok (.if_icmp .le 24, 3) := by decide +kernel
theorem dX2_addShifted_48 : decode cX2_addShifted 48 = .ok (.lload 5, 2) := by decide +kernel
theorem dX2_addShifted_50 : decode cX2_addShifted 50 = .ok (.aload_n 0, 1) := by decide +kernel
theorem dX2_addShifted_51 : decode cX2_addShifted 51 = .ok (.getfield 11, 3) := by decide +kernel
theorem dX2_addShifted_54 : decode cX2_addShifted 54 = .ok (.iload 4, 2) := by decide +kernel
theorem dX2_addShifted_56 : decode cX2_addShifted 56 = .ok (.iload_n 2, 1) := by decide +kernel
theorem dX2_addShifted_57 : decode cX2_addShifted 57 = .ok (.isub, 1) := by decide +kernel
theorem dX2_addShifted_58 : decode cX2_addShifted 58 = .ok (.iconst 1, 1) := by decide +kernel
theorem dX2_addShifted_59 : decode cX2_addShifted 59 = .ok (.isub, 1) := by decide +kernel
theorem dX2_addShifted_60 : decode cX2_addShifted 60 = .ok (.laload, 1) := by decide +kernel
theorem dX2_addShifted_61 : decode cX2_addShifted 61 = .ok (.bipush 64, 2) := by decide +kernel
theorem dX2_addShifted_63 : decode cX2_addShifted 63 = .ok (.iload_n 3, 1) := by decide +kernel
theorem dX2_addShifted_64 : decode cX2_addShifted 64 = .ok (.isub, 1) := by decide +kernel
theorem dX2_addShifted_65 : decode cX2_addShifted 65 = .ok (.lushr, 1) := by decide +kernel
theorem dX2_addShifted_66 : decode cX2_addShifted 66 = .ok (.lor, 1) := by decide +kernel
theorem dX2_addShifted_67 : decode cX2_addShifted 67 = .ok (.lstore 5, 2) := by decide +kernel
theorem dX2_addShifted_69 : decode cX2_addShifted 69 = .ok (.aload_n 0, 1) := by decide +kernel
theorem dX2_addShifted_70 : decode cX2_addShifted 70 = .ok (.getfield 11, 3) := by decide +kernel
theorem dX2_addShifted_73 : decode cX2_addShifted 73 = .ok (.iload 4, 2) := by decide +kernel
theorem dX2_addShifted_75 : decode cX2_addShifted 75 = .ok (.dup2, 1) := by decide +kernel
theorem dX2_addShifted_76 : decode cX2_addShifted 76 = .ok (.laload, 1) := by decide +kernel
theorem dX2_addShifted_77 : decode cX2_addShifted 77 = .ok (.lload 5, 2) := by decide +kernel
theorem dX2_addShifted_79 : decode cX2_addShifted 79 = .ok (.lor, 1) := by decide +kernel
theorem dX2_addShifted_80 : decode cX2_addShifted 80 = .ok (.lastore, 1) := by decide +kernel
theorem dX2_addShifted_81 : decode cX2_addShifted 81 = .ok (.iinc 4 (-1), 3) := by decide +kernel
theorem dX2_addShifted_84 : decode cX2_addShifted 84 = .ok (.goto (-65), 3) := by decide +kernel
theorem dX2_addShifted_87 : decode cX2_addShifted 87 = .ok (.return_, 1) := by decide +kernel
set_option maxRecDepth 20000 in
set_option maxHeartbeats 4000000 in
theorem wk_X2_addShifted_19 {Γ : GT} {a : Nat → Nat} {q : Nat → ClassId} {i0 : Nat} {x2 : Int32} {x3 : Int32} (hi0 : i0 < 6) {sz : Int32} {pr : Nat → Int32} {pm : Nat → Nat} {kv : Nat → Int32} {kn : Nat → Int32} {kr : Nat → Int32} {kt : Nat → Int32} {kb : Nat → Int32} {ks : Nat → Int32} {kj : Nat → Int32} {kw : Nat → Int32} {kg : Nat → Int32} {fw : Nat → Nat → Int32} {ad : Nat → Int32} {bk : Nat → Int32} {md : Int32} {cr : Int32} {ow : Int32} {hd : Int32} {K : (Nat → Nat → Int64) → Prop} {X : (Nat → Nat → Int64) → Prop} (g : gd Γ cX2_addShifted RX2 7 (rmz 0 0) q) (hret : rtV_1 Γ cX2_addShifted 7 (fun (wd : Nat → Nat → Int64) => (cgW a q sz pr pm kv kn kr kt kb ks kj kw kg wd fw ad bk md cr ow hd)) K) (hX : ∀ (wd : Nat → Nat → Int64) , X wd → jw Γ 7 0 0 (cgW a q sz pr pm kv kn kr kt kb ks kj kw kg wd fw ad bk md cr ow hd) [] [] 87) :
    ∀ (n : Nat) (x4 : Int32) (wd : Nat → Nat → Int64) , wp_X2_addShifted_19 i0 x2 x3 K X n x4 wd → jw Γ 7 0 0 (cgW a q sz pr pm kv kn kr kt kb ks kj kw kg wd fw ad bk md cr ow hd) [(0, .ref (a (17 + i0))), (2, .int x2), (3, .int x3), (4, .int x4)] [] 19 := by
  intro n
  induction n with
  | zero =>
    intro _ _ h
    exact False.elim h
  | succ n ih =>
    intro x4 wd h
    unfold wp_X2_addShifted_19 at h
    refine j_iload g 3 rfl dX2_addShifted_19 ?_
    refine j_iload_n g 1 rfl dX2_addShifted_21 ?_
    refine j_icmp_lt g dX2_addShifted_22 (tgt := 87) (by decide) (fun c1 => ?_) (fun c1 => ?_)
    · replace h := h.1 c1
      refine j_sub [] rfl ?_
      exact hX wd h
    replace h := h.2 c1
    refine j_aload_n g 0 rfl dX2_addShifted_25 ?_
    refine j_get g fl_X2_11 (17 + i0) (cg_S hi0) rfl dX2_addShifted_26 ?_
    refine j_iload g 3 rfl dX2_addShifted_29 ?_
    refine j_iload_n g 1 rfl dX2_addShifted_31 ?_
    refine j_isub g dX2_addShifted_32 ?_
    obtain ⟨hv2, h⟩ := h
    refine j_lald g (23 + i0) (cg_w hi0) hv2 dX2_addShifted_33 ?_
    refine j_iload_n g 2 rfl dX2_addShifted_34 ?_
    refine j_lshl g dX2_addShifted_35 ?_
    refine j_lstore g (lv' := [(5, .long ((wd i0 (x4 - x2).toNatClampNeg) <<< (x3.toInt64 &&& 63))), (0, .ref (a (17 + i0))), (2, .int x2), (3, .int x3), (4, .int x4)]) (by decide) rfl dX2_addShifted_36 ?_
    refine j_iload_n g 3 rfl dX2_addShifted_38 ?_
    refine jn_cut h (fun Z3 eZ3 h => ?_)
    have hZ3 : ∀ (y5_3 : Int64), Z3 y5_3 → jw Γ 7 0 0 (cgW a q sz pr pm kv kn kr kt kb ks kj kw kg wd fw ad bk md cr ow hd) [(0, .ref (a (17 + i0))), (2, .int x2), (3, .int x3), (4, .int x4), (5, .long y5_3)] [] 69 := by
      intro y5_3 h
      rw [eZ3] at h
      refine j_aload_n g 0 rfl dX2_addShifted_69 ?_
      refine j_get g fl_X2_11 (17 + i0) (cg_S hi0) rfl dX2_addShifted_70 ?_
      refine j_iload g 3 rfl dX2_addShifted_73 ?_
      refine j_dup2 g rfl rfl dX2_addShifted_75 ?_
      obtain ⟨hv4, h⟩ := h
      refine j_lald g (23 + i0) (cg_w hi0) hv4 dX2_addShifted_76 ?_
      refine j_lload g 4 rfl dX2_addShifted_77 ?_
      refine j_lor g dX2_addShifted_79 ?_
      obtain ⟨hv5, h⟩ := h
      refine j_last g (23 + i0) (cg_w hi0) hv5 (ws' := (cgW a q sz pr pm kv kn kr kt kb ks kj kw kg (va_up wd i0 (vp_updL (wd i0) x4.toNatClampNeg ((wd i0 x4.toNatClampNeg) ||| y5_3))) fw ad bk md cr ow hd)) (cg_s_w hi0) dX2_addShifted_80 ?_
      refine j_iinc g 3 (n := -1) (v := x4 + (-1 : Int32)) (lv' := [(4, .int (x4 + (-1 : Int32))), (0, .ref (a (17 + i0))), (2, .int x2), (3, .int x3), (5, .long y5_3)]) rfl rfl (by decide) rfl dX2_addShifted_81 ?_
      refine j_goto g dX2_addShifted_84 (tgt := 19) (by decide) ?_
      refine j_sub [1, 2, 3, 0] rfl ?_
      exact ih (x4 + (-1 : Int32)) (va_up wd i0 (vp_updL (wd i0) x4.toNatClampNeg ((wd i0 x4.toNatClampNeg) ||| y5_3))) h
    refine j_if_le g dX2_addShifted_39 (tgt := 69) (by decide) (fun c6 => ?_) (fun c6 => ?_)
    · replace h := h.1 c6
      refine j_sub [1, 2, 3, 4, 0] rfl ?_
      exact hZ3 ((wd i0 (x4 - x2).toNatClampNeg) <<< (x3.toInt64 &&& 63)) h
    replace h := h.2 c6
    refine j_iload g 4 rfl dX2_addShifted_42 ?_
    refine j_iload_n g 2 rfl dX2_addShifted_44 ?_
    refine j_icmp_le g dX2_addShifted_45 (tgt := 69) (by decide) (fun c7 => ?_) (fun c7 => ?_)
    · replace h := h.1 c7
      refine j_sub [1, 2, 3, 4, 0] rfl ?_
      exact hZ3 ((wd i0 (x4 - x2).toNatClampNeg) <<< (x3.toInt64 &&& 63)) h
    replace h := h.2 c7
    refine j_lload g 0 rfl dX2_addShifted_48 ?_
    refine j_aload_n g 1 rfl dX2_addShifted_50 ?_
    refine j_get g fl_X2_11 (17 + i0) (cg_S hi0) rfl dX2_addShifted_51 ?_
    refine j_iload g 4 rfl dX2_addShifted_54 ?_
    refine j_iload_n g 2 rfl dX2_addShifted_56 ?_
    refine j_isub g dX2_addShifted_57 ?_
    refine j_iconst g (v := 1) (by decide) dX2_addShifted_58 ?_
    refine j_isub g dX2_addShifted_59 ?_
    obtain ⟨hv8, h⟩ := h
    refine j_lald g (23 + i0) (cg_w hi0) hv8 dX2_addShifted_60 ?_
    refine j_bipush g (v := 64) (by decide) dX2_addShifted_61 ?_
    refine j_iload_n g 3 rfl dX2_addShifted_63 ?_
    refine j_isub g dX2_addShifted_64 ?_
    refine j_lushr g dX2_addShifted_65 ?_
    refine j_lor g dX2_addShifted_66 ?_
    refine j_lstore g (lv' := [(5, .long (((wd i0 (x4 - x2).toNatClampNeg) <<< (x3.toInt64 &&& 63)) ||| (((wd i0 ((x4 - x2) - (1 : Int32)).toNatClampNeg).toUInt64 >>> (((64 : Int32) - x3).toInt64.toUInt64 &&& Int64.toUInt64 63)).toInt64))), (0, .ref (a (17 + i0))), (2, .int x2), (3, .int x3), (4, .int x4)]) (by decide) rfl dX2_addShifted_67 ?_
    refine j_sub [1, 2, 3, 4, 0] rfl ?_
    exact hZ3 (((wd i0 (x4 - x2).toNatClampNeg) <<< (x3.toInt64 &&& 63)) ||| (((wd i0 ((x4 - x2) - (1 : Int32)).toNatClampNeg).toUInt64 >>> (((64 : Int32) - x3).toInt64.toUInt64 &&& Int64.toUInt64 63)).toInt64)) h
set_option maxRecDepth 20000 in
set_option maxHeartbeats 4000000 in
theorem c_X2_addShifted {a : Nat → Nat} {q : Nat → ClassId} {j0 : Nat} {x1 : Int32} (hj0 : j0 < 6) {sz : Int32} {pr : Nat → Int32} {pm : Nat → Nat} {kv : Nat → Int32} {kn : Nat → Int32} {kr : Nat → Int32} {kt : Nat → Int32} {kb : Nat → Int32} {ks : Nat → Int32} {kj : Nat → Int32} {kw : Nat → Int32} {kg : Nat → Int32} {wd : Nat → Nat → Int64} {fw : Nat → Nat → Int32} {ad : Nat → Int32} {bk : Nat → Int32} {md : Int32} {cr : Int32} {ow : Int32} {hd : Int32} {K : (Nat → Nat → Int64) → Prop} (h : wp_X2_addShifted j0 x1 wd K) : ctV_1 q yX2_addShifted cX2_addShifted 7 0 0 [.ref (a (17 + j0)), .int x1] (cgW a q sz pr pm kv kn kr kt kb ks kj kw kg wd fw ad bk md cr ow hd) (fun (wd : Nat → Nat → Int64) => (cgW a q sz pr pm kv kn kr kt kb ks kj kw kg wd fw ad bk md cr ow hd)) K := by
  refine met_V_1 (by decide) (Nat.le_of_ble_eq_true rfl) (fun Γ g hret => ?_)
  unfold wp_X2_addShifted at h
  show jw Γ 7 0 0 (cgW a q sz pr pm kv kn kr kt kb ks kj kw kg wd fw ad bk md cr ow hd) [(0, .ref (a (17 + j0))), (1, .int x1)] [] 0
  refine j_iload_n g 1 rfl dX2_addShifted_0 ?_
  refine j_if_gt g dX2_addShifted_1 (tgt := 5) (by decide) (fun c1 => ?_) (fun c1 => ?_)
  rotate_left
  · replace h := h.2 c1
    exact hret.go dX2_addShifted_4 h
  replace h := h.1 c1
  refine j_iload_n g 1 rfl dX2_addShifted_5 ?_
  refine j_bipush g (v := 64) (by decide) dX2_addShifted_6 ?_
  refine j_idiv g (by decide) dX2_addShifted_8 ?_
  refine j_istore_n g (lv' := [(2, .int (x1 / (64 : Int32))), (0, .ref (a (17 + j0))), (1, .int x1)]) (by decide) rfl dX2_addShifted_9 ?_
  refine j_iload_n g 2 rfl dX2_addShifted_10 ?_
  refine j_bipush g (v := 64) (by decide) dX2_addShifted_11 ?_
  refine j_irem g (by decide) dX2_addShifted_13 ?_
  refine j_istore_n g (lv' := [(3, .int (x1 - x1 / (64 : Int32) * (64 : Int32))), (2, .int (x1 / (64 : Int32))), (0, .ref (a (17 + j0))), (1, .int x1)]) (by decide) rfl dX2_addShifted_14 ?_
  refine j_bipush g (v := 15) (by decide) dX2_addShifted_15 ?_
  refine j_istore g (lv' := [(4, .int (15 : Int32)), (3, .int (x1 - x1 / (64 : Int32) * (64 : Int32))), (2, .int (x1 / (64 : Int32))), (0, .ref (a (17 + j0))), (1, .int x1)]) (by decide) rfl dX2_addShifted_17 ?_
  obtain ⟨n2, h⟩ := h
  refine j_sub [3, 2, 1, 0] rfl ?_
  refine wk_X2_addShifted_19 hj0 g hret (fun wd_2 h => ?_) n2 (15 : Int32) wd h
  exact hret.go dX2_addShifted_87 h

set_option maxRecDepth 20000 in
def wp_X2_addCoins_5 (i0 : Nat) (x1 : Int32)  (K : (Nat → Nat → Int64) → Prop) (X : (Nat → Nat → Int64) → Prop) : Nat → Int32 → Int32 → (Nat → Nat → Int64) → Prop
  | 0, _, _, _ => False
  | n + 1, x3, x4, wd => (((20 : Int32) < x4 → X wd) ∧ (¬ (20 : Int32) < x4 → ((x3 ≤ 0 → X wd) ∧ (¬ x3 ≤ 0 → wp_X2_addShifted i0 ((if x3 < x4 then x3 else x4) * x1) wd (fun (wd_3 : Nat → Nat → Int64) => wp_X2_addCoins_5 i0 x1 K X n (x3 - (if x3 < x4 then x3 else x4)) (x4 * (2 : Int32)) wd_3)))))
set_option maxRecDepth 20000 in
def wp_X2_addCoins (j0 : Nat) (x1 : Int32) (x2 : Int32) (wd : Nat → Nat → Int64) (K : (Nat → Nat → Int64) → Prop) : Prop :=
  ∃ n1 : Nat, wp_X2_addCoins_5 j0 x1 K (fun (wd_1 : Nat → Nat → Int64) => K wd_1) n1 x2 (1 : Int32) wd
theorem dX2_addCoins_0 : decode cX2_addCoins 0 = .ok (.iload_n 2, 1) := by decide +kernel
theorem dX2_addCoins_1 : decode cX2_addCoins 1 = .ok (.istore_n 3, 1) := by decide +kernel
theorem dX2_addCoins_2 : decode cX2_addCoins 2 = .ok (.iconst 1, 1) := by decide +kernel
theorem dX2_addCoins_3 : decode cX2_addCoins 3 = .ok (.istore 4, 2) := by decide +kernel
theorem dX2_addCoins_5 : decode cX2_addCoins 5 = .ok (.iload 4, 2) := by decide +kernel
theorem dX2_addCoins_7 : decode cX2_addCoins 7 = .ok (.bipush 20, 2) := by decide +kernel
theorem dX2_addCoins_9 : decode cX2_addCoins 9 = .ok (.if_icmp .gt 37, 3) := by decide +kernel
theorem dX2_addCoins_12 : decode cX2_addCoins 12 = .ok (.iload_n 3, 1) := by decide +kernel
theorem dX2_addCoins_13 : decode cX2_addCoins 13 = .ok (.ifCond .le 33, 3) := by decide +kernel
theorem dX2_addCoins_16 : decode cX2_addCoins 16 = .ok (.iload 4, 2) := by decide +kernel
theorem dX2_addCoins_18 : decode cX2_addCoins 18 = .ok (.iload_n 3, 1) := by decide +kernel
theorem dX2_addCoins_19 : decode cX2_addCoins 19 = .ok (.invokestatic 27, 3) := by decide +kernel
theorem dX2_addCoins_22 : decode cX2_addCoins 22 = .ok (.istore 5, 2) := by decide +kernel
theorem dX2_addCoins_24 : decode cX2_addCoins 24 = .ok (.aload_n 0, 1) := by decide +kernel
theorem dX2_addCoins_25 : decode cX2_addCoins 25 = .ok (.iload 5, 2) := by decide +kernel
theorem dX2_addCoins_27 : decode cX2_addCoins 27 = .ok (.iload_n 1, 1) := by decide +kernel
theorem dX2_addCoins_28 : decode cX2_addCoins 28 = .ok (.imul, 1) := by decide +kernel
theorem dX2_addCoins_29 : decode cX2_addCoins 29 = .ok (.invokevirtual 33, 3) := by decide +kernel
theorem dX2_addCoins_32 : decode cX2_addCoins 32 = .ok (.iload_n 3, 1) := by decide +kernel
theorem dX2_addCoins_33 : decode cX2_addCoins 33 = .ok (.iload 5, 2) := by decide +kernel
theorem dX2_addCoins_35 : decode cX2_addCoins 35 = .ok (.isub, 1) := by decide +kernel
theorem dX2_addCoins_36 : decode cX2_addCoins 36 = .ok (.istore_n 3, 1) := by decide +kernel
theorem dX2_addCoins_37 : decode cX2_addCoins 37 = .ok (.iload 4, 2) := by decide +kernel
theorem dX2_addCoins_39 : decode cX2_addCoins 39 = .ok (.iconst 2, 1) := by decide +kernel
theorem dX2_addCoins_40 : decode cX2_addCoins 40 = .ok (.imul, 1) := by decide +kernel
theorem dX2_addCoins_41 : decode cX2_addCoins 41 = .ok (.istore 4, 2) := by decide +kernel
theorem dX2_addCoins_43 : decode cX2_addCoins 43 = .ok (.goto (-38), 3) := by decide +kernel
theorem dX2_addCoins_46 : decode cX2_addCoins 46 = .ok (.return_, 1) := by decide +kernel
set_option maxRecDepth 20000 in
set_option maxHeartbeats 4000000 in
theorem wk_X2_addCoins_5 {Γ : GT} {a : Nat → Nat} {q : Nat → ClassId} {i0 : Nat} {x1 : Int32} (hi0 : i0 < 6) {sz : Int32} {pr : Nat → Int32} {pm : Nat → Nat} {kv : Nat → Int32} {kn : Nat → Int32} {kr : Nat → Int32} {kt : Nat → Int32} {kb : Nat → Int32} {ks : Nat → Int32} {kj : Nat → Int32} {kw : Nat → Int32} {kg : Nat → Int32} {fw : Nat → Nat → Int32} {ad : Nat → Int32} {bk : Nat → Int32} {md : Int32} {cr : Int32} {ow : Int32} {hd : Int32} {K : (Nat → Nat → Int64) → Prop} {X : (Nat → Nat → Int64) → Prop} (g : gd Γ cX2_addCoins RX2 6 (rmz 1 26) q) (hret : rtV_1 Γ cX2_addCoins 6 (fun (wd : Nat → Nat → Int64) => (cgW a q sz pr pm kv kn kr kt kb ks kj kw kg wd fw ad bk md cr ow hd)) K) (hX : ∀ (wd : Nat → Nat → Int64) , X wd → jw Γ 6 0 0 (cgW a q sz pr pm kv kn kr kt kb ks kj kw kg wd fw ad bk md cr ow hd) [] [] 46) :
    ∀ (n : Nat) (x3 : Int32) (x4 : Int32) (wd : Nat → Nat → Int64) , wp_X2_addCoins_5 i0 x1 K X n x3 x4 wd → jw Γ 6 0 0 (cgW a q sz pr pm kv kn kr kt kb ks kj kw kg wd fw ad bk md cr ow hd) [(0, .ref (a (17 + i0))), (1, .int x1), (3, .int x3), (4, .int x4)] [] 5 := by
  intro n
  induction n with
  | zero =>
    intro _ _ _ h
    exact False.elim h
  | succ n ih =>
    intro x3 x4 wd h
    unfold wp_X2_addCoins_5 at h
    refine j_iload g 3 rfl dX2_addCoins_5 ?_
    refine j_bipush g (v := 20) (by decide) dX2_addCoins_7 ?_
    refine j_icmp_gt g dX2_addCoins_9 (tgt := 46) (by decide) (fun c1 => ?_) (fun c1 => ?_)
    · replace h := h.1 c1
      refine j_sub [] rfl ?_
      exact hX wd h
    replace h := h.2 c1
    refine j_iload_n g 2 rfl dX2_addCoins_12 ?_
    refine j_if_le g dX2_addCoins_13 (tgt := 46) (by decide) (fun c2 => ?_) (fun c2 => ?_)
    · replace h := h.1 c2
      refine j_sub [] rfl ?_
      exact hX wd h
    replace h := h.2 c2
    refine j_iload g 3 rfl dX2_addCoins_16 ?_
    refine j_iload_n g 2 rfl dX2_addCoins_18 ?_
    refine j_mmin g lm_X2_27 lm_min_s lm_i lm_min_c (Nat.le_of_ble_eq_true rfl) (Nat.le_of_ble_eq_true rfl) (Nat.zero_le _) (Nat.zero_le _) dX2_addCoins_19 ?_
    refine j_istore g (lv' := [(5, .int (if x3 < x4 then x3 else x4)), (0, .ref (a (17 + i0))), (1, .int x1), (3, .int x3), (4, .int x4)]) (by decide) rfl dX2_addCoins_22 ?_
    refine j_aload_n g 1 rfl dX2_addCoins_24 ?_
    refine j_iload g 0 rfl dX2_addCoins_25 ?_
    refine j_iload_n g 2 rfl dX2_addCoins_27 ?_
    refine j_imul g dX2_addCoins_28 ?_
    refine j_callVV_1 g (As := [.int ((if x3 < x4 then x3 else x4) * x1)]) (st := []) (c_X2_addShifted hi0 h) cl_X2_33 (17 + i0) 2 (cg_S hi0) rfl rfl (Nat.le_of_ble_eq_true rfl) (Nat.le_of_ble_eq_true rfl) (Nat.zero_le _) (Nat.zero_le _) rfl rfl (Nat.le_of_ble_eq_true rfl) dX2_addCoins_29 (fun wd_3 h => ?_)
    refine j_ws (ws' := (cgW a q sz pr pm kv kn kr kt kb ks kj kw kg wd_3 fw ad bk md cr ow hd)) rfl ?_
    refine j_iload_n g 3 rfl dX2_addCoins_32 ?_
    refine j_iload g 0 rfl dX2_addCoins_33 ?_
    refine j_isub g dX2_addCoins_35 ?_
    refine j_istore_n g (lv' := [(3, .int (x3 - (if x3 < x4 then x3 else x4))), (5, .int (if x3 < x4 then x3 else x4)), (0, .ref (a (17 + i0))), (1, .int x1), (4, .int x4)]) (by decide) rfl dX2_addCoins_36 ?_
    refine j_iload g 4 rfl dX2_addCoins_37 ?_
    refine j_iconst g (v := 2) (by decide) dX2_addCoins_39 ?_
    refine j_imul g dX2_addCoins_40 ?_
    refine j_istore g (lv' := [(4, .int (x4 * (2 : Int32))), (3, .int (x3 - (if x3 < x4 then x3 else x4))), (5, .int (if x3 < x4 then x3 else x4)), (0, .ref (a (17 + i0))), (1, .int x1)]) (by decide) rfl dX2_addCoins_41 ?_
    refine j_goto g dX2_addCoins_43 (tgt := 5) (by decide) ?_
    refine j_sub [3, 4, 1, 0] rfl ?_
    exact ih (x3 - (if x3 < x4 then x3 else x4)) (x4 * (2 : Int32)) wd_3 h
set_option maxRecDepth 20000 in
set_option maxHeartbeats 4000000 in
theorem c_X2_addCoins {a : Nat → Nat} {q : Nat → ClassId} {j0 : Nat} {x1 : Int32} {x2 : Int32} (hj0 : j0 < 6) {sz : Int32} {pr : Nat → Int32} {pm : Nat → Nat} {kv : Nat → Int32} {kn : Nat → Int32} {kr : Nat → Int32} {kt : Nat → Int32} {kb : Nat → Int32} {ks : Nat → Int32} {kj : Nat → Int32} {kw : Nat → Int32} {kg : Nat → Int32} {wd : Nat → Nat → Int64} {fw : Nat → Nat → Int32} {ad : Nat → Int32} {bk : Nat → Int32} {md : Int32} {cr : Int32} {ow : Int32} {hd : Int32} {K : (Nat → Nat → Int64) → Prop} (h : wp_X2_addCoins j0 x1 x2 wd K) : ctV_1 q yX2_addCoins cX2_addCoins 6 1 26 [.ref (a (17 + j0)), .int x1, .int x2] (cgW a q sz pr pm kv kn kr kt kb ks kj kw kg wd fw ad bk md cr ow hd) (fun (wd : Nat → Nat → Int64) => (cgW a q sz pr pm kv kn kr kt kb ks kj kw kg wd fw ad bk md cr ow hd)) K := by
  refine met_V_1 (by decide) (Nat.le_of_ble_eq_true rfl) (fun Γ g hret => ?_)
  unfold wp_X2_addCoins at h
  show jw Γ 6 0 0 (cgW a q sz pr pm kv kn kr kt kb ks kj kw kg wd fw ad bk md cr ow hd) [(0, .ref (a (17 + j0))), (1, .int x1), (2, .int x2)] [] 0
  refine j_iload_n g 2 rfl dX2_addCoins_0 ?_
  refine j_istore_n g (lv' := [(3, .int x2), (0, .ref (a (17 + j0))), (1, .int x1), (2, .int x2)]) (by decide) rfl dX2_addCoins_1 ?_
  refine j_iconst g (v := 1) (by decide) dX2_addCoins_2 ?_
  refine j_istore g (lv' := [(4, .int (1 : Int32)), (3, .int x2), (0, .ref (a (17 + j0))), (1, .int x1), (2, .int x2)]) (by decide) rfl dX2_addCoins_3 ?_
  obtain ⟨n1, h⟩ := h
  refine j_sub [2, 3, 1, 0] rfl ?_
  refine wk_X2_addCoins_5 hj0 g hret (fun wd_1 h => ?_) n1 x2 (1 : Int32) wd h
  exact hret.go dX2_addCoins_46 h

set_option maxRecDepth 20000 in
def wp_X2_has (j0 : Nat) (x1 : Int32) (wd : Nat → Nat → Int64) (K : Int32 → Prop) : Prop :=
  ((x1 < 0 → K (0 : Int32)) ∧ (¬ x1 < 0 → ((x1 ≤ (999 : Int32) → (vp_in (x1 / (64 : Int32)) 16 ∧ ((lg_cmp ((((wd j0 (x1 / (64 : Int32)).toNatClampNeg).toUInt64 >>> ((x1 - x1 / (64 : Int32) * (64 : Int32)).toInt64.toUInt64 &&& Int64.toUInt64 63)).toInt64) &&& (1 : Int64)) (0 : Int64) = 0 → K (0 : Int32)) ∧ (¬ lg_cmp ((((wd j0 (x1 / (64 : Int32)).toNatClampNeg).toUInt64 >>> ((x1 - x1 / (64 : Int32) * (64 : Int32)).toInt64.toUInt64 &&& Int64.toUInt64 63)).toInt64) &&& (1 : Int64)) (0 : Int64) = 0 → K (1 : Int32))))) ∧ (¬ x1 ≤ (999 : Int32) → K (0 : Int32)))))
theorem dX2_has_0 : decode cX2_has 0 = .ok (.iload_n 1, 1) := by decide +kernel
theorem dX2_has_1 : decode cX2_has 1 = .ok (.ifCond .lt 10, 3) := by decide +kernel
theorem dX2_has_4 : decode cX2_has 4 = .ok (.iload_n 1, 1) := by decide +kernel
theorem dX2_has_5 : decode cX2_has 5 = .ok (.sipush 999, 3) := by decide +kernel
theorem dX2_has_8 : decode cX2_has 8 = .ok (.if_icmp .le 5, 3) := by decide +kernel
theorem dX2_has_11 : decode cX2_has 11 = .ok (.iconst 0, 1) := by decide +kernel
theorem dX2_has_12 : decode cX2_has 12 = .ok (.ireturn, 1) := by decide +kernel
theorem dX2_has_13 : decode cX2_has 13 = .ok (.aload_n 0, 1) := by decide +kernel
theorem dX2_has_14 : decode cX2_has 14 = .ok (.getfield 11, 3) := by decide +kernel
theorem dX2_has_17 : decode cX2_has 17 = .ok (.iload_n 1, 1) := by decide +kernel
theorem dX2_has_18 : decode cX2_has 18 = .ok (.bipush 64, 2) := by decide +kernel
theorem dX2_has_20 : decode cX2_has 20 = .ok (.idiv, 1) := by decide +kernel
theorem dX2_has_21 : decode cX2_has 21 = .ok (.laload, 1) := by decide +kernel
theorem dX2_has_22 : decode cX2_has 22 = .ok (.iload_n 1, 1) := by decide +kernel
theorem dX2_has_23 : decode cX2_has 23 = .ok (.bipush 64, 2) := by decide +kernel
theorem dX2_has_25 : decode cX2_has 25 = .ok (.irem, 1) := by decide +kernel
theorem dX2_has_26 : decode cX2_has 26 = .ok (.lushr, 1) := by decide +kernel
theorem dX2_has_27 : decode cX2_has 27 = .ok (.lconst 1, 1) := by decide +kernel
theorem dX2_has_28 : decode cX2_has 28 = .ok (.land, 1) := by decide +kernel
theorem dX2_has_29 : decode cX2_has 29 = .ok (.lconst 0, 1) := by decide +kernel
theorem dX2_has_30 : decode cX2_has 30 = .ok (.lcmp, 1) := by decide +kernel
theorem dX2_has_31 : decode cX2_has 31 = .ok (.ifCond .eq 7, 3) := by decide +kernel
theorem dX2_has_34 : decode cX2_has 34 = .ok (.iconst 1, 1) := by decide +kernel
theorem dX2_has_35 : decode cX2_has 35 = .ok (.goto 4, 3) := by decide +kernel
theorem dX2_has_38 : decode cX2_has 38 = .ok (.iconst 0, 1) := by decide +kernel
theorem dX2_has_39 : decode cX2_has 39 = .ok (.ireturn, 1) := by decide +kernel
set_option maxRecDepth 20000 in
set_option maxHeartbeats 4000000 in
theorem c_X2_has {a : Nat → Nat} {q : Nat → ClassId} {j0 : Nat} {x1 : Int32} (hj0 : j0 < 6) {sz : Int32} {pr : Nat → Int32} {pm : Nat → Nat} {kv : Nat → Int32} {kn : Nat → Int32} {kr : Nat → Int32} {kt : Nat → Int32} {kb : Nat → Int32} {ks : Nat → Int32} {kj : Nat → Int32} {kw : Nat → Int32} {kg : Nat → Int32} {wd : Nat → Nat → Int64} {fw : Nat → Nat → Int32} {ad : Nat → Int32} {bk : Nat → Int32} {md : Int32} {cr : Int32} {ow : Int32} {hd : Int32} {K : Int32 → Prop} (h : wp_X2_has j0 x1 wd K) : ctZ_0 q yX2_has cX2_has 2 0 0 [.ref (a (17 + j0)), .int x1] (cgW a q sz pr pm kv kn kr kt kb ks kj kw kg wd fw ad bk md cr ow hd) (cgW a q sz pr pm kv kn kr kt kb ks kj kw kg wd fw ad bk md cr ow hd) K := by
  refine met_Z_0 (by decide) (Nat.le_of_ble_eq_true rfl) (fun Γ g hret => ?_)
  unfold wp_X2_has at h
  show jw Γ 2 0 0 (cgW a q sz pr pm kv kn kr kt kb ks kj kw kg wd fw ad bk md cr ow hd) [(0, .ref (a (17 + j0))), (1, .int x1)] [] 0
  refine j_iload_n g 1 rfl dX2_has_0 ?_
  refine j_if_lt g dX2_has_1 (tgt := 11) (by decide) (fun c1 => ?_) (fun c1 => ?_)
  · replace h := h.1 c1
    refine j_iconst g (v := 0) (by decide) dX2_has_11 ?_
    exact hret.go dX2_has_12 (Or.inl rfl) h
  replace h := h.2 c1
  refine j_iload_n g 1 rfl dX2_has_4 ?_
  refine j_sipush g (v := 999) (by decide) dX2_has_5 ?_
  refine j_icmp_le g dX2_has_8 (tgt := 13) (by decide) (fun c2 => ?_) (fun c2 => ?_)
  rotate_left
  · replace h := h.2 c2
    refine j_iconst g (v := 0) (by decide) dX2_has_11 ?_
    exact hret.go dX2_has_12 (Or.inl rfl) h
  replace h := h.1 c2
  refine j_aload_n g 0 rfl dX2_has_13 ?_
  refine j_get g fl_X2_11 (17 + j0) (cg_S hj0) rfl dX2_has_14 ?_
  refine j_iload_n g 1 rfl dX2_has_17 ?_
  refine j_bipush g (v := 64) (by decide) dX2_has_18 ?_
  refine j_idiv g (by decide) dX2_has_20 ?_
  obtain ⟨hv3, h⟩ := h
  refine j_lald g (23 + j0) (cg_w hj0) hv3 dX2_has_21 ?_
  refine j_iload_n g 1 rfl dX2_has_22 ?_
  refine j_bipush g (v := 64) (by decide) dX2_has_23 ?_
  refine j_irem g (by decide) dX2_has_25 ?_
  refine j_lushr g dX2_has_26 ?_
  refine j_lconst g (v := 1) (by decide) dX2_has_27 ?_
  refine j_land g dX2_has_28 ?_
  refine j_lconst g (v := 0) (by decide) dX2_has_29 ?_
  refine j_lcmp g dX2_has_30 ?_
  refine j_if_eq g dX2_has_31 (tgt := 38) (by decide) (fun c4 => ?_) (fun c4 => ?_)
  · replace h := h.1 c4
    refine j_iconst g (v := 0) (by decide) dX2_has_38 ?_
    exact hret.go dX2_has_39 (Or.inl rfl) h
  replace h := h.2 c4
  refine j_iconst g (v := 1) (by decide) dX2_has_34 ?_
  refine j_goto g dX2_has_35 (tgt := 39) (by decide) ?_
  exact hret.go dX2_has_39 (Or.inr rfl) h

set_option maxRecDepth 20000 in
def wp_X2_hasWith (j0 : Nat) (x1 : Int32) (x2 : Int32) (wd : Nat → Nat → Int64) (K : Int32 → Prop) : Prop :=
  wp_X2_has j0 x1 wd (fun (r_1 : Int32)  => ((¬ r_1 = 0 → K (1 : Int32)) ∧ (r_1 = 0 → ((x2 ≤ 0 → K (0 : Int32)) ∧ (¬ x2 ≤ 0 → wp_X2_has j0 (x1 - x2) wd (fun (r_4 : Int32)  => ((r_4 = 0 → K (0 : Int32)) ∧ (¬ r_4 = 0 → K (1 : Int32)))))))))
theorem dX2_hasWith_0 : decode cX2_hasWith 0 = .ok (.aload_n 0, 1) := by decide +kernel
theorem dX2_hasWith_1 : decode cX2_hasWith 1 = .ok (.iload_n 1, 1) := by decide +kernel
theorem dX2_hasWith_2 : decode cX2_hasWith 2 = .ok (.invokevirtual 37, 3) := by decide +kernel
theorem dX2_hasWith_5 : decode cX2_hasWith 5 = .ok (.ifCond .ne 17, 3) := by decide +kernel
theorem dX2_hasWith_8 : decode cX2_hasWith 8 = .ok (.iload_n 2, 1) := by decide +kernel
theorem dX2_hasWith_9 : decode cX2_hasWith 9 = .ok (.ifCond .le 17, 3) := by decide +kernel
theorem dX2_hasWith_12 : decode cX2_hasWith 12 = .ok (.aload_n 0, 1) := by decide +kernel
theorem dX2_hasWith_13 : decode cX2_hasWith 13 = .ok (.iload_n 1, 1) := by decide +kernel
theorem dX2_hasWith_14 : decode cX2_hasWith 14 = .ok (.iload_n 2, 1) := by decide +kernel
theorem dX2_hasWith_15 : decode cX2_hasWith 15 = .ok (.isub, 1) := by decide +kernel
theorem dX2_hasWith_16 : decode cX2_hasWith 16 = .ok (.invokevirtual 37, 3) := by decide +kernel
theorem dX2_hasWith_19 : decode cX2_hasWith 19 = .ok (.ifCond .eq 7, 3) := by decide +kernel
theorem dX2_hasWith_22 : decode cX2_hasWith 22 = .ok (.iconst 1, 1) := by decide +kernel
theorem dX2_hasWith_23 : decode cX2_hasWith 23 = .ok (.goto 4, 3) := by decide +kernel
theorem dX2_hasWith_26 : decode cX2_hasWith 26 = .ok (.iconst 0, 1) := by decide +kernel
theorem dX2_hasWith_27 : decode cX2_hasWith 27 = .ok (.ireturn, 1) := by decide +kernel
set_option maxRecDepth 20000 in
set_option maxHeartbeats 4000000 in
theorem c_X2_hasWith {a : Nat → Nat} {q : Nat → ClassId} {j0 : Nat} {x1 : Int32} {x2 : Int32} (hj0 : j0 < 6) {sz : Int32} {pr : Nat → Int32} {pm : Nat → Nat} {kv : Nat → Int32} {kn : Nat → Int32} {kr : Nat → Int32} {kt : Nat → Int32} {kb : Nat → Int32} {ks : Nat → Int32} {kj : Nat → Int32} {kw : Nat → Int32} {kg : Nat → Int32} {wd : Nat → Nat → Int64} {fw : Nat → Nat → Int32} {ad : Nat → Int32} {bk : Nat → Int32} {md : Int32} {cr : Int32} {ow : Int32} {hd : Int32} {K : Int32 → Prop} (h : wp_X2_hasWith j0 x1 x2 wd K) : ctZ_0 q yX2_hasWith cX2_hasWith 3 1 21 [.ref (a (17 + j0)), .int x1, .int x2] (cgW a q sz pr pm kv kn kr kt kb ks kj kw kg wd fw ad bk md cr ow hd) (cgW a q sz pr pm kv kn kr kt kb ks kj kw kg wd fw ad bk md cr ow hd) K := by
  refine met_Z_0 (by decide) (Nat.le_of_ble_eq_true rfl) (fun Γ g hret => ?_)
  unfold wp_X2_hasWith at h
  show jw Γ 3 0 0 (cgW a q sz pr pm kv kn kr kt kb ks kj kw kg wd fw ad bk md cr ow hd) [(0, .ref (a (17 + j0))), (1, .int x1), (2, .int x2)] [] 0
  refine j_aload_n g 0 rfl dX2_hasWith_0 ?_
  refine j_iload_n g 1 rfl dX2_hasWith_1 ?_
  refine j_callVZ_0 g (As := [.int x1]) (st := []) (c_X2_has hj0 h) cl_X2_37 (17 + j0) 2 (cg_S hj0) rfl rfl (Nat.le_of_ble_eq_true rfl) (Nat.le_of_ble_eq_true rfl) (Nat.zero_le _) (Nat.zero_le _) rfl rfl (Nat.le_of_ble_eq_true rfl) dX2_hasWith_2 (fun r_1  hz_1 h => ?_)
  refine j_if_ne g dX2_hasWith_5 (tgt := 22) (by decide) (fun c2 => ?_) (fun c2 => ?_)
  · replace h := h.1 c2
    refine j_iconst g (v := 1) (by decide) dX2_hasWith_22 ?_
    refine j_goto g dX2_hasWith_23 (tgt := 27) (by decide) ?_
    exact hret.go dX2_hasWith_27 (Or.inr rfl) h
  replace h := h.2 c2
  refine j_iload_n g 2 rfl dX2_hasWith_8 ?_
  refine j_if_le g dX2_hasWith_9 (tgt := 26) (by decide) (fun c3 => ?_) (fun c3 => ?_)
  · replace h := h.1 c3
    refine j_iconst g (v := 0) (by decide) dX2_hasWith_26 ?_
    exact hret.go dX2_hasWith_27 (Or.inl rfl) h
  replace h := h.2 c3
  refine j_aload_n g 0 rfl dX2_hasWith_12 ?_
  refine j_iload_n g 1 rfl dX2_hasWith_13 ?_
  refine j_iload_n g 2 rfl dX2_hasWith_14 ?_
  refine j_isub g dX2_hasWith_15 ?_
  refine j_callVZ_0 g (As := [.int (x1 - x2)]) (st := []) (c_X2_has hj0 h) cl_X2_37 (17 + j0) 2 (cg_S hj0) rfl rfl (Nat.le_of_ble_eq_true rfl) (Nat.le_of_ble_eq_true rfl) (Nat.zero_le _) (Nat.zero_le _) rfl rfl (Nat.le_of_ble_eq_true rfl) dX2_hasWith_16 (fun r_4  hz_4 h => ?_)
  refine j_if_eq g dX2_hasWith_19 (tgt := 26) (by decide) (fun c5 => ?_) (fun c5 => ?_)
  · replace h := h.1 c5
    refine j_iconst g (v := 0) (by decide) dX2_hasWith_26 ?_
    exact hret.go dX2_hasWith_27 (Or.inl rfl) h
  replace h := h.2 c5
  refine j_iconst g (v := 1) (by decide) dX2_hasWith_22 ?_
  refine j_goto g dX2_hasWith_23 (tgt := 27) (by decide) ?_
  exact hret.go dX2_hasWith_27 (Or.inr rfl) h

set_option maxRecDepth 20000 in
def wp_X2_howMany_4 (i0 : Nat) (x1 : Int32) (wd : Nat → Nat → Int64) (K : Int32 → Prop) (X : Int32 → Prop) : Nat → Int32 → Int32 → Prop
  | 0, _, _ => False
  | n + 1, x2, x3 => ((x1 < x3 → X x2) ∧ (¬ x1 < x3 → (((999 : Int32) < x3 → X x2) ∧ (¬ (999 : Int32) < x3 → wp_X2_has i0 x3 wd (fun (r_3 : Int32)  => ((r_3 = 0 → wp_X2_howMany_4 i0 x1 wd K X n x2 (x3 + 1)) ∧ (¬ r_3 = 0 → wp_X2_howMany_4 i0 x1 wd K X n (x2 + 1) (x3 + 1))))))))
set_option maxRecDepth 20000 in
def wp_X2_howMany (j0 : Nat) (x1 : Int32) (wd : Nat → Nat → Int64) (K : Int32 → Prop) : Prop :=
  ∃ n1 : Nat, wp_X2_howMany_4 j0 x1 wd K (fun (x2_1 : Int32) => K x2_1) n1 (0 : Int32) (1 : Int32)
theorem dX2_howMany_0 : decode cX2_howMany 0 = .ok (.iconst 0, 1) := by decide +kernel
theorem dX2_howMany_1 : decode cX2_howMany 1 = .ok (.istore_n 2, 1) := by decide +kernel
theorem dX2_howMany_2 : decode cX2_howMany 2 = .ok (.iconst 1, 1) := by decide +kernel
theorem dX2_howMany_3 : decode cX2_howMany 3 = .ok (.istore_n 3, 1) := by decide +kernel
theorem dX2_howMany_4 : decode cX2_howMany 4 = .ok (.iload_n 3, 1) := by decide +kernel
theorem dX2_howMany_5 : decode cX2_howMany 5 = .ok (.iload_n 1, 1) := by decide +kernel
theorem dX2_howMany_6 : decode cX2_howMany 6 = .ok (.if_icmp .gt 27, 3) := by decide +kernel
theorem dX2_howMany_9 : decode cX2_howMany 9 = .ok (.iload_n 3, 1) := by decide +kernel
theorem dX2_howMany_10 : decode cX2_howMany 10 = .ok (.sipush 999, 3) := by decide +kernel
theorem dX2_howMany_13 : decode cX2_howMany 13 = .ok (.if_icmp .gt 20, 3) := by decide +kernel
theorem dX2_howMany_16 : decode cX2_howMany 16 = .ok (.aload_n 0, 1) := by decide +kernel
theorem dX2_howMany_17 : decode cX2_howMany 17 = .ok (.iload_n 3, 1) := by decide +kernel
theorem dX2_howMany_18 : decode cX2_howMany 18 = .ok (.invokevirtual 37, 3) := by decide +kernel
theorem dX2_howMany_21 : decode cX2_howMany 21 = .ok (.ifCond .eq 6, 3) := by decide +kernel
theorem dX2_howMany_24 : decode cX2_howMany 24 = .ok (.iinc 2 1, 3) := by decide +kernel
theorem dX2_howMany_27 : decode cX2_howMany 27 = .ok (.iinc 3 1, 3) := by decide +kernel
theorem dX2_howMany_30 : decode cX2_howMany 30 = .ok (.goto (-26), 3) := by decide +kernel
theorem dX2_howMany_33 : decode cX2_howMany 33 = .ok (.iload_n 2, 1) := by decide +kernel
theorem dX2_howMany_34 : decode cX2_howMany 34 = .ok (.ireturn, 1) := by decide +kernel
set_option maxRecDepth 20000 in
set_option maxHeartbeats 4000000 in
theorem wk_X2_howMany_4 {Γ : GT} {a : Nat → Nat} {q : Nat → ClassId} {i0 : Nat} {x1 : Int32} (hi0 : i0 < 6) {sz : Int32} {pr : Nat → Int32} {pm : Nat → Nat} {kv : Nat → Int32} {kn : Nat → Int32} {kr : Nat → Int32} {kt : Nat → Int32} {kb : Nat → Int32} {ks : Nat → Int32} {kj : Nat → Int32} {kw : Nat → Int32} {kg : Nat → Int32} {wd : Nat → Nat → Int64} {fw : Nat → Nat → Int32} {ad : Nat → Int32} {bk : Nat → Int32} {md : Int32} {cr : Int32} {ow : Int32} {hd : Int32} {K : Int32 → Prop} {X : Int32 → Prop} (g : gd Γ cX2_howMany RX2 4 (rmz 1 21) q) (hret : rtI_0 Γ cX2_howMany 4 (cgW a q sz pr pm kv kn kr kt kb ks kj kw kg wd fw ad bk md cr ow hd) K) (hX : ∀ (x2 : Int32) , X x2 → jw Γ 4 0 0 (cgW a q sz pr pm kv kn kr kt kb ks kj kw kg wd fw ad bk md cr ow hd) [(2, .int x2)] [] 33) :
    ∀ (n : Nat) (x2 : Int32) (x3 : Int32) , wp_X2_howMany_4 i0 x1 wd K X n x2 x3 → jw Γ 4 0 0 (cgW a q sz pr pm kv kn kr kt kb ks kj kw kg wd fw ad bk md cr ow hd) [(0, .ref (a (17 + i0))), (1, .int x1), (2, .int x2), (3, .int x3)] [] 4 := by
  intro n
  induction n with
  | zero =>
    intro _ _ h
    exact False.elim h
  | succ n ih =>
    intro x2 x3 h
    unfold wp_X2_howMany_4 at h
    refine j_iload_n g 3 rfl dX2_howMany_4 ?_
    refine j_iload_n g 1 rfl dX2_howMany_5 ?_
    refine j_icmp_gt g dX2_howMany_6 (tgt := 33) (by decide) (fun c1 => ?_) (fun c1 => ?_)
    · replace h := h.1 c1
      refine j_sub [2] rfl ?_
      exact hX x2 h
    replace h := h.2 c1
    refine j_iload_n g 3 rfl dX2_howMany_9 ?_
    refine j_sipush g (v := 999) (by decide) dX2_howMany_10 ?_
    refine j_icmp_gt g dX2_howMany_13 (tgt := 33) (by decide) (fun c2 => ?_) (fun c2 => ?_)
    · replace h := h.1 c2
      refine j_sub [2] rfl ?_
      exact hX x2 h
    replace h := h.2 c2
    refine j_aload_n g 0 rfl dX2_howMany_16 ?_
    refine j_iload_n g 3 rfl dX2_howMany_17 ?_
    refine j_callVZ_0 g (As := [.int x3]) (st := []) (c_X2_has hi0 h) cl_X2_37 (17 + i0) 2 (cg_S hi0) rfl rfl (Nat.le_of_ble_eq_true rfl) (Nat.le_of_ble_eq_true rfl) (Nat.zero_le _) (Nat.zero_le _) rfl rfl (Nat.le_of_ble_eq_true rfl) dX2_howMany_18 (fun r_3  hz_3 h => ?_)
    refine j_if_eq g dX2_howMany_21 (tgt := 27) (by decide) (fun c4 => ?_) (fun c4 => ?_)
    · replace h := h.1 c4
      refine j_iinc g 3 (n := 1) (v := x3 + 1) (lv' := [(3, .int (x3 + 1)), (0, .ref (a (17 + i0))), (1, .int x1), (2, .int x2)]) rfl rfl (by decide) rfl dX2_howMany_27 ?_
      refine j_goto g dX2_howMany_30 (tgt := 4) (by decide) ?_
      refine j_sub [1, 2, 3, 0] rfl ?_
      exact ih x2 (x3 + 1) h
    replace h := h.2 c4
    refine j_iinc g 2 (n := 1) (v := x2 + 1) (lv' := [(2, .int (x2 + 1)), (0, .ref (a (17 + i0))), (1, .int x1), (3, .int x3)]) rfl rfl (by decide) rfl dX2_howMany_24 ?_
    refine j_iinc g 3 (n := 1) (v := x3 + 1) (lv' := [(3, .int (x3 + 1)), (2, .int (x2 + 1)), (0, .ref (a (17 + i0))), (1, .int x1)]) rfl rfl (by decide) rfl dX2_howMany_27 ?_
    refine j_goto g dX2_howMany_30 (tgt := 4) (by decide) ?_
    refine j_sub [2, 3, 1, 0] rfl ?_
    exact ih (x2 + 1) (x3 + 1) h
set_option maxRecDepth 20000 in
set_option maxHeartbeats 4000000 in
theorem c_X2_howMany {a : Nat → Nat} {q : Nat → ClassId} {j0 : Nat} {x1 : Int32} (hj0 : j0 < 6) {sz : Int32} {pr : Nat → Int32} {pm : Nat → Nat} {kv : Nat → Int32} {kn : Nat → Int32} {kr : Nat → Int32} {kt : Nat → Int32} {kb : Nat → Int32} {ks : Nat → Int32} {kj : Nat → Int32} {kw : Nat → Int32} {kg : Nat → Int32} {wd : Nat → Nat → Int64} {fw : Nat → Nat → Int32} {ad : Nat → Int32} {bk : Nat → Int32} {md : Int32} {cr : Int32} {ow : Int32} {hd : Int32} {K : Int32 → Prop} (h : wp_X2_howMany j0 x1 wd K) : ctI_0 q yX2_howMany cX2_howMany 4 1 21 [.ref (a (17 + j0)), .int x1] (cgW a q sz pr pm kv kn kr kt kb ks kj kw kg wd fw ad bk md cr ow hd) (cgW a q sz pr pm kv kn kr kt kb ks kj kw kg wd fw ad bk md cr ow hd) K := by
  refine met_I_0 (by decide) (Nat.le_of_ble_eq_true rfl) (fun Γ g hret => ?_)
  unfold wp_X2_howMany at h
  show jw Γ 4 0 0 (cgW a q sz pr pm kv kn kr kt kb ks kj kw kg wd fw ad bk md cr ow hd) [(0, .ref (a (17 + j0))), (1, .int x1)] [] 0
  refine j_iconst g (v := 0) (by decide) dX2_howMany_0 ?_
  refine j_istore_n g (lv' := [(2, .int (0 : Int32)), (0, .ref (a (17 + j0))), (1, .int x1)]) (by decide) rfl dX2_howMany_1 ?_
  refine j_iconst g (v := 1) (by decide) dX2_howMany_2 ?_
  refine j_istore_n g (lv' := [(3, .int (1 : Int32)), (2, .int (0 : Int32)), (0, .ref (a (17 + j0))), (1, .int x1)]) (by decide) rfl dX2_howMany_3 ?_
  obtain ⟨n1, h⟩ := h
  refine j_sub [2, 3, 1, 0] rfl ?_
  refine wk_X2_howMany_4 hj0 g hret (fun x2_1 h => ?_) n1 (0 : Int32) (1 : Int32) h
  refine j_iload_n g 0 rfl dX2_howMany_33 ?_
  exact hret.go dX2_howMany_34 h
end
section
set_option maxRecDepth 20000 in
def wp_X3_find (x1 : Int32) (sz : Int32) (K : Option Nat → Prop) : Prop :=
  ((x1 < 0 → K none) ∧ (¬ x1 < 0 → ((x1 < sz → (vp_in x1 6 ∧ K (some x1.toNatClampNeg))) ∧ (¬ x1 < sz → K none))))
theorem dX3_find_0 : decode cX3_find 0 = .ok (.iload_n 1, 1) := by decide +kernel
theorem dX3_find_1 : decode cX3_find 1 = .ok (.ifCond .lt 11, 3) := by decide +kernel
theorem dX3_find_4 : decode cX3_find 4 = .ok (.iload_n 1, 1) := by decide +kernel
theorem dX3_find_5 : decode cX3_find 5 = .ok (.aload_n 0, 1) := by decide +kernel
theorem dX3_find_6 : decode cX3_find 6 = .ok (.getfield 24, 3) := by decide +kernel
theorem dX3_find_9 : decode cX3_find 9 = .ok (.if_icmp .lt 7, 3) := by decide +kernel
theorem dX3_find_12 : decode cX3_find 12 = .ok (.aconst_null, 1) := by decide +kernel
theorem dX3_find_13 : decode cX3_find 13 = .ok (.goto 9, 3) := by decide +kernel
theorem dX3_find_16 : decode cX3_find 16 = .ok (.aload_n 0, 1) := by decide +kernel
theorem dX3_find_17 : decode cX3_find 17 = .ok (.getfield 11, 3) := by decide +kernel
theorem dX3_find_20 : decode cX3_find 20 = .ok (.iload_n 1, 1) := by decide +kernel
theorem dX3_find_21 : decode cX3_find 21 = .ok (.aaload, 1) := by decide +kernel
theorem dX3_find_22 : decode cX3_find 22 = .ok (.areturn, 1) := by decide +kernel
set_option maxRecDepth 20000 in
set_option maxHeartbeats 4000000 in
theorem c_X3_find {a : Nat → Nat} {q : Nat → ClassId} {x1 : Int32}  {sz : Int32} {pr : Nat → Int32} {pm : Nat → Nat} {kv : Nat → Int32} {kn : Nat → Int32} {kr : Nat → Int32} {kt : Nat → Int32} {kb : Nat → Int32} {ks : Nat → Int32} {kj : Nat → Int32} {kw : Nat → Int32} {kg : Nat → Int32} {wd : Nat → Nat → Int64} {fw : Nat → Nat → Int32} {ad : Nat → Int32} {bk : Nat → Int32} {md : Int32} {cr : Int32} {ow : Int32} {hd : Int32} {K : Option Nat → Prop} (h : wp_X3_find x1 sz K) : ctQ_0 q yX3_find cX3_find 2 0 0 [.ref (a 1), .int x1] (cgW a q sz pr pm kv kn kr kt kb ks kj kw kg wd fw ad bk md cr ow hd) (fun i => a (11 + i)) (cgW a q sz pr pm kv kn kr kt kb ks kj kw kg wd fw ad bk md cr ow hd) K := by
  refine met_Q_0 (by decide) (Nat.le_of_ble_eq_true rfl) (fun Γ g hret => ?_)
  unfold wp_X3_find at h
  show jw Γ 2 0 0 (cgW a q sz pr pm kv kn kr kt kb ks kj kw kg wd fw ad bk md cr ow hd) [(0, .ref (a 1)), (1, .int x1)] [] 0
  refine j_iload_n g 1 rfl dX3_find_0 ?_
  refine j_if_lt g dX3_find_1 (tgt := 12) (by decide) (fun c1 => ?_) (fun c1 => ?_)
  · replace h := h.1 c1
    refine j_null g dX3_find_12 ?_
    refine j_goto g dX3_find_13 (tgt := 22) (by decide) ?_
    exact hret.goN dX3_find_22 h
  replace h := h.2 c1
  refine j_iload_n g 1 rfl dX3_find_4 ?_
  refine j_aload_n g 0 rfl dX3_find_5 ?_
  refine j_get g fl_X3_24 1 cg_1 rfl dX3_find_6 ?_
  refine j_icmp_lt g dX3_find_9 (tgt := 16) (by decide) (fun c2 => ?_) (fun c2 => ?_)
  rotate_left
  · replace h := h.2 c2
    refine j_null g dX3_find_12 ?_
    refine j_goto g dX3_find_13 (tgt := 22) (by decide) ?_
    exact hret.goN dX3_find_22 h
  replace h := h.1 c2
  refine j_aload_n g 0 rfl dX3_find_16 ?_
  refine j_get g fl_X3_11 1 cg_1 rfl dX3_find_17 ?_
  refine j_iload_n g 1 rfl dX3_find_20 ?_
  obtain ⟨hv3, h⟩ := h
  refine j_aald g 2 3 cg_2 rfl (by decide) hv3 rfl dX3_find_21 ?_
  exact hret.go dX3_find_22 (vp_lt hv3) h

set_option maxRecDepth 20000 in
def wp_X3_findCoin (x1 : Int32) (sz : Int32) (kn : Nat → Int32) (K : Option Nat → Prop) : Prop :=
  wp_X3_find x1 sz (fun (o_1 : Option Nat)  => (o_1 = none → K none) ∧ (∀ i_1 : Nat, o_1 = some i_1 → i_1 < 6 → ((kn i_1 = 0 → K (some i_1)) ∧ (¬ kn i_1 = 0 → K none))))
theorem dX3_findCoin_0 : decode cX3_findCoin 0 = .ok (.aload_n 0, 1) := by decide +kernel
theorem dX3_findCoin_1 : decode cX3_findCoin 1 = .ok (.iload_n 1, 1) := by decide +kernel
theorem dX3_findCoin_2 : decode cX3_findCoin 2 = .ok (.invokevirtual 29, 3) := by decide +kernel
theorem dX3_findCoin_5 : decode cX3_findCoin 5 = .ok (.astore_n 2, 1) := by decide +kernel
theorem dX3_findCoin_6 : decode cX3_findCoin 6 = .ok (.aload_n 2, 1) := by decide +kernel
theorem dX3_findCoin_7 : decode cX3_findCoin 7 = .ok (.ifnull 10, 3) := by decide +kernel
theorem dX3_findCoin_10 : decode cX3_findCoin 10 = .ok (.aload_n 2, 1) := by decide +kernel
theorem dX3_findCoin_11 : decode cX3_findCoin 11 = .ok (.getfield 33, 3) := by decide +kernel
theorem dX3_findCoin_14 : decode cX3_findCoin 14 = .ok (.ifCond .eq 7, 3) := by decide +kernel
theorem dX3_findCoin_17 : decode cX3_findCoin 17 = .ok (.aconst_null, 1) := by decide +kernel
theorem dX3_findCoin_18 : decode cX3_findCoin 18 = .ok (.goto 4, 3) := by decide +kernel
theorem dX3_findCoin_21 : decode cX3_findCoin 21 = .ok (.aload_n 2, 1) := by decide +kernel
theorem dX3_findCoin_22 : decode cX3_findCoin 22 = .ok (.areturn, 1) := by decide +kernel
set_option maxRecDepth 20000 in
set_option maxHeartbeats 4000000 in
theorem c_X3_findCoin {a : Nat → Nat} {q : Nat → ClassId} {x1 : Int32}  {sz : Int32} {pr : Nat → Int32} {pm : Nat → Nat} {kv : Nat → Int32} {kn : Nat → Int32} {kr : Nat → Int32} {kt : Nat → Int32} {kb : Nat → Int32} {ks : Nat → Int32} {kj : Nat → Int32} {kw : Nat → Int32} {kg : Nat → Int32} {wd : Nat → Nat → Int64} {fw : Nat → Nat → Int32} {ad : Nat → Int32} {bk : Nat → Int32} {md : Int32} {cr : Int32} {ow : Int32} {hd : Int32} {K : Option Nat → Prop} (h : wp_X3_findCoin x1 sz kn K) : ctQ_0 q yX3_findCoin cX3_findCoin 3 1 21 [.ref (a 1), .int x1] (cgW a q sz pr pm kv kn kr kt kb ks kj kw kg wd fw ad bk md cr ow hd) (fun i => a (11 + i)) (cgW a q sz pr pm kv kn kr kt kb ks kj kw kg wd fw ad bk md cr ow hd) K := by
  refine met_Q_0 (by decide) (Nat.le_of_ble_eq_true rfl) (fun Γ g hret => ?_)
  unfold wp_X3_findCoin at h
  show jw Γ 3 0 0 (cgW a q sz pr pm kv kn kr kt kb ks kj kw kg wd fw ad bk md cr ow hd) [(0, .ref (a 1)), (1, .int x1)] [] 0
  refine j_aload_n g 0 rfl dX3_findCoin_0 ?_
  refine j_iload_n g 1 rfl dX3_findCoin_1 ?_
  refine j_callVQ_0 g (As := [.int x1]) (st := []) (c_X3_find  h) cl_X3_29 1 3 cg_1 rfl rfl (Nat.le_of_ble_eq_true rfl) (Nat.le_of_ble_eq_true rfl) (Nat.zero_le _) (Nat.zero_le _) rfl rfl (Nat.le_of_ble_eq_true rfl) dX3_findCoin_2 (fun  h => ?_) (fun i_1  hi_1 h => ?_)
  · replace h := h.1 rfl
    refine j_astore_nN g (lv' := [(2, .null), (0, .ref (a 1)), (1, .int x1)]) (by decide) rfl dX3_findCoin_5 ?_
    refine j_aload_nN g 0 rfl dX3_findCoin_6 ?_
    refine j_ifnullN g dX3_findCoin_7 (tgt := 17) (by decide) ?_
    refine j_null g dX3_findCoin_17 ?_
    refine j_goto g dX3_findCoin_18 (tgt := 22) (by decide) ?_
    exact hret.goN dX3_findCoin_22 h
  replace h := h.2 i_1 rfl hi_1
  refine j_astore_n g (lv' := [(2, .ref (a (11 + i_1))), (0, .ref (a 1)), (1, .int x1)]) (by decide) rfl dX3_findCoin_5 ?_
  refine j_aload_n g 0 rfl dX3_findCoin_6 ?_
  refine j_ifnull g dX3_findCoin_7 ?_
  refine j_aload_n g 0 rfl dX3_findCoin_10 ?_
  refine j_get g fl_X3_33 (11 + i_1) (cg_K hi_1) rfl dX3_findCoin_11 ?_
  refine j_if_eq g dX3_findCoin_14 (tgt := 21) (by decide) (fun c2 => ?_) (fun c2 => ?_)
  · replace h := h.1 c2
    refine j_aload_n g 0 rfl dX3_findCoin_21 ?_
    exact hret.go dX3_findCoin_22 hi_1 h
  replace h := h.2 c2
  refine j_null g dX3_findCoin_17 ?_
  refine j_goto g dX3_findCoin_18 (tgt := 22) (by decide) ?_
  exact hret.goN dX3_findCoin_22 h

set_option maxRecDepth 20000 in
def wp_X3_hasValue_2 (x1 : Int32) (sz : Int32) (kv : Nat → Int32) (K : Int32 → Prop) (X : Prop) : Nat → Int32 → Prop
  | 0, _ => False
  | n + 1, x2 => ((sz ≤ x2 → X) ∧ (¬ sz ≤ x2 → (vp_in x2 6 ∧ ((¬ kv x2.toNatClampNeg = x1 → wp_X3_hasValue_2 x1 sz kv K X n (x2 + 1)) ∧ (kv x2.toNatClampNeg = x1 → K (1 : Int32))))))
set_option maxRecDepth 20000 in
def wp_X3_hasValue (x1 : Int32) (sz : Int32) (kv : Nat → Int32) (K : Int32 → Prop) : Prop :=
  ∃ n1 : Nat, wp_X3_hasValue_2 x1 sz kv K (K (0 : Int32)) n1 (0 : Int32)
theorem dX3_hasValue_0 : decode cX3_hasValue 0 = .ok (.iconst 0, 1) := by decide +kernel
theorem dX3_hasValue_1 : decode cX3_hasValue 1 = .ok (.istore_n 2, 1) := by decide +kernel
theorem dX3_hasValue_2 : decode cX3_hasValue 2 = .ok (.iload_n 2, 1) := by decide +kernel
theorem dX3_hasValue_3 : decode cX3_hasValue 3 = .ok (.aload_n 0, 1) := by decide +kernel
theorem dX3_hasValue_4 : decode cX3_hasValue 4 = .ok (.getfield 24, 3) := by decide +kernel
theorem dX3_hasValue_7 : decode cX3_hasValue 7 = .ok (.if_icmp .ge 24, 3) := by decide +kernel
theorem dX3_hasValue_10 : decode cX3_hasValue 10 = .ok (.aload_n 0, 1) := by decide +kernel
theorem dX3_hasValue_11 : decode cX3_hasValue 11 = .ok (.getfield 11, 3) := by decide +kernel
theorem dX3_hasValue_14 : decode cX3_hasValue 14 = .ok (.iload_n 2, 1) := by decide +kernel
theorem dX3_hasValue_15 : decode cX3_hasValue 15 = .ok (.aaload, 1) := by decide +kernel
theorem dX3_hasValue_16 : decode cX3_hasValue 16 = .ok (.getfield 41, 3) := by decide +kernel
theorem dX3_hasValue_19 : decode cX3_hasValue 19 = .ok (.iload_n 1, 1) := by decide +kernel
theorem dX3_hasValue_20 : decode cX3_hasValue 20 = .ok (.if_icmp .ne 5, 3) := by decide +kernel
theorem dX3_hasValue_23 : decode cX3_hasValue 23 = .ok (.iconst 1, 1) := by decide +kernel
theorem dX3_hasValue_24 : decode cX3_hasValue 24 = .ok (.ireturn, 1) := by decide +kernel
theorem dX3_hasValue_25 : decode cX3_hasValue 25 = .ok (.iinc 2 1, 3) := by decide +kernel
theorem dX3_hasValue_28 : decode cX3_hasValue 28 = .ok (.goto (-26), 3) := by decide +kernel
theorem dX3_hasValue_31 : decode cX3_hasValue 31 = .ok (.iconst 0, 1) := by decide +kernel
theorem dX3_hasValue_32 : decode cX3_hasValue 32 = .ok (.ireturn, 1) := by decide +kernel
set_option maxRecDepth 20000 in
set_option maxHeartbeats 4000000 in
theorem wk_X3_hasValue_2 {Γ : GT} {a : Nat → Nat} {q : Nat → ClassId} {x1 : Int32}  {sz : Int32} {pr : Nat → Int32} {pm : Nat → Nat} {kv : Nat → Int32} {kn : Nat → Int32} {kr : Nat → Int32} {kt : Nat → Int32} {kb : Nat → Int32} {ks : Nat → Int32} {kj : Nat → Int32} {kw : Nat → Int32} {kg : Nat → Int32} {wd : Nat → Nat → Int64} {fw : Nat → Nat → Int32} {ad : Nat → Int32} {bk : Nat → Int32} {md : Int32} {cr : Int32} {ow : Int32} {hd : Int32} {K : Int32 → Prop} {X : Prop} (g : gd Γ cX3_hasValue RX3 3 (rmz 0 0) q) (hret : rtZ_0 Γ cX3_hasValue 3 (cgW a q sz pr pm kv kn kr kt kb ks kj kw kg wd fw ad bk md cr ow hd) K) (hX : X → jw Γ 3 0 0 (cgW a q sz pr pm kv kn kr kt kb ks kj kw kg wd fw ad bk md cr ow hd) [] [] 31) :
    ∀ (n : Nat) (x2 : Int32) , wp_X3_hasValue_2 x1 sz kv K X n x2 → jw Γ 3 0 0 (cgW a q sz pr pm kv kn kr kt kb ks kj kw kg wd fw ad bk md cr ow hd) [(0, .ref (a 1)), (1, .int x1), (2, .int x2)] [] 2 := by
  intro n
  induction n with
  | zero =>
    intro _ h
    exact False.elim h
  | succ n ih =>
    intro x2 h
    unfold wp_X3_hasValue_2 at h
    refine j_iload_n g 2 rfl dX3_hasValue_2 ?_
    refine j_aload_n g 0 rfl dX3_hasValue_3 ?_
    refine j_get g fl_X3_24 1 cg_1 rfl dX3_hasValue_4 ?_
    refine j_icmp_ge g dX3_hasValue_7 (tgt := 31) (by decide) (fun c1 => ?_) (fun c1 => ?_)
    · replace h := h.1 c1
      refine j_sub [] rfl ?_
      exact hX h
    replace h := h.2 c1
    refine j_aload_n g 0 rfl dX3_hasValue_10 ?_
    refine j_get g fl_X3_11 1 cg_1 rfl dX3_hasValue_11 ?_
    refine j_iload_n g 2 rfl dX3_hasValue_14 ?_
    obtain ⟨hv2, h⟩ := h
    refine j_aald g 2 3 cg_2 rfl (by decide) hv2 rfl dX3_hasValue_15 ?_
    refine j_get g fl_X3_41 (11 + x2.toNatClampNeg) (cg_K (vp_lt hv2)) rfl dX3_hasValue_16 ?_
    refine j_iload_n g 1 rfl dX3_hasValue_19 ?_
    refine j_icmp_ne g dX3_hasValue_20 (tgt := 25) (by decide) (fun c3 => ?_) (fun c3 => ?_)
    rotate_left
    · replace h := h.2 c3
      refine j_iconst g (v := 1) (by decide) dX3_hasValue_23 ?_
      exact hret.go dX3_hasValue_24 (Or.inr rfl) h
    replace h := h.1 c3
    refine j_iinc g 2 (n := 1) (v := x2 + 1) (lv' := [(2, .int (x2 + 1)), (0, .ref (a 1)), (1, .int x1)]) rfl rfl (by decide) rfl dX3_hasValue_25 ?_
    refine j_goto g dX3_hasValue_28 (tgt := 2) (by decide) ?_
    refine j_sub [1, 2, 0] rfl ?_
    exact ih (x2 + 1) h
set_option maxRecDepth 20000 in
set_option maxHeartbeats 4000000 in
theorem c_X3_hasValue {a : Nat → Nat} {q : Nat → ClassId} {x1 : Int32}  {sz : Int32} {pr : Nat → Int32} {pm : Nat → Nat} {kv : Nat → Int32} {kn : Nat → Int32} {kr : Nat → Int32} {kt : Nat → Int32} {kb : Nat → Int32} {ks : Nat → Int32} {kj : Nat → Int32} {kw : Nat → Int32} {kg : Nat → Int32} {wd : Nat → Nat → Int64} {fw : Nat → Nat → Int32} {ad : Nat → Int32} {bk : Nat → Int32} {md : Int32} {cr : Int32} {ow : Int32} {hd : Int32} {K : Int32 → Prop} (h : wp_X3_hasValue x1 sz kv K) : ctZ_0 q yX3_hasValue cX3_hasValue 3 0 0 [.ref (a 1), .int x1] (cgW a q sz pr pm kv kn kr kt kb ks kj kw kg wd fw ad bk md cr ow hd) (cgW a q sz pr pm kv kn kr kt kb ks kj kw kg wd fw ad bk md cr ow hd) K := by
  refine met_Z_0 (by decide) (Nat.le_of_ble_eq_true rfl) (fun Γ g hret => ?_)
  unfold wp_X3_hasValue at h
  show jw Γ 3 0 0 (cgW a q sz pr pm kv kn kr kt kb ks kj kw kg wd fw ad bk md cr ow hd) [(0, .ref (a 1)), (1, .int x1)] [] 0
  refine j_iconst g (v := 0) (by decide) dX3_hasValue_0 ?_
  refine j_istore_n g (lv' := [(2, .int (0 : Int32)), (0, .ref (a 1)), (1, .int x1)]) (by decide) rfl dX3_hasValue_1 ?_
  obtain ⟨n1, h⟩ := h
  refine j_sub [1, 2, 0] rfl ?_
  refine wk_X3_hasValue_2  g hret (fun h => ?_) n1 (0 : Int32) h
  refine j_iconst g (v := 0) (by decide) dX3_hasValue_31 ?_
  exact hret.go dX3_hasValue_32 (Or.inl rfl) h

set_option maxRecDepth 20000 in
def wp_X3_add_54 (x1 : Int32) (i4 : Nat) (kv : Nat → Int32) (K : Int32 → Int32 → (Nat → Nat) → (Nat → Int32) → (Nat → Int32) → (Nat → Int32) → Prop) (X : Int32 → (Nat → Nat) → Prop) : Nat → Int32 → (Nat → Nat) → Prop
  | 0, _, _ => False
  | n + 1, x5, pm => ((x5 ≤ 0 → X x5 pm) ∧ (¬ x5 ≤ 0 → (vp_in (x5 - (1 : Int32)) 6 ∧ pm (x5 - (1 : Int32)).toNatClampNeg < 6 ∧ ((kv (pm (x5 - (1 : Int32)).toNatClampNeg) ≤ x1 → X x5 pm) ∧ (¬ kv (pm (x5 - (1 : Int32)).toNatClampNeg) ≤ x1 → (vp_in (x5 - (1 : Int32)) 6 ∧ pm (x5 - (1 : Int32)).toNatClampNeg < 6 ∧ (vp_in x5 6 ∧ wp_X3_add_54 x1 i4 kv K X n (x5 + (-1 : Int32)) (va_up pm x5.toNatClampNeg (pm (x5 - (1 : Int32)).toNatClampNeg)))))))))
set_option maxRecDepth 20000 in
def wp_X3_add (x1 : Int32) (x2 : Int32) (x3 : Int32) (sz : Int32) (pm : Nat → Nat) (kv : Nat → Int32) (kn : Nat → Int32) (kr : Nat → Int32) (K : Int32 → Int32 → (Nat → Nat) → (Nat → Int32) → (Nat → Int32) → (Nat → Int32) → Prop) : Prop :=
  (((6 : Int32) ≤ sz → K (-1 : Int32) sz pm kv kn kr) ∧ (¬ (6 : Int32) ≤ sz → wp_X3_hasValue x1 sz kv (fun (r_2 : Int32)  => ((r_2 = 0 → (vp_in sz 6 ∧ ∃ n5 : Nat, wp_X3_add_54 x1 sz.toNatClampNeg (upd kv sz.toNatClampNeg x1) K (fun (x5_5 : Int32) (pm_5 : Nat → Nat) => (vp_in x5_5 6 ∧ K ((sz + (1 : Int32)) - (1 : Int32)) (sz + (1 : Int32)) (va_up pm_5 x5_5.toNatClampNeg sz.toNatClampNeg) (upd kv sz.toNatClampNeg x1) (upd kn sz.toNatClampNeg x3) (upd kr sz.toNatClampNeg x2))) n5 sz pm)) ∧ (¬ r_2 = 0 → K (-1 : Int32) sz pm kv kn kr)))))
theorem dX3_add_0 : decode cX3_add 0 = .ok (.aload_n 0, 1) := by decide +kernel
theorem dX3_add_1 : decode cX3_add 1 = .ok (.getfield 24, 3) := by decide +kernel
theorem dX3_add_4 : decode cX3_add 4 = .ok (.bipush 6, 2) := by decide +kernel
theorem dX3_add_6 : decode cX3_add 6 = .ok (.if_icmp .ge 11, 3) := by decide +kernel
theorem dX3_add_9 : decode cX3_add 9 = .ok (.aload_n 0, 1) := by decide +kernel
theorem dX3_add_10 : decode cX3_add 10 = .ok (.iload_n 1, 1) := by decide +kernel
theorem dX3_add_11 : decode cX3_add 11 = .ok (.invokevirtual 37, 3) := by decide +kernel
theorem dX3_add_14 : decode cX3_add 14 = .ok (.ifCond .eq 5, 3) := by decide +kernel
theorem dX3_add_17 : decode cX3_add 17 = .ok (.iconst (-1), 1) := by decide +kernel
theorem dX3_add_18 : decode cX3_add 18 = .ok (.ireturn, 1) := by decide +kernel
theorem dX3_add_19 : decode cX3_add 19 = .ok (.aload_n 0, 1) := by decide +kernel
theorem dX3_add_20 : decode cX3_add 20 = .ok (.getfield 11, 3) := by decide +kernel
theorem dX3_add_23 : decode cX3_add 23 = .ok (.aload_n 0, 1) := by decide +kernel
theorem dX3_add_24 : decode cX3_add 24 = .ok (.getfield 24, 3) := by decide +kernel
theorem dX3_add_27 : decode cX3_add 27 = .ok (.aaload, 1) := by decide +kernel
theorem dX3_add_28 : decode cX3_add 28 = .ok (.astore 4, 2) := by decide +kernel
theorem dX3_add_30 : decode cX3_add 30 = .ok (.aload 4, 2) := by decide +kernel
theorem dX3_add_32 : decode cX3_add 32 = .ok (.iload_n 1, 1) := by decide +kernel
theorem dX3_add_33 : decode cX3_add 33 = .ok (.putfield 41, 3) := by decide +kernel
theorem dX3_add_36 : decode cX3_add 36 = .ok (.aload 4, 2) := by decide +kernel
theorem dX3_add_38 : decode cX3_add 38 = .ok (.iload_n 2, 1) := by decide +kernel
theorem dX3_add_39 : decode cX3_add 39 = .ok (.putfield 44, 3) := by decide +kernel
theorem dX3_add_42 : decode cX3_add 42 = .ok (.aload 4, 2) := by decide +kernel
theorem dX3_add_44 : decode cX3_add 44 = .ok (.iload_n 3, 1) := by decide +kernel
theorem dX3_add_45 : decode cX3_add 45 = .ok (.putfield 33, 3) := by decide +kernel
theorem dX3_add_48 : decode cX3_add 48 = .ok (.aload_n 0, 1) := by decide +kernel
theorem dX3_add_49 : decode cX3_add 49 = .ok (.getfield 24, 3) := by decide +kernel
theorem dX3_add_52 : decode cX3_add 52 = .ok (.istore 5, 2) := by decide +kernel
theorem dX3_add_54 : decode cX3_add 54 = .ok (.iload 5, 2) := by decide +kernel
theorem dX3_add_56 : decode cX3_add 56 = .ok (.ifCond .le 41, 3) := by decide +kernel
theorem dX3_add_59 : decode cX3_add 59 = .ok (.aload_n 0, 1) := by decide +kernel
theorem dX3_add_60 : decode cX3_add 60 = .ok (.getfield 17, 3) := by decide +kernel
theorem dX3_add_63 : decode cX3_add 63 = .ok (.iload 5, 2) := by decide +kernel
theorem dX3_add_65 : decode cX3_add 65 = .ok (.iconst 1, 1) := by decide +kernel
theorem dX3_add_66 : decode cX3_add 66 = .ok (.isub, 1) := by decide +kernel
theorem dX3_add_67 : decode cX3_add 67 = .ok (.aaload, 1) := by decide +kernel
theorem dX3_add_68 : decode cX3_add 68 = .ok (.getfield 41, 3) := by decide +kernel
theorem dX3_add_71 : decode cX3_add 71 = .ok (.iload_n 1, 1) := by decide +kernel
theorem dX3_add_72 : decode cX3_add 72 = .ok (.if_icmp .le 25, 3) := by decide +kernel
theorem dX3_add_75 : decode cX3_add 75 = .ok (.aload_n 0, 1) := by decide +kernel
theorem dX3_add_76 : decode cX3_add 76 = .ok (.getfield 17, 3) := by decide +kernel
theorem dX3_add_79 : decode cX3_add 79 = .ok (.iload 5, 2) := by decide +kernel
theorem dX3_add_81 : decode cX3_add 81 = .ok (.aload_n 0, 1) := by decide +kernel
theorem dX3_add_82 : decode cX3_add 82 = .ok (.getfield 17, 3) := by decide +kernel
theorem dX3_add_85 : decode cX3_add 85 = .ok (.iload 5, 2) := by decide +kernel
theorem dX3_add_87 : decode cX3_add 87 = .ok (.iconst 1, 1) := by decide +kernel
theorem dX3_add_88 : decode cX3_add 88 = .ok (.isub, 1) := by decide +kernel
theorem dX3_add_89 : decode cX3_add 89 = .ok (.aaload, 1) := by decide +kernel
theorem dX3_add_90 : decode cX3_add 90 = .ok (.aastore, 1) := by decide +kernel
theorem dX3_add_91 : decode cX3_add 91 = .ok (.iinc 5 (-1), 3) := by decide +kernel
theorem dX3_add_94 : decode cX3_add 94 = .ok (.goto (-40), 3) := by decide +kernel
theorem dX3_add_97 : decode cX3_add 97 = .ok (.aload_n 0, 1) := by decide +kernel
theorem dX3_add_98 : decode cX3_add 98 = .ok (.getfield 17, 3) := by decide +kernel
theorem dX3_add_101 : decode cX3_add 101 = .ok (.iload 5, 2) := by decide +kernel
theorem dX3_add_103 : decode cX3_add 103 = .ok (.aload 4, 2) := by decide +kernel
theorem dX3_add_105 : decode cX3_add 105 = .ok (.aastore, 1) := by decide +kernel
theorem dX3_add_106 : decode cX3_add 106 = .ok (.aload_n 0, 1) := by decide +kernel
theorem dX3_add_107 : decode cX3_add 107 = .ok (.dup, 1) := by decide +kernel
theorem dX3_add_108 : decode cX3_add 108 = .ok (.getfield 24, 3) := by decide +kernel
theorem dX3_add_111 : decode cX3_add 111 = .ok (.iconst 1, 1) := by decide +kernel
theorem dX3_add_112 : decode cX3_add 112 = .ok (.iadd, 1) := by decide +kernel
theorem dX3_add_113 : decode cX3_add 113 = .ok (.putfield 24, 3) := by decide +kernel
theorem dX3_add_116 : decode cX3_add 116 = .ok (.aload_n 0, 1) := by decide +kernel
theorem dX3_add_117 : decode cX3_add 117 = .ok (.getfield 24, 3) := by decide +kernel
theorem dX3_add_120 : decode cX3_add 120 = .ok (.iconst 1, 1) := by decide +kernel
theorem dX3_add_121 : decode cX3_add 121 = .ok (.isub, 1) := by decide +kernel
theorem dX3_add_122 : decode cX3_add 122 = .ok (.ireturn, 1) := by decide +kernel
set_option maxRecDepth 20000 in
set_option maxHeartbeats 4000000 in
theorem wk_X3_add_54 {Γ : GT} {a : Nat → Nat} {q : Nat → ClassId} {x1 : Int32} {i4 : Nat} (hi4 : i4 < 6) {sz : Int32} {pr : Nat → Int32} {kv : Nat → Int32} {kn : Nat → Int32} {kr : Nat → Int32} {kt : Nat → Int32} {kb : Nat → Int32} {ks : Nat → Int32} {kj : Nat → Int32} {kw : Nat → Int32} {kg : Nat → Int32} {wd : Nat → Nat → Int64} {fw : Nat → Nat → Int32} {ad : Nat → Int32} {bk : Nat → Int32} {md : Int32} {cr : Int32} {ow : Int32} {hd : Int32} {K : Int32 → Int32 → (Nat → Nat) → (Nat → Int32) → (Nat → Int32) → (Nat → Int32) → Prop} {X : Int32 → (Nat → Nat) → Prop} (g : gd Γ cX3_add RX3 6 (rmz 1 22) q) (hret : rtI_5 Γ cX3_add 6 (fun (sz : Int32) (pm : Nat → Nat) (kv : Nat → Int32) (kn : Nat → Int32) (kr : Nat → Int32) => (cgW a q sz pr pm kv kn kr kt kb ks kj kw kg wd fw ad bk md cr ow hd)) K) (hX : ∀ (x5 : Int32) (pm : Nat → Nat) , X x5 pm → jw Γ 6 0 0 (cgW a q sz pr pm kv kn kr kt kb ks kj kw kg wd fw ad bk md cr ow hd) [(0, .ref (a 1)), (4, .ref (a (11 + i4))), (5, .int x5)] [] 97) :
    ∀ (n : Nat) (x5 : Int32) (pm : Nat → Nat) , wp_X3_add_54 x1 i4 kv K X n x5 pm → jw Γ 6 0 0 (cgW a q sz pr pm kv kn kr kt kb ks kj kw kg wd fw ad bk md cr ow hd) [(0, .ref (a 1)), (1, .int x1), (4, .ref (a (11 + i4))), (5, .int x5)] [] 54 := by
  intro n
  induction n with
  | zero =>
    intro _ _ h
    exact False.elim h
  | succ n ih =>
    intro x5 pm h
    unfold wp_X3_add_54 at h
    refine j_iload g 3 rfl dX3_add_54 ?_
    refine j_if_le g dX3_add_56 (tgt := 97) (by decide) (fun c1 => ?_) (fun c1 => ?_)
    · replace h := h.1 c1
      refine j_sub [0, 2, 3] rfl ?_
      exact hX x5 pm h
    replace h := h.2 c1
    refine j_aload_n g 0 rfl dX3_add_59 ?_
    refine j_get g fl_X3_17 1 cg_1 rfl dX3_add_60 ?_
    refine j_iload g 3 rfl dX3_add_63 ?_
    refine j_iconst g (v := 1) (by decide) dX3_add_65 ?_
    refine j_isub g dX3_add_66 ?_
    obtain ⟨hv2, hv2p, h⟩ := h
    refine j_aald g 3 3 cg_3 rfl (by decide) hv2 rfl dX3_add_67 ?_
    refine j_get g fl_X3_41 (11 + (pm (x5 - (1 : Int32)).toNatClampNeg)) (cg_K hv2p) rfl dX3_add_68 ?_
    refine j_iload_n g 1 rfl dX3_add_71 ?_
    refine j_icmp_le g dX3_add_72 (tgt := 97) (by decide) (fun c3 => ?_) (fun c3 => ?_)
    · replace h := h.1 c3
      refine j_sub [0, 2, 3] rfl ?_
      exact hX x5 pm h
    replace h := h.2 c3
    refine j_aload_n g 0 rfl dX3_add_75 ?_
    refine j_get g fl_X3_17 1 cg_1 rfl dX3_add_76 ?_
    refine j_iload g 3 rfl dX3_add_79 ?_
    refine j_aload_n g 0 rfl dX3_add_81 ?_
    refine j_get g fl_X3_17 1 cg_1 rfl dX3_add_82 ?_
    refine j_iload g 3 rfl dX3_add_85 ?_
    refine j_iconst g (v := 1) (by decide) dX3_add_87 ?_
    refine j_isub g dX3_add_88 ?_
    obtain ⟨hv4, hv4p, h⟩ := h
    refine j_aald g 3 3 cg_3 rfl (by decide) hv4 rfl dX3_add_89 ?_
    obtain ⟨hv5, h⟩ := h
    refine j_aast g 3 3 (11 + (pm (x5 - (1 : Int32)).toNatClampNeg)) 0 cg_3 rfl (cg_K hv4p) rfl hv5 (ws' := (cgW a q sz pr (va_up pm x5.toNatClampNeg (pm (x5 - (1 : Int32)).toNatClampNeg)) kv kn kr kt kb ks kj kw kg wd fw ad bk md cr ow hd)) cg_s_pm dX3_add_90 ?_
    refine j_iinc g 3 (n := -1) (v := x5 + (-1 : Int32)) (lv' := [(5, .int (x5 + (-1 : Int32))), (0, .ref (a 1)), (1, .int x1), (4, .ref (a (11 + i4)))]) rfl rfl (by decide) rfl dX3_add_91 ?_
    refine j_goto g dX3_add_94 (tgt := 54) (by decide) ?_
    refine j_sub [1, 2, 3, 0] rfl ?_
    exact ih (x5 + (-1 : Int32)) (va_up pm x5.toNatClampNeg (pm (x5 - (1 : Int32)).toNatClampNeg)) h
set_option maxRecDepth 20000 in
set_option maxHeartbeats 4000000 in
theorem c_X3_add {a : Nat → Nat} {q : Nat → ClassId} {x1 : Int32} {x2 : Int32} {x3 : Int32} (hz3 : x3 = 0 ∨ x3 = 1) {sz : Int32} {pr : Nat → Int32} {pm : Nat → Nat} {kv : Nat → Int32} {kn : Nat → Int32} {kr : Nat → Int32} {kt : Nat → Int32} {kb : Nat → Int32} {ks : Nat → Int32} {kj : Nat → Int32} {kw : Nat → Int32} {kg : Nat → Int32} {wd : Nat → Nat → Int64} {fw : Nat → Nat → Int32} {ad : Nat → Int32} {bk : Nat → Int32} {md : Int32} {cr : Int32} {ow : Int32} {hd : Int32} {K : Int32 → Int32 → (Nat → Nat) → (Nat → Int32) → (Nat → Int32) → (Nat → Int32) → Prop} (h : wp_X3_add x1 x2 x3 sz pm kv kn kr K) : ctI_5 q yX3_add cX3_add 6 1 22 [.ref (a 1), .int x1, .int x2, .int x3] (cgW a q sz pr pm kv kn kr kt kb ks kj kw kg wd fw ad bk md cr ow hd) (fun (sz : Int32) (pm : Nat → Nat) (kv : Nat → Int32) (kn : Nat → Int32) (kr : Nat → Int32) => (cgW a q sz pr pm kv kn kr kt kb ks kj kw kg wd fw ad bk md cr ow hd)) K := by
  refine met_I_5 (by decide) (Nat.le_of_ble_eq_true rfl) (fun Γ g hret => ?_)
  unfold wp_X3_add at h
  show jw Γ 6 0 0 (cgW a q sz pr pm kv kn kr kt kb ks kj kw kg wd fw ad bk md cr ow hd) [(0, .ref (a 1)), (1, .int x1), (2, .int x2), (3, .int x3)] [] 0
  refine j_aload_n g 0 rfl dX3_add_0 ?_
  refine j_get g fl_X3_24 1 cg_1 rfl dX3_add_1 ?_
  refine j_bipush g (v := 6) (by decide) dX3_add_4 ?_
  refine j_icmp_ge g dX3_add_6 (tgt := 17) (by decide) (fun c1 => ?_) (fun c1 => ?_)
  · replace h := h.1 c1
    refine j_iconst g (v := -1) (by decide) dX3_add_17 ?_
    exact hret.go dX3_add_18 h
  replace h := h.2 c1
  refine j_aload_n g 0 rfl dX3_add_9 ?_
  refine j_iload_n g 1 rfl dX3_add_10 ?_
  refine j_callVZ_0 g (As := [.int x1]) (st := []) (c_X3_hasValue  h) cl_X3_37 1 3 cg_1 rfl rfl (Nat.le_of_ble_eq_true rfl) (Nat.le_of_ble_eq_true rfl) (Nat.zero_le _) (Nat.zero_le _) rfl rfl (Nat.le_of_ble_eq_true rfl) dX3_add_11 (fun r_2  hz_2 h => ?_)
  refine j_if_eq g dX3_add_14 (tgt := 19) (by decide) (fun c3 => ?_) (fun c3 => ?_)
  rotate_left
  · replace h := h.2 c3
    refine j_iconst g (v := -1) (by decide) dX3_add_17 ?_
    exact hret.go dX3_add_18 h
  replace h := h.1 c3
  refine j_aload_n g 0 rfl dX3_add_19 ?_
  refine j_get g fl_X3_11 1 cg_1 rfl dX3_add_20 ?_
  refine j_aload_n g 0 rfl dX3_add_23 ?_
  refine j_get g fl_X3_24 1 cg_1 rfl dX3_add_24 ?_
  obtain ⟨hv4, h⟩ := h
  refine j_aald g 2 3 cg_2 rfl (by decide) hv4 rfl dX3_add_27 ?_
  refine j_astore g (lv' := [(4, .ref (a (11 + sz.toNatClampNeg))), (0, .ref (a 1)), (1, .int x1), (2, .int x2), (3, .int x3)]) (by decide) rfl dX3_add_28 ?_
  refine j_aload g 0 rfl dX3_add_30 ?_
  refine j_iload_n g 2 rfl dX3_add_32 ?_
  refine j_put g fl_X3_41 fp_X0_0 (11 + sz.toNatClampNeg) (cg_K (vp_lt hv4)) rfl rfl (Nat.le_of_ble_eq_true rfl) (ws' := (cgW a q sz pr pm (upd kv sz.toNatClampNeg x1) kn kr kt kb ks kj kw kg wd fw ad bk md cr ow hd)) (cg_s_kv (vp_lt hv4)) dX3_add_33 ?_
  refine j_aload g 0 rfl dX3_add_36 ?_
  refine j_iload_n g 3 rfl dX3_add_38 ?_
  refine j_put g fl_X3_44 fp_X0_2 (11 + sz.toNatClampNeg) (cg_K (vp_lt hv4)) rfl rfl (Nat.le_of_ble_eq_true rfl) (ws' := (cgW a q sz pr pm (upd kv sz.toNatClampNeg x1) kn (upd kr sz.toNatClampNeg x2) kt kb ks kj kw kg wd fw ad bk md cr ow hd)) (cg_s_kr (vp_lt hv4)) dX3_add_39 ?_
  refine j_aload g 0 rfl dX3_add_42 ?_
  refine j_iload_n g 4 rfl dX3_add_44 ?_
  refine j_put g fl_X3_33 fp_X0_1 (11 + sz.toNatClampNeg) (cg_K (vp_lt hv4)) (nz_z hz3) (nz_f hz3) (Nat.le_of_ble_eq_true rfl) (ws' := (cgW a q sz pr pm (upd kv sz.toNatClampNeg x1) (upd kn sz.toNatClampNeg x3) (upd kr sz.toNatClampNeg x2) kt kb ks kj kw kg wd fw ad bk md cr ow hd)) (cg_s_kn (vp_lt hv4)) dX3_add_45 ?_
  refine j_aload_n g 1 rfl dX3_add_48 ?_
  refine j_get g fl_X3_24 1 cg_1 rfl dX3_add_49 ?_
  refine j_istore g (lv' := [(5, .int sz), (4, .ref (a (11 + sz.toNatClampNeg))), (0, .ref (a 1)), (1, .int x1), (2, .int x2), (3, .int x3)]) (by decide) rfl dX3_add_52 ?_
  obtain ⟨n5, h⟩ := h
  refine j_sub [2, 3, 1, 0] rfl ?_
  refine wk_X3_add_54 (vp_lt hv4) g hret (fun x5_5 pm_5 h => ?_) n5 sz pm h
  refine j_aload_n g 0 rfl dX3_add_97 ?_
  refine j_get g fl_X3_17 1 cg_1 rfl dX3_add_98 ?_
  refine j_iload g 2 rfl dX3_add_101 ?_
  refine j_aload g 1 rfl dX3_add_103 ?_
  obtain ⟨hv6, h⟩ := h
  refine j_aast g 3 3 (11 + sz.toNatClampNeg) 0 cg_3 rfl (cg_K (vp_lt hv4)) rfl hv6 (ws' := (cgW a q sz pr (va_up pm_5 x5_5.toNatClampNeg sz.toNatClampNeg) (upd kv sz.toNatClampNeg x1) (upd kn sz.toNatClampNeg x3) (upd kr sz.toNatClampNeg x2) kt kb ks kj kw kg wd fw ad bk md cr ow hd)) cg_s_pm dX3_add_105 ?_
  refine j_aload_n g 0 rfl dX3_add_106 ?_
  refine j_dup g rfl dX3_add_107 ?_
  refine j_get g fl_X3_24 1 cg_1 rfl dX3_add_108 ?_
  refine j_iconst g (v := 1) (by decide) dX3_add_111 ?_
  refine j_iadd g dX3_add_112 ?_
  refine j_put g fl_X3_24 fp_X3_3 1 cg_1 rfl rfl (Nat.le_of_ble_eq_true rfl) (ws' := (cgW a q (sz + (1 : Int32)) pr (va_up pm_5 x5_5.toNatClampNeg sz.toNatClampNeg) (upd kv sz.toNatClampNeg x1) (upd kn sz.toNatClampNeg x3) (upd kr sz.toNatClampNeg x2) kt kb ks kj kw kg wd fw ad bk md cr ow hd)) rfl dX3_add_113 ?_
  refine j_aload_n g 0 rfl dX3_add_116 ?_
  refine j_get g fl_X3_24 1 cg_1 rfl dX3_add_117 ?_
  refine j_iconst g (v := 1) (by decide) dX3_add_120 ?_
  refine j_isub g dX3_add_121 ?_
  exact hret.go dX3_add_122 h

set_option maxRecDepth 20000 in
def wp_X3_fewestInTube_4  (sz : Int32) (kn : Nat → Int32) (kt : Nat → Int32) (ks : Nat → Int32) (K : Int32 → Prop) (X : Int32 → Prop) : Nat → Int32 → Int32 → Prop
  | 0, _, _ => False
  | n + 1, x1, x2 => ((sz ≤ x2 → X x1) ∧ (¬ sz ≤ x2 → (vp_in x2 6 ∧ wp_X0_gives x2.toNatClampNeg kn ks (fun (r_3 : Int32)  => ((r_3 = 0 → wp_X3_fewestInTube_4 sz kn kt ks K X n x1 (x2 + 1)) ∧ (¬ r_3 = 0 → ((x1 = (-1 : Int32) → wp_X3_fewestInTube_4 sz kn kt ks K X n (kt x2.toNatClampNeg) (x2 + 1)) ∧ (¬ x1 = (-1 : Int32) → ((x1 ≤ kt x2.toNatClampNeg → wp_X3_fewestInTube_4 sz kn kt ks K X n x1 (x2 + 1)) ∧ (¬ x1 ≤ kt x2.toNatClampNeg → wp_X3_fewestInTube_4 sz kn kt ks K X n (kt x2.toNatClampNeg) (x2 + 1)))))))))))
set_option maxRecDepth 20000 in
def wp_X3_fewestInTube  (sz : Int32) (kn : Nat → Int32) (kt : Nat → Int32) (ks : Nat → Int32) (K : Int32 → Prop) : Prop :=
  ∃ n1 : Nat, wp_X3_fewestInTube_4 sz kn kt ks K (fun (x1_1 : Int32) => K (if (0 : Int32) < x1_1 then x1_1 else (0 : Int32))) n1 (-1 : Int32) (0 : Int32)
theorem dX3_fewestInTube_0 : decode cX3_fewestInTube 0 = .ok (.iconst (-1), 1) := by decide +kernel
theorem dX3_fewestInTube_1 : decode cX3_fewestInTube 1 = .ok (.istore_n 1, 1) := by decide +kernel
theorem dX3_fewestInTube_2 : decode cX3_fewestInTube 2 = .ok (.iconst 0, 1) := by decide +kernel
theorem dX3_fewestInTube_3 : decode cX3_fewestInTube 3 = .ok (.istore_n 2, 1) := by decide +kernel
theorem dX3_fewestInTube_4 : decode cX3_fewestInTube 4 = .ok (.iload_n 2, 1) := by decide +kernel
theorem dX3_fewestInTube_5 : decode cX3_fewestInTube 5 = .ok (.aload_n 0, 1) := by decide +kernel
theorem dX3_fewestInTube_6 : decode cX3_fewestInTube 6 = .ok (.getfield 24, 3) := by decide +kernel
theorem dX3_fewestInTube_9 : decode cX3_fewestInTube 9 = .ok (.if_icmp .ge 41, 3) := by decide +kernel
theorem dX3_fewestInTube_12 : decode cX3_fewestInTube 12 = .ok (.aload_n 0, 1) := by decide +kernel
theorem dX3_fewestInTube_13 : decode cX3_fewestInTube 13 = .ok (.getfield 11, 3) := by decide +kernel
theorem dX3_fewestInTube_16 : decode cX3_fewestInTube 16 = .ok (.iload_n 2, 1) := by decide +kernel
theorem dX3_fewestInTube_17 : decode cX3_fewestInTube 17 = .ok (.aaload, 1) := by decide +kernel
theorem dX3_fewestInTube_18 : decode cX3_fewestInTube 18 = .ok (.astore_n 3, 1) := by decide +kernel
theorem dX3_fewestInTube_19 : decode cX3_fewestInTube 19 = .ok (.aload_n 3, 1) := by decide +kernel
theorem dX3_fewestInTube_20 : decode cX3_fewestInTube 20 = .ok (.invokevirtual 47, 3) := by decide +kernel
theorem dX3_fewestInTube_23 : decode cX3_fewestInTube 23 = .ok (.ifCond .eq 21, 3) := by decide +kernel
theorem dX3_fewestInTube_26 : decode cX3_fewestInTube 26 = .ok (.iload_n 1, 1) := by decide +kernel
theorem dX3_fewestInTube_27 : decode cX3_fewestInTube 27 = .ok (.iconst (-1), 1) := by decide +kernel
theorem dX3_fewestInTube_28 : decode cX3_fewestInTube 28 = .ok (.if_icmp .eq 11, 3) := by decide +kernel
theorem dX3_fewestInTube_31 : decode cX3_fewestInTube 31 = .ok (.aload_n 3, 1) := by decide +kernel
theorem dX3_fewestInTube_32 : decode cX3_fewestInTube 32 = .ok (.getfield 51, 3) := by decide +kernel
theorem dX3_fewestInTube_35 : decode cX3_fewestInTube 35 = .ok (.iload_n 1, 1) := by decide +kernel
theorem dX3_fewestInTube_36 : decode cX3_fewestInTube 36 = .ok (.if_icmp .ge 8, 3) := by decide +kernel
theorem dX3_fewestInTube_39 : decode cX3_fewestInTube 39 = .ok (.aload_n 3, 1) := by decide +kernel
theorem dX3_fewestInTube_40 : decode cX3_fewestInTube 40 = .ok (.getfield 51, 3) := by decide +kernel
theorem dX3_fewestInTube_43 : decode cX3_fewestInTube 43 = .ok (.istore_n 1, 1) := by decide +kernel
theorem dX3_fewestInTube_44 : decode cX3_fewestInTube 44 = .ok (.iinc 2 1, 3) := by decide +kernel
theorem dX3_fewestInTube_47 : decode cX3_fewestInTube 47 = .ok (.goto (-43), 3) := by decide +kernel
theorem dX3_fewestInTube_50 : decode cX3_fewestInTube 50 = .ok (.iconst 0, 1) := by decide +kernel
theorem dX3_fewestInTube_51 : decode cX3_fewestInTube 51 = .ok (.iload_n 1, 1) := by decide +kernel
theorem dX3_fewestInTube_52 : decode cX3_fewestInTube 52 = .ok (.invokestatic 54, 3) := by decide +kernel
theorem dX3_fewestInTube_55 : decode cX3_fewestInTube 55 = .ok (.ireturn, 1) := by decide +kernel
set_option maxRecDepth 20000 in
set_option maxHeartbeats 4000000 in
theorem wk_X3_fewestInTube_4 {Γ : GT} {a : Nat → Nat} {q : Nat → ClassId}   {sz : Int32} {pr : Nat → Int32} {pm : Nat → Nat} {kv : Nat → Int32} {kn : Nat → Int32} {kr : Nat → Int32} {kt : Nat → Int32} {kb : Nat → Int32} {ks : Nat → Int32} {kj : Nat → Int32} {kw : Nat → Int32} {kg : Nat → Int32} {wd : Nat → Nat → Int64} {fw : Nat → Nat → Int32} {ad : Nat → Int32} {bk : Nat → Int32} {md : Int32} {cr : Int32} {ow : Int32} {hd : Int32} {K : Int32 → Prop} {X : Int32 → Prop} (g : gd Γ cX3_fewestInTube RX3 4 (rmz 1 21) q) (hret : rtI_0 Γ cX3_fewestInTube 4 (cgW a q sz pr pm kv kn kr kt kb ks kj kw kg wd fw ad bk md cr ow hd) K) (hX : ∀ (x1 : Int32) , X x1 → jw Γ 4 0 0 (cgW a q sz pr pm kv kn kr kt kb ks kj kw kg wd fw ad bk md cr ow hd) [(1, .int x1)] [] 50) :
    ∀ (n : Nat) (x1 : Int32) (x2 : Int32) , wp_X3_fewestInTube_4 sz kn kt ks K X n x1 x2 → jw Γ 4 0 0 (cgW a q sz pr pm kv kn kr kt kb ks kj kw kg wd fw ad bk md cr ow hd) [(0, .ref (a 1)), (1, .int x1), (2, .int x2)] [] 4 := by
  intro n
  induction n with
  | zero =>
    intro _ _ h
    exact False.elim h
  | succ n ih =>
    intro x1 x2 h
    unfold wp_X3_fewestInTube_4 at h
    refine j_iload_n g 2 rfl dX3_fewestInTube_4 ?_
    refine j_aload_n g 0 rfl dX3_fewestInTube_5 ?_
    refine j_get g fl_X3_24 1 cg_1 rfl dX3_fewestInTube_6 ?_
    refine j_icmp_ge g dX3_fewestInTube_9 (tgt := 50) (by decide) (fun c1 => ?_) (fun c1 => ?_)
    · replace h := h.1 c1
      refine j_sub [1] rfl ?_
      exact hX x1 h
    replace h := h.2 c1
    refine j_aload_n g 0 rfl dX3_fewestInTube_12 ?_
    refine j_get g fl_X3_11 1 cg_1 rfl dX3_fewestInTube_13 ?_
    refine j_iload_n g 2 rfl dX3_fewestInTube_16 ?_
    obtain ⟨hv2, h⟩ := h
    refine j_aald g 2 3 cg_2 rfl (by decide) hv2 rfl dX3_fewestInTube_17 ?_
    refine j_astore_n g (lv' := [(3, .ref (a (11 + x2.toNatClampNeg))), (0, .ref (a 1)), (1, .int x1), (2, .int x2)]) (by decide) rfl dX3_fewestInTube_18 ?_
    refine j_aload_n g 0 rfl dX3_fewestInTube_19 ?_
    refine j_callVZ_0 g (As := []) (st := []) (c_X0_gives (vp_lt hv2) h) cl_X3_47 (11 + x2.toNatClampNeg) 0 (cg_K (vp_lt hv2)) rfl rfl (Nat.le_of_ble_eq_true rfl) (Nat.le_of_ble_eq_true rfl) (Nat.zero_le _) (Nat.zero_le _) rfl rfl (Nat.le_of_ble_eq_true rfl) dX3_fewestInTube_20 (fun r_3  hz_3 h => ?_)
    refine j_if_eq g dX3_fewestInTube_23 (tgt := 44) (by decide) (fun c4 => ?_) (fun c4 => ?_)
    · replace h := h.1 c4
      refine j_iinc g 3 (n := 1) (v := x2 + 1) (lv' := [(2, .int (x2 + 1)), (3, .ref (a (11 + x2.toNatClampNeg))), (0, .ref (a 1)), (1, .int x1)]) rfl rfl (by decide) rfl dX3_fewestInTube_44 ?_
      refine j_goto g dX3_fewestInTube_47 (tgt := 4) (by decide) ?_
      refine j_sub [2, 3, 0] rfl ?_
      exact ih x1 (x2 + 1) h
    replace h := h.2 c4
    refine j_iload_n g 2 rfl dX3_fewestInTube_26 ?_
    refine j_iconst g (v := -1) (by decide) dX3_fewestInTube_27 ?_
    refine j_icmp_eq g dX3_fewestInTube_28 (tgt := 39) (by decide) (fun c5 => ?_) (fun c5 => ?_)
    · replace h := h.1 c5
      refine j_aload_n g 0 rfl dX3_fewestInTube_39 ?_
      refine j_get g fl_X3_51 (11 + x2.toNatClampNeg) (cg_K (vp_lt hv2)) rfl dX3_fewestInTube_40 ?_
      refine j_istore_n g (lv' := [(1, .int (kt x2.toNatClampNeg)), (3, .ref (a (11 + x2.toNatClampNeg))), (0, .ref (a 1)), (2, .int x2)]) (by decide) rfl dX3_fewestInTube_43 ?_
      refine j_iinc g 3 (n := 1) (v := x2 + 1) (lv' := [(2, .int (x2 + 1)), (1, .int (kt x2.toNatClampNeg)), (3, .ref (a (11 + x2.toNatClampNeg))), (0, .ref (a 1))]) rfl rfl (by decide) rfl dX3_fewestInTube_44 ?_
      refine j_goto g dX3_fewestInTube_47 (tgt := 4) (by decide) ?_
      refine j_sub [3, 1, 0] rfl ?_
      exact ih (kt x2.toNatClampNeg) (x2 + 1) h
    replace h := h.2 c5
    refine j_aload_n g 0 rfl dX3_fewestInTube_31 ?_
    refine j_get g fl_X3_51 (11 + x2.toNatClampNeg) (cg_K (vp_lt hv2)) rfl dX3_fewestInTube_32 ?_
    refine j_iload_n g 2 rfl dX3_fewestInTube_35 ?_
    refine j_icmp_ge g dX3_fewestInTube_36 (tgt := 44) (by decide) (fun c6 => ?_) (fun c6 => ?_)
    · replace h := h.1 c6
      refine j_iinc g 3 (n := 1) (v := x2 + 1) (lv' := [(2, .int (x2 + 1)), (3, .ref (a (11 + x2.toNatClampNeg))), (0, .ref (a 1)), (1, .int x1)]) rfl rfl (by decide) rfl dX3_fewestInTube_44 ?_
      refine j_goto g dX3_fewestInTube_47 (tgt := 4) (by decide) ?_
      refine j_sub [2, 3, 0] rfl ?_
      exact ih x1 (x2 + 1) h
    replace h := h.2 c6
    refine j_aload_n g 0 rfl dX3_fewestInTube_39 ?_
    refine j_get g fl_X3_51 (11 + x2.toNatClampNeg) (cg_K (vp_lt hv2)) rfl dX3_fewestInTube_40 ?_
    refine j_istore_n g (lv' := [(1, .int (kt x2.toNatClampNeg)), (3, .ref (a (11 + x2.toNatClampNeg))), (0, .ref (a 1)), (2, .int x2)]) (by decide) rfl dX3_fewestInTube_43 ?_
    refine j_iinc g 3 (n := 1) (v := x2 + 1) (lv' := [(2, .int (x2 + 1)), (1, .int (kt x2.toNatClampNeg)), (3, .ref (a (11 + x2.toNatClampNeg))), (0, .ref (a 1))]) rfl rfl (by decide) rfl dX3_fewestInTube_44 ?_
    refine j_goto g dX3_fewestInTube_47 (tgt := 4) (by decide) ?_
    refine j_sub [3, 1, 0] rfl ?_
    exact ih (kt x2.toNatClampNeg) (x2 + 1) h
set_option maxRecDepth 20000 in
set_option maxHeartbeats 4000000 in
theorem c_X3_fewestInTube {a : Nat → Nat} {q : Nat → ClassId}   {sz : Int32} {pr : Nat → Int32} {pm : Nat → Nat} {kv : Nat → Int32} {kn : Nat → Int32} {kr : Nat → Int32} {kt : Nat → Int32} {kb : Nat → Int32} {ks : Nat → Int32} {kj : Nat → Int32} {kw : Nat → Int32} {kg : Nat → Int32} {wd : Nat → Nat → Int64} {fw : Nat → Nat → Int32} {ad : Nat → Int32} {bk : Nat → Int32} {md : Int32} {cr : Int32} {ow : Int32} {hd : Int32} {K : Int32 → Prop} (h : wp_X3_fewestInTube sz kn kt ks K) : ctI_0 q yX3_fewestInTube cX3_fewestInTube 4 1 21 [.ref (a 1)] (cgW a q sz pr pm kv kn kr kt kb ks kj kw kg wd fw ad bk md cr ow hd) (cgW a q sz pr pm kv kn kr kt kb ks kj kw kg wd fw ad bk md cr ow hd) K := by
  refine met_I_0 (by decide) (Nat.le_of_ble_eq_true rfl) (fun Γ g hret => ?_)
  unfold wp_X3_fewestInTube at h
  show jw Γ 4 0 0 (cgW a q sz pr pm kv kn kr kt kb ks kj kw kg wd fw ad bk md cr ow hd) [(0, .ref (a 1))] [] 0
  refine j_iconst g (v := -1) (by decide) dX3_fewestInTube_0 ?_
  refine j_istore_n g (lv' := [(1, .int (-1 : Int32)), (0, .ref (a 1))]) (by decide) rfl dX3_fewestInTube_1 ?_
  refine j_iconst g (v := 0) (by decide) dX3_fewestInTube_2 ?_
  refine j_istore_n g (lv' := [(2, .int (0 : Int32)), (1, .int (-1 : Int32)), (0, .ref (a 1))]) (by decide) rfl dX3_fewestInTube_3 ?_
  obtain ⟨n1, h⟩ := h
  refine j_sub [2, 1, 0] rfl ?_
  refine wk_X3_fewestInTube_4  g hret (fun x1_1 h => ?_) n1 (-1 : Int32) (0 : Int32) h
  refine j_iconst g (v := 0) (by decide) dX3_fewestInTube_50 ?_
  refine j_iload_n g 0 rfl dX3_fewestInTube_51 ?_
  refine j_mmax g lm_X3_54 lm_max_s lm_i lm_max_c (Nat.le_of_ble_eq_true rfl) (Nat.le_of_ble_eq_true rfl) (Nat.zero_le _) (Nat.zero_le _) dX3_fewestInTube_52 ?_
  exact hret.go dX3_fewestInTube_55 h

set_option maxRecDepth 20000 in
def wp_X3_collect_6 (i1 : Nat) (x2 : Int32) (sz : Int32) (kv : Nat → Int32) (kn : Nat → Int32) (kt : Nat → Int32) (ks : Nat → Int32) (K : (Nat → Nat → Int64) → Prop) (X : (Nat → Nat → Int64) → Prop) : Nat → Int32 → (Nat → Nat → Int64) → Prop
  | 0, _, _ => False
  | n + 1, x3, wd => ((sz ≤ x3 → X wd) ∧ (¬ sz ≤ x3 → (vp_in x3 6 ∧ (vp_in x3 6 ∧ wp_X0_spare x3.toNatClampNeg x2 kn kt ks (fun (r_4 : Int32)  => wp_X2_addCoins i1 (kv x3.toNatClampNeg) r_4 wd (fun (wd_5 : Nat → Nat → Int64) => wp_X3_collect_6 i1 x2 sz kv kn kt ks K X n (x3 + 1) wd_5))))))
set_option maxRecDepth 20000 in
def wp_X3_collect (j1 : Nat) (x2 : Int32) (sz : Int32) (kv : Nat → Int32) (kn : Nat → Int32) (kt : Nat → Int32) (ks : Nat → Int32) (wd : Nat → Nat → Int64) (K : (Nat → Nat → Int64) → Prop) : Prop :=
  wp_X2_onlyZero j1 wd (fun (wd_1 : Nat → Nat → Int64) => ∃ n2 : Nat, wp_X3_collect_6 j1 x2 sz kv kn kt ks K (fun (wd_2 : Nat → Nat → Int64) => K wd_2) n2 (0 : Int32) wd_1)
theorem dX3_collect_0 : decode cX3_collect 0 = .ok (.aload_n 1, 1) := by decide +kernel
theorem dX3_collect_1 : decode cX3_collect 1 = .ok (.invokevirtual 60, 3) := by decide +kernel
theorem dX3_collect_4 : decode cX3_collect 4 = .ok (.iconst 0, 1) := by decide +kernel
theorem dX3_collect_5 : decode cX3_collect 5 = .ok (.istore_n 3, 1) := by decide +kernel
theorem dX3_collect_6 : decode cX3_collect 6 = .ok (.iload_n 3, 1) := by decide +kernel
theorem dX3_collect_7 : decode cX3_collect 7 = .ok (.aload_n 0, 1) := by decide +kernel
theorem dX3_collect_8 : decode cX3_collect 8 = .ok (.getfield 24, 3) := by decide +kernel
theorem dX3_collect_11 : decode cX3_collect 11 = .ok (.if_icmp .ge 32, 3) := by decide +kernel
theorem dX3_collect_14 : decode cX3_collect 14 = .ok (.aload_n 1, 1) := by decide +kernel
theorem dX3_collect_15 : decode cX3_collect 15 = .ok (.aload_n 0, 1) := by decide +kernel
theorem dX3_collect_16 : decode cX3_collect 16 = .ok (.getfield 11, 3) := by decide +kernel
theorem dX3_collect_19 : decode cX3_collect 19 = .ok (.iload_n 3, 1) := by decide +kernel
theorem dX3_collect_20 : decode cX3_collect 20 = .ok (.aaload, 1) := by decide +kernel
theorem dX3_collect_21 : decode cX3_collect 21 = .ok (.getfield 41, 3) := by decide +kernel
theorem dX3_collect_24 : decode cX3_collect 24 = .ok (.aload_n 0, 1) := by decide +kernel
theorem dX3_collect_25 : decode cX3_collect 25 = .ok (.getfield 11, 3) := by decide +kernel
theorem dX3_collect_28 : decode cX3_collect 28 = .ok (.iload_n 3, 1) := by decide +kernel
theorem dX3_collect_29 : decode cX3_collect 29 = .ok (.aaload, 1) := by decide +kernel
theorem dX3_collect_30 : decode cX3_collect 30 = .ok (.iload_n 2, 1) := by decide +kernel
theorem dX3_collect_31 : decode cX3_collect 31 = .ok (.invokevirtual 65, 3) := by decide +kernel
theorem dX3_collect_34 : decode cX3_collect 34 = .ok (.invokevirtual 69, 3) := by decide +kernel
theorem dX3_collect_37 : decode cX3_collect 37 = .ok (.iinc 3 1, 3) := by decide +kernel
theorem dX3_collect_40 : decode cX3_collect 40 = .ok (.goto (-34), 3) := by decide +kernel
theorem dX3_collect_43 : decode cX3_collect 43 = .ok (.return_, 1) := by decide +kernel
set_option maxRecDepth 20000 in
set_option maxHeartbeats 4000000 in
theorem wk_X3_collect_6 {Γ : GT} {a : Nat → Nat} {q : Nat → ClassId} {i1 : Nat} {x2 : Int32} (hi1 : i1 < 6) {sz : Int32} {pr : Nat → Int32} {pm : Nat → Nat} {kv : Nat → Int32} {kn : Nat → Int32} {kr : Nat → Int32} {kt : Nat → Int32} {kb : Nat → Int32} {ks : Nat → Int32} {kj : Nat → Int32} {kw : Nat → Int32} {kg : Nat → Int32} {fw : Nat → Nat → Int32} {ad : Nat → Int32} {bk : Nat → Int32} {md : Int32} {cr : Int32} {ow : Int32} {hd : Int32} {K : (Nat → Nat → Int64) → Prop} {X : (Nat → Nat → Int64) → Prop} (g : gd Γ cX3_collect RX3 4 (rmz 2 51) q) (hret : rtV_1 Γ cX3_collect 4 (fun (wd : Nat → Nat → Int64) => (cgW a q sz pr pm kv kn kr kt kb ks kj kw kg wd fw ad bk md cr ow hd)) K) (hX : ∀ (wd : Nat → Nat → Int64) , X wd → jw Γ 4 0 0 (cgW a q sz pr pm kv kn kr kt kb ks kj kw kg wd fw ad bk md cr ow hd) [] [] 43) :
    ∀ (n : Nat) (x3 : Int32) (wd : Nat → Nat → Int64) , wp_X3_collect_6 i1 x2 sz kv kn kt ks K X n x3 wd → jw Γ 4 0 0 (cgW a q sz pr pm kv kn kr kt kb ks kj kw kg wd fw ad bk md cr ow hd) [(0, .ref (a 1)), (1, .ref (a (17 + i1))), (2, .int x2), (3, .int x3)] [] 6 := by
  intro n
  induction n with
  | zero =>
    intro _ _ h
    exact False.elim h
  | succ n ih =>
    intro x3 wd h
    unfold wp_X3_collect_6 at h
    refine j_iload_n g 3 rfl dX3_collect_6 ?_
    refine j_aload_n g 0 rfl dX3_collect_7 ?_
    refine j_get g fl_X3_24 1 cg_1 rfl dX3_collect_8 ?_
    refine j_icmp_ge g dX3_collect_11 (tgt := 43) (by decide) (fun c1 => ?_) (fun c1 => ?_)
    · replace h := h.1 c1
      refine j_sub [] rfl ?_
      exact hX wd h
    replace h := h.2 c1
    refine j_aload_n g 1 rfl dX3_collect_14 ?_
    refine j_aload_n g 0 rfl dX3_collect_15 ?_
    refine j_get g fl_X3_11 1 cg_1 rfl dX3_collect_16 ?_
    refine j_iload_n g 3 rfl dX3_collect_19 ?_
    obtain ⟨hv2, h⟩ := h
    refine j_aald g 2 3 cg_2 rfl (by decide) hv2 rfl dX3_collect_20 ?_
    refine j_get g fl_X3_41 (11 + x3.toNatClampNeg) (cg_K (vp_lt hv2)) rfl dX3_collect_21 ?_
    refine j_aload_n g 0 rfl dX3_collect_24 ?_
    refine j_get g fl_X3_11 1 cg_1 rfl dX3_collect_25 ?_
    refine j_iload_n g 3 rfl dX3_collect_28 ?_
    obtain ⟨hv3, h⟩ := h
    refine j_aald g 2 3 cg_2 rfl (by decide) hv3 rfl dX3_collect_29 ?_
    refine j_iload_n g 2 rfl dX3_collect_30 ?_
    refine j_callVI_0 g (As := [.int x2]) (st := [.int (kv x3.toNatClampNeg), .ref (a (17 + i1))]) (c_X0_spare (vp_lt hv3) h) cl_X3_65 (11 + x3.toNatClampNeg) 0 (cg_K (vp_lt hv3)) rfl rfl (Nat.le_of_ble_eq_true rfl) (Nat.le_of_ble_eq_true rfl) (Nat.zero_le _) (Nat.zero_le _) rfl rfl (Nat.le_of_ble_eq_true rfl) dX3_collect_31 (fun r_4   h => ?_)
    refine j_callVV_1 g (As := [.int (kv x3.toNatClampNeg), .int r_4]) (st := []) (c_X2_addCoins hi1 h) cl_X3_69 (17 + i1) 2 (cg_S hi1) rfl rfl (Nat.le_of_ble_eq_true rfl) (Nat.le_of_ble_eq_true rfl) (Nat.zero_le _) (Nat.zero_le _) rfl rfl (Nat.le_of_ble_eq_true rfl) dX3_collect_34 (fun wd_5 h => ?_)
    refine j_ws (ws' := (cgW a q sz pr pm kv kn kr kt kb ks kj kw kg wd_5 fw ad bk md cr ow hd)) rfl ?_
    refine j_iinc g 3 (n := 1) (v := x3 + 1) (lv' := [(3, .int (x3 + 1)), (0, .ref (a 1)), (1, .ref (a (17 + i1))), (2, .int x2)]) rfl rfl (by decide) rfl dX3_collect_37 ?_
    refine j_goto g dX3_collect_40 (tgt := 6) (by decide) ?_
    refine j_sub [1, 2, 3, 0] rfl ?_
    exact ih (x3 + 1) wd_5 h
set_option maxRecDepth 20000 in
set_option maxHeartbeats 4000000 in
theorem c_X3_collect {a : Nat → Nat} {q : Nat → ClassId} {j1 : Nat} {x2 : Int32} (hj1 : j1 < 6) {sz : Int32} {pr : Nat → Int32} {pm : Nat → Nat} {kv : Nat → Int32} {kn : Nat → Int32} {kr : Nat → Int32} {kt : Nat → Int32} {kb : Nat → Int32} {ks : Nat → Int32} {kj : Nat → Int32} {kw : Nat → Int32} {kg : Nat → Int32} {wd : Nat → Nat → Int64} {fw : Nat → Nat → Int32} {ad : Nat → Int32} {bk : Nat → Int32} {md : Int32} {cr : Int32} {ow : Int32} {hd : Int32} {K : (Nat → Nat → Int64) → Prop} (h : wp_X3_collect j1 x2 sz kv kn kt ks wd K) : ctV_1 q yX3_collect cX3_collect 4 2 51 [.ref (a 1), .ref (a (17 + j1)), .int x2] (cgW a q sz pr pm kv kn kr kt kb ks kj kw kg wd fw ad bk md cr ow hd) (fun (wd : Nat → Nat → Int64) => (cgW a q sz pr pm kv kn kr kt kb ks kj kw kg wd fw ad bk md cr ow hd)) K := by
  refine met_V_1 (by decide) (Nat.le_of_ble_eq_true rfl) (fun Γ g hret => ?_)
  unfold wp_X3_collect at h
  show jw Γ 4 0 0 (cgW a q sz pr pm kv kn kr kt kb ks kj kw kg wd fw ad bk md cr ow hd) [(0, .ref (a 1)), (1, .ref (a (17 + j1))), (2, .int x2)] [] 0
  refine j_aload_n g 1 rfl dX3_collect_0 ?_
  refine j_callVV_1 g (As := []) (st := []) (c_X2_onlyZero hj1 h) cl_X3_60 (17 + j1) 2 (cg_S hj1) rfl rfl (Nat.le_of_ble_eq_true rfl) (Nat.le_of_ble_eq_true rfl) (Nat.zero_le _) (Nat.zero_le _) rfl rfl (Nat.le_of_ble_eq_true rfl) dX3_collect_1 (fun wd_1 h => ?_)
  refine j_ws (ws' := (cgW a q sz pr pm kv kn kr kt kb ks kj kw kg wd_1 fw ad bk md cr ow hd)) rfl ?_
  refine j_iconst g (v := 0) (by decide) dX3_collect_4 ?_
  refine j_istore_n g (lv' := [(3, .int (0 : Int32)), (0, .ref (a 1)), (1, .ref (a (17 + j1))), (2, .int x2)]) (by decide) rfl dX3_collect_5 ?_
  obtain ⟨n2, h⟩ := h
  refine j_sub [1, 2, 3, 0] rfl ?_
  refine wk_X3_collect_6 hj1 g hret (fun wd_2 h => ?_) n2 (0 : Int32) wd_1 h
  exact hret.go dX3_collect_43 h

set_option maxRecDepth 20000 in
def wp_X3_collectOneOfEach_2 (i1 : Nat) (sz : Int32) (kv : Nat → Int32) (kn : Nat → Int32) (ks : Nat → Int32) (K : (Nat → Nat → Int64) → Prop) (X : (Nat → Nat → Int64) → Prop) : Nat → Int32 → (Nat → Nat → Int64) → Prop
  | 0, _, _ => False
  | n + 1, x2, wd => ((sz ≤ x2 → X wd) ∧ (¬ sz ≤ x2 → (vp_in x2 6 ∧ wp_X0_gives x2.toNatClampNeg kn ks (fun (r_3 : Int32)  => ((r_3 = 0 → wp_X3_collectOneOfEach_2 i1 sz kv kn ks K X n (x2 + 1) wd) ∧ (¬ r_3 = 0 → (vp_in x2 6 ∧ wp_X2_addCoins i1 (kv x2.toNatClampNeg) (1 : Int32) wd (fun (wd_6 : Nat → Nat → Int64) => wp_X3_collectOneOfEach_2 i1 sz kv kn ks K X n (x2 + 1) wd_6))))))))
set_option maxRecDepth 20000 in
def wp_X3_collectOneOfEach (j1 : Nat) (sz : Int32) (kv : Nat → Int32) (kn : Nat → Int32) (ks : Nat → Int32) (wd : Nat → Nat → Int64) (K : (Nat → Nat → Int64) → Prop) : Prop :=
  ∃ n1 : Nat, wp_X3_collectOneOfEach_2 j1 sz kv kn ks K (fun (wd_1 : Nat → Nat → Int64) => K wd_1) n1 (0 : Int32) wd
theorem dX3_collectOneOfEach_0 : decode cX3_collectOneOfEach 0 = .ok (.iconst 0, 1) := by decide +kernel
theorem dX3_collectOneOfEach_1 : decode cX3_collectOneOfEach 1 = .ok (.istore_n 2, 1) := by decide +kernel
theorem dX3_collectOneOfEach_2 : decode cX3_collectOneOfEach 2 = .ok (.iload_n 2, 1) := by decide +kernel
theorem dX3_collectOneOfEach_3 : decode cX3_collectOneOfEach 3 = .ok (.aload_n 0, 1) := by decide +kernel
theorem dX3_collectOneOfEach_4 : decode cX3_collectOneOfEach 4 = .ok (.getfield 24, 3) := by decide +kernel
theorem dX3_collectOneOfEach_7 : decode cX3_collectOneOfEach 7 = .ok (.if_icmp .ge 35, 3) := by decide +kernel
theorem dX3_collectOneOfEach_10 : decode cX3_collectOneOfEach 10 = .ok (.aload_n 0, 1) := by decide +kernel
theorem dX3_collectOneOfEach_11 : decode cX3_collectOneOfEach 11 = .ok (.getfield 11, 3) := by decide +kernel
theorem dX3_collectOneOfEach_14 : decode cX3_collectOneOfEach 14 = .ok (.iload_n 2, 1) := by decide +kernel
theorem dX3_collectOneOfEach_15 : decode cX3_collectOneOfEach 15 = .ok (.aaload, 1) := by decide +kernel
theorem dX3_collectOneOfEach_16 : decode cX3_collectOneOfEach 16 = .ok (.invokevirtual 47, 3) := by decide +kernel
theorem dX3_collectOneOfEach_19 : decode cX3_collectOneOfEach 19 = .ok (.ifCond .eq 17, 3) := by decide +kernel
theorem dX3_collectOneOfEach_22 : decode cX3_collectOneOfEach 22 = .ok (.aload_n 1, 1) := by decide +kernel
theorem dX3_collectOneOfEach_23 : decode cX3_collectOneOfEach 23 = .ok (.aload_n 0, 1) := by decide +kernel
theorem dX3_collectOneOfEach_24 : decode cX3_collectOneOfEach 24 = .ok (.getfield 11, 3) := by decide +kernel
theorem dX3_collectOneOfEach_27 : decode cX3_collectOneOfEach 27 = .ok (.iload_n 2, 1) := by decide +kernel
theorem dX3_collectOneOfEach_28 : decode cX3_collectOneOfEach 28 = .ok (.aaload, 1) := by decide +kernel
theorem dX3_collectOneOfEach_29 : decode cX3_collectOneOfEach 29 = .ok (.getfield 41, 3) := by decide +kernel
theorem dX3_collectOneOfEach_32 : decode cX3_collectOneOfEach 32 = .ok (.iconst 1, 1) := by decide +kernel
theorem dX3_collectOneOfEach_33 : decode cX3_collectOneOfEach 33 = .ok (.invokevirtual 69, 3) := by decide +kernel
theorem dX3_collectOneOfEach_36 : decode cX3_collectOneOfEach 36 = .ok (.iinc 2 1, 3) := by decide +kernel
theorem dX3_collectOneOfEach_39 : decode cX3_collectOneOfEach 39 = .ok (.goto (-37), 3) := by decide +kernel
theorem dX3_collectOneOfEach_42 : decode cX3_collectOneOfEach 42 = .ok (.return_, 1) := by decide +kernel
set_option maxRecDepth 20000 in
set_option maxHeartbeats 4000000 in
theorem wk_X3_collectOneOfEach_2 {Γ : GT} {a : Nat → Nat} {q : Nat → ClassId} {i1 : Nat} (hi1 : i1 < 6) {sz : Int32} {pr : Nat → Int32} {pm : Nat → Nat} {kv : Nat → Int32} {kn : Nat → Int32} {kr : Nat → Int32} {kt : Nat → Int32} {kb : Nat → Int32} {ks : Nat → Int32} {kj : Nat → Int32} {kw : Nat → Int32} {kg : Nat → Int32} {fw : Nat → Nat → Int32} {ad : Nat → Int32} {bk : Nat → Int32} {md : Int32} {cr : Int32} {ow : Int32} {hd : Int32} {K : (Nat → Nat → Int64) → Prop} {X : (Nat → Nat → Int64) → Prop} (g : gd Γ cX3_collectOneOfEach RX3 3 (rmz 2 51) q) (hret : rtV_1 Γ cX3_collectOneOfEach 3 (fun (wd : Nat → Nat → Int64) => (cgW a q sz pr pm kv kn kr kt kb ks kj kw kg wd fw ad bk md cr ow hd)) K) (hX : ∀ (wd : Nat → Nat → Int64) , X wd → jw Γ 3 0 0 (cgW a q sz pr pm kv kn kr kt kb ks kj kw kg wd fw ad bk md cr ow hd) [] [] 42) :
    ∀ (n : Nat) (x2 : Int32) (wd : Nat → Nat → Int64) , wp_X3_collectOneOfEach_2 i1 sz kv kn ks K X n x2 wd → jw Γ 3 0 0 (cgW a q sz pr pm kv kn kr kt kb ks kj kw kg wd fw ad bk md cr ow hd) [(0, .ref (a 1)), (1, .ref (a (17 + i1))), (2, .int x2)] [] 2 := by
  intro n
  induction n with
  | zero =>
    intro _ _ h
    exact False.elim h
  | succ n ih =>
    intro x2 wd h
    unfold wp_X3_collectOneOfEach_2 at h
    refine j_iload_n g 2 rfl dX3_collectOneOfEach_2 ?_
    refine j_aload_n g 0 rfl dX3_collectOneOfEach_3 ?_
    refine j_get g fl_X3_24 1 cg_1 rfl dX3_collectOneOfEach_4 ?_
    refine j_icmp_ge g dX3_collectOneOfEach_7 (tgt := 42) (by decide) (fun c1 => ?_) (fun c1 => ?_)
    · replace h := h.1 c1
      refine j_sub [] rfl ?_
      exact hX wd h
    replace h := h.2 c1
    refine j_aload_n g 0 rfl dX3_collectOneOfEach_10 ?_
    refine j_get g fl_X3_11 1 cg_1 rfl dX3_collectOneOfEach_11 ?_
    refine j_iload_n g 2 rfl dX3_collectOneOfEach_14 ?_
    obtain ⟨hv2, h⟩ := h
    refine j_aald g 2 3 cg_2 rfl (by decide) hv2 rfl dX3_collectOneOfEach_15 ?_
    refine j_callVZ_0 g (As := []) (st := []) (c_X0_gives (vp_lt hv2) h) cl_X3_47 (11 + x2.toNatClampNeg) 0 (cg_K (vp_lt hv2)) rfl rfl (Nat.le_of_ble_eq_true rfl) (Nat.le_of_ble_eq_true rfl) (Nat.zero_le _) (Nat.zero_le _) rfl rfl (Nat.le_of_ble_eq_true rfl) dX3_collectOneOfEach_16 (fun r_3  hz_3 h => ?_)
    refine j_if_eq g dX3_collectOneOfEach_19 (tgt := 36) (by decide) (fun c4 => ?_) (fun c4 => ?_)
    · replace h := h.1 c4
      refine j_iinc g 2 (n := 1) (v := x2 + 1) (lv' := [(2, .int (x2 + 1)), (0, .ref (a 1)), (1, .ref (a (17 + i1)))]) rfl rfl (by decide) rfl dX3_collectOneOfEach_36 ?_
      refine j_goto g dX3_collectOneOfEach_39 (tgt := 2) (by decide) ?_
      refine j_sub [1, 2, 0] rfl ?_
      exact ih (x2 + 1) wd h
    replace h := h.2 c4
    refine j_aload_n g 1 rfl dX3_collectOneOfEach_22 ?_
    refine j_aload_n g 0 rfl dX3_collectOneOfEach_23 ?_
    refine j_get g fl_X3_11 1 cg_1 rfl dX3_collectOneOfEach_24 ?_
    refine j_iload_n g 2 rfl dX3_collectOneOfEach_27 ?_
    obtain ⟨hv5, h⟩ := h
    refine j_aald g 2 3 cg_2 rfl (by decide) hv5 rfl dX3_collectOneOfEach_28 ?_
    refine j_get g fl_X3_41 (11 + x2.toNatClampNeg) (cg_K (vp_lt hv5)) rfl dX3_collectOneOfEach_29 ?_
    refine j_iconst g (v := 1) (by decide) dX3_collectOneOfEach_32 ?_
    refine j_callVV_1 g (As := [.int (kv x2.toNatClampNeg), .int (1 : Int32)]) (st := []) (c_X2_addCoins hi1 h) cl_X3_69 (17 + i1) 2 (cg_S hi1) rfl rfl (Nat.le_of_ble_eq_true rfl) (Nat.le_of_ble_eq_true rfl) (Nat.zero_le _) (Nat.zero_le _) rfl rfl (Nat.le_of_ble_eq_true rfl) dX3_collectOneOfEach_33 (fun wd_6 h => ?_)
    refine j_ws (ws' := (cgW a q sz pr pm kv kn kr kt kb ks kj kw kg wd_6 fw ad bk md cr ow hd)) rfl ?_
    refine j_iinc g 2 (n := 1) (v := x2 + 1) (lv' := [(2, .int (x2 + 1)), (0, .ref (a 1)), (1, .ref (a (17 + i1)))]) rfl rfl (by decide) rfl dX3_collectOneOfEach_36 ?_
    refine j_goto g dX3_collectOneOfEach_39 (tgt := 2) (by decide) ?_
    refine j_sub [1, 2, 0] rfl ?_
    exact ih (x2 + 1) wd_6 h
set_option maxRecDepth 20000 in
set_option maxHeartbeats 4000000 in
theorem c_X3_collectOneOfEach {a : Nat → Nat} {q : Nat → ClassId} {j1 : Nat} (hj1 : j1 < 6) {sz : Int32} {pr : Nat → Int32} {pm : Nat → Nat} {kv : Nat → Int32} {kn : Nat → Int32} {kr : Nat → Int32} {kt : Nat → Int32} {kb : Nat → Int32} {ks : Nat → Int32} {kj : Nat → Int32} {kw : Nat → Int32} {kg : Nat → Int32} {wd : Nat → Nat → Int64} {fw : Nat → Nat → Int32} {ad : Nat → Int32} {bk : Nat → Int32} {md : Int32} {cr : Int32} {ow : Int32} {hd : Int32} {K : (Nat → Nat → Int64) → Prop} (h : wp_X3_collectOneOfEach j1 sz kv kn ks wd K) : ctV_1 q yX3_collectOneOfEach cX3_collectOneOfEach 3 2 51 [.ref (a 1), .ref (a (17 + j1))] (cgW a q sz pr pm kv kn kr kt kb ks kj kw kg wd fw ad bk md cr ow hd) (fun (wd : Nat → Nat → Int64) => (cgW a q sz pr pm kv kn kr kt kb ks kj kw kg wd fw ad bk md cr ow hd)) K := by
  refine met_V_1 (by decide) (Nat.le_of_ble_eq_true rfl) (fun Γ g hret => ?_)
  unfold wp_X3_collectOneOfEach at h
  show jw Γ 3 0 0 (cgW a q sz pr pm kv kn kr kt kb ks kj kw kg wd fw ad bk md cr ow hd) [(0, .ref (a 1)), (1, .ref (a (17 + j1)))] [] 0
  refine j_iconst g (v := 0) (by decide) dX3_collectOneOfEach_0 ?_
  refine j_istore_n g (lv' := [(2, .int (0 : Int32)), (0, .ref (a 1)), (1, .ref (a (17 + j1)))]) (by decide) rfl dX3_collectOneOfEach_1 ?_
  obtain ⟨n1, h⟩ := h
  refine j_sub [1, 2, 0] rfl ?_
  refine wk_X3_collectOneOfEach_2 hj1 g hret (fun wd_1 h => ?_) n1 (0 : Int32) wd h
  exact hret.go dX3_collectOneOfEach_42 h

set_option maxRecDepth 20000 in
def wp_X3_mayTake_50 (i3 : Nat) (x4 : Int32) (x6 : Int32) (pr : Nat → Int32) (wd : Nat → Nat → Int64) (K : Int32 → Prop) (X : Prop) : Nat → Int32 → Prop
  | 0, _ => False
  | n + 1, x7 => (((6 : Int32) ≤ x7 → X) ∧ (¬ (6 : Int32) ≤ x7 → (vp_in x7 6 ∧ ((pr x7.toNatClampNeg ≤ 0 → wp_X3_mayTake_50 i3 x4 x6 pr wd K X n (x7 + 1)) ∧ (¬ pr x7.toNatClampNeg ≤ 0 → ((x4 < pr x7.toNatClampNeg → wp_X3_mayTake_50 i3 x4 x6 pr wd K X n (x7 + 1)) ∧ (¬ x4 < pr x7.toNatClampNeg → wp_X2_hasWith i3 (x4 - (pr x7.toNatClampNeg)) x6 wd (fun (r_5 : Int32)  => ((¬ r_5 = 0 → wp_X3_mayTake_50 i3 x4 x6 pr wd K X n (x7 + 1)) ∧ (r_5 = 0 → K (0 : Int32)))))))))))
set_option maxRecDepth 20000 in
def wp_X3_mayTake (i1 : Nat) (x2 : Int32) (j3 : Nat) (x4 : Int32) (x5 : Int32) (pr : Nat → Int32) (kv : Nat → Int32) (kn : Nat → Int32) (ks : Nat → Int32) (wd : Nat → Nat → Int64) (K : Int32 → Prop) : Prop :=
  ((x4 ≤ (999 : Int32) → jn (fun (Z2 : Int32 → Prop) => jn (fun (Z6 : Prop) => ((x2 = 0 → Z6) ∧ (¬ x2 = 0 → wp_X0_gives i1 kn ks (fun (r_8 : Int32)  => ((r_8 = 0 → Z6) ∧ (¬ r_8 = 0 → Z2 (kv i1))))))) (Z2 (0 : Int32))) (fun (xs0_2 : Int32) => wp_X2_hasWith j3 (x4 - x5) xs0_2 wd (fun (r_3 : Int32)  => ((¬ r_3 = 0 → ∃ n5 : Nat, wp_X3_mayTake_50 j3 x4 xs0_2 pr wd K (K (1 : Int32)) n5 (0 : Int32)) ∧ (r_3 = 0 → K (0 : Int32)))))) ∧ (¬ x4 ≤ (999 : Int32) → K (0 : Int32)))
theorem dX3_mayTake_0 : decode cX3_mayTake 0 = .ok (.iload 4, 2) := by decide +kernel
theorem dX3_mayTake_2 : decode cX3_mayTake 2 = .ok (.sipush 999, 3) := by decide +kernel
theorem dX3_mayTake_5 : decode cX3_mayTake 5 = .ok (.if_icmp .le 5, 3) := by decide +kernel
theorem dX3_mayTake_8 : decode cX3_mayTake 8 = .ok (.iconst 0, 1) := by decide +kernel
theorem dX3_mayTake_9 : decode cX3_mayTake 9 = .ok (.ireturn, 1) := by decide +kernel
theorem dX3_mayTake_10 : decode cX3_mayTake 10 = .ok (.iload_n 2, 1) := by decide +kernel
theorem dX3_mayTake_11 : decode cX3_mayTake 11 = .ok (.ifCond .eq 17, 3) := by decide +kernel
theorem dX3_mayTake_14 : decode cX3_mayTake 14 = .ok (.aload_n 1, 1) := by decide +kernel
theorem dX3_mayTake_15 : decode cX3_mayTake 15 = .ok (.invokevirtual 47, 3) := by decide +kernel
theorem dX3_mayTake_18 : decode cX3_mayTake 18 = .ok (.ifCond .eq 10, 3) := by decide +kernel
theorem dX3_mayTake_21 : decode cX3_mayTake 21 = .ok (.aload_n 1, 1) := by decide +kernel
theorem dX3_mayTake_22 : decode cX3_mayTake 22 = .ok (.getfield 41, 3) := by decide +kernel
theorem dX3_mayTake_25 : decode cX3_mayTake 25 = .ok (.goto 4, 3) := by decide +kernel
theorem dX3_mayTake_28 : decode cX3_mayTake 28 = .ok (.iconst 0, 1) := by decide +kernel
theorem dX3_mayTake_29 : decode cX3_mayTake 29 = .ok (.istore 6, 2) := by decide +kernel
theorem dX3_mayTake_31 : decode cX3_mayTake 31 = .ok (.aload_n 3, 1) := by decide +kernel
theorem dX3_mayTake_32 : decode cX3_mayTake 32 = .ok (.iload 4, 2) := by decide +kernel
theorem dX3_mayTake_34 : decode cX3_mayTake 34 = .ok (.iload 5, 2) := by decide +kernel
theorem dX3_mayTake_36 : decode cX3_mayTake 36 = .ok (.isub, 1) := by decide +kernel
theorem dX3_mayTake_37 : decode cX3_mayTake 37 = .ok (.iload 6, 2) := by decide +kernel
theorem dX3_mayTake_39 : decode cX3_mayTake 39 = .ok (.invokevirtual 73, 3) := by decide +kernel
theorem dX3_mayTake_42 : decode cX3_mayTake 42 = .ok (.ifCond .ne 5, 3) := by decide +kernel
theorem dX3_mayTake_45 : decode cX3_mayTake 45 = .ok (.iconst 0, 1) := by decide +kernel
theorem dX3_mayTake_46 : decode cX3_mayTake 46 = .ok (.ireturn, 1) := by decide +kernel
theorem dX3_mayTake_47 : decode cX3_mayTake 47 = .ok (.iconst 0, 1) := by decide +kernel
theorem dX3_mayTake_48 : decode cX3_mayTake 48 = .ok (.istore 7, 2) := by decide +kernel
theorem dX3_mayTake_50 : decode cX3_mayTake 50 = .ok (.iload 7, 2) := by decide +kernel
theorem dX3_mayTake_52 : decode cX3_mayTake 52 = .ok (.bipush 6, 2) := by decide +kernel
theorem dX3_mayTake_54 : decode cX3_mayTake 54 = .ok (.if_icmp .ge 46, 3) := by decide +kernel
theorem dX3_mayTake_57 : decode cX3_mayTake 57 = .ok (.aload_n 0, 1) := by decide +kernel
theorem dX3_mayTake_58 : decode cX3_mayTake 58 = .ok (.getfield 20, 3) := by decide +kernel
theorem dX3_mayTake_61 : decode cX3_mayTake 61 = .ok (.iload 7, 2) := by decide +kernel
theorem dX3_mayTake_63 : decode cX3_mayTake 63 = .ok (.iaload, 1) := by decide +kernel
theorem dX3_mayTake_64 : decode cX3_mayTake 64 = .ok (.istore 8, 2) := by decide +kernel
theorem dX3_mayTake_66 : decode cX3_mayTake 66 = .ok (.iload 8, 2) := by decide +kernel
theorem dX3_mayTake_68 : decode cX3_mayTake 68 = .ok (.ifCond .le 26, 3) := by decide +kernel
theorem dX3_mayTake_71 : decode cX3_mayTake 71 = .ok (.iload 8, 2) := by decide +kernel
theorem dX3_mayTake_73 : decode cX3_mayTake 73 = .ok (.iload 4, 2) := by decide +kernel
theorem dX3_mayTake_75 : decode cX3_mayTake 75 = .ok (.if_icmp .gt 19, 3) := by decide +kernel
theorem dX3_mayTake_78 : decode cX3_mayTake 78 = .ok (.aload_n 3, 1) := by decide +kernel
theorem dX3_mayTake_79 : decode cX3_mayTake 79 = .ok (.iload 4, 2) := by decide +kernel
theorem dX3_mayTake_81 : decode cX3_mayTake 81 = .ok (.iload 8, 2) := by decide +kernel
theorem dX3_mayTake_83 : decode cX3_mayTake 83 = .ok (.isub, 1) := by decide +kernel
theorem dX3_mayTake_84 : decode cX3_mayTake 84 = .ok (.iload 6, 2) := by decide +kernel
theorem dX3_mayTake_86 : decode cX3_mayTake 86 = .ok (.invokevirtual 73, 3) := by decide +kernel
theorem dX3_mayTake_89 : decode cX3_mayTake 89 = .ok (.ifCond .ne 5, 3) := by decide +kernel
theorem dX3_mayTake_92 : decode cX3_mayTake 92 = .ok (.iconst 0, 1) := by decide +kernel
theorem dX3_mayTake_93 : decode cX3_mayTake 93 = .ok (.ireturn, 1) := by decide +kernel
theorem dX3_mayTake_94 : decode cX3_mayTake 94 = .ok (.iinc 7 1, 3) := by decide +kernel
theorem dX3_mayTake_97 : decode cX3_mayTake 97 = .ok (.goto (-47), 3) := by decide +kernel
theorem dX3_mayTake_100 : decode cX3_mayTake 100 = .ok (.iconst 1, 1) := by decide +kernel
theorem dX3_mayTake_101 : decode cX3_mayTake 101 = .ok (.ireturn, 1) := by decide +kernel
set_option maxRecDepth 20000 in
set_option maxHeartbeats 4000000 in
theorem wk_X3_mayTake_50 {Γ : GT} {a : Nat → Nat} {q : Nat → ClassId} {i3 : Nat} {x4 : Int32} {x6 : Int32} (hi3 : i3 < 6) {sz : Int32} {pr : Nat → Int32} {pm : Nat → Nat} {kv : Nat → Int32} {kn : Nat → Int32} {kr : Nat → Int32} {kt : Nat → Int32} {kb : Nat → Int32} {ks : Nat → Int32} {kj : Nat → Int32} {kw : Nat → Int32} {kg : Nat → Int32} {wd : Nat → Nat → Int64} {fw : Nat → Nat → Int32} {ad : Nat → Int32} {bk : Nat → Int32} {md : Int32} {cr : Int32} {ow : Int32} {hd : Int32} {K : Int32 → Prop} {X : Prop} (g : gd Γ cX3_mayTake RX3 9 (rmz 2 43) q) (hret : rtZ_0 Γ cX3_mayTake 9 (cgW a q sz pr pm kv kn kr kt kb ks kj kw kg wd fw ad bk md cr ow hd) K) (hX : X → jw Γ 9 0 0 (cgW a q sz pr pm kv kn kr kt kb ks kj kw kg wd fw ad bk md cr ow hd) [] [] 100) :
    ∀ (n : Nat) (x7 : Int32) , wp_X3_mayTake_50 i3 x4 x6 pr wd K X n x7 → jw Γ 9 0 0 (cgW a q sz pr pm kv kn kr kt kb ks kj kw kg wd fw ad bk md cr ow hd) [(0, .ref (a 1)), (3, .ref (a (17 + i3))), (4, .int x4), (6, .int x6), (7, .int x7)] [] 50 := by
  intro n
  induction n with
  | zero =>
    intro _ h
    exact False.elim h
  | succ n ih =>
    intro x7 h
    unfold wp_X3_mayTake_50 at h
    refine j_iload g 4 rfl dX3_mayTake_50 ?_
    refine j_bipush g (v := 6) (by decide) dX3_mayTake_52 ?_
    refine j_icmp_ge g dX3_mayTake_54 (tgt := 100) (by decide) (fun c1 => ?_) (fun c1 => ?_)
    · replace h := h.1 c1
      refine j_sub [] rfl ?_
      exact hX h
    replace h := h.2 c1
    refine j_aload_n g 0 rfl dX3_mayTake_57 ?_
    refine j_get g fl_X3_20 1 cg_1 rfl dX3_mayTake_58 ?_
    refine j_iload g 4 rfl dX3_mayTake_61 ?_
    obtain ⟨hv2, h⟩ := h
    refine j_iald g 4 cg_4 hv2 dX3_mayTake_63 ?_
    refine j_istore g (lv' := [(8, .int (pr x7.toNatClampNeg)), (0, .ref (a 1)), (3, .ref (a (17 + i3))), (4, .int x4), (6, .int x6), (7, .int x7)]) (by decide) rfl dX3_mayTake_64 ?_
    refine j_iload g 0 rfl dX3_mayTake_66 ?_
    refine j_if_le g dX3_mayTake_68 (tgt := 94) (by decide) (fun c3 => ?_) (fun c3 => ?_)
    · replace h := h.1 c3
      refine j_iinc g 5 (n := 1) (v := x7 + 1) (lv' := [(7, .int (x7 + 1)), (8, .int (pr x7.toNatClampNeg)), (0, .ref (a 1)), (3, .ref (a (17 + i3))), (4, .int x4), (6, .int x6)]) rfl rfl (by decide) rfl dX3_mayTake_94 ?_
      refine j_goto g dX3_mayTake_97 (tgt := 50) (by decide) ?_
      refine j_sub [2, 3, 4, 5, 0] rfl ?_
      exact ih (x7 + 1) h
    replace h := h.2 c3
    refine j_iload g 0 rfl dX3_mayTake_71 ?_
    refine j_iload g 3 rfl dX3_mayTake_73 ?_
    refine j_icmp_gt g dX3_mayTake_75 (tgt := 94) (by decide) (fun c4 => ?_) (fun c4 => ?_)
    · replace h := h.1 c4
      refine j_iinc g 5 (n := 1) (v := x7 + 1) (lv' := [(7, .int (x7 + 1)), (8, .int (pr x7.toNatClampNeg)), (0, .ref (a 1)), (3, .ref (a (17 + i3))), (4, .int x4), (6, .int x6)]) rfl rfl (by decide) rfl dX3_mayTake_94 ?_
      refine j_goto g dX3_mayTake_97 (tgt := 50) (by decide) ?_
      refine j_sub [2, 3, 4, 5, 0] rfl ?_
      exact ih (x7 + 1) h
    replace h := h.2 c4
    refine j_aload_n g 2 rfl dX3_mayTake_78 ?_
    refine j_iload g 3 rfl dX3_mayTake_79 ?_
    refine j_iload g 0 rfl dX3_mayTake_81 ?_
    refine j_isub g dX3_mayTake_83 ?_
    refine j_iload g 4 rfl dX3_mayTake_84 ?_
    refine j_callVZ_0 g (As := [.int (x4 - (pr x7.toNatClampNeg)), .int x6]) (st := []) (c_X2_hasWith hi3 h) cl_X3_73 (17 + i3) 2 (cg_S hi3) rfl rfl (Nat.le_of_ble_eq_true rfl) (Nat.le_of_ble_eq_true rfl) (Nat.zero_le _) (Nat.zero_le _) rfl rfl (Nat.le_of_ble_eq_true rfl) dX3_mayTake_86 (fun r_5  hz_5 h => ?_)
    refine j_if_ne g dX3_mayTake_89 (tgt := 94) (by decide) (fun c6 => ?_) (fun c6 => ?_)
    rotate_left
    · replace h := h.2 c6
      refine j_iconst g (v := 0) (by decide) dX3_mayTake_92 ?_
      exact hret.go dX3_mayTake_93 (Or.inl rfl) h
    replace h := h.1 c6
    refine j_iinc g 5 (n := 1) (v := x7 + 1) (lv' := [(7, .int (x7 + 1)), (8, .int (pr x7.toNatClampNeg)), (0, .ref (a 1)), (3, .ref (a (17 + i3))), (4, .int x4), (6, .int x6)]) rfl rfl (by decide) rfl dX3_mayTake_94 ?_
    refine j_goto g dX3_mayTake_97 (tgt := 50) (by decide) ?_
    refine j_sub [2, 3, 4, 5, 0] rfl ?_
    exact ih (x7 + 1) h
set_option maxRecDepth 20000 in
set_option maxHeartbeats 4000000 in
theorem c_X3_mayTake {a : Nat → Nat} {q : Nat → ClassId} {i1 : Nat} {x2 : Int32} {j3 : Nat} {x4 : Int32} {x5 : Int32} (hi1 : i1 < 6) (hz2 : x2 = 0 ∨ x2 = 1) (hj3 : j3 < 6) {sz : Int32} {pr : Nat → Int32} {pm : Nat → Nat} {kv : Nat → Int32} {kn : Nat → Int32} {kr : Nat → Int32} {kt : Nat → Int32} {kb : Nat → Int32} {ks : Nat → Int32} {kj : Nat → Int32} {kw : Nat → Int32} {kg : Nat → Int32} {wd : Nat → Nat → Int64} {fw : Nat → Nat → Int32} {ad : Nat → Int32} {bk : Nat → Int32} {md : Int32} {cr : Int32} {ow : Int32} {hd : Int32} {K : Int32 → Prop} (h : wp_X3_mayTake i1 x2 j3 x4 x5 pr kv kn ks wd K) : ctZ_0 q yX3_mayTake cX3_mayTake 9 2 43 [.ref (a 1), .ref (a (11 + i1)), .int x2, .ref (a (17 + j3)), .int x4, .int x5] (cgW a q sz pr pm kv kn kr kt kb ks kj kw kg wd fw ad bk md cr ow hd) (cgW a q sz pr pm kv kn kr kt kb ks kj kw kg wd fw ad bk md cr ow hd) K := by
  refine met_Z_0 (by decide) (Nat.le_of_ble_eq_true rfl) (fun Γ g hret => ?_)
  unfold wp_X3_mayTake at h
  show jw Γ 9 0 0 (cgW a q sz pr pm kv kn kr kt kb ks kj kw kg wd fw ad bk md cr ow hd) [(0, .ref (a 1)), (1, .ref (a (11 + i1))), (2, .int x2), (3, .ref (a (17 + j3))), (4, .int x4), (5, .int x5)] [] 0
  refine j_iload g 4 rfl dX3_mayTake_0 ?_
  refine j_sipush g (v := 999) (by decide) dX3_mayTake_2 ?_
  refine j_icmp_le g dX3_mayTake_5 (tgt := 10) (by decide) (fun c1 => ?_) (fun c1 => ?_)
  rotate_left
  · replace h := h.2 c1
    refine j_iconst g (v := 0) (by decide) dX3_mayTake_8 ?_
    exact hret.go dX3_mayTake_9 (Or.inl rfl) h
  replace h := h.1 c1
  refine j_iload_n g 2 rfl dX3_mayTake_10 ?_
  refine jn_cut h (fun Z2 eZ2 h => ?_)
  have hZ2 : ∀ (xs0_2 : Int32), Z2 xs0_2 → jw Γ 9 0 0 (cgW a q sz pr pm kv kn kr kt kb ks kj kw kg wd fw ad bk md cr ow hd) [(0, .ref (a 1)), (3, .ref (a (17 + j3))), (4, .int x4), (5, .int x5)] [.int xs0_2] 29 := by
    intro xs0_2 h
    rw [eZ2] at h
    refine j_istore g (lv' := [(6, .int xs0_2), (0, .ref (a 1)), (3, .ref (a (17 + j3))), (4, .int x4), (5, .int x5)]) (by decide) rfl dX3_mayTake_29 ?_
    refine j_aload_n g 2 rfl dX3_mayTake_31 ?_
    refine j_iload g 3 rfl dX3_mayTake_32 ?_
    refine j_iload g 4 rfl dX3_mayTake_34 ?_
    refine j_isub g dX3_mayTake_36 ?_
    refine j_iload g 0 rfl dX3_mayTake_37 ?_
    refine j_callVZ_0 g (As := [.int (x4 - x5), .int xs0_2]) (st := []) (c_X2_hasWith hj3 h) cl_X3_73 (17 + j3) 2 (cg_S hj3) rfl rfl (Nat.le_of_ble_eq_true rfl) (Nat.le_of_ble_eq_true rfl) (Nat.zero_le _) (Nat.zero_le _) rfl rfl (Nat.le_of_ble_eq_true rfl) dX3_mayTake_39 (fun r_3  hz_3 h => ?_)
    refine j_if_ne g dX3_mayTake_42 (tgt := 47) (by decide) (fun c4 => ?_) (fun c4 => ?_)
    rotate_left
    · replace h := h.2 c4
      refine j_iconst g (v := 0) (by decide) dX3_mayTake_45 ?_
      exact hret.go dX3_mayTake_46 (Or.inl rfl) h
    replace h := h.1 c4
    refine j_iconst g (v := 0) (by decide) dX3_mayTake_47 ?_
    refine j_istore g (lv' := [(7, .int (0 : Int32)), (6, .int xs0_2), (0, .ref (a 1)), (3, .ref (a (17 + j3))), (4, .int x4), (5, .int x5)]) (by decide) rfl dX3_mayTake_48 ?_
    obtain ⟨n5, h⟩ := h
    refine j_sub [2, 3, 4, 1, 0] rfl ?_
    refine wk_X3_mayTake_50 hj3 g hret (fun h => ?_) n5 (0 : Int32) h
    refine j_iconst g (v := 1) (by decide) dX3_mayTake_100 ?_
    exact hret.go dX3_mayTake_101 (Or.inr rfl) h
  refine jn_cut h (fun Z6 eZ6 h => ?_)
  have hZ6 : Z6 → jw Γ 9 0 0 (cgW a q sz pr pm kv kn kr kt kb ks kj kw kg wd fw ad bk md cr ow hd) [(0, .ref (a 1)), (3, .ref (a (17 + j3))), (4, .int x4), (5, .int x5)] [] 28 := by
    intro h
    rw [eZ6] at h
    refine j_iconst g (v := 0) (by decide) dX3_mayTake_28 ?_
    exact hZ2 (0 : Int32) h
  refine j_if_eq g dX3_mayTake_11 (tgt := 28) (by decide) (fun c7 => ?_) (fun c7 => ?_)
  · replace h := h.1 c7
    refine j_sub [0, 3, 4, 5] rfl ?_
    exact hZ6 h
  replace h := h.2 c7
  refine j_aload_n g 1 rfl dX3_mayTake_14 ?_
  refine j_callVZ_0 g (As := []) (st := []) (c_X0_gives hi1 h) cl_X3_47 (11 + i1) 0 (cg_K hi1) rfl rfl (Nat.le_of_ble_eq_true rfl) (Nat.le_of_ble_eq_true rfl) (Nat.zero_le _) (Nat.zero_le _) rfl rfl (Nat.le_of_ble_eq_true rfl) dX3_mayTake_15 (fun r_8  hz_8 h => ?_)
  refine j_if_eq g dX3_mayTake_18 (tgt := 28) (by decide) (fun c9 => ?_) (fun c9 => ?_)
  · replace h := h.1 c9
    refine j_sub [0, 3, 4, 5] rfl ?_
    exact hZ6 h
  replace h := h.2 c9
  refine j_aload_n g 1 rfl dX3_mayTake_21 ?_
  refine j_get g fl_X3_41 (11 + i1) (cg_K hi1) rfl dX3_mayTake_22 ?_
  refine j_goto g dX3_mayTake_25 (tgt := 29) (by decide) ?_
  refine j_sub [0, 3, 4, 5] rfl ?_
  exact hZ2 (kv i1) h

set_option maxRecDepth 20000 in
def wp_X3_coinsInWay_4  (sz : Int32) (kw : Nat → Int32) (K : Int32 → Prop) (X : Int32 → Prop) : Nat → Int32 → Int32 → Prop
  | 0, _, _ => False
  | n + 1, x1, x2 => ((sz ≤ x2 → X x1) ∧ (¬ sz ≤ x2 → (vp_in x2 6 ∧ wp_X3_coinsInWay_4 sz kw K X n (x1 + (kw x2.toNatClampNeg)) (x2 + 1))))
set_option maxRecDepth 20000 in
def wp_X3_coinsInWay  (sz : Int32) (kw : Nat → Int32) (K : Int32 → Prop) : Prop :=
  ∃ n1 : Nat, wp_X3_coinsInWay_4 sz kw K (fun (x1_1 : Int32) => K x1_1) n1 (0 : Int32) (0 : Int32)
theorem dX3_coinsInWay_0 : decode cX3_coinsInWay 0 = .ok (.iconst 0, 1) := by decide +kernel
theorem dX3_coinsInWay_1 : decode cX3_coinsInWay 1 = .ok (.istore_n 1, 1) := by decide +kernel
theorem dX3_coinsInWay_2 : decode cX3_coinsInWay 2 = .ok (.iconst 0, 1) := by decide +kernel
theorem dX3_coinsInWay_3 : decode cX3_coinsInWay 3 = .ok (.istore_n 2, 1) := by decide +kernel
theorem dX3_coinsInWay_4 : decode cX3_coinsInWay 4 = .ok (.iload_n 2, 1) := by decide +kernel
theorem dX3_coinsInWay_5 : decode cX3_coinsInWay 5 = .ok (.aload_n 0, 1) := by decide +kernel
theorem dX3_coinsInWay_6 : decode cX3_coinsInWay 6 = .ok (.getfield 24, 3) := by decide +kernel
theorem dX3_coinsInWay_9 : decode cX3_coinsInWay 9 = .ok (.if_icmp .ge 21, 3) := by decide +kernel
theorem dX3_coinsInWay_12 : decode cX3_coinsInWay 12 = .ok (.iload_n 1, 1) := by decide +kernel
theorem dX3_coinsInWay_13 : decode cX3_coinsInWay 13 = .ok (.aload_n 0, 1) := by decide +kernel
theorem dX3_coinsInWay_14 : decode cX3_coinsInWay 14 = .ok (.getfield 11, 3) := by decide +kernel
theorem dX3_coinsInWay_17 : decode cX3_coinsInWay 17 = .ok (.iload_n 2, 1) := by decide +kernel
theorem dX3_coinsInWay_18 : decode cX3_coinsInWay 18 = .ok (.aaload, 1) := by decide +kernel
theorem dX3_coinsInWay_19 : decode cX3_coinsInWay 19 = .ok (.getfield 77, 3) := by decide +kernel
theorem dX3_coinsInWay_22 : decode cX3_coinsInWay 22 = .ok (.iadd, 1) := by decide +kernel
theorem dX3_coinsInWay_23 : decode cX3_coinsInWay 23 = .ok (.istore_n 1, 1) := by decide +kernel
theorem dX3_coinsInWay_24 : decode cX3_coinsInWay 24 = .ok (.iinc 2 1, 3) := by decide +kernel
theorem dX3_coinsInWay_27 : decode cX3_coinsInWay 27 = .ok (.goto (-23), 3) := by decide +kernel
theorem dX3_coinsInWay_30 : decode cX3_coinsInWay 30 = .ok (.iload_n 1, 1) := by decide +kernel
theorem dX3_coinsInWay_31 : decode cX3_coinsInWay 31 = .ok (.ireturn, 1) := by decide +kernel
set_option maxRecDepth 20000 in
set_option maxHeartbeats 4000000 in
theorem wk_X3_coinsInWay_4 {Γ : GT} {a : Nat → Nat} {q : Nat → ClassId}   {sz : Int32} {pr : Nat → Int32} {pm : Nat → Nat} {kv : Nat → Int32} {kn : Nat → Int32} {kr : Nat → Int32} {kt : Nat → Int32} {kb : Nat → Int32} {ks : Nat → Int32} {kj : Nat → Int32} {kw : Nat → Int32} {kg : Nat → Int32} {wd : Nat → Nat → Int64} {fw : Nat → Nat → Int32} {ad : Nat → Int32} {bk : Nat → Int32} {md : Int32} {cr : Int32} {ow : Int32} {hd : Int32} {K : Int32 → Prop} {X : Int32 → Prop} (g : gd Γ cX3_coinsInWay RX3 3 (rmz 0 0) q) (hret : rtI_0 Γ cX3_coinsInWay 3 (cgW a q sz pr pm kv kn kr kt kb ks kj kw kg wd fw ad bk md cr ow hd) K) (hX : ∀ (x1 : Int32) , X x1 → jw Γ 3 0 0 (cgW a q sz pr pm kv kn kr kt kb ks kj kw kg wd fw ad bk md cr ow hd) [(1, .int x1)] [] 30) :
    ∀ (n : Nat) (x1 : Int32) (x2 : Int32) , wp_X3_coinsInWay_4 sz kw K X n x1 x2 → jw Γ 3 0 0 (cgW a q sz pr pm kv kn kr kt kb ks kj kw kg wd fw ad bk md cr ow hd) [(0, .ref (a 1)), (1, .int x1), (2, .int x2)] [] 4 := by
  intro n
  induction n with
  | zero =>
    intro _ _ h
    exact False.elim h
  | succ n ih =>
    intro x1 x2 h
    unfold wp_X3_coinsInWay_4 at h
    refine j_iload_n g 2 rfl dX3_coinsInWay_4 ?_
    refine j_aload_n g 0 rfl dX3_coinsInWay_5 ?_
    refine j_get g fl_X3_24 1 cg_1 rfl dX3_coinsInWay_6 ?_
    refine j_icmp_ge g dX3_coinsInWay_9 (tgt := 30) (by decide) (fun c1 => ?_) (fun c1 => ?_)
    · replace h := h.1 c1
      refine j_sub [1] rfl ?_
      exact hX x1 h
    replace h := h.2 c1
    refine j_iload_n g 1 rfl dX3_coinsInWay_12 ?_
    refine j_aload_n g 0 rfl dX3_coinsInWay_13 ?_
    refine j_get g fl_X3_11 1 cg_1 rfl dX3_coinsInWay_14 ?_
    refine j_iload_n g 2 rfl dX3_coinsInWay_17 ?_
    obtain ⟨hv2, h⟩ := h
    refine j_aald g 2 3 cg_2 rfl (by decide) hv2 rfl dX3_coinsInWay_18 ?_
    refine j_get g fl_X3_77 (11 + x2.toNatClampNeg) (cg_K (vp_lt hv2)) rfl dX3_coinsInWay_19 ?_
    refine j_iadd g dX3_coinsInWay_22 ?_
    refine j_istore_n g (lv' := [(1, .int (x1 + (kw x2.toNatClampNeg))), (0, .ref (a 1)), (2, .int x2)]) (by decide) rfl dX3_coinsInWay_23 ?_
    refine j_iinc g 2 (n := 1) (v := x2 + 1) (lv' := [(2, .int (x2 + 1)), (1, .int (x1 + (kw x2.toNatClampNeg))), (0, .ref (a 1))]) rfl rfl (by decide) rfl dX3_coinsInWay_24 ?_
    refine j_goto g dX3_coinsInWay_27 (tgt := 4) (by decide) ?_
    refine j_sub [2, 1, 0] rfl ?_
    exact ih (x1 + (kw x2.toNatClampNeg)) (x2 + 1) h
set_option maxRecDepth 20000 in
set_option maxHeartbeats 4000000 in
theorem c_X3_coinsInWay {a : Nat → Nat} {q : Nat → ClassId}   {sz : Int32} {pr : Nat → Int32} {pm : Nat → Nat} {kv : Nat → Int32} {kn : Nat → Int32} {kr : Nat → Int32} {kt : Nat → Int32} {kb : Nat → Int32} {ks : Nat → Int32} {kj : Nat → Int32} {kw : Nat → Int32} {kg : Nat → Int32} {wd : Nat → Nat → Int64} {fw : Nat → Nat → Int32} {ad : Nat → Int32} {bk : Nat → Int32} {md : Int32} {cr : Int32} {ow : Int32} {hd : Int32} {K : Int32 → Prop} (h : wp_X3_coinsInWay sz kw K) : ctI_0 q yX3_coinsInWay cX3_coinsInWay 3 0 0 [.ref (a 1)] (cgW a q sz pr pm kv kn kr kt kb ks kj kw kg wd fw ad bk md cr ow hd) (cgW a q sz pr pm kv kn kr kt kb ks kj kw kg wd fw ad bk md cr ow hd) K := by
  refine met_I_0 (by decide) (Nat.le_of_ble_eq_true rfl) (fun Γ g hret => ?_)
  unfold wp_X3_coinsInWay at h
  show jw Γ 3 0 0 (cgW a q sz pr pm kv kn kr kt kb ks kj kw kg wd fw ad bk md cr ow hd) [(0, .ref (a 1))] [] 0
  refine j_iconst g (v := 0) (by decide) dX3_coinsInWay_0 ?_
  refine j_istore_n g (lv' := [(1, .int (0 : Int32)), (0, .ref (a 1))]) (by decide) rfl dX3_coinsInWay_1 ?_
  refine j_iconst g (v := 0) (by decide) dX3_coinsInWay_2 ?_
  refine j_istore_n g (lv' := [(2, .int (0 : Int32)), (1, .int (0 : Int32)), (0, .ref (a 1))]) (by decide) rfl dX3_coinsInWay_3 ?_
  obtain ⟨n1, h⟩ := h
  refine j_sub [2, 1, 0] rfl ?_
  refine wk_X3_coinsInWay_4  g hret (fun x1_1 h => ?_) n1 (0 : Int32) (0 : Int32) h
  refine j_iload_n g 0 rfl dX3_coinsInWay_30 ?_
  exact hret.go dX3_coinsInWay_31 h

set_option maxRecDepth 20000 in
def wp_X3_coinsGiven_4  (sz : Int32) (kg : Nat → Int32) (K : Int32 → Prop) (X : Int32 → Prop) : Nat → Int32 → Int32 → Prop
  | 0, _, _ => False
  | n + 1, x1, x2 => ((sz ≤ x2 → X x1) ∧ (¬ sz ≤ x2 → (vp_in x2 6 ∧ wp_X3_coinsGiven_4 sz kg K X n (x1 + (kg x2.toNatClampNeg)) (x2 + 1))))
set_option maxRecDepth 20000 in
def wp_X3_coinsGiven  (sz : Int32) (kg : Nat → Int32) (K : Int32 → Prop) : Prop :=
  ∃ n1 : Nat, wp_X3_coinsGiven_4 sz kg K (fun (x1_1 : Int32) => K x1_1) n1 (0 : Int32) (0 : Int32)
theorem dX3_coinsGiven_0 : decode cX3_coinsGiven 0 = .ok (.iconst 0, 1) := by decide +kernel
theorem dX3_coinsGiven_1 : decode cX3_coinsGiven 1 = .ok (.istore_n 1, 1) := by decide +kernel
theorem dX3_coinsGiven_2 : decode cX3_coinsGiven 2 = .ok (.iconst 0, 1) := by decide +kernel
theorem dX3_coinsGiven_3 : decode cX3_coinsGiven 3 = .ok (.istore_n 2, 1) := by decide +kernel
theorem dX3_coinsGiven_4 : decode cX3_coinsGiven 4 = .ok (.iload_n 2, 1) := by decide +kernel
theorem dX3_coinsGiven_5 : decode cX3_coinsGiven 5 = .ok (.aload_n 0, 1) := by decide +kernel
theorem dX3_coinsGiven_6 : decode cX3_coinsGiven 6 = .ok (.getfield 24, 3) := by decide +kernel
theorem dX3_coinsGiven_9 : decode cX3_coinsGiven 9 = .ok (.if_icmp .ge 21, 3) := by decide +kernel
theorem dX3_coinsGiven_12 : decode cX3_coinsGiven 12 = .ok (.iload_n 1, 1) := by decide +kernel
theorem dX3_coinsGiven_13 : decode cX3_coinsGiven 13 = .ok (.aload_n 0, 1) := by decide +kernel
theorem dX3_coinsGiven_14 : decode cX3_coinsGiven 14 = .ok (.getfield 11, 3) := by decide +kernel
theorem dX3_coinsGiven_17 : decode cX3_coinsGiven 17 = .ok (.iload_n 2, 1) := by decide +kernel
theorem dX3_coinsGiven_18 : decode cX3_coinsGiven 18 = .ok (.aaload, 1) := by decide +kernel
theorem dX3_coinsGiven_19 : decode cX3_coinsGiven 19 = .ok (.getfield 80, 3) := by decide +kernel
theorem dX3_coinsGiven_22 : decode cX3_coinsGiven 22 = .ok (.iadd, 1) := by decide +kernel
theorem dX3_coinsGiven_23 : decode cX3_coinsGiven 23 = .ok (.istore_n 1, 1) := by decide +kernel
theorem dX3_coinsGiven_24 : decode cX3_coinsGiven 24 = .ok (.iinc 2 1, 3) := by decide +kernel
theorem dX3_coinsGiven_27 : decode cX3_coinsGiven 27 = .ok (.goto (-23), 3) := by decide +kernel
theorem dX3_coinsGiven_30 : decode cX3_coinsGiven 30 = .ok (.iload_n 1, 1) := by decide +kernel
theorem dX3_coinsGiven_31 : decode cX3_coinsGiven 31 = .ok (.ireturn, 1) := by decide +kernel
set_option maxRecDepth 20000 in
set_option maxHeartbeats 4000000 in
theorem wk_X3_coinsGiven_4 {Γ : GT} {a : Nat → Nat} {q : Nat → ClassId}   {sz : Int32} {pr : Nat → Int32} {pm : Nat → Nat} {kv : Nat → Int32} {kn : Nat → Int32} {kr : Nat → Int32} {kt : Nat → Int32} {kb : Nat → Int32} {ks : Nat → Int32} {kj : Nat → Int32} {kw : Nat → Int32} {kg : Nat → Int32} {wd : Nat → Nat → Int64} {fw : Nat → Nat → Int32} {ad : Nat → Int32} {bk : Nat → Int32} {md : Int32} {cr : Int32} {ow : Int32} {hd : Int32} {K : Int32 → Prop} {X : Int32 → Prop} (g : gd Γ cX3_coinsGiven RX3 3 (rmz 0 0) q) (hret : rtI_0 Γ cX3_coinsGiven 3 (cgW a q sz pr pm kv kn kr kt kb ks kj kw kg wd fw ad bk md cr ow hd) K) (hX : ∀ (x1 : Int32) , X x1 → jw Γ 3 0 0 (cgW a q sz pr pm kv kn kr kt kb ks kj kw kg wd fw ad bk md cr ow hd) [(1, .int x1)] [] 30) :
    ∀ (n : Nat) (x1 : Int32) (x2 : Int32) , wp_X3_coinsGiven_4 sz kg K X n x1 x2 → jw Γ 3 0 0 (cgW a q sz pr pm kv kn kr kt kb ks kj kw kg wd fw ad bk md cr ow hd) [(0, .ref (a 1)), (1, .int x1), (2, .int x2)] [] 4 := by
  intro n
  induction n with
  | zero =>
    intro _ _ h
    exact False.elim h
  | succ n ih =>
    intro x1 x2 h
    unfold wp_X3_coinsGiven_4 at h
    refine j_iload_n g 2 rfl dX3_coinsGiven_4 ?_
    refine j_aload_n g 0 rfl dX3_coinsGiven_5 ?_
    refine j_get g fl_X3_24 1 cg_1 rfl dX3_coinsGiven_6 ?_
    refine j_icmp_ge g dX3_coinsGiven_9 (tgt := 30) (by decide) (fun c1 => ?_) (fun c1 => ?_)
    · replace h := h.1 c1
      refine j_sub [1] rfl ?_
      exact hX x1 h
    replace h := h.2 c1
    refine j_iload_n g 1 rfl dX3_coinsGiven_12 ?_
    refine j_aload_n g 0 rfl dX3_coinsGiven_13 ?_
    refine j_get g fl_X3_11 1 cg_1 rfl dX3_coinsGiven_14 ?_
    refine j_iload_n g 2 rfl dX3_coinsGiven_17 ?_
    obtain ⟨hv2, h⟩ := h
    refine j_aald g 2 3 cg_2 rfl (by decide) hv2 rfl dX3_coinsGiven_18 ?_
    refine j_get g fl_X3_80 (11 + x2.toNatClampNeg) (cg_K (vp_lt hv2)) rfl dX3_coinsGiven_19 ?_
    refine j_iadd g dX3_coinsGiven_22 ?_
    refine j_istore_n g (lv' := [(1, .int (x1 + (kg x2.toNatClampNeg))), (0, .ref (a 1)), (2, .int x2)]) (by decide) rfl dX3_coinsGiven_23 ?_
    refine j_iinc g 2 (n := 1) (v := x2 + 1) (lv' := [(2, .int (x2 + 1)), (1, .int (x1 + (kg x2.toNatClampNeg))), (0, .ref (a 1))]) rfl rfl (by decide) rfl dX3_coinsGiven_24 ?_
    refine j_goto g dX3_coinsGiven_27 (tgt := 4) (by decide) ?_
    refine j_sub [2, 1, 0] rfl ?_
    exact ih (x1 + (kg x2.toNatClampNeg)) (x2 + 1) h
set_option maxRecDepth 20000 in
set_option maxHeartbeats 4000000 in
theorem c_X3_coinsGiven {a : Nat → Nat} {q : Nat → ClassId}   {sz : Int32} {pr : Nat → Int32} {pm : Nat → Nat} {kv : Nat → Int32} {kn : Nat → Int32} {kr : Nat → Int32} {kt : Nat → Int32} {kb : Nat → Int32} {ks : Nat → Int32} {kj : Nat → Int32} {kw : Nat → Int32} {kg : Nat → Int32} {wd : Nat → Nat → Int64} {fw : Nat → Nat → Int32} {ad : Nat → Int32} {bk : Nat → Int32} {md : Int32} {cr : Int32} {ow : Int32} {hd : Int32} {K : Int32 → Prop} (h : wp_X3_coinsGiven sz kg K) : ctI_0 q yX3_coinsGiven cX3_coinsGiven 3 0 0 [.ref (a 1)] (cgW a q sz pr pm kv kn kr kt kb ks kj kw kg wd fw ad bk md cr ow hd) (cgW a q sz pr pm kv kn kr kt kb ks kj kw kg wd fw ad bk md cr ow hd) K := by
  refine met_I_0 (by decide) (Nat.le_of_ble_eq_true rfl) (fun Γ g hret => ?_)
  unfold wp_X3_coinsGiven at h
  show jw Γ 3 0 0 (cgW a q sz pr pm kv kn kr kt kb ks kj kw kg wd fw ad bk md cr ow hd) [(0, .ref (a 1))] [] 0
  refine j_iconst g (v := 0) (by decide) dX3_coinsGiven_0 ?_
  refine j_istore_n g (lv' := [(1, .int (0 : Int32)), (0, .ref (a 1))]) (by decide) rfl dX3_coinsGiven_1 ?_
  refine j_iconst g (v := 0) (by decide) dX3_coinsGiven_2 ?_
  refine j_istore_n g (lv' := [(2, .int (0 : Int32)), (1, .int (0 : Int32)), (0, .ref (a 1))]) (by decide) rfl dX3_coinsGiven_3 ?_
  obtain ⟨n1, h⟩ := h
  refine j_sub [2, 1, 0] rfl ?_
  refine wk_X3_coinsGiven_4  g hret (fun x1_1 h => ?_) n1 (0 : Int32) (0 : Int32) h
  refine j_iload_n g 0 rfl dX3_coinsGiven_30 ?_
  exact hret.go dX3_coinsGiven_31 h

set_option maxRecDepth 20000 in
def wp_X3_forgetGiven_2  (sz : Int32) (K : (Nat → Int32) → Prop) (X : (Nat → Int32) → Prop) : Nat → Int32 → (Nat → Int32) → Prop
  | 0, _, _ => False
  | n + 1, x1, kg => ((sz ≤ x1 → X kg) ∧ (¬ sz ≤ x1 → (vp_in x1 6 ∧ wp_X3_forgetGiven_2 sz K X n (x1 + 1) (upd kg x1.toNatClampNeg (0 : Int32)))))
set_option maxRecDepth 20000 in
def wp_X3_forgetGiven  (sz : Int32) (kg : Nat → Int32) (K : (Nat → Int32) → Prop) : Prop :=
  ∃ n1 : Nat, wp_X3_forgetGiven_2 sz K (fun (kg_1 : Nat → Int32) => K kg_1) n1 (0 : Int32) kg
theorem dX3_forgetGiven_0 : decode cX3_forgetGiven 0 = .ok (.iconst 0, 1) := by decide +kernel
theorem dX3_forgetGiven_1 : decode cX3_forgetGiven 1 = .ok (.istore_n 1, 1) := by decide +kernel
theorem dX3_forgetGiven_2 : decode cX3_forgetGiven 2 = .ok (.iload_n 1, 1) := by decide +kernel
theorem dX3_forgetGiven_3 : decode cX3_forgetGiven 3 = .ok (.aload_n 0, 1) := by decide +kernel
theorem dX3_forgetGiven_4 : decode cX3_forgetGiven 4 = .ok (.getfield 24, 3) := by decide +kernel
theorem dX3_forgetGiven_7 : decode cX3_forgetGiven 7 = .ok (.if_icmp .ge 19, 3) := by decide +kernel
theorem dX3_forgetGiven_10 : decode cX3_forgetGiven 10 = .ok (.aload_n 0, 1) := by decide +kernel
theorem dX3_forgetGiven_11 : decode cX3_forgetGiven 11 = .ok (.getfield 11, 3) := by decide +kernel
theorem dX3_forgetGiven_14 : decode cX3_forgetGiven 14 = .ok (.iload_n 1, 1) := by decide +kernel
theorem dX3_forgetGiven_15 : decode cX3_forgetGiven 15 = .ok (.aaload, 1) := by decide +kernel
theorem dX3_forgetGiven_16 : decode cX3_forgetGiven 16 = .ok (.iconst 0, 1) := by decide +kernel
theorem dX3_forgetGiven_17 : decode cX3_forgetGiven 17 = .ok (.putfield 80, 3) := by decide +kernel
theorem dX3_forgetGiven_20 : decode cX3_forgetGiven 20 = .ok (.iinc 1 1, 3) := by decide +kernel
theorem dX3_forgetGiven_23 : decode cX3_forgetGiven 23 = .ok (.goto (-21), 3) := by decide +kernel
theorem dX3_forgetGiven_26 : decode cX3_forgetGiven 26 = .ok (.return_, 1) := by decide +kernel
set_option maxRecDepth 20000 in
set_option maxHeartbeats 4000000 in
theorem wk_X3_forgetGiven_2 {Γ : GT} {a : Nat → Nat} {q : Nat → ClassId}   {sz : Int32} {pr : Nat → Int32} {pm : Nat → Nat} {kv : Nat → Int32} {kn : Nat → Int32} {kr : Nat → Int32} {kt : Nat → Int32} {kb : Nat → Int32} {ks : Nat → Int32} {kj : Nat → Int32} {kw : Nat → Int32} {wd : Nat → Nat → Int64} {fw : Nat → Nat → Int32} {ad : Nat → Int32} {bk : Nat → Int32} {md : Int32} {cr : Int32} {ow : Int32} {hd : Int32} {K : (Nat → Int32) → Prop} {X : (Nat → Int32) → Prop} (g : gd Γ cX3_forgetGiven RX3 2 (rmz 0 0) q) (hret : rtV_1 Γ cX3_forgetGiven 2 (fun (kg : Nat → Int32) => (cgW a q sz pr pm kv kn kr kt kb ks kj kw kg wd fw ad bk md cr ow hd)) K) (hX : ∀ (kg : Nat → Int32) , X kg → jw Γ 2 0 0 (cgW a q sz pr pm kv kn kr kt kb ks kj kw kg wd fw ad bk md cr ow hd) [] [] 26) :
    ∀ (n : Nat) (x1 : Int32) (kg : Nat → Int32) , wp_X3_forgetGiven_2 sz K X n x1 kg → jw Γ 2 0 0 (cgW a q sz pr pm kv kn kr kt kb ks kj kw kg wd fw ad bk md cr ow hd) [(0, .ref (a 1)), (1, .int x1)] [] 2 := by
  intro n
  induction n with
  | zero =>
    intro _ _ h
    exact False.elim h
  | succ n ih =>
    intro x1 kg h
    unfold wp_X3_forgetGiven_2 at h
    refine j_iload_n g 1 rfl dX3_forgetGiven_2 ?_
    refine j_aload_n g 0 rfl dX3_forgetGiven_3 ?_
    refine j_get g fl_X3_24 1 cg_1 rfl dX3_forgetGiven_4 ?_
    refine j_icmp_ge g dX3_forgetGiven_7 (tgt := 26) (by decide) (fun c1 => ?_) (fun c1 => ?_)
    · replace h := h.1 c1
      refine j_sub [] rfl ?_
      exact hX kg h
    replace h := h.2 c1
    refine j_aload_n g 0 rfl dX3_forgetGiven_10 ?_
    refine j_get g fl_X3_11 1 cg_1 rfl dX3_forgetGiven_11 ?_
    refine j_iload_n g 1 rfl dX3_forgetGiven_14 ?_
    obtain ⟨hv2, h⟩ := h
    refine j_aald g 2 3 cg_2 rfl (by decide) hv2 rfl dX3_forgetGiven_15 ?_
    refine j_iconst g (v := 0) (by decide) dX3_forgetGiven_16 ?_
    refine j_put g fl_X3_80 fp_X0_8 (11 + x1.toNatClampNeg) (cg_K (vp_lt hv2)) rfl rfl (Nat.le_of_ble_eq_true rfl) (ws' := (cgW a q sz pr pm kv kn kr kt kb ks kj kw (upd kg x1.toNatClampNeg (0 : Int32)) wd fw ad bk md cr ow hd)) (cg_s_kg (vp_lt hv2)) dX3_forgetGiven_17 ?_
    refine j_iinc g 1 (n := 1) (v := x1 + 1) (lv' := [(1, .int (x1 + 1)), (0, .ref (a 1))]) rfl rfl (by decide) rfl dX3_forgetGiven_20 ?_
    refine j_goto g dX3_forgetGiven_23 (tgt := 2) (by decide) ?_
    refine j_sub [1, 0] rfl ?_
    exact ih (x1 + 1) (upd kg x1.toNatClampNeg (0 : Int32)) h
set_option maxRecDepth 20000 in
set_option maxHeartbeats 4000000 in
theorem c_X3_forgetGiven {a : Nat → Nat} {q : Nat → ClassId}   {sz : Int32} {pr : Nat → Int32} {pm : Nat → Nat} {kv : Nat → Int32} {kn : Nat → Int32} {kr : Nat → Int32} {kt : Nat → Int32} {kb : Nat → Int32} {ks : Nat → Int32} {kj : Nat → Int32} {kw : Nat → Int32} {kg : Nat → Int32} {wd : Nat → Nat → Int64} {fw : Nat → Nat → Int32} {ad : Nat → Int32} {bk : Nat → Int32} {md : Int32} {cr : Int32} {ow : Int32} {hd : Int32} {K : (Nat → Int32) → Prop} (h : wp_X3_forgetGiven sz kg K) : ctV_1 q yX3_forgetGiven cX3_forgetGiven 2 0 0 [.ref (a 1)] (cgW a q sz pr pm kv kn kr kt kb ks kj kw kg wd fw ad bk md cr ow hd) (fun (kg : Nat → Int32) => (cgW a q sz pr pm kv kn kr kt kb ks kj kw kg wd fw ad bk md cr ow hd)) K := by
  refine met_V_1 (by decide) (Nat.le_of_ble_eq_true rfl) (fun Γ g hret => ?_)
  unfold wp_X3_forgetGiven at h
  show jw Γ 2 0 0 (cgW a q sz pr pm kv kn kr kt kb ks kj kw kg wd fw ad bk md cr ow hd) [(0, .ref (a 1))] [] 0
  refine j_iconst g (v := 0) (by decide) dX3_forgetGiven_0 ?_
  refine j_istore_n g (lv' := [(1, .int (0 : Int32)), (0, .ref (a 1))]) (by decide) rfl dX3_forgetGiven_1 ?_
  obtain ⟨n1, h⟩ := h
  refine j_sub [1, 0] rfl ?_
  refine wk_X3_forgetGiven_2  g hret (fun kg_1 h => ?_) n1 (0 : Int32) kg h
  exact hret.go dX3_forgetGiven_26 h

set_option maxRecDepth 20000 in
def wp_X3_tubesValue_4  (sz : Int32) (kv : Nat → Int32) (kt : Nat → Int32) (K : Int32 → Prop) (X : Int32 → Prop) : Nat → Int32 → Int32 → Prop
  | 0, _, _ => False
  | n + 1, x1, x2 => ((sz ≤ x2 → X x1) ∧ (¬ sz ≤ x2 → (vp_in x2 6 ∧ (vp_in x2 6 ∧ wp_X3_tubesValue_4 sz kv kt K X n (x1 + ((kt x2.toNatClampNeg) * (kv x2.toNatClampNeg))) (x2 + 1)))))
set_option maxRecDepth 20000 in
def wp_X3_tubesValue  (sz : Int32) (kv : Nat → Int32) (kt : Nat → Int32) (K : Int32 → Prop) : Prop :=
  ∃ n1 : Nat, wp_X3_tubesValue_4 sz kv kt K (fun (x1_1 : Int32) => K x1_1) n1 (0 : Int32) (0 : Int32)
theorem dX3_tubesValue_0 : decode cX3_tubesValue 0 = .ok (.iconst 0, 1) := by decide +kernel
theorem dX3_tubesValue_1 : decode cX3_tubesValue 1 = .ok (.istore_n 1, 1) := by decide +kernel
theorem dX3_tubesValue_2 : decode cX3_tubesValue 2 = .ok (.iconst 0, 1) := by decide +kernel
theorem dX3_tubesValue_3 : decode cX3_tubesValue 3 = .ok (.istore_n 2, 1) := by decide +kernel
theorem dX3_tubesValue_4 : decode cX3_tubesValue 4 = .ok (.iload_n 2, 1) := by decide +kernel
theorem dX3_tubesValue_5 : decode cX3_tubesValue 5 = .ok (.aload_n 0, 1) := by decide +kernel
theorem dX3_tubesValue_6 : decode cX3_tubesValue 6 = .ok (.getfield 24, 3) := by decide +kernel
theorem dX3_tubesValue_9 : decode cX3_tubesValue 9 = .ok (.if_icmp .ge 31, 3) := by decide +kernel
theorem dX3_tubesValue_12 : decode cX3_tubesValue 12 = .ok (.iload_n 1, 1) := by decide +kernel
theorem dX3_tubesValue_13 : decode cX3_tubesValue 13 = .ok (.aload_n 0, 1) := by decide +kernel
theorem dX3_tubesValue_14 : decode cX3_tubesValue 14 = .ok (.getfield 11, 3) := by decide +kernel
theorem dX3_tubesValue_17 : decode cX3_tubesValue 17 = .ok (.iload_n 2, 1) := by decide +kernel
theorem dX3_tubesValue_18 : decode cX3_tubesValue 18 = .ok (.aaload, 1) := by decide +kernel
theorem dX3_tubesValue_19 : decode cX3_tubesValue 19 = .ok (.getfield 51, 3) := by decide +kernel
theorem dX3_tubesValue_22 : decode cX3_tubesValue 22 = .ok (.aload_n 0, 1) := by decide +kernel
theorem dX3_tubesValue_23 : decode cX3_tubesValue 23 = .ok (.getfield 11, 3) := by decide +kernel
theorem dX3_tubesValue_26 : decode cX3_tubesValue 26 = .ok (.iload_n 2, 1) := by decide +kernel
theorem dX3_tubesValue_27 : decode cX3_tubesValue 27 = .ok (.aaload, 1) := by decide +kernel
theorem dX3_tubesValue_28 : decode cX3_tubesValue 28 = .ok (.getfield 41, 3) := by decide +kernel
theorem dX3_tubesValue_31 : decode cX3_tubesValue 31 = .ok (.imul, 1) := by decide +kernel
theorem dX3_tubesValue_32 : decode cX3_tubesValue 32 = .ok (.iadd, 1) := by decide +kernel
theorem dX3_tubesValue_33 : decode cX3_tubesValue 33 = .ok (.istore_n 1, 1) := by decide +kernel
theorem dX3_tubesValue_34 : decode cX3_tubesValue 34 = .ok (.iinc 2 1, 3) := by decide +kernel
theorem dX3_tubesValue_37 : decode cX3_tubesValue 37 = .ok (.goto (-33), 3) := by decide +kernel
theorem dX3_tubesValue_40 : decode cX3_tubesValue 40 = .ok (.iload_n 1, 1) := by decide +kernel
theorem dX3_tubesValue_41 : decode cX3_tubesValue 41 = .ok (.ireturn, 1) := by decide +kernel
set_option maxRecDepth 20000 in
set_option maxHeartbeats 4000000 in
theorem wk_X3_tubesValue_4 {Γ : GT} {a : Nat → Nat} {q : Nat → ClassId}   {sz : Int32} {pr : Nat → Int32} {pm : Nat → Nat} {kv : Nat → Int32} {kn : Nat → Int32} {kr : Nat → Int32} {kt : Nat → Int32} {kb : Nat → Int32} {ks : Nat → Int32} {kj : Nat → Int32} {kw : Nat → Int32} {kg : Nat → Int32} {wd : Nat → Nat → Int64} {fw : Nat → Nat → Int32} {ad : Nat → Int32} {bk : Nat → Int32} {md : Int32} {cr : Int32} {ow : Int32} {hd : Int32} {K : Int32 → Prop} {X : Int32 → Prop} (g : gd Γ cX3_tubesValue RX3 3 (rmz 0 0) q) (hret : rtI_0 Γ cX3_tubesValue 3 (cgW a q sz pr pm kv kn kr kt kb ks kj kw kg wd fw ad bk md cr ow hd) K) (hX : ∀ (x1 : Int32) , X x1 → jw Γ 3 0 0 (cgW a q sz pr pm kv kn kr kt kb ks kj kw kg wd fw ad bk md cr ow hd) [(1, .int x1)] [] 40) :
    ∀ (n : Nat) (x1 : Int32) (x2 : Int32) , wp_X3_tubesValue_4 sz kv kt K X n x1 x2 → jw Γ 3 0 0 (cgW a q sz pr pm kv kn kr kt kb ks kj kw kg wd fw ad bk md cr ow hd) [(0, .ref (a 1)), (1, .int x1), (2, .int x2)] [] 4 := by
  intro n
  induction n with
  | zero =>
    intro _ _ h
    exact False.elim h
  | succ n ih =>
    intro x1 x2 h
    unfold wp_X3_tubesValue_4 at h
    refine j_iload_n g 2 rfl dX3_tubesValue_4 ?_
    refine j_aload_n g 0 rfl dX3_tubesValue_5 ?_
    refine j_get g fl_X3_24 1 cg_1 rfl dX3_tubesValue_6 ?_
    refine j_icmp_ge g dX3_tubesValue_9 (tgt := 40) (by decide) (fun c1 => ?_) (fun c1 => ?_)
    · replace h := h.1 c1
      refine j_sub [1] rfl ?_
      exact hX x1 h
    replace h := h.2 c1
    refine j_iload_n g 1 rfl dX3_tubesValue_12 ?_
    refine j_aload_n g 0 rfl dX3_tubesValue_13 ?_
    refine j_get g fl_X3_11 1 cg_1 rfl dX3_tubesValue_14 ?_
    refine j_iload_n g 2 rfl dX3_tubesValue_17 ?_
    obtain ⟨hv2, h⟩ := h
    refine j_aald g 2 3 cg_2 rfl (by decide) hv2 rfl dX3_tubesValue_18 ?_
    refine j_get g fl_X3_51 (11 + x2.toNatClampNeg) (cg_K (vp_lt hv2)) rfl dX3_tubesValue_19 ?_
    refine j_aload_n g 0 rfl dX3_tubesValue_22 ?_
    refine j_get g fl_X3_11 1 cg_1 rfl dX3_tubesValue_23 ?_
    refine j_iload_n g 2 rfl dX3_tubesValue_26 ?_
    obtain ⟨hv3, h⟩ := h
    refine j_aald g 2 3 cg_2 rfl (by decide) hv3 rfl dX3_tubesValue_27 ?_
    refine j_get g fl_X3_41 (11 + x2.toNatClampNeg) (cg_K (vp_lt hv3)) rfl dX3_tubesValue_28 ?_
    refine j_imul g dX3_tubesValue_31 ?_
    refine j_iadd g dX3_tubesValue_32 ?_
    refine j_istore_n g (lv' := [(1, .int (x1 + ((kt x2.toNatClampNeg) * (kv x2.toNatClampNeg)))), (0, .ref (a 1)), (2, .int x2)]) (by decide) rfl dX3_tubesValue_33 ?_
    refine j_iinc g 2 (n := 1) (v := x2 + 1) (lv' := [(2, .int (x2 + 1)), (1, .int (x1 + ((kt x2.toNatClampNeg) * (kv x2.toNatClampNeg)))), (0, .ref (a 1))]) rfl rfl (by decide) rfl dX3_tubesValue_34 ?_
    refine j_goto g dX3_tubesValue_37 (tgt := 4) (by decide) ?_
    refine j_sub [2, 1, 0] rfl ?_
    exact ih (x1 + ((kt x2.toNatClampNeg) * (kv x2.toNatClampNeg))) (x2 + 1) h
set_option maxRecDepth 20000 in
set_option maxHeartbeats 4000000 in
theorem c_X3_tubesValue {a : Nat → Nat} {q : Nat → ClassId}   {sz : Int32} {pr : Nat → Int32} {pm : Nat → Nat} {kv : Nat → Int32} {kn : Nat → Int32} {kr : Nat → Int32} {kt : Nat → Int32} {kb : Nat → Int32} {ks : Nat → Int32} {kj : Nat → Int32} {kw : Nat → Int32} {kg : Nat → Int32} {wd : Nat → Nat → Int64} {fw : Nat → Nat → Int32} {ad : Nat → Int32} {bk : Nat → Int32} {md : Int32} {cr : Int32} {ow : Int32} {hd : Int32} {K : Int32 → Prop} (h : wp_X3_tubesValue sz kv kt K) : ctI_0 q yX3_tubesValue cX3_tubesValue 3 0 0 [.ref (a 1)] (cgW a q sz pr pm kv kn kr kt kb ks kj kw kg wd fw ad bk md cr ow hd) (cgW a q sz pr pm kv kn kr kt kb ks kj kw kg wd fw ad bk md cr ow hd) K := by
  refine met_I_0 (by decide) (Nat.le_of_ble_eq_true rfl) (fun Γ g hret => ?_)
  unfold wp_X3_tubesValue at h
  show jw Γ 3 0 0 (cgW a q sz pr pm kv kn kr kt kb ks kj kw kg wd fw ad bk md cr ow hd) [(0, .ref (a 1))] [] 0
  refine j_iconst g (v := 0) (by decide) dX3_tubesValue_0 ?_
  refine j_istore_n g (lv' := [(1, .int (0 : Int32)), (0, .ref (a 1))]) (by decide) rfl dX3_tubesValue_1 ?_
  refine j_iconst g (v := 0) (by decide) dX3_tubesValue_2 ?_
  refine j_istore_n g (lv' := [(2, .int (0 : Int32)), (1, .int (0 : Int32)), (0, .ref (a 1))]) (by decide) rfl dX3_tubesValue_3 ?_
  obtain ⟨n1, h⟩ := h
  refine j_sub [2, 1, 0] rfl ?_
  refine wk_X3_tubesValue_4  g hret (fun x1_1 h => ?_) n1 (0 : Int32) (0 : Int32) h
  refine j_iload_n g 0 rfl dX3_tubesValue_40 ?_
  exact hret.go dX3_tubesValue_41 h

set_option maxRecDepth 20000 in
def wp_X3_boxValue_4  (sz : Int32) (kv : Nat → Int32) (kb : Nat → Int32) (K : Int32 → Prop) (X : Int32 → Prop) : Nat → Int32 → Int32 → Prop
  | 0, _, _ => False
  | n + 1, x1, x2 => ((sz ≤ x2 → X x1) ∧ (¬ sz ≤ x2 → (vp_in x2 6 ∧ (vp_in x2 6 ∧ wp_X3_boxValue_4 sz kv kb K X n (x1 + ((kb x2.toNatClampNeg) * (kv x2.toNatClampNeg))) (x2 + 1)))))
set_option maxRecDepth 20000 in
def wp_X3_boxValue  (sz : Int32) (kv : Nat → Int32) (kb : Nat → Int32) (K : Int32 → Prop) : Prop :=
  ∃ n1 : Nat, wp_X3_boxValue_4 sz kv kb K (fun (x1_1 : Int32) => K x1_1) n1 (0 : Int32) (0 : Int32)
theorem dX3_boxValue_0 : decode cX3_boxValue 0 = .ok (.iconst 0, 1) := by decide +kernel
theorem dX3_boxValue_1 : decode cX3_boxValue 1 = .ok (.istore_n 1, 1) := by decide +kernel
theorem dX3_boxValue_2 : decode cX3_boxValue 2 = .ok (.iconst 0, 1) := by decide +kernel
theorem dX3_boxValue_3 : decode cX3_boxValue 3 = .ok (.istore_n 2, 1) := by decide +kernel
theorem dX3_boxValue_4 : decode cX3_boxValue 4 = .ok (.iload_n 2, 1) := by decide +kernel
theorem dX3_boxValue_5 : decode cX3_boxValue 5 = .ok (.aload_n 0, 1) := by decide +kernel
theorem dX3_boxValue_6 : decode cX3_boxValue 6 = .ok (.getfield 24, 3) := by decide +kernel
theorem dX3_boxValue_9 : decode cX3_boxValue 9 = .ok (.if_icmp .ge 31, 3) := by decide +kernel
theorem dX3_boxValue_12 : decode cX3_boxValue 12 = .ok (.iload_n 1, 1) := by decide +kernel
theorem dX3_boxValue_13 : decode cX3_boxValue 13 = .ok (.aload_n 0, 1) := by decide +kernel
theorem dX3_boxValue_14 : decode cX3_boxValue 14 = .ok (.getfield 11, 3) := by decide +kernel
theorem dX3_boxValue_17 : decode cX3_boxValue 17 = .ok (.iload_n 2, 1) := by decide +kernel
theorem dX3_boxValue_18 : decode cX3_boxValue 18 = .ok (.aaload, 1) := by decide +kernel
theorem dX3_boxValue_19 : decode cX3_boxValue 19 = .ok (.getfield 83, 3) := by decide +kernel
theorem dX3_boxValue_22 : decode cX3_boxValue 22 = .ok (.aload_n 0, 1) := by decide +kernel
theorem dX3_boxValue_23 : decode cX3_boxValue 23 = .ok (.getfield 11, 3) := by decide +kernel
theorem dX3_boxValue_26 : decode cX3_boxValue 26 = .ok (.iload_n 2, 1) := by decide +kernel
theorem dX3_boxValue_27 : decode cX3_boxValue 27 = .ok (.aaload, 1) := by decide +kernel
theorem dX3_boxValue_28 : decode cX3_boxValue 28 = .ok (.getfield 41, 3) := by decide +kernel
theorem dX3_boxValue_31 : decode cX3_boxValue 31 = .ok (.imul, 1) := by decide +kernel
theorem dX3_boxValue_32 : decode cX3_boxValue 32 = .ok (.iadd, 1) := by decide +kernel
theorem dX3_boxValue_33 : decode cX3_boxValue 33 = .ok (.istore_n 1, 1) := by decide +kernel
theorem dX3_boxValue_34 : decode cX3_boxValue 34 = .ok (.iinc 2 1, 3) := by decide +kernel
theorem dX3_boxValue_37 : decode cX3_boxValue 37 = .ok (.goto (-33), 3) := by decide +kernel
theorem dX3_boxValue_40 : decode cX3_boxValue 40 = .ok (.iload_n 1, 1) := by decide +kernel
theorem dX3_boxValue_41 : decode cX3_boxValue 41 = .ok (.ireturn, 1) := by decide +kernel
set_option maxRecDepth 20000 in
set_option maxHeartbeats 4000000 in
theorem wk_X3_boxValue_4 {Γ : GT} {a : Nat → Nat} {q : Nat → ClassId}   {sz : Int32} {pr : Nat → Int32} {pm : Nat → Nat} {kv : Nat → Int32} {kn : Nat → Int32} {kr : Nat → Int32} {kt : Nat → Int32} {kb : Nat → Int32} {ks : Nat → Int32} {kj : Nat → Int32} {kw : Nat → Int32} {kg : Nat → Int32} {wd : Nat → Nat → Int64} {fw : Nat → Nat → Int32} {ad : Nat → Int32} {bk : Nat → Int32} {md : Int32} {cr : Int32} {ow : Int32} {hd : Int32} {K : Int32 → Prop} {X : Int32 → Prop} (g : gd Γ cX3_boxValue RX3 3 (rmz 0 0) q) (hret : rtI_0 Γ cX3_boxValue 3 (cgW a q sz pr pm kv kn kr kt kb ks kj kw kg wd fw ad bk md cr ow hd) K) (hX : ∀ (x1 : Int32) , X x1 → jw Γ 3 0 0 (cgW a q sz pr pm kv kn kr kt kb ks kj kw kg wd fw ad bk md cr ow hd) [(1, .int x1)] [] 40) :
    ∀ (n : Nat) (x1 : Int32) (x2 : Int32) , wp_X3_boxValue_4 sz kv kb K X n x1 x2 → jw Γ 3 0 0 (cgW a q sz pr pm kv kn kr kt kb ks kj kw kg wd fw ad bk md cr ow hd) [(0, .ref (a 1)), (1, .int x1), (2, .int x2)] [] 4 := by
  intro n
  induction n with
  | zero =>
    intro _ _ h
    exact False.elim h
  | succ n ih =>
    intro x1 x2 h
    unfold wp_X3_boxValue_4 at h
    refine j_iload_n g 2 rfl dX3_boxValue_4 ?_
    refine j_aload_n g 0 rfl dX3_boxValue_5 ?_
    refine j_get g fl_X3_24 1 cg_1 rfl dX3_boxValue_6 ?_
    refine j_icmp_ge g dX3_boxValue_9 (tgt := 40) (by decide) (fun c1 => ?_) (fun c1 => ?_)
    · replace h := h.1 c1
      refine j_sub [1] rfl ?_
      exact hX x1 h
    replace h := h.2 c1
    refine j_iload_n g 1 rfl dX3_boxValue_12 ?_
    refine j_aload_n g 0 rfl dX3_boxValue_13 ?_
    refine j_get g fl_X3_11 1 cg_1 rfl dX3_boxValue_14 ?_
    refine j_iload_n g 2 rfl dX3_boxValue_17 ?_
    obtain ⟨hv2, h⟩ := h
    refine j_aald g 2 3 cg_2 rfl (by decide) hv2 rfl dX3_boxValue_18 ?_
    refine j_get g fl_X3_83 (11 + x2.toNatClampNeg) (cg_K (vp_lt hv2)) rfl dX3_boxValue_19 ?_
    refine j_aload_n g 0 rfl dX3_boxValue_22 ?_
    refine j_get g fl_X3_11 1 cg_1 rfl dX3_boxValue_23 ?_
    refine j_iload_n g 2 rfl dX3_boxValue_26 ?_
    obtain ⟨hv3, h⟩ := h
    refine j_aald g 2 3 cg_2 rfl (by decide) hv3 rfl dX3_boxValue_27 ?_
    refine j_get g fl_X3_41 (11 + x2.toNatClampNeg) (cg_K (vp_lt hv3)) rfl dX3_boxValue_28 ?_
    refine j_imul g dX3_boxValue_31 ?_
    refine j_iadd g dX3_boxValue_32 ?_
    refine j_istore_n g (lv' := [(1, .int (x1 + ((kb x2.toNatClampNeg) * (kv x2.toNatClampNeg)))), (0, .ref (a 1)), (2, .int x2)]) (by decide) rfl dX3_boxValue_33 ?_
    refine j_iinc g 2 (n := 1) (v := x2 + 1) (lv' := [(2, .int (x2 + 1)), (1, .int (x1 + ((kb x2.toNatClampNeg) * (kv x2.toNatClampNeg)))), (0, .ref (a 1))]) rfl rfl (by decide) rfl dX3_boxValue_34 ?_
    refine j_goto g dX3_boxValue_37 (tgt := 4) (by decide) ?_
    refine j_sub [2, 1, 0] rfl ?_
    exact ih (x1 + ((kb x2.toNatClampNeg) * (kv x2.toNatClampNeg))) (x2 + 1) h
set_option maxRecDepth 20000 in
set_option maxHeartbeats 4000000 in
theorem c_X3_boxValue {a : Nat → Nat} {q : Nat → ClassId}   {sz : Int32} {pr : Nat → Int32} {pm : Nat → Nat} {kv : Nat → Int32} {kn : Nat → Int32} {kr : Nat → Int32} {kt : Nat → Int32} {kb : Nat → Int32} {ks : Nat → Int32} {kj : Nat → Int32} {kw : Nat → Int32} {kg : Nat → Int32} {wd : Nat → Nat → Int64} {fw : Nat → Nat → Int32} {ad : Nat → Int32} {bk : Nat → Int32} {md : Int32} {cr : Int32} {ow : Int32} {hd : Int32} {K : Int32 → Prop} (h : wp_X3_boxValue sz kv kb K) : ctI_0 q yX3_boxValue cX3_boxValue 3 0 0 [.ref (a 1)] (cgW a q sz pr pm kv kn kr kt kb ks kj kw kg wd fw ad bk md cr ow hd) (cgW a q sz pr pm kv kn kr kt kb ks kj kw kg wd fw ad bk md cr ow hd) K := by
  refine met_I_0 (by decide) (Nat.le_of_ble_eq_true rfl) (fun Γ g hret => ?_)
  unfold wp_X3_boxValue at h
  show jw Γ 3 0 0 (cgW a q sz pr pm kv kn kr kt kb ks kj kw kg wd fw ad bk md cr ow hd) [(0, .ref (a 1))] [] 0
  refine j_iconst g (v := 0) (by decide) dX3_boxValue_0 ?_
  refine j_istore_n g (lv' := [(1, .int (0 : Int32)), (0, .ref (a 1))]) (by decide) rfl dX3_boxValue_1 ?_
  refine j_iconst g (v := 0) (by decide) dX3_boxValue_2 ?_
  refine j_istore_n g (lv' := [(2, .int (0 : Int32)), (1, .int (0 : Int32)), (0, .ref (a 1))]) (by decide) rfl dX3_boxValue_3 ?_
  obtain ⟨n1, h⟩ := h
  refine j_sub [2, 1, 0] rfl ?_
  refine wk_X3_boxValue_4  g hret (fun x1_1 h => ?_) n1 (0 : Int32) (0 : Int32) h
  refine j_iload_n g 0 rfl dX3_boxValue_40 ?_
  exact hret.go dX3_boxValue_41 h

set_option maxRecDepth 20000 in
def wp_X3_clearBox_2  (sz : Int32) (K : (Nat → Int32) → Prop) (X : (Nat → Int32) → Prop) : Nat → Int32 → (Nat → Int32) → Prop
  | 0, _, _ => False
  | n + 1, x1, kb => ((sz ≤ x1 → X kb) ∧ (¬ sz ≤ x1 → (vp_in x1 6 ∧ wp_X3_clearBox_2 sz K X n (x1 + 1) (upd kb x1.toNatClampNeg (0 : Int32)))))
set_option maxRecDepth 20000 in
def wp_X3_clearBox  (sz : Int32) (kb : Nat → Int32) (K : (Nat → Int32) → Prop) : Prop :=
  ∃ n1 : Nat, wp_X3_clearBox_2 sz K (fun (kb_1 : Nat → Int32) => K kb_1) n1 (0 : Int32) kb
theorem dX3_clearBox_0 : decode cX3_clearBox 0 = .ok (.iconst 0, 1) := by decide +kernel
theorem dX3_clearBox_1 : decode cX3_clearBox 1 = .ok (.istore_n 1, 1) := by decide +kernel
theorem dX3_clearBox_2 : decode cX3_clearBox 2 = .ok (.iload_n 1, 1) := by decide +kernel
theorem dX3_clearBox_3 : decode cX3_clearBox 3 = .ok (.aload_n 0, 1) := by decide +kernel
theorem dX3_clearBox_4 : decode cX3_clearBox 4 = .ok (.getfield 24, 3) := by decide +kernel
theorem dX3_clearBox_7 : decode cX3_clearBox 7 = .ok (.if_icmp .ge 19, 3) := by decide +kernel
theorem dX3_clearBox_10 : decode cX3_clearBox 10 = .ok (.aload_n 0, 1) := by decide +kernel
theorem dX3_clearBox_11 : decode cX3_clearBox 11 = .ok (.getfield 11, 3) := by decide +kernel
theorem dX3_clearBox_14 : decode cX3_clearBox 14 = .ok (.iload_n 1, 1) := by decide +kernel
theorem dX3_clearBox_15 : decode cX3_clearBox 15 = .ok (.aaload, 1) := by decide +kernel
theorem dX3_clearBox_16 : decode cX3_clearBox 16 = .ok (.iconst 0, 1) := by decide +kernel
theorem dX3_clearBox_17 : decode cX3_clearBox 17 = .ok (.putfield 83, 3) := by decide +kernel
theorem dX3_clearBox_20 : decode cX3_clearBox 20 = .ok (.iinc 1 1, 3) := by decide +kernel
theorem dX3_clearBox_23 : decode cX3_clearBox 23 = .ok (.goto (-21), 3) := by decide +kernel
theorem dX3_clearBox_26 : decode cX3_clearBox 26 = .ok (.return_, 1) := by decide +kernel
set_option maxRecDepth 20000 in
set_option maxHeartbeats 4000000 in
theorem wk_X3_clearBox_2 {Γ : GT} {a : Nat → Nat} {q : Nat → ClassId}   {sz : Int32} {pr : Nat → Int32} {pm : Nat → Nat} {kv : Nat → Int32} {kn : Nat → Int32} {kr : Nat → Int32} {kt : Nat → Int32} {ks : Nat → Int32} {kj : Nat → Int32} {kw : Nat → Int32} {kg : Nat → Int32} {wd : Nat → Nat → Int64} {fw : Nat → Nat → Int32} {ad : Nat → Int32} {bk : Nat → Int32} {md : Int32} {cr : Int32} {ow : Int32} {hd : Int32} {K : (Nat → Int32) → Prop} {X : (Nat → Int32) → Prop} (g : gd Γ cX3_clearBox RX3 2 (rmz 0 0) q) (hret : rtV_1 Γ cX3_clearBox 2 (fun (kb : Nat → Int32) => (cgW a q sz pr pm kv kn kr kt kb ks kj kw kg wd fw ad bk md cr ow hd)) K) (hX : ∀ (kb : Nat → Int32) , X kb → jw Γ 2 0 0 (cgW a q sz pr pm kv kn kr kt kb ks kj kw kg wd fw ad bk md cr ow hd) [] [] 26) :
    ∀ (n : Nat) (x1 : Int32) (kb : Nat → Int32) , wp_X3_clearBox_2 sz K X n x1 kb → jw Γ 2 0 0 (cgW a q sz pr pm kv kn kr kt kb ks kj kw kg wd fw ad bk md cr ow hd) [(0, .ref (a 1)), (1, .int x1)] [] 2 := by
  intro n
  induction n with
  | zero =>
    intro _ _ h
    exact False.elim h
  | succ n ih =>
    intro x1 kb h
    unfold wp_X3_clearBox_2 at h
    refine j_iload_n g 1 rfl dX3_clearBox_2 ?_
    refine j_aload_n g 0 rfl dX3_clearBox_3 ?_
    refine j_get g fl_X3_24 1 cg_1 rfl dX3_clearBox_4 ?_
    refine j_icmp_ge g dX3_clearBox_7 (tgt := 26) (by decide) (fun c1 => ?_) (fun c1 => ?_)
    · replace h := h.1 c1
      refine j_sub [] rfl ?_
      exact hX kb h
    replace h := h.2 c1
    refine j_aload_n g 0 rfl dX3_clearBox_10 ?_
    refine j_get g fl_X3_11 1 cg_1 rfl dX3_clearBox_11 ?_
    refine j_iload_n g 1 rfl dX3_clearBox_14 ?_
    obtain ⟨hv2, h⟩ := h
    refine j_aald g 2 3 cg_2 rfl (by decide) hv2 rfl dX3_clearBox_15 ?_
    refine j_iconst g (v := 0) (by decide) dX3_clearBox_16 ?_
    refine j_put g fl_X3_83 fp_X0_4 (11 + x1.toNatClampNeg) (cg_K (vp_lt hv2)) rfl rfl (Nat.le_of_ble_eq_true rfl) (ws' := (cgW a q sz pr pm kv kn kr kt (upd kb x1.toNatClampNeg (0 : Int32)) ks kj kw kg wd fw ad bk md cr ow hd)) (cg_s_kb (vp_lt hv2)) dX3_clearBox_17 ?_
    refine j_iinc g 1 (n := 1) (v := x1 + 1) (lv' := [(1, .int (x1 + 1)), (0, .ref (a 1))]) rfl rfl (by decide) rfl dX3_clearBox_20 ?_
    refine j_goto g dX3_clearBox_23 (tgt := 2) (by decide) ?_
    refine j_sub [1, 0] rfl ?_
    exact ih (x1 + 1) (upd kb x1.toNatClampNeg (0 : Int32)) h
set_option maxRecDepth 20000 in
set_option maxHeartbeats 4000000 in
theorem c_X3_clearBox {a : Nat → Nat} {q : Nat → ClassId}   {sz : Int32} {pr : Nat → Int32} {pm : Nat → Nat} {kv : Nat → Int32} {kn : Nat → Int32} {kr : Nat → Int32} {kt : Nat → Int32} {kb : Nat → Int32} {ks : Nat → Int32} {kj : Nat → Int32} {kw : Nat → Int32} {kg : Nat → Int32} {wd : Nat → Nat → Int64} {fw : Nat → Nat → Int32} {ad : Nat → Int32} {bk : Nat → Int32} {md : Int32} {cr : Int32} {ow : Int32} {hd : Int32} {K : (Nat → Int32) → Prop} (h : wp_X3_clearBox sz kb K) : ctV_1 q yX3_clearBox cX3_clearBox 2 0 0 [.ref (a 1)] (cgW a q sz pr pm kv kn kr kt kb ks kj kw kg wd fw ad bk md cr ow hd) (fun (kb : Nat → Int32) => (cgW a q sz pr pm kv kn kr kt kb ks kj kw kg wd fw ad bk md cr ow hd)) K := by
  refine met_V_1 (by decide) (Nat.le_of_ble_eq_true rfl) (fun Γ g hret => ?_)
  unfold wp_X3_clearBox at h
  show jw Γ 2 0 0 (cgW a q sz pr pm kv kn kr kt kb ks kj kw kg wd fw ad bk md cr ow hd) [(0, .ref (a 1))] [] 0
  refine j_iconst g (v := 0) (by decide) dX3_clearBox_0 ?_
  refine j_istore_n g (lv' := [(1, .int (0 : Int32)), (0, .ref (a 1))]) (by decide) rfl dX3_clearBox_1 ?_
  obtain ⟨n1, h⟩ := h
  refine j_sub [1, 0] rfl ?_
  refine wk_X3_clearBox_2  g hret (fun kb_1 h => ?_) n1 (0 : Int32) kb h
  exact hret.go dX3_clearBox_26 h
end
section
set_option maxRecDepth 20000 in
def wp_X4_addPart_3 (i0 : Nat) (x2 : Int32) (x3 : Int32)  (K : (Nat → Nat → Int32) → Prop) (X : (Nat → Nat → Int32) → Prop) : Nat → Int32 → (Nat → Nat → Int32) → Prop
  | 0, _, _ => False
  | n + 1, x4, fw => ((x4 < x2 → X fw) ∧ (¬ x4 < x2 → (vp_in (x4 - x2) 1000 ∧ (vp_in x4 1000 ∧ ((fw i0 x4.toNatClampNeg ≤ (fw i0 (x4 - x2).toNatClampNeg) + x3 → wp_X4_addPart_3 i0 x2 x3 K X n (x4 + (-1 : Int32)) fw) ∧ (¬ fw i0 x4.toNatClampNeg ≤ (fw i0 (x4 - x2).toNatClampNeg) + x3 → (vp_in x4 1000 ∧ wp_X4_addPart_3 i0 x2 x3 K X n (x4 + (-1 : Int32)) (va_up fw i0 (upd (fw i0) x4.toNatClampNeg ((fw i0 (x4 - x2).toNatClampNeg) + x3))))))))))
set_option maxRecDepth 20000 in
def wp_X4_addPart (r0 : Nat) (x1 : Int32) (x2 : Int32) (x3 : Int32) (fw : Nat → Nat → Int32) (K : (Nat → Nat → Int32) → Prop) : Prop :=
  ∃ n1 : Nat, wp_X4_addPart_3 r0 x2 x3 K (fun (fw_1 : Nat → Nat → Int32) => K fw_1) n1 x1 fw
theorem dX4_addPart_0 : decode cX4_addPart 0 = .ok (.iload_n 1, 1) := by decide +kernel
theorem dX4_addPart_1 : decode cX4_addPart 1 = .ok (.istore 4, 2) := by decide +kernel
theorem dX4_addPart_3 : decode cX4_addPart 3 = .ok (.iload 4, 2) := by decide +kernel
theorem dX4_addPart_5 : decode cX4_addPart 5 = .ok (.iload_n 2, 1) := by decide +kernel
theorem dX4_addPart_6 : decode cX4_addPart 6 = .ok (.if_icmp .lt 34, 3) := by decide +kernel
theorem dX4_addPart_9 : decode cX4_addPart 9 = .ok (.aload_n 0, 1) := by decide +kernel
theorem dX4_addPart_10 : decode cX4_addPart 10 = .ok (.iload 4, 2) := by decide +kernel
theorem dX4_addPart_12 : decode cX4_addPart 12 = .ok (.iload_n 2, 1) := by decide +kernel
theorem dX4_addPart_13 : decode cX4_addPart 13 = .ok (.isub, 1) := by decide +kernel
theorem dX4_addPart_14 : decode cX4_addPart 14 = .ok (.iaload, 1) := by decide +kernel
theorem dX4_addPart_15 : decode cX4_addPart 15 = .ok (.iload_n 3, 1) := by decide +kernel
theorem dX4_addPart_16 : decode cX4_addPart 16 = .ok (.iadd, 1) := by decide +kernel
theorem dX4_addPart_17 : decode cX4_addPart 17 = .ok (.istore 5, 2) := by decide +kernel
theorem dX4_addPart_19 : decode cX4_addPart 19 = .ok (.iload 5, 2) := by decide +kernel
theorem dX4_addPart_21 : decode cX4_addPart 21 = .ok (.aload_n 0, 1) := by decide +kernel
theorem dX4_addPart_22 : decode cX4_addPart 22 = .ok (.iload 4, 2) := by decide +kernel
theorem dX4_addPart_24 : decode cX4_addPart 24 = .ok (.iaload, 1) := by decide +kernel
theorem dX4_addPart_25 : decode cX4_addPart 25 = .ok (.if_icmp .ge 9, 3) := by decide +kernel
theorem dX4_addPart_28 : decode cX4_addPart 28 = .ok (.aload_n 0, 1) := by decide +kernel
theorem dX4_addPart_29 : decode cX4_addPart 29 = .ok (.iload 4, 2) := by decide +kernel
theorem dX4_addPart_31 : decode cX4_addPart 31 = .ok (.iload 5, 2) := by decide +kernel
theorem dX4_addPart_33 : decode cX4_addPart 33 = .ok (.iastore, 1) := by decide +kernel
theorem dX4_addPart_34 : decode cX4_addPart 34 = .ok (.iinc 4 (-1), 3) := by decide +kernel
theorem dX4_addPart_37 : decode cX4_addPart 37 = .ok (.goto (-34), 3) := by decide +kernel
theorem dX4_addPart_40 : decode cX4_addPart 40 = .ok (.return_, 1) := by decide +kernel
set_option maxRecDepth 20000 in
set_option maxHeartbeats 4000000 in
theorem wk_X4_addPart_3 {Γ : GT} {a : Nat → Nat} {q : Nat → ClassId} {i0 : Nat} {x2 : Int32} {x3 : Int32} (hi0 : i0 < 6) {sz : Int32} {pr : Nat → Int32} {pm : Nat → Nat} {kv : Nat → Int32} {kn : Nat → Int32} {kr : Nat → Int32} {kt : Nat → Int32} {kb : Nat → Int32} {ks : Nat → Int32} {kj : Nat → Int32} {kw : Nat → Int32} {kg : Nat → Int32} {wd : Nat → Nat → Int64} {ad : Nat → Int32} {bk : Nat → Int32} {md : Int32} {cr : Int32} {ow : Int32} {hd : Int32} {K : (Nat → Nat → Int32) → Prop} {X : (Nat → Nat → Int32) → Prop} (g : gd Γ cX4_addPart RX4 6 (rmz 0 0) q) (hret : rtV_1 Γ cX4_addPart 6 (fun (fw : Nat → Nat → Int32) => (cgW a q sz pr pm kv kn kr kt kb ks kj kw kg wd fw ad bk md cr ow hd)) K) (hX : ∀ (fw : Nat → Nat → Int32) , X fw → jw Γ 6 0 0 (cgW a q sz pr pm kv kn kr kt kb ks kj kw kg wd fw ad bk md cr ow hd) [] [] 40) :
    ∀ (n : Nat) (x4 : Int32) (fw : Nat → Nat → Int32) , wp_X4_addPart_3 i0 x2 x3 K X n x4 fw → jw Γ 6 0 0 (cgW a q sz pr pm kv kn kr kt kb ks kj kw kg wd fw ad bk md cr ow hd) [(0, .ref (a (29 + i0))), (2, .int x2), (3, .int x3), (4, .int x4)] [] 3 := by
  intro n
  induction n with
  | zero =>
    intro _ _ h
    exact False.elim h
  | succ n ih =>
    intro x4 fw h
    unfold wp_X4_addPart_3 at h
    refine j_iload g 3 rfl dX4_addPart_3 ?_
    refine j_iload_n g 1 rfl dX4_addPart_5 ?_
    refine j_icmp_lt g dX4_addPart_6 (tgt := 40) (by decide) (fun c1 => ?_) (fun c1 => ?_)
    · replace h := h.1 c1
      refine j_sub [] rfl ?_
      exact hX fw h
    replace h := h.2 c1
    refine j_aload_n g 0 rfl dX4_addPart_9 ?_
    refine j_iload g 3 rfl dX4_addPart_10 ?_
    refine j_iload_n g 1 rfl dX4_addPart_12 ?_
    refine j_isub g dX4_addPart_13 ?_
    obtain ⟨hv2, h⟩ := h
    refine j_iald g (29 + i0) (cg_r hi0) hv2 dX4_addPart_14 ?_
    refine j_iload_n g 2 rfl dX4_addPart_15 ?_
    refine j_iadd g dX4_addPart_16 ?_
    refine j_istore g (lv' := [(5, .int ((fw i0 (x4 - x2).toNatClampNeg) + x3)), (0, .ref (a (29 + i0))), (2, .int x2), (3, .int x3), (4, .int x4)]) (by decide) rfl dX4_addPart_17 ?_
    refine j_iload g 0 rfl dX4_addPart_19 ?_
    refine j_aload_n g 1 rfl dX4_addPart_21 ?_
    refine j_iload g 4 rfl dX4_addPart_22 ?_
    obtain ⟨hv3, h⟩ := h
    refine j_iald g (29 + i0) (cg_r hi0) hv3 dX4_addPart_24 ?_
    refine j_icmp_ge g dX4_addPart_25 (tgt := 34) (by decide) (fun c4 => ?_) (fun c4 => ?_)
    · replace h := h.1 c4
      refine j_iinc g 4 (n := -1) (v := x4 + (-1 : Int32)) (lv' := [(4, .int (x4 + (-1 : Int32))), (5, .int ((fw i0 (x4 - x2).toNatClampNeg) + x3)), (0, .ref (a (29 + i0))), (2, .int x2), (3, .int x3)]) rfl rfl (by decide) rfl dX4_addPart_34 ?_
      refine j_goto g dX4_addPart_37 (tgt := 3) (by decide) ?_
      refine j_sub [2, 3, 4, 0] rfl ?_
      exact ih (x4 + (-1 : Int32)) fw h
    replace h := h.2 c4
    refine j_aload_n g 1 rfl dX4_addPart_28 ?_
    refine j_iload g 4 rfl dX4_addPart_29 ?_
    refine j_iload g 0 rfl dX4_addPart_31 ?_
    obtain ⟨hv5, h⟩ := h
    refine j_iast g (29 + i0) (cg_r hi0) hv5 (ws' := (cgW a q sz pr pm kv kn kr kt kb ks kj kw kg wd (va_up fw i0 (upd (fw i0) x4.toNatClampNeg ((fw i0 (x4 - x2).toNatClampNeg) + x3))) ad bk md cr ow hd)) (cg_s_r hi0) dX4_addPart_33 ?_
    refine j_iinc g 4 (n := -1) (v := x4 + (-1 : Int32)) (lv' := [(4, .int (x4 + (-1 : Int32))), (5, .int ((fw i0 (x4 - x2).toNatClampNeg) + x3)), (0, .ref (a (29 + i0))), (2, .int x2), (3, .int x3)]) rfl rfl (by decide) rfl dX4_addPart_34 ?_
    refine j_goto g dX4_addPart_37 (tgt := 3) (by decide) ?_
    refine j_sub [2, 3, 4, 0] rfl ?_
    exact ih (x4 + (-1 : Int32)) (va_up fw i0 (upd (fw i0) x4.toNatClampNeg ((fw i0 (x4 - x2).toNatClampNeg) + x3))) h
set_option maxRecDepth 20000 in
set_option maxHeartbeats 4000000 in
theorem c_X4_addPart {a : Nat → Nat} {q : Nat → ClassId} {r0 : Nat} {x1 : Int32} {x2 : Int32} {x3 : Int32} (hr0 : r0 < 6) {sz : Int32} {pr : Nat → Int32} {pm : Nat → Nat} {kv : Nat → Int32} {kn : Nat → Int32} {kr : Nat → Int32} {kt : Nat → Int32} {kb : Nat → Int32} {ks : Nat → Int32} {kj : Nat → Int32} {kw : Nat → Int32} {kg : Nat → Int32} {wd : Nat → Nat → Int64} {fw : Nat → Nat → Int32} {ad : Nat → Int32} {bk : Nat → Int32} {md : Int32} {cr : Int32} {ow : Int32} {hd : Int32} {K : (Nat → Nat → Int32) → Prop} (h : wp_X4_addPart r0 x1 x2 x3 fw K) : ctV_1 q yX4_addPart cX4_addPart 6 0 0 [.ref (a (29 + r0)), .int x1, .int x2, .int x3] (cgW a q sz pr pm kv kn kr kt kb ks kj kw kg wd fw ad bk md cr ow hd) (fun (fw : Nat → Nat → Int32) => (cgW a q sz pr pm kv kn kr kt kb ks kj kw kg wd fw ad bk md cr ow hd)) K := by
  refine met_V_1 (by decide) (Nat.le_of_ble_eq_true rfl) (fun Γ g hret => ?_)
  unfold wp_X4_addPart at h
  show jw Γ 6 0 0 (cgW a q sz pr pm kv kn kr kt kb ks kj kw kg wd fw ad bk md cr ow hd) [(0, .ref (a (29 + r0))), (1, .int x1), (2, .int x2), (3, .int x3)] [] 0
  refine j_iload_n g 1 rfl dX4_addPart_0 ?_
  refine j_istore g (lv' := [(4, .int x1), (0, .ref (a (29 + r0))), (1, .int x1), (2, .int x2), (3, .int x3)]) (by decide) rfl dX4_addPart_1 ?_
  obtain ⟨n1, h⟩ := h
  refine j_sub [1, 3, 4, 0] rfl ?_
  refine wk_X4_addPart_3 hr0 g hret (fun fw_1 h => ?_) n1 x1 fw h
  exact hret.go dX4_addPart_40 h

set_option maxRecDepth 20000 in
def wp_X4_addCoins_6 (i0 : Nat) (x1 : Int32) (x2 : Int32)  (K : (Nat → Nat → Int32) → Prop) (X : (Nat → Nat → Int32) → Prop) : Nat → Int32 → Int32 → (Nat → Nat → Int32) → Prop
  | 0, _, _, _ => False
  | n + 1, x4, x5, fw => (((20 : Int32) < x5 → X fw) ∧ (¬ (20 : Int32) < x5 → ((x4 ≤ 0 → X fw) ∧ (¬ x4 ≤ 0 → wp_X4_addPart i0 x1 ((if x4 < x5 then x4 else x5) * x2) (if x4 < x5 then x4 else x5) fw (fun (fw_3 : Nat → Nat → Int32) => wp_X4_addCoins_6 i0 x1 x2 K X n (x4 - (if x4 < x5 then x4 else x5)) (x5 * (2 : Int32)) fw_3)))))
set_option maxRecDepth 20000 in
def wp_X4_addCoins (r0 : Nat) (x1 : Int32) (x2 : Int32) (x3 : Int32) (fw : Nat → Nat → Int32) (K : (Nat → Nat → Int32) → Prop) : Prop :=
  ∃ n1 : Nat, wp_X4_addCoins_6 r0 x1 x2 K (fun (fw_1 : Nat → Nat → Int32) => K fw_1) n1 x3 (1 : Int32) fw
theorem dX4_addCoins_0 : decode cX4_addCoins 0 = .ok (.iload_n 3, 1) := by decide +kernel
theorem dX4_addCoins_1 : decode cX4_addCoins 1 = .ok (.istore 4, 2) := by decide +kernel
theorem dX4_addCoins_3 : decode cX4_addCoins 3 = .ok (.iconst 1, 1) := by decide +kernel
theorem dX4_addCoins_4 : decode cX4_addCoins 4 = .ok (.istore 5, 2) := by decide +kernel
theorem dX4_addCoins_6 : decode cX4_addCoins 6 = .ok (.iload 5, 2) := by decide +kernel
theorem dX4_addCoins_8 : decode cX4_addCoins 8 = .ok (.bipush 20, 2) := by decide +kernel
theorem dX4_addCoins_10 : decode cX4_addCoins 10 = .ok (.if_icmp .gt 44, 3) := by decide +kernel
theorem dX4_addCoins_13 : decode cX4_addCoins 13 = .ok (.iload 4, 2) := by decide +kernel
theorem dX4_addCoins_15 : decode cX4_addCoins 15 = .ok (.ifCond .le 39, 3) := by decide +kernel
theorem dX4_addCoins_18 : decode cX4_addCoins 18 = .ok (.iload 5, 2) := by decide +kernel
theorem dX4_addCoins_20 : decode cX4_addCoins 20 = .ok (.iload 4, 2) := by decide +kernel
theorem dX4_addCoins_22 : decode cX4_addCoins 22 = .ok (.invokestatic 58, 3) := by decide +kernel
theorem dX4_addCoins_25 : decode cX4_addCoins 25 = .ok (.istore 6, 2) := by decide +kernel
theorem dX4_addCoins_27 : decode cX4_addCoins 27 = .ok (.aload_n 0, 1) := by decide +kernel
theorem dX4_addCoins_28 : decode cX4_addCoins 28 = .ok (.iload_n 1, 1) := by decide +kernel
theorem dX4_addCoins_29 : decode cX4_addCoins 29 = .ok (.iload 6, 2) := by decide +kernel
theorem dX4_addCoins_31 : decode cX4_addCoins 31 = .ok (.iload_n 2, 1) := by decide +kernel
theorem dX4_addCoins_32 : decode cX4_addCoins 32 = .ok (.imul, 1) := by decide +kernel
theorem dX4_addCoins_33 : decode cX4_addCoins 33 = .ok (.iload 6, 2) := by decide +kernel
theorem dX4_addCoins_35 : decode cX4_addCoins 35 = .ok (.invokestatic 64, 3) := by decide +kernel
theorem dX4_addCoins_38 : decode cX4_addCoins 38 = .ok (.iload 4, 2) := by decide +kernel
theorem dX4_addCoins_40 : decode cX4_addCoins 40 = .ok (.iload 6, 2) := by decide +kernel
theorem dX4_addCoins_42 : decode cX4_addCoins 42 = .ok (.isub, 1) := by decide +kernel
theorem dX4_addCoins_43 : decode cX4_addCoins 43 = .ok (.istore 4, 2) := by decide +kernel
theorem dX4_addCoins_45 : decode cX4_addCoins 45 = .ok (.iload 5, 2) := by decide +kernel
theorem dX4_addCoins_47 : decode cX4_addCoins 47 = .ok (.iconst 2, 1) := by decide +kernel
theorem dX4_addCoins_48 : decode cX4_addCoins 48 = .ok (.imul, 1) := by decide +kernel
theorem dX4_addCoins_49 : decode cX4_addCoins 49 = .ok (.istore 5, 2) := by decide +kernel
theorem dX4_addCoins_51 : decode cX4_addCoins 51 = .ok (.goto (-45), 3) := by decide +kernel
theorem dX4_addCoins_54 : decode cX4_addCoins 54 = .ok (.return_, 1) := by decide +kernel
set_option maxRecDepth 20000 in
set_option maxHeartbeats 4000000 in
theorem wk_X4_addCoins_6 {Γ : GT} {a : Nat → Nat} {q : Nat → ClassId} {i0 : Nat} {x1 : Int32} {x2 : Int32} (hi0 : i0 < 6) {sz : Int32} {pr : Nat → Int32} {pm : Nat → Nat} {kv : Nat → Int32} {kn : Nat → Int32} {kr : Nat → Int32} {kt : Nat → Int32} {kb : Nat → Int32} {ks : Nat → Int32} {kj : Nat → Int32} {kw : Nat → Int32} {kg : Nat → Int32} {wd : Nat → Nat → Int64} {ad : Nat → Int32} {bk : Nat → Int32} {md : Int32} {cr : Int32} {ow : Int32} {hd : Int32} {K : (Nat → Nat → Int32) → Prop} {X : (Nat → Nat → Int32) → Prop} (g : gd Γ cX4_addCoins RX4 7 (rmz 1 25) q) (hret : rtV_1 Γ cX4_addCoins 7 (fun (fw : Nat → Nat → Int32) => (cgW a q sz pr pm kv kn kr kt kb ks kj kw kg wd fw ad bk md cr ow hd)) K) (hX : ∀ (fw : Nat → Nat → Int32) , X fw → jw Γ 7 0 0 (cgW a q sz pr pm kv kn kr kt kb ks kj kw kg wd fw ad bk md cr ow hd) [] [] 54) :
    ∀ (n : Nat) (x4 : Int32) (x5 : Int32) (fw : Nat → Nat → Int32) , wp_X4_addCoins_6 i0 x1 x2 K X n x4 x5 fw → jw Γ 7 0 0 (cgW a q sz pr pm kv kn kr kt kb ks kj kw kg wd fw ad bk md cr ow hd) [(0, .ref (a (29 + i0))), (1, .int x1), (2, .int x2), (4, .int x4), (5, .int x5)] [] 6 := by
  intro n
  induction n with
  | zero =>
    intro _ _ _ h
    exact False.elim h
  | succ n ih =>
    intro x4 x5 fw h
    unfold wp_X4_addCoins_6 at h
    refine j_iload g 4 rfl dX4_addCoins_6 ?_
    refine j_bipush g (v := 20) (by decide) dX4_addCoins_8 ?_
    refine j_icmp_gt g dX4_addCoins_10 (tgt := 54) (by decide) (fun c1 => ?_) (fun c1 => ?_)
    · replace h := h.1 c1
      refine j_sub [] rfl ?_
      exact hX fw h
    replace h := h.2 c1
    refine j_iload g 3 rfl dX4_addCoins_13 ?_
    refine j_if_le g dX4_addCoins_15 (tgt := 54) (by decide) (fun c2 => ?_) (fun c2 => ?_)
    · replace h := h.1 c2
      refine j_sub [] rfl ?_
      exact hX fw h
    replace h := h.2 c2
    refine j_iload g 4 rfl dX4_addCoins_18 ?_
    refine j_iload g 3 rfl dX4_addCoins_20 ?_
    refine j_mmin g lm_X4_58 lm_min_s lm_i lm_min_c (Nat.le_of_ble_eq_true rfl) (Nat.le_of_ble_eq_true rfl) (Nat.zero_le _) (Nat.zero_le _) dX4_addCoins_22 ?_
    refine j_istore g (lv' := [(6, .int (if x4 < x5 then x4 else x5)), (0, .ref (a (29 + i0))), (1, .int x1), (2, .int x2), (4, .int x4), (5, .int x5)]) (by decide) rfl dX4_addCoins_25 ?_
    refine j_aload_n g 1 rfl dX4_addCoins_27 ?_
    refine j_iload_n g 2 rfl dX4_addCoins_28 ?_
    refine j_iload g 0 rfl dX4_addCoins_29 ?_
    refine j_iload_n g 3 rfl dX4_addCoins_31 ?_
    refine j_imul g dX4_addCoins_32 ?_
    refine j_iload g 0 rfl dX4_addCoins_33 ?_
    refine j_callSV_1 g (As := [.ref (a (29 + i0)), .int x1, .int ((if x4 < x5 then x4 else x5) * x2), .int (if x4 < x5 then x4 else x5)]) (st := []) (c_X4_addPart hi0 h) cl_X4_64 (Nat.le_of_ble_eq_true rfl) (Nat.le_of_ble_eq_true rfl) (Nat.zero_le _) (Nat.zero_le _) rfl rfl (Nat.le_of_ble_eq_true rfl) dX4_addCoins_35 (fun fw_3 h => ?_)
    refine j_ws (ws' := (cgW a q sz pr pm kv kn kr kt kb ks kj kw kg wd fw_3 ad bk md cr ow hd)) rfl ?_
    refine j_iload g 4 rfl dX4_addCoins_38 ?_
    refine j_iload g 0 rfl dX4_addCoins_40 ?_
    refine j_isub g dX4_addCoins_42 ?_
    refine j_istore g (lv' := [(4, .int (x4 - (if x4 < x5 then x4 else x5))), (6, .int (if x4 < x5 then x4 else x5)), (0, .ref (a (29 + i0))), (1, .int x1), (2, .int x2), (5, .int x5)]) (by decide) rfl dX4_addCoins_43 ?_
    refine j_iload g 5 rfl dX4_addCoins_45 ?_
    refine j_iconst g (v := 2) (by decide) dX4_addCoins_47 ?_
    refine j_imul g dX4_addCoins_48 ?_
    refine j_istore g (lv' := [(5, .int (x5 * (2 : Int32))), (4, .int (x4 - (if x4 < x5 then x4 else x5))), (6, .int (if x4 < x5 then x4 else x5)), (0, .ref (a (29 + i0))), (1, .int x1), (2, .int x2)]) (by decide) rfl dX4_addCoins_49 ?_
    refine j_goto g dX4_addCoins_51 (tgt := 6) (by decide) ?_
    refine j_sub [3, 4, 5, 1, 0] rfl ?_
    exact ih (x4 - (if x4 < x5 then x4 else x5)) (x5 * (2 : Int32)) fw_3 h
set_option maxRecDepth 20000 in
set_option maxHeartbeats 4000000 in
theorem c_X4_addCoins {a : Nat → Nat} {q : Nat → ClassId} {r0 : Nat} {x1 : Int32} {x2 : Int32} {x3 : Int32} (hr0 : r0 < 6) {sz : Int32} {pr : Nat → Int32} {pm : Nat → Nat} {kv : Nat → Int32} {kn : Nat → Int32} {kr : Nat → Int32} {kt : Nat → Int32} {kb : Nat → Int32} {ks : Nat → Int32} {kj : Nat → Int32} {kw : Nat → Int32} {kg : Nat → Int32} {wd : Nat → Nat → Int64} {fw : Nat → Nat → Int32} {ad : Nat → Int32} {bk : Nat → Int32} {md : Int32} {cr : Int32} {ow : Int32} {hd : Int32} {K : (Nat → Nat → Int32) → Prop} (h : wp_X4_addCoins r0 x1 x2 x3 fw K) : ctV_1 q yX4_addCoins cX4_addCoins 7 1 25 [.ref (a (29 + r0)), .int x1, .int x2, .int x3] (cgW a q sz pr pm kv kn kr kt kb ks kj kw kg wd fw ad bk md cr ow hd) (fun (fw : Nat → Nat → Int32) => (cgW a q sz pr pm kv kn kr kt kb ks kj kw kg wd fw ad bk md cr ow hd)) K := by
  refine met_V_1 (by decide) (Nat.le_of_ble_eq_true rfl) (fun Γ g hret => ?_)
  unfold wp_X4_addCoins at h
  show jw Γ 7 0 0 (cgW a q sz pr pm kv kn kr kt kb ks kj kw kg wd fw ad bk md cr ow hd) [(0, .ref (a (29 + r0))), (1, .int x1), (2, .int x2), (3, .int x3)] [] 0
  refine j_iload_n g 3 rfl dX4_addCoins_0 ?_
  refine j_istore g (lv' := [(4, .int x3), (0, .ref (a (29 + r0))), (1, .int x1), (2, .int x2), (3, .int x3)]) (by decide) rfl dX4_addCoins_1 ?_
  refine j_iconst g (v := 1) (by decide) dX4_addCoins_3 ?_
  refine j_istore g (lv' := [(5, .int (1 : Int32)), (4, .int x3), (0, .ref (a (29 + r0))), (1, .int x1), (2, .int x2), (3, .int x3)]) (by decide) rfl dX4_addCoins_4 ?_
  obtain ⟨n1, h⟩ := h
  refine j_sub [2, 3, 4, 1, 0] rfl ?_
  refine wk_X4_addCoins_6 hr0 g hret (fun fw_1 h => ?_) n1 x3 (1 : Int32) fw h
  exact hret.go dX4_addCoins_54 h

set_option maxRecDepth 20000 in
def wp_X4_mostOfFewest_11 (i0 : Nat) (x1 : Int32) (x2 : Int32) (x3 : Int32) (fw : Nat → Nat → Int32) (K : Int32 → Prop) (X : Int32 → Prop) : Nat → Int32 → Int32 → Int32 → Prop
  | 0, _, _, _ => False
  | n + 1, x4, x5, x6 => ((x3 < x6 → X x5) ∧ (¬ x3 < x6 → ((x1 < x6 * x2 → X x5) ∧ (¬ x1 < x6 * x2 → (vp_in (x1 - (x6 * x2)) 1000 ∧ ((x4 < (fw i0 (x1 - (x6 * x2)).toNatClampNeg) + x6 → wp_X4_mostOfFewest_11 i0 x1 x2 x3 fw K X n x4 x5 (x6 + 1)) ∧ (¬ x4 < (fw i0 (x1 - (x6 * x2)).toNatClampNeg) + x6 → wp_X4_mostOfFewest_11 i0 x1 x2 x3 fw K X n ((fw i0 (x1 - (x6 * x2)).toNatClampNeg) + x6) x6 (x6 + 1))))))))
set_option maxRecDepth 20000 in
def wp_X4_mostOfFewest (r0 : Nat) (x1 : Int32) (x2 : Int32) (x3 : Int32) (fw : Nat → Nat → Int32) (K : Int32 → Prop) : Prop :=
  ∃ n1 : Nat, wp_X4_mostOfFewest_11 r0 x1 x2 x3 fw K (fun (x5_1 : Int32) => K x5_1) n1 (999 : Int32) (0 : Int32) (0 : Int32)
theorem dX4_mostOfFewest_0 : decode cX4_mostOfFewest 0 = .ok (.sipush 999, 3) := by decide +kernel
theorem dX4_mostOfFewest_3 : decode cX4_mostOfFewest 3 = .ok (.istore 4, 2) := by decide +kernel
theorem dX4_mostOfFewest_5 : decode cX4_mostOfFewest 5 = .ok (.iconst 0, 1) := by decide +kernel
theorem dX4_mostOfFewest_6 : decode cX4_mostOfFewest 6 = .ok (.istore 5, 2) := by decide +kernel
theorem dX4_mostOfFewest_8 : decode cX4_mostOfFewest 8 = .ok (.iconst 0, 1) := by decide +kernel
theorem dX4_mostOfFewest_9 : decode cX4_mostOfFewest 9 = .ok (.istore 6, 2) := by decide +kernel
theorem dX4_mostOfFewest_11 : decode cX4_mostOfFewest 11 = .ok (.iload 6, 2) := by decide +kernel
theorem dX4_mostOfFewest_13 : decode cX4_mostOfFewest 13 = .ok (.iload_n 3, 1) := by decide +kernel
theorem dX4_mostOfFewest_14 : decode cX4_mostOfFewest 14 = .ok (.if_icmp .gt 45, 3) := by decide +kernel
theorem dX4_mostOfFewest_17 : decode cX4_mostOfFewest 17 = .ok (.iload 6, 2) := by decide +kernel
theorem dX4_mostOfFewest_19 : decode cX4_mostOfFewest 19 = .ok (.iload_n 2, 1) := by decide +kernel
theorem dX4_mostOfFewest_20 : decode cX4_mostOfFewest 20 = .ok (.imul, 1) := by decide +kernel
theorem dX4_mostOfFewest_21 : decode cX4_mostOfFewest 21 = .ok (.iload_n 1, 1) := by decide +kernel
theorem dX4_mostOfFewest_22 : decode cX4_mostOfFewest 22 = .ok (.if_icmp .gt 37, 3) := by decide +kernel
theorem dX4_mostOfFewest_25 : decode cX4_mostOfFewest 25 = .ok (.aload_n 0, 1) := by decide +kernel
theorem dX4_mostOfFewest_26 : decode cX4_mostOfFewest 26 = .ok (.iload_n 1, 1) := by decide +kernel
theorem dX4_mostOfFewest_27 : decode cX4_mostOfFewest 27 = .ok (.iload 6, 2) := by decide +kernel
theorem dX4_mostOfFewest_29 : decode cX4_mostOfFewest 29 = .ok (.iload_n 2, 1) := by decide +kernel
theorem dX4_mostOfFewest_30 : decode cX4_mostOfFewest 30 = .ok (.imul, 1) := by decide +kernel
theorem dX4_mostOfFewest_31 : decode cX4_mostOfFewest 31 = .ok (.isub, 1) := by decide +kernel
theorem dX4_mostOfFewest_32 : decode cX4_mostOfFewest 32 = .ok (.iaload, 1) := by decide +kernel
theorem dX4_mostOfFewest_33 : decode cX4_mostOfFewest 33 = .ok (.iload 6, 2) := by decide +kernel
theorem dX4_mostOfFewest_35 : decode cX4_mostOfFewest 35 = .ok (.iadd, 1) := by decide +kernel
theorem dX4_mostOfFewest_36 : decode cX4_mostOfFewest 36 = .ok (.istore 7, 2) := by decide +kernel
theorem dX4_mostOfFewest_38 : decode cX4_mostOfFewest 38 = .ok (.iload 7, 2) := by decide +kernel
theorem dX4_mostOfFewest_40 : decode cX4_mostOfFewest 40 = .ok (.iload 4, 2) := by decide +kernel
theorem dX4_mostOfFewest_42 : decode cX4_mostOfFewest 42 = .ok (.if_icmp .gt 11, 3) := by decide +kernel
theorem dX4_mostOfFewest_45 : decode cX4_mostOfFewest 45 = .ok (.iload 7, 2) := by decide +kernel
theorem dX4_mostOfFewest_47 : decode cX4_mostOfFewest 47 = .ok (.istore 4, 2) := by decide +kernel
theorem dX4_mostOfFewest_49 : decode cX4_mostOfFewest 49 = .ok (.iload 6, 2) := by decide +kernel
theorem dX4_mostOfFewest_51 : decode cX4_mostOfFewest 51 = .ok (.istore 5, 2) := by decide +kernel
theorem dX4_mostOfFewest_53 : decode cX4_mostOfFewest 53 = .ok (.iinc 6 1, 3) := by decide +kernel
theorem dX4_mostOfFewest_56 : decode cX4_mostOfFewest 56 = .ok (.goto (-45), 3) := by decide +kernel
theorem dX4_mostOfFewest_59 : decode cX4_mostOfFewest 59 = .ok (.iload 5, 2) := by decide +kernel
theorem dX4_mostOfFewest_61 : decode cX4_mostOfFewest 61 = .ok (.ireturn, 1) := by decide +kernel
set_option maxRecDepth 20000 in
set_option maxHeartbeats 4000000 in
theorem wk_X4_mostOfFewest_11 {Γ : GT} {a : Nat → Nat} {q : Nat → ClassId} {i0 : Nat} {x1 : Int32} {x2 : Int32} {x3 : Int32} (hi0 : i0 < 6) {sz : Int32} {pr : Nat → Int32} {pm : Nat → Nat} {kv : Nat → Int32} {kn : Nat → Int32} {kr : Nat → Int32} {kt : Nat → Int32} {kb : Nat → Int32} {ks : Nat → Int32} {kj : Nat → Int32} {kw : Nat → Int32} {kg : Nat → Int32} {wd : Nat → Nat → Int64} {fw : Nat → Nat → Int32} {ad : Nat → Int32} {bk : Nat → Int32} {md : Int32} {cr : Int32} {ow : Int32} {hd : Int32} {K : Int32 → Prop} {X : Int32 → Prop} (g : gd Γ cX4_mostOfFewest RX4 8 (rmz 0 0) q) (hret : rtI_0 Γ cX4_mostOfFewest 8 (cgW a q sz pr pm kv kn kr kt kb ks kj kw kg wd fw ad bk md cr ow hd) K) (hX : ∀ (x5 : Int32) , X x5 → jw Γ 8 0 0 (cgW a q sz pr pm kv kn kr kt kb ks kj kw kg wd fw ad bk md cr ow hd) [(5, .int x5)] [] 59) :
    ∀ (n : Nat) (x4 : Int32) (x5 : Int32) (x6 : Int32) , wp_X4_mostOfFewest_11 i0 x1 x2 x3 fw K X n x4 x5 x6 → jw Γ 8 0 0 (cgW a q sz pr pm kv kn kr kt kb ks kj kw kg wd fw ad bk md cr ow hd) [(0, .ref (a (29 + i0))), (1, .int x1), (2, .int x2), (3, .int x3), (4, .int x4), (5, .int x5), (6, .int x6)] [] 11 := by
  intro n
  induction n with
  | zero =>
    intro _ _ _ h
    exact False.elim h
  | succ n ih =>
    intro x4 x5 x6 h
    unfold wp_X4_mostOfFewest_11 at h
    refine j_iload g 6 rfl dX4_mostOfFewest_11 ?_
    refine j_iload_n g 3 rfl dX4_mostOfFewest_13 ?_
    refine j_icmp_gt g dX4_mostOfFewest_14 (tgt := 59) (by decide) (fun c1 => ?_) (fun c1 => ?_)
    · replace h := h.1 c1
      refine j_sub [5] rfl ?_
      exact hX x5 h
    replace h := h.2 c1
    refine j_iload g 6 rfl dX4_mostOfFewest_17 ?_
    refine j_iload_n g 2 rfl dX4_mostOfFewest_19 ?_
    refine j_imul g dX4_mostOfFewest_20 ?_
    refine j_iload_n g 1 rfl dX4_mostOfFewest_21 ?_
    refine j_icmp_gt g dX4_mostOfFewest_22 (tgt := 59) (by decide) (fun c2 => ?_) (fun c2 => ?_)
    · replace h := h.1 c2
      refine j_sub [5] rfl ?_
      exact hX x5 h
    replace h := h.2 c2
    refine j_aload_n g 0 rfl dX4_mostOfFewest_25 ?_
    refine j_iload_n g 1 rfl dX4_mostOfFewest_26 ?_
    refine j_iload g 6 rfl dX4_mostOfFewest_27 ?_
    refine j_iload_n g 2 rfl dX4_mostOfFewest_29 ?_
    refine j_imul g dX4_mostOfFewest_30 ?_
    refine j_isub g dX4_mostOfFewest_31 ?_
    obtain ⟨hv3, h⟩ := h
    refine j_iald g (29 + i0) (cg_r hi0) hv3 dX4_mostOfFewest_32 ?_
    refine j_iload g 6 rfl dX4_mostOfFewest_33 ?_
    refine j_iadd g dX4_mostOfFewest_35 ?_
    refine j_istore g (lv' := [(7, .int ((fw i0 (x1 - (x6 * x2)).toNatClampNeg) + x6)), (0, .ref (a (29 + i0))), (1, .int x1), (2, .int x2), (3, .int x3), (4, .int x4), (5, .int x5), (6, .int x6)]) (by decide) rfl dX4_mostOfFewest_36 ?_
    refine j_iload g 0 rfl dX4_mostOfFewest_38 ?_
    refine j_iload g 5 rfl dX4_mostOfFewest_40 ?_
    refine j_icmp_gt g dX4_mostOfFewest_42 (tgt := 53) (by decide) (fun c4 => ?_) (fun c4 => ?_)
    · replace h := h.1 c4
      refine j_iinc g 7 (n := 1) (v := x6 + 1) (lv' := [(6, .int (x6 + 1)), (7, .int ((fw i0 (x1 - (x6 * x2)).toNatClampNeg) + x6)), (0, .ref (a (29 + i0))), (1, .int x1), (2, .int x2), (3, .int x3), (4, .int x4), (5, .int x5)]) rfl rfl (by decide) rfl dX4_mostOfFewest_53 ?_
      refine j_goto g dX4_mostOfFewest_56 (tgt := 11) (by decide) ?_
      refine j_sub [2, 3, 4, 5, 6, 7, 0] rfl ?_
      exact ih x4 x5 (x6 + 1) h
    replace h := h.2 c4
    refine j_iload g 0 rfl dX4_mostOfFewest_45 ?_
    refine j_istore g (lv' := [(4, .int ((fw i0 (x1 - (x6 * x2)).toNatClampNeg) + x6)), (7, .int ((fw i0 (x1 - (x6 * x2)).toNatClampNeg) + x6)), (0, .ref (a (29 + i0))), (1, .int x1), (2, .int x2), (3, .int x3), (5, .int x5), (6, .int x6)]) (by decide) rfl dX4_mostOfFewest_47 ?_
    refine j_iload g 7 rfl dX4_mostOfFewest_49 ?_
    refine j_istore g (lv' := [(5, .int x6), (4, .int ((fw i0 (x1 - (x6 * x2)).toNatClampNeg) + x6)), (7, .int ((fw i0 (x1 - (x6 * x2)).toNatClampNeg) + x6)), (0, .ref (a (29 + i0))), (1, .int x1), (2, .int x2), (3, .int x3), (6, .int x6)]) (by decide) rfl dX4_mostOfFewest_51 ?_
    refine j_iinc g 7 (n := 1) (v := x6 + 1) (lv' := [(6, .int (x6 + 1)), (5, .int x6), (4, .int ((fw i0 (x1 - (x6 * x2)).toNatClampNeg) + x6)), (7, .int ((fw i0 (x1 - (x6 * x2)).toNatClampNeg) + x6)), (0, .ref (a (29 + i0))), (1, .int x1), (2, .int x2), (3, .int x3)]) rfl rfl (by decide) rfl dX4_mostOfFewest_53 ?_
    refine j_goto g dX4_mostOfFewest_56 (tgt := 11) (by decide) ?_
    refine j_sub [4, 5, 6, 7, 2, 1, 0] rfl ?_
    exact ih ((fw i0 (x1 - (x6 * x2)).toNatClampNeg) + x6) x6 (x6 + 1) h
set_option maxRecDepth 20000 in
set_option maxHeartbeats 4000000 in
theorem c_X4_mostOfFewest {a : Nat → Nat} {q : Nat → ClassId} {r0 : Nat} {x1 : Int32} {x2 : Int32} {x3 : Int32} (hr0 : r0 < 6) {sz : Int32} {pr : Nat → Int32} {pm : Nat → Nat} {kv : Nat → Int32} {kn : Nat → Int32} {kr : Nat → Int32} {kt : Nat → Int32} {kb : Nat → Int32} {ks : Nat → Int32} {kj : Nat → Int32} {kw : Nat → Int32} {kg : Nat → Int32} {wd : Nat → Nat → Int64} {fw : Nat → Nat → Int32} {ad : Nat → Int32} {bk : Nat → Int32} {md : Int32} {cr : Int32} {ow : Int32} {hd : Int32} {K : Int32 → Prop} (h : wp_X4_mostOfFewest r0 x1 x2 x3 fw K) : ctI_0 q yX4_mostOfFewest cX4_mostOfFewest 8 0 0 [.ref (a (29 + r0)), .int x1, .int x2, .int x3] (cgW a q sz pr pm kv kn kr kt kb ks kj kw kg wd fw ad bk md cr ow hd) (cgW a q sz pr pm kv kn kr kt kb ks kj kw kg wd fw ad bk md cr ow hd) K := by
  refine met_I_0 (by decide) (Nat.le_of_ble_eq_true rfl) (fun Γ g hret => ?_)
  unfold wp_X4_mostOfFewest at h
  show jw Γ 8 0 0 (cgW a q sz pr pm kv kn kr kt kb ks kj kw kg wd fw ad bk md cr ow hd) [(0, .ref (a (29 + r0))), (1, .int x1), (2, .int x2), (3, .int x3)] [] 0
  refine j_sipush g (v := 999) (by decide) dX4_mostOfFewest_0 ?_
  refine j_istore g (lv' := [(4, .int (999 : Int32)), (0, .ref (a (29 + r0))), (1, .int x1), (2, .int x2), (3, .int x3)]) (by decide) rfl dX4_mostOfFewest_3 ?_
  refine j_iconst g (v := 0) (by decide) dX4_mostOfFewest_5 ?_
  refine j_istore g (lv' := [(5, .int (0 : Int32)), (4, .int (999 : Int32)), (0, .ref (a (29 + r0))), (1, .int x1), (2, .int x2), (3, .int x3)]) (by decide) rfl dX4_mostOfFewest_6 ?_
  refine j_iconst g (v := 0) (by decide) dX4_mostOfFewest_8 ?_
  refine j_istore g (lv' := [(6, .int (0 : Int32)), (5, .int (0 : Int32)), (4, .int (999 : Int32)), (0, .ref (a (29 + r0))), (1, .int x1), (2, .int x2), (3, .int x3)]) (by decide) rfl dX4_mostOfFewest_9 ?_
  obtain ⟨n1, h⟩ := h
  refine j_sub [3, 4, 5, 6, 2, 1, 0] rfl ?_
  refine wk_X4_mostOfFewest_11 hr0 g hret (fun x5_1 h => ?_) n1 (999 : Int32) (0 : Int32) (0 : Int32) h
  refine j_iload g 0 rfl dX4_mostOfFewest_59 ?_
  exact hret.go dX4_mostOfFewest_61 h

set_option maxRecDepth 20000 in
def wp_X4_choose_16 (x2 : Int32) (x3 : Int32) (sz : Int32) (pm : Nat → Nat) (kv : Nat → Int32) (kn : Nat → Int32) (kt : Nat → Int32) (ks : Nat → Int32) (K : Int32 → (Nat → Int32) → (Nat → Nat → Int32) → Prop) (X : (Nat → Nat → Int32) → Prop) : Nat → Int32 → (Nat → Nat → Int32) → Prop
  | 0, _, _ => False
  | n + 1, x4, fw => ((sz ≤ x4 → X fw) ∧ (¬ sz ≤ x4 → (vp_in (x4 - (1 : Int32)) 6 ∧ (vp_in x4 6 ∧ (ac_ok (0 : Int32) (0 : Int32) (x2 + (1 : Int32)) 1000 ∧ (vp_in (x4 - (1 : Int32)) 6 ∧ pm (x4 - (1 : Int32)).toNatClampNeg < 6 ∧ (vp_in x4 6 ∧ wp_X0_spare (pm (x4 - (1 : Int32)).toNatClampNeg) x3 kn kt ks (fun (r_7 : Int32)  => wp_X4_addCoins x4.toNatClampNeg x2 (kv (pm (x4 - (1 : Int32)).toNatClampNeg)) r_7 (va_up fw x4.toNatClampNeg (va_cpy (fw ((x4 - (1 : Int32)).toNatClampNeg)) (fw x4.toNatClampNeg) (0 : Int32).toNatClampNeg (0 : Int32).toNatClampNeg (x2 + (1 : Int32)).toNatClampNeg)) (fun (fw_8 : Nat → Nat → Int32) => wp_X4_choose_16 x2 x3 sz pm kv kn kt ks K X n (x4 + 1) fw_8)))))))))
set_option maxRecDepth 20000 in
def wp_X4_choose_99 (x3 : Int32) (pm : Nat → Nat) (kv : Nat → Int32) (kn : Nat → Int32) (kt : Nat → Int32) (ks : Nat → Int32) (fw : Nat → Nat → Int32) (K : Int32 → (Nat → Int32) → (Nat → Nat → Int32) → Prop) (X : Int32 → (Nat → Int32) → Prop) : Nat → Int32 → Int32 → (Nat → Int32) → Prop
  | 0, _, _, _ => False
  | n + 1, x4, x5, kw => ((x5 < 0 → X x4 kw) ∧ (¬ x5 < 0 → (vp_in x5 6 ∧ pm x5.toNatClampNeg < 6 ∧ (vp_in x5 6 ∧ wp_X0_spare (pm x5.toNatClampNeg) x3 kn kt ks (fun (r_4 : Int32)  => wp_X4_mostOfFewest x5.toNatClampNeg x4 (kv (pm x5.toNatClampNeg)) r_4 fw (fun (r_5 : Int32)  => wp_X4_choose_99 x3 pm kv kn kt ks fw K X n (x4 - (((upd kw (pm x5.toNatClampNeg) r_5) (pm x5.toNatClampNeg)) * (kv (pm x5.toNatClampNeg)))) (x5 + (-1 : Int32)) (upd kw (pm x5.toNatClampNeg) r_5)))))))
set_option maxRecDepth 20000 in
def wp_X4_choose (x2 : Int32) (x3 : Int32) (sz : Int32) (pm : Nat → Nat) (kv : Nat → Int32) (kn : Nat → Int32) (kt : Nat → Int32) (ks : Nat → Int32) (kw : Nat → Int32) (fw : Nat → Nat → Int32) (K : Int32 → (Nat → Int32) → (Nat → Nat → Int32) → Prop) : Prop :=
  ((x2 < 0 → K (0 : Int32) kw fw) ∧ (¬ x2 < 0 → ((x2 ≤ (999 : Int32) → ∃ n3 : Nat, wp_X4_choose_16 x2 x3 sz pm kv kn kt ks K (fun (fw_3 : Nat → Nat → Int32) => ∃ n4 : Nat, wp_X4_choose_99 x3 pm kv kn kt ks fw_3 K (fun (x4_4 : Int32) (kw_4 : Nat → Int32) => ((¬ x4_4 = 0 → K (0 : Int32) kw_4 fw_3) ∧ (x4_4 = 0 → K (1 : Int32) kw_4 fw_3))) n4 x2 (sz - (1 : Int32)) kw) n3 (1 : Int32) fw) ∧ (¬ x2 ≤ (999 : Int32) → K (0 : Int32) kw fw))))
theorem dX4_choose_0 : decode cX4_choose 0 = .ok (.iload_n 2, 1) := by decide +kernel
theorem dX4_choose_1 : decode cX4_choose 1 = .ok (.ifCond .lt 10, 3) := by decide +kernel
theorem dX4_choose_4 : decode cX4_choose 4 = .ok (.iload_n 2, 1) := by decide +kernel
theorem dX4_choose_5 : decode cX4_choose 5 = .ok (.sipush 999, 3) := by decide +kernel
theorem dX4_choose_8 : decode cX4_choose 8 = .ok (.if_icmp .le 5, 3) := by decide +kernel
theorem dX4_choose_11 : decode cX4_choose 11 = .ok (.iconst 0, 1) := by decide +kernel
theorem dX4_choose_12 : decode cX4_choose 12 = .ok (.ireturn, 1) := by decide +kernel
theorem dX4_choose_13 : decode cX4_choose 13 = .ok (.iconst 1, 1) := by decide +kernel
theorem dX4_choose_14 : decode cX4_choose 14 = .ok (.istore 4, 2) := by decide +kernel
theorem dX4_choose_16 : decode cX4_choose 16 = .ok (.iload 4, 2) := by decide +kernel
theorem dX4_choose_18 : decode cX4_choose 18 = .ok (.aload_n 1, 1) := by decide +kernel
theorem dX4_choose_19 : decode cX4_choose 19 = .ok (.getfield 22, 3) := by decide +kernel
theorem dX4_choose_22 : decode cX4_choose 22 = .ok (.if_icmp .ge 66, 3) := by decide +kernel
theorem dX4_choose_25 : decode cX4_choose 25 = .ok (.aload_n 0, 1) := by decide +kernel
theorem dX4_choose_26 : decode cX4_choose 26 = .ok (.getfield 11, 3) := by decide +kernel
theorem dX4_choose_29 : decode cX4_choose 29 = .ok (.iload 4, 2) := by decide +kernel
theorem dX4_choose_31 : decode cX4_choose 31 = .ok (.iconst 1, 1) := by decide +kernel
theorem dX4_choose_32 : decode cX4_choose 32 = .ok (.isub, 1) := by decide +kernel
theorem dX4_choose_33 : decode cX4_choose 33 = .ok (.aaload, 1) := by decide +kernel
theorem dX4_choose_34 : decode cX4_choose 34 = .ok (.iconst 0, 1) := by decide +kernel
theorem dX4_choose_35 : decode cX4_choose 35 = .ok (.aload_n 0, 1) := by decide +kernel
theorem dX4_choose_36 : decode cX4_choose 36 = .ok (.getfield 11, 3) := by decide +kernel
theorem dX4_choose_39 : decode cX4_choose 39 = .ok (.iload 4, 2) := by decide +kernel
theorem dX4_choose_41 : decode cX4_choose 41 = .ok (.aaload, 1) := by decide +kernel
theorem dX4_choose_42 : decode cX4_choose 42 = .ok (.iconst 0, 1) := by decide +kernel
theorem dX4_choose_43 : decode cX4_choose 43 = .ok (.iload_n 2, 1) := by decide +kernel
theorem dX4_choose_44 : decode cX4_choose 44 = .ok (.iconst 1, 1) := by decide +kernel
theorem dX4_choose_45 : decode cX4_choose 45 = .ok (.iadd, 1) := by decide +kernel
theorem dX4_choose_46 : decode cX4_choose 46 = .ok (.invokestatic 28, 3) := by decide +kernel
theorem dX4_choose_49 : decode cX4_choose 49 = .ok (.aload_n 1, 1) := by decide +kernel
theorem dX4_choose_50 : decode cX4_choose 50 = .ok (.getfield 34, 3) := by decide +kernel
theorem dX4_choose_53 : decode cX4_choose 53 = .ok (.iload 4, 2) := by decide +kernel
theorem dX4_choose_55 : decode cX4_choose 55 = .ok (.iconst 1, 1) := by decide +kernel
theorem dX4_choose_56 : decode cX4_choose 56 = .ok (.isub, 1) := by decide +kernel
theorem dX4_choose_57 : decode cX4_choose 57 = .ok (.aaload, 1) := by decide +kernel
theorem dX4_choose_58 : decode cX4_choose 58 = .ok (.astore 5, 2) := by decide +kernel
theorem dX4_choose_60 : decode cX4_choose 60 = .ok (.aload_n 0, 1) := by decide +kernel
theorem dX4_choose_61 : decode cX4_choose 61 = .ok (.getfield 11, 3) := by decide +kernel
theorem dX4_choose_64 : decode cX4_choose 64 = .ok (.iload 4, 2) := by decide +kernel
theorem dX4_choose_66 : decode cX4_choose 66 = .ok (.aaload, 1) := by decide +kernel
theorem dX4_choose_67 : decode cX4_choose 67 = .ok (.iload_n 2, 1) := by decide +kernel
theorem dX4_choose_68 : decode cX4_choose 68 = .ok (.aload 5, 2) := by decide +kernel
theorem dX4_choose_70 : decode cX4_choose 70 = .ok (.getfield 38, 3) := by decide +kernel
theorem dX4_choose_73 : decode cX4_choose 73 = .ok (.aload 5, 2) := by decide +kernel
theorem dX4_choose_75 : decode cX4_choose 75 = .ok (.iload_n 3, 1) := by decide +kernel
theorem dX4_choose_76 : decode cX4_choose 76 = .ok (.invokevirtual 43, 3) := by decide +kernel
theorem dX4_choose_79 : decode cX4_choose 79 = .ok (.invokestatic 47, 3) := by decide +kernel
theorem dX4_choose_82 : decode cX4_choose 82 = .ok (.iinc 4 1, 3) := by decide +kernel
theorem dX4_choose_85 : decode cX4_choose 85 = .ok (.goto (-69), 3) := by decide +kernel
theorem dX4_choose_88 : decode cX4_choose 88 = .ok (.iload_n 2, 1) := by decide +kernel
theorem dX4_choose_89 : decode cX4_choose 89 = .ok (.istore 4, 2) := by decide +kernel
theorem dX4_choose_91 : decode cX4_choose 91 = .ok (.aload_n 1, 1) := by decide +kernel
theorem dX4_choose_92 : decode cX4_choose 92 = .ok (.getfield 22, 3) := by decide +kernel
theorem dX4_choose_95 : decode cX4_choose 95 = .ok (.iconst 1, 1) := by decide +kernel
theorem dX4_choose_96 : decode cX4_choose 96 = .ok (.isub, 1) := by decide +kernel
theorem dX4_choose_97 : decode cX4_choose 97 = .ok (.istore 5, 2) := by decide +kernel
theorem dX4_choose_99 : decode cX4_choose 99 = .ok (.iload 5, 2) := by decide +kernel
theorem dX4_choose_101 : decode cX4_choose 101 = .ok (.ifCond .lt 62, 3) := by decide +kernel
theorem dX4_choose_104 : decode cX4_choose 104 = .ok (.aload_n 1, 1) := by decide +kernel
theorem dX4_choose_105 : decode cX4_choose 105 = .ok (.getfield 34, 3) := by decide +kernel
theorem dX4_choose_108 : decode cX4_choose 108 = .ok (.iload 5, 2) := by decide +kernel
theorem dX4_choose_110 : decode cX4_choose 110 = .ok (.aaload, 1) := by decide +kernel
theorem dX4_choose_111 : decode cX4_choose 111 = .ok (.astore 6, 2) := by decide +kernel
theorem dX4_choose_113 : decode cX4_choose 113 = .ok (.aload 6, 2) := by decide +kernel
theorem dX4_choose_115 : decode cX4_choose 115 = .ok (.aload_n 0, 1) := by decide +kernel
theorem dX4_choose_116 : decode cX4_choose 116 = .ok (.getfield 11, 3) := by decide +kernel
theorem dX4_choose_119 : decode cX4_choose 119 = .ok (.iload 5, 2) := by decide +kernel
theorem dX4_choose_121 : decode cX4_choose 121 = .ok (.aaload, 1) := by decide +kernel
theorem dX4_choose_122 : decode cX4_choose 122 = .ok (.iload 4, 2) := by decide +kernel
theorem dX4_choose_124 : decode cX4_choose 124 = .ok (.aload 6, 2) := by decide +kernel
theorem dX4_choose_126 : decode cX4_choose 126 = .ok (.getfield 38, 3) := by decide +kernel
theorem dX4_choose_129 : decode cX4_choose 129 = .ok (.aload 6, 2) := by decide +kernel
theorem dX4_choose_131 : decode cX4_choose 131 = .ok (.iload_n 3, 1) := by decide +kernel
theorem dX4_choose_132 : decode cX4_choose 132 = .ok (.invokevirtual 43, 3) := by decide +kernel
theorem dX4_choose_135 : decode cX4_choose 135 = .ok (.invokestatic 51, 3) := by decide +kernel
theorem dX4_choose_138 : decode cX4_choose 138 = .ok (.putfield 55, 3) := by decide +kernel
theorem dX4_choose_141 : decode cX4_choose 141 = .ok (.iload 4, 2) := by decide +kernel
theorem dX4_choose_143 : decode cX4_choose 143 = .ok (.aload 6, 2) := by decide +kernel
theorem dX4_choose_145 : decode cX4_choose 145 = .ok (.getfield 55, 3) := by decide +kernel
theorem dX4_choose_148 : decode cX4_choose 148 = .ok (.aload 6, 2) := by decide +kernel
theorem dX4_choose_150 : decode cX4_choose 150 = .ok (.getfield 38, 3) := by decide +kernel
theorem dX4_choose_153 : decode cX4_choose 153 = .ok (.imul, 1) := by decide +kernel
theorem dX4_choose_154 : decode cX4_choose 154 = .ok (.isub, 1) := by decide +kernel
theorem dX4_choose_155 : decode cX4_choose 155 = .ok (.istore 4, 2) := by decide +kernel
theorem dX4_choose_157 : decode cX4_choose 157 = .ok (.iinc 5 (-1), 3) := by decide +kernel
theorem dX4_choose_160 : decode cX4_choose 160 = .ok (.goto (-61), 3) := by decide +kernel
theorem dX4_choose_163 : decode cX4_choose 163 = .ok (.iload 4, 2) := by decide +kernel
theorem dX4_choose_165 : decode cX4_choose 165 = .ok (.ifCond .ne 7, 3) := by decide +kernel
theorem dX4_choose_168 : decode cX4_choose 168 = .ok (.iconst 1, 1) := by decide +kernel
theorem dX4_choose_169 : decode cX4_choose 169 = .ok (.goto 4, 3) := by decide +kernel
theorem dX4_choose_172 : decode cX4_choose 172 = .ok (.iconst 0, 1) := by decide +kernel
theorem dX4_choose_173 : decode cX4_choose 173 = .ok (.ireturn, 1) := by decide +kernel
set_option maxRecDepth 20000 in
set_option maxHeartbeats 4000000 in
theorem wk_X4_choose_16 {Γ : GT} {a : Nat → Nat} {q : Nat → ClassId} {x2 : Int32} {x3 : Int32}  {sz : Int32} {pr : Nat → Int32} {pm : Nat → Nat} {kv : Nat → Int32} {kn : Nat → Int32} {kr : Nat → Int32} {kt : Nat → Int32} {kb : Nat → Int32} {ks : Nat → Int32} {kj : Nat → Int32} {kw : Nat → Int32} {kg : Nat → Int32} {wd : Nat → Nat → Int64} {ad : Nat → Int32} {bk : Nat → Int32} {md : Int32} {cr : Int32} {ow : Int32} {hd : Int32} {K : Int32 → (Nat → Int32) → (Nat → Nat → Int32) → Prop} {X : (Nat → Nat → Int32) → Prop} (g : gd Γ cX4_choose RX4 7 (rmz 2 60) q) (hret : rtZ_2 Γ cX4_choose 7 (fun (kw : Nat → Int32) (fw : Nat → Nat → Int32) => (cgW a q sz pr pm kv kn kr kt kb ks kj kw kg wd fw ad bk md cr ow hd)) K) (hX : ∀ (fw : Nat → Nat → Int32) , X fw → jw Γ 7 0 0 (cgW a q sz pr pm kv kn kr kt kb ks kj kw kg wd fw ad bk md cr ow hd) [(0, .ref (a 6)), (1, .ref (a 1)), (2, .int x2), (3, .int x3)] [] 88) :
    ∀ (n : Nat) (x4 : Int32) (fw : Nat → Nat → Int32) , wp_X4_choose_16 x2 x3 sz pm kv kn kt ks K X n x4 fw → jw Γ 7 0 0 (cgW a q sz pr pm kv kn kr kt kb ks kj kw kg wd fw ad bk md cr ow hd) [(0, .ref (a 6)), (1, .ref (a 1)), (2, .int x2), (3, .int x3), (4, .int x4)] [] 16 := by
  intro n
  induction n with
  | zero =>
    intro _ _ h
    exact False.elim h
  | succ n ih =>
    intro x4 fw h
    unfold wp_X4_choose_16 at h
    refine j_iload g 4 rfl dX4_choose_16 ?_
    refine j_aload_n g 1 rfl dX4_choose_18 ?_
    refine j_get g fl_X4_22 1 cg_1 rfl dX4_choose_19 ?_
    refine j_icmp_ge g dX4_choose_22 (tgt := 88) (by decide) (fun c1 => ?_) (fun c1 => ?_)
    · replace h := h.1 c1
      refine j_sub [0, 1, 2, 3] rfl ?_
      exact hX fw h
    replace h := h.2 c1
    refine j_aload_n g 0 rfl dX4_choose_25 ?_
    refine j_get g fl_X4_11 6 cg_6 rfl dX4_choose_26 ?_
    refine j_iload g 4 rfl dX4_choose_29 ?_
    refine j_iconst g (v := 1) (by decide) dX4_choose_31 ?_
    refine j_isub g dX4_choose_32 ?_
    obtain ⟨hv2, h⟩ := h
    refine j_aald g 7 5 cg_7 rfl (by decide) hv2 rfl dX4_choose_33 ?_
    refine j_iconst g (v := 0) (by decide) dX4_choose_34 ?_
    refine j_aload_n g 0 rfl dX4_choose_35 ?_
    refine j_get g fl_X4_11 6 cg_6 rfl dX4_choose_36 ?_
    refine j_iload g 4 rfl dX4_choose_39 ?_
    obtain ⟨hv3, h⟩ := h
    refine j_aald g 7 5 cg_7 rfl (by decide) hv3 rfl dX4_choose_41 ?_
    refine j_iconst g (v := 0) (by decide) dX4_choose_42 ?_
    refine j_iload_n g 2 rfl dX4_choose_43 ?_
    refine j_iconst g (v := 1) (by decide) dX4_choose_44 ?_
    refine j_iadd g dX4_choose_45 ?_
    obtain ⟨hc4, h⟩ := h
    refine j_copyi g lm_X4_28 (29 + ((x4 - (1 : Int32)).toNatClampNeg)) (29 + x4.toNatClampNeg) (cg_r (vp_lt hv2)) (cg_r (vp_lt hv3)) hc4 (Nat.le_of_ble_eq_true rfl) (Nat.le_of_ble_eq_true rfl) (ws' := (cgW a q sz pr pm kv kn kr kt kb ks kj kw kg wd (va_up fw x4.toNatClampNeg (va_cpy (fw ((x4 - (1 : Int32)).toNatClampNeg)) (fw x4.toNatClampNeg) (0 : Int32).toNatClampNeg (0 : Int32).toNatClampNeg (x2 + (1 : Int32)).toNatClampNeg)) ad bk md cr ow hd)) (cg_s_r (vp_lt hv3)) dX4_choose_46 ?_
    refine j_aload_n g 1 rfl dX4_choose_49 ?_
    refine j_get g fl_X4_34 1 cg_1 rfl dX4_choose_50 ?_
    refine j_iload g 4 rfl dX4_choose_53 ?_
    refine j_iconst g (v := 1) (by decide) dX4_choose_55 ?_
    refine j_isub g dX4_choose_56 ?_
    obtain ⟨hv5, hv5p, h⟩ := h
    refine j_aald g 3 3 cg_3 rfl (by decide) hv5 rfl dX4_choose_57 ?_
    refine j_astore g (lv' := [(5, .ref (a (11 + (pm (x4 - (1 : Int32)).toNatClampNeg)))), (0, .ref (a 6)), (1, .ref (a 1)), (2, .int x2), (3, .int x3), (4, .int x4)]) (by decide) rfl dX4_choose_58 ?_
    refine j_aload_n g 1 rfl dX4_choose_60 ?_
    refine j_get g fl_X4_11 6 cg_6 rfl dX4_choose_61 ?_
    refine j_iload g 5 rfl dX4_choose_64 ?_
    obtain ⟨hv6, h⟩ := h
    refine j_aald g 7 5 cg_7 rfl (by decide) hv6 rfl dX4_choose_66 ?_
    refine j_iload_n g 3 rfl dX4_choose_67 ?_
    refine j_aload g 0 rfl dX4_choose_68 ?_
    refine j_get g fl_X4_38 (11 + (pm (x4 - (1 : Int32)).toNatClampNeg)) (cg_K hv5p) rfl dX4_choose_70 ?_
    refine j_aload g 0 rfl dX4_choose_73 ?_
    refine j_iload_n g 4 rfl dX4_choose_75 ?_
    refine j_callVI_0 g (As := [.int x3]) (st := [.int (kv (pm (x4 - (1 : Int32)).toNatClampNeg)), .int x2, .ref (a (29 + x4.toNatClampNeg))]) (c_X0_spare hv5p h) cl_X4_43 (11 + (pm (x4 - (1 : Int32)).toNatClampNeg)) 0 (cg_K hv5p) rfl rfl (Nat.le_of_ble_eq_true rfl) (Nat.le_of_ble_eq_true rfl) (Nat.zero_le _) (Nat.zero_le _) rfl rfl (Nat.le_of_ble_eq_true rfl) dX4_choose_76 (fun r_7   h => ?_)
    refine j_callSV_1 g (As := [.ref (a (29 + x4.toNatClampNeg)), .int x2, .int (kv (pm (x4 - (1 : Int32)).toNatClampNeg)), .int r_7]) (st := []) (c_X4_addCoins (vp_lt hv6) h) cl_X4_47 (Nat.le_of_ble_eq_true rfl) (Nat.le_of_ble_eq_true rfl) (Nat.zero_le _) (Nat.zero_le _) rfl rfl (Nat.le_of_ble_eq_true rfl) dX4_choose_79 (fun fw_8 h => ?_)
    refine j_ws (ws' := (cgW a q sz pr pm kv kn kr kt kb ks kj kw kg wd fw_8 ad bk md cr ow hd)) rfl ?_
    refine j_iinc g 5 (n := 1) (v := x4 + 1) (lv' := [(4, .int (x4 + 1)), (5, .ref (a (11 + (pm (x4 - (1 : Int32)).toNatClampNeg)))), (0, .ref (a 6)), (1, .ref (a 1)), (2, .int x2), (3, .int x3)]) rfl rfl (by decide) rfl dX4_choose_82 ?_
    refine j_goto g dX4_choose_85 (tgt := 16) (by decide) ?_
    refine j_sub [2, 3, 4, 5, 0] rfl ?_
    exact ih (x4 + 1) fw_8 h
set_option maxRecDepth 20000 in
set_option maxHeartbeats 4000000 in
theorem wk_X4_choose_99 {Γ : GT} {a : Nat → Nat} {q : Nat → ClassId} {x3 : Int32}  {sz : Int32} {pr : Nat → Int32} {pm : Nat → Nat} {kv : Nat → Int32} {kn : Nat → Int32} {kr : Nat → Int32} {kt : Nat → Int32} {kb : Nat → Int32} {ks : Nat → Int32} {kj : Nat → Int32} {kg : Nat → Int32} {wd : Nat → Nat → Int64} {fw : Nat → Nat → Int32} {ad : Nat → Int32} {bk : Nat → Int32} {md : Int32} {cr : Int32} {ow : Int32} {hd : Int32} {K : Int32 → (Nat → Int32) → (Nat → Nat → Int32) → Prop} {X : Int32 → (Nat → Int32) → Prop} (g : gd Γ cX4_choose RX4 7 (rmz 2 60) q) (hret : rtZ_2 Γ cX4_choose 7 (fun (kw : Nat → Int32) (fw : Nat → Nat → Int32) => (cgW a q sz pr pm kv kn kr kt kb ks kj kw kg wd fw ad bk md cr ow hd)) K) (hX : ∀ (x4 : Int32) (kw : Nat → Int32) , X x4 kw → jw Γ 7 0 0 (cgW a q sz pr pm kv kn kr kt kb ks kj kw kg wd fw ad bk md cr ow hd) [(4, .int x4)] [] 163) :
    ∀ (n : Nat) (x4 : Int32) (x5 : Int32) (kw : Nat → Int32) , wp_X4_choose_99 x3 pm kv kn kt ks fw K X n x4 x5 kw → jw Γ 7 0 0 (cgW a q sz pr pm kv kn kr kt kb ks kj kw kg wd fw ad bk md cr ow hd) [(0, .ref (a 6)), (1, .ref (a 1)), (3, .int x3), (4, .int x4), (5, .int x5)] [] 99 := by
  intro n
  induction n with
  | zero =>
    intro _ _ _ h
    exact False.elim h
  | succ n ih =>
    intro x4 x5 kw h
    unfold wp_X4_choose_99 at h
    refine j_iload g 4 rfl dX4_choose_99 ?_
    refine j_if_lt g dX4_choose_101 (tgt := 163) (by decide) (fun c1 => ?_) (fun c1 => ?_)
    · replace h := h.1 c1
      refine j_sub [3] rfl ?_
      exact hX x4 kw h
    replace h := h.2 c1
    refine j_aload_n g 1 rfl dX4_choose_104 ?_
    refine j_get g fl_X4_34 1 cg_1 rfl dX4_choose_105 ?_
    refine j_iload g 4 rfl dX4_choose_108 ?_
    obtain ⟨hv2, hv2p, h⟩ := h
    refine j_aald g 3 3 cg_3 rfl (by decide) hv2 rfl dX4_choose_110 ?_
    refine j_astore g (lv' := [(6, .ref (a (11 + (pm x5.toNatClampNeg)))), (0, .ref (a 6)), (1, .ref (a 1)), (3, .int x3), (4, .int x4), (5, .int x5)]) (by decide) rfl dX4_choose_111 ?_
    refine j_aload g 0 rfl dX4_choose_113 ?_
    refine j_aload_n g 1 rfl dX4_choose_115 ?_
    refine j_get g fl_X4_11 6 cg_6 rfl dX4_choose_116 ?_
    refine j_iload g 5 rfl dX4_choose_119 ?_
    obtain ⟨hv3, h⟩ := h
    refine j_aald g 7 5 cg_7 rfl (by decide) hv3 rfl dX4_choose_121 ?_
    refine j_iload g 4 rfl dX4_choose_122 ?_
    refine j_aload g 0 rfl dX4_choose_124 ?_
    refine j_get g fl_X4_38 (11 + (pm x5.toNatClampNeg)) (cg_K hv2p) rfl dX4_choose_126 ?_
    refine j_aload g 0 rfl dX4_choose_129 ?_
    refine j_iload_n g 3 rfl dX4_choose_131 ?_
    refine j_callVI_0 g (As := [.int x3]) (st := [.int (kv (pm x5.toNatClampNeg)), .int x4, .ref (a (29 + x5.toNatClampNeg)), .ref (a (11 + (pm x5.toNatClampNeg)))]) (c_X0_spare hv2p h) cl_X4_43 (11 + (pm x5.toNatClampNeg)) 0 (cg_K hv2p) rfl rfl (Nat.le_of_ble_eq_true rfl) (Nat.le_of_ble_eq_true rfl) (Nat.zero_le _) (Nat.zero_le _) rfl rfl (Nat.le_of_ble_eq_true rfl) dX4_choose_132 (fun r_4   h => ?_)
    refine j_callSI_0 g (As := [.ref (a (29 + x5.toNatClampNeg)), .int x4, .int (kv (pm x5.toNatClampNeg)), .int r_4]) (st := [.ref (a (11 + (pm x5.toNatClampNeg)))]) (c_X4_mostOfFewest (vp_lt hv3) h) cl_X4_51 (Nat.le_of_ble_eq_true rfl) (Nat.le_of_ble_eq_true rfl) (Nat.zero_le _) (Nat.zero_le _) rfl rfl (Nat.le_of_ble_eq_true rfl) dX4_choose_135 (fun r_5   h => ?_)
    refine j_put g fl_X4_55 fp_X0_7 (11 + (pm x5.toNatClampNeg)) (cg_K hv2p) rfl rfl (Nat.le_of_ble_eq_true rfl) (ws' := (cgW a q sz pr pm kv kn kr kt kb ks kj (upd kw (pm x5.toNatClampNeg) r_5) kg wd fw ad bk md cr ow hd)) (cg_s_kw hv2p) dX4_choose_138 ?_
    refine j_iload g 4 rfl dX4_choose_141 ?_
    refine j_aload g 0 rfl dX4_choose_143 ?_
    refine j_get g fl_X4_55 (11 + (pm x5.toNatClampNeg)) (cg_K hv2p) rfl dX4_choose_145 ?_
    refine j_aload g 0 rfl dX4_choose_148 ?_
    refine j_get g fl_X4_38 (11 + (pm x5.toNatClampNeg)) (cg_K hv2p) rfl dX4_choose_150 ?_
    refine j_imul g dX4_choose_153 ?_
    refine j_isub g dX4_choose_154 ?_
    refine j_istore g (lv' := [(4, .int (x4 - (((upd kw (pm x5.toNatClampNeg) r_5) (pm x5.toNatClampNeg)) * (kv (pm x5.toNatClampNeg))))), (6, .ref (a (11 + (pm x5.toNatClampNeg)))), (0, .ref (a 6)), (1, .ref (a 1)), (3, .int x3), (5, .int x5)]) (by decide) rfl dX4_choose_155 ?_
    refine j_iinc g 5 (n := -1) (v := x5 + (-1 : Int32)) (lv' := [(5, .int (x5 + (-1 : Int32))), (4, .int (x4 - (((upd kw (pm x5.toNatClampNeg) r_5) (pm x5.toNatClampNeg)) * (kv (pm x5.toNatClampNeg))))), (6, .ref (a (11 + (pm x5.toNatClampNeg)))), (0, .ref (a 6)), (1, .ref (a 1)), (3, .int x3)]) rfl rfl (by decide) rfl dX4_choose_157 ?_
    refine j_goto g dX4_choose_160 (tgt := 99) (by decide) ?_
    refine j_sub [3, 4, 5, 1, 0] rfl ?_
    exact ih (x4 - (((upd kw (pm x5.toNatClampNeg) r_5) (pm x5.toNatClampNeg)) * (kv (pm x5.toNatClampNeg)))) (x5 + (-1 : Int32)) (upd kw (pm x5.toNatClampNeg) r_5) h
set_option maxRecDepth 20000 in
set_option maxHeartbeats 4000000 in
theorem c_X4_choose {a : Nat → Nat} {q : Nat → ClassId} {x2 : Int32} {x3 : Int32}  {sz : Int32} {pr : Nat → Int32} {pm : Nat → Nat} {kv : Nat → Int32} {kn : Nat → Int32} {kr : Nat → Int32} {kt : Nat → Int32} {kb : Nat → Int32} {ks : Nat → Int32} {kj : Nat → Int32} {kw : Nat → Int32} {kg : Nat → Int32} {wd : Nat → Nat → Int64} {fw : Nat → Nat → Int32} {ad : Nat → Int32} {bk : Nat → Int32} {md : Int32} {cr : Int32} {ow : Int32} {hd : Int32} {K : Int32 → (Nat → Int32) → (Nat → Nat → Int32) → Prop} (h : wp_X4_choose x2 x3 sz pm kv kn kt ks kw fw K) : ctZ_2 q yX4_choose cX4_choose 7 2 60 [.ref (a 6), .ref (a 1), .int x2, .int x3] (cgW a q sz pr pm kv kn kr kt kb ks kj kw kg wd fw ad bk md cr ow hd) (fun (kw : Nat → Int32) (fw : Nat → Nat → Int32) => (cgW a q sz pr pm kv kn kr kt kb ks kj kw kg wd fw ad bk md cr ow hd)) K := by
  refine met_Z_2 (by decide) (Nat.le_of_ble_eq_true rfl) (fun Γ g hret => ?_)
  unfold wp_X4_choose at h
  show jw Γ 7 0 0 (cgW a q sz pr pm kv kn kr kt kb ks kj kw kg wd fw ad bk md cr ow hd) [(0, .ref (a 6)), (1, .ref (a 1)), (2, .int x2), (3, .int x3)] [] 0
  refine j_iload_n g 2 rfl dX4_choose_0 ?_
  refine j_if_lt g dX4_choose_1 (tgt := 11) (by decide) (fun c1 => ?_) (fun c1 => ?_)
  · replace h := h.1 c1
    refine j_iconst g (v := 0) (by decide) dX4_choose_11 ?_
    exact hret.go dX4_choose_12 (Or.inl rfl) h
  replace h := h.2 c1
  refine j_iload_n g 2 rfl dX4_choose_4 ?_
  refine j_sipush g (v := 999) (by decide) dX4_choose_5 ?_
  refine j_icmp_le g dX4_choose_8 (tgt := 13) (by decide) (fun c2 => ?_) (fun c2 => ?_)
  rotate_left
  · replace h := h.2 c2
    refine j_iconst g (v := 0) (by decide) dX4_choose_11 ?_
    exact hret.go dX4_choose_12 (Or.inl rfl) h
  replace h := h.1 c2
  refine j_iconst g (v := 1) (by decide) dX4_choose_13 ?_
  refine j_istore g (lv' := [(4, .int (1 : Int32)), (0, .ref (a 6)), (1, .ref (a 1)), (2, .int x2), (3, .int x3)]) (by decide) rfl dX4_choose_14 ?_
  obtain ⟨n3, h⟩ := h
  refine j_sub [1, 2, 3, 4, 0] rfl ?_
  refine wk_X4_choose_16  g hret (fun fw_3 h => ?_) n3 (1 : Int32) fw h
  refine j_iload_n g 2 rfl dX4_choose_88 ?_
  refine j_istore g (lv' := [(4, .int x2), (0, .ref (a 6)), (1, .ref (a 1)), (2, .int x2), (3, .int x3)]) (by decide) rfl dX4_choose_89 ?_
  refine j_aload_n g 2 rfl dX4_choose_91 ?_
  refine j_get g fl_X4_22 1 cg_1 rfl dX4_choose_92 ?_
  refine j_iconst g (v := 1) (by decide) dX4_choose_95 ?_
  refine j_isub g dX4_choose_96 ?_
  refine j_istore g (lv' := [(5, .int (sz - (1 : Int32))), (4, .int x2), (0, .ref (a 6)), (1, .ref (a 1)), (2, .int x2), (3, .int x3)]) (by decide) rfl dX4_choose_97 ?_
  obtain ⟨n4, h⟩ := h
  refine j_sub [2, 3, 5, 1, 0] rfl ?_
  refine wk_X4_choose_99  g hret (fun x4_4 kw_4 h => ?_) n4 x2 (sz - (1 : Int32)) kw h
  refine j_iload g 0 rfl dX4_choose_163 ?_
  refine j_if_ne g dX4_choose_165 (tgt := 172) (by decide) (fun c5 => ?_) (fun c5 => ?_)
  · replace h := h.1 c5
    refine j_iconst g (v := 0) (by decide) dX4_choose_172 ?_
    exact hret.go dX4_choose_173 (Or.inl rfl) h
  replace h := h.2 c5
  refine j_iconst g (v := 1) (by decide) dX4_choose_168 ?_
  refine j_goto g dX4_choose_169 (tgt := 173) (by decide) ?_
  exact hret.go dX4_choose_173 (Or.inr rfl) h
end
section
set_option maxRecDepth 20000 in
def wp_X1_isOut_2 (x2 : Int32) (sz : Int32) (pr : Nat → Int32) (kv : Nat → Int32) (kn : Nat → Int32) (kr : Nat → Int32) (kt : Nat → Int32) (ks : Nat → Int32) (wd : Nat → Nat → Int64) (ad : Nat → Int32) (K : Int32 → Prop) (X : Prop) : Nat → Int32 → Prop
  | 0, _ => False
  | n + 1, x3 => ((sz ≤ x3 → X) ∧ (¬ sz ≤ x3 → (vp_in x3 6 ∧ jn (fun (Z3 : Int32 → Prop) => ((kn x3.toNatClampNeg = 0 → Z3 (0 : Int32)) ∧ (¬ kn x3.toNatClampNeg = 0 → Z3 (kv x3.toNatClampNeg)))) (fun (xs0_3 : Int32) => (vp_in x3 6 ∧ wp_X0_free x3.toNatClampNeg kr kt (fun (r_5 : Int32)  => jn (fun (Z6 : Int32 → Prop) => ((r_5 ≤ ad x3.toNatClampNeg → Z6 (0 : Int32)) ∧ (¬ r_5 ≤ ad x3.toNatClampNeg → Z6 (1 : Int32)))) (fun (xs0_6 : Int32) => (vp_in x2 5 ∧ wp_X3_mayTake x3.toNatClampNeg xs0_6 (x2.toNatClampNeg + 1) (kv x3.toNatClampNeg) xs0_3 pr kv kn ks wd (fun (r_8 : Int32)  => ((¬ r_8 = 0 → wp_X1_isOut_2 x2 sz pr kv kn kr kt ks wd ad K X n (x3 + 1)) ∧ (r_8 = 0 → K (0 : Int32))))))))))))
set_option maxRecDepth 20000 in
def wp_X1_isOut (x2 : Int32) (sz : Int32) (pr : Nat → Int32) (kv : Nat → Int32) (kn : Nat → Int32) (kr : Nat → Int32) (kt : Nat → Int32) (ks : Nat → Int32) (wd : Nat → Nat → Int64) (ad : Nat → Int32) (K : Int32 → Prop) : Prop :=
  ∃ n1 : Nat, wp_X1_isOut_2 x2 sz pr kv kn kr kt ks wd ad K (K (1 : Int32)) n1 (0 : Int32)
theorem dX1_isOut_0 : decode cX1_isOut 0 = .ok (.iconst 0, 1) := by decide +kernel
theorem dX1_isOut_1 : decode cX1_isOut 1 = .ok (.istore_n 3, 1) := by decide +kernel
theorem dX1_isOut_2 : decode cX1_isOut 2 = .ok (.iload_n 3, 1) := by decide +kernel
theorem dX1_isOut_3 : decode cX1_isOut 3 = .ok (.aload_n 1, 1) := by decide +kernel
theorem dX1_isOut_4 : decode cX1_isOut 4 = .ok (.getfield 42, 3) := by decide +kernel
theorem dX1_isOut_7 : decode cX1_isOut 7 = .ok (.if_icmp .ge 83, 3) := by decide +kernel
theorem dX1_isOut_10 : decode cX1_isOut 10 = .ok (.aload_n 1, 1) := by decide +kernel
theorem dX1_isOut_11 : decode cX1_isOut 11 = .ok (.getfield 46, 3) := by decide +kernel
theorem dX1_isOut_14 : decode cX1_isOut 14 = .ok (.iload_n 3, 1) := by decide +kernel
theorem dX1_isOut_15 : decode cX1_isOut 15 = .ok (.aaload, 1) := by decide +kernel
theorem dX1_isOut_16 : decode cX1_isOut 16 = .ok (.astore 4, 2) := by decide +kernel
theorem dX1_isOut_18 : decode cX1_isOut 18 = .ok (.aload 4, 2) := by decide +kernel
theorem dX1_isOut_20 : decode cX1_isOut 20 = .ok (.getfield 71, 3) := by decide +kernel
theorem dX1_isOut_23 : decode cX1_isOut 23 = .ok (.ifCond .eq 11, 3) := by decide +kernel
theorem dX1_isOut_26 : decode cX1_isOut 26 = .ok (.aload 4, 2) := by decide +kernel
theorem dX1_isOut_28 : decode cX1_isOut 28 = .ok (.getfield 64, 3) := by decide +kernel
theorem dX1_isOut_31 : decode cX1_isOut 31 = .ok (.goto 4, 3) := by decide +kernel
theorem dX1_isOut_34 : decode cX1_isOut 34 = .ok (.iconst 0, 1) := by decide +kernel
theorem dX1_isOut_35 : decode cX1_isOut 35 = .ok (.istore 5, 2) := by decide +kernel
theorem dX1_isOut_37 : decode cX1_isOut 37 = .ok (.aload_n 0, 1) := by decide +kernel
theorem dX1_isOut_38 : decode cX1_isOut 38 = .ok (.getfield 9, 3) := by decide +kernel
theorem dX1_isOut_41 : decode cX1_isOut 41 = .ok (.iload_n 3, 1) := by decide +kernel
theorem dX1_isOut_42 : decode cX1_isOut 42 = .ok (.iaload, 1) := by decide +kernel
theorem dX1_isOut_43 : decode cX1_isOut 43 = .ok (.aload 4, 2) := by decide +kernel
theorem dX1_isOut_45 : decode cX1_isOut 45 = .ok (.invokevirtual 56, 3) := by decide +kernel
theorem dX1_isOut_48 : decode cX1_isOut 48 = .ok (.if_icmp .ge 7, 3) := by decide +kernel
theorem dX1_isOut_51 : decode cX1_isOut 51 = .ok (.iconst 1, 1) := by decide +kernel
theorem dX1_isOut_52 : decode cX1_isOut 52 = .ok (.goto 4, 3) := by decide +kernel
theorem dX1_isOut_55 : decode cX1_isOut 55 = .ok (.iconst 0, 1) := by decide +kernel
theorem dX1_isOut_56 : decode cX1_isOut 56 = .ok (.istore 6, 2) := by decide +kernel
theorem dX1_isOut_58 : decode cX1_isOut 58 = .ok (.aload_n 1, 1) := by decide +kernel
theorem dX1_isOut_59 : decode cX1_isOut 59 = .ok (.aload 4, 2) := by decide +kernel
theorem dX1_isOut_61 : decode cX1_isOut 61 = .ok (.iload 6, 2) := by decide +kernel
theorem dX1_isOut_63 : decode cX1_isOut 63 = .ok (.aload_n 0, 1) := by decide +kernel
theorem dX1_isOut_64 : decode cX1_isOut 64 = .ok (.getfield 17, 3) := by decide +kernel
theorem dX1_isOut_67 : decode cX1_isOut 67 = .ok (.iload_n 2, 1) := by decide +kernel
theorem dX1_isOut_68 : decode cX1_isOut 68 = .ok (.aaload, 1) := by decide +kernel
theorem dX1_isOut_69 : decode cX1_isOut 69 = .ok (.aload 4, 2) := by decide +kernel
theorem dX1_isOut_71 : decode cX1_isOut 71 = .ok (.getfield 64, 3) := by decide +kernel
theorem dX1_isOut_74 : decode cX1_isOut 74 = .ok (.iload 5, 2) := by decide +kernel
theorem dX1_isOut_76 : decode cX1_isOut 76 = .ok (.invokevirtual 75, 3) := by decide +kernel
theorem dX1_isOut_79 : decode cX1_isOut 79 = .ok (.ifCond .ne 5, 3) := by decide +kernel
theorem dX1_isOut_82 : decode cX1_isOut 82 = .ok (.iconst 0, 1) := by decide +kernel
theorem dX1_isOut_83 : decode cX1_isOut 83 = .ok (.ireturn, 1) := by decide +kernel
theorem dX1_isOut_84 : decode cX1_isOut 84 = .ok (.iinc 3 1, 3) := by decide +kernel
theorem dX1_isOut_87 : decode cX1_isOut 87 = .ok (.goto (-85), 3) := by decide +kernel
theorem dX1_isOut_90 : decode cX1_isOut 90 = .ok (.iconst 1, 1) := by decide +kernel
theorem dX1_isOut_91 : decode cX1_isOut 91 = .ok (.ireturn, 1) := by decide +kernel
set_option maxRecDepth 20000 in
set_option maxHeartbeats 4000000 in
theorem wk_X1_isOut_2 {Γ : GT} {a : Nat → Nat} {q : Nat → ClassId} {x2 : Int32}  {sz : Int32} {pr : Nat → Int32} {pm : Nat → Nat} {kv : Nat → Int32} {kn : Nat → Int32} {kr : Nat → Int32} {kt : Nat → Int32} {kb : Nat → Int32} {ks : Nat → Int32} {kj : Nat → Int32} {kw : Nat → Int32} {kg : Nat → Int32} {wd : Nat → Nat → Int64} {fw : Nat → Nat → Int32} {ad : Nat → Int32} {bk : Nat → Int32} {md : Int32} {cr : Int32} {ow : Int32} {hd : Int32} {K : Int32 → Prop} {X : Prop} (g : gd Γ cX1_isOut RX1 7 (rmz 3 71) q) (hret : rtZ_0 Γ cX1_isOut 7 (cgW a q sz pr pm kv kn kr kt kb ks kj kw kg wd fw ad bk md cr ow hd) K) (hX : X → jw Γ 7 0 0 (cgW a q sz pr pm kv kn kr kt kb ks kj kw kg wd fw ad bk md cr ow hd) [] [] 90) :
    ∀ (n : Nat) (x3 : Int32) , wp_X1_isOut_2 x2 sz pr kv kn kr kt ks wd ad K X n x3 → jw Γ 7 0 0 (cgW a q sz pr pm kv kn kr kt kb ks kj kw kg wd fw ad bk md cr ow hd) [(0, .ref (a 8)), (1, .ref (a 1)), (2, .int x2), (3, .int x3)] [] 2 := by
  intro n
  induction n with
  | zero =>
    intro _ h
    exact False.elim h
  | succ n ih =>
    intro x3 h
    unfold wp_X1_isOut_2 at h
    refine j_iload_n g 3 rfl dX1_isOut_2 ?_
    refine j_aload_n g 1 rfl dX1_isOut_3 ?_
    refine j_get g fl_X1_42 1 cg_1 rfl dX1_isOut_4 ?_
    refine j_icmp_ge g dX1_isOut_7 (tgt := 90) (by decide) (fun c1 => ?_) (fun c1 => ?_)
    · replace h := h.1 c1
      refine j_sub [] rfl ?_
      exact hX h
    replace h := h.2 c1
    refine j_aload_n g 1 rfl dX1_isOut_10 ?_
    refine j_get g fl_X1_46 1 cg_1 rfl dX1_isOut_11 ?_
    refine j_iload_n g 3 rfl dX1_isOut_14 ?_
    obtain ⟨hv2, h⟩ := h
    refine j_aald g 2 3 cg_2 rfl (by decide) hv2 rfl dX1_isOut_15 ?_
    refine j_astore g (lv' := [(4, .ref (a (11 + x3.toNatClampNeg))), (0, .ref (a 8)), (1, .ref (a 1)), (2, .int x2), (3, .int x3)]) (by decide) rfl dX1_isOut_16 ?_
    refine j_aload g 0 rfl dX1_isOut_18 ?_
    refine j_get g fl_X1_71 (11 + x3.toNatClampNeg) (cg_K (vp_lt hv2)) rfl dX1_isOut_20 ?_
    refine jn_cut h (fun Z3 eZ3 h => ?_)
    have hZ3 : ∀ (xs0_3 : Int32), Z3 xs0_3 → jw Γ 7 0 0 (cgW a q sz pr pm kv kn kr kt kb ks kj kw kg wd fw ad bk md cr ow hd) [(0, .ref (a 8)), (1, .ref (a 1)), (2, .int x2), (3, .int x3), (4, .ref (a (11 + x3.toNatClampNeg)))] [.int xs0_3] 35 := by
      intro xs0_3 h
      rw [eZ3] at h
      refine j_istore g (lv' := [(5, .int xs0_3), (0, .ref (a 8)), (1, .ref (a 1)), (2, .int x2), (3, .int x3), (4, .ref (a (11 + x3.toNatClampNeg)))]) (by decide) rfl dX1_isOut_35 ?_
      refine j_aload_n g 1 rfl dX1_isOut_37 ?_
      refine j_get g fl_X1_9 8 cg_8 rfl dX1_isOut_38 ?_
      refine j_iload_n g 4 rfl dX1_isOut_41 ?_
      obtain ⟨hv4, h⟩ := h
      refine j_iald g 9 cg_9 hv4 dX1_isOut_42 ?_
      refine j_aload g 5 rfl dX1_isOut_43 ?_
      refine j_callVI_0 g (As := []) (st := [.int (ad x3.toNatClampNeg)]) (c_X0_free (vp_lt hv2) h) cl_X1_56 (11 + x3.toNatClampNeg) 0 (cg_K (vp_lt hv2)) rfl rfl (Nat.le_of_ble_eq_true rfl) (Nat.le_of_ble_eq_true rfl) (Nat.zero_le _) (Nat.zero_le _) rfl rfl (Nat.le_of_ble_eq_true rfl) dX1_isOut_45 (fun r_5   h => ?_)
      refine jn_cut h (fun Z6 eZ6 h => ?_)
      have hZ6 : ∀ (xs0_6 : Int32), (xs0_6 = 0 ∨ xs0_6 = 1) → Z6 xs0_6 → jw Γ 7 0 0 (cgW a q sz pr pm kv kn kr kt kb ks kj kw kg wd fw ad bk md cr ow hd) [(0, .ref (a 8)), (1, .ref (a 1)), (2, .int x2), (3, .int x3), (4, .ref (a (11 + x3.toNatClampNeg))), (5, .int xs0_3)] [.int xs0_6] 56 := by
        intro xs0_6 hbs0_6 h
        rw [eZ6] at h
        refine j_istore g (lv' := [(6, .int xs0_6), (0, .ref (a 8)), (1, .ref (a 1)), (2, .int x2), (3, .int x3), (4, .ref (a (11 + x3.toNatClampNeg))), (5, .int xs0_3)]) (by decide) rfl dX1_isOut_56 ?_
        refine j_aload_n g 2 rfl dX1_isOut_58 ?_
        refine j_aload g 5 rfl dX1_isOut_59 ?_
        refine j_iload g 0 rfl dX1_isOut_61 ?_
        refine j_aload_n g 1 rfl dX1_isOut_63 ?_
        refine j_get g fl_X1_17 8 cg_8 rfl dX1_isOut_64 ?_
        refine j_iload_n g 3 rfl dX1_isOut_67 ?_
        obtain ⟨hv7, h⟩ := h
        refine j_aald g 10 4 cg_10 rfl (by decide) hv7 rfl dX1_isOut_68 ?_
        refine j_aload g 5 rfl dX1_isOut_69 ?_
        refine j_get g fl_X1_64 (11 + x3.toNatClampNeg) (cg_K (vp_lt hv2)) rfl dX1_isOut_71 ?_
        refine j_iload g 6 rfl dX1_isOut_74 ?_
        refine j_callVZ_0 g (As := [.ref (a (11 + x3.toNatClampNeg)), .int xs0_6, .ref (a (17 + (x2.toNatClampNeg + 1))), .int (kv x3.toNatClampNeg), .int xs0_3]) (st := []) (c_X3_mayTake (vp_lt hv2) hbs0_6 (Nat.succ_lt_succ (vp_lt hv7)) h) cl_X1_75 1 3 cg_1 rfl rfl (Nat.le_of_ble_eq_true rfl) (Nat.le_of_ble_eq_true rfl) (Nat.zero_le _) (Nat.zero_le _) rfl rfl (Nat.le_of_ble_eq_true rfl) dX1_isOut_76 (fun r_8  hz_8 h => ?_)
        refine j_if_ne g dX1_isOut_79 (tgt := 84) (by decide) (fun c9 => ?_) (fun c9 => ?_)
        rotate_left
        · replace h := h.2 c9
          refine j_iconst g (v := 0) (by decide) dX1_isOut_82 ?_
          exact hret.go dX1_isOut_83 (Or.inl rfl) h
        replace h := h.1 c9
        refine j_iinc g 4 (n := 1) (v := x3 + 1) (lv' := [(3, .int (x3 + 1)), (6, .int xs0_6), (0, .ref (a 8)), (1, .ref (a 1)), (2, .int x2), (4, .ref (a (11 + x3.toNatClampNeg))), (5, .int xs0_3)]) rfl rfl (by decide) rfl dX1_isOut_84 ?_
        refine j_goto g dX1_isOut_87 (tgt := 2) (by decide) ?_
        refine j_sub [2, 3, 4, 0] rfl ?_
        exact ih (x3 + 1) h
      refine j_icmp_ge g dX1_isOut_48 (tgt := 55) (by decide) (fun c10 => ?_) (fun c10 => ?_)
      · replace h := h.1 c10
        refine j_iconst g (v := 0) (by decide) dX1_isOut_55 ?_
        refine j_sub [1, 2, 3, 4, 5, 0] rfl ?_
        exact hZ6 (0 : Int32) (Or.inl rfl) h
      replace h := h.2 c10
      refine j_iconst g (v := 1) (by decide) dX1_isOut_51 ?_
      refine j_goto g dX1_isOut_52 (tgt := 56) (by decide) ?_
      refine j_sub [1, 2, 3, 4, 5, 0] rfl ?_
      exact hZ6 (1 : Int32) (Or.inr rfl) h
    refine j_if_eq g dX1_isOut_23 (tgt := 34) (by decide) (fun c11 => ?_) (fun c11 => ?_)
    · replace h := h.1 c11
      refine j_iconst g (v := 0) (by decide) dX1_isOut_34 ?_
      refine j_sub [1, 2, 3, 4, 0] rfl ?_
      exact hZ3 (0 : Int32) h
    replace h := h.2 c11
    refine j_aload g 0 rfl dX1_isOut_26 ?_
    refine j_get g fl_X1_64 (11 + x3.toNatClampNeg) (cg_K (vp_lt hv2)) rfl dX1_isOut_28 ?_
    refine j_goto g dX1_isOut_31 (tgt := 35) (by decide) ?_
    refine j_sub [1, 2, 3, 4, 0] rfl ?_
    exact hZ3 (kv x3.toNatClampNeg) h
set_option maxRecDepth 20000 in
set_option maxHeartbeats 4000000 in
theorem c_X1_isOut {a : Nat → Nat} {q : Nat → ClassId} {x2 : Int32}  {sz : Int32} {pr : Nat → Int32} {pm : Nat → Nat} {kv : Nat → Int32} {kn : Nat → Int32} {kr : Nat → Int32} {kt : Nat → Int32} {kb : Nat → Int32} {ks : Nat → Int32} {kj : Nat → Int32} {kw : Nat → Int32} {kg : Nat → Int32} {wd : Nat → Nat → Int64} {fw : Nat → Nat → Int32} {ad : Nat → Int32} {bk : Nat → Int32} {md : Int32} {cr : Int32} {ow : Int32} {hd : Int32} {K : Int32 → Prop} (h : wp_X1_isOut x2 sz pr kv kn kr kt ks wd ad K) : ctZ_0 q yX1_isOut cX1_isOut 7 3 71 [.ref (a 8), .ref (a 1), .int x2] (cgW a q sz pr pm kv kn kr kt kb ks kj kw kg wd fw ad bk md cr ow hd) (cgW a q sz pr pm kv kn kr kt kb ks kj kw kg wd fw ad bk md cr ow hd) K := by
  refine met_Z_0 (by decide) (Nat.le_of_ble_eq_true rfl) (fun Γ g hret => ?_)
  unfold wp_X1_isOut at h
  show jw Γ 7 0 0 (cgW a q sz pr pm kv kn kr kt kb ks kj kw kg wd fw ad bk md cr ow hd) [(0, .ref (a 8)), (1, .ref (a 1)), (2, .int x2)] [] 0
  refine j_iconst g (v := 0) (by decide) dX1_isOut_0 ?_
  refine j_istore_n g (lv' := [(3, .int (0 : Int32)), (0, .ref (a 8)), (1, .ref (a 1)), (2, .int x2)]) (by decide) rfl dX1_isOut_1 ?_
  obtain ⟨n1, h⟩ := h
  refine j_sub [1, 2, 3, 0] rfl ?_
  refine wk_X1_isOut_2  g hret (fun h => ?_) n1 (0 : Int32) h
  refine j_iconst g (v := 1) (by decide) dX1_isOut_90 ?_
  exact hret.go dX1_isOut_91 (Or.inr rfl) h

set_option maxRecDepth 20000 in
def wp_X1_putsOut_21 (REC : Int32 → Int32 → Int32 → Int32 → (Nat → Int32) → (Nat → Nat) → (Nat → Int32) → (Nat → Int32) → (Nat → Int32) → (Nat → Int32) → (Nat → Int32) → (Nat → Int32) → (Nat → Int32) → (Nat → Int32) → (Nat → Int32) → (Nat → Nat → Int64) → (Nat → Nat → Int32) → (Nat → Int32) → (Nat → Int32) → Int32 → Int32 → Int32 → Int32 → (Int32 → Int32 → (Nat → Int32) → (Nat → Nat) → (Nat → Int32) → (Nat → Int32) → (Nat → Int32) → (Nat → Int32) → (Nat → Int32) → (Nat → Int32) → (Nat → Int32) → (Nat → Int32) → (Nat → Int32) → (Nat → Nat → Int64) → (Nat → Nat → Int32) → (Nat → Int32) → (Nat → Int32) → Int32 → Int32 → Int32 → Int32 → Prop) → Prop) (x2 : Int32) (x4 : Int32)  (K : Int32 → Int32 → (Nat → Int32) → (Nat → Nat) → (Nat → Int32) → (Nat → Int32) → (Nat → Int32) → (Nat → Int32) → (Nat → Int32) → (Nat → Int32) → (Nat → Int32) → (Nat → Int32) → (Nat → Int32) → (Nat → Nat → Int64) → (Nat → Nat → Int32) → (Nat → Int32) → (Nat → Int32) → Int32 → Int32 → Int32 → Int32 → Prop) (X : Int32 → (Nat → Int32) → (Nat → Nat) → (Nat → Int32) → (Nat → Int32) → (Nat → Int32) → (Nat → Int32) → (Nat → Int32) → (Nat → Int32) → (Nat → Int32) → (Nat → Int32) → (Nat → Int32) → (Nat → Nat → Int64) → (Nat → Nat → Int32) → (Nat → Int32) → (Nat → Int32) → Int32 → Int32 → Int32 → Int32 → Prop) : Nat → Int32 → Int32 → (Nat → Int32) → (Nat → Nat) → (Nat → Int32) → (Nat → Int32) → (Nat → Int32) → (Nat → Int32) → (Nat → Int32) → (Nat → Int32) → (Nat → Int32) → (Nat → Int32) → (Nat → Int32) → (Nat → Nat → Int64) → (Nat → Nat → Int32) → (Nat → Int32) → (Nat → Int32) → Int32 → Int32 → Int32 → Int32 → Prop
  | 0, _, _, _, _, _, _, _, _, _, _, _, _, _, _, _, _, _, _, _, _, _ => False
  | n + 1, x5, sz, pr, pm, kv, kn, kr, kt, kb, ks, kj, kw, kg, wd, fw, ad, bk, md, cr, ow, hd => ((sz ≤ x5 → X sz pr pm kv kn kr kt kb ks kj kw kg wd fw ad bk md cr ow hd) ∧ (¬ sz ≤ x5 → (vp_in x5 6 ∧ wp_X0_gives x5.toNatClampNeg kn ks (fun (r_3 : Int32)  => ((r_3 = 0 → wp_X1_putsOut_21 REC x2 x4 K X n (x5 + 1) sz pr pm kv kn kr kt kb ks kj kw kg wd fw ad bk md cr ow hd) ∧ (¬ r_3 = 0 → (vp_in x5 6 ∧ wp_X0_free x5.toNatClampNeg kr kt (fun (r_6 : Int32)  => ((r_6 ≤ ad x5.toNatClampNeg → wp_X1_putsOut_21 REC x2 x4 K X n (x5 + 1) sz pr pm kv kn kr kt kb ks kj kw kg wd fw ad bk md cr ow hd) ∧ (¬ r_6 ≤ ad x5.toNatClampNeg → (vp_in x5 6 ∧ (vp_in x5 6 ∧ (vp_in (x2 + (1 : Int32)) 5 ∧ (vp_in x2 5 ∧ wp_X2_copyOf ((x2 + (1 : Int32)).toNatClampNeg + 1) (x2.toNatClampNeg + 1) wd (fun (wd_12 : Nat → Nat → Int64) => (vp_in (x2 + (1 : Int32)) 5 ∧ wp_X2_addCoins ((x2 + (1 : Int32)).toNatClampNeg + 1) (kv x5.toNatClampNeg) (1 : Int32) wd_12 (fun (wd_14 : Nat → Nat → Int64) => REC (x2 + (1 : Int32)) x5 x4 sz pr pm kv kn kr kt kb ks kj kw kg wd_14 fw (upd ad x5.toNatClampNeg ((ad x5.toNatClampNeg) + (1 : Int32))) bk md cr ow hd (fun (r_15 : Int32) (sz_15 : Int32) (pr_15 : Nat → Int32) (pm_15 : Nat → Nat) (kv_15 : Nat → Int32) (kn_15 : Nat → Int32) (kr_15 : Nat → Int32) (kt_15 : Nat → Int32) (kb_15 : Nat → Int32) (ks_15 : Nat → Int32) (kj_15 : Nat → Int32) (kw_15 : Nat → Int32) (kg_15 : Nat → Int32) (wd_15 : Nat → Nat → Int64) (fw_15 : Nat → Nat → Int32) (ad_15 : Nat → Int32) (bk_15 : Nat → Int32) (md_15 : Int32) (cr_15 : Int32) (ow_15 : Int32) (hd_15 : Int32) => ((r_15 = 0 → (vp_in x5 6 ∧ (vp_in x5 6 ∧ wp_X1_putsOut_21 REC x2 x4 K X n (x5 + 1) sz_15 pr_15 pm_15 kv_15 kn_15 kr_15 kt_15 kb_15 ks_15 kj_15 kw_15 kg_15 wd_15 fw_15 (upd ad_15 x5.toNatClampNeg ((ad_15 x5.toNatClampNeg) - (1 : Int32))) bk_15 md_15 cr_15 ow_15 hd_15))) ∧ (¬ r_15 = 0 → K (1 : Int32) sz_15 pr_15 pm_15 kv_15 kn_15 kr_15 kt_15 kb_15 ks_15 kj_15 kw_15 kg_15 wd_15 fw_15 ad_15 bk_15 md_15 cr_15 ow_15 hd_15))))))))))))))))))))
set_option maxRecDepth 20000 in
def wp_X1_putsOut : Nat → Int32 → Int32 → Int32 → Int32 → (Nat → Int32) → (Nat → Nat) → (Nat → Int32) → (Nat → Int32) → (Nat → Int32) → (Nat → Int32) → (Nat → Int32) → (Nat → Int32) → (Nat → Int32) → (Nat → Int32) → (Nat → Int32) → (Nat → Nat → Int64) → (Nat → Nat → Int32) → (Nat → Int32) → (Nat → Int32) → Int32 → Int32 → Int32 → Int32 → (Int32 → Int32 → (Nat → Int32) → (Nat → Nat) → (Nat → Int32) → (Nat → Int32) → (Nat → Int32) → (Nat → Int32) → (Nat → Int32) → (Nat → Int32) → (Nat → Int32) → (Nat → Int32) → (Nat → Int32) → (Nat → Nat → Int64) → (Nat → Nat → Int32) → (Nat → Int32) → (Nat → Int32) → Int32 → Int32 → Int32 → Int32 → Prop) → Prop
  | 0, _, _, _, _, _, _, _, _, _, _, _, _, _, _, _, _, _, _, _, _, _, _, _, _ => False
  | d + 1, x2, x3, x4, sz, pr, pm, kv, kn, kr, kt, kb, ks, kj, kw, kg, wd, fw, ad, bk, md, cr, ow, hd, K => ((x4 ≤ x2 → wp_X1_isOut x2 sz pr kv kn kr kt ks wd ad (fun (r_2 : Int32)  => K r_2 sz pr pm kv kn kr kt kb ks kj kw kg wd fw ad bk md cr ow hd)) ∧ (¬ x4 ≤ x2 → ((x2 < (4 : Int32) → ∃ n4 : Nat, wp_X1_putsOut_21 (wp_X1_putsOut d) x2 x4 K (fun (sz_4 : Int32) (pr_4 : Nat → Int32) (pm_4 : Nat → Nat) (kv_4 : Nat → Int32) (kn_4 : Nat → Int32) (kr_4 : Nat → Int32) (kt_4 : Nat → Int32) (kb_4 : Nat → Int32) (ks_4 : Nat → Int32) (kj_4 : Nat → Int32) (kw_4 : Nat → Int32) (kg_4 : Nat → Int32) (wd_4 : Nat → Nat → Int64) (fw_4 : Nat → Nat → Int32) (ad_4 : Nat → Int32) (bk_4 : Nat → Int32) (md_4 : Int32) (cr_4 : Int32) (ow_4 : Int32) (hd_4 : Int32) => K (0 : Int32) sz_4 pr_4 pm_4 kv_4 kn_4 kr_4 kt_4 kb_4 ks_4 kj_4 kw_4 kg_4 wd_4 fw_4 ad_4 bk_4 md_4 cr_4 ow_4 hd_4) n4 x3 sz pr pm kv kn kr kt kb ks kj kw kg wd fw ad bk md cr ow hd) ∧ (¬ x2 < (4 : Int32) → wp_X1_isOut x2 sz pr kv kn kr kt ks wd ad (fun (r_5 : Int32)  => K r_5 sz pr pm kv kn kr kt kb ks kj kw kg wd fw ad bk md cr ow hd)))))
theorem dX1_putsOut_0 : decode cX1_putsOut 0 = .ok (.iload_n 2, 1) := by decide +kernel
theorem dX1_putsOut_1 : decode cX1_putsOut 1 = .ok (.iload 4, 2) := by decide +kernel
theorem dX1_putsOut_3 : decode cX1_putsOut 3 = .ok (.if_icmp .ge 8, 3) := by decide +kernel
theorem dX1_putsOut_6 : decode cX1_putsOut 6 = .ok (.iload_n 2, 1) := by decide +kernel
theorem dX1_putsOut_7 : decode cX1_putsOut 7 = .ok (.iconst 4, 1) := by decide +kernel
theorem dX1_putsOut_8 : decode cX1_putsOut 8 = .ok (.if_icmp .lt 10, 3) := by decide +kernel
theorem dX1_putsOut_11 : decode cX1_putsOut 11 = .ok (.aload_n 0, 1) := by decide +kernel
theorem dX1_putsOut_12 : decode cX1_putsOut 12 = .ok (.aload_n 1, 1) := by decide +kernel
theorem dX1_putsOut_13 : decode cX1_putsOut 13 = .ok (.iload_n 2, 1) := by decide +kernel
theorem dX1_putsOut_14 : decode cX1_putsOut 14 = .ok (.invokevirtual 38, 3) := by decide +kernel
theorem dX1_putsOut_17 : decode cX1_putsOut 17 = .ok (.ireturn, 1) := by decide +kernel
theorem dX1_putsOut_18 : decode cX1_putsOut 18 = .ok (.iload_n 3, 1) := by decide +kernel
theorem dX1_putsOut_19 : decode cX1_putsOut 19 = .ok (.istore 5, 2) := by decide +kernel
theorem dX1_putsOut_21 : decode cX1_putsOut 21 = .ok (.iload 5, 2) := by decide +kernel
theorem dX1_putsOut_23 : decode cX1_putsOut 23 = .ok (.aload_n 1, 1) := by decide +kernel
theorem dX1_putsOut_24 : decode cX1_putsOut 24 = .ok (.getfield 42, 3) := by decide +kernel
theorem dX1_putsOut_27 : decode cX1_putsOut 27 = .ok (.if_icmp .ge 114, 3) := by decide +kernel
theorem dX1_putsOut_30 : decode cX1_putsOut 30 = .ok (.aload_n 1, 1) := by decide +kernel
theorem dX1_putsOut_31 : decode cX1_putsOut 31 = .ok (.getfield 46, 3) := by decide +kernel
theorem dX1_putsOut_34 : decode cX1_putsOut 34 = .ok (.iload 5, 2) := by decide +kernel
theorem dX1_putsOut_36 : decode cX1_putsOut 36 = .ok (.aaload, 1) := by decide +kernel
theorem dX1_putsOut_37 : decode cX1_putsOut 37 = .ok (.astore 6, 2) := by decide +kernel
theorem dX1_putsOut_39 : decode cX1_putsOut 39 = .ok (.aload 6, 2) := by decide +kernel
theorem dX1_putsOut_41 : decode cX1_putsOut 41 = .ok (.invokevirtual 50, 3) := by decide +kernel
theorem dX1_putsOut_44 : decode cX1_putsOut 44 = .ok (.ifCond .eq 91, 3) := by decide +kernel
theorem dX1_putsOut_47 : decode cX1_putsOut 47 = .ok (.aload_n 0, 1) := by decide +kernel
theorem dX1_putsOut_48 : decode cX1_putsOut 48 = .ok (.getfield 9, 3) := by decide +kernel
theorem dX1_putsOut_51 : decode cX1_putsOut 51 = .ok (.iload 5, 2) := by decide +kernel
theorem dX1_putsOut_53 : decode cX1_putsOut 53 = .ok (.iaload, 1) := by decide +kernel
theorem dX1_putsOut_54 : decode cX1_putsOut 54 = .ok (.aload 6, 2) := by decide +kernel
theorem dX1_putsOut_56 : decode cX1_putsOut 56 = .ok (.invokevirtual 56, 3) := by decide +kernel
theorem dX1_putsOut_59 : decode cX1_putsOut 59 = .ok (.if_icmp .ge 76, 3) := by decide +kernel
theorem dX1_putsOut_62 : decode cX1_putsOut 62 = .ok (.aload_n 0, 1) := by decide +kernel
theorem dX1_putsOut_63 : decode cX1_putsOut 63 = .ok (.getfield 9, 3) := by decide +kernel
theorem dX1_putsOut_66 : decode cX1_putsOut 66 = .ok (.iload 5, 2) := by decide +kernel
theorem dX1_putsOut_68 : decode cX1_putsOut 68 = .ok (.dup2, 1) := by decide +kernel
theorem dX1_putsOut_69 : decode cX1_putsOut 69 = .ok (.iaload, 1) := by decide +kernel
theorem dX1_putsOut_70 : decode cX1_putsOut 70 = .ok (.iconst 1, 1) := by decide +kernel
theorem dX1_putsOut_71 : decode cX1_putsOut 71 = .ok (.iadd, 1) := by decide +kernel
theorem dX1_putsOut_72 : decode cX1_putsOut 72 = .ok (.iastore, 1) := by decide +kernel
theorem dX1_putsOut_73 : decode cX1_putsOut 73 = .ok (.aload_n 0, 1) := by decide +kernel
theorem dX1_putsOut_74 : decode cX1_putsOut 74 = .ok (.getfield 17, 3) := by decide +kernel
theorem dX1_putsOut_77 : decode cX1_putsOut 77 = .ok (.iload_n 2, 1) := by decide +kernel
theorem dX1_putsOut_78 : decode cX1_putsOut 78 = .ok (.iconst 1, 1) := by decide +kernel
theorem dX1_putsOut_79 : decode cX1_putsOut 79 = .ok (.iadd, 1) := by decide +kernel
theorem dX1_putsOut_80 : decode cX1_putsOut 80 = .ok (.aaload, 1) := by decide +kernel
theorem dX1_putsOut_81 : decode cX1_putsOut 81 = .ok (.aload_n 0, 1) := by decide +kernel
theorem dX1_putsOut_82 : decode cX1_putsOut 82 = .ok (.getfield 17, 3) := by decide +kernel
theorem dX1_putsOut_85 : decode cX1_putsOut 85 = .ok (.iload_n 2, 1) := by decide +kernel
theorem dX1_putsOut_86 : decode cX1_putsOut 86 = .ok (.aaload, 1) := by decide +kernel
theorem dX1_putsOut_87 : decode cX1_putsOut 87 = .ok (.invokevirtual 60, 3) := by decide +kernel
theorem dX1_putsOut_90 : decode cX1_putsOut 90 = .ok (.aload_n 0, 1) := by decide +kernel
theorem dX1_putsOut_91 : decode cX1_putsOut 91 = .ok (.getfield 17, 3) := by decide +kernel
theorem dX1_putsOut_94 : decode cX1_putsOut 94 = .ok (.iload_n 2, 1) := by decide +kernel
theorem dX1_putsOut_95 : decode cX1_putsOut 95 = .ok (.iconst 1, 1) := by decide +kernel
theorem dX1_putsOut_96 : decode cX1_putsOut 96 = .ok (.iadd, 1) := by decide +kernel
theorem dX1_putsOut_97 : decode cX1_putsOut 97 = .ok (.aaload, 1) := by decide +kernel
theorem dX1_putsOut_98 : decode cX1_putsOut 98 = .ok (.aload 6, 2) := by decide +kernel
theorem dX1_putsOut_100 : decode cX1_putsOut 100 = .ok (.getfield 64, 3) := by decide +kernel
theorem dX1_putsOut_103 : decode cX1_putsOut 103 = .ok (.iconst 1, 1) := by decide +kernel
theorem dX1_putsOut_104 : decode cX1_putsOut 104 = .ok (.invokevirtual 67, 3) := by decide +kernel
theorem dX1_putsOut_107 : decode cX1_putsOut 107 = .ok (.aload_n 0, 1) := by decide +kernel
theorem dX1_putsOut_108 : decode cX1_putsOut 108 = .ok (.aload_n 1, 1) := by decide +kernel
theorem dX1_putsOut_109 : decode cX1_putsOut 109 = .ok (.iload_n 2, 1) := by decide +kernel
theorem dX1_putsOut_110 : decode cX1_putsOut 110 = .ok (.iconst 1, 1) := by decide +kernel
theorem dX1_putsOut_111 : decode cX1_putsOut 111 = .ok (.iadd, 1) := by decide +kernel
theorem dX1_putsOut_112 : decode cX1_putsOut 112 = .ok (.iload 5, 2) := by decide +kernel
theorem dX1_putsOut_114 : decode cX1_putsOut 114 = .ok (.iload 4, 2) := by decide +kernel
theorem dX1_putsOut_116 : decode cX1_putsOut 116 = .ok (.invokestatic 34, 3) := by decide +kernel
theorem dX1_putsOut_119 : decode cX1_putsOut 119 = .ok (.ifCond .eq 5, 3) := by decide +kernel
theorem dX1_putsOut_122 : decode cX1_putsOut 122 = .ok (.iconst 1, 1) := by decide +kernel
theorem dX1_putsOut_123 : decode cX1_putsOut 123 = .ok (.ireturn, 1) := by decide +kernel
theorem dX1_putsOut_124 : decode cX1_putsOut 124 = .ok (.aload_n 0, 1) := by decide +kernel
theorem dX1_putsOut_125 : decode cX1_putsOut 125 = .ok (.getfield 9, 3) := by decide +kernel
theorem dX1_putsOut_128 : decode cX1_putsOut 128 = .ok (.iload 5, 2) := by decide +kernel
theorem dX1_putsOut_130 : decode cX1_putsOut 130 = .ok (.dup2, 1) := by decide +kernel
theorem dX1_putsOut_131 : decode cX1_putsOut 131 = .ok (.iaload, 1) := by decide +kernel
theorem dX1_putsOut_132 : decode cX1_putsOut 132 = .ok (.iconst 1, 1) := by decide +kernel
theorem dX1_putsOut_133 : decode cX1_putsOut 133 = .ok (.isub, 1) := by decide +kernel
theorem dX1_putsOut_134 : decode cX1_putsOut 134 = .ok (.iastore, 1) := by decide +kernel
theorem dX1_putsOut_135 : decode cX1_putsOut 135 = .ok (.iinc 5 1, 3) := by decide +kernel
theorem dX1_putsOut_138 : decode cX1_putsOut 138 = .ok (.goto (-117), 3) := by decide +kernel
theorem dX1_putsOut_141 : decode cX1_putsOut 141 = .ok (.iconst 0, 1) := by decide +kernel
theorem dX1_putsOut_142 : decode cX1_putsOut 142 = .ok (.ireturn, 1) := by decide +kernel
def frR (d : Nat) : Nat := d + 4
def loR (d : Nat) : Nat := d * 26 + 97
theorem frR_c {n d : Nat} (h : n ≤ 4) : n ≤ (rmz (frR d) (loR d)).frames := Nat.le_trans h (Nat.le_add_left _ _)
theorem loR_c {n d : Nat} (h : n ≤ 97) : n ≤ (rmz (frR d) (loR d)).locals := Nat.le_trans h (Nat.le_add_left _ _)
theorem frR_s (d : Nat) : frR d + 1 ≤ (rmz (frR (d + 1)) (loR (d + 1))).frames := by show d + _ + 1 ≤ d + 1 + _; omega
theorem loR_s (d : Nat) : 8 + (7 + 11) + loR d ≤ (rmz (frR (d + 1)) (loR (d + 1))).locals := by show 8 + (7 + 11) + (d * 26 + 97) ≤ (d + 1) * 26 + 97; omega
set_option maxRecDepth 20000 in
set_option maxHeartbeats 4000000 in
theorem wk_X1_putsOut_21 {Γ : GT} {a : Nat → Nat} {q : Nat → ClassId} {x2 : Int32} {x4 : Int32}   {REC : Int32 → Int32 → Int32 → Int32 → (Nat → Int32) → (Nat → Nat) → (Nat → Int32) → (Nat → Int32) → (Nat → Int32) → (Nat → Int32) → (Nat → Int32) → (Nat → Int32) → (Nat → Int32) → (Nat → Int32) → (Nat → Int32) → (Nat → Nat → Int64) → (Nat → Nat → Int32) → (Nat → Int32) → (Nat → Int32) → Int32 → Int32 → Int32 → Int32 → (Int32 → Int32 → (Nat → Int32) → (Nat → Nat) → (Nat → Int32) → (Nat → Int32) → (Nat → Int32) → (Nat → Int32) → (Nat → Int32) → (Nat → Int32) → (Nat → Int32) → (Nat → Int32) → (Nat → Int32) → (Nat → Nat → Int64) → (Nat → Nat → Int32) → (Nat → Int32) → (Nat → Int32) → Int32 → Int32 → Int32 → Int32 → Prop) → Prop} {K : Int32 → Int32 → (Nat → Int32) → (Nat → Nat) → (Nat → Int32) → (Nat → Int32) → (Nat → Int32) → (Nat → Int32) → (Nat → Int32) → (Nat → Int32) → (Nat → Int32) → (Nat → Int32) → (Nat → Int32) → (Nat → Nat → Int64) → (Nat → Nat → Int32) → (Nat → Int32) → (Nat → Int32) → Int32 → Int32 → Int32 → Int32 → Prop} {X : Int32 → (Nat → Int32) → (Nat → Nat) → (Nat → Int32) → (Nat → Int32) → (Nat → Int32) → (Nat → Int32) → (Nat → Int32) → (Nat → Int32) → (Nat → Int32) → (Nat → Int32) → (Nat → Int32) → (Nat → Nat → Int64) → (Nat → Nat → Int32) → (Nat → Int32) → (Nat → Int32) → Int32 → Int32 → Int32 → Int32 → Prop} {d : Nat} (g : gd Γ cX1_putsOut RX1 7 (rmz (frR (d + 1)) (loR (d + 1))) q) (hret : rtZ_20 Γ cX1_putsOut 7 (fun (sz : Int32) (pr : Nat → Int32) (pm : Nat → Nat) (kv : Nat → Int32) (kn : Nat → Int32) (kr : Nat → Int32) (kt : Nat → Int32) (kb : Nat → Int32) (ks : Nat → Int32) (kj : Nat → Int32) (kw : Nat → Int32) (kg : Nat → Int32) (wd : Nat → Nat → Int64) (fw : Nat → Nat → Int32) (ad : Nat → Int32) (bk : Nat → Int32) (md : Int32) (cr : Int32) (ow : Int32) (hd : Int32) => (cgW a q sz pr pm kv kn kr kt kb ks kj kw kg wd fw ad bk md cr ow hd)) K) (hX : ∀ (sz : Int32) (pr : Nat → Int32) (pm : Nat → Nat) (kv : Nat → Int32) (kn : Nat → Int32) (kr : Nat → Int32) (kt : Nat → Int32) (kb : Nat → Int32) (ks : Nat → Int32) (kj : Nat → Int32) (kw : Nat → Int32) (kg : Nat → Int32) (wd : Nat → Nat → Int64) (fw : Nat → Nat → Int32) (ad : Nat → Int32) (bk : Nat → Int32) (md : Int32) (cr : Int32) (ow : Int32) (hd : Int32) , X sz pr pm kv kn kr kt kb ks kj kw kg wd fw ad bk md cr ow hd → jw Γ 7 0 0 (cgW a q sz pr pm kv kn kr kt kb ks kj kw kg wd fw ad bk md cr ow hd) [] [] 141) (hrec : ∀ {x2' : Int32} {x3' : Int32} {x4' : Int32} {sz' : Int32} {pr' : Nat → Int32} {pm' : Nat → Nat} {kv' : Nat → Int32} {kn' : Nat → Int32} {kr' : Nat → Int32} {kt' : Nat → Int32} {kb' : Nat → Int32} {ks' : Nat → Int32} {kj' : Nat → Int32} {kw' : Nat → Int32} {kg' : Nat → Int32} {wd' : Nat → Nat → Int64} {fw' : Nat → Nat → Int32} {ad' : Nat → Int32} {bk' : Nat → Int32} {md' : Int32} {cr' : Int32} {ow' : Int32} {hd' : Int32} {K' : Int32 → Int32 → (Nat → Int32) → (Nat → Nat) → (Nat → Int32) → (Nat → Int32) → (Nat → Int32) → (Nat → Int32) → (Nat → Int32) → (Nat → Int32) → (Nat → Int32) → (Nat → Int32) → (Nat → Int32) → (Nat → Nat → Int64) → (Nat → Nat → Int32) → (Nat → Int32) → (Nat → Int32) → Int32 → Int32 → Int32 → Int32 → Prop}, REC x2' x3' x4' sz' pr' pm' kv' kn' kr' kt' kb' ks' kj' kw' kg' wd' fw' ad' bk' md' cr' ow' hd' K' → ctZ_20 q yX1_putsOut cX1_putsOut 7 (frR d) (loR d) [.ref (a 8), .ref (a 1), .int x2', .int x3', .int x4'] (cgW a q sz' pr' pm' kv' kn' kr' kt' kb' ks' kj' kw' kg' wd' fw' ad' bk' md' cr' ow' hd') (fun (sz : Int32) (pr : Nat → Int32) (pm : Nat → Nat) (kv : Nat → Int32) (kn : Nat → Int32) (kr : Nat → Int32) (kt : Nat → Int32) (kb : Nat → Int32) (ks : Nat → Int32) (kj : Nat → Int32) (kw : Nat → Int32) (kg : Nat → Int32) (wd : Nat → Nat → Int64) (fw : Nat → Nat → Int32) (ad : Nat → Int32) (bk : Nat → Int32) (md : Int32) (cr : Int32) (ow : Int32) (hd : Int32) => (cgW a q sz pr pm kv kn kr kt kb ks kj kw kg wd fw ad bk md cr ow hd)) K') :
    ∀ (n : Nat) (x5 : Int32) (sz : Int32) (pr : Nat → Int32) (pm : Nat → Nat) (kv : Nat → Int32) (kn : Nat → Int32) (kr : Nat → Int32) (kt : Nat → Int32) (kb : Nat → Int32) (ks : Nat → Int32) (kj : Nat → Int32) (kw : Nat → Int32) (kg : Nat → Int32) (wd : Nat → Nat → Int64) (fw : Nat → Nat → Int32) (ad : Nat → Int32) (bk : Nat → Int32) (md : Int32) (cr : Int32) (ow : Int32) (hd : Int32) , wp_X1_putsOut_21 REC x2 x4 K X n x5 sz pr pm kv kn kr kt kb ks kj kw kg wd fw ad bk md cr ow hd → jw Γ 7 0 0 (cgW a q sz pr pm kv kn kr kt kb ks kj kw kg wd fw ad bk md cr ow hd) [(0, .ref (a 8)), (1, .ref (a 1)), (2, .int x2), (4, .int x4), (5, .int x5)] [] 21 := by
  intro n
  induction n with
  | zero =>
    intro _ _ _ _ _ _ _ _ _ _ _ _ _ _ _ _ _ _ _ _ _ h
    exact False.elim h
  | succ n ih =>
    intro x5 sz pr pm kv kn kr kt kb ks kj kw kg wd fw ad bk md cr ow hd h
    unfold wp_X1_putsOut_21 at h
    refine j_iload g 4 rfl dX1_putsOut_21 ?_
    refine j_aload_n g 1 rfl dX1_putsOut_23 ?_
    refine j_get g fl_X1_42 1 cg_1 rfl dX1_putsOut_24 ?_
    refine j_icmp_ge g dX1_putsOut_27 (tgt := 141) (by decide) (fun c1 => ?_) (fun c1 => ?_)
    · replace h := h.1 c1
      refine j_sub [] rfl ?_
      exact hX sz pr pm kv kn kr kt kb ks kj kw kg wd fw ad bk md cr ow hd h
    replace h := h.2 c1
    refine j_aload_n g 1 rfl dX1_putsOut_30 ?_
    refine j_get g fl_X1_46 1 cg_1 rfl dX1_putsOut_31 ?_
    refine j_iload g 4 rfl dX1_putsOut_34 ?_
    obtain ⟨hv2, h⟩ := h
    refine j_aald g 2 3 cg_2 rfl (by decide) hv2 rfl dX1_putsOut_36 ?_
    refine j_astore g (lv' := [(6, .ref (a (11 + x5.toNatClampNeg))), (0, .ref (a 8)), (1, .ref (a 1)), (2, .int x2), (4, .int x4), (5, .int x5)]) (by decide) rfl dX1_putsOut_37 ?_
    refine j_aload g 0 rfl dX1_putsOut_39 ?_
    refine j_callVZ_0 g (As := []) (st := []) (c_X0_gives (vp_lt hv2) h) cl_X1_50 (11 + x5.toNatClampNeg) 0 (cg_K (vp_lt hv2)) rfl rfl (frR_c (by decide)) (loR_c (by decide)) (Nat.zero_le _) (Nat.zero_le _) rfl rfl (Nat.le_of_ble_eq_true rfl) dX1_putsOut_41 (fun r_3  hz_3 h => ?_)
    refine j_if_eq g dX1_putsOut_44 (tgt := 135) (by decide) (fun c4 => ?_) (fun c4 => ?_)
    · replace h := h.1 c4
      refine j_iinc g 5 (n := 1) (v := x5 + 1) (lv' := [(5, .int (x5 + 1)), (6, .ref (a (11 + x5.toNatClampNeg))), (0, .ref (a 8)), (1, .ref (a 1)), (2, .int x2), (4, .int x4)]) rfl rfl (by decide) rfl dX1_putsOut_135 ?_
      refine j_goto g dX1_putsOut_138 (tgt := 21) (by decide) ?_
      refine j_sub [2, 3, 4, 5, 0] rfl ?_
      exact ih (x5 + 1) sz pr pm kv kn kr kt kb ks kj kw kg wd fw ad bk md cr ow hd h
    replace h := h.2 c4
    refine j_aload_n g 1 rfl dX1_putsOut_47 ?_
    refine j_get g fl_X1_9 8 cg_8 rfl dX1_putsOut_48 ?_
    refine j_iload g 5 rfl dX1_putsOut_51 ?_
    obtain ⟨hv5, h⟩ := h
    refine j_iald g 9 cg_9 hv5 dX1_putsOut_53 ?_
    refine j_aload g 0 rfl dX1_putsOut_54 ?_
    refine j_callVI_0 g (As := []) (st := [.int (ad x5.toNatClampNeg)]) (c_X0_free (vp_lt hv2) h) cl_X1_56 (11 + x5.toNatClampNeg) 0 (cg_K (vp_lt hv2)) rfl rfl (frR_c (by decide)) (loR_c (by decide)) (Nat.zero_le _) (Nat.zero_le _) rfl rfl (Nat.le_of_ble_eq_true rfl) dX1_putsOut_56 (fun r_6   h => ?_)
    refine j_icmp_ge g dX1_putsOut_59 (tgt := 135) (by decide) (fun c7 => ?_) (fun c7 => ?_)
    · replace h := h.1 c7
      refine j_iinc g 5 (n := 1) (v := x5 + 1) (lv' := [(5, .int (x5 + 1)), (6, .ref (a (11 + x5.toNatClampNeg))), (0, .ref (a 8)), (1, .ref (a 1)), (2, .int x2), (4, .int x4)]) rfl rfl (by decide) rfl dX1_putsOut_135 ?_
      refine j_goto g dX1_putsOut_138 (tgt := 21) (by decide) ?_
      refine j_sub [2, 3, 4, 5, 0] rfl ?_
      exact ih (x5 + 1) sz pr pm kv kn kr kt kb ks kj kw kg wd fw ad bk md cr ow hd h
    replace h := h.2 c7
    refine j_aload_n g 1 rfl dX1_putsOut_62 ?_
    refine j_get g fl_X1_9 8 cg_8 rfl dX1_putsOut_63 ?_
    refine j_iload g 5 rfl dX1_putsOut_66 ?_
    refine j_dup2 g rfl rfl dX1_putsOut_68 ?_
    obtain ⟨hv8, h⟩ := h
    refine j_iald g 9 cg_9 hv8 dX1_putsOut_69 ?_
    refine j_iconst g (v := 1) (by decide) dX1_putsOut_70 ?_
    refine j_iadd g dX1_putsOut_71 ?_
    obtain ⟨hv9, h⟩ := h
    refine j_iast g 9 cg_9 hv9 (ws' := (cgW a q sz pr pm kv kn kr kt kb ks kj kw kg wd fw (upd ad x5.toNatClampNeg ((ad x5.toNatClampNeg) + (1 : Int32))) bk md cr ow hd)) rfl dX1_putsOut_72 ?_
    refine j_aload_n g 1 rfl dX1_putsOut_73 ?_
    refine j_get g fl_X1_17 8 cg_8 rfl dX1_putsOut_74 ?_
    refine j_iload_n g 3 rfl dX1_putsOut_77 ?_
    refine j_iconst g (v := 1) (by decide) dX1_putsOut_78 ?_
    refine j_iadd g dX1_putsOut_79 ?_
    obtain ⟨hv10, h⟩ := h
    refine j_aald g 10 4 cg_10 rfl (by decide) hv10 rfl dX1_putsOut_80 ?_
    refine j_aload_n g 1 rfl dX1_putsOut_81 ?_
    refine j_get g fl_X1_17 8 cg_8 rfl dX1_putsOut_82 ?_
    refine j_iload_n g 3 rfl dX1_putsOut_85 ?_
    obtain ⟨hv11, h⟩ := h
    refine j_aald g 10 4 cg_10 rfl (by decide) hv11 rfl dX1_putsOut_86 ?_
    refine j_callVV_1 g (As := [.ref (a (17 + (x2.toNatClampNeg + 1)))]) (st := []) (c_X2_copyOf (Nat.succ_lt_succ (vp_lt hv10)) (Nat.succ_lt_succ (vp_lt hv11)) h) cl_X1_60 (17 + ((x2 + (1 : Int32)).toNatClampNeg + 1)) 2 (cg_S (Nat.succ_lt_succ (vp_lt hv10))) rfl rfl (frR_c (by decide)) (loR_c (by decide)) (Nat.zero_le _) (Nat.zero_le _) rfl rfl (Nat.le_of_ble_eq_true rfl) dX1_putsOut_87 (fun wd_12 h => ?_)
    refine j_ws (ws' := (cgW a q sz pr pm kv kn kr kt kb ks kj kw kg wd_12 fw (upd ad x5.toNatClampNeg ((ad x5.toNatClampNeg) + (1 : Int32))) bk md cr ow hd)) rfl ?_
    refine j_aload_n g 1 rfl dX1_putsOut_90 ?_
    refine j_get g fl_X1_17 8 cg_8 rfl dX1_putsOut_91 ?_
    refine j_iload_n g 3 rfl dX1_putsOut_94 ?_
    refine j_iconst g (v := 1) (by decide) dX1_putsOut_95 ?_
    refine j_iadd g dX1_putsOut_96 ?_
    obtain ⟨hv13, h⟩ := h
    refine j_aald g 10 4 cg_10 rfl (by decide) hv13 rfl dX1_putsOut_97 ?_
    refine j_aload g 0 rfl dX1_putsOut_98 ?_
    refine j_get g fl_X1_64 (11 + x5.toNatClampNeg) (cg_K (vp_lt hv2)) rfl dX1_putsOut_100 ?_
    refine j_iconst g (v := 1) (by decide) dX1_putsOut_103 ?_
    refine j_callVV_1 g (As := [.int (kv x5.toNatClampNeg), .int (1 : Int32)]) (st := []) (c_X2_addCoins (Nat.succ_lt_succ (vp_lt hv13)) h) cl_X1_67 (17 + ((x2 + (1 : Int32)).toNatClampNeg + 1)) 2 (cg_S (Nat.succ_lt_succ (vp_lt hv13))) rfl rfl (frR_c (by decide)) (loR_c (by decide)) (Nat.zero_le _) (Nat.zero_le _) rfl rfl (Nat.le_of_ble_eq_true rfl) dX1_putsOut_104 (fun wd_14 h => ?_)
    refine j_ws (ws' := (cgW a q sz pr pm kv kn kr kt kb ks kj kw kg wd_14 fw (upd ad x5.toNatClampNeg ((ad x5.toNatClampNeg) + (1 : Int32))) bk md cr ow hd)) rfl ?_
    refine j_aload_n g 1 rfl dX1_putsOut_107 ?_
    refine j_aload_n g 2 rfl dX1_putsOut_108 ?_
    refine j_iload_n g 3 rfl dX1_putsOut_109 ?_
    refine j_iconst g (v := 1) (by decide) dX1_putsOut_110 ?_
    refine j_iadd g dX1_putsOut_111 ?_
    refine j_iload g 5 rfl dX1_putsOut_112 ?_
    refine j_iload g 4 rfl dX1_putsOut_114 ?_
    refine j_callSZ_20 g (As := [.ref (a 8), .ref (a 1), .int (x2 + (1 : Int32)), .int x5, .int x4]) (st := []) (hrec h) cl_X1_34 (frR_s d) (loR_s d) (Nat.zero_le _) (Nat.zero_le _) rfl rfl (Nat.le_of_ble_eq_true rfl) dX1_putsOut_116 (fun r_15 sz_15 pr_15 pm_15 kv_15 kn_15 kr_15 kt_15 kb_15 ks_15 kj_15 kw_15 kg_15 wd_15 fw_15 ad_15 bk_15 md_15 cr_15 ow_15 hd_15 hz_15 h => ?_)
    refine j_ws (ws' := (cgW a q sz_15 pr_15 pm_15 kv_15 kn_15 kr_15 kt_15 kb_15 ks_15 kj_15 kw_15 kg_15 wd_15 fw_15 ad_15 bk_15 md_15 cr_15 ow_15 hd_15)) rfl ?_
    refine j_if_eq g dX1_putsOut_119 (tgt := 124) (by decide) (fun c16 => ?_) (fun c16 => ?_)
    rotate_left
    · replace h := h.2 c16
      refine j_iconst g (v := 1) (by decide) dX1_putsOut_122 ?_
      exact hret.go dX1_putsOut_123 (Or.inr rfl) h
    replace h := h.1 c16
    refine j_aload_n g 1 rfl dX1_putsOut_124 ?_
    refine j_get g fl_X1_9 8 cg_8 rfl dX1_putsOut_125 ?_
    refine j_iload g 5 rfl dX1_putsOut_128 ?_
    refine j_dup2 g rfl rfl dX1_putsOut_130 ?_
    obtain ⟨hv17, h⟩ := h
    refine j_iald g 9 cg_9 hv17 dX1_putsOut_131 ?_
    refine j_iconst g (v := 1) (by decide) dX1_putsOut_132 ?_
    refine j_isub g dX1_putsOut_133 ?_
    obtain ⟨hv18, h⟩ := h
    refine j_iast g 9 cg_9 hv18 (ws' := (cgW a q sz_15 pr_15 pm_15 kv_15 kn_15 kr_15 kt_15 kb_15 ks_15 kj_15 kw_15 kg_15 wd_15 fw_15 (upd ad_15 x5.toNatClampNeg ((ad_15 x5.toNatClampNeg) - (1 : Int32))) bk_15 md_15 cr_15 ow_15 hd_15)) rfl dX1_putsOut_134 ?_
    refine j_iinc g 5 (n := 1) (v := x5 + 1) (lv' := [(5, .int (x5 + 1)), (6, .ref (a (11 + x5.toNatClampNeg))), (0, .ref (a 8)), (1, .ref (a 1)), (2, .int x2), (4, .int x4)]) rfl rfl (by decide) rfl dX1_putsOut_135 ?_
    refine j_goto g dX1_putsOut_138 (tgt := 21) (by decide) ?_
    refine j_sub [2, 3, 4, 5, 0] rfl ?_
    exact ih (x5 + 1) sz_15 pr_15 pm_15 kv_15 kn_15 kr_15 kt_15 kb_15 ks_15 kj_15 kw_15 kg_15 wd_15 fw_15 (upd ad_15 x5.toNatClampNeg ((ad_15 x5.toNatClampNeg) - (1 : Int32))) bk_15 md_15 cr_15 ow_15 hd_15 h
set_option maxRecDepth 20000 in
set_option maxHeartbeats 4000000 in
theorem c_X1_putsOut {a : Nat → Nat} {q : Nat → ClassId} : ∀ (d : Nat) {x2 : Int32} {x3 : Int32} {x4 : Int32} {sz : Int32} {pr : Nat → Int32} {pm : Nat → Nat} {kv : Nat → Int32} {kn : Nat → Int32} {kr : Nat → Int32} {kt : Nat → Int32} {kb : Nat → Int32} {ks : Nat → Int32} {kj : Nat → Int32} {kw : Nat → Int32} {kg : Nat → Int32} {wd : Nat → Nat → Int64} {fw : Nat → Nat → Int32} {ad : Nat → Int32} {bk : Nat → Int32} {md : Int32} {cr : Int32} {ow : Int32} {hd : Int32} {K : Int32 → Int32 → (Nat → Int32) → (Nat → Nat) → (Nat → Int32) → (Nat → Int32) → (Nat → Int32) → (Nat → Int32) → (Nat → Int32) → (Nat → Int32) → (Nat → Int32) → (Nat → Int32) → (Nat → Int32) → (Nat → Nat → Int64) → (Nat → Nat → Int32) → (Nat → Int32) → (Nat → Int32) → Int32 → Int32 → Int32 → Int32 → Prop} (h : wp_X1_putsOut d x2 x3 x4 sz pr pm kv kn kr kt kb ks kj kw kg wd fw ad bk md cr ow hd K), ctZ_20 q yX1_putsOut cX1_putsOut 7 (frR d) (loR d) [.ref (a 8), .ref (a 1), .int x2, .int x3, .int x4] (cgW a q sz pr pm kv kn kr kt kb ks kj kw kg wd fw ad bk md cr ow hd) (fun (sz : Int32) (pr : Nat → Int32) (pm : Nat → Nat) (kv : Nat → Int32) (kn : Nat → Int32) (kr : Nat → Int32) (kt : Nat → Int32) (kb : Nat → Int32) (ks : Nat → Int32) (kj : Nat → Int32) (kw : Nat → Int32) (kg : Nat → Int32) (wd : Nat → Nat → Int64) (fw : Nat → Nat → Int32) (ad : Nat → Int32) (bk : Nat → Int32) (md : Int32) (cr : Int32) (ow : Int32) (hd : Int32) => (cgW a q sz pr pm kv kn kr kt kb ks kj kw kg wd fw ad bk md cr ow hd)) K := by
  intro d
  induction d with
  | zero => intro _ _ _ _ _ _ _ _ _ _ _ _ _ _ _ _ _ _ _ _ _ _ _ _ h; exact False.elim h
  | succ d ih =>
    intro x2 x3 x4 sz pr pm kv kn kr kt kb ks kj kw kg wd fw ad bk md cr ow hd K h
    refine met_Z_20 (by decide) (Nat.le_of_ble_eq_true rfl) (fun Γ g hret => ?_)
    unfold wp_X1_putsOut at h
    show jw Γ 7 0 0 (cgW a q sz pr pm kv kn kr kt kb ks kj kw kg wd fw ad bk md cr ow hd) [(0, .ref (a 8)), (1, .ref (a 1)), (2, .int x2), (3, .int x3), (4, .int x4)] [] 0
    have hrec := @ih
    refine j_iload_n g 2 rfl dX1_putsOut_0 ?_
    refine j_iload g 4 rfl dX1_putsOut_1 ?_
    refine j_icmp_ge g dX1_putsOut_3 (tgt := 11) (by decide) (fun c1 => ?_) (fun c1 => ?_)
    · replace h := h.1 c1
      refine j_aload_n g 0 rfl dX1_putsOut_11 ?_
      refine j_aload_n g 1 rfl dX1_putsOut_12 ?_
      refine j_iload_n g 2 rfl dX1_putsOut_13 ?_
      refine j_callVZ_0 g (As := [.ref (a 1), .int x2]) (st := []) (c_X1_isOut  h) cl_X1_38 8 1 cg_8 rfl rfl (frR_c (by decide)) (loR_c (by decide)) (Nat.zero_le _) (Nat.zero_le _) rfl rfl (Nat.le_of_ble_eq_true rfl) dX1_putsOut_14 (fun r_2  hz_2 h => ?_)
      exact hret.go dX1_putsOut_17 hz_2 h
    replace h := h.2 c1
    refine j_iload_n g 2 rfl dX1_putsOut_6 ?_
    refine j_iconst g (v := 4) (by decide) dX1_putsOut_7 ?_
    refine j_icmp_lt g dX1_putsOut_8 (tgt := 18) (by decide) (fun c3 => ?_) (fun c3 => ?_)
    rotate_left
    · replace h := h.2 c3
      refine j_aload_n g 0 rfl dX1_putsOut_11 ?_
      refine j_aload_n g 1 rfl dX1_putsOut_12 ?_
      refine j_iload_n g 2 rfl dX1_putsOut_13 ?_
      refine j_callVZ_0 g (As := [.ref (a 1), .int x2]) (st := []) (c_X1_isOut  h) cl_X1_38 8 1 cg_8 rfl rfl (frR_c (by decide)) (loR_c (by decide)) (Nat.zero_le _) (Nat.zero_le _) rfl rfl (Nat.le_of_ble_eq_true rfl) dX1_putsOut_14 (fun r_5  hz_5 h => ?_)
      exact hret.go dX1_putsOut_17 hz_5 h
    replace h := h.1 c3
    refine j_iload_n g 3 rfl dX1_putsOut_18 ?_
    refine j_istore g (lv' := [(5, .int x3), (0, .ref (a 8)), (1, .ref (a 1)), (2, .int x2), (3, .int x3), (4, .int x4)]) (by decide) rfl dX1_putsOut_19 ?_
    obtain ⟨n4, h⟩ := h
    refine j_sub [1, 2, 3, 5, 0] rfl ?_
    refine wk_X1_putsOut_21  g hret (fun sz_4 pr_4 pm_4 kv_4 kn_4 kr_4 kt_4 kb_4 ks_4 kj_4 kw_4 kg_4 wd_4 fw_4 ad_4 bk_4 md_4 cr_4 ow_4 hd_4 h => ?_) hrec n4 x3 sz pr pm kv kn kr kt kb ks kj kw kg wd fw ad bk md cr ow hd h
    refine j_iconst g (v := 0) (by decide) dX1_putsOut_141 ?_
    exact hret.go dX1_putsOut_142 (Or.inl rfl) h

set_option maxRecDepth 20000 in
def wp_X1_fewest_13 (x2 : Int32)  (K : Int32 → Int32 → (Nat → Int32) → (Nat → Nat) → (Nat → Int32) → (Nat → Int32) → (Nat → Int32) → (Nat → Int32) → (Nat → Int32) → (Nat → Int32) → (Nat → Int32) → (Nat → Int32) → (Nat → Int32) → (Nat → Nat → Int64) → (Nat → Nat → Int32) → (Nat → Int32) → (Nat → Int32) → Int32 → Int32 → Int32 → Int32 → Prop) (X : Int32 → (Nat → Int32) → (Nat → Nat) → (Nat → Int32) → (Nat → Int32) → (Nat → Int32) → (Nat → Int32) → (Nat → Int32) → (Nat → Int32) → (Nat → Int32) → (Nat → Int32) → (Nat → Int32) → (Nat → Nat → Int64) → (Nat → Nat → Int32) → (Nat → Int32) → (Nat → Int32) → Int32 → Int32 → Int32 → Int32 → Prop) : Nat → Int32 → Int32 → (Nat → Int32) → (Nat → Nat) → (Nat → Int32) → (Nat → Int32) → (Nat → Int32) → (Nat → Int32) → (Nat → Int32) → (Nat → Int32) → (Nat → Int32) → (Nat → Int32) → (Nat → Int32) → (Nat → Nat → Int64) → (Nat → Nat → Int32) → (Nat → Int32) → (Nat → Int32) → Int32 → Int32 → Int32 → Int32 → Prop
  | 0, _, _, _, _, _, _, _, _, _, _, _, _, _, _, _, _, _, _, _, _, _ => False
  | n + 1, x3, sz, pr, pm, kv, kn, kr, kt, kb, ks, kj, kw, kg, wd, fw, ad, bk, md, cr, ow, hd => ((x2 < x3 → X sz pr pm kv kn kr kt kb ks kj kw kg wd fw ad bk md cr ow hd) ∧ (¬ x2 < x3 → (((4 : Int32) < x3 → X sz pr pm kv kn kr kt kb ks kj kw kg wd fw ad bk md cr ow hd) ∧ (¬ (4 : Int32) < x3 → wp_X1_putsOut 6 (0 : Int32) (0 : Int32) x3 sz pr pm kv kn kr kt kb ks kj kw kg wd fw (fillI ad 6 (0 : Int32)) bk md cr ow hd (fun (r_3 : Int32) (sz_3 : Int32) (pr_3 : Nat → Int32) (pm_3 : Nat → Nat) (kv_3 : Nat → Int32) (kn_3 : Nat → Int32) (kr_3 : Nat → Int32) (kt_3 : Nat → Int32) (kb_3 : Nat → Int32) (ks_3 : Nat → Int32) (kj_3 : Nat → Int32) (kw_3 : Nat → Int32) (kg_3 : Nat → Int32) (wd_3 : Nat → Nat → Int64) (fw_3 : Nat → Nat → Int32) (ad_3 : Nat → Int32) (bk_3 : Nat → Int32) (md_3 : Int32) (cr_3 : Int32) (ow_3 : Int32) (hd_3 : Int32) => ((r_3 = 0 → wp_X1_fewest_13 x2 K X n (x3 + 1) sz_3 pr_3 pm_3 kv_3 kn_3 kr_3 kt_3 kb_3 ks_3 kj_3 kw_3 kg_3 wd_3 fw_3 ad_3 bk_3 md_3 cr_3 ow_3 hd_3) ∧ (¬ r_3 = 0 → K x3 sz_3 pr_3 pm_3 kv_3 kn_3 kr_3 kt_3 kb_3 ks_3 kj_3 kw_3 kg_3 wd_3 fw_3 ad_3 bk_3 md_3 cr_3 ow_3 hd_3)))))))
set_option maxRecDepth 20000 in
def wp_X1_fewest (x2 : Int32) (sz : Int32) (pr : Nat → Int32) (pm : Nat → Nat) (kv : Nat → Int32) (kn : Nat → Int32) (kr : Nat → Int32) (kt : Nat → Int32) (kb : Nat → Int32) (ks : Nat → Int32) (kj : Nat → Int32) (kw : Nat → Int32) (kg : Nat → Int32) (wd : Nat → Nat → Int64) (fw : Nat → Nat → Int32) (ad : Nat → Int32) (bk : Nat → Int32) (md : Int32) (cr : Int32) (ow : Int32) (hd : Int32) (K : Int32 → Int32 → (Nat → Int32) → (Nat → Nat) → (Nat → Int32) → (Nat → Int32) → (Nat → Int32) → (Nat → Int32) → (Nat → Int32) → (Nat → Int32) → (Nat → Int32) → (Nat → Int32) → (Nat → Int32) → (Nat → Nat → Int64) → (Nat → Nat → Int32) → (Nat → Int32) → (Nat → Int32) → Int32 → Int32 → Int32 → Int32 → Prop) : Prop :=
  (vp_in (0 : Int32) 5 ∧ wp_X3_collect ((0 : Int32).toNatClampNeg + 1) (0 : Int32) sz kv kn kt ks wd (fun (wd_2 : Nat → Nat → Int64) => ∃ n3 : Nat, wp_X1_fewest_13 x2 K (fun (sz_3 : Int32) (pr_3 : Nat → Int32) (pm_3 : Nat → Nat) (kv_3 : Nat → Int32) (kn_3 : Nat → Int32) (kr_3 : Nat → Int32) (kt_3 : Nat → Int32) (kb_3 : Nat → Int32) (ks_3 : Nat → Int32) (kj_3 : Nat → Int32) (kw_3 : Nat → Int32) (kg_3 : Nat → Int32) (wd_3 : Nat → Nat → Int64) (fw_3 : Nat → Nat → Int32) (ad_3 : Nat → Int32) (bk_3 : Nat → Int32) (md_3 : Int32) (cr_3 : Int32) (ow_3 : Int32) (hd_3 : Int32) => K (-1 : Int32) sz_3 pr_3 pm_3 kv_3 kn_3 kr_3 kt_3 kb_3 ks_3 kj_3 kw_3 kg_3 wd_3 fw_3 ad_3 bk_3 md_3 cr_3 ow_3 hd_3) n3 (0 : Int32) sz pr pm kv kn kr kt kb ks kj kw kg wd_2 fw ad bk md cr ow hd))
theorem dX1_fewest_0 : decode cX1_fewest 0 = .ok (.aload_n 1, 1) := by decide +kernel
theorem dX1_fewest_1 : decode cX1_fewest 1 = .ok (.aload_n 0, 1) := by decide +kernel
theorem dX1_fewest_2 : decode cX1_fewest 2 = .ok (.getfield 17, 3) := by decide +kernel
theorem dX1_fewest_5 : decode cX1_fewest 5 = .ok (.iconst 0, 1) := by decide +kernel
theorem dX1_fewest_6 : decode cX1_fewest 6 = .ok (.aaload, 1) := by decide +kernel
theorem dX1_fewest_7 : decode cX1_fewest 7 = .ok (.iconst 0, 1) := by decide +kernel
theorem dX1_fewest_8 : decode cX1_fewest 8 = .ok (.invokevirtual 22, 3) := by decide +kernel
theorem dX1_fewest_11 : decode cX1_fewest 11 = .ok (.iconst 0, 1) := by decide +kernel
theorem dX1_fewest_12 : decode cX1_fewest 12 = .ok (.istore_n 3, 1) := by decide +kernel
theorem dX1_fewest_13 : decode cX1_fewest 13 = .ok (.iload_n 3, 1) := by decide +kernel
theorem dX1_fewest_14 : decode cX1_fewest 14 = .ok (.iload_n 2, 1) := by decide +kernel
theorem dX1_fewest_15 : decode cX1_fewest 15 = .ok (.if_icmp .gt 35, 3) := by decide +kernel
theorem dX1_fewest_18 : decode cX1_fewest 18 = .ok (.iload_n 3, 1) := by decide +kernel
theorem dX1_fewest_19 : decode cX1_fewest 19 = .ok (.iconst 4, 1) := by decide +kernel
theorem dX1_fewest_20 : decode cX1_fewest 20 = .ok (.if_icmp .gt 30, 3) := by decide +kernel
theorem dX1_fewest_23 : decode cX1_fewest 23 = .ok (.aload_n 0, 1) := by decide +kernel
theorem dX1_fewest_24 : decode cX1_fewest 24 = .ok (.getfield 9, 3) := by decide +kernel
theorem dX1_fewest_27 : decode cX1_fewest 27 = .ok (.iconst 0, 1) := by decide +kernel
theorem dX1_fewest_28 : decode cX1_fewest 28 = .ok (.invokestatic 28, 3) := by decide +kernel
theorem dX1_fewest_31 : decode cX1_fewest 31 = .ok (.aload_n 0, 1) := by decide +kernel
theorem dX1_fewest_32 : decode cX1_fewest 32 = .ok (.aload_n 1, 1) := by decide +kernel
theorem dX1_fewest_33 : decode cX1_fewest 33 = .ok (.iconst 0, 1) := by decide +kernel
theorem dX1_fewest_34 : decode cX1_fewest 34 = .ok (.iconst 0, 1) := by decide +kernel
theorem dX1_fewest_35 : decode cX1_fewest 35 = .ok (.iload_n 3, 1) := by decide +kernel
theorem dX1_fewest_36 : decode cX1_fewest 36 = .ok (.invokestatic 34, 3) := by decide +kernel
theorem dX1_fewest_39 : decode cX1_fewest 39 = .ok (.ifCond .eq 5, 3) := by decide +kernel
theorem dX1_fewest_42 : decode cX1_fewest 42 = .ok (.iload_n 3, 1) := by decide +kernel
theorem dX1_fewest_43 : decode cX1_fewest 43 = .ok (.ireturn, 1) := by decide +kernel
theorem dX1_fewest_44 : decode cX1_fewest 44 = .ok (.iinc 3 1, 3) := by decide +kernel
theorem dX1_fewest_47 : decode cX1_fewest 47 = .ok (.goto (-34), 3) := by decide +kernel
theorem dX1_fewest_50 : decode cX1_fewest 50 = .ok (.iconst (-1), 1) := by decide +kernel
theorem dX1_fewest_51 : decode cX1_fewest 51 = .ok (.ireturn, 1) := by decide +kernel
set_option maxRecDepth 20000 in
set_option maxHeartbeats 4000000 in
theorem wk_X1_fewest_13 {Γ : GT} {a : Nat → Nat} {q : Nat → ClassId} {x2 : Int32}   {K : Int32 → Int32 → (Nat → Int32) → (Nat → Nat) → (Nat → Int32) → (Nat → Int32) → (Nat → Int32) → (Nat → Int32) → (Nat → Int32) → (Nat → Int32) → (Nat → Int32) → (Nat → Int32) → (Nat → Int32) → (Nat → Nat → Int64) → (Nat → Nat → Int32) → (Nat → Int32) → (Nat → Int32) → Int32 → Int32 → Int32 → Int32 → Prop} {X : Int32 → (Nat → Int32) → (Nat → Nat) → (Nat → Int32) → (Nat → Int32) → (Nat → Int32) → (Nat → Int32) → (Nat → Int32) → (Nat → Int32) → (Nat → Int32) → (Nat → Int32) → (Nat → Int32) → (Nat → Nat → Int64) → (Nat → Nat → Int32) → (Nat → Int32) → (Nat → Int32) → Int32 → Int32 → Int32 → Int32 → Prop} (g : gd Γ cX1_fewest RX1 4 (rmz 11 279) q) (hret : rtI_20 Γ cX1_fewest 4 (fun (sz : Int32) (pr : Nat → Int32) (pm : Nat → Nat) (kv : Nat → Int32) (kn : Nat → Int32) (kr : Nat → Int32) (kt : Nat → Int32) (kb : Nat → Int32) (ks : Nat → Int32) (kj : Nat → Int32) (kw : Nat → Int32) (kg : Nat → Int32) (wd : Nat → Nat → Int64) (fw : Nat → Nat → Int32) (ad : Nat → Int32) (bk : Nat → Int32) (md : Int32) (cr : Int32) (ow : Int32) (hd : Int32) => (cgW a q sz pr pm kv kn kr kt kb ks kj kw kg wd fw ad bk md cr ow hd)) K) (hX : ∀ (sz : Int32) (pr : Nat → Int32) (pm : Nat → Nat) (kv : Nat → Int32) (kn : Nat → Int32) (kr : Nat → Int32) (kt : Nat → Int32) (kb : Nat → Int32) (ks : Nat → Int32) (kj : Nat → Int32) (kw : Nat → Int32) (kg : Nat → Int32) (wd : Nat → Nat → Int64) (fw : Nat → Nat → Int32) (ad : Nat → Int32) (bk : Nat → Int32) (md : Int32) (cr : Int32) (ow : Int32) (hd : Int32) , X sz pr pm kv kn kr kt kb ks kj kw kg wd fw ad bk md cr ow hd → jw Γ 4 0 0 (cgW a q sz pr pm kv kn kr kt kb ks kj kw kg wd fw ad bk md cr ow hd) [] [] 50) :
    ∀ (n : Nat) (x3 : Int32) (sz : Int32) (pr : Nat → Int32) (pm : Nat → Nat) (kv : Nat → Int32) (kn : Nat → Int32) (kr : Nat → Int32) (kt : Nat → Int32) (kb : Nat → Int32) (ks : Nat → Int32) (kj : Nat → Int32) (kw : Nat → Int32) (kg : Nat → Int32) (wd : Nat → Nat → Int64) (fw : Nat → Nat → Int32) (ad : Nat → Int32) (bk : Nat → Int32) (md : Int32) (cr : Int32) (ow : Int32) (hd : Int32) , wp_X1_fewest_13 x2 K X n x3 sz pr pm kv kn kr kt kb ks kj kw kg wd fw ad bk md cr ow hd → jw Γ 4 0 0 (cgW a q sz pr pm kv kn kr kt kb ks kj kw kg wd fw ad bk md cr ow hd) [(0, .ref (a 8)), (1, .ref (a 1)), (2, .int x2), (3, .int x3)] [] 13 := by
  intro n
  induction n with
  | zero =>
    intro _ _ _ _ _ _ _ _ _ _ _ _ _ _ _ _ _ _ _ _ _ h
    exact False.elim h
  | succ n ih =>
    intro x3 sz pr pm kv kn kr kt kb ks kj kw kg wd fw ad bk md cr ow hd h
    unfold wp_X1_fewest_13 at h
    refine j_iload_n g 3 rfl dX1_fewest_13 ?_
    refine j_iload_n g 2 rfl dX1_fewest_14 ?_
    refine j_icmp_gt g dX1_fewest_15 (tgt := 50) (by decide) (fun c1 => ?_) (fun c1 => ?_)
    · replace h := h.1 c1
      refine j_sub [] rfl ?_
      exact hX sz pr pm kv kn kr kt kb ks kj kw kg wd fw ad bk md cr ow hd h
    replace h := h.2 c1
    refine j_iload_n g 3 rfl dX1_fewest_18 ?_
    refine j_iconst g (v := 4) (by decide) dX1_fewest_19 ?_
    refine j_icmp_gt g dX1_fewest_20 (tgt := 50) (by decide) (fun c2 => ?_) (fun c2 => ?_)
    · replace h := h.1 c2
      refine j_sub [] rfl ?_
      exact hX sz pr pm kv kn kr kt kb ks kj kw kg wd fw ad bk md cr ow hd h
    replace h := h.2 c2
    refine j_aload_n g 0 rfl dX1_fewest_23 ?_
    refine j_get g fl_X1_9 8 cg_8 rfl dX1_fewest_24 ?_
    refine j_iconst g (v := 0) (by decide) dX1_fewest_27 ?_
    refine j_fillI g cl_X1_28 9 cg_9 (Nat.le_of_ble_eq_true rfl) (Nat.le_of_ble_eq_true rfl) (ws' := (cgW a q sz pr pm kv kn kr kt kb ks kj kw kg wd fw (fillI ad 6 (0 : Int32)) bk md cr ow hd)) rfl (Nat.le_of_ble_eq_true rfl) dX1_fewest_28 ?_
    refine j_aload_n g 0 rfl dX1_fewest_31 ?_
    refine j_aload_n g 1 rfl dX1_fewest_32 ?_
    refine j_iconst g (v := 0) (by decide) dX1_fewest_33 ?_
    refine j_iconst g (v := 0) (by decide) dX1_fewest_34 ?_
    refine j_iload_n g 3 rfl dX1_fewest_35 ?_
    refine j_callSZ_20 g (As := [.ref (a 8), .ref (a 1), .int (0 : Int32), .int (0 : Int32), .int x3]) (st := []) (c_X1_putsOut 6 h) cl_X1_34 (Nat.le_of_ble_eq_true rfl) (Nat.le_of_ble_eq_true rfl) (Nat.zero_le _) (Nat.zero_le _) rfl rfl (Nat.le_of_ble_eq_true rfl) dX1_fewest_36 (fun r_3 sz_3 pr_3 pm_3 kv_3 kn_3 kr_3 kt_3 kb_3 ks_3 kj_3 kw_3 kg_3 wd_3 fw_3 ad_3 bk_3 md_3 cr_3 ow_3 hd_3 hz_3 h => ?_)
    refine j_ws (ws' := (cgW a q sz_3 pr_3 pm_3 kv_3 kn_3 kr_3 kt_3 kb_3 ks_3 kj_3 kw_3 kg_3 wd_3 fw_3 ad_3 bk_3 md_3 cr_3 ow_3 hd_3)) rfl ?_
    refine j_if_eq g dX1_fewest_39 (tgt := 44) (by decide) (fun c4 => ?_) (fun c4 => ?_)
    rotate_left
    · replace h := h.2 c4
      refine j_iload_n g 3 rfl dX1_fewest_42 ?_
      exact hret.go dX1_fewest_43 h
    replace h := h.1 c4
    refine j_iinc g 3 (n := 1) (v := x3 + 1) (lv' := [(3, .int (x3 + 1)), (0, .ref (a 8)), (1, .ref (a 1)), (2, .int x2)]) rfl rfl (by decide) rfl dX1_fewest_44 ?_
    refine j_goto g dX1_fewest_47 (tgt := 13) (by decide) ?_
    refine j_sub [1, 2, 3, 0] rfl ?_
    exact ih (x3 + 1) sz_3 pr_3 pm_3 kv_3 kn_3 kr_3 kt_3 kb_3 ks_3 kj_3 kw_3 kg_3 wd_3 fw_3 ad_3 bk_3 md_3 cr_3 ow_3 hd_3 h
set_option maxRecDepth 20000 in
set_option maxHeartbeats 4000000 in
theorem c_X1_fewest {a : Nat → Nat} {q : Nat → ClassId} {x2 : Int32}  {sz : Int32} {pr : Nat → Int32} {pm : Nat → Nat} {kv : Nat → Int32} {kn : Nat → Int32} {kr : Nat → Int32} {kt : Nat → Int32} {kb : Nat → Int32} {ks : Nat → Int32} {kj : Nat → Int32} {kw : Nat → Int32} {kg : Nat → Int32} {wd : Nat → Nat → Int64} {fw : Nat → Nat → Int32} {ad : Nat → Int32} {bk : Nat → Int32} {md : Int32} {cr : Int32} {ow : Int32} {hd : Int32} {K : Int32 → Int32 → (Nat → Int32) → (Nat → Nat) → (Nat → Int32) → (Nat → Int32) → (Nat → Int32) → (Nat → Int32) → (Nat → Int32) → (Nat → Int32) → (Nat → Int32) → (Nat → Int32) → (Nat → Int32) → (Nat → Nat → Int64) → (Nat → Nat → Int32) → (Nat → Int32) → (Nat → Int32) → Int32 → Int32 → Int32 → Int32 → Prop} (h : wp_X1_fewest x2 sz pr pm kv kn kr kt kb ks kj kw kg wd fw ad bk md cr ow hd K) : ctI_20 q yX1_fewest cX1_fewest 4 11 279 [.ref (a 8), .ref (a 1), .int x2] (cgW a q sz pr pm kv kn kr kt kb ks kj kw kg wd fw ad bk md cr ow hd) (fun (sz : Int32) (pr : Nat → Int32) (pm : Nat → Nat) (kv : Nat → Int32) (kn : Nat → Int32) (kr : Nat → Int32) (kt : Nat → Int32) (kb : Nat → Int32) (ks : Nat → Int32) (kj : Nat → Int32) (kw : Nat → Int32) (kg : Nat → Int32) (wd : Nat → Nat → Int64) (fw : Nat → Nat → Int32) (ad : Nat → Int32) (bk : Nat → Int32) (md : Int32) (cr : Int32) (ow : Int32) (hd : Int32) => (cgW a q sz pr pm kv kn kr kt kb ks kj kw kg wd fw ad bk md cr ow hd)) K := by
  refine met_I_20 (by decide) (Nat.le_of_ble_eq_true rfl) (fun Γ g hret => ?_)
  unfold wp_X1_fewest at h
  show jw Γ 4 0 0 (cgW a q sz pr pm kv kn kr kt kb ks kj kw kg wd fw ad bk md cr ow hd) [(0, .ref (a 8)), (1, .ref (a 1)), (2, .int x2)] [] 0
  refine j_aload_n g 1 rfl dX1_fewest_0 ?_
  refine j_aload_n g 0 rfl dX1_fewest_1 ?_
  refine j_get g fl_X1_17 8 cg_8 rfl dX1_fewest_2 ?_
  refine j_iconst g (v := 0) (by decide) dX1_fewest_5 ?_
  obtain ⟨hv1, h⟩ := h
  refine j_aald g 10 4 cg_10 rfl (by decide) hv1 rfl dX1_fewest_6 ?_
  refine j_iconst g (v := 0) (by decide) dX1_fewest_7 ?_
  refine j_callVV_1 g (As := [.ref (a (17 + ((0 : Int32).toNatClampNeg + 1))), .int (0 : Int32)]) (st := []) (c_X3_collect (Nat.succ_lt_succ (vp_lt hv1)) h) cl_X1_22 1 3 cg_1 rfl rfl (Nat.le_of_ble_eq_true rfl) (Nat.le_of_ble_eq_true rfl) (Nat.zero_le _) (Nat.zero_le _) rfl rfl (Nat.le_of_ble_eq_true rfl) dX1_fewest_8 (fun wd_2 h => ?_)
  refine j_ws (ws' := (cgW a q sz pr pm kv kn kr kt kb ks kj kw kg wd_2 fw ad bk md cr ow hd)) rfl ?_
  refine j_iconst g (v := 0) (by decide) dX1_fewest_11 ?_
  refine j_istore_n g (lv' := [(3, .int (0 : Int32)), (0, .ref (a 8)), (1, .ref (a 1)), (2, .int x2)]) (by decide) rfl dX1_fewest_12 ?_
  obtain ⟨n3, h⟩ := h
  refine j_sub [1, 2, 3, 0] rfl ?_
  refine wk_X1_fewest_13  g hret (fun sz_3 pr_3 pm_3 kv_3 kn_3 kr_3 kt_3 kb_3 ks_3 kj_3 kw_3 kg_3 wd_3 fw_3 ad_3 bk_3 md_3 cr_3 ow_3 hd_3 h => ?_) n3 (0 : Int32) sz pr pm kv kn kr kt kb ks kj kw kg wd_2 fw ad bk md cr ow hd h
  refine j_iconst g (v := -1) (by decide) dX1_fewest_50 ?_
  exact hret.go dX1_fewest_51 h
end
section
set_option maxRecDepth 20000 in
def wp_X5_priced (x1 : Int32) (pr : Nat → Int32) (K : Int32 → Prop) : Prop :=
  ((x1 < 0 → K (0 : Int32)) ∧ (¬ x1 < 0 → ((x1 < (6 : Int32) → (vp_in x1 6 ∧ K (pr x1.toNatClampNeg))) ∧ (¬ x1 < (6 : Int32) → K (0 : Int32)))))
theorem dX5_priced_0 : decode cX5_priced 0 = .ok (.iload_n 1, 1) := by decide +kernel
theorem dX5_priced_1 : decode cX5_priced 1 = .ok (.ifCond .lt 9, 3) := by decide +kernel
theorem dX5_priced_4 : decode cX5_priced 4 = .ok (.iload_n 1, 1) := by decide +kernel
theorem dX5_priced_5 : decode cX5_priced 5 = .ok (.bipush 6, 2) := by decide +kernel
theorem dX5_priced_7 : decode cX5_priced 7 = .ok (.if_icmp .lt 7, 3) := by decide +kernel
theorem dX5_priced_10 : decode cX5_priced 10 = .ok (.iconst 0, 1) := by decide +kernel
theorem dX5_priced_11 : decode cX5_priced 11 = .ok (.goto 12, 3) := by decide +kernel
theorem dX5_priced_14 : decode cX5_priced 14 = .ok (.aload_n 0, 1) := by decide +kernel
theorem dX5_priced_15 : decode cX5_priced 15 = .ok (.getfield 12, 3) := by decide +kernel
theorem dX5_priced_18 : decode cX5_priced 18 = .ok (.getfield 58, 3) := by decide +kernel
theorem dX5_priced_21 : decode cX5_priced 21 = .ok (.iload_n 1, 1) := by decide +kernel
theorem dX5_priced_22 : decode cX5_priced 22 = .ok (.iaload, 1) := by decide +kernel
theorem dX5_priced_23 : decode cX5_priced 23 = .ok (.ireturn, 1) := by decide +kernel
set_option maxRecDepth 20000 in
set_option maxHeartbeats 4000000 in
theorem c_X5_priced {a : Nat → Nat} {q : Nat → ClassId} {x1 : Int32}  {sz : Int32} {pr : Nat → Int32} {pm : Nat → Nat} {kv : Nat → Int32} {kn : Nat → Int32} {kr : Nat → Int32} {kt : Nat → Int32} {kb : Nat → Int32} {ks : Nat → Int32} {kj : Nat → Int32} {kw : Nat → Int32} {kg : Nat → Int32} {wd : Nat → Nat → Int64} {fw : Nat → Nat → Int32} {ad : Nat → Int32} {bk : Nat → Int32} {md : Int32} {cr : Int32} {ow : Int32} {hd : Int32} {K : Int32 → Prop} (h : wp_X5_priced x1 pr K) : ctI_0 q yX5_priced cX5_priced 2 0 0 [.ref (a 0), .int x1] (cgW a q sz pr pm kv kn kr kt kb ks kj kw kg wd fw ad bk md cr ow hd) (cgW a q sz pr pm kv kn kr kt kb ks kj kw kg wd fw ad bk md cr ow hd) K := by
  refine met_I_0 (by decide) (Nat.le_of_ble_eq_true rfl) (fun Γ g hret => ?_)
  unfold wp_X5_priced at h
  show jw Γ 2 0 0 (cgW a q sz pr pm kv kn kr kt kb ks kj kw kg wd fw ad bk md cr ow hd) [(0, .ref (a 0)), (1, .int x1)] [] 0
  refine j_iload_n g 1 rfl dX5_priced_0 ?_
  refine j_if_lt g dX5_priced_1 (tgt := 10) (by decide) (fun c1 => ?_) (fun c1 => ?_)
  · replace h := h.1 c1
    refine j_iconst g (v := 0) (by decide) dX5_priced_10 ?_
    refine j_goto g dX5_priced_11 (tgt := 23) (by decide) ?_
    exact hret.go dX5_priced_23 h
  replace h := h.2 c1
  refine j_iload_n g 1 rfl dX5_priced_4 ?_
  refine j_bipush g (v := 6) (by decide) dX5_priced_5 ?_
  refine j_icmp_lt g dX5_priced_7 (tgt := 14) (by decide) (fun c2 => ?_) (fun c2 => ?_)
  rotate_left
  · replace h := h.2 c2
    refine j_iconst g (v := 0) (by decide) dX5_priced_10 ?_
    refine j_goto g dX5_priced_11 (tgt := 23) (by decide) ?_
    exact hret.go dX5_priced_23 h
  replace h := h.1 c2
  refine j_aload_n g 0 rfl dX5_priced_14 ?_
  refine j_get g fl_X5_12 0 cg_0 rfl dX5_priced_15 ?_
  refine j_get g fl_X5_58 1 cg_1 rfl dX5_priced_18 ?_
  refine j_iload_n g 1 rfl dX5_priced_21 ?_
  obtain ⟨hv3, h⟩ := h
  refine j_iald g 4 cg_4 hv3 dX5_priced_22 ?_
  exact hret.go dX5_priced_23 h

set_option maxRecDepth 20000 in
def wp_X5_addKind (x1 : Int32) (x2 : Int32) (x3 : Int32) (sz : Int32) (pm : Nat → Nat) (kv : Nat → Int32) (kn : Nat → Int32) (kr : Nat → Int32) (cr : Int32) (K : Int32 → Int32 → (Nat → Nat) → (Nat → Int32) → (Nat → Int32) → (Nat → Int32) → Prop) : Prop :=
  ((x1 < (1 : Int32) → K (-1 : Int32) sz pm kv kn kr) ∧ (¬ x1 < (1 : Int32) → (((200 : Int32) < x1 → K (-1 : Int32) sz pm kv kn kr) ∧ (¬ (200 : Int32) < x1 → ((cr = 0 → wp_X3_add x1 x2 x3 sz pm kv kn kr (fun (r_4 : Int32) (sz_4 : Int32) (pm_4 : Nat → Nat) (kv_4 : Nat → Int32) (kn_4 : Nat → Int32) (kr_4 : Nat → Int32) => K r_4 sz_4 pm_4 kv_4 kn_4 kr_4)) ∧ (¬ cr = 0 → K (-1 : Int32) sz pm kv kn kr))))))
theorem dX5_addKind_0 : decode cX5_addKind 0 = .ok (.iload_n 1, 1) := by decide +kernel
theorem dX5_addKind_1 : decode cX5_addKind 1 = .ok (.iconst 1, 1) := by decide +kernel
theorem dX5_addKind_2 : decode cX5_addKind 2 = .ok (.if_icmp .lt 17, 3) := by decide +kernel
theorem dX5_addKind_5 : decode cX5_addKind 5 = .ok (.iload_n 1, 1) := by decide +kernel
theorem dX5_addKind_6 : decode cX5_addKind 6 = .ok (.sipush 200, 3) := by decide +kernel
theorem dX5_addKind_9 : decode cX5_addKind 9 = .ok (.if_icmp .gt 10, 3) := by decide +kernel
theorem dX5_addKind_12 : decode cX5_addKind 12 = .ok (.aload_n 0, 1) := by decide +kernel
theorem dX5_addKind_13 : decode cX5_addKind 13 = .ok (.getfield 45, 3) := by decide +kernel
theorem dX5_addKind_16 : decode cX5_addKind 16 = .ok (.ifCond .eq 5, 3) := by decide +kernel
theorem dX5_addKind_19 : decode cX5_addKind 19 = .ok (.iconst (-1), 1) := by decide +kernel
theorem dX5_addKind_20 : decode cX5_addKind 20 = .ok (.ireturn, 1) := by decide +kernel
theorem dX5_addKind_21 : decode cX5_addKind 21 = .ok (.aload_n 0, 1) := by decide +kernel
theorem dX5_addKind_22 : decode cX5_addKind 22 = .ok (.getfield 12, 3) := by decide +kernel
theorem dX5_addKind_25 : decode cX5_addKind 25 = .ok (.iload_n 1, 1) := by decide +kernel
theorem dX5_addKind_26 : decode cX5_addKind 26 = .ok (.iload_n 2, 1) := by decide +kernel
theorem dX5_addKind_27 : decode cX5_addKind 27 = .ok (.iload_n 3, 1) := by decide +kernel
theorem dX5_addKind_28 : decode cX5_addKind 28 = .ok (.invokevirtual 153, 3) := by decide +kernel
theorem dX5_addKind_31 : decode cX5_addKind 31 = .ok (.ireturn, 1) := by decide +kernel
set_option maxRecDepth 20000 in
set_option maxHeartbeats 4000000 in
theorem c_X5_addKind {a : Nat → Nat} {q : Nat → ClassId} {x1 : Int32} {x2 : Int32} {x3 : Int32} (hz3 : x3 = 0 ∨ x3 = 1) {sz : Int32} {pr : Nat → Int32} {pm : Nat → Nat} {kv : Nat → Int32} {kn : Nat → Int32} {kr : Nat → Int32} {kt : Nat → Int32} {kb : Nat → Int32} {ks : Nat → Int32} {kj : Nat → Int32} {kw : Nat → Int32} {kg : Nat → Int32} {wd : Nat → Nat → Int64} {fw : Nat → Nat → Int32} {ad : Nat → Int32} {bk : Nat → Int32} {md : Int32} {cr : Int32} {ow : Int32} {hd : Int32} {K : Int32 → Int32 → (Nat → Nat) → (Nat → Int32) → (Nat → Int32) → (Nat → Int32) → Prop} (h : wp_X5_addKind x1 x2 x3 sz pm kv kn kr cr K) : ctI_5 q yX5_addKind cX5_addKind 4 2 47 [.ref (a 0), .int x1, .int x2, .int x3] (cgW a q sz pr pm kv kn kr kt kb ks kj kw kg wd fw ad bk md cr ow hd) (fun (sz : Int32) (pm : Nat → Nat) (kv : Nat → Int32) (kn : Nat → Int32) (kr : Nat → Int32) => (cgW a q sz pr pm kv kn kr kt kb ks kj kw kg wd fw ad bk md cr ow hd)) K := by
  refine met_I_5 (by decide) (Nat.le_of_ble_eq_true rfl) (fun Γ g hret => ?_)
  unfold wp_X5_addKind at h
  show jw Γ 4 0 0 (cgW a q sz pr pm kv kn kr kt kb ks kj kw kg wd fw ad bk md cr ow hd) [(0, .ref (a 0)), (1, .int x1), (2, .int x2), (3, .int x3)] [] 0
  refine j_iload_n g 1 rfl dX5_addKind_0 ?_
  refine j_iconst g (v := 1) (by decide) dX5_addKind_1 ?_
  refine j_icmp_lt g dX5_addKind_2 (tgt := 19) (by decide) (fun c1 => ?_) (fun c1 => ?_)
  · replace h := h.1 c1
    refine j_iconst g (v := -1) (by decide) dX5_addKind_19 ?_
    exact hret.go dX5_addKind_20 h
  replace h := h.2 c1
  refine j_iload_n g 1 rfl dX5_addKind_5 ?_
  refine j_sipush g (v := 200) (by decide) dX5_addKind_6 ?_
  refine j_icmp_gt g dX5_addKind_9 (tgt := 19) (by decide) (fun c2 => ?_) (fun c2 => ?_)
  · replace h := h.1 c2
    refine j_iconst g (v := -1) (by decide) dX5_addKind_19 ?_
    exact hret.go dX5_addKind_20 h
  replace h := h.2 c2
  refine j_aload_n g 0 rfl dX5_addKind_12 ?_
  refine j_get g fl_X5_45 0 cg_0 rfl dX5_addKind_13 ?_
  refine j_if_eq g dX5_addKind_16 (tgt := 21) (by decide) (fun c3 => ?_) (fun c3 => ?_)
  rotate_left
  · replace h := h.2 c3
    refine j_iconst g (v := -1) (by decide) dX5_addKind_19 ?_
    exact hret.go dX5_addKind_20 h
  replace h := h.1 c3
  refine j_aload_n g 0 rfl dX5_addKind_21 ?_
  refine j_get g fl_X5_12 0 cg_0 rfl dX5_addKind_22 ?_
  refine j_iload_n g 1 rfl dX5_addKind_25 ?_
  refine j_iload_n g 2 rfl dX5_addKind_26 ?_
  refine j_iload_n g 3 rfl dX5_addKind_27 ?_
  refine j_callVI_5 g (As := [.int x1, .int x2, .int x3]) (st := []) (c_X3_add hz3 h) cl_X5_153 1 3 cg_1 rfl rfl (Nat.le_of_ble_eq_true rfl) (Nat.le_of_ble_eq_true rfl) (Nat.zero_le _) (Nat.zero_le _) rfl rfl (Nat.le_of_ble_eq_true rfl) dX5_addKind_28 (fun r_4 sz_4 pm_4 kv_4 kn_4 kr_4  h => ?_)
  refine j_ws (ws' := (cgW a q sz_4 pr pm_4 kv_4 kn_4 kr_4 kt kb ks kj kw kg wd fw ad bk md cr ow hd)) rfl ?_
  exact hret.go dX5_addKind_31 h

set_option maxRecDepth 20000 in
def wp_X5_coin (x1 : Int32) (x2 : Int32) (sz : Int32) (pm : Nat → Nat) (kv : Nat → Int32) (kn : Nat → Int32) (kr : Nat → Int32) (cr : Int32) (K : Int32 → Int32 → (Nat → Nat) → (Nat → Int32) → (Nat → Int32) → (Nat → Int32) → Prop) : Prop :=
  ((x2 < 0 → K (-1 : Int32) sz pm kv kn kr) ∧ (¬ x2 < 0 → ((x2 ≤ (20 : Int32) → wp_X5_addKind x1 x2 (0 : Int32) sz pm kv kn kr cr (fun (r_3 : Int32) (sz_3 : Int32) (pm_3 : Nat → Nat) (kv_3 : Nat → Int32) (kn_3 : Nat → Int32) (kr_3 : Nat → Int32) => K r_3 sz_3 pm_3 kv_3 kn_3 kr_3)) ∧ (¬ x2 ≤ (20 : Int32) → K (-1 : Int32) sz pm kv kn kr))))
theorem dX5_coin_0 : decode cX5_coin 0 = .ok (.iload_n 2, 1) := by decide +kernel
theorem dX5_coin_1 : decode cX5_coin 1 = .ok (.ifCond .lt 9, 3) := by decide +kernel
theorem dX5_coin_4 : decode cX5_coin 4 = .ok (.iload_n 2, 1) := by decide +kernel
theorem dX5_coin_5 : decode cX5_coin 5 = .ok (.bipush 20, 2) := by decide +kernel
theorem dX5_coin_7 : decode cX5_coin 7 = .ok (.if_icmp .le 5, 3) := by decide +kernel
theorem dX5_coin_10 : decode cX5_coin 10 = .ok (.iconst (-1), 1) := by decide +kernel
theorem dX5_coin_11 : decode cX5_coin 11 = .ok (.ireturn, 1) := by decide +kernel
theorem dX5_coin_12 : decode cX5_coin 12 = .ok (.aload_n 0, 1) := by decide +kernel
theorem dX5_coin_13 : decode cX5_coin 13 = .ok (.iload_n 1, 1) := by decide +kernel
theorem dX5_coin_14 : decode cX5_coin 14 = .ok (.iload_n 2, 1) := by decide +kernel
theorem dX5_coin_15 : decode cX5_coin 15 = .ok (.iconst 0, 1) := by decide +kernel
theorem dX5_coin_16 : decode cX5_coin 16 = .ok (.invokevirtual 54, 3) := by decide +kernel
theorem dX5_coin_19 : decode cX5_coin 19 = .ok (.ireturn, 1) := by decide +kernel
set_option maxRecDepth 20000 in
set_option maxHeartbeats 4000000 in
theorem c_X5_coin {a : Nat → Nat} {q : Nat → ClassId} {x1 : Int32} {x2 : Int32}  {sz : Int32} {pr : Nat → Int32} {pm : Nat → Nat} {kv : Nat → Int32} {kn : Nat → Int32} {kr : Nat → Int32} {kt : Nat → Int32} {kb : Nat → Int32} {ks : Nat → Int32} {kj : Nat → Int32} {kw : Nat → Int32} {kg : Nat → Int32} {wd : Nat → Nat → Int64} {fw : Nat → Nat → Int32} {ad : Nat → Int32} {bk : Nat → Int32} {md : Int32} {cr : Int32} {ow : Int32} {hd : Int32} {K : Int32 → Int32 → (Nat → Nat) → (Nat → Int32) → (Nat → Int32) → (Nat → Int32) → Prop} (h : wp_X5_coin x1 x2 sz pm kv kn kr cr K) : ctI_5 q yX5_coin cX5_coin 3 3 70 [.ref (a 0), .int x1, .int x2] (cgW a q sz pr pm kv kn kr kt kb ks kj kw kg wd fw ad bk md cr ow hd) (fun (sz : Int32) (pm : Nat → Nat) (kv : Nat → Int32) (kn : Nat → Int32) (kr : Nat → Int32) => (cgW a q sz pr pm kv kn kr kt kb ks kj kw kg wd fw ad bk md cr ow hd)) K := by
  refine met_I_5 (by decide) (Nat.le_of_ble_eq_true rfl) (fun Γ g hret => ?_)
  unfold wp_X5_coin at h
  show jw Γ 3 0 0 (cgW a q sz pr pm kv kn kr kt kb ks kj kw kg wd fw ad bk md cr ow hd) [(0, .ref (a 0)), (1, .int x1), (2, .int x2)] [] 0
  refine j_iload_n g 2 rfl dX5_coin_0 ?_
  refine j_if_lt g dX5_coin_1 (tgt := 10) (by decide) (fun c1 => ?_) (fun c1 => ?_)
  · replace h := h.1 c1
    refine j_iconst g (v := -1) (by decide) dX5_coin_10 ?_
    exact hret.go dX5_coin_11 h
  replace h := h.2 c1
  refine j_iload_n g 2 rfl dX5_coin_4 ?_
  refine j_bipush g (v := 20) (by decide) dX5_coin_5 ?_
  refine j_icmp_le g dX5_coin_7 (tgt := 12) (by decide) (fun c2 => ?_) (fun c2 => ?_)
  rotate_left
  · replace h := h.2 c2
    refine j_iconst g (v := -1) (by decide) dX5_coin_10 ?_
    exact hret.go dX5_coin_11 h
  replace h := h.1 c2
  refine j_aload_n g 0 rfl dX5_coin_12 ?_
  refine j_iload_n g 1 rfl dX5_coin_13 ?_
  refine j_iload_n g 2 rfl dX5_coin_14 ?_
  refine j_iconst g (v := 0) (by decide) dX5_coin_15 ?_
  refine j_callVI_5 g (As := [.int x1, .int x2, .int (0 : Int32)]) (st := []) (c_X5_addKind (Or.inl rfl) h) cl_X5_54 0 5 cg_0 rfl rfl (Nat.le_of_ble_eq_true rfl) (Nat.le_of_ble_eq_true rfl) (Nat.zero_le _) (Nat.zero_le _) rfl rfl (Nat.le_of_ble_eq_true rfl) dX5_coin_16 (fun r_3 sz_3 pm_3 kv_3 kn_3 kr_3  h => ?_)
  refine j_ws (ws' := (cgW a q sz_3 pr pm_3 kv_3 kn_3 kr_3 kt kb ks kj kw kg wd fw ad bk md cr ow hd)) rfl ?_
  exact hret.go dX5_coin_19 h

set_option maxRecDepth 20000 in
def wp_X5_note (x1 : Int32) (sz : Int32) (pm : Nat → Nat) (kv : Nat → Int32) (kn : Nat → Int32) (kr : Nat → Int32) (cr : Int32) (K : Int32 → Int32 → (Nat → Nat) → (Nat → Int32) → (Nat → Int32) → (Nat → Int32) → Prop) : Prop :=
  wp_X5_addKind x1 (0 : Int32) (1 : Int32) sz pm kv kn kr cr (fun (r_1 : Int32) (sz_1 : Int32) (pm_1 : Nat → Nat) (kv_1 : Nat → Int32) (kn_1 : Nat → Int32) (kr_1 : Nat → Int32) => K r_1 sz_1 pm_1 kv_1 kn_1 kr_1)
theorem dX5_note_0 : decode cX5_note 0 = .ok (.aload_n 0, 1) := by decide +kernel
theorem dX5_note_1 : decode cX5_note 1 = .ok (.iload_n 1, 1) := by decide +kernel
theorem dX5_note_2 : decode cX5_note 2 = .ok (.iconst 0, 1) := by decide +kernel
theorem dX5_note_3 : decode cX5_note 3 = .ok (.iconst 1, 1) := by decide +kernel
theorem dX5_note_4 : decode cX5_note 4 = .ok (.invokevirtual 54, 3) := by decide +kernel
theorem dX5_note_7 : decode cX5_note 7 = .ok (.ireturn, 1) := by decide +kernel
set_option maxRecDepth 20000 in
set_option maxHeartbeats 4000000 in
theorem c_X5_note {a : Nat → Nat} {q : Nat → ClassId} {x1 : Int32}  {sz : Int32} {pr : Nat → Int32} {pm : Nat → Nat} {kv : Nat → Int32} {kn : Nat → Int32} {kr : Nat → Int32} {kt : Nat → Int32} {kb : Nat → Int32} {ks : Nat → Int32} {kj : Nat → Int32} {kw : Nat → Int32} {kg : Nat → Int32} {wd : Nat → Nat → Int64} {fw : Nat → Nat → Int32} {ad : Nat → Int32} {bk : Nat → Int32} {md : Int32} {cr : Int32} {ow : Int32} {hd : Int32} {K : Int32 → Int32 → (Nat → Nat) → (Nat → Int32) → (Nat → Int32) → (Nat → Int32) → Prop} (h : wp_X5_note x1 sz pm kv kn kr cr K) : ctI_5 q yX5_note cX5_note 2 3 70 [.ref (a 0), .int x1] (cgW a q sz pr pm kv kn kr kt kb ks kj kw kg wd fw ad bk md cr ow hd) (fun (sz : Int32) (pm : Nat → Nat) (kv : Nat → Int32) (kn : Nat → Int32) (kr : Nat → Int32) => (cgW a q sz pr pm kv kn kr kt kb ks kj kw kg wd fw ad bk md cr ow hd)) K := by
  refine met_I_5 (by decide) (Nat.le_of_ble_eq_true rfl) (fun Γ g hret => ?_)
  unfold wp_X5_note at h
  show jw Γ 2 0 0 (cgW a q sz pr pm kv kn kr kt kb ks kj kw kg wd fw ad bk md cr ow hd) [(0, .ref (a 0)), (1, .int x1)] [] 0
  refine j_aload_n g 0 rfl dX5_note_0 ?_
  refine j_iload_n g 1 rfl dX5_note_1 ?_
  refine j_iconst g (v := 0) (by decide) dX5_note_2 ?_
  refine j_iconst g (v := 1) (by decide) dX5_note_3 ?_
  refine j_callVI_5 g (As := [.int x1, .int (0 : Int32), .int (1 : Int32)]) (st := []) (c_X5_addKind (Or.inr rfl) h) cl_X5_54 0 5 cg_0 rfl rfl (Nat.le_of_ble_eq_true rfl) (Nat.le_of_ble_eq_true rfl) (Nat.zero_le _) (Nat.zero_le _) rfl rfl (Nat.le_of_ble_eq_true rfl) dX5_note_4 (fun r_1 sz_1 pm_1 kv_1 kn_1 kr_1  h => ?_)
  refine j_ws (ws' := (cgW a q sz_1 pr pm_1 kv_1 kn_1 kr_1 kt kb ks kj kw kg wd fw ad bk md cr ow hd)) rfl ?_
  exact hret.go dX5_note_7 h

set_option maxRecDepth 20000 in
def wp_X5_price (x1 : Int32) (x2 : Int32) (pr : Nat → Int32) (cr : Int32) (K : Int32 → (Nat → Int32) → Prop) : Prop :=
  ((x1 < 0 → K (0 : Int32) pr) ∧ (¬ x1 < 0 → (((6 : Int32) ≤ x1 → K (0 : Int32) pr) ∧ (¬ (6 : Int32) ≤ x1 → ((x2 < 0 → K (0 : Int32) pr) ∧ (¬ x2 < 0 → (((300 : Int32) < x2 → K (0 : Int32) pr) ∧ (¬ (300 : Int32) < x2 → ((cr = 0 → (vp_in x1 6 ∧ K (1 : Int32) (upd pr x1.toNatClampNeg x2))) ∧ (¬ cr = 0 → K (0 : Int32) pr))))))))))
theorem dX5_price_0 : decode cX5_price 0 = .ok (.iload_n 1, 1) := by decide +kernel
theorem dX5_price_1 : decode cX5_price 1 = .ok (.ifCond .lt 27, 3) := by decide +kernel
theorem dX5_price_4 : decode cX5_price 4 = .ok (.iload_n 1, 1) := by decide +kernel
theorem dX5_price_5 : decode cX5_price 5 = .ok (.bipush 6, 2) := by decide +kernel
theorem dX5_price_7 : decode cX5_price 7 = .ok (.if_icmp .ge 21, 3) := by decide +kernel
theorem dX5_price_10 : decode cX5_price 10 = .ok (.iload_n 2, 1) := by decide +kernel
theorem dX5_price_11 : decode cX5_price 11 = .ok (.ifCond .lt 17, 3) := by decide +kernel
theorem dX5_price_14 : decode cX5_price 14 = .ok (.iload_n 2, 1) := by decide +kernel
theorem dX5_price_15 : decode cX5_price 15 = .ok (.sipush 300, 3) := by decide +kernel
theorem dX5_price_18 : decode cX5_price 18 = .ok (.if_icmp .gt 10, 3) := by decide +kernel
theorem dX5_price_21 : decode cX5_price 21 = .ok (.aload_n 0, 1) := by decide +kernel
theorem dX5_price_22 : decode cX5_price 22 = .ok (.getfield 45, 3) := by decide +kernel
theorem dX5_price_25 : decode cX5_price 25 = .ok (.ifCond .eq 5, 3) := by decide +kernel
theorem dX5_price_28 : decode cX5_price 28 = .ok (.iconst 0, 1) := by decide +kernel
theorem dX5_price_29 : decode cX5_price 29 = .ok (.ireturn, 1) := by decide +kernel
theorem dX5_price_30 : decode cX5_price 30 = .ok (.aload_n 0, 1) := by decide +kernel
theorem dX5_price_31 : decode cX5_price 31 = .ok (.getfield 12, 3) := by decide +kernel
theorem dX5_price_34 : decode cX5_price 34 = .ok (.getfield 58, 3) := by decide +kernel
theorem dX5_price_37 : decode cX5_price 37 = .ok (.iload_n 1, 1) := by decide +kernel
theorem dX5_price_38 : decode cX5_price 38 = .ok (.iload_n 2, 1) := by decide +kernel
theorem dX5_price_39 : decode cX5_price 39 = .ok (.iastore, 1) := by decide +kernel
theorem dX5_price_40 : decode cX5_price 40 = .ok (.iconst 1, 1) := by decide +kernel
theorem dX5_price_41 : decode cX5_price 41 = .ok (.ireturn, 1) := by decide +kernel
set_option maxRecDepth 20000 in
set_option maxHeartbeats 4000000 in
theorem c_X5_price {a : Nat → Nat} {q : Nat → ClassId} {x1 : Int32} {x2 : Int32}  {sz : Int32} {pr : Nat → Int32} {pm : Nat → Nat} {kv : Nat → Int32} {kn : Nat → Int32} {kr : Nat → Int32} {kt : Nat → Int32} {kb : Nat → Int32} {ks : Nat → Int32} {kj : Nat → Int32} {kw : Nat → Int32} {kg : Nat → Int32} {wd : Nat → Nat → Int64} {fw : Nat → Nat → Int32} {ad : Nat → Int32} {bk : Nat → Int32} {md : Int32} {cr : Int32} {ow : Int32} {hd : Int32} {K : Int32 → (Nat → Int32) → Prop} (h : wp_X5_price x1 x2 pr cr K) : ctZ_1 q yX5_price cX5_price 3 0 0 [.ref (a 0), .int x1, .int x2] (cgW a q sz pr pm kv kn kr kt kb ks kj kw kg wd fw ad bk md cr ow hd) (fun (pr : Nat → Int32) => (cgW a q sz pr pm kv kn kr kt kb ks kj kw kg wd fw ad bk md cr ow hd)) K := by
  refine met_Z_1 (by decide) (Nat.le_of_ble_eq_true rfl) (fun Γ g hret => ?_)
  unfold wp_X5_price at h
  show jw Γ 3 0 0 (cgW a q sz pr pm kv kn kr kt kb ks kj kw kg wd fw ad bk md cr ow hd) [(0, .ref (a 0)), (1, .int x1), (2, .int x2)] [] 0
  refine j_iload_n g 1 rfl dX5_price_0 ?_
  refine j_if_lt g dX5_price_1 (tgt := 28) (by decide) (fun c1 => ?_) (fun c1 => ?_)
  · replace h := h.1 c1
    refine j_iconst g (v := 0) (by decide) dX5_price_28 ?_
    exact hret.go dX5_price_29 (Or.inl rfl) h
  replace h := h.2 c1
  refine j_iload_n g 1 rfl dX5_price_4 ?_
  refine j_bipush g (v := 6) (by decide) dX5_price_5 ?_
  refine j_icmp_ge g dX5_price_7 (tgt := 28) (by decide) (fun c2 => ?_) (fun c2 => ?_)
  · replace h := h.1 c2
    refine j_iconst g (v := 0) (by decide) dX5_price_28 ?_
    exact hret.go dX5_price_29 (Or.inl rfl) h
  replace h := h.2 c2
  refine j_iload_n g 2 rfl dX5_price_10 ?_
  refine j_if_lt g dX5_price_11 (tgt := 28) (by decide) (fun c3 => ?_) (fun c3 => ?_)
  · replace h := h.1 c3
    refine j_iconst g (v := 0) (by decide) dX5_price_28 ?_
    exact hret.go dX5_price_29 (Or.inl rfl) h
  replace h := h.2 c3
  refine j_iload_n g 2 rfl dX5_price_14 ?_
  refine j_sipush g (v := 300) (by decide) dX5_price_15 ?_
  refine j_icmp_gt g dX5_price_18 (tgt := 28) (by decide) (fun c4 => ?_) (fun c4 => ?_)
  · replace h := h.1 c4
    refine j_iconst g (v := 0) (by decide) dX5_price_28 ?_
    exact hret.go dX5_price_29 (Or.inl rfl) h
  replace h := h.2 c4
  refine j_aload_n g 0 rfl dX5_price_21 ?_
  refine j_get g fl_X5_45 0 cg_0 rfl dX5_price_22 ?_
  refine j_if_eq g dX5_price_25 (tgt := 30) (by decide) (fun c5 => ?_) (fun c5 => ?_)
  rotate_left
  · replace h := h.2 c5
    refine j_iconst g (v := 0) (by decide) dX5_price_28 ?_
    exact hret.go dX5_price_29 (Or.inl rfl) h
  replace h := h.1 c5
  refine j_aload_n g 0 rfl dX5_price_30 ?_
  refine j_get g fl_X5_12 0 cg_0 rfl dX5_price_31 ?_
  refine j_get g fl_X5_58 1 cg_1 rfl dX5_price_34 ?_
  refine j_iload_n g 1 rfl dX5_price_37 ?_
  refine j_iload_n g 2 rfl dX5_price_38 ?_
  obtain ⟨hv6, h⟩ := h
  refine j_iast g 4 cg_4 hv6 (ws' := (cgW a q sz (upd pr x1.toNatClampNeg x2) pm kv kn kr kt kb ks kj kw kg wd fw ad bk md cr ow hd)) rfl dX5_price_39 ?_
  refine j_iconst g (v := 1) (by decide) dX5_price_40 ?_
  exact hret.go dX5_price_41 (Or.inr rfl) h

set_option maxRecDepth 20000 in
def wp_X5_mode (x1 : Int32) (md : Int32) (K : Int32 → Int32 → Prop) : Prop :=
  ((x1 = 0 → K (1 : Int32) x1) ∧ (¬ x1 = 0 → ((x1 = (1 : Int32) → K (1 : Int32) x1) ∧ (¬ x1 = (1 : Int32) → K (0 : Int32) md))))
theorem dX5_mode_0 : decode cX5_mode 0 = .ok (.iload_n 1, 1) := by decide +kernel
theorem dX5_mode_1 : decode cX5_mode 1 = .ok (.ifCond .eq 10, 3) := by decide +kernel
theorem dX5_mode_4 : decode cX5_mode 4 = .ok (.iload_n 1, 1) := by decide +kernel
theorem dX5_mode_5 : decode cX5_mode 5 = .ok (.iconst 1, 1) := by decide +kernel
theorem dX5_mode_6 : decode cX5_mode 6 = .ok (.if_icmp .eq 5, 3) := by decide +kernel
theorem dX5_mode_9 : decode cX5_mode 9 = .ok (.iconst 0, 1) := by decide +kernel
theorem dX5_mode_10 : decode cX5_mode 10 = .ok (.ireturn, 1) := by decide +kernel
theorem dX5_mode_11 : decode cX5_mode 11 = .ok (.aload_n 0, 1) := by decide +kernel
theorem dX5_mode_12 : decode cX5_mode 12 = .ok (.iload_n 1, 1) := by decide +kernel
theorem dX5_mode_13 : decode cX5_mode 13 = .ok (.putfield 41, 3) := by decide +kernel
theorem dX5_mode_16 : decode cX5_mode 16 = .ok (.iconst 1, 1) := by decide +kernel
theorem dX5_mode_17 : decode cX5_mode 17 = .ok (.ireturn, 1) := by decide +kernel
set_option maxRecDepth 20000 in
set_option maxHeartbeats 4000000 in
theorem c_X5_mode {a : Nat → Nat} {q : Nat → ClassId} {x1 : Int32}  {sz : Int32} {pr : Nat → Int32} {pm : Nat → Nat} {kv : Nat → Int32} {kn : Nat → Int32} {kr : Nat → Int32} {kt : Nat → Int32} {kb : Nat → Int32} {ks : Nat → Int32} {kj : Nat → Int32} {kw : Nat → Int32} {kg : Nat → Int32} {wd : Nat → Nat → Int64} {fw : Nat → Nat → Int32} {ad : Nat → Int32} {bk : Nat → Int32} {md : Int32} {cr : Int32} {ow : Int32} {hd : Int32} {K : Int32 → Int32 → Prop} (h : wp_X5_mode x1 md K) : ctZ_1 q yX5_mode cX5_mode 2 0 0 [.ref (a 0), .int x1] (cgW a q sz pr pm kv kn kr kt kb ks kj kw kg wd fw ad bk md cr ow hd) (fun (md : Int32) => (cgW a q sz pr pm kv kn kr kt kb ks kj kw kg wd fw ad bk md cr ow hd)) K := by
  refine met_Z_1 (by decide) (Nat.le_of_ble_eq_true rfl) (fun Γ g hret => ?_)
  unfold wp_X5_mode at h
  show jw Γ 2 0 0 (cgW a q sz pr pm kv kn kr kt kb ks kj kw kg wd fw ad bk md cr ow hd) [(0, .ref (a 0)), (1, .int x1)] [] 0
  refine j_iload_n g 1 rfl dX5_mode_0 ?_
  refine j_if_eq g dX5_mode_1 (tgt := 11) (by decide) (fun c1 => ?_) (fun c1 => ?_)
  · replace h := h.1 c1
    refine j_aload_n g 0 rfl dX5_mode_11 ?_
    refine j_iload_n g 1 rfl dX5_mode_12 ?_
    refine j_put g fl_X5_41 fp_X5_5 0 cg_0 rfl rfl (Nat.le_of_ble_eq_true rfl) (ws' := (cgW a q sz pr pm kv kn kr kt kb ks kj kw kg wd fw ad bk x1 cr ow hd)) rfl dX5_mode_13 ?_
    refine j_iconst g (v := 1) (by decide) dX5_mode_16 ?_
    exact hret.go dX5_mode_17 (Or.inr rfl) h
  replace h := h.2 c1
  refine j_iload_n g 1 rfl dX5_mode_4 ?_
  refine j_iconst g (v := 1) (by decide) dX5_mode_5 ?_
  refine j_icmp_eq g dX5_mode_6 (tgt := 11) (by decide) (fun c2 => ?_) (fun c2 => ?_)
  rotate_left
  · replace h := h.2 c2
    refine j_iconst g (v := 0) (by decide) dX5_mode_9 ?_
    exact hret.go dX5_mode_10 (Or.inl rfl) h
  replace h := h.1 c2
  refine j_aload_n g 0 rfl dX5_mode_11 ?_
  refine j_iload_n g 1 rfl dX5_mode_12 ?_
  refine j_put g fl_X5_41 fp_X5_5 0 cg_0 rfl rfl (Nat.le_of_ble_eq_true rfl) (ws' := (cgW a q sz pr pm kv kn kr kt kb ks kj kw kg wd fw ad bk x1 cr ow hd)) rfl dX5_mode_13 ?_
  refine j_iconst g (v := 1) (by decide) dX5_mode_16 ?_
  exact hret.go dX5_mode_17 (Or.inr rfl) h

set_option maxRecDepth 20000 in
def wp_X5_fill (x1 : Int32) (x2 : Int32) (sz : Int32) (kv : Nat → Int32) (kn : Nat → Int32) (kr : Nat → Int32) (kt : Nat → Int32) (bk : Nat → Int32) (K : Int32 → (Nat → Int32) → (Nat → Int32) → Prop) : Prop :=
  wp_X3_findCoin x1 sz kn (fun (o_1 : Option Nat)  => (o_1 = none → K (0 : Int32) kt bk) ∧ (∀ i_1 : Nat, o_1 = some i_1 → i_1 < 6 → ((x2 < 0 → K (0 : Int32) kt bk) ∧ (¬ x2 < 0 → wp_X0_free i_1 kr kt (fun (r_3 : Int32)  => ((x2 ≤ r_3 → (vp_in (3 : Int32) 6 ∧ (vp_in (3 : Int32) 6 ∧ K (1 : Int32) (upd kt i_1 ((kt i_1) + x2)) (upd bk (3 : Int32).toNatClampNeg ((bk (3 : Int32).toNatClampNeg) + (x2 * (kv i_1))))))) ∧ (¬ x2 ≤ r_3 → K (0 : Int32) kt bk)))))))
theorem dX5_fill_0 : decode cX5_fill 0 = .ok (.aload_n 0, 1) := by decide +kernel
theorem dX5_fill_1 : decode cX5_fill 1 = .ok (.getfield 12, 3) := by decide +kernel
theorem dX5_fill_4 : decode cX5_fill 4 = .ok (.iload_n 1, 1) := by decide +kernel
theorem dX5_fill_5 : decode cX5_fill 5 = .ok (.invokevirtual 61, 3) := by decide +kernel
theorem dX5_fill_8 : decode cX5_fill 8 = .ok (.astore_n 3, 1) := by decide +kernel
theorem dX5_fill_9 : decode cX5_fill 9 = .ok (.aload_n 3, 1) := by decide +kernel
theorem dX5_fill_10 : decode cX5_fill 10 = .ok (.ifnull 15, 3) := by decide +kernel
theorem dX5_fill_13 : decode cX5_fill 13 = .ok (.iload_n 2, 1) := by decide +kernel
theorem dX5_fill_14 : decode cX5_fill 14 = .ok (.ifCond .lt 11, 3) := by decide +kernel
theorem dX5_fill_17 : decode cX5_fill 17 = .ok (.iload_n 2, 1) := by decide +kernel
theorem dX5_fill_18 : decode cX5_fill 18 = .ok (.aload_n 3, 1) := by decide +kernel
theorem dX5_fill_19 : decode cX5_fill 19 = .ok (.invokevirtual 65, 3) := by decide +kernel
theorem dX5_fill_22 : decode cX5_fill 22 = .ok (.if_icmp .le 5, 3) := by decide +kernel
theorem dX5_fill_25 : decode cX5_fill 25 = .ok (.iconst 0, 1) := by decide +kernel
theorem dX5_fill_26 : decode cX5_fill 26 = .ok (.ireturn, 1) := by decide +kernel
theorem dX5_fill_27 : decode cX5_fill 27 = .ok (.aload_n 3, 1) := by decide +kernel
theorem dX5_fill_28 : decode cX5_fill 28 = .ok (.dup, 1) := by decide +kernel
theorem dX5_fill_29 : decode cX5_fill 29 = .ok (.getfield 71, 3) := by decide +kernel
theorem dX5_fill_32 : decode cX5_fill 32 = .ok (.iload_n 2, 1) := by decide +kernel
theorem dX5_fill_33 : decode cX5_fill 33 = .ok (.iadd, 1) := by decide +kernel
theorem dX5_fill_34 : decode cX5_fill 34 = .ok (.putfield 71, 3) := by decide +kernel
theorem dX5_fill_37 : decode cX5_fill 37 = .ok (.aload_n 0, 1) := by decide +kernel
theorem dX5_fill_38 : decode cX5_fill 38 = .ok (.getfield 37, 3) := by decide +kernel
theorem dX5_fill_41 : decode cX5_fill 41 = .ok (.iconst 3, 1) := by decide +kernel
theorem dX5_fill_42 : decode cX5_fill 42 = .ok (.dup2, 1) := by decide +kernel
theorem dX5_fill_43 : decode cX5_fill 43 = .ok (.iaload, 1) := by decide +kernel
theorem dX5_fill_44 : decode cX5_fill 44 = .ok (.iload_n 2, 1) := by decide +kernel
theorem dX5_fill_45 : decode cX5_fill 45 = .ok (.aload_n 3, 1) := by decide +kernel
theorem dX5_fill_46 : decode cX5_fill 46 = .ok (.getfield 74, 3) := by decide +kernel
theorem dX5_fill_49 : decode cX5_fill 49 = .ok (.imul, 1) := by decide +kernel
theorem dX5_fill_50 : decode cX5_fill 50 = .ok (.iadd, 1) := by decide +kernel
theorem dX5_fill_51 : decode cX5_fill 51 = .ok (.iastore, 1) := by decide +kernel
theorem dX5_fill_52 : decode cX5_fill 52 = .ok (.iconst 1, 1) := by decide +kernel
theorem dX5_fill_53 : decode cX5_fill 53 = .ok (.ireturn, 1) := by decide +kernel
set_option maxRecDepth 20000 in
set_option maxHeartbeats 4000000 in
theorem c_X5_fill {a : Nat → Nat} {q : Nat → ClassId} {x1 : Int32} {x2 : Int32}  {sz : Int32} {pr : Nat → Int32} {pm : Nat → Nat} {kv : Nat → Int32} {kn : Nat → Int32} {kr : Nat → Int32} {kt : Nat → Int32} {kb : Nat → Int32} {ks : Nat → Int32} {kj : Nat → Int32} {kw : Nat → Int32} {kg : Nat → Int32} {wd : Nat → Nat → Int64} {fw : Nat → Nat → Int32} {ad : Nat → Int32} {bk : Nat → Int32} {md : Int32} {cr : Int32} {ow : Int32} {hd : Int32} {K : Int32 → (Nat → Int32) → (Nat → Int32) → Prop} (h : wp_X5_fill x1 x2 sz kv kn kr kt bk K) : ctZ_2 q yX5_fill cX5_fill 4 2 43 [.ref (a 0), .int x1, .int x2] (cgW a q sz pr pm kv kn kr kt kb ks kj kw kg wd fw ad bk md cr ow hd) (fun (kt : Nat → Int32) (bk : Nat → Int32) => (cgW a q sz pr pm kv kn kr kt kb ks kj kw kg wd fw ad bk md cr ow hd)) K := by
  refine met_Z_2 (by decide) (Nat.le_of_ble_eq_true rfl) (fun Γ g hret => ?_)
  unfold wp_X5_fill at h
  show jw Γ 4 0 0 (cgW a q sz pr pm kv kn kr kt kb ks kj kw kg wd fw ad bk md cr ow hd) [(0, .ref (a 0)), (1, .int x1), (2, .int x2)] [] 0
  refine j_aload_n g 0 rfl dX5_fill_0 ?_
  refine j_get g fl_X5_12 0 cg_0 rfl dX5_fill_1 ?_
  refine j_iload_n g 1 rfl dX5_fill_4 ?_
  refine j_callVQ_0 g (As := [.int x1]) (st := []) (c_X3_findCoin  h) cl_X5_61 1 3 cg_1 rfl rfl (Nat.le_of_ble_eq_true rfl) (Nat.le_of_ble_eq_true rfl) (Nat.zero_le _) (Nat.zero_le _) rfl rfl (Nat.le_of_ble_eq_true rfl) dX5_fill_5 (fun  h => ?_) (fun i_1  hi_1 h => ?_)
  · replace h := h.1 rfl
    refine j_astore_nN g (lv' := [(3, .null), (0, .ref (a 0)), (1, .int x1), (2, .int x2)]) (by decide) rfl dX5_fill_8 ?_
    refine j_aload_nN g 0 rfl dX5_fill_9 ?_
    refine j_ifnullN g dX5_fill_10 (tgt := 25) (by decide) ?_
    refine j_iconst g (v := 0) (by decide) dX5_fill_25 ?_
    exact hret.go dX5_fill_26 (Or.inl rfl) h
  replace h := h.2 i_1 rfl hi_1
  refine j_astore_n g (lv' := [(3, .ref (a (11 + i_1))), (0, .ref (a 0)), (1, .int x1), (2, .int x2)]) (by decide) rfl dX5_fill_8 ?_
  refine j_aload_n g 0 rfl dX5_fill_9 ?_
  refine j_ifnull g dX5_fill_10 ?_
  refine j_iload_n g 3 rfl dX5_fill_13 ?_
  refine j_if_lt g dX5_fill_14 (tgt := 25) (by decide) (fun c2 => ?_) (fun c2 => ?_)
  · replace h := h.1 c2
    refine j_iconst g (v := 0) (by decide) dX5_fill_25 ?_
    exact hret.go dX5_fill_26 (Or.inl rfl) h
  replace h := h.2 c2
  refine j_iload_n g 3 rfl dX5_fill_17 ?_
  refine j_aload_n g 0 rfl dX5_fill_18 ?_
  refine j_callVI_0 g (As := []) (st := [.int x2]) (c_X0_free hi_1 h) cl_X5_65 (11 + i_1) 0 (cg_K hi_1) rfl rfl (Nat.le_of_ble_eq_true rfl) (Nat.le_of_ble_eq_true rfl) (Nat.zero_le _) (Nat.zero_le _) rfl rfl (Nat.le_of_ble_eq_true rfl) dX5_fill_19 (fun r_3   h => ?_)
  refine j_icmp_le g dX5_fill_22 (tgt := 27) (by decide) (fun c4 => ?_) (fun c4 => ?_)
  rotate_left
  · replace h := h.2 c4
    refine j_iconst g (v := 0) (by decide) dX5_fill_25 ?_
    exact hret.go dX5_fill_26 (Or.inl rfl) h
  replace h := h.1 c4
  refine j_aload_n g 0 rfl dX5_fill_27 ?_
  refine j_dup g rfl dX5_fill_28 ?_
  refine j_get g fl_X5_71 (11 + i_1) (cg_K hi_1) rfl dX5_fill_29 ?_
  refine j_iload_n g 3 rfl dX5_fill_32 ?_
  refine j_iadd g dX5_fill_33 ?_
  refine j_put g fl_X5_71 fp_X0_3 (11 + i_1) (cg_K hi_1) rfl rfl (Nat.le_of_ble_eq_true rfl) (ws' := (cgW a q sz pr pm kv kn kr (upd kt i_1 ((kt i_1) + x2)) kb ks kj kw kg wd fw ad bk md cr ow hd)) (cg_s_kt hi_1) dX5_fill_34 ?_
  refine j_aload_n g 1 rfl dX5_fill_37 ?_
  refine j_get g fl_X5_37 0 cg_0 rfl dX5_fill_38 ?_
  refine j_iconst g (v := 3) (by decide) dX5_fill_41 ?_
  refine j_dup2 g rfl rfl dX5_fill_42 ?_
  obtain ⟨hv5, h⟩ := h
  refine j_iald g 5 cg_5 hv5 dX5_fill_43 ?_
  refine j_iload_n g 3 rfl dX5_fill_44 ?_
  refine j_aload_n g 0 rfl dX5_fill_45 ?_
  refine j_get g fl_X5_74 (11 + i_1) (cg_K hi_1) rfl dX5_fill_46 ?_
  refine j_imul g dX5_fill_49 ?_
  refine j_iadd g dX5_fill_50 ?_
  obtain ⟨hv6, h⟩ := h
  refine j_iast g 5 cg_5 hv6 (ws' := (cgW a q sz pr pm kv kn kr (upd kt i_1 ((kt i_1) + x2)) kb ks kj kw kg wd fw ad (upd bk (3 : Int32).toNatClampNeg ((bk (3 : Int32).toNatClampNeg) + (x2 * (kv i_1)))) md cr ow hd)) rfl dX5_fill_51 ?_
  refine j_iconst g (v := 1) (by decide) dX5_fill_52 ?_
  exact hret.go dX5_fill_53 (Or.inr rfl) h

set_option maxRecDepth 20000 in
def wp_X5_stuck (x1 : Int32) (x2 : Int32) (sz : Int32) (kn : Nat → Int32) (ks : Nat → Int32) (K : Int32 → (Nat → Int32) → Prop) : Prop :=
  wp_X3_findCoin x1 sz kn (fun (o_1 : Option Nat)  => (o_1 = none → K (0 : Int32) ks) ∧ (∀ i_1 : Nat, o_1 = some i_1 → i_1 < 6 → ((¬ ks i_1 = x2 → K (1 : Int32) (upd ks i_1 x2)) ∧ (ks i_1 = x2 → K (0 : Int32) ks))))
theorem dX5_stuck_0 : decode cX5_stuck 0 = .ok (.aload_n 0, 1) := by decide +kernel
theorem dX5_stuck_1 : decode cX5_stuck 1 = .ok (.getfield 12, 3) := by decide +kernel
theorem dX5_stuck_4 : decode cX5_stuck 4 = .ok (.iload_n 1, 1) := by decide +kernel
theorem dX5_stuck_5 : decode cX5_stuck 5 = .ok (.invokevirtual 61, 3) := by decide +kernel
theorem dX5_stuck_8 : decode cX5_stuck 8 = .ok (.astore_n 3, 1) := by decide +kernel
theorem dX5_stuck_9 : decode cX5_stuck 9 = .ok (.aload_n 3, 1) := by decide +kernel
theorem dX5_stuck_10 : decode cX5_stuck 10 = .ok (.ifnull 11, 3) := by decide +kernel
theorem dX5_stuck_13 : decode cX5_stuck 13 = .ok (.aload_n 3, 1) := by decide +kernel
theorem dX5_stuck_14 : decode cX5_stuck 14 = .ok (.getfield 77, 3) := by decide +kernel
theorem dX5_stuck_17 : decode cX5_stuck 17 = .ok (.iload_n 2, 1) := by decide +kernel
theorem dX5_stuck_18 : decode cX5_stuck 18 = .ok (.if_icmp .ne 5, 3) := by decide +kernel
theorem dX5_stuck_21 : decode cX5_stuck 21 = .ok (.iconst 0, 1) := by decide +kernel
theorem dX5_stuck_22 : decode cX5_stuck 22 = .ok (.ireturn, 1) := by decide +kernel
theorem dX5_stuck_23 : decode cX5_stuck 23 = .ok (.aload_n 3, 1) := by decide +kernel
theorem dX5_stuck_24 : decode cX5_stuck 24 = .ok (.iload_n 2, 1) := by decide +kernel
theorem dX5_stuck_25 : decode cX5_stuck 25 = .ok (.putfield 77, 3) := by decide +kernel
theorem dX5_stuck_28 : decode cX5_stuck 28 = .ok (.iconst 1, 1) := by decide +kernel
theorem dX5_stuck_29 : decode cX5_stuck 29 = .ok (.ireturn, 1) := by decide +kernel
set_option maxRecDepth 20000 in
set_option maxHeartbeats 4000000 in
theorem c_X5_stuck {a : Nat → Nat} {q : Nat → ClassId} {x1 : Int32} {x2 : Int32} (hz2 : x2 = 0 ∨ x2 = 1) {sz : Int32} {pr : Nat → Int32} {pm : Nat → Nat} {kv : Nat → Int32} {kn : Nat → Int32} {kr : Nat → Int32} {kt : Nat → Int32} {kb : Nat → Int32} {ks : Nat → Int32} {kj : Nat → Int32} {kw : Nat → Int32} {kg : Nat → Int32} {wd : Nat → Nat → Int64} {fw : Nat → Nat → Int32} {ad : Nat → Int32} {bk : Nat → Int32} {md : Int32} {cr : Int32} {ow : Int32} {hd : Int32} {K : Int32 → (Nat → Int32) → Prop} (h : wp_X5_stuck x1 x2 sz kn ks K) : ctZ_1 q yX5_stuck cX5_stuck 4 2 43 [.ref (a 0), .int x1, .int x2] (cgW a q sz pr pm kv kn kr kt kb ks kj kw kg wd fw ad bk md cr ow hd) (fun (ks : Nat → Int32) => (cgW a q sz pr pm kv kn kr kt kb ks kj kw kg wd fw ad bk md cr ow hd)) K := by
  refine met_Z_1 (by decide) (Nat.le_of_ble_eq_true rfl) (fun Γ g hret => ?_)
  unfold wp_X5_stuck at h
  show jw Γ 4 0 0 (cgW a q sz pr pm kv kn kr kt kb ks kj kw kg wd fw ad bk md cr ow hd) [(0, .ref (a 0)), (1, .int x1), (2, .int x2)] [] 0
  refine j_aload_n g 0 rfl dX5_stuck_0 ?_
  refine j_get g fl_X5_12 0 cg_0 rfl dX5_stuck_1 ?_
  refine j_iload_n g 1 rfl dX5_stuck_4 ?_
  refine j_callVQ_0 g (As := [.int x1]) (st := []) (c_X3_findCoin  h) cl_X5_61 1 3 cg_1 rfl rfl (Nat.le_of_ble_eq_true rfl) (Nat.le_of_ble_eq_true rfl) (Nat.zero_le _) (Nat.zero_le _) rfl rfl (Nat.le_of_ble_eq_true rfl) dX5_stuck_5 (fun  h => ?_) (fun i_1  hi_1 h => ?_)
  · replace h := h.1 rfl
    refine j_astore_nN g (lv' := [(3, .null), (0, .ref (a 0)), (1, .int x1), (2, .int x2)]) (by decide) rfl dX5_stuck_8 ?_
    refine j_aload_nN g 0 rfl dX5_stuck_9 ?_
    refine j_ifnullN g dX5_stuck_10 (tgt := 21) (by decide) ?_
    refine j_iconst g (v := 0) (by decide) dX5_stuck_21 ?_
    exact hret.go dX5_stuck_22 (Or.inl rfl) h
  replace h := h.2 i_1 rfl hi_1
  refine j_astore_n g (lv' := [(3, .ref (a (11 + i_1))), (0, .ref (a 0)), (1, .int x1), (2, .int x2)]) (by decide) rfl dX5_stuck_8 ?_
  refine j_aload_n g 0 rfl dX5_stuck_9 ?_
  refine j_ifnull g dX5_stuck_10 ?_
  refine j_aload_n g 0 rfl dX5_stuck_13 ?_
  refine j_get g fl_X5_77 (11 + i_1) (cg_K hi_1) rfl dX5_stuck_14 ?_
  refine j_iload_n g 3 rfl dX5_stuck_17 ?_
  refine j_icmp_ne g dX5_stuck_18 (tgt := 23) (by decide) (fun c2 => ?_) (fun c2 => ?_)
  rotate_left
  · replace h := h.2 c2
    refine j_iconst g (v := 0) (by decide) dX5_stuck_21 ?_
    exact hret.go dX5_stuck_22 (Or.inl rfl) h
  replace h := h.1 c2
  refine j_aload_n g 0 rfl dX5_stuck_23 ?_
  refine j_iload_n g 3 rfl dX5_stuck_24 ?_
  refine j_put g fl_X5_77 fp_X0_5 (11 + i_1) (cg_K hi_1) (nz_z hz2) (nz_f hz2) (Nat.le_of_ble_eq_true rfl) (ws' := (cgW a q sz pr pm kv kn kr kt kb (upd ks i_1 x2) kj kw kg wd fw ad bk md cr ow hd)) (cg_s_ks hi_1) dX5_stuck_25 ?_
  refine j_iconst g (v := 1) (by decide) dX5_stuck_28 ?_
  exact hret.go dX5_stuck_29 (Or.inr rfl) h

set_option maxRecDepth 20000 in
def wp_X5_jam (x1 : Int32) (x2 : Int32) (sz : Int32) (kn : Nat → Int32) (kj : Nat → Int32) (K : Int32 → (Nat → Int32) → Prop) : Prop :=
  wp_X3_findCoin x1 sz kn (fun (o_1 : Option Nat)  => (o_1 = none → K (0 : Int32) kj) ∧ (∀ i_1 : Nat, o_1 = some i_1 → i_1 < 6 → ((x2 < (-1 : Int32) → K (0 : Int32) kj) ∧ (¬ x2 < (-1 : Int32) → ((x2 ≤ (99 : Int32) → K (1 : Int32) (upd kj i_1 x2)) ∧ (¬ x2 ≤ (99 : Int32) → K (0 : Int32) kj))))))
theorem dX5_jam_0 : decode cX5_jam 0 = .ok (.aload_n 0, 1) := by decide +kernel
theorem dX5_jam_1 : decode cX5_jam 1 = .ok (.getfield 12, 3) := by decide +kernel
theorem dX5_jam_4 : decode cX5_jam 4 = .ok (.iload_n 1, 1) := by decide +kernel
theorem dX5_jam_5 : decode cX5_jam 5 = .ok (.invokevirtual 61, 3) := by decide +kernel
theorem dX5_jam_8 : decode cX5_jam 8 = .ok (.astore_n 3, 1) := by decide +kernel
theorem dX5_jam_9 : decode cX5_jam 9 = .ok (.aload_n 3, 1) := by decide +kernel
theorem dX5_jam_10 : decode cX5_jam 10 = .ok (.ifnull 14, 3) := by decide +kernel
theorem dX5_jam_13 : decode cX5_jam 13 = .ok (.iload_n 2, 1) := by decide +kernel
theorem dX5_jam_14 : decode cX5_jam 14 = .ok (.iconst (-1), 1) := by decide +kernel
theorem dX5_jam_15 : decode cX5_jam 15 = .ok (.if_icmp .lt 9, 3) := by decide +kernel
theorem dX5_jam_18 : decode cX5_jam 18 = .ok (.iload_n 2, 1) := by decide +kernel
theorem dX5_jam_19 : decode cX5_jam 19 = .ok (.bipush 99, 2) := by decide +kernel
theorem dX5_jam_21 : decode cX5_jam 21 = .ok (.if_icmp .le 5, 3) := by decide +kernel
theorem dX5_jam_24 : decode cX5_jam 24 = .ok (.iconst 0, 1) := by decide +kernel
theorem dX5_jam_25 : decode cX5_jam 25 = .ok (.ireturn, 1) := by decide +kernel
theorem dX5_jam_26 : decode cX5_jam 26 = .ok (.aload_n 3, 1) := by decide +kernel
theorem dX5_jam_27 : decode cX5_jam 27 = .ok (.iload_n 2, 1) := by decide +kernel
theorem dX5_jam_28 : decode cX5_jam 28 = .ok (.putfield 81, 3) := by decide +kernel
theorem dX5_jam_31 : decode cX5_jam 31 = .ok (.iconst 1, 1) := by decide +kernel
theorem dX5_jam_32 : decode cX5_jam 32 = .ok (.ireturn, 1) := by decide +kernel
set_option maxRecDepth 20000 in
set_option maxHeartbeats 4000000 in
theorem c_X5_jam {a : Nat → Nat} {q : Nat → ClassId} {x1 : Int32} {x2 : Int32}  {sz : Int32} {pr : Nat → Int32} {pm : Nat → Nat} {kv : Nat → Int32} {kn : Nat → Int32} {kr : Nat → Int32} {kt : Nat → Int32} {kb : Nat → Int32} {ks : Nat → Int32} {kj : Nat → Int32} {kw : Nat → Int32} {kg : Nat → Int32} {wd : Nat → Nat → Int64} {fw : Nat → Nat → Int32} {ad : Nat → Int32} {bk : Nat → Int32} {md : Int32} {cr : Int32} {ow : Int32} {hd : Int32} {K : Int32 → (Nat → Int32) → Prop} (h : wp_X5_jam x1 x2 sz kn kj K) : ctZ_1 q yX5_jam cX5_jam 4 2 43 [.ref (a 0), .int x1, .int x2] (cgW a q sz pr pm kv kn kr kt kb ks kj kw kg wd fw ad bk md cr ow hd) (fun (kj : Nat → Int32) => (cgW a q sz pr pm kv kn kr kt kb ks kj kw kg wd fw ad bk md cr ow hd)) K := by
  refine met_Z_1 (by decide) (Nat.le_of_ble_eq_true rfl) (fun Γ g hret => ?_)
  unfold wp_X5_jam at h
  show jw Γ 4 0 0 (cgW a q sz pr pm kv kn kr kt kb ks kj kw kg wd fw ad bk md cr ow hd) [(0, .ref (a 0)), (1, .int x1), (2, .int x2)] [] 0
  refine j_aload_n g 0 rfl dX5_jam_0 ?_
  refine j_get g fl_X5_12 0 cg_0 rfl dX5_jam_1 ?_
  refine j_iload_n g 1 rfl dX5_jam_4 ?_
  refine j_callVQ_0 g (As := [.int x1]) (st := []) (c_X3_findCoin  h) cl_X5_61 1 3 cg_1 rfl rfl (Nat.le_of_ble_eq_true rfl) (Nat.le_of_ble_eq_true rfl) (Nat.zero_le _) (Nat.zero_le _) rfl rfl (Nat.le_of_ble_eq_true rfl) dX5_jam_5 (fun  h => ?_) (fun i_1  hi_1 h => ?_)
  · replace h := h.1 rfl
    refine j_astore_nN g (lv' := [(3, .null), (0, .ref (a 0)), (1, .int x1), (2, .int x2)]) (by decide) rfl dX5_jam_8 ?_
    refine j_aload_nN g 0 rfl dX5_jam_9 ?_
    refine j_ifnullN g dX5_jam_10 (tgt := 24) (by decide) ?_
    refine j_iconst g (v := 0) (by decide) dX5_jam_24 ?_
    exact hret.go dX5_jam_25 (Or.inl rfl) h
  replace h := h.2 i_1 rfl hi_1
  refine j_astore_n g (lv' := [(3, .ref (a (11 + i_1))), (0, .ref (a 0)), (1, .int x1), (2, .int x2)]) (by decide) rfl dX5_jam_8 ?_
  refine j_aload_n g 0 rfl dX5_jam_9 ?_
  refine j_ifnull g dX5_jam_10 ?_
  refine j_iload_n g 3 rfl dX5_jam_13 ?_
  refine j_iconst g (v := -1) (by decide) dX5_jam_14 ?_
  refine j_icmp_lt g dX5_jam_15 (tgt := 24) (by decide) (fun c2 => ?_) (fun c2 => ?_)
  · replace h := h.1 c2
    refine j_iconst g (v := 0) (by decide) dX5_jam_24 ?_
    exact hret.go dX5_jam_25 (Or.inl rfl) h
  replace h := h.2 c2
  refine j_iload_n g 3 rfl dX5_jam_18 ?_
  refine j_bipush g (v := 99) (by decide) dX5_jam_19 ?_
  refine j_icmp_le g dX5_jam_21 (tgt := 26) (by decide) (fun c3 => ?_) (fun c3 => ?_)
  rotate_left
  · replace h := h.2 c3
    refine j_iconst g (v := 0) (by decide) dX5_jam_24 ?_
    exact hret.go dX5_jam_25 (Or.inl rfl) h
  replace h := h.1 c3
  refine j_aload_n g 0 rfl dX5_jam_26 ?_
  refine j_iload_n g 3 rfl dX5_jam_27 ?_
  refine j_put g fl_X5_81 fp_X0_6 (11 + i_1) (cg_K hi_1) rfl rfl (Nat.le_of_ble_eq_true rfl) (ws' := (cgW a q sz pr pm kv kn kr kt kb ks (upd kj i_1 x2) kw kg wd fw ad bk md cr ow hd)) (cg_s_kj hi_1) dX5_jam_28 ?_
  refine j_iconst g (v := 1) (by decide) dX5_jam_31 ?_
  exact hret.go dX5_jam_32 (Or.inr rfl) h

set_option maxRecDepth 20000 in
def wp_X5_heldValue  (sz : Int32) (kv : Nat → Int32) (hd : Int32) (K : Int32 → Prop) : Prop :=
  wp_X3_find hd sz (fun (o_1 : Option Nat)  => (o_1 = none → K (0 : Int32)) ∧ (∀ i_1 : Nat, o_1 = some i_1 → i_1 < 6 → K (kv i_1)))
theorem dX5_heldValue_0 : decode cX5_heldValue 0 = .ok (.aload_n 0, 1) := by decide +kernel
theorem dX5_heldValue_1 : decode cX5_heldValue 1 = .ok (.getfield 12, 3) := by decide +kernel
theorem dX5_heldValue_4 : decode cX5_heldValue 4 = .ok (.aload_n 0, 1) := by decide +kernel
theorem dX5_heldValue_5 : decode cX5_heldValue 5 = .ok (.getfield 51, 3) := by decide +kernel
theorem dX5_heldValue_8 : decode cX5_heldValue 8 = .ok (.invokevirtual 84, 3) := by decide +kernel
theorem dX5_heldValue_11 : decode cX5_heldValue 11 = .ok (.astore_n 1, 1) := by decide +kernel
theorem dX5_heldValue_12 : decode cX5_heldValue 12 = .ok (.aload_n 1, 1) := by decide +kernel
theorem dX5_heldValue_13 : decode cX5_heldValue 13 = .ok (.ifnonnull 7, 3) := by decide +kernel
theorem dX5_heldValue_16 : decode cX5_heldValue 16 = .ok (.iconst 0, 1) := by decide +kernel
theorem dX5_heldValue_17 : decode cX5_heldValue 17 = .ok (.goto 7, 3) := by decide +kernel
theorem dX5_heldValue_20 : decode cX5_heldValue 20 = .ok (.aload_n 1, 1) := by decide +kernel
theorem dX5_heldValue_21 : decode cX5_heldValue 21 = .ok (.getfield 74, 3) := by decide +kernel
theorem dX5_heldValue_24 : decode cX5_heldValue 24 = .ok (.ireturn, 1) := by decide +kernel
set_option maxRecDepth 20000 in
set_option maxHeartbeats 4000000 in
theorem c_X5_heldValue {a : Nat → Nat} {q : Nat → ClassId}   {sz : Int32} {pr : Nat → Int32} {pm : Nat → Nat} {kv : Nat → Int32} {kn : Nat → Int32} {kr : Nat → Int32} {kt : Nat → Int32} {kb : Nat → Int32} {ks : Nat → Int32} {kj : Nat → Int32} {kw : Nat → Int32} {kg : Nat → Int32} {wd : Nat → Nat → Int64} {fw : Nat → Nat → Int32} {ad : Nat → Int32} {bk : Nat → Int32} {md : Int32} {cr : Int32} {ow : Int32} {hd : Int32} {K : Int32 → Prop} (h : wp_X5_heldValue sz kv hd K) : ctI_0 q yX5_heldValue cX5_heldValue 2 1 21 [.ref (a 0)] (cgW a q sz pr pm kv kn kr kt kb ks kj kw kg wd fw ad bk md cr ow hd) (cgW a q sz pr pm kv kn kr kt kb ks kj kw kg wd fw ad bk md cr ow hd) K := by
  refine met_I_0 (by decide) (Nat.le_of_ble_eq_true rfl) (fun Γ g hret => ?_)
  unfold wp_X5_heldValue at h
  show jw Γ 2 0 0 (cgW a q sz pr pm kv kn kr kt kb ks kj kw kg wd fw ad bk md cr ow hd) [(0, .ref (a 0))] [] 0
  refine j_aload_n g 0 rfl dX5_heldValue_0 ?_
  refine j_get g fl_X5_12 0 cg_0 rfl dX5_heldValue_1 ?_
  refine j_aload_n g 0 rfl dX5_heldValue_4 ?_
  refine j_get g fl_X5_51 0 cg_0 rfl dX5_heldValue_5 ?_
  refine j_callVQ_0 g (As := [.int hd]) (st := []) (c_X3_find  h) cl_X5_84 1 3 cg_1 rfl rfl (Nat.le_of_ble_eq_true rfl) (Nat.le_of_ble_eq_true rfl) (Nat.zero_le _) (Nat.zero_le _) rfl rfl (Nat.le_of_ble_eq_true rfl) dX5_heldValue_8 (fun  h => ?_) (fun i_1  hi_1 h => ?_)
  · replace h := h.1 rfl
    refine j_astore_nN g (lv' := [(1, .null), (0, .ref (a 0))]) (by decide) rfl dX5_heldValue_11 ?_
    refine j_aload_nN g 0 rfl dX5_heldValue_12 ?_
    refine j_ifnonnullN g dX5_heldValue_13 ?_
    refine j_iconst g (v := 0) (by decide) dX5_heldValue_16 ?_
    refine j_goto g dX5_heldValue_17 (tgt := 24) (by decide) ?_
    exact hret.go dX5_heldValue_24 h
  replace h := h.2 i_1 rfl hi_1
  refine j_astore_n g (lv' := [(1, .ref (a (11 + i_1))), (0, .ref (a 0))]) (by decide) rfl dX5_heldValue_11 ?_
  refine j_aload_n g 0 rfl dX5_heldValue_12 ?_
  refine j_ifnonnull g dX5_heldValue_13 (tgt := 20) (by decide) ?_
  refine j_aload_n g 0 rfl dX5_heldValue_20 ?_
  refine j_get g fl_X5_74 (11 + i_1) (cg_K hi_1) rfl dX5_heldValue_21 ?_
  exact hret.go dX5_heldValue_24 h

set_option maxRecDepth 20000 in
def wp_X5_canTake (i1 : Nat) (sz : Int32) (pr : Nat → Int32) (kv : Nat → Int32) (kn : Nat → Int32) (kr : Nat → Int32) (kt : Nat → Int32) (ks : Nat → Int32) (wd : Nat → Nat → Int64) (cr : Int32) (hd : Int32) (K : Int32 → (Nat → Nat → Int64) → Prop) : Prop :=
  jn (fun (Z1 : Prop) => ((kn i1 = 0 → Z1) ∧ (¬ kn i1 = 0 → ((hd = (-1 : Int32) → Z1) ∧ (¬ hd = (-1 : Int32) → K (0 : Int32) wd))))) (wp_X3_collect 0 (0 : Int32) sz kv kn kt ks wd (fun (wd_2 : Nat → Nat → Int64) => jn (fun (Z3 : Int32 → Prop) => ((kn i1 = 0 → wp_X5_heldValue sz kv hd (fun (r_9 : Int32)  => Z3 r_9)) ∧ (¬ kn i1 = 0 → Z3 (kv i1)))) (fun (xs0_3 : Int32) => wp_X0_free i1 kr kt (fun (r_4 : Int32)  => jn (fun (Z5 : Int32 → Prop) => ((r_4 ≤ 0 → Z5 (0 : Int32)) ∧ (¬ r_4 ≤ 0 → Z5 (1 : Int32)))) (fun (xs0_5 : Int32) => wp_X3_mayTake i1 xs0_5 0 (cr + (kv i1)) xs0_3 pr kv kn ks wd_2 (fun (r_6 : Int32)  => K r_6 wd_2))))))
theorem dX5_canTake_0 : decode cX5_canTake 0 = .ok (.aload_n 1, 1) := by decide +kernel
theorem dX5_canTake_1 : decode cX5_canTake 1 = .ok (.getfield 91, 3) := by decide +kernel
theorem dX5_canTake_4 : decode cX5_canTake 4 = .ok (.ifCond .eq 13, 3) := by decide +kernel
theorem dX5_canTake_7 : decode cX5_canTake 7 = .ok (.aload_n 0, 1) := by decide +kernel
theorem dX5_canTake_8 : decode cX5_canTake 8 = .ok (.getfield 51, 3) := by decide +kernel
theorem dX5_canTake_11 : decode cX5_canTake 11 = .ok (.iconst (-1), 1) := by decide +kernel
theorem dX5_canTake_12 : decode cX5_canTake 12 = .ok (.if_icmp .eq 5, 3) := by decide +kernel
theorem dX5_canTake_15 : decode cX5_canTake 15 = .ok (.iconst 0, 1) := by decide +kernel
theorem dX5_canTake_16 : decode cX5_canTake 16 = .ok (.ireturn, 1) := by decide +kernel
theorem dX5_canTake_17 : decode cX5_canTake 17 = .ok (.aload_n 0, 1) := by decide +kernel
theorem dX5_canTake_18 : decode cX5_canTake 18 = .ok (.getfield 12, 3) := by decide +kernel
theorem dX5_canTake_21 : decode cX5_canTake 21 = .ok (.aload_n 0, 1) := by decide +kernel
theorem dX5_canTake_22 : decode cX5_canTake 22 = .ok (.getfield 19, 3) := by decide +kernel
theorem dX5_canTake_25 : decode cX5_canTake 25 = .ok (.iconst 0, 1) := by decide +kernel
theorem dX5_canTake_26 : decode cX5_canTake 26 = .ok (.invokevirtual 123, 3) := by decide +kernel
theorem dX5_canTake_29 : decode cX5_canTake 29 = .ok (.aload_n 1, 1) := by decide +kernel
theorem dX5_canTake_30 : decode cX5_canTake 30 = .ok (.getfield 91, 3) := by decide +kernel
theorem dX5_canTake_33 : decode cX5_canTake 33 = .ok (.ifCond .eq 10, 3) := by decide +kernel
theorem dX5_canTake_36 : decode cX5_canTake 36 = .ok (.aload_n 1, 1) := by decide +kernel
theorem dX5_canTake_37 : decode cX5_canTake 37 = .ok (.getfield 74, 3) := by decide +kernel
theorem dX5_canTake_40 : decode cX5_canTake 40 = .ok (.goto 7, 3) := by decide +kernel
theorem dX5_canTake_43 : decode cX5_canTake 43 = .ok (.aload_n 0, 1) := by decide +kernel
theorem dX5_canTake_44 : decode cX5_canTake 44 = .ok (.invokevirtual 107, 3) := by decide +kernel
theorem dX5_canTake_47 : decode cX5_canTake 47 = .ok (.istore_n 2, 1) := by decide +kernel
theorem dX5_canTake_48 : decode cX5_canTake 48 = .ok (.aload_n 0, 1) := by decide +kernel
theorem dX5_canTake_49 : decode cX5_canTake 49 = .ok (.getfield 12, 3) := by decide +kernel
theorem dX5_canTake_52 : decode cX5_canTake 52 = .ok (.aload_n 1, 1) := by decide +kernel
theorem dX5_canTake_53 : decode cX5_canTake 53 = .ok (.aload_n 1, 1) := by decide +kernel
theorem dX5_canTake_54 : decode cX5_canTake 54 = .ok (.invokevirtual 65, 3) := by decide +kernel
theorem dX5_canTake_57 : decode cX5_canTake 57 = .ok (.ifCond .le 7, 3) := by decide +kernel
theorem dX5_canTake_60 : decode cX5_canTake 60 = .ok (.iconst 1, 1) := by decide +kernel
theorem dX5_canTake_61 : decode cX5_canTake 61 = .ok (.goto 4, 3) := by decide +kernel
theorem dX5_canTake_64 : decode cX5_canTake 64 = .ok (.iconst 0, 1) := by decide +kernel
theorem dX5_canTake_65 : decode cX5_canTake 65 = .ok (.aload_n 0, 1) := by decide +kernel
theorem dX5_canTake_66 : decode cX5_canTake 66 = .ok (.getfield 19, 3) := by decide +kernel
theorem dX5_canTake_69 : decode cX5_canTake 69 = .ok (.aload_n 0, 1) := by decide +kernel
theorem dX5_canTake_70 : decode cX5_canTake 70 = .ok (.getfield 45, 3) := by decide +kernel
theorem dX5_canTake_73 : decode cX5_canTake 73 = .ok (.aload_n 1, 1) := by decide +kernel
theorem dX5_canTake_74 : decode cX5_canTake 74 = .ok (.getfield 74, 3) := by decide +kernel
theorem dX5_canTake_77 : decode cX5_canTake 77 = .ok (.iadd, 1) := by decide +kernel
theorem dX5_canTake_78 : decode cX5_canTake 78 = .ok (.iload_n 2, 1) := by decide +kernel
theorem dX5_canTake_79 : decode cX5_canTake 79 = .ok (.invokevirtual 156, 3) := by decide +kernel
theorem dX5_canTake_82 : decode cX5_canTake 82 = .ok (.ireturn, 1) := by decide +kernel
set_option maxRecDepth 20000 in
set_option maxHeartbeats 4000000 in
theorem c_X5_canTake {a : Nat → Nat} {q : Nat → ClassId} {i1 : Nat} (hi1 : i1 < 6) {sz : Int32} {pr : Nat → Int32} {pm : Nat → Nat} {kv : Nat → Int32} {kn : Nat → Int32} {kr : Nat → Int32} {kt : Nat → Int32} {kb : Nat → Int32} {ks : Nat → Int32} {kj : Nat → Int32} {kw : Nat → Int32} {kg : Nat → Int32} {wd : Nat → Nat → Int64} {fw : Nat → Nat → Int32} {ad : Nat → Int32} {bk : Nat → Int32} {md : Int32} {cr : Int32} {ow : Int32} {hd : Int32} {K : Int32 → (Nat → Nat → Int64) → Prop} (h : wp_X5_canTake i1 sz pr kv kn kr kt ks wd cr hd K) : ctZ_1 q yX5_canTake cX5_canTake 3 3 74 [.ref (a 0), .ref (a (11 + i1))] (cgW a q sz pr pm kv kn kr kt kb ks kj kw kg wd fw ad bk md cr ow hd) (fun (wd : Nat → Nat → Int64) => (cgW a q sz pr pm kv kn kr kt kb ks kj kw kg wd fw ad bk md cr ow hd)) K := by
  refine met_Z_1 (by decide) (Nat.le_of_ble_eq_true rfl) (fun Γ g hret => ?_)
  unfold wp_X5_canTake at h
  show jw Γ 3 0 0 (cgW a q sz pr pm kv kn kr kt kb ks kj kw kg wd fw ad bk md cr ow hd) [(0, .ref (a 0)), (1, .ref (a (11 + i1)))] [] 0
  refine j_aload_n g 1 rfl dX5_canTake_0 ?_
  refine j_get g fl_X5_91 (11 + i1) (cg_K hi1) rfl dX5_canTake_1 ?_
  refine jn_cut h (fun Z1 eZ1 h => ?_)
  have hZ1 : Z1 → jw Γ 3 0 0 (cgW a q sz pr pm kv kn kr kt kb ks kj kw kg wd fw ad bk md cr ow hd) [(0, .ref (a 0)), (1, .ref (a (11 + i1)))] [] 17 := by
    intro h
    rw [eZ1] at h
    refine j_aload_n g 0 rfl dX5_canTake_17 ?_
    refine j_get g fl_X5_12 0 cg_0 rfl dX5_canTake_18 ?_
    refine j_aload_n g 0 rfl dX5_canTake_21 ?_
    refine j_get g fl_X5_19 0 cg_0 rfl dX5_canTake_22 ?_
    refine j_iconst g (v := 0) (by decide) dX5_canTake_25 ?_
    refine j_callVV_1 g (As := [.ref (a (17 + 0)), .int (0 : Int32)]) (st := []) (c_X3_collect (Nat.zero_lt_succ 5) h) cl_X5_123 1 3 cg_1 rfl rfl (Nat.le_of_ble_eq_true rfl) (Nat.le_of_ble_eq_true rfl) (Nat.zero_le _) (Nat.zero_le _) rfl rfl (Nat.le_of_ble_eq_true rfl) dX5_canTake_26 (fun wd_2 h => ?_)
    refine j_ws (ws' := (cgW a q sz pr pm kv kn kr kt kb ks kj kw kg wd_2 fw ad bk md cr ow hd)) rfl ?_
    refine j_aload_n g 1 rfl dX5_canTake_29 ?_
    refine j_get g fl_X5_91 (11 + i1) (cg_K hi1) rfl dX5_canTake_30 ?_
    refine jn_cut h (fun Z3 eZ3 h => ?_)
    have hZ3 : ∀ (xs0_3 : Int32), Z3 xs0_3 → jw Γ 3 0 0 (cgW a q sz pr pm kv kn kr kt kb ks kj kw kg wd_2 fw ad bk md cr ow hd) [(0, .ref (a 0)), (1, .ref (a (11 + i1)))] [.int xs0_3] 47 := by
      intro xs0_3 h
      rw [eZ3] at h
      refine j_istore_n g (lv' := [(2, .int xs0_3), (0, .ref (a 0)), (1, .ref (a (11 + i1)))]) (by decide) rfl dX5_canTake_47 ?_
      refine j_aload_n g 1 rfl dX5_canTake_48 ?_
      refine j_get g fl_X5_12 0 cg_0 rfl dX5_canTake_49 ?_
      refine j_aload_n g 2 rfl dX5_canTake_52 ?_
      refine j_aload_n g 2 rfl dX5_canTake_53 ?_
      refine j_callVI_0 g (As := []) (st := [.ref (a (11 + i1)), .ref (a 1)]) (c_X0_free hi1 h) cl_X5_65 (11 + i1) 0 (cg_K hi1) rfl rfl (Nat.le_of_ble_eq_true rfl) (Nat.le_of_ble_eq_true rfl) (Nat.zero_le _) (Nat.zero_le _) rfl rfl (Nat.le_of_ble_eq_true rfl) dX5_canTake_54 (fun r_4   h => ?_)
      refine jn_cut h (fun Z5 eZ5 h => ?_)
      have hZ5 : ∀ (xs0_5 : Int32), (xs0_5 = 0 ∨ xs0_5 = 1) → Z5 xs0_5 → jw Γ 3 0 0 (cgW a q sz pr pm kv kn kr kt kb ks kj kw kg wd_2 fw ad bk md cr ow hd) [(0, .ref (a 0)), (1, .ref (a (11 + i1))), (2, .int xs0_3)] [.int xs0_5, .ref (a (11 + i1)), .ref (a 1)] 65 := by
        intro xs0_5 hbs0_5 h
        rw [eZ5] at h
        refine j_aload_n g 0 rfl dX5_canTake_65 ?_
        refine j_get g fl_X5_19 0 cg_0 rfl dX5_canTake_66 ?_
        refine j_aload_n g 0 rfl dX5_canTake_69 ?_
        refine j_get g fl_X5_45 0 cg_0 rfl dX5_canTake_70 ?_
        refine j_aload_n g 1 rfl dX5_canTake_73 ?_
        refine j_get g fl_X5_74 (11 + i1) (cg_K hi1) rfl dX5_canTake_74 ?_
        refine j_iadd g dX5_canTake_77 ?_
        refine j_iload_n g 2 rfl dX5_canTake_78 ?_
        refine j_callVZ_0 g (As := [.ref (a (11 + i1)), .int xs0_5, .ref (a (17 + 0)), .int (cr + (kv i1)), .int xs0_3]) (st := []) (c_X3_mayTake hi1 hbs0_5 (Nat.zero_lt_succ 5) h) cl_X5_156 1 3 cg_1 rfl rfl (Nat.le_of_ble_eq_true rfl) (Nat.le_of_ble_eq_true rfl) (Nat.zero_le _) (Nat.zero_le _) rfl rfl (Nat.le_of_ble_eq_true rfl) dX5_canTake_79 (fun r_6  hz_6 h => ?_)
        exact hret.go dX5_canTake_82 hz_6 h
      refine j_if_le g dX5_canTake_57 (tgt := 64) (by decide) (fun c7 => ?_) (fun c7 => ?_)
      · replace h := h.1 c7
        refine j_iconst g (v := 0) (by decide) dX5_canTake_64 ?_
        refine j_sub [1, 2, 0] rfl ?_
        exact hZ5 (0 : Int32) (Or.inl rfl) h
      replace h := h.2 c7
      refine j_iconst g (v := 1) (by decide) dX5_canTake_60 ?_
      refine j_goto g dX5_canTake_61 (tgt := 65) (by decide) ?_
      refine j_sub [1, 2, 0] rfl ?_
      exact hZ5 (1 : Int32) (Or.inr rfl) h
    refine j_if_eq g dX5_canTake_33 (tgt := 43) (by decide) (fun c8 => ?_) (fun c8 => ?_)
    · replace h := h.1 c8
      refine j_aload_n g 0 rfl dX5_canTake_43 ?_
      refine j_callVI_0 g (As := []) (st := []) (c_X5_heldValue  h) cl_X5_107 0 5 cg_0 rfl rfl (Nat.le_of_ble_eq_true rfl) (Nat.le_of_ble_eq_true rfl) (Nat.zero_le _) (Nat.zero_le _) rfl rfl (Nat.le_of_ble_eq_true rfl) dX5_canTake_44 (fun r_9   h => ?_)
      exact hZ3 r_9 h
    replace h := h.2 c8
    refine j_aload_n g 1 rfl dX5_canTake_36 ?_
    refine j_get g fl_X5_74 (11 + i1) (cg_K hi1) rfl dX5_canTake_37 ?_
    refine j_goto g dX5_canTake_40 (tgt := 47) (by decide) ?_
    exact hZ3 (kv i1) h
  refine j_if_eq g dX5_canTake_4 (tgt := 17) (by decide) (fun c10 => ?_) (fun c10 => ?_)
  · replace h := h.1 c10
    exact hZ1 h
  replace h := h.2 c10
  refine j_aload_n g 0 rfl dX5_canTake_7 ?_
  refine j_get g fl_X5_51 0 cg_0 rfl dX5_canTake_8 ?_
  refine j_iconst g (v := -1) (by decide) dX5_canTake_11 ?_
  refine j_icmp_eq g dX5_canTake_12 (tgt := 17) (by decide) (fun c11 => ?_) (fun c11 => ?_)
  · replace h := h.1 c11
    exact hZ1 h
  replace h := h.2 c11
  refine j_iconst g (v := 0) (by decide) dX5_canTake_15 ?_
  exact hret.go dX5_canTake_16 (Or.inl rfl) h

set_option maxRecDepth 20000 in
def wp_X5_put (x1 : Int32) (sz : Int32) (pr : Nat → Int32) (kv : Nat → Int32) (kn : Nat → Int32) (kr : Nat → Int32) (kt : Nat → Int32) (kb : Nat → Int32) (ks : Nat → Int32) (wd : Nat → Nat → Int64) (bk : Nat → Int32) (cr : Int32) (hd : Int32) (K : Int32 → (Nat → Int32) → (Nat → Int32) → (Nat → Nat → Int64) → (Nat → Int32) → Int32 → Int32 → Prop) : Prop :=
  wp_X3_find x1 sz (fun (o_1 : Option Nat)  => (o_1 = none → K (-1 : Int32) kt kb wd bk cr hd) ∧ (∀ i_1 : Nat, o_1 = some i_1 → i_1 < 6 → wp_X5_canTake i_1 sz pr kv kn kr kt ks wd cr hd (fun (r_2 : Int32) (wd_2 : Nat → Nat → Int64) => ((¬ r_2 = 0 → (vp_in (0 : Int32) 6 ∧ (vp_in (0 : Int32) 6 ∧ ((kn i_1 = 0 → wp_X0_free i_1 kr kt (fun (r_7 : Int32)  => ((r_7 ≤ 0 → K (1 : Int32) kt (upd kb i_1 ((kb i_1) + (1 : Int32))) wd_2 (upd bk (0 : Int32).toNatClampNeg ((bk (0 : Int32).toNatClampNeg) + (kv i_1))) (cr + (kv i_1)) hd) ∧ (¬ r_7 ≤ 0 → K (1 : Int32) (upd kt i_1 ((kt i_1) + (1 : Int32))) kb wd_2 (upd bk (0 : Int32).toNatClampNeg ((bk (0 : Int32).toNatClampNeg) + (kv i_1))) (cr + (kv i_1)) hd)))) ∧ (¬ kn i_1 = 0 → K (1 : Int32) kt kb wd_2 (upd bk (0 : Int32).toNatClampNeg ((bk (0 : Int32).toNatClampNeg) + (kv i_1))) (cr + (kv i_1)) x1))))) ∧ (r_2 = 0 → K (0 : Int32) kt kb wd_2 bk cr hd)))))
theorem dX5_put_0 : decode cX5_put 0 = .ok (.aload_n 0, 1) := by decide +kernel
theorem dX5_put_1 : decode cX5_put 1 = .ok (.getfield 12, 3) := by decide +kernel
theorem dX5_put_4 : decode cX5_put 4 = .ok (.iload_n 1, 1) := by decide +kernel
theorem dX5_put_5 : decode cX5_put 5 = .ok (.invokevirtual 84, 3) := by decide +kernel
theorem dX5_put_8 : decode cX5_put 8 = .ok (.astore_n 2, 1) := by decide +kernel
theorem dX5_put_9 : decode cX5_put 9 = .ok (.aload_n 2, 1) := by decide +kernel
theorem dX5_put_10 : decode cX5_put 10 = .ok (.ifnonnull 5, 3) := by decide +kernel
theorem dX5_put_13 : decode cX5_put 13 = .ok (.iconst (-1), 1) := by decide +kernel
theorem dX5_put_14 : decode cX5_put 14 = .ok (.ireturn, 1) := by decide +kernel
theorem dX5_put_15 : decode cX5_put 15 = .ok (.aload_n 0, 1) := by decide +kernel
theorem dX5_put_16 : decode cX5_put 16 = .ok (.aload_n 2, 1) := by decide +kernel
theorem dX5_put_17 : decode cX5_put 17 = .ok (.invokevirtual 87, 3) := by decide +kernel
theorem dX5_put_20 : decode cX5_put 20 = .ok (.ifCond .ne 5, 3) := by decide +kernel
theorem dX5_put_23 : decode cX5_put 23 = .ok (.iconst 0, 1) := by decide +kernel
theorem dX5_put_24 : decode cX5_put 24 = .ok (.ireturn, 1) := by decide +kernel
theorem dX5_put_25 : decode cX5_put 25 = .ok (.aload_n 0, 1) := by decide +kernel
theorem dX5_put_26 : decode cX5_put 26 = .ok (.dup, 1) := by decide +kernel
theorem dX5_put_27 : decode cX5_put 27 = .ok (.getfield 45, 3) := by decide +kernel
theorem dX5_put_30 : decode cX5_put 30 = .ok (.aload_n 2, 1) := by decide +kernel
theorem dX5_put_31 : decode cX5_put 31 = .ok (.getfield 74, 3) := by decide +kernel
theorem dX5_put_34 : decode cX5_put 34 = .ok (.iadd, 1) := by decide +kernel
theorem dX5_put_35 : decode cX5_put 35 = .ok (.putfield 45, 3) := by decide +kernel
theorem dX5_put_38 : decode cX5_put 38 = .ok (.aload_n 0, 1) := by decide +kernel
theorem dX5_put_39 : decode cX5_put 39 = .ok (.getfield 37, 3) := by decide +kernel
theorem dX5_put_42 : decode cX5_put 42 = .ok (.iconst 0, 1) := by decide +kernel
theorem dX5_put_43 : decode cX5_put 43 = .ok (.dup2, 1) := by decide +kernel
theorem dX5_put_44 : decode cX5_put 44 = .ok (.iaload, 1) := by decide +kernel
theorem dX5_put_45 : decode cX5_put 45 = .ok (.aload_n 2, 1) := by decide +kernel
theorem dX5_put_46 : decode cX5_put 46 = .ok (.getfield 74, 3) := by decide +kernel
theorem dX5_put_49 : decode cX5_put 49 = .ok (.iadd, 1) := by decide +kernel
theorem dX5_put_50 : decode cX5_put 50 = .ok (.iastore, 1) := by decide +kernel
theorem dX5_put_51 : decode cX5_put 51 = .ok (.aload_n 2, 1) := by decide +kernel
theorem dX5_put_52 : decode cX5_put 52 = .ok (.getfield 91, 3) := by decide +kernel
theorem dX5_put_55 : decode cX5_put 55 = .ok (.ifCond .eq 11, 3) := by decide +kernel
theorem dX5_put_58 : decode cX5_put 58 = .ok (.aload_n 0, 1) := by decide +kernel
theorem dX5_put_59 : decode cX5_put 59 = .ok (.iload_n 1, 1) := by decide +kernel
theorem dX5_put_60 : decode cX5_put 60 = .ok (.putfield 51, 3) := by decide +kernel
theorem dX5_put_63 : decode cX5_put 63 = .ok (.goto 33, 3) := by decide +kernel
theorem dX5_put_66 : decode cX5_put 66 = .ok (.aload_n 2, 1) := by decide +kernel
theorem dX5_put_67 : decode cX5_put 67 = .ok (.invokevirtual 65, 3) := by decide +kernel
theorem dX5_put_70 : decode cX5_put 70 = .ok (.ifCond .le 16, 3) := by decide +kernel
theorem dX5_put_73 : decode cX5_put 73 = .ok (.aload_n 2, 1) := by decide +kernel
theorem dX5_put_74 : decode cX5_put 74 = .ok (.dup, 1) := by decide +kernel
theorem dX5_put_75 : decode cX5_put 75 = .ok (.getfield 71, 3) := by decide +kernel
theorem dX5_put_78 : decode cX5_put 78 = .ok (.iconst 1, 1) := by decide +kernel
theorem dX5_put_79 : decode cX5_put 79 = .ok (.iadd, 1) := by decide +kernel
theorem dX5_put_80 : decode cX5_put 80 = .ok (.putfield 71, 3) := by decide +kernel
theorem dX5_put_83 : decode cX5_put 83 = .ok (.goto 13, 3) := by decide +kernel
theorem dX5_put_86 : decode cX5_put 86 = .ok (.aload_n 2, 1) := by decide +kernel
theorem dX5_put_87 : decode cX5_put 87 = .ok (.dup, 1) := by decide +kernel
theorem dX5_put_88 : decode cX5_put 88 = .ok (.getfield 94, 3) := by decide +kernel
theorem dX5_put_91 : decode cX5_put 91 = .ok (.iconst 1, 1) := by decide +kernel
theorem dX5_put_92 : decode cX5_put 92 = .ok (.iadd, 1) := by decide +kernel
theorem dX5_put_93 : decode cX5_put 93 = .ok (.putfield 94, 3) := by decide +kernel
theorem dX5_put_96 : decode cX5_put 96 = .ok (.iconst 1, 1) := by decide +kernel
theorem dX5_put_97 : decode cX5_put 97 = .ok (.ireturn, 1) := by decide +kernel
set_option maxRecDepth 20000 in
set_option maxHeartbeats 4000000 in
theorem c_X5_put {a : Nat → Nat} {q : Nat → ClassId} {x1 : Int32}  {sz : Int32} {pr : Nat → Int32} {pm : Nat → Nat} {kv : Nat → Int32} {kn : Nat → Int32} {kr : Nat → Int32} {kt : Nat → Int32} {kb : Nat → Int32} {ks : Nat → Int32} {kj : Nat → Int32} {kw : Nat → Int32} {kg : Nat → Int32} {wd : Nat → Nat → Int64} {fw : Nat → Nat → Int32} {ad : Nat → Int32} {bk : Nat → Int32} {md : Int32} {cr : Int32} {ow : Int32} {hd : Int32} {K : Int32 → (Nat → Int32) → (Nat → Int32) → (Nat → Nat → Int64) → (Nat → Int32) → Int32 → Int32 → Prop} (h : wp_X5_put x1 sz pr kv kn kr kt kb ks wd bk cr hd K) : ctI_6 q yX5_put cX5_put 3 4 96 [.ref (a 0), .int x1] (cgW a q sz pr pm kv kn kr kt kb ks kj kw kg wd fw ad bk md cr ow hd) (fun (kt : Nat → Int32) (kb : Nat → Int32) (wd : Nat → Nat → Int64) (bk : Nat → Int32) (cr : Int32) (hd : Int32) => (cgW a q sz pr pm kv kn kr kt kb ks kj kw kg wd fw ad bk md cr ow hd)) K := by
  refine met_I_6 (by decide) (Nat.le_of_ble_eq_true rfl) (fun Γ g hret => ?_)
  unfold wp_X5_put at h
  show jw Γ 3 0 0 (cgW a q sz pr pm kv kn kr kt kb ks kj kw kg wd fw ad bk md cr ow hd) [(0, .ref (a 0)), (1, .int x1)] [] 0
  refine j_aload_n g 0 rfl dX5_put_0 ?_
  refine j_get g fl_X5_12 0 cg_0 rfl dX5_put_1 ?_
  refine j_iload_n g 1 rfl dX5_put_4 ?_
  refine j_callVQ_0 g (As := [.int x1]) (st := []) (c_X3_find  h) cl_X5_84 1 3 cg_1 rfl rfl (Nat.le_of_ble_eq_true rfl) (Nat.le_of_ble_eq_true rfl) (Nat.zero_le _) (Nat.zero_le _) rfl rfl (Nat.le_of_ble_eq_true rfl) dX5_put_5 (fun  h => ?_) (fun i_1  hi_1 h => ?_)
  · replace h := h.1 rfl
    refine j_astore_nN g (lv' := [(2, .null), (0, .ref (a 0)), (1, .int x1)]) (by decide) rfl dX5_put_8 ?_
    refine j_aload_nN g 0 rfl dX5_put_9 ?_
    refine j_ifnonnullN g dX5_put_10 ?_
    refine j_iconst g (v := -1) (by decide) dX5_put_13 ?_
    exact hret.go dX5_put_14 h
  replace h := h.2 i_1 rfl hi_1
  refine j_astore_n g (lv' := [(2, .ref (a (11 + i_1))), (0, .ref (a 0)), (1, .int x1)]) (by decide) rfl dX5_put_8 ?_
  refine j_aload_n g 0 rfl dX5_put_9 ?_
  refine j_ifnonnull g dX5_put_10 (tgt := 15) (by decide) ?_
  refine j_aload_n g 1 rfl dX5_put_15 ?_
  refine j_aload_n g 0 rfl dX5_put_16 ?_
  refine j_callVZ_1 g (As := [.ref (a (11 + i_1))]) (st := []) (c_X5_canTake hi_1 h) cl_X5_87 0 5 cg_0 rfl rfl (Nat.le_of_ble_eq_true rfl) (Nat.le_of_ble_eq_true rfl) (Nat.zero_le _) (Nat.zero_le _) rfl rfl (Nat.le_of_ble_eq_true rfl) dX5_put_17 (fun r_2 wd_2 hz_2 h => ?_)
  refine j_ws (ws' := (cgW a q sz pr pm kv kn kr kt kb ks kj kw kg wd_2 fw ad bk md cr ow hd)) rfl ?_
  refine j_if_ne g dX5_put_20 (tgt := 25) (by decide) (fun c3 => ?_) (fun c3 => ?_)
  rotate_left
  · replace h := h.2 c3
    refine j_iconst g (v := 0) (by decide) dX5_put_23 ?_
    exact hret.go dX5_put_24 h
  replace h := h.1 c3
  refine j_aload_n g 1 rfl dX5_put_25 ?_
  refine j_dup g rfl dX5_put_26 ?_
  refine j_get g fl_X5_45 0 cg_0 rfl dX5_put_27 ?_
  refine j_aload_n g 0 rfl dX5_put_30 ?_
  refine j_get g fl_X5_74 (11 + i_1) (cg_K hi_1) rfl dX5_put_31 ?_
  refine j_iadd g dX5_put_34 ?_
  refine j_put g fl_X5_45 fp_X5_6 0 cg_0 rfl rfl (Nat.le_of_ble_eq_true rfl) (ws' := (cgW a q sz pr pm kv kn kr kt kb ks kj kw kg wd_2 fw ad bk md (cr + (kv i_1)) ow hd)) rfl dX5_put_35 ?_
  refine j_aload_n g 1 rfl dX5_put_38 ?_
  refine j_get g fl_X5_37 0 cg_0 rfl dX5_put_39 ?_
  refine j_iconst g (v := 0) (by decide) dX5_put_42 ?_
  refine j_dup2 g rfl rfl dX5_put_43 ?_
  obtain ⟨hv4, h⟩ := h
  refine j_iald g 5 cg_5 hv4 dX5_put_44 ?_
  refine j_aload_n g 0 rfl dX5_put_45 ?_
  refine j_get g fl_X5_74 (11 + i_1) (cg_K hi_1) rfl dX5_put_46 ?_
  refine j_iadd g dX5_put_49 ?_
  obtain ⟨hv5, h⟩ := h
  refine j_iast g 5 cg_5 hv5 (ws' := (cgW a q sz pr pm kv kn kr kt kb ks kj kw kg wd_2 fw ad (upd bk (0 : Int32).toNatClampNeg ((bk (0 : Int32).toNatClampNeg) + (kv i_1))) md (cr + (kv i_1)) ow hd)) rfl dX5_put_50 ?_
  refine j_aload_n g 0 rfl dX5_put_51 ?_
  refine j_get g fl_X5_91 (11 + i_1) (cg_K hi_1) rfl dX5_put_52 ?_
  refine j_if_eq g dX5_put_55 (tgt := 66) (by decide) (fun c6 => ?_) (fun c6 => ?_)
  rotate_left
  · replace h := h.2 c6
    refine j_aload_n g 1 rfl dX5_put_58 ?_
    refine j_iload_n g 2 rfl dX5_put_59 ?_
    refine j_put g fl_X5_51 fp_X5_8 0 cg_0 rfl rfl (Nat.le_of_ble_eq_true rfl) (ws' := (cgW a q sz pr pm kv kn kr kt kb ks kj kw kg wd_2 fw ad (upd bk (0 : Int32).toNatClampNeg ((bk (0 : Int32).toNatClampNeg) + (kv i_1))) md (cr + (kv i_1)) ow x1)) rfl dX5_put_60 ?_
    refine j_goto g dX5_put_63 (tgt := 96) (by decide) ?_
    refine j_iconst g (v := 1) (by decide) dX5_put_96 ?_
    exact hret.go dX5_put_97 h
  replace h := h.1 c6
  refine j_aload_n g 0 rfl dX5_put_66 ?_
  refine j_callVI_0 g (As := []) (st := []) (c_X0_free hi_1 h) cl_X5_65 (11 + i_1) 0 (cg_K hi_1) rfl rfl (Nat.le_of_ble_eq_true rfl) (Nat.le_of_ble_eq_true rfl) (Nat.zero_le _) (Nat.zero_le _) rfl rfl (Nat.le_of_ble_eq_true rfl) dX5_put_67 (fun r_7   h => ?_)
  refine j_if_le g dX5_put_70 (tgt := 86) (by decide) (fun c8 => ?_) (fun c8 => ?_)
  · replace h := h.1 c8
    refine j_aload_n g 0 rfl dX5_put_86 ?_
    refine j_dup g rfl dX5_put_87 ?_
    refine j_get g fl_X5_94 (11 + i_1) (cg_K hi_1) rfl dX5_put_88 ?_
    refine j_iconst g (v := 1) (by decide) dX5_put_91 ?_
    refine j_iadd g dX5_put_92 ?_
    refine j_put g fl_X5_94 fp_X0_4 (11 + i_1) (cg_K hi_1) rfl rfl (Nat.le_of_ble_eq_true rfl) (ws' := (cgW a q sz pr pm kv kn kr kt (upd kb i_1 ((kb i_1) + (1 : Int32))) ks kj kw kg wd_2 fw ad (upd bk (0 : Int32).toNatClampNeg ((bk (0 : Int32).toNatClampNeg) + (kv i_1))) md (cr + (kv i_1)) ow hd)) (cg_s_kb hi_1) dX5_put_93 ?_
    refine j_iconst g (v := 1) (by decide) dX5_put_96 ?_
    exact hret.go dX5_put_97 h
  replace h := h.2 c8
  refine j_aload_n g 0 rfl dX5_put_73 ?_
  refine j_dup g rfl dX5_put_74 ?_
  refine j_get g fl_X5_71 (11 + i_1) (cg_K hi_1) rfl dX5_put_75 ?_
  refine j_iconst g (v := 1) (by decide) dX5_put_78 ?_
  refine j_iadd g dX5_put_79 ?_
  refine j_put g fl_X5_71 fp_X0_3 (11 + i_1) (cg_K hi_1) rfl rfl (Nat.le_of_ble_eq_true rfl) (ws' := (cgW a q sz pr pm kv kn kr (upd kt i_1 ((kt i_1) + (1 : Int32))) kb ks kj kw kg wd_2 fw ad (upd bk (0 : Int32).toNatClampNeg ((bk (0 : Int32).toNatClampNeg) + (kv i_1))) md (cr + (kv i_1)) ow hd)) (cg_s_kt hi_1) dX5_put_80 ?_
  refine j_goto g dX5_put_83 (tgt := 96) (by decide) ?_
  refine j_iconst g (v := 1) (by decide) dX5_put_96 ?_
  exact hret.go dX5_put_97 h

set_option maxRecDepth 20000 in
def wp_X5_takes (x1 : Int32) (sz : Int32) (pr : Nat → Int32) (kv : Nat → Int32) (kn : Nat → Int32) (kr : Nat → Int32) (kt : Nat → Int32) (ks : Nat → Int32) (wd : Nat → Nat → Int64) (cr : Int32) (hd : Int32) (K : Int32 → (Nat → Nat → Int64) → Prop) : Prop :=
  wp_X3_find x1 sz (fun (o_1 : Option Nat)  => (o_1 = none → K (-1 : Int32) wd) ∧ (∀ i_1 : Nat, o_1 = some i_1 → i_1 < 6 → wp_X5_canTake i_1 sz pr kv kn kr kt ks wd cr hd (fun (r_2 : Int32) (wd_2 : Nat → Nat → Int64) => ((r_2 = 0 → K (0 : Int32) wd_2) ∧ (¬ r_2 = 0 → K (1 : Int32) wd_2)))))
theorem dX5_takes_0 : decode cX5_takes 0 = .ok (.aload_n 0, 1) := by decide +kernel
theorem dX5_takes_1 : decode cX5_takes 1 = .ok (.getfield 12, 3) := by decide +kernel
theorem dX5_takes_4 : decode cX5_takes 4 = .ok (.iload_n 1, 1) := by decide +kernel
theorem dX5_takes_5 : decode cX5_takes 5 = .ok (.invokevirtual 84, 3) := by decide +kernel
theorem dX5_takes_8 : decode cX5_takes 8 = .ok (.astore_n 2, 1) := by decide +kernel
theorem dX5_takes_9 : decode cX5_takes 9 = .ok (.aload_n 2, 1) := by decide +kernel
theorem dX5_takes_10 : decode cX5_takes 10 = .ok (.ifnonnull 5, 3) := by decide +kernel
theorem dX5_takes_13 : decode cX5_takes 13 = .ok (.iconst (-1), 1) := by decide +kernel
theorem dX5_takes_14 : decode cX5_takes 14 = .ok (.ireturn, 1) := by decide +kernel
theorem dX5_takes_15 : decode cX5_takes 15 = .ok (.aload_n 0, 1) := by decide +kernel
theorem dX5_takes_16 : decode cX5_takes 16 = .ok (.aload_n 2, 1) := by decide +kernel
theorem dX5_takes_17 : decode cX5_takes 17 = .ok (.invokevirtual 87, 3) := by decide +kernel
theorem dX5_takes_20 : decode cX5_takes 20 = .ok (.ifCond .eq 7, 3) := by decide +kernel
theorem dX5_takes_23 : decode cX5_takes 23 = .ok (.iconst 1, 1) := by decide +kernel
theorem dX5_takes_24 : decode cX5_takes 24 = .ok (.goto 4, 3) := by decide +kernel
theorem dX5_takes_27 : decode cX5_takes 27 = .ok (.iconst 0, 1) := by decide +kernel
theorem dX5_takes_28 : decode cX5_takes 28 = .ok (.ireturn, 1) := by decide +kernel
set_option maxRecDepth 20000 in
set_option maxHeartbeats 4000000 in
theorem c_X5_takes {a : Nat → Nat} {q : Nat → ClassId} {x1 : Int32}  {sz : Int32} {pr : Nat → Int32} {pm : Nat → Nat} {kv : Nat → Int32} {kn : Nat → Int32} {kr : Nat → Int32} {kt : Nat → Int32} {kb : Nat → Int32} {ks : Nat → Int32} {kj : Nat → Int32} {kw : Nat → Int32} {kg : Nat → Int32} {wd : Nat → Nat → Int64} {fw : Nat → Nat → Int32} {ad : Nat → Int32} {bk : Nat → Int32} {md : Int32} {cr : Int32} {ow : Int32} {hd : Int32} {K : Int32 → (Nat → Nat → Int64) → Prop} (h : wp_X5_takes x1 sz pr kv kn kr kt ks wd cr hd K) : ctI_1 q yX5_takes cX5_takes 3 4 96 [.ref (a 0), .int x1] (cgW a q sz pr pm kv kn kr kt kb ks kj kw kg wd fw ad bk md cr ow hd) (fun (wd : Nat → Nat → Int64) => (cgW a q sz pr pm kv kn kr kt kb ks kj kw kg wd fw ad bk md cr ow hd)) K := by
  refine met_I_1 (by decide) (Nat.le_of_ble_eq_true rfl) (fun Γ g hret => ?_)
  unfold wp_X5_takes at h
  show jw Γ 3 0 0 (cgW a q sz pr pm kv kn kr kt kb ks kj kw kg wd fw ad bk md cr ow hd) [(0, .ref (a 0)), (1, .int x1)] [] 0
  refine j_aload_n g 0 rfl dX5_takes_0 ?_
  refine j_get g fl_X5_12 0 cg_0 rfl dX5_takes_1 ?_
  refine j_iload_n g 1 rfl dX5_takes_4 ?_
  refine j_callVQ_0 g (As := [.int x1]) (st := []) (c_X3_find  h) cl_X5_84 1 3 cg_1 rfl rfl (Nat.le_of_ble_eq_true rfl) (Nat.le_of_ble_eq_true rfl) (Nat.zero_le _) (Nat.zero_le _) rfl rfl (Nat.le_of_ble_eq_true rfl) dX5_takes_5 (fun  h => ?_) (fun i_1  hi_1 h => ?_)
  · replace h := h.1 rfl
    refine j_astore_nN g (lv' := [(2, .null), (0, .ref (a 0)), (1, .int x1)]) (by decide) rfl dX5_takes_8 ?_
    refine j_aload_nN g 0 rfl dX5_takes_9 ?_
    refine j_ifnonnullN g dX5_takes_10 ?_
    refine j_iconst g (v := -1) (by decide) dX5_takes_13 ?_
    exact hret.go dX5_takes_14 h
  replace h := h.2 i_1 rfl hi_1
  refine j_astore_n g (lv' := [(2, .ref (a (11 + i_1))), (0, .ref (a 0)), (1, .int x1)]) (by decide) rfl dX5_takes_8 ?_
  refine j_aload_n g 0 rfl dX5_takes_9 ?_
  refine j_ifnonnull g dX5_takes_10 (tgt := 15) (by decide) ?_
  refine j_aload_n g 1 rfl dX5_takes_15 ?_
  refine j_aload_n g 0 rfl dX5_takes_16 ?_
  refine j_callVZ_1 g (As := [.ref (a (11 + i_1))]) (st := []) (c_X5_canTake hi_1 h) cl_X5_87 0 5 cg_0 rfl rfl (Nat.le_of_ble_eq_true rfl) (Nat.le_of_ble_eq_true rfl) (Nat.zero_le _) (Nat.zero_le _) rfl rfl (Nat.le_of_ble_eq_true rfl) dX5_takes_17 (fun r_2 wd_2 hz_2 h => ?_)
  refine j_ws (ws' := (cgW a q sz pr pm kv kn kr kt kb ks kj kw kg wd_2 fw ad bk md cr ow hd)) rfl ?_
  refine j_if_eq g dX5_takes_20 (tgt := 27) (by decide) (fun c3 => ?_) (fun c3 => ?_)
  · replace h := h.1 c3
    refine j_iconst g (v := 0) (by decide) dX5_takes_27 ?_
    exact hret.go dX5_takes_28 h
  replace h := h.2 c3
  refine j_iconst g (v := 1) (by decide) dX5_takes_23 ?_
  refine j_goto g dX5_takes_24 (tgt := 28) (by decide) ?_
  exact hret.go dX5_takes_28 h

set_option maxRecDepth 20000 in
def wp_X5_endCredit  (cr : Int32) (hd : Int32) (K : Int32 → Int32 → Prop) : Prop :=
  K (0 : Int32) (-1 : Int32)
theorem dX5_endCredit_0 : decode cX5_endCredit 0 = .ok (.aload_n 0, 1) := by decide +kernel
theorem dX5_endCredit_1 : decode cX5_endCredit 1 = .ok (.iconst 0, 1) := by decide +kernel
theorem dX5_endCredit_2 : decode cX5_endCredit 2 = .ok (.putfield 45, 3) := by decide +kernel
theorem dX5_endCredit_5 : decode cX5_endCredit 5 = .ok (.aload_n 0, 1) := by decide +kernel
theorem dX5_endCredit_6 : decode cX5_endCredit 6 = .ok (.iconst (-1), 1) := by decide +kernel
theorem dX5_endCredit_7 : decode cX5_endCredit 7 = .ok (.putfield 51, 3) := by decide +kernel
theorem dX5_endCredit_10 : decode cX5_endCredit 10 = .ok (.return_, 1) := by decide +kernel
set_option maxRecDepth 20000 in
set_option maxHeartbeats 4000000 in
theorem c_X5_endCredit {a : Nat → Nat} {q : Nat → ClassId}   {sz : Int32} {pr : Nat → Int32} {pm : Nat → Nat} {kv : Nat → Int32} {kn : Nat → Int32} {kr : Nat → Int32} {kt : Nat → Int32} {kb : Nat → Int32} {ks : Nat → Int32} {kj : Nat → Int32} {kw : Nat → Int32} {kg : Nat → Int32} {wd : Nat → Nat → Int64} {fw : Nat → Nat → Int32} {ad : Nat → Int32} {bk : Nat → Int32} {md : Int32} {cr : Int32} {ow : Int32} {hd : Int32} {K : Int32 → Int32 → Prop} (h : wp_X5_endCredit cr hd K) : ctV_2 q yX5_endCredit cX5_endCredit 1 0 0 [.ref (a 0)] (cgW a q sz pr pm kv kn kr kt kb ks kj kw kg wd fw ad bk md cr ow hd) (fun (cr : Int32) (hd : Int32) => (cgW a q sz pr pm kv kn kr kt kb ks kj kw kg wd fw ad bk md cr ow hd)) K := by
  refine met_V_2 (by decide) (Nat.le_of_ble_eq_true rfl) (fun Γ g hret => ?_)
  unfold wp_X5_endCredit at h
  show jw Γ 1 0 0 (cgW a q sz pr pm kv kn kr kt kb ks kj kw kg wd fw ad bk md cr ow hd) [(0, .ref (a 0))] [] 0
  refine j_aload_n g 0 rfl dX5_endCredit_0 ?_
  refine j_iconst g (v := 0) (by decide) dX5_endCredit_1 ?_
  refine j_put g fl_X5_45 fp_X5_6 0 cg_0 rfl rfl (Nat.le_of_ble_eq_true rfl) (ws' := (cgW a q sz pr pm kv kn kr kt kb ks kj kw kg wd fw ad bk md (0 : Int32) ow hd)) rfl dX5_endCredit_2 ?_
  refine j_aload_n g 0 rfl dX5_endCredit_5 ?_
  refine j_iconst g (v := -1) (by decide) dX5_endCredit_6 ?_
  refine j_put g fl_X5_51 fp_X5_8 0 cg_0 rfl rfl (Nat.le_of_ble_eq_true rfl) (ws' := (cgW a q sz pr pm kv kn kr kt kb ks kj kw kg wd fw ad bk md (0 : Int32) ow (-1 : Int32))) rfl dX5_endCredit_7 ?_
  exact hret.go dX5_endCredit_10 h

set_option maxRecDepth 20000 in
def wp_X5_plan_45 (x1 : Int32) (sz : Int32) (kv : Nat → Int32) (kn : Nat → Int32) (ks : Nat → Int32) (K : Int32 → (Nat → Int32) → (Nat → Nat → Int64) → (Nat → Nat → Int32) → Prop) (X : Int32 → (Nat → Nat → Int64) → Prop) : Nat → Int32 → (Nat → Nat → Int64) → Prop
  | 0, _, _ => False
  | n + 1, x2, wd => ((x2 ≤ 0 → X x2 wd) ∧ (¬ x2 ≤ 0 → wp_X2_has 0 x1 wd (fun (r_2 : Int32)  => ((¬ r_2 = 0 → X x2 wd) ∧ (r_2 = 0 → wp_X3_collectOneOfEach 0 sz kv kn ks wd (fun (wd_4 : Nat → Nat → Int64) => wp_X5_plan_45 x1 sz kv kn ks K X n (x2 + (-1 : Int32)) wd_4))))))
set_option maxRecDepth 20000 in
def wp_X5_plan (x1 : Int32) (sz : Int32) (pm : Nat → Nat) (kv : Nat → Int32) (kn : Nat → Int32) (kt : Nat → Int32) (ks : Nat → Int32) (kw : Nat → Int32) (wd : Nat → Nat → Int64) (fw : Nat → Nat → Int32) (md : Int32) (K : Int32 → (Nat → Int32) → (Nat → Nat → Int64) → (Nat → Nat → Int32) → Prop) : Prop :=
  ((x1 < 0 → K (0 : Int32) kw wd fw) ∧ (¬ x1 < 0 → ((x1 ≤ (999 : Int32) → jn (fun (Z3 : Int32 → Prop) => ((¬ md = (1 : Int32) → Z3 (0 : Int32)) ∧ (md = (1 : Int32) → wp_X3_fewestInTube sz kn kt ks (fun (r_11 : Int32)  => Z3 r_11)))) (fun (xs0_3 : Int32) => wp_X3_collect 0 xs0_3 sz kv kn kt ks wd (fun (wd_4 : Nat → Nat → Int64) => ∃ n5 : Nat, wp_X5_plan_45 x1 sz kv kn ks K (fun (x2_5 : Int32) (wd_5 : Nat → Nat → Int64) => wp_X2_has 0 x1 wd_5 (fun (r_6 : Int32)  => ((r_6 = 0 → K (0 : Int32) kw wd_5 fw) ∧ (¬ r_6 = 0 → wp_X4_choose x1 x2_5 sz pm kv kn kt ks kw fw (fun (r_8 : Int32) (kw_8 : Nat → Int32) (fw_8 : Nat → Nat → Int32) => ((r_8 = 0 → K (0 : Int32) kw_8 wd_5 fw_8) ∧ (¬ r_8 = 0 → K (1 : Int32) kw_8 wd_5 fw_8))))))) n5 xs0_3 wd_4))) ∧ (¬ x1 ≤ (999 : Int32) → K (0 : Int32) kw wd fw))))
theorem dX5_plan_0 : decode cX5_plan 0 = .ok (.iload_n 1, 1) := by decide +kernel
theorem dX5_plan_1 : decode cX5_plan 1 = .ok (.ifCond .lt 10, 3) := by decide +kernel
theorem dX5_plan_4 : decode cX5_plan 4 = .ok (.iload_n 1, 1) := by decide +kernel
theorem dX5_plan_5 : decode cX5_plan 5 = .ok (.sipush 999, 3) := by decide +kernel
theorem dX5_plan_8 : decode cX5_plan 8 = .ok (.if_icmp .le 5, 3) := by decide +kernel
theorem dX5_plan_11 : decode cX5_plan 11 = .ok (.iconst 0, 1) := by decide +kernel
theorem dX5_plan_12 : decode cX5_plan 12 = .ok (.ireturn, 1) := by decide +kernel
theorem dX5_plan_13 : decode cX5_plan 13 = .ok (.aload_n 0, 1) := by decide +kernel
theorem dX5_plan_14 : decode cX5_plan 14 = .ok (.getfield 41, 3) := by decide +kernel
theorem dX5_plan_17 : decode cX5_plan 17 = .ok (.iconst 1, 1) := by decide +kernel
theorem dX5_plan_18 : decode cX5_plan 18 = .ok (.if_icmp .ne 13, 3) := by decide +kernel
theorem dX5_plan_21 : decode cX5_plan 21 = .ok (.aload_n 0, 1) := by decide +kernel
theorem dX5_plan_22 : decode cX5_plan 22 = .ok (.getfield 12, 3) := by decide +kernel
theorem dX5_plan_25 : decode cX5_plan 25 = .ok (.invokevirtual 160, 3) := by decide +kernel
theorem dX5_plan_28 : decode cX5_plan 28 = .ok (.goto 4, 3) := by decide +kernel
theorem dX5_plan_31 : decode cX5_plan 31 = .ok (.iconst 0, 1) := by decide +kernel
theorem dX5_plan_32 : decode cX5_plan 32 = .ok (.istore_n 2, 1) := by decide +kernel
theorem dX5_plan_33 : decode cX5_plan 33 = .ok (.aload_n 0, 1) := by decide +kernel
theorem dX5_plan_34 : decode cX5_plan 34 = .ok (.getfield 12, 3) := by decide +kernel
theorem dX5_plan_37 : decode cX5_plan 37 = .ok (.aload_n 0, 1) := by decide +kernel
theorem dX5_plan_38 : decode cX5_plan 38 = .ok (.getfield 19, 3) := by decide +kernel
theorem dX5_plan_41 : decode cX5_plan 41 = .ok (.iload_n 2, 1) := by decide +kernel
theorem dX5_plan_42 : decode cX5_plan 42 = .ok (.invokevirtual 123, 3) := by decide +kernel
theorem dX5_plan_45 : decode cX5_plan 45 = .ok (.iload_n 2, 1) := by decide +kernel
theorem dX5_plan_46 : decode cX5_plan 46 = .ok (.ifCond .le 31, 3) := by decide +kernel
theorem dX5_plan_49 : decode cX5_plan 49 = .ok (.aload_n 0, 1) := by decide +kernel
theorem dX5_plan_50 : decode cX5_plan 50 = .ok (.getfield 19, 3) := by decide +kernel
theorem dX5_plan_53 : decode cX5_plan 53 = .ok (.iload_n 1, 1) := by decide +kernel
theorem dX5_plan_54 : decode cX5_plan 54 = .ok (.invokevirtual 163, 3) := by decide +kernel
theorem dX5_plan_57 : decode cX5_plan 57 = .ok (.ifCond .ne 20, 3) := by decide +kernel
theorem dX5_plan_60 : decode cX5_plan 60 = .ok (.aload_n 0, 1) := by decide +kernel
theorem dX5_plan_61 : decode cX5_plan 61 = .ok (.getfield 12, 3) := by decide +kernel
theorem dX5_plan_64 : decode cX5_plan 64 = .ok (.aload_n 0, 1) := by decide +kernel
theorem dX5_plan_65 : decode cX5_plan 65 = .ok (.getfield 19, 3) := by decide +kernel
theorem dX5_plan_68 : decode cX5_plan 68 = .ok (.invokevirtual 166, 3) := by decide +kernel
theorem dX5_plan_71 : decode cX5_plan 71 = .ok (.iinc 2 (-1), 3) := by decide +kernel
theorem dX5_plan_74 : decode cX5_plan 74 = .ok (.goto (-29), 3) := by decide +kernel
theorem dX5_plan_77 : decode cX5_plan 77 = .ok (.aload_n 0, 1) := by decide +kernel
theorem dX5_plan_78 : decode cX5_plan 78 = .ok (.getfield 19, 3) := by decide +kernel
theorem dX5_plan_81 : decode cX5_plan 81 = .ok (.iload_n 1, 1) := by decide +kernel
theorem dX5_plan_82 : decode cX5_plan 82 = .ok (.invokevirtual 163, 3) := by decide +kernel
theorem dX5_plan_85 : decode cX5_plan 85 = .ok (.ifCond .eq 23, 3) := by decide +kernel
theorem dX5_plan_88 : decode cX5_plan 88 = .ok (.aload_n 0, 1) := by decide +kernel
theorem dX5_plan_89 : decode cX5_plan 89 = .ok (.getfield 26, 3) := by decide +kernel
theorem dX5_plan_92 : decode cX5_plan 92 = .ok (.aload_n 0, 1) := by decide +kernel
theorem dX5_plan_93 : decode cX5_plan 93 = .ok (.getfield 12, 3) := by decide +kernel
theorem dX5_plan_96 : decode cX5_plan 96 = .ok (.iload_n 1, 1) := by decide +kernel
theorem dX5_plan_97 : decode cX5_plan 97 = .ok (.iload_n 2, 1) := by decide +kernel
theorem dX5_plan_98 : decode cX5_plan 98 = .ok (.invokevirtual 170, 3) := by decide +kernel
theorem dX5_plan_101 : decode cX5_plan 101 = .ok (.ifCond .eq 7, 3) := by decide +kernel
theorem dX5_plan_104 : decode cX5_plan 104 = .ok (.iconst 1, 1) := by decide +kernel
theorem dX5_plan_105 : decode cX5_plan 105 = .ok (.goto 4, 3) := by decide +kernel
theorem dX5_plan_108 : decode cX5_plan 108 = .ok (.iconst 0, 1) := by decide +kernel
theorem dX5_plan_109 : decode cX5_plan 109 = .ok (.ireturn, 1) := by decide +kernel
set_option maxRecDepth 20000 in
set_option maxHeartbeats 4000000 in
theorem wk_X5_plan_45 {Γ : GT} {a : Nat → Nat} {q : Nat → ClassId} {x1 : Int32}  {sz : Int32} {pr : Nat → Int32} {pm : Nat → Nat} {kv : Nat → Int32} {kn : Nat → Int32} {kr : Nat → Int32} {kt : Nat → Int32} {kb : Nat → Int32} {ks : Nat → Int32} {kj : Nat → Int32} {kw : Nat → Int32} {kg : Nat → Int32} {fw : Nat → Nat → Int32} {ad : Nat → Int32} {bk : Nat → Int32} {md : Int32} {cr : Int32} {ow : Int32} {hd : Int32} {K : Int32 → (Nat → Int32) → (Nat → Nat → Int64) → (Nat → Nat → Int32) → Prop} {X : Int32 → (Nat → Nat → Int64) → Prop} (g : gd Γ cX5_plan RX5 3 (rmz 3 86) q) (hret : rtZ_3 Γ cX5_plan 3 (fun (kw : Nat → Int32) (wd : Nat → Nat → Int64) (fw : Nat → Nat → Int32) => (cgW a q sz pr pm kv kn kr kt kb ks kj kw kg wd fw ad bk md cr ow hd)) K) (hX : ∀ (x2 : Int32) (wd : Nat → Nat → Int64) , X x2 wd → jw Γ 3 0 0 (cgW a q sz pr pm kv kn kr kt kb ks kj kw kg wd fw ad bk md cr ow hd) [(0, .ref (a 0)), (1, .int x1), (2, .int x2)] [] 77) :
    ∀ (n : Nat) (x2 : Int32) (wd : Nat → Nat → Int64) , wp_X5_plan_45 x1 sz kv kn ks K X n x2 wd → jw Γ 3 0 0 (cgW a q sz pr pm kv kn kr kt kb ks kj kw kg wd fw ad bk md cr ow hd) [(0, .ref (a 0)), (1, .int x1), (2, .int x2)] [] 45 := by
  intro n
  induction n with
  | zero =>
    intro _ _ h
    exact False.elim h
  | succ n ih =>
    intro x2 wd h
    unfold wp_X5_plan_45 at h
    refine j_iload_n g 2 rfl dX5_plan_45 ?_
    refine j_if_le g dX5_plan_46 (tgt := 77) (by decide) (fun c1 => ?_) (fun c1 => ?_)
    · replace h := h.1 c1
      exact hX x2 wd h
    replace h := h.2 c1
    refine j_aload_n g 0 rfl dX5_plan_49 ?_
    refine j_get g fl_X5_19 0 cg_0 rfl dX5_plan_50 ?_
    refine j_iload_n g 1 rfl dX5_plan_53 ?_
    refine j_callVZ_0 g (As := [.int x1]) (st := []) (c_X2_has (Nat.zero_lt_succ 5) h) cl_X5_163 (17 + 0) 2 (cg_S (Nat.zero_lt_succ 5)) rfl rfl (Nat.le_of_ble_eq_true rfl) (Nat.le_of_ble_eq_true rfl) (Nat.zero_le _) (Nat.zero_le _) rfl rfl (Nat.le_of_ble_eq_true rfl) dX5_plan_54 (fun r_2  hz_2 h => ?_)
    refine j_if_ne g dX5_plan_57 (tgt := 77) (by decide) (fun c3 => ?_) (fun c3 => ?_)
    · replace h := h.1 c3
      exact hX x2 wd h
    replace h := h.2 c3
    refine j_aload_n g 0 rfl dX5_plan_60 ?_
    refine j_get g fl_X5_12 0 cg_0 rfl dX5_plan_61 ?_
    refine j_aload_n g 0 rfl dX5_plan_64 ?_
    refine j_get g fl_X5_19 0 cg_0 rfl dX5_plan_65 ?_
    refine j_callVV_1 g (As := [.ref (a (17 + 0))]) (st := []) (c_X3_collectOneOfEach (Nat.zero_lt_succ 5) h) cl_X5_166 1 3 cg_1 rfl rfl (Nat.le_of_ble_eq_true rfl) (Nat.le_of_ble_eq_true rfl) (Nat.zero_le _) (Nat.zero_le _) rfl rfl (Nat.le_of_ble_eq_true rfl) dX5_plan_68 (fun wd_4 h => ?_)
    refine j_ws (ws' := (cgW a q sz pr pm kv kn kr kt kb ks kj kw kg wd_4 fw ad bk md cr ow hd)) rfl ?_
    refine j_iinc g 2 (n := -1) (v := x2 + (-1 : Int32)) (lv' := [(2, .int (x2 + (-1 : Int32))), (0, .ref (a 0)), (1, .int x1)]) rfl rfl (by decide) rfl dX5_plan_71 ?_
    refine j_goto g dX5_plan_74 (tgt := 45) (by decide) ?_
    refine j_sub [1, 2, 0] rfl ?_
    exact ih (x2 + (-1 : Int32)) wd_4 h
set_option maxRecDepth 20000 in
set_option maxHeartbeats 4000000 in
theorem c_X5_plan {a : Nat → Nat} {q : Nat → ClassId} {x1 : Int32}  {sz : Int32} {pr : Nat → Int32} {pm : Nat → Nat} {kv : Nat → Int32} {kn : Nat → Int32} {kr : Nat → Int32} {kt : Nat → Int32} {kb : Nat → Int32} {ks : Nat → Int32} {kj : Nat → Int32} {kw : Nat → Int32} {kg : Nat → Int32} {wd : Nat → Nat → Int64} {fw : Nat → Nat → Int32} {ad : Nat → Int32} {bk : Nat → Int32} {md : Int32} {cr : Int32} {ow : Int32} {hd : Int32} {K : Int32 → (Nat → Int32) → (Nat → Nat → Int64) → (Nat → Nat → Int32) → Prop} (h : wp_X5_plan x1 sz pm kv kn kt ks kw wd fw md K) : ctZ_3 q yX5_plan cX5_plan 3 3 86 [.ref (a 0), .int x1] (cgW a q sz pr pm kv kn kr kt kb ks kj kw kg wd fw ad bk md cr ow hd) (fun (kw : Nat → Int32) (wd : Nat → Nat → Int64) (fw : Nat → Nat → Int32) => (cgW a q sz pr pm kv kn kr kt kb ks kj kw kg wd fw ad bk md cr ow hd)) K := by
  refine met_Z_3 (by decide) (Nat.le_of_ble_eq_true rfl) (fun Γ g hret => ?_)
  unfold wp_X5_plan at h
  show jw Γ 3 0 0 (cgW a q sz pr pm kv kn kr kt kb ks kj kw kg wd fw ad bk md cr ow hd) [(0, .ref (a 0)), (1, .int x1)] [] 0
  refine j_iload_n g 1 rfl dX5_plan_0 ?_
  refine j_if_lt g dX5_plan_1 (tgt := 11) (by decide) (fun c1 => ?_) (fun c1 => ?_)
  · replace h := h.1 c1
    refine j_iconst g (v := 0) (by decide) dX5_plan_11 ?_
    exact hret.go dX5_plan_12 (Or.inl rfl) h
  replace h := h.2 c1
  refine j_iload_n g 1 rfl dX5_plan_4 ?_
  refine j_sipush g (v := 999) (by decide) dX5_plan_5 ?_
  refine j_icmp_le g dX5_plan_8 (tgt := 13) (by decide) (fun c2 => ?_) (fun c2 => ?_)
  rotate_left
  · replace h := h.2 c2
    refine j_iconst g (v := 0) (by decide) dX5_plan_11 ?_
    exact hret.go dX5_plan_12 (Or.inl rfl) h
  replace h := h.1 c2
  refine j_aload_n g 0 rfl dX5_plan_13 ?_
  refine j_get g fl_X5_41 0 cg_0 rfl dX5_plan_14 ?_
  refine j_iconst g (v := 1) (by decide) dX5_plan_17 ?_
  refine jn_cut h (fun Z3 eZ3 h => ?_)
  have hZ3 : ∀ (xs0_3 : Int32), Z3 xs0_3 → jw Γ 3 0 0 (cgW a q sz pr pm kv kn kr kt kb ks kj kw kg wd fw ad bk md cr ow hd) [(0, .ref (a 0)), (1, .int x1)] [.int xs0_3] 32 := by
    intro xs0_3 h
    rw [eZ3] at h
    refine j_istore_n g (lv' := [(2, .int xs0_3), (0, .ref (a 0)), (1, .int x1)]) (by decide) rfl dX5_plan_32 ?_
    refine j_aload_n g 1 rfl dX5_plan_33 ?_
    refine j_get g fl_X5_12 0 cg_0 rfl dX5_plan_34 ?_
    refine j_aload_n g 1 rfl dX5_plan_37 ?_
    refine j_get g fl_X5_19 0 cg_0 rfl dX5_plan_38 ?_
    refine j_iload_n g 0 rfl dX5_plan_41 ?_
    refine j_callVV_1 g (As := [.ref (a (17 + 0)), .int xs0_3]) (st := []) (c_X3_collect (Nat.zero_lt_succ 5) h) cl_X5_123 1 3 cg_1 rfl rfl (Nat.le_of_ble_eq_true rfl) (Nat.le_of_ble_eq_true rfl) (Nat.zero_le _) (Nat.zero_le _) rfl rfl (Nat.le_of_ble_eq_true rfl) dX5_plan_42 (fun wd_4 h => ?_)
    refine j_ws (ws' := (cgW a q sz pr pm kv kn kr kt kb ks kj kw kg wd_4 fw ad bk md cr ow hd)) rfl ?_
    obtain ⟨n5, h⟩ := h
    refine j_sub [1, 2, 0] rfl ?_
    refine wk_X5_plan_45  g hret (fun x2_5 wd_5 h => ?_) n5 xs0_3 wd_4 h
    refine j_aload_n g 0 rfl dX5_plan_77 ?_
    refine j_get g fl_X5_19 0 cg_0 rfl dX5_plan_78 ?_
    refine j_iload_n g 1 rfl dX5_plan_81 ?_
    refine j_callVZ_0 g (As := [.int x1]) (st := []) (c_X2_has (Nat.zero_lt_succ 5) h) cl_X5_163 (17 + 0) 2 (cg_S (Nat.zero_lt_succ 5)) rfl rfl (Nat.le_of_ble_eq_true rfl) (Nat.le_of_ble_eq_true rfl) (Nat.zero_le _) (Nat.zero_le _) rfl rfl (Nat.le_of_ble_eq_true rfl) dX5_plan_82 (fun r_6  hz_6 h => ?_)
    refine j_if_eq g dX5_plan_85 (tgt := 108) (by decide) (fun c7 => ?_) (fun c7 => ?_)
    · replace h := h.1 c7
      refine j_iconst g (v := 0) (by decide) dX5_plan_108 ?_
      exact hret.go dX5_plan_109 (Or.inl rfl) h
    replace h := h.2 c7
    refine j_aload_n g 0 rfl dX5_plan_88 ?_
    refine j_get g fl_X5_26 0 cg_0 rfl dX5_plan_89 ?_
    refine j_aload_n g 0 rfl dX5_plan_92 ?_
    refine j_get g fl_X5_12 0 cg_0 rfl dX5_plan_93 ?_
    refine j_iload_n g 1 rfl dX5_plan_96 ?_
    refine j_iload_n g 2 rfl dX5_plan_97 ?_
    refine j_callVZ_2 g (As := [.ref (a 1), .int x1, .int x2_5]) (st := []) (c_X4_choose  h) cl_X5_170 6 4 cg_6 rfl rfl (Nat.le_of_ble_eq_true rfl) (Nat.le_of_ble_eq_true rfl) (Nat.zero_le _) (Nat.zero_le _) rfl rfl (Nat.le_of_ble_eq_true rfl) dX5_plan_98 (fun r_8 kw_8 fw_8 hz_8 h => ?_)
    refine j_ws (ws' := (cgW a q sz pr pm kv kn kr kt kb ks kj kw_8 kg wd_5 fw_8 ad bk md cr ow hd)) rfl ?_
    refine j_if_eq g dX5_plan_101 (tgt := 108) (by decide) (fun c9 => ?_) (fun c9 => ?_)
    · replace h := h.1 c9
      refine j_iconst g (v := 0) (by decide) dX5_plan_108 ?_
      exact hret.go dX5_plan_109 (Or.inl rfl) h
    replace h := h.2 c9
    refine j_iconst g (v := 1) (by decide) dX5_plan_104 ?_
    refine j_goto g dX5_plan_105 (tgt := 109) (by decide) ?_
    exact hret.go dX5_plan_109 (Or.inr rfl) h
  refine j_icmp_ne g dX5_plan_18 (tgt := 31) (by decide) (fun c10 => ?_) (fun c10 => ?_)
  · replace h := h.1 c10
    refine j_iconst g (v := 0) (by decide) dX5_plan_31 ?_
    exact hZ3 (0 : Int32) h
  replace h := h.2 c10
  refine j_aload_n g 0 rfl dX5_plan_21 ?_
  refine j_get g fl_X5_12 0 cg_0 rfl dX5_plan_22 ?_
  refine j_callVI_0 g (As := []) (st := []) (c_X3_fewestInTube  h) cl_X5_160 1 3 cg_1 rfl rfl (Nat.le_of_ble_eq_true rfl) (Nat.le_of_ble_eq_true rfl) (Nat.zero_le _) (Nat.zero_le _) rfl rfl (Nat.le_of_ble_eq_true rfl) dX5_plan_25 (fun r_11   h => ?_)
  refine j_goto g dX5_plan_28 (tgt := 32) (by decide) ?_
  exact hZ3 r_11 h

set_option maxRecDepth 20000 in
def wp_X5_giveByWay_37 (x3 : Int32) (i4 : Nat) (x5 : Int32) (kv : Nat → Int32) (K : Int32 → (Nat → Int32) → (Nat → Int32) → (Nat → Int32) → (Nat → Int32) → Prop) (X : Int32 → (Nat → Int32) → (Nat → Int32) → (Nat → Int32) → (Nat → Int32) → Prop) : Nat → Int32 → Int32 → (Nat → Int32) → (Nat → Int32) → (Nat → Int32) → (Nat → Int32) → Prop
  | 0, _, _, _, _, _, _ => False
  | n + 1, x2, x6, kt, ks, kj, kg => ((x5 ≤ x6 → X x2 kt ks kj kg) ∧ (¬ x5 ≤ x6 → wp_X0_release i4 kt ks kj kg (fun (r_2 : Int32) (kt_2 : Nat → Int32) (ks_2 : Nat → Int32) (kj_2 : Nat → Int32) (kg_2 : Nat → Int32) => ((¬ r_2 = 0 → wp_X5_giveByWay_37 x3 i4 x5 kv K X n (x2 - (kv i4)) (x6 + 1) kt_2 ks_2 kj_2 kg_2) ∧ (r_2 = 0 → K x2 kt_2 ks_2 kj_2 kg_2)))))
set_option maxRecDepth 20000 in
def wp_X5_giveByWay_12  (pm : Nat → Nat) (kv : Nat → Int32) (kw : Nat → Int32) (K : Int32 → (Nat → Int32) → (Nat → Int32) → (Nat → Int32) → (Nat → Int32) → Prop) (X : Int32 → (Nat → Int32) → (Nat → Int32) → (Nat → Int32) → (Nat → Int32) → Prop) : Nat → Int32 → Int32 → (Nat → Int32) → (Nat → Int32) → (Nat → Int32) → (Nat → Int32) → Prop
  | 0, _, _, _, _, _, _ => False
  | n + 1, x2, x3, kt, ks, kj, kg => ((x3 < 0 → X x2 kt ks kj kg) ∧ (¬ x3 < 0 → (vp_in x3 6 ∧ pm x3.toNatClampNeg < 6 ∧ ∃ n3 : Nat, wp_X5_giveByWay_37 x3 (pm x3.toNatClampNeg) (kw (pm x3.toNatClampNeg)) kv K (fun (x2_3 : Int32) (kt_3 : Nat → Int32) (ks_3 : Nat → Int32) (kj_3 : Nat → Int32) (kg_3 : Nat → Int32) => wp_X5_giveByWay_12 pm kv kw K X n x2_3 (x3 + (-1 : Int32)) kt_3 ks_3 kj_3 kg_3) n3 x2 (0 : Int32) kt ks kj kg)))
set_option maxRecDepth 20000 in
def wp_X5_giveByWay (x1 : Int32) (sz : Int32) (pm : Nat → Nat) (kv : Nat → Int32) (kt : Nat → Int32) (ks : Nat → Int32) (kj : Nat → Int32) (kw : Nat → Int32) (kg : Nat → Int32) (K : Int32 → (Nat → Int32) → (Nat → Int32) → (Nat → Int32) → (Nat → Int32) → Prop) : Prop :=
  ∃ n1 : Nat, wp_X5_giveByWay_12 pm kv kw K (fun (x2_1 : Int32) (kt_1 : Nat → Int32) (ks_1 : Nat → Int32) (kj_1 : Nat → Int32) (kg_1 : Nat → Int32) => K x2_1 kt_1 ks_1 kj_1 kg_1) n1 x1 (sz - (1 : Int32)) kt ks kj kg
theorem dX5_giveByWay_0 : decode cX5_giveByWay 0 = .ok (.iload_n 1, 1) := by decide +kernel
theorem dX5_giveByWay_1 : decode cX5_giveByWay 1 = .ok (.istore_n 2, 1) := by decide +kernel
theorem dX5_giveByWay_2 : decode cX5_giveByWay 2 = .ok (.aload_n 0, 1) := by decide +kernel
theorem dX5_giveByWay_3 : decode cX5_giveByWay 3 = .ok (.getfield 12, 3) := by decide +kernel
theorem dX5_giveByWay_6 : decode cX5_giveByWay 6 = .ok (.getfield 137, 3) := by decide +kernel
theorem dX5_giveByWay_9 : decode cX5_giveByWay 9 = .ok (.iconst 1, 1) := by decide +kernel
theorem dX5_giveByWay_10 : decode cX5_giveByWay 10 = .ok (.isub, 1) := by decide +kernel
theorem dX5_giveByWay_11 : decode cX5_giveByWay 11 = .ok (.istore_n 3, 1) := by decide +kernel
theorem dX5_giveByWay_12 : decode cX5_giveByWay 12 = .ok (.iload_n 3, 1) := by decide +kernel
theorem dX5_giveByWay_13 : decode cX5_giveByWay 13 = .ok (.ifCond .lt 61, 3) := by decide +kernel
theorem dX5_giveByWay_16 : decode cX5_giveByWay 16 = .ok (.aload_n 0, 1) := by decide +kernel
theorem dX5_giveByWay_17 : decode cX5_giveByWay 17 = .ok (.getfield 12, 3) := by decide +kernel
theorem dX5_giveByWay_20 : decode cX5_giveByWay 20 = .ok (.getfield 183, 3) := by decide +kernel
theorem dX5_giveByWay_23 : decode cX5_giveByWay 23 = .ok (.iload_n 3, 1) := by decide +kernel
theorem dX5_giveByWay_24 : decode cX5_giveByWay 24 = .ok (.aaload, 1) := by decide +kernel
theorem dX5_giveByWay_25 : decode cX5_giveByWay 25 = .ok (.astore 4, 2) := by decide +kernel
theorem dX5_giveByWay_27 : decode cX5_giveByWay 27 = .ok (.aload 4, 2) := by decide +kernel
theorem dX5_giveByWay_29 : decode cX5_giveByWay 29 = .ok (.getfield 117, 3) := by decide +kernel
theorem dX5_giveByWay_32 : decode cX5_giveByWay 32 = .ok (.istore 5, 2) := by decide +kernel
theorem dX5_giveByWay_34 : decode cX5_giveByWay 34 = .ok (.iconst 0, 1) := by decide +kernel
theorem dX5_giveByWay_35 : decode cX5_giveByWay 35 = .ok (.istore 6, 2) := by decide +kernel
theorem dX5_giveByWay_37 : decode cX5_giveByWay 37 = .ok (.iload 6, 2) := by decide +kernel
theorem dX5_giveByWay_39 : decode cX5_giveByWay 39 = .ok (.iload 5, 2) := by decide +kernel
theorem dX5_giveByWay_41 : decode cX5_giveByWay 41 = .ok (.if_icmp .ge 27, 3) := by decide +kernel
theorem dX5_giveByWay_44 : decode cX5_giveByWay 44 = .ok (.aload 4, 2) := by decide +kernel
theorem dX5_giveByWay_46 : decode cX5_giveByWay 46 = .ok (.invokevirtual 187, 3) := by decide +kernel
theorem dX5_giveByWay_49 : decode cX5_giveByWay 49 = .ok (.ifCond .ne 5, 3) := by decide +kernel
theorem dX5_giveByWay_52 : decode cX5_giveByWay 52 = .ok (.iload_n 2, 1) := by decide +kernel
theorem dX5_giveByWay_53 : decode cX5_giveByWay 53 = .ok (.ireturn, 1) := by decide +kernel
theorem dX5_giveByWay_54 : decode cX5_giveByWay 54 = .ok (.iload_n 2, 1) := by decide +kernel
theorem dX5_giveByWay_55 : decode cX5_giveByWay 55 = .ok (.aload 4, 2) := by decide +kernel
theorem dX5_giveByWay_57 : decode cX5_giveByWay 57 = .ok (.getfield 74, 3) := by decide +kernel
theorem dX5_giveByWay_60 : decode cX5_giveByWay 60 = .ok (.isub, 1) := by decide +kernel
theorem dX5_giveByWay_61 : decode cX5_giveByWay 61 = .ok (.istore_n 2, 1) := by decide +kernel
theorem dX5_giveByWay_62 : decode cX5_giveByWay 62 = .ok (.iinc 6 1, 3) := by decide +kernel
theorem dX5_giveByWay_65 : decode cX5_giveByWay 65 = .ok (.goto (-28), 3) := by decide +kernel
theorem dX5_giveByWay_68 : decode cX5_giveByWay 68 = .ok (.iinc 3 (-1), 3) := by decide +kernel
theorem dX5_giveByWay_71 : decode cX5_giveByWay 71 = .ok (.goto (-59), 3) := by decide +kernel
theorem dX5_giveByWay_74 : decode cX5_giveByWay 74 = .ok (.iload_n 2, 1) := by decide +kernel
theorem dX5_giveByWay_75 : decode cX5_giveByWay 75 = .ok (.ireturn, 1) := by decide +kernel
set_option maxRecDepth 20000 in
set_option maxHeartbeats 4000000 in
theorem wk_X5_giveByWay_37 {Γ : GT} {a : Nat → Nat} {q : Nat → ClassId} {x3 : Int32} {i4 : Nat} {x5 : Int32} (hi4 : i4 < 6) {sz : Int32} {pr : Nat → Int32} {pm : Nat → Nat} {kv : Nat → Int32} {kn : Nat → Int32} {kr : Nat → Int32} {kb : Nat → Int32} {kw : Nat → Int32} {wd : Nat → Nat → Int64} {fw : Nat → Nat → Int32} {ad : Nat → Int32} {bk : Nat → Int32} {md : Int32} {cr : Int32} {ow : Int32} {hd : Int32} {K : Int32 → (Nat → Int32) → (Nat → Int32) → (Nat → Int32) → (Nat → Int32) → Prop} {X : Int32 → (Nat → Int32) → (Nat → Int32) → (Nat → Int32) → (Nat → Int32) → Prop} (g : gd Γ cX5_giveByWay RX5 7 (rmz 1 20) q) (hret : rtI_4 Γ cX5_giveByWay 7 (fun (kt : Nat → Int32) (ks : Nat → Int32) (kj : Nat → Int32) (kg : Nat → Int32) => (cgW a q sz pr pm kv kn kr kt kb ks kj kw kg wd fw ad bk md cr ow hd)) K) (hX : ∀ (x2 : Int32) (kt : Nat → Int32) (ks : Nat → Int32) (kj : Nat → Int32) (kg : Nat → Int32) , X x2 kt ks kj kg → jw Γ 7 0 0 (cgW a q sz pr pm kv kn kr kt kb ks kj kw kg wd fw ad bk md cr ow hd) [(0, .ref (a 0)), (2, .int x2), (3, .int x3)] [] 68) :
    ∀ (n : Nat) (x2 : Int32) (x6 : Int32) (kt : Nat → Int32) (ks : Nat → Int32) (kj : Nat → Int32) (kg : Nat → Int32) , wp_X5_giveByWay_37 x3 i4 x5 kv K X n x2 x6 kt ks kj kg → jw Γ 7 0 0 (cgW a q sz pr pm kv kn kr kt kb ks kj kw kg wd fw ad bk md cr ow hd) [(0, .ref (a 0)), (2, .int x2), (3, .int x3), (4, .ref (a (11 + i4))), (5, .int x5), (6, .int x6)] [] 37 := by
  intro n
  induction n with
  | zero =>
    intro _ _ _ _ _ _ h
    exact False.elim h
  | succ n ih =>
    intro x2 x6 kt ks kj kg h
    unfold wp_X5_giveByWay_37 at h
    refine j_iload g 5 rfl dX5_giveByWay_37 ?_
    refine j_iload g 4 rfl dX5_giveByWay_39 ?_
    refine j_icmp_ge g dX5_giveByWay_41 (tgt := 68) (by decide) (fun c1 => ?_) (fun c1 => ?_)
    · replace h := h.1 c1
      refine j_sub [0, 1, 2] rfl ?_
      exact hX x2 kt ks kj kg h
    replace h := h.2 c1
    refine j_aload g 3 rfl dX5_giveByWay_44 ?_
    refine j_callVZ_4 g (As := []) (st := []) (c_X0_release hi4 h) cl_X5_187 (11 + i4) 0 (cg_K hi4) rfl rfl (Nat.le_of_ble_eq_true rfl) (Nat.le_of_ble_eq_true rfl) (Nat.zero_le _) (Nat.zero_le _) rfl rfl (Nat.le_of_ble_eq_true rfl) dX5_giveByWay_46 (fun r_2 kt_2 ks_2 kj_2 kg_2 hz_2 h => ?_)
    refine j_ws (ws' := (cgW a q sz pr pm kv kn kr kt_2 kb ks_2 kj_2 kw kg_2 wd fw ad bk md cr ow hd)) rfl ?_
    refine j_if_ne g dX5_giveByWay_49 (tgt := 54) (by decide) (fun c3 => ?_) (fun c3 => ?_)
    rotate_left
    · replace h := h.2 c3
      refine j_iload_n g 1 rfl dX5_giveByWay_52 ?_
      exact hret.go dX5_giveByWay_53 h
    replace h := h.1 c3
    refine j_iload_n g 1 rfl dX5_giveByWay_54 ?_
    refine j_aload g 3 rfl dX5_giveByWay_55 ?_
    refine j_get g fl_X5_74 (11 + i4) (cg_K hi4) rfl dX5_giveByWay_57 ?_
    refine j_isub g dX5_giveByWay_60 ?_
    refine j_istore_n g (lv' := [(2, .int (x2 - (kv i4))), (0, .ref (a 0)), (3, .int x3), (4, .ref (a (11 + i4))), (5, .int x5), (6, .int x6)]) (by decide) rfl dX5_giveByWay_61 ?_
    refine j_iinc g 5 (n := 1) (v := x6 + 1) (lv' := [(6, .int (x6 + 1)), (2, .int (x2 - (kv i4))), (0, .ref (a 0)), (3, .int x3), (4, .ref (a (11 + i4))), (5, .int x5)]) rfl rfl (by decide) rfl dX5_giveByWay_62 ?_
    refine j_goto g dX5_giveByWay_65 (tgt := 37) (by decide) ?_
    refine j_sub [2, 1, 3, 4, 5, 0] rfl ?_
    exact ih (x2 - (kv i4)) (x6 + 1) kt_2 ks_2 kj_2 kg_2 h
set_option maxRecDepth 20000 in
set_option maxHeartbeats 4000000 in
theorem wk_X5_giveByWay_12 {Γ : GT} {a : Nat → Nat} {q : Nat → ClassId}   {sz : Int32} {pr : Nat → Int32} {pm : Nat → Nat} {kv : Nat → Int32} {kn : Nat → Int32} {kr : Nat → Int32} {kb : Nat → Int32} {kw : Nat → Int32} {wd : Nat → Nat → Int64} {fw : Nat → Nat → Int32} {ad : Nat → Int32} {bk : Nat → Int32} {md : Int32} {cr : Int32} {ow : Int32} {hd : Int32} {K : Int32 → (Nat → Int32) → (Nat → Int32) → (Nat → Int32) → (Nat → Int32) → Prop} {X : Int32 → (Nat → Int32) → (Nat → Int32) → (Nat → Int32) → (Nat → Int32) → Prop} (g : gd Γ cX5_giveByWay RX5 7 (rmz 1 20) q) (hret : rtI_4 Γ cX5_giveByWay 7 (fun (kt : Nat → Int32) (ks : Nat → Int32) (kj : Nat → Int32) (kg : Nat → Int32) => (cgW a q sz pr pm kv kn kr kt kb ks kj kw kg wd fw ad bk md cr ow hd)) K) (hX : ∀ (x2 : Int32) (kt : Nat → Int32) (ks : Nat → Int32) (kj : Nat → Int32) (kg : Nat → Int32) , X x2 kt ks kj kg → jw Γ 7 0 0 (cgW a q sz pr pm kv kn kr kt kb ks kj kw kg wd fw ad bk md cr ow hd) [(2, .int x2)] [] 74) :
    ∀ (n : Nat) (x2 : Int32) (x3 : Int32) (kt : Nat → Int32) (ks : Nat → Int32) (kj : Nat → Int32) (kg : Nat → Int32) , wp_X5_giveByWay_12 pm kv kw K X n x2 x3 kt ks kj kg → jw Γ 7 0 0 (cgW a q sz pr pm kv kn kr kt kb ks kj kw kg wd fw ad bk md cr ow hd) [(0, .ref (a 0)), (2, .int x2), (3, .int x3)] [] 12 := by
  intro n
  induction n with
  | zero =>
    intro _ _ _ _ _ _ h
    exact False.elim h
  | succ n ih =>
    intro x2 x3 kt ks kj kg h
    unfold wp_X5_giveByWay_12 at h
    refine j_iload_n g 2 rfl dX5_giveByWay_12 ?_
    refine j_if_lt g dX5_giveByWay_13 (tgt := 74) (by decide) (fun c1 => ?_) (fun c1 => ?_)
    · replace h := h.1 c1
      refine j_sub [1] rfl ?_
      exact hX x2 kt ks kj kg h
    replace h := h.2 c1
    refine j_aload_n g 0 rfl dX5_giveByWay_16 ?_
    refine j_get g fl_X5_12 0 cg_0 rfl dX5_giveByWay_17 ?_
    refine j_get g fl_X5_183 1 cg_1 rfl dX5_giveByWay_20 ?_
    refine j_iload_n g 2 rfl dX5_giveByWay_23 ?_
    obtain ⟨hv2, hv2p, h⟩ := h
    refine j_aald g 3 3 cg_3 rfl (by decide) hv2 rfl dX5_giveByWay_24 ?_
    refine j_astore g (lv' := [(4, .ref (a (11 + (pm x3.toNatClampNeg)))), (0, .ref (a 0)), (2, .int x2), (3, .int x3)]) (by decide) rfl dX5_giveByWay_25 ?_
    refine j_aload g 0 rfl dX5_giveByWay_27 ?_
    refine j_get g fl_X5_117 (11 + (pm x3.toNatClampNeg)) (cg_K hv2p) rfl dX5_giveByWay_29 ?_
    refine j_istore g (lv' := [(5, .int (kw (pm x3.toNatClampNeg))), (4, .ref (a (11 + (pm x3.toNatClampNeg)))), (0, .ref (a 0)), (2, .int x2), (3, .int x3)]) (by decide) rfl dX5_giveByWay_32 ?_
    refine j_iconst g (v := 0) (by decide) dX5_giveByWay_34 ?_
    refine j_istore g (lv' := [(6, .int (0 : Int32)), (5, .int (kw (pm x3.toNatClampNeg))), (4, .ref (a (11 + (pm x3.toNatClampNeg)))), (0, .ref (a 0)), (2, .int x2), (3, .int x3)]) (by decide) rfl dX5_giveByWay_35 ?_
    obtain ⟨n3, h⟩ := h
    refine j_sub [3, 4, 5, 2, 1, 0] rfl ?_
    refine wk_X5_giveByWay_37 hv2p g hret (fun x2_3 kt_3 ks_3 kj_3 kg_3 h => ?_) n3 x2 (0 : Int32) kt ks kj kg h
    refine j_iinc g 2 (n := -1) (v := x3 + (-1 : Int32)) (lv' := [(3, .int (x3 + (-1 : Int32))), (0, .ref (a 0)), (2, .int x2_3)]) rfl rfl (by decide) rfl dX5_giveByWay_68 ?_
    refine j_goto g dX5_giveByWay_71 (tgt := 12) (by decide) ?_
    refine j_sub [1, 2, 0] rfl ?_
    exact ih x2_3 (x3 + (-1 : Int32)) kt_3 ks_3 kj_3 kg_3 h
set_option maxRecDepth 20000 in
set_option maxHeartbeats 4000000 in
theorem c_X5_giveByWay {a : Nat → Nat} {q : Nat → ClassId} {x1 : Int32}  {sz : Int32} {pr : Nat → Int32} {pm : Nat → Nat} {kv : Nat → Int32} {kn : Nat → Int32} {kr : Nat → Int32} {kt : Nat → Int32} {kb : Nat → Int32} {ks : Nat → Int32} {kj : Nat → Int32} {kw : Nat → Int32} {kg : Nat → Int32} {wd : Nat → Nat → Int64} {fw : Nat → Nat → Int32} {ad : Nat → Int32} {bk : Nat → Int32} {md : Int32} {cr : Int32} {ow : Int32} {hd : Int32} {K : Int32 → (Nat → Int32) → (Nat → Int32) → (Nat → Int32) → (Nat → Int32) → Prop} (h : wp_X5_giveByWay x1 sz pm kv kt ks kj kw kg K) : ctI_4 q yX5_giveByWay cX5_giveByWay 7 1 20 [.ref (a 0), .int x1] (cgW a q sz pr pm kv kn kr kt kb ks kj kw kg wd fw ad bk md cr ow hd) (fun (kt : Nat → Int32) (ks : Nat → Int32) (kj : Nat → Int32) (kg : Nat → Int32) => (cgW a q sz pr pm kv kn kr kt kb ks kj kw kg wd fw ad bk md cr ow hd)) K := by
  refine met_I_4 (by decide) (Nat.le_of_ble_eq_true rfl) (fun Γ g hret => ?_)
  unfold wp_X5_giveByWay at h
  show jw Γ 7 0 0 (cgW a q sz pr pm kv kn kr kt kb ks kj kw kg wd fw ad bk md cr ow hd) [(0, .ref (a 0)), (1, .int x1)] [] 0
  refine j_iload_n g 1 rfl dX5_giveByWay_0 ?_
  refine j_istore_n g (lv' := [(2, .int x1), (0, .ref (a 0)), (1, .int x1)]) (by decide) rfl dX5_giveByWay_1 ?_
  refine j_aload_n g 1 rfl dX5_giveByWay_2 ?_
  refine j_get g fl_X5_12 0 cg_0 rfl dX5_giveByWay_3 ?_
  refine j_get g fl_X5_137 1 cg_1 rfl dX5_giveByWay_6 ?_
  refine j_iconst g (v := 1) (by decide) dX5_giveByWay_9 ?_
  refine j_isub g dX5_giveByWay_10 ?_
  refine j_istore_n g (lv' := [(3, .int (sz - (1 : Int32))), (2, .int x1), (0, .ref (a 0)), (1, .int x1)]) (by decide) rfl dX5_giveByWay_11 ?_
  obtain ⟨n1, h⟩ := h
  refine j_sub [2, 1, 0] rfl ?_
  refine wk_X5_giveByWay_12  g hret (fun x2_1 kt_1 ks_1 kj_1 kg_1 h => ?_) n1 x1 (sz - (1 : Int32)) kt ks kj kg h
  refine j_iload_n g 0 rfl dX5_giveByWay_74 ?_
  exact hret.go dX5_giveByWay_75 h

set_option maxRecDepth 20000 in
def wp_X5_giveOut_11 (x1 : Int32) (sz : Int32) (pm : Nat → Nat) (kv : Nat → Int32) (kn : Nat → Int32) (md : Int32) (K : Int32 → (Nat → Int32) → (Nat → Int32) → (Nat → Int32) → (Nat → Int32) → (Nat → Int32) → (Nat → Nat → Int64) → (Nat → Nat → Int32) → (Nat → Int32) → Int32 → Prop) (X : Int32 → (Nat → Int32) → (Nat → Int32) → (Nat → Int32) → (Nat → Int32) → (Nat → Int32) → (Nat → Nat → Int64) → (Nat → Nat → Int32) → Prop) : Nat → Int32 → Int32 → (Nat → Int32) → (Nat → Int32) → (Nat → Int32) → (Nat → Int32) → (Nat → Int32) → (Nat → Nat → Int64) → (Nat → Nat → Int32) → Prop
  | 0, _, _, _, _, _, _, _, _, _ => False
  | n + 1, x2, x3, kt, ks, kj, kw, kg, wd, fw => (((6 : Int32) ≤ x3 → X x2 kt ks kj kw kg wd fw) ∧ (¬ (6 : Int32) ≤ x3 → ((x2 ≤ 0 → X x2 kt ks kj kw kg wd fw) ∧ (¬ x2 ≤ 0 → wp_X5_plan x2 sz pm kv kn kt ks kw wd fw md (fun (r_3 : Int32) (kw_3 : Nat → Int32) (wd_3 : Nat → Nat → Int64) (fw_3 : Nat → Nat → Int32) => ((r_3 = 0 → X x2 kt ks kj kw_3 kg wd_3 fw_3) ∧ (¬ r_3 = 0 → wp_X5_giveByWay x2 sz pm kv kt ks kj kw_3 kg (fun (r_5 : Int32) (kt_5 : Nat → Int32) (ks_5 : Nat → Int32) (kj_5 : Nat → Int32) (kg_5 : Nat → Int32) => wp_X5_giveOut_11 x1 sz pm kv kn md K X n r_5 (x3 + 1) kt_5 ks_5 kj_5 kw_3 kg_5 wd_3 fw_3))))))))
set_option maxRecDepth 20000 in
def wp_X5_giveOut (x1 : Int32) (sz : Int32) (pm : Nat → Nat) (kv : Nat → Int32) (kn : Nat → Int32) (kt : Nat → Int32) (ks : Nat → Int32) (kj : Nat → Int32) (kw : Nat → Int32) (kg : Nat → Int32) (wd : Nat → Nat → Int64) (fw : Nat → Nat → Int32) (bk : Nat → Int32) (md : Int32) (ow : Int32) (K : Int32 → (Nat → Int32) → (Nat → Int32) → (Nat → Int32) → (Nat → Int32) → (Nat → Int32) → (Nat → Nat → Int64) → (Nat → Nat → Int32) → (Nat → Int32) → Int32 → Prop) : Prop :=
  wp_X3_forgetGiven sz kg (fun (kg_1 : Nat → Int32) => ∃ n2 : Nat, wp_X5_giveOut_11 x1 sz pm kv kn md K (fun (x2_2 : Int32) (kt_2 : Nat → Int32) (ks_2 : Nat → Int32) (kj_2 : Nat → Int32) (kw_2 : Nat → Int32) (kg_2 : Nat → Int32) (wd_2 : Nat → Nat → Int64) (fw_2 : Nat → Nat → Int32) => (vp_in (2 : Int32) 6 ∧ (vp_in (2 : Int32) 6 ∧ wp_X3_coinsGiven sz kg_2 (fun (r_5 : Int32)  => K r_5 kt_2 ks_2 kj_2 kw_2 kg_2 wd_2 fw_2 (upd bk (2 : Int32).toNatClampNeg ((bk (2 : Int32).toNatClampNeg) + (x1 - x2_2))) (ow + x2_2))))) n2 x1 (0 : Int32) kt ks kj kw kg_1 wd fw)
theorem dX5_giveOut_0 : decode cX5_giveOut 0 = .ok (.aload_n 0, 1) := by decide +kernel
theorem dX5_giveOut_1 : decode cX5_giveOut 1 = .ok (.getfield 12, 3) := by decide +kernel
theorem dX5_giveOut_4 : decode cX5_giveOut 4 = .ok (.invokevirtual 174, 3) := by decide +kernel
theorem dX5_giveOut_7 : decode cX5_giveOut 7 = .ok (.iload_n 1, 1) := by decide +kernel
theorem dX5_giveOut_8 : decode cX5_giveOut 8 = .ok (.istore_n 2, 1) := by decide +kernel
theorem dX5_giveOut_9 : decode cX5_giveOut 9 = .ok (.iconst 0, 1) := by decide +kernel
theorem dX5_giveOut_10 : decode cX5_giveOut 10 = .ok (.istore_n 3, 1) := by decide +kernel
theorem dX5_giveOut_11 : decode cX5_giveOut 11 = .ok (.iload_n 3, 1) := by decide +kernel
theorem dX5_giveOut_12 : decode cX5_giveOut 12 = .ok (.bipush 6, 2) := by decide +kernel
theorem dX5_giveOut_14 : decode cX5_giveOut 14 = .ok (.if_icmp .ge 27, 3) := by decide +kernel
theorem dX5_giveOut_17 : decode cX5_giveOut 17 = .ok (.iload_n 2, 1) := by decide +kernel
theorem dX5_giveOut_18 : decode cX5_giveOut 18 = .ok (.ifCond .le 23, 3) := by decide +kernel
theorem dX5_giveOut_21 : decode cX5_giveOut 21 = .ok (.aload_n 0, 1) := by decide +kernel
theorem dX5_giveOut_22 : decode cX5_giveOut 22 = .ok (.iload_n 2, 1) := by decide +kernel
theorem dX5_giveOut_23 : decode cX5_giveOut 23 = .ok (.invokevirtual 110, 3) := by decide +kernel
theorem dX5_giveOut_26 : decode cX5_giveOut 26 = .ok (.ifCond .eq 15, 3) := by decide +kernel
theorem dX5_giveOut_29 : decode cX5_giveOut 29 = .ok (.aload_n 0, 1) := by decide +kernel
theorem dX5_giveOut_30 : decode cX5_giveOut 30 = .ok (.iload_n 2, 1) := by decide +kernel
theorem dX5_giveOut_31 : decode cX5_giveOut 31 = .ok (.invokevirtual 177, 3) := by decide +kernel
theorem dX5_giveOut_34 : decode cX5_giveOut 34 = .ok (.istore_n 2, 1) := by decide +kernel
theorem dX5_giveOut_35 : decode cX5_giveOut 35 = .ok (.iinc 3 1, 3) := by decide +kernel
theorem dX5_giveOut_38 : decode cX5_giveOut 38 = .ok (.goto (-27), 3) := by decide +kernel
theorem dX5_giveOut_41 : decode cX5_giveOut 41 = .ok (.aload_n 0, 1) := by decide +kernel
theorem dX5_giveOut_42 : decode cX5_giveOut 42 = .ok (.dup, 1) := by decide +kernel
theorem dX5_giveOut_43 : decode cX5_giveOut 43 = .ok (.getfield 48, 3) := by decide +kernel
theorem dX5_giveOut_46 : decode cX5_giveOut 46 = .ok (.iload_n 2, 1) := by decide +kernel
theorem dX5_giveOut_47 : decode cX5_giveOut 47 = .ok (.iadd, 1) := by decide +kernel
theorem dX5_giveOut_48 : decode cX5_giveOut 48 = .ok (.putfield 48, 3) := by decide +kernel
theorem dX5_giveOut_51 : decode cX5_giveOut 51 = .ok (.aload_n 0, 1) := by decide +kernel
theorem dX5_giveOut_52 : decode cX5_giveOut 52 = .ok (.getfield 37, 3) := by decide +kernel
theorem dX5_giveOut_55 : decode cX5_giveOut 55 = .ok (.iconst 2, 1) := by decide +kernel
theorem dX5_giveOut_56 : decode cX5_giveOut 56 = .ok (.dup2, 1) := by decide +kernel
theorem dX5_giveOut_57 : decode cX5_giveOut 57 = .ok (.iaload, 1) := by decide +kernel
theorem dX5_giveOut_58 : decode cX5_giveOut 58 = .ok (.iload_n 1, 1) := by decide +kernel
theorem dX5_giveOut_59 : decode cX5_giveOut 59 = .ok (.iload_n 2, 1) := by decide +kernel
theorem dX5_giveOut_60 : decode cX5_giveOut 60 = .ok (.isub, 1) := by decide +kernel
theorem dX5_giveOut_61 : decode cX5_giveOut 61 = .ok (.iadd, 1) := by decide +kernel
theorem dX5_giveOut_62 : decode cX5_giveOut 62 = .ok (.iastore, 1) := by decide +kernel
theorem dX5_giveOut_63 : decode cX5_giveOut 63 = .ok (.aload_n 0, 1) := by decide +kernel
theorem dX5_giveOut_64 : decode cX5_giveOut 64 = .ok (.getfield 12, 3) := by decide +kernel
theorem dX5_giveOut_67 : decode cX5_giveOut 67 = .ok (.invokevirtual 180, 3) := by decide +kernel
theorem dX5_giveOut_70 : decode cX5_giveOut 70 = .ok (.ireturn, 1) := by decide +kernel
set_option maxRecDepth 20000 in
set_option maxHeartbeats 4000000 in
theorem wk_X5_giveOut_11 {Γ : GT} {a : Nat → Nat} {q : Nat → ClassId} {x1 : Int32}  {sz : Int32} {pr : Nat → Int32} {pm : Nat → Nat} {kv : Nat → Int32} {kn : Nat → Int32} {kr : Nat → Int32} {kb : Nat → Int32} {ad : Nat → Int32} {bk : Nat → Int32} {md : Int32} {cr : Int32} {ow : Int32} {hd : Int32} {K : Int32 → (Nat → Int32) → (Nat → Int32) → (Nat → Int32) → (Nat → Int32) → (Nat → Int32) → (Nat → Nat → Int64) → (Nat → Nat → Int32) → (Nat → Int32) → Int32 → Prop} {X : Int32 → (Nat → Int32) → (Nat → Int32) → (Nat → Int32) → (Nat → Int32) → (Nat → Int32) → (Nat → Nat → Int64) → (Nat → Nat → Int32) → Prop} (g : gd Γ cX5_giveOut RX5 4 (rmz 4 108) q) (hret : rtI_9 Γ cX5_giveOut 4 (fun (kt : Nat → Int32) (ks : Nat → Int32) (kj : Nat → Int32) (kw : Nat → Int32) (kg : Nat → Int32) (wd : Nat → Nat → Int64) (fw : Nat → Nat → Int32) (bk : Nat → Int32) (ow : Int32) => (cgW a q sz pr pm kv kn kr kt kb ks kj kw kg wd fw ad bk md cr ow hd)) K) (hX : ∀ (x2 : Int32) (kt : Nat → Int32) (ks : Nat → Int32) (kj : Nat → Int32) (kw : Nat → Int32) (kg : Nat → Int32) (wd : Nat → Nat → Int64) (fw : Nat → Nat → Int32) , X x2 kt ks kj kw kg wd fw → jw Γ 4 0 0 (cgW a q sz pr pm kv kn kr kt kb ks kj kw kg wd fw ad bk md cr ow hd) [(0, .ref (a 0)), (1, .int x1), (2, .int x2)] [] 41) :
    ∀ (n : Nat) (x2 : Int32) (x3 : Int32) (kt : Nat → Int32) (ks : Nat → Int32) (kj : Nat → Int32) (kw : Nat → Int32) (kg : Nat → Int32) (wd : Nat → Nat → Int64) (fw : Nat → Nat → Int32) , wp_X5_giveOut_11 x1 sz pm kv kn md K X n x2 x3 kt ks kj kw kg wd fw → jw Γ 4 0 0 (cgW a q sz pr pm kv kn kr kt kb ks kj kw kg wd fw ad bk md cr ow hd) [(0, .ref (a 0)), (1, .int x1), (2, .int x2), (3, .int x3)] [] 11 := by
  intro n
  induction n with
  | zero =>
    intro _ _ _ _ _ _ _ _ _ h
    exact False.elim h
  | succ n ih =>
    intro x2 x3 kt ks kj kw kg wd fw h
    unfold wp_X5_giveOut_11 at h
    refine j_iload_n g 3 rfl dX5_giveOut_11 ?_
    refine j_bipush g (v := 6) (by decide) dX5_giveOut_12 ?_
    refine j_icmp_ge g dX5_giveOut_14 (tgt := 41) (by decide) (fun c1 => ?_) (fun c1 => ?_)
    · replace h := h.1 c1
      refine j_sub [0, 1, 2] rfl ?_
      exact hX x2 kt ks kj kw kg wd fw h
    replace h := h.2 c1
    refine j_iload_n g 2 rfl dX5_giveOut_17 ?_
    refine j_if_le g dX5_giveOut_18 (tgt := 41) (by decide) (fun c2 => ?_) (fun c2 => ?_)
    · replace h := h.1 c2
      refine j_sub [0, 1, 2] rfl ?_
      exact hX x2 kt ks kj kw kg wd fw h
    replace h := h.2 c2
    refine j_aload_n g 0 rfl dX5_giveOut_21 ?_
    refine j_iload_n g 2 rfl dX5_giveOut_22 ?_
    refine j_callVZ_3 g (As := [.int x2]) (st := []) (c_X5_plan  h) cl_X5_110 0 5 cg_0 rfl rfl (Nat.le_of_ble_eq_true rfl) (Nat.le_of_ble_eq_true rfl) (Nat.zero_le _) (Nat.zero_le _) rfl rfl (Nat.le_of_ble_eq_true rfl) dX5_giveOut_23 (fun r_3 kw_3 wd_3 fw_3 hz_3 h => ?_)
    refine j_ws (ws' := (cgW a q sz pr pm kv kn kr kt kb ks kj kw_3 kg wd_3 fw_3 ad bk md cr ow hd)) rfl ?_
    refine j_if_eq g dX5_giveOut_26 (tgt := 41) (by decide) (fun c4 => ?_) (fun c4 => ?_)
    · replace h := h.1 c4
      refine j_sub [0, 1, 2] rfl ?_
      exact hX x2 kt ks kj kw_3 kg wd_3 fw_3 h
    replace h := h.2 c4
    refine j_aload_n g 0 rfl dX5_giveOut_29 ?_
    refine j_iload_n g 2 rfl dX5_giveOut_30 ?_
    refine j_callVI_4 g (As := [.int x2]) (st := []) (c_X5_giveByWay  h) cl_X5_177 0 5 cg_0 rfl rfl (Nat.le_of_ble_eq_true rfl) (Nat.le_of_ble_eq_true rfl) (Nat.zero_le _) (Nat.zero_le _) rfl rfl (Nat.le_of_ble_eq_true rfl) dX5_giveOut_31 (fun r_5 kt_5 ks_5 kj_5 kg_5  h => ?_)
    refine j_ws (ws' := (cgW a q sz pr pm kv kn kr kt_5 kb ks_5 kj_5 kw_3 kg_5 wd_3 fw_3 ad bk md cr ow hd)) rfl ?_
    refine j_istore_n g (lv' := [(2, .int r_5), (0, .ref (a 0)), (1, .int x1), (3, .int x3)]) (by decide) rfl dX5_giveOut_34 ?_
    refine j_iinc g 3 (n := 1) (v := x3 + 1) (lv' := [(3, .int (x3 + 1)), (2, .int r_5), (0, .ref (a 0)), (1, .int x1)]) rfl rfl (by decide) rfl dX5_giveOut_35 ?_
    refine j_goto g dX5_giveOut_38 (tgt := 11) (by decide) ?_
    refine j_sub [2, 3, 1, 0] rfl ?_
    exact ih r_5 (x3 + 1) kt_5 ks_5 kj_5 kw_3 kg_5 wd_3 fw_3 h
set_option maxRecDepth 20000 in
set_option maxHeartbeats 4000000 in
theorem c_X5_giveOut {a : Nat → Nat} {q : Nat → ClassId} {x1 : Int32}  {sz : Int32} {pr : Nat → Int32} {pm : Nat → Nat} {kv : Nat → Int32} {kn : Nat → Int32} {kr : Nat → Int32} {kt : Nat → Int32} {kb : Nat → Int32} {ks : Nat → Int32} {kj : Nat → Int32} {kw : Nat → Int32} {kg : Nat → Int32} {wd : Nat → Nat → Int64} {fw : Nat → Nat → Int32} {ad : Nat → Int32} {bk : Nat → Int32} {md : Int32} {cr : Int32} {ow : Int32} {hd : Int32} {K : Int32 → (Nat → Int32) → (Nat → Int32) → (Nat → Int32) → (Nat → Int32) → (Nat → Int32) → (Nat → Nat → Int64) → (Nat → Nat → Int32) → (Nat → Int32) → Int32 → Prop} (h : wp_X5_giveOut x1 sz pm kv kn kt ks kj kw kg wd fw bk md ow K) : ctI_9 q yX5_giveOut cX5_giveOut 4 4 108 [.ref (a 0), .int x1] (cgW a q sz pr pm kv kn kr kt kb ks kj kw kg wd fw ad bk md cr ow hd) (fun (kt : Nat → Int32) (ks : Nat → Int32) (kj : Nat → Int32) (kw : Nat → Int32) (kg : Nat → Int32) (wd : Nat → Nat → Int64) (fw : Nat → Nat → Int32) (bk : Nat → Int32) (ow : Int32) => (cgW a q sz pr pm kv kn kr kt kb ks kj kw kg wd fw ad bk md cr ow hd)) K := by
  refine met_I_9 (by decide) (Nat.le_of_ble_eq_true rfl) (fun Γ g hret => ?_)
  unfold wp_X5_giveOut at h
  show jw Γ 4 0 0 (cgW a q sz pr pm kv kn kr kt kb ks kj kw kg wd fw ad bk md cr ow hd) [(0, .ref (a 0)), (1, .int x1)] [] 0
  refine j_aload_n g 0 rfl dX5_giveOut_0 ?_
  refine j_get g fl_X5_12 0 cg_0 rfl dX5_giveOut_1 ?_
  refine j_callVV_1 g (As := []) (st := []) (c_X3_forgetGiven  h) cl_X5_174 1 3 cg_1 rfl rfl (Nat.le_of_ble_eq_true rfl) (Nat.le_of_ble_eq_true rfl) (Nat.zero_le _) (Nat.zero_le _) rfl rfl (Nat.le_of_ble_eq_true rfl) dX5_giveOut_4 (fun kg_1 h => ?_)
  refine j_ws (ws' := (cgW a q sz pr pm kv kn kr kt kb ks kj kw kg_1 wd fw ad bk md cr ow hd)) rfl ?_
  refine j_iload_n g 1 rfl dX5_giveOut_7 ?_
  refine j_istore_n g (lv' := [(2, .int x1), (0, .ref (a 0)), (1, .int x1)]) (by decide) rfl dX5_giveOut_8 ?_
  refine j_iconst g (v := 0) (by decide) dX5_giveOut_9 ?_
  refine j_istore_n g (lv' := [(3, .int (0 : Int32)), (2, .int x1), (0, .ref (a 0)), (1, .int x1)]) (by decide) rfl dX5_giveOut_10 ?_
  obtain ⟨n2, h⟩ := h
  refine j_sub [2, 3, 1, 0] rfl ?_
  refine wk_X5_giveOut_11  g hret (fun x2_2 kt_2 ks_2 kj_2 kw_2 kg_2 wd_2 fw_2 h => ?_) n2 x1 (0 : Int32) kt ks kj kw kg_1 wd fw h
  refine j_aload_n g 0 rfl dX5_giveOut_41 ?_
  refine j_dup g rfl dX5_giveOut_42 ?_
  refine j_get g fl_X5_48 0 cg_0 rfl dX5_giveOut_43 ?_
  refine j_iload_n g 2 rfl dX5_giveOut_46 ?_
  refine j_iadd g dX5_giveOut_47 ?_
  refine j_put g fl_X5_48 fp_X5_7 0 cg_0 rfl rfl (Nat.le_of_ble_eq_true rfl) (ws' := (cgW a q sz pr pm kv kn kr kt_2 kb ks_2 kj_2 kw_2 kg_2 wd_2 fw_2 ad bk md cr (ow + x2_2) hd)) rfl dX5_giveOut_48 ?_
  refine j_aload_n g 0 rfl dX5_giveOut_51 ?_
  refine j_get g fl_X5_37 0 cg_0 rfl dX5_giveOut_52 ?_
  refine j_iconst g (v := 2) (by decide) dX5_giveOut_55 ?_
  refine j_dup2 g rfl rfl dX5_giveOut_56 ?_
  obtain ⟨hv3, h⟩ := h
  refine j_iald g 5 cg_5 hv3 dX5_giveOut_57 ?_
  refine j_iload_n g 1 rfl dX5_giveOut_58 ?_
  refine j_iload_n g 2 rfl dX5_giveOut_59 ?_
  refine j_isub g dX5_giveOut_60 ?_
  refine j_iadd g dX5_giveOut_61 ?_
  obtain ⟨hv4, h⟩ := h
  refine j_iast g 5 cg_5 hv4 (ws' := (cgW a q sz pr pm kv kn kr kt_2 kb ks_2 kj_2 kw_2 kg_2 wd_2 fw_2 ad (upd bk (2 : Int32).toNatClampNeg ((bk (2 : Int32).toNatClampNeg) + (x1 - x2_2))) md cr (ow + x2_2) hd)) rfl dX5_giveOut_62 ?_
  refine j_aload_n g 0 rfl dX5_giveOut_63 ?_
  refine j_get g fl_X5_12 0 cg_0 rfl dX5_giveOut_64 ?_
  refine j_callVI_0 g (As := []) (st := []) (c_X3_coinsGiven  h) cl_X5_180 1 3 cg_1 rfl rfl (Nat.le_of_ble_eq_true rfl) (Nat.le_of_ble_eq_true rfl) (Nat.zero_le _) (Nat.zero_le _) rfl rfl (Nat.le_of_ble_eq_true rfl) dX5_giveOut_67 (fun r_5   h => ?_)
  exact hret.go dX5_giveOut_70 h
end
section
set_option maxRecDepth 20000 in
def wp_X5_buy (x1 : Int32) (sz : Int32) (pr : Nat → Int32) (pm : Nat → Nat) (kv : Nat → Int32) (kn : Nat → Int32) (kt : Nat → Int32) (kb : Nat → Int32) (ks : Nat → Int32) (kj : Nat → Int32) (kw : Nat → Int32) (kg : Nat → Int32) (wd : Nat → Nat → Int64) (fw : Nat → Nat → Int32) (bk : Nat → Int32) (md : Int32) (cr : Int32) (ow : Int32) (hd : Int32) (K : Int32 → (Nat → Int32) → (Nat → Int32) → (Nat → Int32) → (Nat → Int32) → (Nat → Int32) → (Nat → Int32) → (Nat → Nat → Int64) → (Nat → Nat → Int32) → (Nat → Int32) → Int32 → Int32 → Int32 → Prop) : Prop :=
  wp_X5_priced x1 pr (fun (r_1 : Int32)  => ((r_1 = 0 → K (-1 : Int32) kt kb ks kj kw kg wd fw bk cr ow hd) ∧ (¬ r_1 = 0 → ((r_1 ≤ cr → wp_X3_find hd sz (fun (o_4 : Option Nat)  => (o_4 = none → (vp_in (1 : Int32) 6 ∧ (vp_in (1 : Int32) 6 ∧ wp_X5_endCredit cr hd (fun (cr_7 : Int32) (hd_7 : Int32) => wp_X5_giveOut (cr - r_1) sz pm kv kn kt ks kj kw kg wd fw (upd bk (1 : Int32).toNatClampNeg ((bk (1 : Int32).toNatClampNeg) + r_1)) md ow (fun (r_8 : Int32) (kt_8 : Nat → Int32) (ks_8 : Nat → Int32) (kj_8 : Nat → Int32) (kw_8 : Nat → Int32) (kg_8 : Nat → Int32) (wd_8 : Nat → Nat → Int64) (fw_8 : Nat → Nat → Int32) (bk_8 : Nat → Int32) (ow_8 : Int32) => K r_8 kt_8 kb ks_8 kj_8 kw_8 kg_8 wd_8 fw_8 bk_8 cr_7 ow_8 hd_7))))) ∧ (∀ i_4 : Nat, o_4 = some i_4 → i_4 < 6 → (vp_in (1 : Int32) 6 ∧ (vp_in (1 : Int32) 6 ∧ wp_X5_endCredit cr hd (fun (cr_11 : Int32) (hd_11 : Int32) => wp_X5_giveOut (cr - r_1) sz pm kv kn kt ks kj kw kg wd fw (upd bk (1 : Int32).toNatClampNeg ((bk (1 : Int32).toNatClampNeg) + r_1)) md ow (fun (r_12 : Int32) (kt_12 : Nat → Int32) (ks_12 : Nat → Int32) (kj_12 : Nat → Int32) (kw_12 : Nat → Int32) (kg_12 : Nat → Int32) (wd_12 : Nat → Nat → Int64) (fw_12 : Nat → Nat → Int32) (bk_12 : Nat → Int32) (ow_12 : Int32) => K r_12 kt_12 (upd kb i_4 ((kb i_4) + (1 : Int32))) ks_12 kj_12 kw_12 kg_12 wd_12 fw_12 bk_12 cr_11 ow_12 hd_11))))))) ∧ (¬ r_1 ≤ cr → K (-1 : Int32) kt kb ks kj kw kg wd fw bk cr ow hd)))))
theorem dX5_buy_0 : decode cX5_buy 0 = .ok (.aload_n 0, 1) := by decide +kernel
theorem dX5_buy_1 : decode cX5_buy 1 = .ok (.iload_n 1, 1) := by decide +kernel
theorem dX5_buy_2 : decode cX5_buy 2 = .ok (.invokevirtual 97, 3) := by decide +kernel
theorem dX5_buy_5 : decode cX5_buy 5 = .ok (.istore_n 2, 1) := by decide +kernel
theorem dX5_buy_6 : decode cX5_buy 6 = .ok (.iload_n 2, 1) := by decide +kernel
theorem dX5_buy_7 : decode cX5_buy 7 = .ok (.ifCond .eq 11, 3) := by decide +kernel
theorem dX5_buy_10 : decode cX5_buy 10 = .ok (.iload_n 2, 1) := by decide +kernel
theorem dX5_buy_11 : decode cX5_buy 11 = .ok (.aload_n 0, 1) := by decide +kernel
theorem dX5_buy_12 : decode cX5_buy 12 = .ok (.getfield 45, 3) := by decide +kernel
theorem dX5_buy_15 : decode cX5_buy 15 = .ok (.if_icmp .le 5, 3) := by decide +kernel
theorem dX5_buy_18 : decode cX5_buy 18 = .ok (.iconst (-1), 1) := by decide +kernel
theorem dX5_buy_19 : decode cX5_buy 19 = .ok (.ireturn, 1) := by decide +kernel
theorem dX5_buy_20 : decode cX5_buy 20 = .ok (.aload_n 0, 1) := by decide +kernel
theorem dX5_buy_21 : decode cX5_buy 21 = .ok (.getfield 12, 3) := by decide +kernel
theorem dX5_buy_24 : decode cX5_buy 24 = .ok (.aload_n 0, 1) := by decide +kernel
theorem dX5_buy_25 : decode cX5_buy 25 = .ok (.getfield 51, 3) := by decide +kernel
theorem dX5_buy_28 : decode cX5_buy 28 = .ok (.invokevirtual 84, 3) := by decide +kernel
theorem dX5_buy_31 : decode cX5_buy 31 = .ok (.astore_n 3, 1) := by decide +kernel
theorem dX5_buy_32 : decode cX5_buy 32 = .ok (.aload_n 3, 1) := by decide +kernel
theorem dX5_buy_33 : decode cX5_buy 33 = .ok (.ifnull 13, 3) := by decide +kernel
theorem dX5_buy_36 : decode cX5_buy 36 = .ok (.aload_n 3, 1) := by decide +kernel
theorem dX5_buy_37 : decode cX5_buy 37 = .ok (.dup, 1) := by decide +kernel
theorem dX5_buy_38 : decode cX5_buy 38 = .ok (.getfield 94, 3) := by decide +kernel
theorem dX5_buy_41 : decode cX5_buy 41 = .ok (.iconst 1, 1) := by decide +kernel
theorem dX5_buy_42 : decode cX5_buy 42 = .ok (.iadd, 1) := by decide +kernel
theorem dX5_buy_43 : decode cX5_buy 43 = .ok (.putfield 94, 3) := by decide +kernel
theorem dX5_buy_46 : decode cX5_buy 46 = .ok (.aload_n 0, 1) := by decide +kernel
theorem dX5_buy_47 : decode cX5_buy 47 = .ok (.getfield 37, 3) := by decide +kernel
theorem dX5_buy_50 : decode cX5_buy 50 = .ok (.iconst 1, 1) := by decide +kernel
theorem dX5_buy_51 : decode cX5_buy 51 = .ok (.dup2, 1) := by decide +kernel
theorem dX5_buy_52 : decode cX5_buy 52 = .ok (.iaload, 1) := by decide +kernel
theorem dX5_buy_53 : decode cX5_buy 53 = .ok (.iload_n 2, 1) := by decide +kernel
theorem dX5_buy_54 : decode cX5_buy 54 = .ok (.iadd, 1) := by decide +kernel
theorem dX5_buy_55 : decode cX5_buy 55 = .ok (.iastore, 1) := by decide +kernel
theorem dX5_buy_56 : decode cX5_buy 56 = .ok (.aload_n 0, 1) := by decide +kernel
theorem dX5_buy_57 : decode cX5_buy 57 = .ok (.getfield 45, 3) := by decide +kernel
theorem dX5_buy_60 : decode cX5_buy 60 = .ok (.iload_n 2, 1) := by decide +kernel
theorem dX5_buy_61 : decode cX5_buy 61 = .ok (.isub, 1) := by decide +kernel
theorem dX5_buy_62 : decode cX5_buy 62 = .ok (.istore 4, 2) := by decide +kernel
theorem dX5_buy_64 : decode cX5_buy 64 = .ok (.aload_n 0, 1) := by decide +kernel
theorem dX5_buy_65 : decode cX5_buy 65 = .ok (.invokevirtual 101, 3) := by decide +kernel
theorem dX5_buy_68 : decode cX5_buy 68 = .ok (.aload_n 0, 1) := by decide +kernel
theorem dX5_buy_69 : decode cX5_buy 69 = .ok (.iload 4, 2) := by decide +kernel
theorem dX5_buy_71 : decode cX5_buy 71 = .ok (.invokevirtual 104, 3) := by decide +kernel
theorem dX5_buy_74 : decode cX5_buy 74 = .ok (.ireturn, 1) := by decide +kernel
set_option maxRecDepth 20000 in
set_option maxHeartbeats 4000000 in
theorem c_X5_buy {a : Nat → Nat} {q : Nat → ClassId} {x1 : Int32}  {sz : Int32} {pr : Nat → Int32} {pm : Nat → Nat} {kv : Nat → Int32} {kn : Nat → Int32} {kr : Nat → Int32} {kt : Nat → Int32} {kb : Nat → Int32} {ks : Nat → Int32} {kj : Nat → Int32} {kw : Nat → Int32} {kg : Nat → Int32} {wd : Nat → Nat → Int64} {fw : Nat → Nat → Int32} {ad : Nat → Int32} {bk : Nat → Int32} {md : Int32} {cr : Int32} {ow : Int32} {hd : Int32} {K : Int32 → (Nat → Int32) → (Nat → Int32) → (Nat → Int32) → (Nat → Int32) → (Nat → Int32) → (Nat → Int32) → (Nat → Nat → Int64) → (Nat → Nat → Int32) → (Nat → Int32) → Int32 → Int32 → Int32 → Prop} (h : wp_X5_buy x1 sz pr pm kv kn kt kb ks kj kw kg wd fw bk md cr ow hd K) : ctI_12 q yX5_buy cX5_buy 5 5 131 [.ref (a 0), .int x1] (cgW a q sz pr pm kv kn kr kt kb ks kj kw kg wd fw ad bk md cr ow hd) (fun (kt : Nat → Int32) (kb : Nat → Int32) (ks : Nat → Int32) (kj : Nat → Int32) (kw : Nat → Int32) (kg : Nat → Int32) (wd : Nat → Nat → Int64) (fw : Nat → Nat → Int32) (bk : Nat → Int32) (cr : Int32) (ow : Int32) (hd : Int32) => (cgW a q sz pr pm kv kn kr kt kb ks kj kw kg wd fw ad bk md cr ow hd)) K := by
  refine met_I_12 (by decide) (Nat.le_of_ble_eq_true rfl) (fun Γ g hret => ?_)
  unfold wp_X5_buy at h
  show jw Γ 5 0 0 (cgW a q sz pr pm kv kn kr kt kb ks kj kw kg wd fw ad bk md cr ow hd) [(0, .ref (a 0)), (1, .int x1)] [] 0
  refine j_aload_n g 0 rfl dX5_buy_0 ?_
  refine j_iload_n g 1 rfl dX5_buy_1 ?_
  refine j_callVI_0 g (As := [.int x1]) (st := []) (c_X5_priced  h) cl_X5_97 0 5 cg_0 rfl rfl (Nat.le_of_ble_eq_true rfl) (Nat.le_of_ble_eq_true rfl) (Nat.zero_le _) (Nat.zero_le _) rfl rfl (Nat.le_of_ble_eq_true rfl) dX5_buy_2 (fun r_1   h => ?_)
  refine j_istore_n g (lv' := [(2, .int r_1), (0, .ref (a 0)), (1, .int x1)]) (by decide) rfl dX5_buy_5 ?_
  refine j_iload_n g 0 rfl dX5_buy_6 ?_
  refine j_if_eq g dX5_buy_7 (tgt := 18) (by decide) (fun c2 => ?_) (fun c2 => ?_)
  · replace h := h.1 c2
    refine j_iconst g (v := -1) (by decide) dX5_buy_18 ?_
    exact hret.go dX5_buy_19 h
  replace h := h.2 c2
  refine j_iload_n g 0 rfl dX5_buy_10 ?_
  refine j_aload_n g 1 rfl dX5_buy_11 ?_
  refine j_get g fl_X5_45 0 cg_0 rfl dX5_buy_12 ?_
  refine j_icmp_le g dX5_buy_15 (tgt := 20) (by decide) (fun c3 => ?_) (fun c3 => ?_)
  rotate_left
  · replace h := h.2 c3
    refine j_iconst g (v := -1) (by decide) dX5_buy_18 ?_
    exact hret.go dX5_buy_19 h
  replace h := h.1 c3
  refine j_aload_n g 1 rfl dX5_buy_20 ?_
  refine j_get g fl_X5_12 0 cg_0 rfl dX5_buy_21 ?_
  refine j_aload_n g 1 rfl dX5_buy_24 ?_
  refine j_get g fl_X5_51 0 cg_0 rfl dX5_buy_25 ?_
  refine j_callVQ_0 g (As := [.int hd]) (st := []) (c_X3_find  h) cl_X5_84 1 3 cg_1 rfl rfl (Nat.le_of_ble_eq_true rfl) (Nat.le_of_ble_eq_true rfl) (Nat.zero_le _) (Nat.zero_le _) rfl rfl (Nat.le_of_ble_eq_true rfl) dX5_buy_28 (fun  h => ?_) (fun i_4  hi_4 h => ?_)
  · replace h := h.1 rfl
    refine j_astore_nN g (lv' := [(3, .null), (2, .int r_1), (0, .ref (a 0)), (1, .int x1)]) (by decide) rfl dX5_buy_31 ?_
    refine j_aload_nN g 0 rfl dX5_buy_32 ?_
    refine j_ifnullN g dX5_buy_33 (tgt := 46) (by decide) ?_
    refine j_aload_n g 2 rfl dX5_buy_46 ?_
    refine j_get g fl_X5_37 0 cg_0 rfl dX5_buy_47 ?_
    refine j_iconst g (v := 1) (by decide) dX5_buy_50 ?_
    refine j_dup2 g rfl rfl dX5_buy_51 ?_
    obtain ⟨hv5, h⟩ := h
    refine j_iald g 5 cg_5 hv5 dX5_buy_52 ?_
    refine j_iload_n g 1 rfl dX5_buy_53 ?_
    refine j_iadd g dX5_buy_54 ?_
    obtain ⟨hv6, h⟩ := h
    refine j_iast g 5 cg_5 hv6 (ws' := (cgW a q sz pr pm kv kn kr kt kb ks kj kw kg wd fw ad (upd bk (1 : Int32).toNatClampNeg ((bk (1 : Int32).toNatClampNeg) + r_1)) md cr ow hd)) rfl dX5_buy_55 ?_
    refine j_aload_n g 2 rfl dX5_buy_56 ?_
    refine j_get g fl_X5_45 0 cg_0 rfl dX5_buy_57 ?_
    refine j_iload_n g 1 rfl dX5_buy_60 ?_
    refine j_isub g dX5_buy_61 ?_
    refine j_istore g (lv' := [(4, .int (cr - r_1)), (3, .null), (2, .int r_1), (0, .ref (a 0)), (1, .int x1)]) (by decide) rfl dX5_buy_62 ?_
    refine j_aload_n g 3 rfl dX5_buy_64 ?_
    refine j_callVV_2 g (As := []) (st := []) (c_X5_endCredit  h) cl_X5_101 0 5 cg_0 rfl rfl (Nat.le_of_ble_eq_true rfl) (Nat.le_of_ble_eq_true rfl) (Nat.zero_le _) (Nat.zero_le _) rfl rfl (Nat.le_of_ble_eq_true rfl) dX5_buy_65 (fun cr_7 hd_7 h => ?_)
    refine j_ws (ws' := (cgW a q sz pr pm kv kn kr kt kb ks kj kw kg wd fw ad (upd bk (1 : Int32).toNatClampNeg ((bk (1 : Int32).toNatClampNeg) + r_1)) md cr_7 ow hd_7)) rfl ?_
    refine j_aload_n g 3 rfl dX5_buy_68 ?_
    refine j_iload g 0 rfl dX5_buy_69 ?_
    refine j_callVI_9 g (As := [.int (cr - r_1)]) (st := []) (c_X5_giveOut  h) cl_X5_104 0 5 cg_0 rfl rfl (Nat.le_of_ble_eq_true rfl) (Nat.le_of_ble_eq_true rfl) (Nat.zero_le _) (Nat.zero_le _) rfl rfl (Nat.le_of_ble_eq_true rfl) dX5_buy_71 (fun r_8 kt_8 ks_8 kj_8 kw_8 kg_8 wd_8 fw_8 bk_8 ow_8  h => ?_)
    refine j_ws (ws' := (cgW a q sz pr pm kv kn kr kt_8 kb ks_8 kj_8 kw_8 kg_8 wd_8 fw_8 ad bk_8 md cr_7 ow_8 hd_7)) rfl ?_
    exact hret.go dX5_buy_74 h
  replace h := h.2 i_4 rfl hi_4
  refine j_astore_n g (lv' := [(3, .ref (a (11 + i_4))), (2, .int r_1), (0, .ref (a 0)), (1, .int x1)]) (by decide) rfl dX5_buy_31 ?_
  refine j_aload_n g 0 rfl dX5_buy_32 ?_
  refine j_ifnull g dX5_buy_33 ?_
  refine j_aload_n g 0 rfl dX5_buy_36 ?_
  refine j_dup g rfl dX5_buy_37 ?_
  refine j_get g fl_X5_94 (11 + i_4) (cg_K hi_4) rfl dX5_buy_38 ?_
  refine j_iconst g (v := 1) (by decide) dX5_buy_41 ?_
  refine j_iadd g dX5_buy_42 ?_
  refine j_put g fl_X5_94 fp_X0_4 (11 + i_4) (cg_K hi_4) rfl rfl (Nat.le_of_ble_eq_true rfl) (ws' := (cgW a q sz pr pm kv kn kr kt (upd kb i_4 ((kb i_4) + (1 : Int32))) ks kj kw kg wd fw ad bk md cr ow hd)) (cg_s_kb hi_4) dX5_buy_43 ?_
  refine j_aload_n g 2 rfl dX5_buy_46 ?_
  refine j_get g fl_X5_37 0 cg_0 rfl dX5_buy_47 ?_
  refine j_iconst g (v := 1) (by decide) dX5_buy_50 ?_
  refine j_dup2 g rfl rfl dX5_buy_51 ?_
  obtain ⟨hv9, h⟩ := h
  refine j_iald g 5 cg_5 hv9 dX5_buy_52 ?_
  refine j_iload_n g 1 rfl dX5_buy_53 ?_
  refine j_iadd g dX5_buy_54 ?_
  obtain ⟨hv10, h⟩ := h
  refine j_iast g 5 cg_5 hv10 (ws' := (cgW a q sz pr pm kv kn kr kt (upd kb i_4 ((kb i_4) + (1 : Int32))) ks kj kw kg wd fw ad (upd bk (1 : Int32).toNatClampNeg ((bk (1 : Int32).toNatClampNeg) + r_1)) md cr ow hd)) rfl dX5_buy_55 ?_
  refine j_aload_n g 2 rfl dX5_buy_56 ?_
  refine j_get g fl_X5_45 0 cg_0 rfl dX5_buy_57 ?_
  refine j_iload_n g 1 rfl dX5_buy_60 ?_
  refine j_isub g dX5_buy_61 ?_
  refine j_istore g (lv' := [(4, .int (cr - r_1)), (3, .ref (a (11 + i_4))), (2, .int r_1), (0, .ref (a 0)), (1, .int x1)]) (by decide) rfl dX5_buy_62 ?_
  refine j_aload_n g 3 rfl dX5_buy_64 ?_
  refine j_callVV_2 g (As := []) (st := []) (c_X5_endCredit  h) cl_X5_101 0 5 cg_0 rfl rfl (Nat.le_of_ble_eq_true rfl) (Nat.le_of_ble_eq_true rfl) (Nat.zero_le _) (Nat.zero_le _) rfl rfl (Nat.le_of_ble_eq_true rfl) dX5_buy_65 (fun cr_11 hd_11 h => ?_)
  refine j_ws (ws' := (cgW a q sz pr pm kv kn kr kt (upd kb i_4 ((kb i_4) + (1 : Int32))) ks kj kw kg wd fw ad (upd bk (1 : Int32).toNatClampNeg ((bk (1 : Int32).toNatClampNeg) + r_1)) md cr_11 ow hd_11)) rfl ?_
  refine j_aload_n g 3 rfl dX5_buy_68 ?_
  refine j_iload g 0 rfl dX5_buy_69 ?_
  refine j_callVI_9 g (As := [.int (cr - r_1)]) (st := []) (c_X5_giveOut  h) cl_X5_104 0 5 cg_0 rfl rfl (Nat.le_of_ble_eq_true rfl) (Nat.le_of_ble_eq_true rfl) (Nat.zero_le _) (Nat.zero_le _) rfl rfl (Nat.le_of_ble_eq_true rfl) dX5_buy_71 (fun r_12 kt_12 ks_12 kj_12 kw_12 kg_12 wd_12 fw_12 bk_12 ow_12  h => ?_)
  refine j_ws (ws' := (cgW a q sz pr pm kv kn kr kt_12 (upd kb i_4 ((kb i_4) + (1 : Int32))) ks_12 kj_12 kw_12 kg_12 wd_12 fw_12 ad bk_12 md cr_11 ow_12 hd_11)) rfl ?_
  exact hret.go dX5_buy_74 h

set_option maxRecDepth 20000 in
def wp_X5_refund  (sz : Int32) (pm : Nat → Nat) (kv : Nat → Int32) (kn : Nat → Int32) (kt : Nat → Int32) (ks : Nat → Int32) (kj : Nat → Int32) (kw : Nat → Int32) (kg : Nat → Int32) (wd : Nat → Nat → Int64) (fw : Nat → Nat → Int32) (bk : Nat → Int32) (md : Int32) (cr : Int32) (ow : Int32) (hd : Int32) (K : Int32 → (Nat → Int32) → (Nat → Int32) → (Nat → Int32) → (Nat → Int32) → (Nat → Int32) → (Nat → Nat → Int64) → (Nat → Nat → Int32) → (Nat → Int32) → Int32 → Int32 → Int32 → Prop) : Prop :=
  ((¬ cr = 0 → wp_X5_heldValue sz kv hd (fun (r_2 : Int32)  => (vp_in (2 : Int32) 6 ∧ (vp_in (2 : Int32) 6 ∧ wp_X5_endCredit cr hd (fun (cr_5 : Int32) (hd_5 : Int32) => wp_X5_giveOut (cr - r_2) sz pm kv kn kt ks kj kw kg wd fw (upd bk (2 : Int32).toNatClampNeg ((bk (2 : Int32).toNatClampNeg) + r_2)) md ow (fun (r_6 : Int32) (kt_6 : Nat → Int32) (ks_6 : Nat → Int32) (kj_6 : Nat → Int32) (kw_6 : Nat → Int32) (kg_6 : Nat → Int32) (wd_6 : Nat → Nat → Int64) (fw_6 : Nat → Nat → Int32) (bk_6 : Nat → Int32) (ow_6 : Int32) => K r_6 kt_6 ks_6 kj_6 kw_6 kg_6 wd_6 fw_6 bk_6 cr_5 ow_6 hd_5)))))) ∧ (cr = 0 → K (-1 : Int32) kt ks kj kw kg wd fw bk cr ow hd))
theorem dX5_refund_0 : decode cX5_refund 0 = .ok (.aload_n 0, 1) := by decide +kernel
theorem dX5_refund_1 : decode cX5_refund 1 = .ok (.getfield 45, 3) := by decide +kernel
theorem dX5_refund_4 : decode cX5_refund 4 = .ok (.ifCond .ne 5, 3) := by decide +kernel
theorem dX5_refund_7 : decode cX5_refund 7 = .ok (.iconst (-1), 1) := by decide +kernel
theorem dX5_refund_8 : decode cX5_refund 8 = .ok (.ireturn, 1) := by decide +kernel
theorem dX5_refund_9 : decode cX5_refund 9 = .ok (.aload_n 0, 1) := by decide +kernel
theorem dX5_refund_10 : decode cX5_refund 10 = .ok (.invokevirtual 107, 3) := by decide +kernel
theorem dX5_refund_13 : decode cX5_refund 13 = .ok (.istore_n 1, 1) := by decide +kernel
theorem dX5_refund_14 : decode cX5_refund 14 = .ok (.aload_n 0, 1) := by decide +kernel
theorem dX5_refund_15 : decode cX5_refund 15 = .ok (.getfield 37, 3) := by decide +kernel
theorem dX5_refund_18 : decode cX5_refund 18 = .ok (.iconst 2, 1) := by decide +kernel
theorem dX5_refund_19 : decode cX5_refund 19 = .ok (.dup2, 1) := by decide +kernel
theorem dX5_refund_20 : decode cX5_refund 20 = .ok (.iaload, 1) := by decide +kernel
theorem dX5_refund_21 : decode cX5_refund 21 = .ok (.iload_n 1, 1) := by decide +kernel
theorem dX5_refund_22 : decode cX5_refund 22 = .ok (.iadd, 1) := by decide +kernel
theorem dX5_refund_23 : decode cX5_refund 23 = .ok (.iastore, 1) := by decide +kernel
theorem dX5_refund_24 : decode cX5_refund 24 = .ok (.aload_n 0, 1) := by decide +kernel
theorem dX5_refund_25 : decode cX5_refund 25 = .ok (.getfield 45, 3) := by decide +kernel
theorem dX5_refund_28 : decode cX5_refund 28 = .ok (.iload_n 1, 1) := by decide +kernel
theorem dX5_refund_29 : decode cX5_refund 29 = .ok (.isub, 1) := by decide +kernel
theorem dX5_refund_30 : decode cX5_refund 30 = .ok (.istore_n 2, 1) := by decide +kernel
theorem dX5_refund_31 : decode cX5_refund 31 = .ok (.aload_n 0, 1) := by decide +kernel
theorem dX5_refund_32 : decode cX5_refund 32 = .ok (.invokevirtual 101, 3) := by decide +kernel
theorem dX5_refund_35 : decode cX5_refund 35 = .ok (.aload_n 0, 1) := by decide +kernel
theorem dX5_refund_36 : decode cX5_refund 36 = .ok (.iload_n 2, 1) := by decide +kernel
theorem dX5_refund_37 : decode cX5_refund 37 = .ok (.invokevirtual 104, 3) := by decide +kernel
theorem dX5_refund_40 : decode cX5_refund 40 = .ok (.ireturn, 1) := by decide +kernel
set_option maxRecDepth 20000 in
set_option maxHeartbeats 4000000 in
theorem c_X5_refund {a : Nat → Nat} {q : Nat → ClassId}   {sz : Int32} {pr : Nat → Int32} {pm : Nat → Nat} {kv : Nat → Int32} {kn : Nat → Int32} {kr : Nat → Int32} {kt : Nat → Int32} {kb : Nat → Int32} {ks : Nat → Int32} {kj : Nat → Int32} {kw : Nat → Int32} {kg : Nat → Int32} {wd : Nat → Nat → Int64} {fw : Nat → Nat → Int32} {ad : Nat → Int32} {bk : Nat → Int32} {md : Int32} {cr : Int32} {ow : Int32} {hd : Int32} {K : Int32 → (Nat → Int32) → (Nat → Int32) → (Nat → Int32) → (Nat → Int32) → (Nat → Int32) → (Nat → Nat → Int64) → (Nat → Nat → Int32) → (Nat → Int32) → Int32 → Int32 → Int32 → Prop} (h : wp_X5_refund sz pm kv kn kt ks kj kw kg wd fw bk md cr ow hd K) : ctI_11 q yX5_refund cX5_refund 3 5 131 [.ref (a 0)] (cgW a q sz pr pm kv kn kr kt kb ks kj kw kg wd fw ad bk md cr ow hd) (fun (kt : Nat → Int32) (ks : Nat → Int32) (kj : Nat → Int32) (kw : Nat → Int32) (kg : Nat → Int32) (wd : Nat → Nat → Int64) (fw : Nat → Nat → Int32) (bk : Nat → Int32) (cr : Int32) (ow : Int32) (hd : Int32) => (cgW a q sz pr pm kv kn kr kt kb ks kj kw kg wd fw ad bk md cr ow hd)) K := by
  refine met_I_11 (by decide) (Nat.le_of_ble_eq_true rfl) (fun Γ g hret => ?_)
  unfold wp_X5_refund at h
  show jw Γ 3 0 0 (cgW a q sz pr pm kv kn kr kt kb ks kj kw kg wd fw ad bk md cr ow hd) [(0, .ref (a 0))] [] 0
  refine j_aload_n g 0 rfl dX5_refund_0 ?_
  refine j_get g fl_X5_45 0 cg_0 rfl dX5_refund_1 ?_
  refine j_if_ne g dX5_refund_4 (tgt := 9) (by decide) (fun c1 => ?_) (fun c1 => ?_)
  rotate_left
  · replace h := h.2 c1
    refine j_iconst g (v := -1) (by decide) dX5_refund_7 ?_
    exact hret.go dX5_refund_8 h
  replace h := h.1 c1
  refine j_aload_n g 0 rfl dX5_refund_9 ?_
  refine j_callVI_0 g (As := []) (st := []) (c_X5_heldValue  h) cl_X5_107 0 5 cg_0 rfl rfl (Nat.le_of_ble_eq_true rfl) (Nat.le_of_ble_eq_true rfl) (Nat.zero_le _) (Nat.zero_le _) rfl rfl (Nat.le_of_ble_eq_true rfl) dX5_refund_10 (fun r_2   h => ?_)
  refine j_istore_n g (lv' := [(1, .int r_2), (0, .ref (a 0))]) (by decide) rfl dX5_refund_13 ?_
  refine j_aload_n g 1 rfl dX5_refund_14 ?_
  refine j_get g fl_X5_37 0 cg_0 rfl dX5_refund_15 ?_
  refine j_iconst g (v := 2) (by decide) dX5_refund_18 ?_
  refine j_dup2 g rfl rfl dX5_refund_19 ?_
  obtain ⟨hv3, h⟩ := h
  refine j_iald g 5 cg_5 hv3 dX5_refund_20 ?_
  refine j_iload_n g 0 rfl dX5_refund_21 ?_
  refine j_iadd g dX5_refund_22 ?_
  obtain ⟨hv4, h⟩ := h
  refine j_iast g 5 cg_5 hv4 (ws' := (cgW a q sz pr pm kv kn kr kt kb ks kj kw kg wd fw ad (upd bk (2 : Int32).toNatClampNeg ((bk (2 : Int32).toNatClampNeg) + r_2)) md cr ow hd)) rfl dX5_refund_23 ?_
  refine j_aload_n g 1 rfl dX5_refund_24 ?_
  refine j_get g fl_X5_45 0 cg_0 rfl dX5_refund_25 ?_
  refine j_iload_n g 0 rfl dX5_refund_28 ?_
  refine j_isub g dX5_refund_29 ?_
  refine j_istore_n g (lv' := [(2, .int (cr - r_2)), (1, .int r_2), (0, .ref (a 0))]) (by decide) rfl dX5_refund_30 ?_
  refine j_aload_n g 2 rfl dX5_refund_31 ?_
  refine j_callVV_2 g (As := []) (st := []) (c_X5_endCredit  h) cl_X5_101 0 5 cg_0 rfl rfl (Nat.le_of_ble_eq_true rfl) (Nat.le_of_ble_eq_true rfl) (Nat.zero_le _) (Nat.zero_le _) rfl rfl (Nat.le_of_ble_eq_true rfl) dX5_refund_32 (fun cr_5 hd_5 h => ?_)
  refine j_ws (ws' := (cgW a q sz pr pm kv kn kr kt kb ks kj kw kg wd fw ad (upd bk (2 : Int32).toNatClampNeg ((bk (2 : Int32).toNatClampNeg) + r_2)) md cr_5 ow hd_5)) rfl ?_
  refine j_aload_n g 2 rfl dX5_refund_35 ?_
  refine j_iload_n g 0 rfl dX5_refund_36 ?_
  refine j_callVI_9 g (As := [.int (cr - r_2)]) (st := []) (c_X5_giveOut  h) cl_X5_104 0 5 cg_0 rfl rfl (Nat.le_of_ble_eq_true rfl) (Nat.le_of_ble_eq_true rfl) (Nat.zero_le _) (Nat.zero_le _) rfl rfl (Nat.le_of_ble_eq_true rfl) dX5_refund_37 (fun r_6 kt_6 ks_6 kj_6 kw_6 kg_6 wd_6 fw_6 bk_6 ow_6  h => ?_)
  refine j_ws (ws' := (cgW a q sz pr pm kv kn kr kt_6 kb ks_6 kj_6 kw_6 kg_6 wd_6 fw_6 ad bk_6 md cr_5 ow_6 hd_5)) rfl ?_
  exact hret.go dX5_refund_40 h

set_option maxRecDepth 20000 in
def wp_X5_pay  (sz : Int32) (pm : Nat → Nat) (kv : Nat → Int32) (kn : Nat → Int32) (kt : Nat → Int32) (ks : Nat → Int32) (kj : Nat → Int32) (kw : Nat → Int32) (kg : Nat → Int32) (wd : Nat → Nat → Int64) (fw : Nat → Nat → Int32) (bk : Nat → Int32) (md : Int32) (ow : Int32) (K : Int32 → (Nat → Int32) → (Nat → Int32) → (Nat → Int32) → (Nat → Int32) → (Nat → Int32) → (Nat → Nat → Int64) → (Nat → Nat → Int32) → (Nat → Int32) → Int32 → Prop) : Prop :=
  ((ow = 0 → K (-1 : Int32) kt ks kj kw kg wd fw bk ow) ∧ (¬ ow = 0 → wp_X5_plan ow sz pm kv kn kt ks kw wd fw md (fun (r_2 : Int32) (kw_2 : Nat → Int32) (wd_2 : Nat → Nat → Int64) (fw_2 : Nat → Nat → Int32) => ((¬ r_2 = 0 → wp_X5_giveOut ow sz pm kv kn kt ks kj kw_2 kg wd_2 fw_2 bk md (0 : Int32) (fun (r_4 : Int32) (kt_4 : Nat → Int32) (ks_4 : Nat → Int32) (kj_4 : Nat → Int32) (kw_4 : Nat → Int32) (kg_4 : Nat → Int32) (wd_4 : Nat → Nat → Int64) (fw_4 : Nat → Nat → Int32) (bk_4 : Nat → Int32) (ow_4 : Int32) => K r_4 kt_4 ks_4 kj_4 kw_4 kg_4 wd_4 fw_4 bk_4 ow_4)) ∧ (r_2 = 0 → K (-1 : Int32) kt ks kj kw_2 kg wd_2 fw_2 bk ow)))))
theorem dX5_pay_0 : decode cX5_pay 0 = .ok (.aload_n 0, 1) := by decide +kernel
theorem dX5_pay_1 : decode cX5_pay 1 = .ok (.getfield 48, 3) := by decide +kernel
theorem dX5_pay_4 : decode cX5_pay 4 = .ok (.ifCond .eq 14, 3) := by decide +kernel
theorem dX5_pay_7 : decode cX5_pay 7 = .ok (.aload_n 0, 1) := by decide +kernel
theorem dX5_pay_8 : decode cX5_pay 8 = .ok (.aload_n 0, 1) := by decide +kernel
theorem dX5_pay_9 : decode cX5_pay 9 = .ok (.getfield 48, 3) := by decide +kernel
theorem dX5_pay_12 : decode cX5_pay 12 = .ok (.invokevirtual 110, 3) := by decide +kernel
theorem dX5_pay_15 : decode cX5_pay 15 = .ok (.ifCond .ne 5, 3) := by decide +kernel
theorem dX5_pay_18 : decode cX5_pay 18 = .ok (.iconst (-1), 1) := by decide +kernel
theorem dX5_pay_19 : decode cX5_pay 19 = .ok (.ireturn, 1) := by decide +kernel
theorem dX5_pay_20 : decode cX5_pay 20 = .ok (.aload_n 0, 1) := by decide +kernel
theorem dX5_pay_21 : decode cX5_pay 21 = .ok (.getfield 48, 3) := by decide +kernel
theorem dX5_pay_24 : decode cX5_pay 24 = .ok (.istore_n 1, 1) := by decide +kernel
theorem dX5_pay_25 : decode cX5_pay 25 = .ok (.aload_n 0, 1) := by decide +kernel
theorem dX5_pay_26 : decode cX5_pay 26 = .ok (.iconst 0, 1) := by decide +kernel
theorem dX5_pay_27 : decode cX5_pay 27 = .ok (.putfield 48, 3) := by decide +kernel
theorem dX5_pay_30 : decode cX5_pay 30 = .ok (.aload_n 0, 1) := by decide +kernel
theorem dX5_pay_31 : decode cX5_pay 31 = .ok (.iload_n 1, 1) := by decide +kernel
theorem dX5_pay_32 : decode cX5_pay 32 = .ok (.invokevirtual 104, 3) := by decide +kernel
theorem dX5_pay_35 : decode cX5_pay 35 = .ok (.ireturn, 1) := by decide +kernel
set_option maxRecDepth 20000 in
set_option maxHeartbeats 4000000 in
theorem c_X5_pay {a : Nat → Nat} {q : Nat → ClassId}   {sz : Int32} {pr : Nat → Int32} {pm : Nat → Nat} {kv : Nat → Int32} {kn : Nat → Int32} {kr : Nat → Int32} {kt : Nat → Int32} {kb : Nat → Int32} {ks : Nat → Int32} {kj : Nat → Int32} {kw : Nat → Int32} {kg : Nat → Int32} {wd : Nat → Nat → Int64} {fw : Nat → Nat → Int32} {ad : Nat → Int32} {bk : Nat → Int32} {md : Int32} {cr : Int32} {ow : Int32} {hd : Int32} {K : Int32 → (Nat → Int32) → (Nat → Int32) → (Nat → Int32) → (Nat → Int32) → (Nat → Int32) → (Nat → Nat → Int64) → (Nat → Nat → Int32) → (Nat → Int32) → Int32 → Prop} (h : wp_X5_pay sz pm kv kn kt ks kj kw kg wd fw bk md ow K) : ctI_9 q yX5_pay cX5_pay 2 5 131 [.ref (a 0)] (cgW a q sz pr pm kv kn kr kt kb ks kj kw kg wd fw ad bk md cr ow hd) (fun (kt : Nat → Int32) (ks : Nat → Int32) (kj : Nat → Int32) (kw : Nat → Int32) (kg : Nat → Int32) (wd : Nat → Nat → Int64) (fw : Nat → Nat → Int32) (bk : Nat → Int32) (ow : Int32) => (cgW a q sz pr pm kv kn kr kt kb ks kj kw kg wd fw ad bk md cr ow hd)) K := by
  refine met_I_9 (by decide) (Nat.le_of_ble_eq_true rfl) (fun Γ g hret => ?_)
  unfold wp_X5_pay at h
  show jw Γ 2 0 0 (cgW a q sz pr pm kv kn kr kt kb ks kj kw kg wd fw ad bk md cr ow hd) [(0, .ref (a 0))] [] 0
  refine j_aload_n g 0 rfl dX5_pay_0 ?_
  refine j_get g fl_X5_48 0 cg_0 rfl dX5_pay_1 ?_
  refine j_if_eq g dX5_pay_4 (tgt := 18) (by decide) (fun c1 => ?_) (fun c1 => ?_)
  · replace h := h.1 c1
    refine j_iconst g (v := -1) (by decide) dX5_pay_18 ?_
    exact hret.go dX5_pay_19 h
  replace h := h.2 c1
  refine j_aload_n g 0 rfl dX5_pay_7 ?_
  refine j_aload_n g 0 rfl dX5_pay_8 ?_
  refine j_get g fl_X5_48 0 cg_0 rfl dX5_pay_9 ?_
  refine j_callVZ_3 g (As := [.int ow]) (st := []) (c_X5_plan  h) cl_X5_110 0 5 cg_0 rfl rfl (Nat.le_of_ble_eq_true rfl) (Nat.le_of_ble_eq_true rfl) (Nat.zero_le _) (Nat.zero_le _) rfl rfl (Nat.le_of_ble_eq_true rfl) dX5_pay_12 (fun r_2 kw_2 wd_2 fw_2 hz_2 h => ?_)
  refine j_ws (ws' := (cgW a q sz pr pm kv kn kr kt kb ks kj kw_2 kg wd_2 fw_2 ad bk md cr ow hd)) rfl ?_
  refine j_if_ne g dX5_pay_15 (tgt := 20) (by decide) (fun c3 => ?_) (fun c3 => ?_)
  rotate_left
  · replace h := h.2 c3
    refine j_iconst g (v := -1) (by decide) dX5_pay_18 ?_
    exact hret.go dX5_pay_19 h
  replace h := h.1 c3
  refine j_aload_n g 0 rfl dX5_pay_20 ?_
  refine j_get g fl_X5_48 0 cg_0 rfl dX5_pay_21 ?_
  refine j_istore_n g (lv' := [(1, .int ow), (0, .ref (a 0))]) (by decide) rfl dX5_pay_24 ?_
  refine j_aload_n g 1 rfl dX5_pay_25 ?_
  refine j_iconst g (v := 0) (by decide) dX5_pay_26 ?_
  refine j_put g fl_X5_48 fp_X5_7 0 cg_0 rfl rfl (Nat.le_of_ble_eq_true rfl) (ws' := (cgW a q sz pr pm kv kn kr kt kb ks kj kw_2 kg wd_2 fw_2 ad bk md cr (0 : Int32) hd)) rfl dX5_pay_27 ?_
  refine j_aload_n g 1 rfl dX5_pay_30 ?_
  refine j_iload_n g 0 rfl dX5_pay_31 ?_
  refine j_callVI_9 g (As := [.int ow]) (st := []) (c_X5_giveOut  h) cl_X5_104 0 5 cg_0 rfl rfl (Nat.le_of_ble_eq_true rfl) (Nat.le_of_ble_eq_true rfl) (Nat.zero_le _) (Nat.zero_le _) rfl rfl (Nat.le_of_ble_eq_true rfl) dX5_pay_32 (fun r_4 kt_4 ks_4 kj_4 kw_4 kg_4 wd_4 fw_4 bk_4 ow_4  h => ?_)
  refine j_ws (ws' := (cgW a q sz pr pm kv kn kr kt_4 kb ks_4 kj_4 kw_4 kg_4 wd_4 fw_4 ad bk_4 md cr ow_4 hd)) rfl ?_
  exact hret.go dX5_pay_35 h

set_option maxRecDepth 20000 in
def wp_X5_gave (x1 : Int32) (sz : Int32) (kg : Nat → Int32) (K : Int32 → Prop) : Prop :=
  wp_X3_find x1 sz (fun (o_1 : Option Nat)  => (o_1 = none → K (-1 : Int32)) ∧ (∀ i_1 : Nat, o_1 = some i_1 → i_1 < 6 → K (kg i_1)))
theorem dX5_gave_0 : decode cX5_gave 0 = .ok (.aload_n 0, 1) := by decide +kernel
theorem dX5_gave_1 : decode cX5_gave 1 = .ok (.getfield 12, 3) := by decide +kernel
theorem dX5_gave_4 : decode cX5_gave 4 = .ok (.iload_n 1, 1) := by decide +kernel
theorem dX5_gave_5 : decode cX5_gave 5 = .ok (.invokevirtual 84, 3) := by decide +kernel
theorem dX5_gave_8 : decode cX5_gave 8 = .ok (.astore_n 2, 1) := by decide +kernel
theorem dX5_gave_9 : decode cX5_gave 9 = .ok (.aload_n 2, 1) := by decide +kernel
theorem dX5_gave_10 : decode cX5_gave 10 = .ok (.ifnonnull 7, 3) := by decide +kernel
theorem dX5_gave_13 : decode cX5_gave 13 = .ok (.iconst (-1), 1) := by decide +kernel
theorem dX5_gave_14 : decode cX5_gave 14 = .ok (.goto 7, 3) := by decide +kernel
theorem dX5_gave_17 : decode cX5_gave 17 = .ok (.aload_n 2, 1) := by decide +kernel
theorem dX5_gave_18 : decode cX5_gave 18 = .ok (.getfield 114, 3) := by decide +kernel
theorem dX5_gave_21 : decode cX5_gave 21 = .ok (.ireturn, 1) := by decide +kernel
set_option maxRecDepth 20000 in
set_option maxHeartbeats 4000000 in
theorem c_X5_gave {a : Nat → Nat} {q : Nat → ClassId} {x1 : Int32}  {sz : Int32} {pr : Nat → Int32} {pm : Nat → Nat} {kv : Nat → Int32} {kn : Nat → Int32} {kr : Nat → Int32} {kt : Nat → Int32} {kb : Nat → Int32} {ks : Nat → Int32} {kj : Nat → Int32} {kw : Nat → Int32} {kg : Nat → Int32} {wd : Nat → Nat → Int64} {fw : Nat → Nat → Int32} {ad : Nat → Int32} {bk : Nat → Int32} {md : Int32} {cr : Int32} {ow : Int32} {hd : Int32} {K : Int32 → Prop} (h : wp_X5_gave x1 sz kg K) : ctI_0 q yX5_gave cX5_gave 3 1 21 [.ref (a 0), .int x1] (cgW a q sz pr pm kv kn kr kt kb ks kj kw kg wd fw ad bk md cr ow hd) (cgW a q sz pr pm kv kn kr kt kb ks kj kw kg wd fw ad bk md cr ow hd) K := by
  refine met_I_0 (by decide) (Nat.le_of_ble_eq_true rfl) (fun Γ g hret => ?_)
  unfold wp_X5_gave at h
  show jw Γ 3 0 0 (cgW a q sz pr pm kv kn kr kt kb ks kj kw kg wd fw ad bk md cr ow hd) [(0, .ref (a 0)), (1, .int x1)] [] 0
  refine j_aload_n g 0 rfl dX5_gave_0 ?_
  refine j_get g fl_X5_12 0 cg_0 rfl dX5_gave_1 ?_
  refine j_iload_n g 1 rfl dX5_gave_4 ?_
  refine j_callVQ_0 g (As := [.int x1]) (st := []) (c_X3_find  h) cl_X5_84 1 3 cg_1 rfl rfl (Nat.le_of_ble_eq_true rfl) (Nat.le_of_ble_eq_true rfl) (Nat.zero_le _) (Nat.zero_le _) rfl rfl (Nat.le_of_ble_eq_true rfl) dX5_gave_5 (fun  h => ?_) (fun i_1  hi_1 h => ?_)
  · replace h := h.1 rfl
    refine j_astore_nN g (lv' := [(2, .null), (0, .ref (a 0)), (1, .int x1)]) (by decide) rfl dX5_gave_8 ?_
    refine j_aload_nN g 0 rfl dX5_gave_9 ?_
    refine j_ifnonnullN g dX5_gave_10 ?_
    refine j_iconst g (v := -1) (by decide) dX5_gave_13 ?_
    refine j_goto g dX5_gave_14 (tgt := 21) (by decide) ?_
    exact hret.go dX5_gave_21 h
  replace h := h.2 i_1 rfl hi_1
  refine j_astore_n g (lv' := [(2, .ref (a (11 + i_1))), (0, .ref (a 0)), (1, .int x1)]) (by decide) rfl dX5_gave_8 ?_
  refine j_aload_n g 0 rfl dX5_gave_9 ?_
  refine j_ifnonnull g dX5_gave_10 (tgt := 17) (by decide) ?_
  refine j_aload_n g 0 rfl dX5_gave_17 ?_
  refine j_get g fl_X5_114 (11 + i_1) (cg_K hi_1) rfl dX5_gave_18 ?_
  exact hret.go dX5_gave_21 h

set_option maxRecDepth 20000 in
def wp_X5_way (x1 : Int32) (x2 : Int32) (sz : Int32) (pm : Nat → Nat) (kv : Nat → Int32) (kn : Nat → Int32) (kt : Nat → Int32) (ks : Nat → Int32) (kw : Nat → Int32) (wd : Nat → Nat → Int64) (fw : Nat → Nat → Int32) (md : Int32) (K : Int32 → (Nat → Int32) → (Nat → Nat → Int64) → (Nat → Nat → Int32) → Prop) : Prop :=
  wp_X3_find x2 sz (fun (o_1 : Option Nat)  => (o_1 = none → K (-1 : Int32) kw wd fw) ∧ (∀ i_1 : Nat, o_1 = some i_1 → i_1 < 6 → wp_X5_plan x1 sz pm kv kn kt ks kw wd fw md (fun (r_2 : Int32) (kw_2 : Nat → Int32) (wd_2 : Nat → Nat → Int64) (fw_2 : Nat → Nat → Int32) => ((¬ r_2 = 0 → K (kw_2 i_1) kw_2 wd_2 fw_2) ∧ (r_2 = 0 → K (-1 : Int32) kw_2 wd_2 fw_2)))))
theorem dX5_way_0 : decode cX5_way 0 = .ok (.aload_n 0, 1) := by decide +kernel
theorem dX5_way_1 : decode cX5_way 1 = .ok (.getfield 12, 3) := by decide +kernel
theorem dX5_way_4 : decode cX5_way 4 = .ok (.iload_n 2, 1) := by decide +kernel
theorem dX5_way_5 : decode cX5_way 5 = .ok (.invokevirtual 84, 3) := by decide +kernel
theorem dX5_way_8 : decode cX5_way 8 = .ok (.astore_n 3, 1) := by decide +kernel
theorem dX5_way_9 : decode cX5_way 9 = .ok (.aload_n 3, 1) := by decide +kernel
theorem dX5_way_10 : decode cX5_way 10 = .ok (.ifnull 11, 3) := by decide +kernel
theorem dX5_way_13 : decode cX5_way 13 = .ok (.aload_n 0, 1) := by decide +kernel
theorem dX5_way_14 : decode cX5_way 14 = .ok (.iload_n 1, 1) := by decide +kernel
theorem dX5_way_15 : decode cX5_way 15 = .ok (.invokevirtual 110, 3) := by decide +kernel
theorem dX5_way_18 : decode cX5_way 18 = .ok (.ifCond .ne 5, 3) := by decide +kernel
theorem dX5_way_21 : decode cX5_way 21 = .ok (.iconst (-1), 1) := by decide +kernel
theorem dX5_way_22 : decode cX5_way 22 = .ok (.ireturn, 1) := by decide +kernel
theorem dX5_way_23 : decode cX5_way 23 = .ok (.aload_n 3, 1) := by decide +kernel
theorem dX5_way_24 : decode cX5_way 24 = .ok (.getfield 117, 3) := by decide +kernel
theorem dX5_way_27 : decode cX5_way 27 = .ok (.ireturn, 1) := by decide +kernel
set_option maxRecDepth 20000 in
set_option maxHeartbeats 4000000 in
theorem c_X5_way {a : Nat → Nat} {q : Nat → ClassId} {x1 : Int32} {x2 : Int32}  {sz : Int32} {pr : Nat → Int32} {pm : Nat → Nat} {kv : Nat → Int32} {kn : Nat → Int32} {kr : Nat → Int32} {kt : Nat → Int32} {kb : Nat → Int32} {ks : Nat → Int32} {kj : Nat → Int32} {kw : Nat → Int32} {kg : Nat → Int32} {wd : Nat → Nat → Int64} {fw : Nat → Nat → Int32} {ad : Nat → Int32} {bk : Nat → Int32} {md : Int32} {cr : Int32} {ow : Int32} {hd : Int32} {K : Int32 → (Nat → Int32) → (Nat → Nat → Int64) → (Nat → Nat → Int32) → Prop} (h : wp_X5_way x1 x2 sz pm kv kn kt ks kw wd fw md K) : ctI_3 q yX5_way cX5_way 4 4 108 [.ref (a 0), .int x1, .int x2] (cgW a q sz pr pm kv kn kr kt kb ks kj kw kg wd fw ad bk md cr ow hd) (fun (kw : Nat → Int32) (wd : Nat → Nat → Int64) (fw : Nat → Nat → Int32) => (cgW a q sz pr pm kv kn kr kt kb ks kj kw kg wd fw ad bk md cr ow hd)) K := by
  refine met_I_3 (by decide) (Nat.le_of_ble_eq_true rfl) (fun Γ g hret => ?_)
  unfold wp_X5_way at h
  show jw Γ 4 0 0 (cgW a q sz pr pm kv kn kr kt kb ks kj kw kg wd fw ad bk md cr ow hd) [(0, .ref (a 0)), (1, .int x1), (2, .int x2)] [] 0
  refine j_aload_n g 0 rfl dX5_way_0 ?_
  refine j_get g fl_X5_12 0 cg_0 rfl dX5_way_1 ?_
  refine j_iload_n g 2 rfl dX5_way_4 ?_
  refine j_callVQ_0 g (As := [.int x2]) (st := []) (c_X3_find  h) cl_X5_84 1 3 cg_1 rfl rfl (Nat.le_of_ble_eq_true rfl) (Nat.le_of_ble_eq_true rfl) (Nat.zero_le _) (Nat.zero_le _) rfl rfl (Nat.le_of_ble_eq_true rfl) dX5_way_5 (fun  h => ?_) (fun i_1  hi_1 h => ?_)
  · replace h := h.1 rfl
    refine j_astore_nN g (lv' := [(3, .null), (0, .ref (a 0)), (1, .int x1), (2, .int x2)]) (by decide) rfl dX5_way_8 ?_
    refine j_aload_nN g 0 rfl dX5_way_9 ?_
    refine j_ifnullN g dX5_way_10 (tgt := 21) (by decide) ?_
    refine j_iconst g (v := -1) (by decide) dX5_way_21 ?_
    exact hret.go dX5_way_22 h
  replace h := h.2 i_1 rfl hi_1
  refine j_astore_n g (lv' := [(3, .ref (a (11 + i_1))), (0, .ref (a 0)), (1, .int x1), (2, .int x2)]) (by decide) rfl dX5_way_8 ?_
  refine j_aload_n g 0 rfl dX5_way_9 ?_
  refine j_ifnull g dX5_way_10 ?_
  refine j_aload_n g 1 rfl dX5_way_13 ?_
  refine j_iload_n g 2 rfl dX5_way_14 ?_
  refine j_callVZ_3 g (As := [.int x1]) (st := []) (c_X5_plan  h) cl_X5_110 0 5 cg_0 rfl rfl (Nat.le_of_ble_eq_true rfl) (Nat.le_of_ble_eq_true rfl) (Nat.zero_le _) (Nat.zero_le _) rfl rfl (Nat.le_of_ble_eq_true rfl) dX5_way_15 (fun r_2 kw_2 wd_2 fw_2 hz_2 h => ?_)
  refine j_ws (ws' := (cgW a q sz pr pm kv kn kr kt kb ks kj kw_2 kg wd_2 fw_2 ad bk md cr ow hd)) rfl ?_
  refine j_if_ne g dX5_way_18 (tgt := 23) (by decide) (fun c3 => ?_) (fun c3 => ?_)
  rotate_left
  · replace h := h.2 c3
    refine j_iconst g (v := -1) (by decide) dX5_way_21 ?_
    exact hret.go dX5_way_22 h
  replace h := h.1 c3
  refine j_aload_n g 0 rfl dX5_way_23 ?_
  refine j_get g fl_X5_117 (11 + i_1) (cg_K hi_1) rfl dX5_way_24 ?_
  exact hret.go dX5_way_27 h

set_option maxRecDepth 20000 in
def wp_X5_coins (x1 : Int32) (sz : Int32) (pm : Nat → Nat) (kv : Nat → Int32) (kn : Nat → Int32) (kt : Nat → Int32) (ks : Nat → Int32) (kw : Nat → Int32) (wd : Nat → Nat → Int64) (fw : Nat → Nat → Int32) (md : Int32) (K : Int32 → (Nat → Int32) → (Nat → Nat → Int64) → (Nat → Nat → Int32) → Prop) : Prop :=
  wp_X5_plan x1 sz pm kv kn kt ks kw wd fw md (fun (r_1 : Int32) (kw_1 : Nat → Int32) (wd_1 : Nat → Nat → Int64) (fw_1 : Nat → Nat → Int32) => ((r_1 = 0 → K (-1 : Int32) kw_1 wd_1 fw_1) ∧ (¬ r_1 = 0 → wp_X3_coinsInWay sz kw_1 (fun (r_3 : Int32)  => K r_3 kw_1 wd_1 fw_1))))
theorem dX5_coins_0 : decode cX5_coins 0 = .ok (.aload_n 0, 1) := by decide +kernel
theorem dX5_coins_1 : decode cX5_coins 1 = .ok (.iload_n 1, 1) := by decide +kernel
theorem dX5_coins_2 : decode cX5_coins 2 = .ok (.invokevirtual 110, 3) := by decide +kernel
theorem dX5_coins_5 : decode cX5_coins 5 = .ok (.ifCond .eq 13, 3) := by decide +kernel
theorem dX5_coins_8 : decode cX5_coins 8 = .ok (.aload_n 0, 1) := by decide +kernel
theorem dX5_coins_9 : decode cX5_coins 9 = .ok (.getfield 12, 3) := by decide +kernel
theorem dX5_coins_12 : decode cX5_coins 12 = .ok (.invokevirtual 120, 3) := by decide +kernel
theorem dX5_coins_15 : decode cX5_coins 15 = .ok (.goto 4, 3) := by decide +kernel
theorem dX5_coins_18 : decode cX5_coins 18 = .ok (.iconst (-1), 1) := by decide +kernel
theorem dX5_coins_19 : decode cX5_coins 19 = .ok (.ireturn, 1) := by decide +kernel
set_option maxRecDepth 20000 in
set_option maxHeartbeats 4000000 in
theorem c_X5_coins {a : Nat → Nat} {q : Nat → ClassId} {x1 : Int32}  {sz : Int32} {pr : Nat → Int32} {pm : Nat → Nat} {kv : Nat → Int32} {kn : Nat → Int32} {kr : Nat → Int32} {kt : Nat → Int32} {kb : Nat → Int32} {ks : Nat → Int32} {kj : Nat → Int32} {kw : Nat → Int32} {kg : Nat → Int32} {wd : Nat → Nat → Int64} {fw : Nat → Nat → Int32} {ad : Nat → Int32} {bk : Nat → Int32} {md : Int32} {cr : Int32} {ow : Int32} {hd : Int32} {K : Int32 → (Nat → Int32) → (Nat → Nat → Int64) → (Nat → Nat → Int32) → Prop} (h : wp_X5_coins x1 sz pm kv kn kt ks kw wd fw md K) : ctI_3 q yX5_coins cX5_coins 2 4 108 [.ref (a 0), .int x1] (cgW a q sz pr pm kv kn kr kt kb ks kj kw kg wd fw ad bk md cr ow hd) (fun (kw : Nat → Int32) (wd : Nat → Nat → Int64) (fw : Nat → Nat → Int32) => (cgW a q sz pr pm kv kn kr kt kb ks kj kw kg wd fw ad bk md cr ow hd)) K := by
  refine met_I_3 (by decide) (Nat.le_of_ble_eq_true rfl) (fun Γ g hret => ?_)
  unfold wp_X5_coins at h
  show jw Γ 2 0 0 (cgW a q sz pr pm kv kn kr kt kb ks kj kw kg wd fw ad bk md cr ow hd) [(0, .ref (a 0)), (1, .int x1)] [] 0
  refine j_aload_n g 0 rfl dX5_coins_0 ?_
  refine j_iload_n g 1 rfl dX5_coins_1 ?_
  refine j_callVZ_3 g (As := [.int x1]) (st := []) (c_X5_plan  h) cl_X5_110 0 5 cg_0 rfl rfl (Nat.le_of_ble_eq_true rfl) (Nat.le_of_ble_eq_true rfl) (Nat.zero_le _) (Nat.zero_le _) rfl rfl (Nat.le_of_ble_eq_true rfl) dX5_coins_2 (fun r_1 kw_1 wd_1 fw_1 hz_1 h => ?_)
  refine j_ws (ws' := (cgW a q sz pr pm kv kn kr kt kb ks kj kw_1 kg wd_1 fw_1 ad bk md cr ow hd)) rfl ?_
  refine j_if_eq g dX5_coins_5 (tgt := 18) (by decide) (fun c2 => ?_) (fun c2 => ?_)
  · replace h := h.1 c2
    refine j_iconst g (v := -1) (by decide) dX5_coins_18 ?_
    exact hret.go dX5_coins_19 h
  replace h := h.2 c2
  refine j_aload_n g 0 rfl dX5_coins_8 ?_
  refine j_get g fl_X5_12 0 cg_0 rfl dX5_coins_9 ?_
  refine j_callVI_0 g (As := []) (st := []) (c_X3_coinsInWay  h) cl_X5_120 1 3 cg_1 rfl rfl (Nat.le_of_ble_eq_true rfl) (Nat.le_of_ble_eq_true rfl) (Nat.zero_le _) (Nat.zero_le _) rfl rfl (Nat.le_of_ble_eq_true rfl) dX5_coins_12 (fun r_3   h => ?_)
  refine j_goto g dX5_coins_15 (tgt := 19) (by decide) ?_
  exact hret.go dX5_coins_19 h

set_option maxRecDepth 20000 in
def wp_X5_givable (x1 : Int32) (sz : Int32) (kv : Nat → Int32) (kn : Nat → Int32) (kt : Nat → Int32) (ks : Nat → Int32) (wd : Nat → Nat → Int64) (K : Int32 → (Nat → Nat → Int64) → Prop) : Prop :=
  ((x1 < 0 → K (-1 : Int32) wd) ∧ (¬ x1 < 0 → ((x1 ≤ (999 : Int32) → wp_X3_collect 0 (0 : Int32) sz kv kn kt ks wd (fun (wd_3 : Nat → Nat → Int64) => wp_X2_howMany 0 x1 wd_3 (fun (r_4 : Int32)  => K r_4 wd_3))) ∧ (¬ x1 ≤ (999 : Int32) → K (-1 : Int32) wd))))
theorem dX5_givable_0 : decode cX5_givable 0 = .ok (.iload_n 1, 1) := by decide +kernel
theorem dX5_givable_1 : decode cX5_givable 1 = .ok (.ifCond .lt 10, 3) := by decide +kernel
theorem dX5_givable_4 : decode cX5_givable 4 = .ok (.iload_n 1, 1) := by decide +kernel
theorem dX5_givable_5 : decode cX5_givable 5 = .ok (.sipush 999, 3) := by decide +kernel
theorem dX5_givable_8 : decode cX5_givable 8 = .ok (.if_icmp .le 5, 3) := by decide +kernel
theorem dX5_givable_11 : decode cX5_givable 11 = .ok (.iconst (-1), 1) := by decide +kernel
theorem dX5_givable_12 : decode cX5_givable 12 = .ok (.ireturn, 1) := by decide +kernel
theorem dX5_givable_13 : decode cX5_givable 13 = .ok (.aload_n 0, 1) := by decide +kernel
theorem dX5_givable_14 : decode cX5_givable 14 = .ok (.getfield 12, 3) := by decide +kernel
theorem dX5_givable_17 : decode cX5_givable 17 = .ok (.aload_n 0, 1) := by decide +kernel
theorem dX5_givable_18 : decode cX5_givable 18 = .ok (.getfield 19, 3) := by decide +kernel
theorem dX5_givable_21 : decode cX5_givable 21 = .ok (.iconst 0, 1) := by decide +kernel
theorem dX5_givable_22 : decode cX5_givable 22 = .ok (.invokevirtual 123, 3) := by decide +kernel
theorem dX5_givable_25 : decode cX5_givable 25 = .ok (.aload_n 0, 1) := by decide +kernel
theorem dX5_givable_26 : decode cX5_givable 26 = .ok (.getfield 19, 3) := by decide +kernel
theorem dX5_givable_29 : decode cX5_givable 29 = .ok (.iload_n 1, 1) := by decide +kernel
theorem dX5_givable_30 : decode cX5_givable 30 = .ok (.invokevirtual 127, 3) := by decide +kernel
theorem dX5_givable_33 : decode cX5_givable 33 = .ok (.ireturn, 1) := by decide +kernel
set_option maxRecDepth 20000 in
set_option maxHeartbeats 4000000 in
theorem c_X5_givable {a : Nat → Nat} {q : Nat → ClassId} {x1 : Int32}  {sz : Int32} {pr : Nat → Int32} {pm : Nat → Nat} {kv : Nat → Int32} {kn : Nat → Int32} {kr : Nat → Int32} {kt : Nat → Int32} {kb : Nat → Int32} {ks : Nat → Int32} {kj : Nat → Int32} {kw : Nat → Int32} {kg : Nat → Int32} {wd : Nat → Nat → Int64} {fw : Nat → Nat → Int32} {ad : Nat → Int32} {bk : Nat → Int32} {md : Int32} {cr : Int32} {ow : Int32} {hd : Int32} {K : Int32 → (Nat → Nat → Int64) → Prop} (h : wp_X5_givable x1 sz kv kn kt ks wd K) : ctI_1 q yX5_givable cX5_givable 2 3 74 [.ref (a 0), .int x1] (cgW a q sz pr pm kv kn kr kt kb ks kj kw kg wd fw ad bk md cr ow hd) (fun (wd : Nat → Nat → Int64) => (cgW a q sz pr pm kv kn kr kt kb ks kj kw kg wd fw ad bk md cr ow hd)) K := by
  refine met_I_1 (by decide) (Nat.le_of_ble_eq_true rfl) (fun Γ g hret => ?_)
  unfold wp_X5_givable at h
  show jw Γ 2 0 0 (cgW a q sz pr pm kv kn kr kt kb ks kj kw kg wd fw ad bk md cr ow hd) [(0, .ref (a 0)), (1, .int x1)] [] 0
  refine j_iload_n g 1 rfl dX5_givable_0 ?_
  refine j_if_lt g dX5_givable_1 (tgt := 11) (by decide) (fun c1 => ?_) (fun c1 => ?_)
  · replace h := h.1 c1
    refine j_iconst g (v := -1) (by decide) dX5_givable_11 ?_
    exact hret.go dX5_givable_12 h
  replace h := h.2 c1
  refine j_iload_n g 1 rfl dX5_givable_4 ?_
  refine j_sipush g (v := 999) (by decide) dX5_givable_5 ?_
  refine j_icmp_le g dX5_givable_8 (tgt := 13) (by decide) (fun c2 => ?_) (fun c2 => ?_)
  rotate_left
  · replace h := h.2 c2
    refine j_iconst g (v := -1) (by decide) dX5_givable_11 ?_
    exact hret.go dX5_givable_12 h
  replace h := h.1 c2
  refine j_aload_n g 0 rfl dX5_givable_13 ?_
  refine j_get g fl_X5_12 0 cg_0 rfl dX5_givable_14 ?_
  refine j_aload_n g 0 rfl dX5_givable_17 ?_
  refine j_get g fl_X5_19 0 cg_0 rfl dX5_givable_18 ?_
  refine j_iconst g (v := 0) (by decide) dX5_givable_21 ?_
  refine j_callVV_1 g (As := [.ref (a (17 + 0)), .int (0 : Int32)]) (st := []) (c_X3_collect (Nat.zero_lt_succ 5) h) cl_X5_123 1 3 cg_1 rfl rfl (Nat.le_of_ble_eq_true rfl) (Nat.le_of_ble_eq_true rfl) (Nat.zero_le _) (Nat.zero_le _) rfl rfl (Nat.le_of_ble_eq_true rfl) dX5_givable_22 (fun wd_3 h => ?_)
  refine j_ws (ws' := (cgW a q sz pr pm kv kn kr kt kb ks kj kw kg wd_3 fw ad bk md cr ow hd)) rfl ?_
  refine j_aload_n g 0 rfl dX5_givable_25 ?_
  refine j_get g fl_X5_19 0 cg_0 rfl dX5_givable_26 ?_
  refine j_iload_n g 1 rfl dX5_givable_29 ?_
  refine j_callVI_0 g (As := [.int x1]) (st := []) (c_X2_howMany (Nat.zero_lt_succ 5) h) cl_X5_127 (17 + 0) 2 (cg_S (Nat.zero_lt_succ 5)) rfl rfl (Nat.le_of_ble_eq_true rfl) (Nat.le_of_ble_eq_true rfl) (Nat.zero_le _) (Nat.zero_le _) rfl rfl (Nat.le_of_ble_eq_true rfl) dX5_givable_30 (fun r_4   h => ?_)
  exact hret.go dX5_givable_33 h

set_option maxRecDepth 20000 in
def wp_X5_light  (sz : Int32) (pr : Nat → Int32) (pm : Nat → Nat) (kv : Nat → Int32) (kn : Nat → Int32) (kr : Nat → Int32) (kt : Nat → Int32) (kb : Nat → Int32) (ks : Nat → Int32) (kj : Nat → Int32) (kw : Nat → Int32) (kg : Nat → Int32) (wd : Nat → Nat → Int64) (fw : Nat → Nat → Int32) (ad : Nat → Int32) (bk : Nat → Int32) (md : Int32) (cr : Int32) (ow : Int32) (hd : Int32) (K : Int32 → Int32 → (Nat → Int32) → (Nat → Nat) → (Nat → Int32) → (Nat → Int32) → (Nat → Int32) → (Nat → Int32) → (Nat → Int32) → (Nat → Int32) → (Nat → Int32) → (Nat → Int32) → (Nat → Int32) → (Nat → Nat → Int64) → (Nat → Nat → Int32) → (Nat → Int32) → (Nat → Int32) → Int32 → Int32 → Int32 → Int32 → Prop) : Prop :=
  wp_X1_fewest (0 : Int32) sz pr pm kv kn kr kt kb ks kj kw kg wd fw ad bk md cr ow hd (fun (r_1 : Int32) (sz_1 : Int32) (pr_1 : Nat → Int32) (pm_1 : Nat → Nat) (kv_1 : Nat → Int32) (kn_1 : Nat → Int32) (kr_1 : Nat → Int32) (kt_1 : Nat → Int32) (kb_1 : Nat → Int32) (ks_1 : Nat → Int32) (kj_1 : Nat → Int32) (kw_1 : Nat → Int32) (kg_1 : Nat → Int32) (wd_1 : Nat → Nat → Int64) (fw_1 : Nat → Nat → Int32) (ad_1 : Nat → Int32) (bk_1 : Nat → Int32) (md_1 : Int32) (cr_1 : Int32) (ow_1 : Int32) (hd_1 : Int32) => ((¬ r_1 = (-1 : Int32) → K (0 : Int32) sz_1 pr_1 pm_1 kv_1 kn_1 kr_1 kt_1 kb_1 ks_1 kj_1 kw_1 kg_1 wd_1 fw_1 ad_1 bk_1 md_1 cr_1 ow_1 hd_1) ∧ (r_1 = (-1 : Int32) → K (1 : Int32) sz_1 pr_1 pm_1 kv_1 kn_1 kr_1 kt_1 kb_1 ks_1 kj_1 kw_1 kg_1 wd_1 fw_1 ad_1 bk_1 md_1 cr_1 ow_1 hd_1)))
theorem dX5_light_0 : decode cX5_light 0 = .ok (.aload_n 0, 1) := by decide +kernel
theorem dX5_light_1 : decode cX5_light 1 = .ok (.getfield 33, 3) := by decide +kernel
theorem dX5_light_4 : decode cX5_light 4 = .ok (.aload_n 0, 1) := by decide +kernel
theorem dX5_light_5 : decode cX5_light 5 = .ok (.getfield 12, 3) := by decide +kernel
theorem dX5_light_8 : decode cX5_light 8 = .ok (.iconst 0, 1) := by decide +kernel
theorem dX5_light_9 : decode cX5_light 9 = .ok (.invokevirtual 130, 3) := by decide +kernel
theorem dX5_light_12 : decode cX5_light 12 = .ok (.iconst (-1), 1) := by decide +kernel
theorem dX5_light_13 : decode cX5_light 13 = .ok (.if_icmp .ne 7, 3) := by decide +kernel
theorem dX5_light_16 : decode cX5_light 16 = .ok (.iconst 1, 1) := by decide +kernel
theorem dX5_light_17 : decode cX5_light 17 = .ok (.goto 4, 3) := by decide +kernel
theorem dX5_light_20 : decode cX5_light 20 = .ok (.iconst 0, 1) := by decide +kernel
theorem dX5_light_21 : decode cX5_light 21 = .ok (.ireturn, 1) := by decide +kernel
set_option maxRecDepth 20000 in
set_option maxHeartbeats 4000000 in
theorem c_X5_light {a : Nat → Nat} {q : Nat → ClassId}   {sz : Int32} {pr : Nat → Int32} {pm : Nat → Nat} {kv : Nat → Int32} {kn : Nat → Int32} {kr : Nat → Int32} {kt : Nat → Int32} {kb : Nat → Int32} {ks : Nat → Int32} {kj : Nat → Int32} {kw : Nat → Int32} {kg : Nat → Int32} {wd : Nat → Nat → Int64} {fw : Nat → Nat → Int32} {ad : Nat → Int32} {bk : Nat → Int32} {md : Int32} {cr : Int32} {ow : Int32} {hd : Int32} {K : Int32 → Int32 → (Nat → Int32) → (Nat → Nat) → (Nat → Int32) → (Nat → Int32) → (Nat → Int32) → (Nat → Int32) → (Nat → Int32) → (Nat → Int32) → (Nat → Int32) → (Nat → Int32) → (Nat → Int32) → (Nat → Nat → Int64) → (Nat → Nat → Int32) → (Nat → Int32) → (Nat → Int32) → Int32 → Int32 → Int32 → Int32 → Prop} (h : wp_X5_light sz pr pm kv kn kr kt kb ks kj kw kg wd fw ad bk md cr ow hd K) : ctZ_20 q yX5_light cX5_light 1 12 302 [.ref (a 0)] (cgW a q sz pr pm kv kn kr kt kb ks kj kw kg wd fw ad bk md cr ow hd) (fun (sz : Int32) (pr : Nat → Int32) (pm : Nat → Nat) (kv : Nat → Int32) (kn : Nat → Int32) (kr : Nat → Int32) (kt : Nat → Int32) (kb : Nat → Int32) (ks : Nat → Int32) (kj : Nat → Int32) (kw : Nat → Int32) (kg : Nat → Int32) (wd : Nat → Nat → Int64) (fw : Nat → Nat → Int32) (ad : Nat → Int32) (bk : Nat → Int32) (md : Int32) (cr : Int32) (ow : Int32) (hd : Int32) => (cgW a q sz pr pm kv kn kr kt kb ks kj kw kg wd fw ad bk md cr ow hd)) K := by
  refine met_Z_20 (by decide) (Nat.le_of_ble_eq_true rfl) (fun Γ g hret => ?_)
  unfold wp_X5_light at h
  show jw Γ 1 0 0 (cgW a q sz pr pm kv kn kr kt kb ks kj kw kg wd fw ad bk md cr ow hd) [(0, .ref (a 0))] [] 0
  refine j_aload_n g 0 rfl dX5_light_0 ?_
  refine j_get g fl_X5_33 0 cg_0 rfl dX5_light_1 ?_
  refine j_aload_n g 0 rfl dX5_light_4 ?_
  refine j_get g fl_X5_12 0 cg_0 rfl dX5_light_5 ?_
  refine j_iconst g (v := 0) (by decide) dX5_light_8 ?_
  refine j_callVI_20 g (As := [.ref (a 1), .int (0 : Int32)]) (st := []) (c_X1_fewest  h) cl_X5_130 8 1 cg_8 rfl rfl (Nat.le_of_ble_eq_true rfl) (Nat.le_of_ble_eq_true rfl) (Nat.zero_le _) (Nat.zero_le _) rfl rfl (Nat.le_of_ble_eq_true rfl) dX5_light_9 (fun r_1 sz_1 pr_1 pm_1 kv_1 kn_1 kr_1 kt_1 kb_1 ks_1 kj_1 kw_1 kg_1 wd_1 fw_1 ad_1 bk_1 md_1 cr_1 ow_1 hd_1  h => ?_)
  refine j_ws (ws' := (cgW a q sz_1 pr_1 pm_1 kv_1 kn_1 kr_1 kt_1 kb_1 ks_1 kj_1 kw_1 kg_1 wd_1 fw_1 ad_1 bk_1 md_1 cr_1 ow_1 hd_1)) rfl ?_
  refine j_iconst g (v := -1) (by decide) dX5_light_12 ?_
  refine j_icmp_ne g dX5_light_13 (tgt := 20) (by decide) (fun c2 => ?_) (fun c2 => ?_)
  · replace h := h.1 c2
    refine j_iconst g (v := 0) (by decide) dX5_light_20 ?_
    exact hret.go dX5_light_21 (Or.inl rfl) h
  replace h := h.2 c2
  refine j_iconst g (v := 1) (by decide) dX5_light_16 ?_
  refine j_goto g dX5_light_17 (tgt := 21) (by decide) ?_
  exact hret.go dX5_light_21 (Or.inr rfl) h

set_option maxRecDepth 20000 in
def wp_X5_need (x1 : Int32) (sz : Int32) (pr : Nat → Int32) (pm : Nat → Nat) (kv : Nat → Int32) (kn : Nat → Int32) (kr : Nat → Int32) (kt : Nat → Int32) (kb : Nat → Int32) (ks : Nat → Int32) (kj : Nat → Int32) (kw : Nat → Int32) (kg : Nat → Int32) (wd : Nat → Nat → Int64) (fw : Nat → Nat → Int32) (ad : Nat → Int32) (bk : Nat → Int32) (md : Int32) (cr : Int32) (ow : Int32) (hd : Int32) (K : Int32 → Int32 → (Nat → Int32) → (Nat → Nat) → (Nat → Int32) → (Nat → Int32) → (Nat → Int32) → (Nat → Int32) → (Nat → Int32) → (Nat → Int32) → (Nat → Int32) → (Nat → Int32) → (Nat → Int32) → (Nat → Nat → Int64) → (Nat → Nat → Int32) → (Nat → Int32) → (Nat → Int32) → Int32 → Int32 → Int32 → Int32 → Prop) : Prop :=
  (((10 : Int32) ≤ x1 → wp_X3_find (x1 - (10 : Int32)) sz (fun (o_3 : Option Nat)  => (o_3 = none → ((x1 = 0 → wp_X1_fewest (4 : Int32) sz pr pm kv kn kr kt kb ks kj kw kg wd fw ad bk md cr ow hd (fun (r_5 : Int32) (sz_5 : Int32) (pr_5 : Nat → Int32) (pm_5 : Nat → Nat) (kv_5 : Nat → Int32) (kn_5 : Nat → Int32) (kr_5 : Nat → Int32) (kt_5 : Nat → Int32) (kb_5 : Nat → Int32) (ks_5 : Nat → Int32) (kj_5 : Nat → Int32) (kw_5 : Nat → Int32) (kg_5 : Nat → Int32) (wd_5 : Nat → Nat → Int64) (fw_5 : Nat → Nat → Int32) (ad_5 : Nat → Int32) (bk_5 : Nat → Int32) (md_5 : Int32) (cr_5 : Int32) (ow_5 : Int32) (hd_5 : Int32) => ((r_5 = (-1 : Int32) → K r_5 sz_5 pr_5 pm_5 kv_5 kn_5 kr_5 kt_5 kb_5 ks_5 kj_5 kw_5 kg_5 wd_5 fw_5 ad_5 bk_5 md_5 cr_5 ow_5 hd_5) ∧ (¬ r_5 = (-1 : Int32) → K r_5 sz_5 pr_5 pm_5 kv_5 kn_5 kr_5 kt_5 kb_5 ks_5 kj_5 kw_5 kg_5 wd_5 fw_5 ad_5 bk_5 md_5 cr_5 ow_5 hd_5)))) ∧ (¬ x1 = 0 → K (-1 : Int32) sz pr pm kv kn kr kt kb ks kj kw kg wd fw ad bk md cr ow hd))) ∧ (∀ i_3 : Nat, o_3 = some i_3 → i_3 < 6 → jn (fun (Z7 : Prop) => ((x1 = 0 → Z7) ∧ (¬ x1 = 0 → Z7))) (wp_X1_fewest (4 : Int32) sz pr pm kv kn kr kt kb ks kj kw kg wd fw ad bk md cr ow hd (fun (r_8 : Int32) (sz_8 : Int32) (pr_8 : Nat → Int32) (pm_8 : Nat → Nat) (kv_8 : Nat → Int32) (kn_8 : Nat → Int32) (kr_8 : Nat → Int32) (kt_8 : Nat → Int32) (kb_8 : Nat → Int32) (ks_8 : Nat → Int32) (kj_8 : Nat → Int32) (kw_8 : Nat → Int32) (kg_8 : Nat → Int32) (wd_8 : Nat → Nat → Int64) (fw_8 : Nat → Nat → Int32) (ad_8 : Nat → Int32) (bk_8 : Nat → Int32) (md_8 : Int32) (cr_8 : Int32) (ow_8 : Int32) (hd_8 : Int32) => ((r_8 = (-1 : Int32) → K r_8 sz_8 pr_8 pm_8 kv_8 kn_8 kr_8 kt_8 kb_8 ks_8 kj_8 kw_8 kg_8 wd_8 fw_8 ad_8 bk_8 md_8 cr_8 ow_8 hd_8) ∧ (¬ r_8 = (-1 : Int32) → (vp_in (x1 - (10 : Int32)) 6 ∧ K (ad_8 (x1 - (10 : Int32)).toNatClampNeg) sz_8 pr_8 pm_8 kv_8 kn_8 kr_8 kt_8 kb_8 ks_8 kj_8 kw_8 kg_8 wd_8 fw_8 ad_8 bk_8 md_8 cr_8 ow_8 hd_8)))))))) ∧ (¬ (10 : Int32) ≤ x1 → ((x1 = 0 → wp_X1_fewest (4 : Int32) sz pr pm kv kn kr kt kb ks kj kw kg wd fw ad bk md cr ow hd (fun (r_13 : Int32) (sz_13 : Int32) (pr_13 : Nat → Int32) (pm_13 : Nat → Nat) (kv_13 : Nat → Int32) (kn_13 : Nat → Int32) (kr_13 : Nat → Int32) (kt_13 : Nat → Int32) (kb_13 : Nat → Int32) (ks_13 : Nat → Int32) (kj_13 : Nat → Int32) (kw_13 : Nat → Int32) (kg_13 : Nat → Int32) (wd_13 : Nat → Nat → Int64) (fw_13 : Nat → Nat → Int32) (ad_13 : Nat → Int32) (bk_13 : Nat → Int32) (md_13 : Int32) (cr_13 : Int32) (ow_13 : Int32) (hd_13 : Int32) => ((r_13 = (-1 : Int32) → K r_13 sz_13 pr_13 pm_13 kv_13 kn_13 kr_13 kt_13 kb_13 ks_13 kj_13 kw_13 kg_13 wd_13 fw_13 ad_13 bk_13 md_13 cr_13 ow_13 hd_13) ∧ (¬ r_13 = (-1 : Int32) → K r_13 sz_13 pr_13 pm_13 kv_13 kn_13 kr_13 kt_13 kb_13 ks_13 kj_13 kw_13 kg_13 wd_13 fw_13 ad_13 bk_13 md_13 cr_13 ow_13 hd_13)))) ∧ (¬ x1 = 0 → K (-1 : Int32) sz pr pm kv kn kr kt kb ks kj kw kg wd fw ad bk md cr ow hd))))
theorem dX5_need_0 : decode cX5_need 0 = .ok (.iload_n 1, 1) := by decide +kernel
theorem dX5_need_1 : decode cX5_need 1 = .ok (.bipush 10, 2) := by decide +kernel
theorem dX5_need_3 : decode cX5_need 3 = .ok (.if_icmp .ge 7, 3) := by decide +kernel
theorem dX5_need_6 : decode cX5_need 6 = .ok (.aconst_null, 1) := by decide +kernel
theorem dX5_need_7 : decode cX5_need 7 = .ok (.goto 14, 3) := by decide +kernel
theorem dX5_need_10 : decode cX5_need 10 = .ok (.aload_n 0, 1) := by decide +kernel
theorem dX5_need_11 : decode cX5_need 11 = .ok (.getfield 12, 3) := by decide +kernel
theorem dX5_need_14 : decode cX5_need 14 = .ok (.iload_n 1, 1) := by decide +kernel
theorem dX5_need_15 : decode cX5_need 15 = .ok (.bipush 10, 2) := by decide +kernel
theorem dX5_need_17 : decode cX5_need 17 = .ok (.isub, 1) := by decide +kernel
theorem dX5_need_18 : decode cX5_need 18 = .ok (.invokevirtual 84, 3) := by decide +kernel
theorem dX5_need_21 : decode cX5_need 21 = .ok (.astore_n 2, 1) := by decide +kernel
theorem dX5_need_22 : decode cX5_need 22 = .ok (.iload_n 1, 1) := by decide +kernel
theorem dX5_need_23 : decode cX5_need 23 = .ok (.ifCond .eq 9, 3) := by decide +kernel
theorem dX5_need_26 : decode cX5_need 26 = .ok (.aload_n 2, 1) := by decide +kernel
theorem dX5_need_27 : decode cX5_need 27 = .ok (.ifnonnull 5, 3) := by decide +kernel
theorem dX5_need_30 : decode cX5_need 30 = .ok (.iconst (-1), 1) := by decide +kernel
theorem dX5_need_31 : decode cX5_need 31 = .ok (.ireturn, 1) := by decide +kernel
theorem dX5_need_32 : decode cX5_need 32 = .ok (.aload_n 0, 1) := by decide +kernel
theorem dX5_need_33 : decode cX5_need 33 = .ok (.getfield 33, 3) := by decide +kernel
theorem dX5_need_36 : decode cX5_need 36 = .ok (.aload_n 0, 1) := by decide +kernel
theorem dX5_need_37 : decode cX5_need 37 = .ok (.getfield 12, 3) := by decide +kernel
theorem dX5_need_40 : decode cX5_need 40 = .ok (.iconst 4, 1) := by decide +kernel
theorem dX5_need_41 : decode cX5_need 41 = .ok (.invokevirtual 130, 3) := by decide +kernel
theorem dX5_need_44 : decode cX5_need 44 = .ok (.istore_n 3, 1) := by decide +kernel
theorem dX5_need_45 : decode cX5_need 45 = .ok (.iload_n 3, 1) := by decide +kernel
theorem dX5_need_46 : decode cX5_need 46 = .ok (.iconst (-1), 1) := by decide +kernel
theorem dX5_need_47 : decode cX5_need 47 = .ok (.if_icmp .eq 7, 3) := by decide +kernel
theorem dX5_need_50 : decode cX5_need 50 = .ok (.aload_n 2, 1) := by decide +kernel
theorem dX5_need_51 : decode cX5_need 51 = .ok (.ifnonnull 5, 3) := by decide +kernel
theorem dX5_need_54 : decode cX5_need 54 = .ok (.iload_n 3, 1) := by decide +kernel
theorem dX5_need_55 : decode cX5_need 55 = .ok (.ireturn, 1) := by decide +kernel
theorem dX5_need_56 : decode cX5_need 56 = .ok (.aload_n 0, 1) := by decide +kernel
theorem dX5_need_57 : decode cX5_need 57 = .ok (.getfield 33, 3) := by decide +kernel
theorem dX5_need_60 : decode cX5_need 60 = .ok (.getfield 134, 3) := by decide +kernel
theorem dX5_need_63 : decode cX5_need 63 = .ok (.iload_n 1, 1) := by decide +kernel
theorem dX5_need_64 : decode cX5_need 64 = .ok (.bipush 10, 2) := by decide +kernel
theorem dX5_need_66 : decode cX5_need 66 = .ok (.isub, 1) := by decide +kernel
theorem dX5_need_67 : decode cX5_need 67 = .ok (.iaload, 1) := by decide +kernel
theorem dX5_need_68 : decode cX5_need 68 = .ok (.ireturn, 1) := by decide +kernel
set_option maxRecDepth 20000 in
set_option maxHeartbeats 4000000 in
theorem c_X5_need {a : Nat → Nat} {q : Nat → ClassId} {x1 : Int32}  {sz : Int32} {pr : Nat → Int32} {pm : Nat → Nat} {kv : Nat → Int32} {kn : Nat → Int32} {kr : Nat → Int32} {kt : Nat → Int32} {kb : Nat → Int32} {ks : Nat → Int32} {kj : Nat → Int32} {kw : Nat → Int32} {kg : Nat → Int32} {wd : Nat → Nat → Int64} {fw : Nat → Nat → Int32} {ad : Nat → Int32} {bk : Nat → Int32} {md : Int32} {cr : Int32} {ow : Int32} {hd : Int32} {K : Int32 → Int32 → (Nat → Int32) → (Nat → Nat) → (Nat → Int32) → (Nat → Int32) → (Nat → Int32) → (Nat → Int32) → (Nat → Int32) → (Nat → Int32) → (Nat → Int32) → (Nat → Int32) → (Nat → Int32) → (Nat → Nat → Int64) → (Nat → Nat → Int32) → (Nat → Int32) → (Nat → Int32) → Int32 → Int32 → Int32 → Int32 → Prop} (h : wp_X5_need x1 sz pr pm kv kn kr kt kb ks kj kw kg wd fw ad bk md cr ow hd K) : ctI_20 q yX5_need cX5_need 4 12 302 [.ref (a 0), .int x1] (cgW a q sz pr pm kv kn kr kt kb ks kj kw kg wd fw ad bk md cr ow hd) (fun (sz : Int32) (pr : Nat → Int32) (pm : Nat → Nat) (kv : Nat → Int32) (kn : Nat → Int32) (kr : Nat → Int32) (kt : Nat → Int32) (kb : Nat → Int32) (ks : Nat → Int32) (kj : Nat → Int32) (kw : Nat → Int32) (kg : Nat → Int32) (wd : Nat → Nat → Int64) (fw : Nat → Nat → Int32) (ad : Nat → Int32) (bk : Nat → Int32) (md : Int32) (cr : Int32) (ow : Int32) (hd : Int32) => (cgW a q sz pr pm kv kn kr kt kb ks kj kw kg wd fw ad bk md cr ow hd)) K := by
  refine met_I_20 (by decide) (Nat.le_of_ble_eq_true rfl) (fun Γ g hret => ?_)
  unfold wp_X5_need at h
  show jw Γ 4 0 0 (cgW a q sz pr pm kv kn kr kt kb ks kj kw kg wd fw ad bk md cr ow hd) [(0, .ref (a 0)), (1, .int x1)] [] 0
  refine j_iload_n g 1 rfl dX5_need_0 ?_
  refine j_bipush g (v := 10) (by decide) dX5_need_1 ?_
  refine j_icmp_ge g dX5_need_3 (tgt := 10) (by decide) (fun c2 => ?_) (fun c2 => ?_)
  rotate_left
  · replace h := h.2 c2
    refine j_null g dX5_need_6 ?_
    refine j_goto g dX5_need_7 (tgt := 21) (by decide) ?_
    refine j_astore_nN g (lv' := [(2, .null), (0, .ref (a 0)), (1, .int x1)]) (by decide) rfl dX5_need_21 ?_
    refine j_iload_n g 2 rfl dX5_need_22 ?_
    refine j_if_eq g dX5_need_23 (tgt := 32) (by decide) (fun c12 => ?_) (fun c12 => ?_)
    rotate_left
    · replace h := h.2 c12
      refine j_aload_nN g 0 rfl dX5_need_26 ?_
      refine j_ifnonnullN g dX5_need_27 ?_
      refine j_iconst g (v := -1) (by decide) dX5_need_30 ?_
      exact hret.go dX5_need_31 h
    replace h := h.1 c12
    refine j_aload_n g 1 rfl dX5_need_32 ?_
    refine j_get g fl_X5_33 0 cg_0 rfl dX5_need_33 ?_
    refine j_aload_n g 1 rfl dX5_need_36 ?_
    refine j_get g fl_X5_12 0 cg_0 rfl dX5_need_37 ?_
    refine j_iconst g (v := 4) (by decide) dX5_need_40 ?_
    refine j_callVI_20 g (As := [.ref (a 1), .int (4 : Int32)]) (st := []) (c_X1_fewest  h) cl_X5_130 8 1 cg_8 rfl rfl (Nat.le_of_ble_eq_true rfl) (Nat.le_of_ble_eq_true rfl) (Nat.zero_le _) (Nat.zero_le _) rfl rfl (Nat.le_of_ble_eq_true rfl) dX5_need_41 (fun r_13 sz_13 pr_13 pm_13 kv_13 kn_13 kr_13 kt_13 kb_13 ks_13 kj_13 kw_13 kg_13 wd_13 fw_13 ad_13 bk_13 md_13 cr_13 ow_13 hd_13  h => ?_)
    refine j_ws (ws' := (cgW a q sz_13 pr_13 pm_13 kv_13 kn_13 kr_13 kt_13 kb_13 ks_13 kj_13 kw_13 kg_13 wd_13 fw_13 ad_13 bk_13 md_13 cr_13 ow_13 hd_13)) rfl ?_
    refine j_istore_n g (lv' := [(3, .int r_13), (2, .null), (0, .ref (a 0)), (1, .int x1)]) (by decide) rfl dX5_need_44 ?_
    refine j_iload_n g 0 rfl dX5_need_45 ?_
    refine j_iconst g (v := -1) (by decide) dX5_need_46 ?_
    refine j_icmp_eq g dX5_need_47 (tgt := 54) (by decide) (fun c14 => ?_) (fun c14 => ?_)
    · replace h := h.1 c14
      refine j_iload_n g 0 rfl dX5_need_54 ?_
      exact hret.go dX5_need_55 h
    replace h := h.2 c14
    refine j_aload_nN g 1 rfl dX5_need_50 ?_
    refine j_ifnonnullN g dX5_need_51 ?_
    refine j_iload_n g 0 rfl dX5_need_54 ?_
    exact hret.go dX5_need_55 h
  replace h := h.1 c2
  refine j_aload_n g 0 rfl dX5_need_10 ?_
  refine j_get g fl_X5_12 0 cg_0 rfl dX5_need_11 ?_
  refine j_iload_n g 1 rfl dX5_need_14 ?_
  refine j_bipush g (v := 10) (by decide) dX5_need_15 ?_
  refine j_isub g dX5_need_17 ?_
  refine j_callVQ_0 g (As := [.int (x1 - (10 : Int32))]) (st := []) (c_X3_find  h) cl_X5_84 1 3 cg_1 rfl rfl (Nat.le_of_ble_eq_true rfl) (Nat.le_of_ble_eq_true rfl) (Nat.zero_le _) (Nat.zero_le _) rfl rfl (Nat.le_of_ble_eq_true rfl) dX5_need_18 (fun  h => ?_) (fun i_3  hi_3 h => ?_)
  · replace h := h.1 rfl
    refine j_astore_nN g (lv' := [(2, .null), (0, .ref (a 0)), (1, .int x1)]) (by decide) rfl dX5_need_21 ?_
    refine j_iload_n g 2 rfl dX5_need_22 ?_
    refine j_if_eq g dX5_need_23 (tgt := 32) (by decide) (fun c4 => ?_) (fun c4 => ?_)
    rotate_left
    · replace h := h.2 c4
      refine j_aload_nN g 0 rfl dX5_need_26 ?_
      refine j_ifnonnullN g dX5_need_27 ?_
      refine j_iconst g (v := -1) (by decide) dX5_need_30 ?_
      exact hret.go dX5_need_31 h
    replace h := h.1 c4
    refine j_aload_n g 1 rfl dX5_need_32 ?_
    refine j_get g fl_X5_33 0 cg_0 rfl dX5_need_33 ?_
    refine j_aload_n g 1 rfl dX5_need_36 ?_
    refine j_get g fl_X5_12 0 cg_0 rfl dX5_need_37 ?_
    refine j_iconst g (v := 4) (by decide) dX5_need_40 ?_
    refine j_callVI_20 g (As := [.ref (a 1), .int (4 : Int32)]) (st := []) (c_X1_fewest  h) cl_X5_130 8 1 cg_8 rfl rfl (Nat.le_of_ble_eq_true rfl) (Nat.le_of_ble_eq_true rfl) (Nat.zero_le _) (Nat.zero_le _) rfl rfl (Nat.le_of_ble_eq_true rfl) dX5_need_41 (fun r_5 sz_5 pr_5 pm_5 kv_5 kn_5 kr_5 kt_5 kb_5 ks_5 kj_5 kw_5 kg_5 wd_5 fw_5 ad_5 bk_5 md_5 cr_5 ow_5 hd_5  h => ?_)
    refine j_ws (ws' := (cgW a q sz_5 pr_5 pm_5 kv_5 kn_5 kr_5 kt_5 kb_5 ks_5 kj_5 kw_5 kg_5 wd_5 fw_5 ad_5 bk_5 md_5 cr_5 ow_5 hd_5)) rfl ?_
    refine j_istore_n g (lv' := [(3, .int r_5), (2, .null), (0, .ref (a 0)), (1, .int x1)]) (by decide) rfl dX5_need_44 ?_
    refine j_iload_n g 0 rfl dX5_need_45 ?_
    refine j_iconst g (v := -1) (by decide) dX5_need_46 ?_
    refine j_icmp_eq g dX5_need_47 (tgt := 54) (by decide) (fun c6 => ?_) (fun c6 => ?_)
    · replace h := h.1 c6
      refine j_iload_n g 0 rfl dX5_need_54 ?_
      exact hret.go dX5_need_55 h
    replace h := h.2 c6
    refine j_aload_nN g 1 rfl dX5_need_50 ?_
    refine j_ifnonnullN g dX5_need_51 ?_
    refine j_iload_n g 0 rfl dX5_need_54 ?_
    exact hret.go dX5_need_55 h
  replace h := h.2 i_3 rfl hi_3
  refine j_astore_n g (lv' := [(2, .ref (a (11 + i_3))), (0, .ref (a 0)), (1, .int x1)]) (by decide) rfl dX5_need_21 ?_
  refine j_iload_n g 2 rfl dX5_need_22 ?_
  refine jn_cut h (fun Z7 eZ7 h => ?_)
  have hZ7 : Z7 → jw Γ 4 0 0 (cgW a q sz pr pm kv kn kr kt kb ks kj kw kg wd fw ad bk md cr ow hd) [(0, .ref (a 0)), (1, .int x1), (2, .ref (a (11 + i_3)))] [] 32 := by
    intro h
    rw [eZ7] at h
    refine j_aload_n g 0 rfl dX5_need_32 ?_
    refine j_get g fl_X5_33 0 cg_0 rfl dX5_need_33 ?_
    refine j_aload_n g 0 rfl dX5_need_36 ?_
    refine j_get g fl_X5_12 0 cg_0 rfl dX5_need_37 ?_
    refine j_iconst g (v := 4) (by decide) dX5_need_40 ?_
    refine j_callVI_20 g (As := [.ref (a 1), .int (4 : Int32)]) (st := []) (c_X1_fewest  h) cl_X5_130 8 1 cg_8 rfl rfl (Nat.le_of_ble_eq_true rfl) (Nat.le_of_ble_eq_true rfl) (Nat.zero_le _) (Nat.zero_le _) rfl rfl (Nat.le_of_ble_eq_true rfl) dX5_need_41 (fun r_8 sz_8 pr_8 pm_8 kv_8 kn_8 kr_8 kt_8 kb_8 ks_8 kj_8 kw_8 kg_8 wd_8 fw_8 ad_8 bk_8 md_8 cr_8 ow_8 hd_8  h => ?_)
    refine j_ws (ws' := (cgW a q sz_8 pr_8 pm_8 kv_8 kn_8 kr_8 kt_8 kb_8 ks_8 kj_8 kw_8 kg_8 wd_8 fw_8 ad_8 bk_8 md_8 cr_8 ow_8 hd_8)) rfl ?_
    refine j_istore_n g (lv' := [(3, .int r_8), (0, .ref (a 0)), (1, .int x1), (2, .ref (a (11 + i_3)))]) (by decide) rfl dX5_need_44 ?_
    refine j_iload_n g 0 rfl dX5_need_45 ?_
    refine j_iconst g (v := -1) (by decide) dX5_need_46 ?_
    refine j_icmp_eq g dX5_need_47 (tgt := 54) (by decide) (fun c9 => ?_) (fun c9 => ?_)
    · replace h := h.1 c9
      refine j_iload_n g 0 rfl dX5_need_54 ?_
      exact hret.go dX5_need_55 h
    replace h := h.2 c9
    refine j_aload_n g 3 rfl dX5_need_50 ?_
    refine j_ifnonnull g dX5_need_51 (tgt := 56) (by decide) ?_
    refine j_aload_n g 1 rfl dX5_need_56 ?_
    refine j_get g fl_X5_33 0 cg_0 rfl dX5_need_57 ?_
    refine j_get g fl_X5_134 8 cg_8 rfl dX5_need_60 ?_
    refine j_iload_n g 2 rfl dX5_need_63 ?_
    refine j_bipush g (v := 10) (by decide) dX5_need_64 ?_
    refine j_isub g dX5_need_66 ?_
    obtain ⟨hv10, h⟩ := h
    refine j_iald g 9 cg_9 hv10 dX5_need_67 ?_
    exact hret.go dX5_need_68 h
  refine j_if_eq g dX5_need_23 (tgt := 32) (by decide) (fun c11 => ?_) (fun c11 => ?_)
  · replace h := h.1 c11
    refine j_sub [1, 2, 0] rfl ?_
    exact hZ7 h
  replace h := h.2 c11
  refine j_aload_n g 0 rfl dX5_need_26 ?_
  refine j_ifnonnull g dX5_need_27 (tgt := 32) (by decide) ?_
  refine j_sub [1, 2, 0] rfl ?_
  exact hZ7 h

set_option maxRecDepth 20000 in
def wp_X5_look (x1 : Int32) (sz : Int32) (kv : Nat → Int32) (kt : Nat → Int32) (kb : Nat → Int32) (bk : Nat → Int32) (md : Int32) (cr : Int32) (ow : Int32) (hd : Int32) (K : Int32 → Prop) : Prop :=
  jn (fun (Z1 : Prop) => ((x1 < (10 : Int32) → Z1) ∧ (¬ x1 < (10 : Int32) → (((16 : Int32) ≤ x1 → Z1) ∧ (¬ (16 : Int32) ≤ x1 → (vp_in (x1 - (10 : Int32)) 6 ∧ K (bk (x1 - (10 : Int32)).toNatClampNeg))))))) (((x1 = (0 : Int32) → K sz) ∧ (x1 = (1 : Int32) → K cr) ∧ (x1 = (2 : Int32) → K ow) ∧ (x1 = (3 : Int32) → K hd) ∧ (x1 = (4 : Int32) → K md) ∧ (x1 = (5 : Int32) → wp_X3_tubesValue sz kv kt (fun (r_3 : Int32)  => wp_X3_boxValue sz kv kb (fun (r_4 : Int32)  => wp_X5_heldValue sz kv hd (fun (r_5 : Int32)  => K ((r_3 + r_4) + r_5))))) ∧ (x1 = (6 : Int32) → wp_X3_boxValue sz kv kb (fun (r_6 : Int32)  => K r_6)) ∧ (¬ x1 = (0 : Int32) → ¬ x1 = (1 : Int32) → ¬ x1 = (2 : Int32) → ¬ x1 = (3 : Int32) → ¬ x1 = (4 : Int32) → ¬ x1 = (5 : Int32) → ¬ x1 = (6 : Int32) → K (-1000000 : Int32))))
theorem dX5_look_0 : decode cX5_look 0 = .ok (.iload_n 1, 1) := by decide +kernel
theorem dX5_look_1 : decode cX5_look 1 = .ok (.bipush 10, 2) := by decide +kernel
theorem dX5_look_3 : decode cX5_look 3 = .ok (.if_icmp .lt 19, 3) := by decide +kernel
theorem dX5_look_6 : decode cX5_look 6 = .ok (.iload_n 1, 1) := by decide +kernel
theorem dX5_look_7 : decode cX5_look 7 = .ok (.bipush 16, 2) := by decide +kernel
theorem dX5_look_9 : decode cX5_look 9 = .ok (.if_icmp .ge 13, 3) := by decide +kernel
theorem dX5_look_12 : decode cX5_look 12 = .ok (.aload_n 0, 1) := by decide +kernel
theorem dX5_look_13 : decode cX5_look 13 = .ok (.getfield 37, 3) := by decide +kernel
theorem dX5_look_16 : decode cX5_look 16 = .ok (.iload_n 1, 1) := by decide +kernel
theorem dX5_look_17 : decode cX5_look 17 = .ok (.bipush 10, 2) := by decide +kernel
theorem dX5_look_19 : decode cX5_look 19 = .ok (.isub, 1) := by decide +kernel
theorem dX5_look_20 : decode cX5_look 20 = .ok (.iaload, 1) := by decide +kernel
theorem dX5_look_21 : decode cX5_look 21 = .ok (.ireturn, 1) := by decide +kernel
theorem dX5_look_22 : decode cX5_look 22 = .ok (.iload_n 1, 1) := by decide +kernel
theorem dX5_look_23 : decode cX5_look 23 = .ok (.tableswitch 98 0 6 #[41, 49, 54, 59, 64, 69, 90], 41) := by decide +kernel
theorem dX5_look_64 : decode cX5_look 64 = .ok (.aload_n 0, 1) := by decide +kernel
theorem dX5_look_65 : decode cX5_look 65 = .ok (.getfield 12, 3) := by decide +kernel
theorem dX5_look_68 : decode cX5_look 68 = .ok (.getfield 137, 3) := by decide +kernel
theorem dX5_look_71 : decode cX5_look 71 = .ok (.ireturn, 1) := by decide +kernel
theorem dX5_look_72 : decode cX5_look 72 = .ok (.aload_n 0, 1) := by decide +kernel
theorem dX5_look_73 : decode cX5_look 73 = .ok (.getfield 45, 3) := by decide +kernel
theorem dX5_look_76 : decode cX5_look 76 = .ok (.ireturn, 1) := by decide +kernel
theorem dX5_look_77 : decode cX5_look 77 = .ok (.aload_n 0, 1) := by decide +kernel
theorem dX5_look_78 : decode cX5_look 78 = .ok (.getfield 48, 3) := by decide +kernel
theorem dX5_look_81 : decode cX5_look 81 = .ok (.ireturn, 1) := by decide +kernel
theorem dX5_look_82 : decode cX5_look 82 = .ok (.aload_n 0, 1) := by decide +kernel
theorem dX5_look_83 : decode cX5_look 83 = .ok (.getfield 51, 3) := by decide +kernel
theorem dX5_look_86 : decode cX5_look 86 = .ok (.ireturn, 1) := by decide +kernel
theorem dX5_look_87 : decode cX5_look 87 = .ok (.aload_n 0, 1) := by decide +kernel
theorem dX5_look_88 : decode cX5_look 88 = .ok (.getfield 41, 3) := by decide +kernel
theorem dX5_look_91 : decode cX5_look 91 = .ok (.ireturn, 1) := by decide +kernel
theorem dX5_look_92 : decode cX5_look 92 = .ok (.aload_n 0, 1) := by decide +kernel
theorem dX5_look_93 : decode cX5_look 93 = .ok (.getfield 12, 3) := by decide +kernel
theorem dX5_look_96 : decode cX5_look 96 = .ok (.invokevirtual 140, 3) := by decide +kernel
theorem dX5_look_99 : decode cX5_look 99 = .ok (.aload_n 0, 1) := by decide +kernel
theorem dX5_look_100 : decode cX5_look 100 = .ok (.getfield 12, 3) := by decide +kernel
theorem dX5_look_103 : decode cX5_look 103 = .ok (.invokevirtual 143, 3) := by decide +kernel
theorem dX5_look_106 : decode cX5_look 106 = .ok (.iadd, 1) := by decide +kernel
theorem dX5_look_107 : decode cX5_look 107 = .ok (.aload_n 0, 1) := by decide +kernel
theorem dX5_look_108 : decode cX5_look 108 = .ok (.invokevirtual 107, 3) := by decide +kernel
theorem dX5_look_111 : decode cX5_look 111 = .ok (.iadd, 1) := by decide +kernel
theorem dX5_look_112 : decode cX5_look 112 = .ok (.ireturn, 1) := by decide +kernel
theorem dX5_look_113 : decode cX5_look 113 = .ok (.aload_n 0, 1) := by decide +kernel
theorem dX5_look_114 : decode cX5_look 114 = .ok (.getfield 12, 3) := by decide +kernel
theorem dX5_look_117 : decode cX5_look 117 = .ok (.invokevirtual 143, 3) := by decide +kernel
theorem dX5_look_120 : decode cX5_look 120 = .ok (.ireturn, 1) := by decide +kernel
theorem dX5_look_121 : decode cX5_look 121 = .ok (.ldc 146, 2) := by decide +kernel
theorem dX5_look_123 : decode cX5_look 123 = .ok (.ireturn, 1) := by decide +kernel
set_option maxRecDepth 20000 in
set_option maxHeartbeats 4000000 in
theorem c_X5_look {a : Nat → Nat} {q : Nat → ClassId} {x1 : Int32}  {sz : Int32} {pr : Nat → Int32} {pm : Nat → Nat} {kv : Nat → Int32} {kn : Nat → Int32} {kr : Nat → Int32} {kt : Nat → Int32} {kb : Nat → Int32} {ks : Nat → Int32} {kj : Nat → Int32} {kw : Nat → Int32} {kg : Nat → Int32} {wd : Nat → Nat → Int64} {fw : Nat → Nat → Int32} {ad : Nat → Int32} {bk : Nat → Int32} {md : Int32} {cr : Int32} {ow : Int32} {hd : Int32} {K : Int32 → Prop} (h : wp_X5_look x1 sz kv kt kb bk md cr ow hd K) : ctI_0 q yX5_look cX5_look 2 2 42 [.ref (a 0), .int x1] (cgW a q sz pr pm kv kn kr kt kb ks kj kw kg wd fw ad bk md cr ow hd) (cgW a q sz pr pm kv kn kr kt kb ks kj kw kg wd fw ad bk md cr ow hd) K := by
  refine met_I_0 (by decide) (Nat.le_of_ble_eq_true rfl) (fun Γ g hret => ?_)
  unfold wp_X5_look at h
  show jw Γ 2 0 0 (cgW a q sz pr pm kv kn kr kt kb ks kj kw kg wd fw ad bk md cr ow hd) [(0, .ref (a 0)), (1, .int x1)] [] 0
  refine j_iload_n g 1 rfl dX5_look_0 ?_
  refine j_bipush g (v := 10) (by decide) dX5_look_1 ?_
  refine jn_cut h (fun Z1 eZ1 h => ?_)
  have hZ1 : Z1 → jw Γ 2 0 0 (cgW a q sz pr pm kv kn kr kt kb ks kj kw kg wd fw ad bk md cr ow hd) [(0, .ref (a 0)), (1, .int x1)] [] 22 := by
    intro h
    rw [eZ1] at h
    refine j_iload_n g 1 rfl dX5_look_22 ?_
    by_cases c2_0 : x1 = (0 : Int32)
    · replace h := h.1 c2_0
      refine j_swI g dX5_look_23 (sw_lo c2_0 (by decide)) (sw_hi c2_0 (by decide)) (sw_at (n := 0) c2_0 (by decide) rfl) (tgt := 64) (by decide) ?_
      refine j_aload_n g 0 rfl dX5_look_64 ?_
      refine j_get g fl_X5_12 0 cg_0 rfl dX5_look_65 ?_
      refine j_get g fl_X5_137 1 cg_1 rfl dX5_look_68 ?_
      exact hret.go dX5_look_71 h
    by_cases c2_1 : x1 = (1 : Int32)
    · replace h := h.2.1 c2_1
      refine j_swI g dX5_look_23 (sw_lo c2_1 (by decide)) (sw_hi c2_1 (by decide)) (sw_at (n := 1) c2_1 (by decide) rfl) (tgt := 72) (by decide) ?_
      refine j_aload_n g 0 rfl dX5_look_72 ?_
      refine j_get g fl_X5_45 0 cg_0 rfl dX5_look_73 ?_
      exact hret.go dX5_look_76 h
    by_cases c2_2 : x1 = (2 : Int32)
    · replace h := h.2.2.1 c2_2
      refine j_swI g dX5_look_23 (sw_lo c2_2 (by decide)) (sw_hi c2_2 (by decide)) (sw_at (n := 2) c2_2 (by decide) rfl) (tgt := 77) (by decide) ?_
      refine j_aload_n g 0 rfl dX5_look_77 ?_
      refine j_get g fl_X5_48 0 cg_0 rfl dX5_look_78 ?_
      exact hret.go dX5_look_81 h
    by_cases c2_3 : x1 = (3 : Int32)
    · replace h := h.2.2.2.1 c2_3
      refine j_swI g dX5_look_23 (sw_lo c2_3 (by decide)) (sw_hi c2_3 (by decide)) (sw_at (n := 3) c2_3 (by decide) rfl) (tgt := 82) (by decide) ?_
      refine j_aload_n g 0 rfl dX5_look_82 ?_
      refine j_get g fl_X5_51 0 cg_0 rfl dX5_look_83 ?_
      exact hret.go dX5_look_86 h
    by_cases c2_4 : x1 = (4 : Int32)
    · replace h := h.2.2.2.2.1 c2_4
      refine j_swI g dX5_look_23 (sw_lo c2_4 (by decide)) (sw_hi c2_4 (by decide)) (sw_at (n := 4) c2_4 (by decide) rfl) (tgt := 87) (by decide) ?_
      refine j_aload_n g 0 rfl dX5_look_87 ?_
      refine j_get g fl_X5_41 0 cg_0 rfl dX5_look_88 ?_
      exact hret.go dX5_look_91 h
    by_cases c2_5 : x1 = (5 : Int32)
    · replace h := h.2.2.2.2.2.1 c2_5
      refine j_swI g dX5_look_23 (sw_lo c2_5 (by decide)) (sw_hi c2_5 (by decide)) (sw_at (n := 5) c2_5 (by decide) rfl) (tgt := 92) (by decide) ?_
      refine j_aload_n g 0 rfl dX5_look_92 ?_
      refine j_get g fl_X5_12 0 cg_0 rfl dX5_look_93 ?_
      refine j_callVI_0 g (As := []) (st := []) (c_X3_tubesValue  h) cl_X5_140 1 3 cg_1 rfl rfl (Nat.le_of_ble_eq_true rfl) (Nat.le_of_ble_eq_true rfl) (Nat.zero_le _) (Nat.zero_le _) rfl rfl (Nat.le_of_ble_eq_true rfl) dX5_look_96 (fun r_3   h => ?_)
      refine j_aload_n g 0 rfl dX5_look_99 ?_
      refine j_get g fl_X5_12 0 cg_0 rfl dX5_look_100 ?_
      refine j_callVI_0 g (As := []) (st := [.int r_3]) (c_X3_boxValue  h) cl_X5_143 1 3 cg_1 rfl rfl (Nat.le_of_ble_eq_true rfl) (Nat.le_of_ble_eq_true rfl) (Nat.zero_le _) (Nat.zero_le _) rfl rfl (Nat.le_of_ble_eq_true rfl) dX5_look_103 (fun r_4   h => ?_)
      refine j_iadd g dX5_look_106 ?_
      refine j_aload_n g 0 rfl dX5_look_107 ?_
      refine j_callVI_0 g (As := []) (st := [.int (r_3 + r_4)]) (c_X5_heldValue  h) cl_X5_107 0 5 cg_0 rfl rfl (Nat.le_of_ble_eq_true rfl) (Nat.le_of_ble_eq_true rfl) (Nat.zero_le _) (Nat.zero_le _) rfl rfl (Nat.le_of_ble_eq_true rfl) dX5_look_108 (fun r_5   h => ?_)
      refine j_iadd g dX5_look_111 ?_
      exact hret.go dX5_look_112 h
    by_cases c2_6 : x1 = (6 : Int32)
    · replace h := h.2.2.2.2.2.2.1 c2_6
      refine j_swI g dX5_look_23 (sw_lo c2_6 (by decide)) (sw_hi c2_6 (by decide)) (sw_at (n := 6) c2_6 (by decide) rfl) (tgt := 113) (by decide) ?_
      refine j_aload_n g 0 rfl dX5_look_113 ?_
      refine j_get g fl_X5_12 0 cg_0 rfl dX5_look_114 ?_
      refine j_callVI_0 g (As := []) (st := []) (c_X3_boxValue  h) cl_X5_143 1 3 cg_1 rfl rfl (Nat.le_of_ble_eq_true rfl) (Nat.le_of_ble_eq_true rfl) (Nat.zero_le _) (Nat.zero_le _) rfl rfl (Nat.le_of_ble_eq_true rfl) dX5_look_117 (fun r_6   h => ?_)
      exact hret.go dX5_look_120 h
    replace h := h.2.2.2.2.2.2.2 c2_0 c2_1 c2_2 c2_3 c2_4 c2_5 c2_6
    refine j_swO g dX5_look_23 (sw_out7 c2_0 c2_1 c2_2 c2_3 c2_4 c2_5 c2_6) (tgt := 121) (by decide) ?_
    refine j_ldc g (v := -1000000) ld_X5_146 dX5_look_121 ?_
    exact hret.go dX5_look_123 h
  refine j_icmp_lt g dX5_look_3 (tgt := 22) (by decide) (fun c7 => ?_) (fun c7 => ?_)
  · replace h := h.1 c7
    exact hZ1 h
  replace h := h.2 c7
  refine j_iload_n g 1 rfl dX5_look_6 ?_
  refine j_bipush g (v := 16) (by decide) dX5_look_7 ?_
  refine j_icmp_ge g dX5_look_9 (tgt := 22) (by decide) (fun c8 => ?_) (fun c8 => ?_)
  · replace h := h.1 c8
    exact hZ1 h
  replace h := h.2 c8
  refine j_aload_n g 0 rfl dX5_look_12 ?_
  refine j_get g fl_X5_37 0 cg_0 rfl dX5_look_13 ?_
  refine j_iload_n g 1 rfl dX5_look_16 ?_
  refine j_bipush g (v := 10) (by decide) dX5_look_17 ?_
  refine j_isub g dX5_look_19 ?_
  obtain ⟨hv9, h⟩ := h
  refine j_iald g 5 cg_5 hv9 dX5_look_20 ?_
  exact hret.go dX5_look_21 h

set_option maxRecDepth 20000 in
def wp_X5_kind (x1 : Int32) (x2 : Int32) (sz : Int32) (kv : Nat → Int32) (kn : Nat → Int32) (kr : Nat → Int32) (kt : Nat → Int32) (kb : Nat → Int32) (ks : Nat → Int32) (kj : Nat → Int32) (K : Int32 → Prop) : Prop :=
  wp_X3_find x1 sz (fun (o_1 : Option Nat)  => (o_1 = none → K (-2 : Int32)) ∧ (∀ i_1 : Nat, o_1 = some i_1 → i_1 < 6 → ((x2 = (0 : Int32) → K (kv i_1)) ∧ (x2 = (1 : Int32) → ((kn i_1 = 0 → K (0 : Int32)) ∧ (¬ kn i_1 = 0 → K (1 : Int32)))) ∧ (x2 = (2 : Int32) → K (kr i_1)) ∧ (x2 = (3 : Int32) → K (kt i_1)) ∧ (x2 = (4 : Int32) → K (kb i_1)) ∧ (x2 = (5 : Int32) → ((ks i_1 = 0 → K (0 : Int32)) ∧ (¬ ks i_1 = 0 → K (1 : Int32)))) ∧ (x2 = (6 : Int32) → K (kj i_1)) ∧ (¬ x2 = (0 : Int32) → ¬ x2 = (1 : Int32) → ¬ x2 = (2 : Int32) → ¬ x2 = (3 : Int32) → ¬ x2 = (4 : Int32) → ¬ x2 = (5 : Int32) → ¬ x2 = (6 : Int32) → K (-2 : Int32)))))
theorem dX5_kind_0 : decode cX5_kind 0 = .ok (.aload_n 0, 1) := by decide +kernel
theorem dX5_kind_1 : decode cX5_kind 1 = .ok (.getfield 12, 3) := by decide +kernel
theorem dX5_kind_4 : decode cX5_kind 4 = .ok (.iload_n 1, 1) := by decide +kernel
theorem dX5_kind_5 : decode cX5_kind 5 = .ok (.invokevirtual 84, 3) := by decide +kernel
theorem dX5_kind_8 : decode cX5_kind 8 = .ok (.astore_n 3, 1) := by decide +kernel
theorem dX5_kind_9 : decode cX5_kind 9 = .ok (.aload_n 3, 1) := by decide +kernel
theorem dX5_kind_10 : decode cX5_kind 10 = .ok (.ifnonnull 6, 3) := by decide +kernel
theorem dX5_kind_13 : decode cX5_kind 13 = .ok (.bipush (-2), 2) := by decide +kernel
theorem dX5_kind_15 : decode cX5_kind 15 = .ok (.ireturn, 1) := by decide +kernel
theorem dX5_kind_16 : decode cX5_kind 16 = .ok (.iload_n 2, 1) := by decide +kernel
theorem dX5_kind_17 : decode cX5_kind 17 = .ok (.tableswitch 94 0 6 #[43, 48, 61, 66, 71, 76, 89], 43) := by decide +kernel
theorem dX5_kind_60 : decode cX5_kind 60 = .ok (.aload_n 3, 1) := by decide +kernel
theorem dX5_kind_61 : decode cX5_kind 61 = .ok (.getfield 74, 3) := by decide +kernel
theorem dX5_kind_64 : decode cX5_kind 64 = .ok (.ireturn, 1) := by decide +kernel
theorem dX5_kind_65 : decode cX5_kind 65 = .ok (.aload_n 3, 1) := by decide +kernel
theorem dX5_kind_66 : decode cX5_kind 66 = .ok (.getfield 91, 3) := by decide +kernel
theorem dX5_kind_69 : decode cX5_kind 69 = .ok (.ifCond .eq 7, 3) := by decide +kernel
theorem dX5_kind_72 : decode cX5_kind 72 = .ok (.iconst 1, 1) := by decide +kernel
theorem dX5_kind_73 : decode cX5_kind 73 = .ok (.goto 4, 3) := by decide +kernel
theorem dX5_kind_76 : decode cX5_kind 76 = .ok (.iconst 0, 1) := by decide +kernel
theorem dX5_kind_77 : decode cX5_kind 77 = .ok (.ireturn, 1) := by decide +kernel
theorem dX5_kind_78 : decode cX5_kind 78 = .ok (.aload_n 3, 1) := by decide +kernel
theorem dX5_kind_79 : decode cX5_kind 79 = .ok (.getfield 147, 3) := by decide +kernel
theorem dX5_kind_82 : decode cX5_kind 82 = .ok (.ireturn, 1) := by decide +kernel
theorem dX5_kind_83 : decode cX5_kind 83 = .ok (.aload_n 3, 1) := by decide +kernel
theorem dX5_kind_84 : decode cX5_kind 84 = .ok (.getfield 71, 3) := by decide +kernel
theorem dX5_kind_87 : decode cX5_kind 87 = .ok (.ireturn, 1) := by decide +kernel
theorem dX5_kind_88 : decode cX5_kind 88 = .ok (.aload_n 3, 1) := by decide +kernel
theorem dX5_kind_89 : decode cX5_kind 89 = .ok (.getfield 94, 3) := by decide +kernel
theorem dX5_kind_92 : decode cX5_kind 92 = .ok (.ireturn, 1) := by decide +kernel
theorem dX5_kind_93 : decode cX5_kind 93 = .ok (.aload_n 3, 1) := by decide +kernel
theorem dX5_kind_94 : decode cX5_kind 94 = .ok (.getfield 77, 3) := by decide +kernel
theorem dX5_kind_97 : decode cX5_kind 97 = .ok (.ifCond .eq 7, 3) := by decide +kernel
theorem dX5_kind_100 : decode cX5_kind 100 = .ok (.iconst 1, 1) := by decide +kernel
theorem dX5_kind_101 : decode cX5_kind 101 = .ok (.goto 4, 3) := by decide +kernel
theorem dX5_kind_104 : decode cX5_kind 104 = .ok (.iconst 0, 1) := by decide +kernel
theorem dX5_kind_105 : decode cX5_kind 105 = .ok (.ireturn, 1) := by decide +kernel
theorem dX5_kind_106 : decode cX5_kind 106 = .ok (.aload_n 3, 1) := by decide +kernel
theorem dX5_kind_107 : decode cX5_kind 107 = .ok (.getfield 81, 3) := by decide +kernel
theorem dX5_kind_110 : decode cX5_kind 110 = .ok (.ireturn, 1) := by decide +kernel
theorem dX5_kind_111 : decode cX5_kind 111 = .ok (.bipush (-2), 2) := by decide +kernel
theorem dX5_kind_113 : decode cX5_kind 113 = .ok (.ireturn, 1) := by decide +kernel
set_option maxRecDepth 20000 in
set_option maxHeartbeats 4000000 in
theorem c_X5_kind {a : Nat → Nat} {q : Nat → ClassId} {x1 : Int32} {x2 : Int32}  {sz : Int32} {pr : Nat → Int32} {pm : Nat → Nat} {kv : Nat → Int32} {kn : Nat → Int32} {kr : Nat → Int32} {kt : Nat → Int32} {kb : Nat → Int32} {ks : Nat → Int32} {kj : Nat → Int32} {kw : Nat → Int32} {kg : Nat → Int32} {wd : Nat → Nat → Int64} {fw : Nat → Nat → Int32} {ad : Nat → Int32} {bk : Nat → Int32} {md : Int32} {cr : Int32} {ow : Int32} {hd : Int32} {K : Int32 → Prop} (h : wp_X5_kind x1 x2 sz kv kn kr kt kb ks kj K) : ctI_0 q yX5_kind cX5_kind 4 1 21 [.ref (a 0), .int x1, .int x2] (cgW a q sz pr pm kv kn kr kt kb ks kj kw kg wd fw ad bk md cr ow hd) (cgW a q sz pr pm kv kn kr kt kb ks kj kw kg wd fw ad bk md cr ow hd) K := by
  refine met_I_0 (by decide) (Nat.le_of_ble_eq_true rfl) (fun Γ g hret => ?_)
  unfold wp_X5_kind at h
  show jw Γ 4 0 0 (cgW a q sz pr pm kv kn kr kt kb ks kj kw kg wd fw ad bk md cr ow hd) [(0, .ref (a 0)), (1, .int x1), (2, .int x2)] [] 0
  refine j_aload_n g 0 rfl dX5_kind_0 ?_
  refine j_get g fl_X5_12 0 cg_0 rfl dX5_kind_1 ?_
  refine j_iload_n g 1 rfl dX5_kind_4 ?_
  refine j_callVQ_0 g (As := [.int x1]) (st := []) (c_X3_find  h) cl_X5_84 1 3 cg_1 rfl rfl (Nat.le_of_ble_eq_true rfl) (Nat.le_of_ble_eq_true rfl) (Nat.zero_le _) (Nat.zero_le _) rfl rfl (Nat.le_of_ble_eq_true rfl) dX5_kind_5 (fun  h => ?_) (fun i_1  hi_1 h => ?_)
  · replace h := h.1 rfl
    refine j_astore_nN g (lv' := [(3, .null), (0, .ref (a 0)), (1, .int x1), (2, .int x2)]) (by decide) rfl dX5_kind_8 ?_
    refine j_aload_nN g 0 rfl dX5_kind_9 ?_
    refine j_ifnonnullN g dX5_kind_10 ?_
    refine j_bipush g (v := -2) (by decide) dX5_kind_13 ?_
    exact hret.go dX5_kind_15 h
  replace h := h.2 i_1 rfl hi_1
  refine j_astore_n g (lv' := [(3, .ref (a (11 + i_1))), (0, .ref (a 0)), (1, .int x1), (2, .int x2)]) (by decide) rfl dX5_kind_8 ?_
  refine j_aload_n g 0 rfl dX5_kind_9 ?_
  refine j_ifnonnull g dX5_kind_10 (tgt := 16) (by decide) ?_
  refine j_iload_n g 3 rfl dX5_kind_16 ?_
  by_cases c2_0 : x2 = (0 : Int32)
  · replace h := h.1 c2_0
    refine j_swI g dX5_kind_17 (sw_lo c2_0 (by decide)) (sw_hi c2_0 (by decide)) (sw_at (n := 0) c2_0 (by decide) rfl) (tgt := 60) (by decide) ?_
    refine j_aload_n g 0 rfl dX5_kind_60 ?_
    refine j_get g fl_X5_74 (11 + i_1) (cg_K hi_1) rfl dX5_kind_61 ?_
    exact hret.go dX5_kind_64 h
  by_cases c2_1 : x2 = (1 : Int32)
  · replace h := h.2.1 c2_1
    refine j_swI g dX5_kind_17 (sw_lo c2_1 (by decide)) (sw_hi c2_1 (by decide)) (sw_at (n := 1) c2_1 (by decide) rfl) (tgt := 65) (by decide) ?_
    refine j_aload_n g 0 rfl dX5_kind_65 ?_
    refine j_get g fl_X5_91 (11 + i_1) (cg_K hi_1) rfl dX5_kind_66 ?_
    refine j_if_eq g dX5_kind_69 (tgt := 76) (by decide) (fun c3 => ?_) (fun c3 => ?_)
    · replace h := h.1 c3
      refine j_iconst g (v := 0) (by decide) dX5_kind_76 ?_
      exact hret.go dX5_kind_77 h
    replace h := h.2 c3
    refine j_iconst g (v := 1) (by decide) dX5_kind_72 ?_
    refine j_goto g dX5_kind_73 (tgt := 77) (by decide) ?_
    exact hret.go dX5_kind_77 h
  by_cases c2_2 : x2 = (2 : Int32)
  · replace h := h.2.2.1 c2_2
    refine j_swI g dX5_kind_17 (sw_lo c2_2 (by decide)) (sw_hi c2_2 (by decide)) (sw_at (n := 2) c2_2 (by decide) rfl) (tgt := 78) (by decide) ?_
    refine j_aload_n g 0 rfl dX5_kind_78 ?_
    refine j_get g fl_X5_147 (11 + i_1) (cg_K hi_1) rfl dX5_kind_79 ?_
    exact hret.go dX5_kind_82 h
  by_cases c2_3 : x2 = (3 : Int32)
  · replace h := h.2.2.2.1 c2_3
    refine j_swI g dX5_kind_17 (sw_lo c2_3 (by decide)) (sw_hi c2_3 (by decide)) (sw_at (n := 3) c2_3 (by decide) rfl) (tgt := 83) (by decide) ?_
    refine j_aload_n g 0 rfl dX5_kind_83 ?_
    refine j_get g fl_X5_71 (11 + i_1) (cg_K hi_1) rfl dX5_kind_84 ?_
    exact hret.go dX5_kind_87 h
  by_cases c2_4 : x2 = (4 : Int32)
  · replace h := h.2.2.2.2.1 c2_4
    refine j_swI g dX5_kind_17 (sw_lo c2_4 (by decide)) (sw_hi c2_4 (by decide)) (sw_at (n := 4) c2_4 (by decide) rfl) (tgt := 88) (by decide) ?_
    refine j_aload_n g 0 rfl dX5_kind_88 ?_
    refine j_get g fl_X5_94 (11 + i_1) (cg_K hi_1) rfl dX5_kind_89 ?_
    exact hret.go dX5_kind_92 h
  by_cases c2_5 : x2 = (5 : Int32)
  · replace h := h.2.2.2.2.2.1 c2_5
    refine j_swI g dX5_kind_17 (sw_lo c2_5 (by decide)) (sw_hi c2_5 (by decide)) (sw_at (n := 5) c2_5 (by decide) rfl) (tgt := 93) (by decide) ?_
    refine j_aload_n g 0 rfl dX5_kind_93 ?_
    refine j_get g fl_X5_77 (11 + i_1) (cg_K hi_1) rfl dX5_kind_94 ?_
    refine j_if_eq g dX5_kind_97 (tgt := 104) (by decide) (fun c4 => ?_) (fun c4 => ?_)
    · replace h := h.1 c4
      refine j_iconst g (v := 0) (by decide) dX5_kind_104 ?_
      exact hret.go dX5_kind_105 h
    replace h := h.2 c4
    refine j_iconst g (v := 1) (by decide) dX5_kind_100 ?_
    refine j_goto g dX5_kind_101 (tgt := 105) (by decide) ?_
    exact hret.go dX5_kind_105 h
  by_cases c2_6 : x2 = (6 : Int32)
  · replace h := h.2.2.2.2.2.2.1 c2_6
    refine j_swI g dX5_kind_17 (sw_lo c2_6 (by decide)) (sw_hi c2_6 (by decide)) (sw_at (n := 6) c2_6 (by decide) rfl) (tgt := 106) (by decide) ?_
    refine j_aload_n g 0 rfl dX5_kind_106 ?_
    refine j_get g fl_X5_81 (11 + i_1) (cg_K hi_1) rfl dX5_kind_107 ?_
    exact hret.go dX5_kind_110 h
  replace h := h.2.2.2.2.2.2.2 c2_0 c2_1 c2_2 c2_3 c2_4 c2_5 c2_6
  refine j_swO g dX5_kind_17 (sw_out7 c2_0 c2_1 c2_2 c2_3 c2_4 c2_5 c2_6) (tgt := 111) (by decide) ?_
  refine j_bipush g (v := -2) (by decide) dX5_kind_111 ?_
  exact hret.go dX5_kind_113 h

set_option maxRecDepth 20000 in
def wp_X5_empty  (sz : Int32) (kv : Nat → Int32) (kb : Nat → Int32) (bk : Nat → Int32) (K : Int32 → (Nat → Int32) → (Nat → Int32) → Prop) : Prop :=
  wp_X3_boxValue sz kv kb (fun (r_1 : Int32)  => wp_X3_clearBox sz kb (fun (kb_2 : Nat → Int32) => (vp_in (4 : Int32) 6 ∧ (vp_in (4 : Int32) 6 ∧ K r_1 kb_2 (upd bk (4 : Int32).toNatClampNeg ((bk (4 : Int32).toNatClampNeg) + r_1))))))
theorem dX5_empty_0 : decode cX5_empty 0 = .ok (.aload_n 0, 1) := by decide +kernel
theorem dX5_empty_1 : decode cX5_empty 1 = .ok (.getfield 12, 3) := by decide +kernel
theorem dX5_empty_4 : decode cX5_empty 4 = .ok (.invokevirtual 143, 3) := by decide +kernel
theorem dX5_empty_7 : decode cX5_empty 7 = .ok (.istore_n 1, 1) := by decide +kernel
theorem dX5_empty_8 : decode cX5_empty 8 = .ok (.aload_n 0, 1) := by decide +kernel
theorem dX5_empty_9 : decode cX5_empty 9 = .ok (.getfield 12, 3) := by decide +kernel
theorem dX5_empty_12 : decode cX5_empty 12 = .ok (.invokevirtual 150, 3) := by decide +kernel
theorem dX5_empty_15 : decode cX5_empty 15 = .ok (.aload_n 0, 1) := by decide +kernel
theorem dX5_empty_16 : decode cX5_empty 16 = .ok (.getfield 37, 3) := by decide +kernel
theorem dX5_empty_19 : decode cX5_empty 19 = .ok (.iconst 4, 1) := by decide +kernel
theorem dX5_empty_20 : decode cX5_empty 20 = .ok (.dup2, 1) := by decide +kernel
theorem dX5_empty_21 : decode cX5_empty 21 = .ok (.iaload, 1) := by decide +kernel
theorem dX5_empty_22 : decode cX5_empty 22 = .ok (.iload_n 1, 1) := by decide +kernel
theorem dX5_empty_23 : decode cX5_empty 23 = .ok (.iadd, 1) := by decide +kernel
theorem dX5_empty_24 : decode cX5_empty 24 = .ok (.iastore, 1) := by decide +kernel
theorem dX5_empty_25 : decode cX5_empty 25 = .ok (.iload_n 1, 1) := by decide +kernel
theorem dX5_empty_26 : decode cX5_empty 26 = .ok (.ireturn, 1) := by decide +kernel
set_option maxRecDepth 20000 in
set_option maxHeartbeats 4000000 in
theorem c_X5_empty {a : Nat → Nat} {q : Nat → ClassId}   {sz : Int32} {pr : Nat → Int32} {pm : Nat → Nat} {kv : Nat → Int32} {kn : Nat → Int32} {kr : Nat → Int32} {kt : Nat → Int32} {kb : Nat → Int32} {ks : Nat → Int32} {kj : Nat → Int32} {kw : Nat → Int32} {kg : Nat → Int32} {wd : Nat → Nat → Int64} {fw : Nat → Nat → Int32} {ad : Nat → Int32} {bk : Nat → Int32} {md : Int32} {cr : Int32} {ow : Int32} {hd : Int32} {K : Int32 → (Nat → Int32) → (Nat → Int32) → Prop} (h : wp_X5_empty sz kv kb bk K) : ctI_2 q yX5_empty cX5_empty 2 1 22 [.ref (a 0)] (cgW a q sz pr pm kv kn kr kt kb ks kj kw kg wd fw ad bk md cr ow hd) (fun (kb : Nat → Int32) (bk : Nat → Int32) => (cgW a q sz pr pm kv kn kr kt kb ks kj kw kg wd fw ad bk md cr ow hd)) K := by
  refine met_I_2 (by decide) (Nat.le_of_ble_eq_true rfl) (fun Γ g hret => ?_)
  unfold wp_X5_empty at h
  show jw Γ 2 0 0 (cgW a q sz pr pm kv kn kr kt kb ks kj kw kg wd fw ad bk md cr ow hd) [(0, .ref (a 0))] [] 0
  refine j_aload_n g 0 rfl dX5_empty_0 ?_
  refine j_get g fl_X5_12 0 cg_0 rfl dX5_empty_1 ?_
  refine j_callVI_0 g (As := []) (st := []) (c_X3_boxValue  h) cl_X5_143 1 3 cg_1 rfl rfl (Nat.le_of_ble_eq_true rfl) (Nat.le_of_ble_eq_true rfl) (Nat.zero_le _) (Nat.zero_le _) rfl rfl (Nat.le_of_ble_eq_true rfl) dX5_empty_4 (fun r_1   h => ?_)
  refine j_istore_n g (lv' := [(1, .int r_1), (0, .ref (a 0))]) (by decide) rfl dX5_empty_7 ?_
  refine j_aload_n g 1 rfl dX5_empty_8 ?_
  refine j_get g fl_X5_12 0 cg_0 rfl dX5_empty_9 ?_
  refine j_callVV_1 g (As := []) (st := []) (c_X3_clearBox  h) cl_X5_150 1 3 cg_1 rfl rfl (Nat.le_of_ble_eq_true rfl) (Nat.le_of_ble_eq_true rfl) (Nat.zero_le _) (Nat.zero_le _) rfl rfl (Nat.le_of_ble_eq_true rfl) dX5_empty_12 (fun kb_2 h => ?_)
  refine j_ws (ws' := (cgW a q sz pr pm kv kn kr kt kb_2 ks kj kw kg wd fw ad bk md cr ow hd)) rfl ?_
  refine j_aload_n g 1 rfl dX5_empty_15 ?_
  refine j_get g fl_X5_37 0 cg_0 rfl dX5_empty_16 ?_
  refine j_iconst g (v := 4) (by decide) dX5_empty_19 ?_
  refine j_dup2 g rfl rfl dX5_empty_20 ?_
  obtain ⟨hv3, h⟩ := h
  refine j_iald g 5 cg_5 hv3 dX5_empty_21 ?_
  refine j_iload_n g 0 rfl dX5_empty_22 ?_
  refine j_iadd g dX5_empty_23 ?_
  obtain ⟨hv4, h⟩ := h
  refine j_iast g 5 cg_5 hv4 (ws' := (cgW a q sz pr pm kv kn kr kt kb_2 ks kj kw kg wd fw ad (upd bk (4 : Int32).toNatClampNeg ((bk (4 : Int32).toNatClampNeg) + r_1)) md cr ow hd)) rfl dX5_empty_24 ?_
  refine j_iload_n g 0 rfl dX5_empty_25 ?_
  exact hret.go dX5_empty_26 h

set_option maxRecDepth 20000 in
def wp_X5_drain (x1 : Int32) (x2 : Int32) (sz : Int32) (kv : Nat → Int32) (kn : Nat → Int32) (kt : Nat → Int32) (bk : Nat → Int32) (cr : Int32) (K : Int32 → (Nat → Int32) → (Nat → Int32) → Prop) : Prop :=
  wp_X3_findCoin x1 sz kn (fun (o_1 : Option Nat)  => (o_1 = none → K (0 : Int32) kt bk) ∧ (∀ i_1 : Nat, o_1 = some i_1 → i_1 < 6 → ((x2 < 0 → K (0 : Int32) kt bk) ∧ (¬ x2 < 0 → ((kt i_1 < x2 → K (0 : Int32) kt bk) ∧ (¬ kt i_1 < x2 → ((cr = 0 → (vp_in (4 : Int32) 6 ∧ (vp_in (4 : Int32) 6 ∧ K (1 : Int32) (upd kt i_1 ((kt i_1) - x2)) (upd bk (4 : Int32).toNatClampNeg ((bk (4 : Int32).toNatClampNeg) + (x2 * (kv i_1))))))) ∧ (¬ cr = 0 → K (0 : Int32) kt bk))))))))
theorem dX5_drain_0 : decode cX5_drain 0 = .ok (.aload_n 0, 1) := by decide +kernel
theorem dX5_drain_1 : decode cX5_drain 1 = .ok (.getfield 12, 3) := by decide +kernel
theorem dX5_drain_4 : decode cX5_drain 4 = .ok (.iload_n 1, 1) := by decide +kernel
theorem dX5_drain_5 : decode cX5_drain 5 = .ok (.invokevirtual 61, 3) := by decide +kernel
theorem dX5_drain_8 : decode cX5_drain 8 = .ok (.astore_n 3, 1) := by decide +kernel
theorem dX5_drain_9 : decode cX5_drain 9 = .ok (.aload_n 3, 1) := by decide +kernel
theorem dX5_drain_10 : decode cX5_drain 10 = .ok (.ifnull 22, 3) := by decide +kernel
theorem dX5_drain_13 : decode cX5_drain 13 = .ok (.iload_n 2, 1) := by decide +kernel
theorem dX5_drain_14 : decode cX5_drain 14 = .ok (.ifCond .lt 18, 3) := by decide +kernel
theorem dX5_drain_17 : decode cX5_drain 17 = .ok (.iload_n 2, 1) := by decide +kernel
theorem dX5_drain_18 : decode cX5_drain 18 = .ok (.aload_n 3, 1) := by decide +kernel
theorem dX5_drain_19 : decode cX5_drain 19 = .ok (.getfield 71, 3) := by decide +kernel
theorem dX5_drain_22 : decode cX5_drain 22 = .ok (.if_icmp .gt 10, 3) := by decide +kernel
theorem dX5_drain_25 : decode cX5_drain 25 = .ok (.aload_n 0, 1) := by decide +kernel
theorem dX5_drain_26 : decode cX5_drain 26 = .ok (.getfield 45, 3) := by decide +kernel
theorem dX5_drain_29 : decode cX5_drain 29 = .ok (.ifCond .eq 5, 3) := by decide +kernel
theorem dX5_drain_32 : decode cX5_drain 32 = .ok (.iconst 0, 1) := by decide +kernel
theorem dX5_drain_33 : decode cX5_drain 33 = .ok (.ireturn, 1) := by decide +kernel
theorem dX5_drain_34 : decode cX5_drain 34 = .ok (.aload_n 3, 1) := by decide +kernel
theorem dX5_drain_35 : decode cX5_drain 35 = .ok (.dup, 1) := by decide +kernel
theorem dX5_drain_36 : decode cX5_drain 36 = .ok (.getfield 71, 3) := by decide +kernel
theorem dX5_drain_39 : decode cX5_drain 39 = .ok (.iload_n 2, 1) := by decide +kernel
theorem dX5_drain_40 : decode cX5_drain 40 = .ok (.isub, 1) := by decide +kernel
theorem dX5_drain_41 : decode cX5_drain 41 = .ok (.putfield 71, 3) := by decide +kernel
theorem dX5_drain_44 : decode cX5_drain 44 = .ok (.aload_n 0, 1) := by decide +kernel
theorem dX5_drain_45 : decode cX5_drain 45 = .ok (.getfield 37, 3) := by decide +kernel
theorem dX5_drain_48 : decode cX5_drain 48 = .ok (.iconst 4, 1) := by decide +kernel
theorem dX5_drain_49 : decode cX5_drain 49 = .ok (.dup2, 1) := by decide +kernel
theorem dX5_drain_50 : decode cX5_drain 50 = .ok (.iaload, 1) := by decide +kernel
theorem dX5_drain_51 : decode cX5_drain 51 = .ok (.iload_n 2, 1) := by decide +kernel
theorem dX5_drain_52 : decode cX5_drain 52 = .ok (.aload_n 3, 1) := by decide +kernel
theorem dX5_drain_53 : decode cX5_drain 53 = .ok (.getfield 74, 3) := by decide +kernel
theorem dX5_drain_56 : decode cX5_drain 56 = .ok (.imul, 1) := by decide +kernel
theorem dX5_drain_57 : decode cX5_drain 57 = .ok (.iadd, 1) := by decide +kernel
theorem dX5_drain_58 : decode cX5_drain 58 = .ok (.iastore, 1) := by decide +kernel
theorem dX5_drain_59 : decode cX5_drain 59 = .ok (.iconst 1, 1) := by decide +kernel
theorem dX5_drain_60 : decode cX5_drain 60 = .ok (.ireturn, 1) := by decide +kernel
set_option maxRecDepth 20000 in
set_option maxHeartbeats 4000000 in
theorem c_X5_drain {a : Nat → Nat} {q : Nat → ClassId} {x1 : Int32} {x2 : Int32}  {sz : Int32} {pr : Nat → Int32} {pm : Nat → Nat} {kv : Nat → Int32} {kn : Nat → Int32} {kr : Nat → Int32} {kt : Nat → Int32} {kb : Nat → Int32} {ks : Nat → Int32} {kj : Nat → Int32} {kw : Nat → Int32} {kg : Nat → Int32} {wd : Nat → Nat → Int64} {fw : Nat → Nat → Int32} {ad : Nat → Int32} {bk : Nat → Int32} {md : Int32} {cr : Int32} {ow : Int32} {hd : Int32} {K : Int32 → (Nat → Int32) → (Nat → Int32) → Prop} (h : wp_X5_drain x1 x2 sz kv kn kt bk cr K) : ctZ_2 q yX5_drain cX5_drain 4 2 43 [.ref (a 0), .int x1, .int x2] (cgW a q sz pr pm kv kn kr kt kb ks kj kw kg wd fw ad bk md cr ow hd) (fun (kt : Nat → Int32) (bk : Nat → Int32) => (cgW a q sz pr pm kv kn kr kt kb ks kj kw kg wd fw ad bk md cr ow hd)) K := by
  refine met_Z_2 (by decide) (Nat.le_of_ble_eq_true rfl) (fun Γ g hret => ?_)
  unfold wp_X5_drain at h
  show jw Γ 4 0 0 (cgW a q sz pr pm kv kn kr kt kb ks kj kw kg wd fw ad bk md cr ow hd) [(0, .ref (a 0)), (1, .int x1), (2, .int x2)] [] 0
  refine j_aload_n g 0 rfl dX5_drain_0 ?_
  refine j_get g fl_X5_12 0 cg_0 rfl dX5_drain_1 ?_
  refine j_iload_n g 1 rfl dX5_drain_4 ?_
  refine j_callVQ_0 g (As := [.int x1]) (st := []) (c_X3_findCoin  h) cl_X5_61 1 3 cg_1 rfl rfl (Nat.le_of_ble_eq_true rfl) (Nat.le_of_ble_eq_true rfl) (Nat.zero_le _) (Nat.zero_le _) rfl rfl (Nat.le_of_ble_eq_true rfl) dX5_drain_5 (fun  h => ?_) (fun i_1  hi_1 h => ?_)
  · replace h := h.1 rfl
    refine j_astore_nN g (lv' := [(3, .null), (0, .ref (a 0)), (1, .int x1), (2, .int x2)]) (by decide) rfl dX5_drain_8 ?_
    refine j_aload_nN g 0 rfl dX5_drain_9 ?_
    refine j_ifnullN g dX5_drain_10 (tgt := 32) (by decide) ?_
    refine j_iconst g (v := 0) (by decide) dX5_drain_32 ?_
    exact hret.go dX5_drain_33 (Or.inl rfl) h
  replace h := h.2 i_1 rfl hi_1
  refine j_astore_n g (lv' := [(3, .ref (a (11 + i_1))), (0, .ref (a 0)), (1, .int x1), (2, .int x2)]) (by decide) rfl dX5_drain_8 ?_
  refine j_aload_n g 0 rfl dX5_drain_9 ?_
  refine j_ifnull g dX5_drain_10 ?_
  refine j_iload_n g 3 rfl dX5_drain_13 ?_
  refine j_if_lt g dX5_drain_14 (tgt := 32) (by decide) (fun c2 => ?_) (fun c2 => ?_)
  · replace h := h.1 c2
    refine j_iconst g (v := 0) (by decide) dX5_drain_32 ?_
    exact hret.go dX5_drain_33 (Or.inl rfl) h
  replace h := h.2 c2
  refine j_iload_n g 3 rfl dX5_drain_17 ?_
  refine j_aload_n g 0 rfl dX5_drain_18 ?_
  refine j_get g fl_X5_71 (11 + i_1) (cg_K hi_1) rfl dX5_drain_19 ?_
  refine j_icmp_gt g dX5_drain_22 (tgt := 32) (by decide) (fun c3 => ?_) (fun c3 => ?_)
  · replace h := h.1 c3
    refine j_iconst g (v := 0) (by decide) dX5_drain_32 ?_
    exact hret.go dX5_drain_33 (Or.inl rfl) h
  replace h := h.2 c3
  refine j_aload_n g 1 rfl dX5_drain_25 ?_
  refine j_get g fl_X5_45 0 cg_0 rfl dX5_drain_26 ?_
  refine j_if_eq g dX5_drain_29 (tgt := 34) (by decide) (fun c4 => ?_) (fun c4 => ?_)
  rotate_left
  · replace h := h.2 c4
    refine j_iconst g (v := 0) (by decide) dX5_drain_32 ?_
    exact hret.go dX5_drain_33 (Or.inl rfl) h
  replace h := h.1 c4
  refine j_aload_n g 0 rfl dX5_drain_34 ?_
  refine j_dup g rfl dX5_drain_35 ?_
  refine j_get g fl_X5_71 (11 + i_1) (cg_K hi_1) rfl dX5_drain_36 ?_
  refine j_iload_n g 3 rfl dX5_drain_39 ?_
  refine j_isub g dX5_drain_40 ?_
  refine j_put g fl_X5_71 fp_X0_3 (11 + i_1) (cg_K hi_1) rfl rfl (Nat.le_of_ble_eq_true rfl) (ws' := (cgW a q sz pr pm kv kn kr (upd kt i_1 ((kt i_1) - x2)) kb ks kj kw kg wd fw ad bk md cr ow hd)) (cg_s_kt hi_1) dX5_drain_41 ?_
  refine j_aload_n g 1 rfl dX5_drain_44 ?_
  refine j_get g fl_X5_37 0 cg_0 rfl dX5_drain_45 ?_
  refine j_iconst g (v := 4) (by decide) dX5_drain_48 ?_
  refine j_dup2 g rfl rfl dX5_drain_49 ?_
  obtain ⟨hv5, h⟩ := h
  refine j_iald g 5 cg_5 hv5 dX5_drain_50 ?_
  refine j_iload_n g 3 rfl dX5_drain_51 ?_
  refine j_aload_n g 0 rfl dX5_drain_52 ?_
  refine j_get g fl_X5_74 (11 + i_1) (cg_K hi_1) rfl dX5_drain_53 ?_
  refine j_imul g dX5_drain_56 ?_
  refine j_iadd g dX5_drain_57 ?_
  obtain ⟨hv6, h⟩ := h
  refine j_iast g 5 cg_5 hv6 (ws' := (cgW a q sz pr pm kv kn kr (upd kt i_1 ((kt i_1) - x2)) kb ks kj kw kg wd fw ad (upd bk (4 : Int32).toNatClampNeg ((bk (4 : Int32).toNatClampNeg) + (x2 * (kv i_1)))) md cr ow hd)) rfl dX5_drain_58 ?_
  refine j_iconst g (v := 1) (by decide) dX5_drain_59 ?_
  exact hret.go dX5_drain_60 (Or.inr rfl) h

set_option maxRecDepth 20000 in
def wp_X5_count (x1 : Int32) (x2 : Int32) (sz : Int32) (kv : Nat → Int32) (kn : Nat → Int32) (kr : Nat → Int32) (kt : Nat → Int32) (bk : Nat → Int32) (cr : Int32) (K : Int32 → (Nat → Int32) → (Nat → Int32) → Prop) : Prop :=
  wp_X3_findCoin x1 sz kn (fun (o_1 : Option Nat)  => (o_1 = none → K (-1000000 : Int32) kt bk) ∧ (∀ i_1 : Nat, o_1 = some i_1 → i_1 < 6 → ((x2 < 0 → K (-1000000 : Int32) kt bk) ∧ (¬ x2 < 0 → ((kr i_1 < x2 → K (-1000000 : Int32) kt bk) ∧ (¬ kr i_1 < x2 → ((cr = 0 → (vp_in (5 : Int32) 6 ∧ (vp_in (5 : Int32) 6 ∧ K (((kt i_1) - x2) * (kv i_1)) (upd kt i_1 x2) (upd bk (5 : Int32).toNatClampNeg ((bk (5 : Int32).toNatClampNeg) + (((kt i_1) - x2) * (kv i_1))))))) ∧ (¬ cr = 0 → K (-1000000 : Int32) kt bk))))))))
theorem dX5_count_0 : decode cX5_count 0 = .ok (.aload_n 0, 1) := by decide +kernel
theorem dX5_count_1 : decode cX5_count 1 = .ok (.getfield 12, 3) := by decide +kernel
theorem dX5_count_4 : decode cX5_count 4 = .ok (.iload_n 1, 1) := by decide +kernel
theorem dX5_count_5 : decode cX5_count 5 = .ok (.invokevirtual 61, 3) := by decide +kernel
theorem dX5_count_8 : decode cX5_count 8 = .ok (.astore_n 3, 1) := by decide +kernel
theorem dX5_count_9 : decode cX5_count 9 = .ok (.aload_n 3, 1) := by decide +kernel
theorem dX5_count_10 : decode cX5_count 10 = .ok (.ifnull 22, 3) := by decide +kernel
theorem dX5_count_13 : decode cX5_count 13 = .ok (.iload_n 2, 1) := by decide +kernel
theorem dX5_count_14 : decode cX5_count 14 = .ok (.ifCond .lt 18, 3) := by decide +kernel
theorem dX5_count_17 : decode cX5_count 17 = .ok (.iload_n 2, 1) := by decide +kernel
theorem dX5_count_18 : decode cX5_count 18 = .ok (.aload_n 3, 1) := by decide +kernel
theorem dX5_count_19 : decode cX5_count 19 = .ok (.getfield 147, 3) := by decide +kernel
theorem dX5_count_22 : decode cX5_count 22 = .ok (.if_icmp .gt 10, 3) := by decide +kernel
theorem dX5_count_25 : decode cX5_count 25 = .ok (.aload_n 0, 1) := by decide +kernel
theorem dX5_count_26 : decode cX5_count 26 = .ok (.getfield 45, 3) := by decide +kernel
theorem dX5_count_29 : decode cX5_count 29 = .ok (.ifCond .eq 6, 3) := by decide +kernel
theorem dX5_count_32 : decode cX5_count 32 = .ok (.ldc 146, 2) := by decide +kernel
theorem dX5_count_34 : decode cX5_count 34 = .ok (.ireturn, 1) := by decide +kernel
theorem dX5_count_35 : decode cX5_count 35 = .ok (.aload_n 3, 1) := by decide +kernel
theorem dX5_count_36 : decode cX5_count 36 = .ok (.getfield 71, 3) := by decide +kernel
theorem dX5_count_39 : decode cX5_count 39 = .ok (.iload_n 2, 1) := by decide +kernel
theorem dX5_count_40 : decode cX5_count 40 = .ok (.isub, 1) := by decide +kernel
theorem dX5_count_41 : decode cX5_count 41 = .ok (.aload_n 3, 1) := by decide +kernel
theorem dX5_count_42 : decode cX5_count 42 = .ok (.getfield 74, 3) := by decide +kernel
theorem dX5_count_45 : decode cX5_count 45 = .ok (.imul, 1) := by decide +kernel
theorem dX5_count_46 : decode cX5_count 46 = .ok (.istore 4, 2) := by decide +kernel
theorem dX5_count_48 : decode cX5_count 48 = .ok (.aload_n 3, 1) := by decide +kernel
theorem dX5_count_49 : decode cX5_count 49 = .ok (.iload_n 2, 1) := by decide +kernel
theorem dX5_count_50 : decode cX5_count 50 = .ok (.putfield 71, 3) := by decide +kernel
theorem dX5_count_53 : decode cX5_count 53 = .ok (.aload_n 0, 1) := by decide +kernel
theorem dX5_count_54 : decode cX5_count 54 = .ok (.getfield 37, 3) := by decide +kernel
theorem dX5_count_57 : decode cX5_count 57 = .ok (.iconst 5, 1) := by decide +kernel
theorem dX5_count_58 : decode cX5_count 58 = .ok (.dup2, 1) := by decide +kernel
theorem dX5_count_59 : decode cX5_count 59 = .ok (.iaload, 1) := by decide +kernel
theorem dX5_count_60 : decode cX5_count 60 = .ok (.iload 4, 2) := by decide +kernel
theorem dX5_count_62 : decode cX5_count 62 = .ok (.iadd, 1) := by decide +kernel
theorem dX5_count_63 : decode cX5_count 63 = .ok (.iastore, 1) := by decide +kernel
theorem dX5_count_64 : decode cX5_count 64 = .ok (.iload 4, 2) := by decide +kernel
theorem dX5_count_66 : decode cX5_count 66 = .ok (.ireturn, 1) := by decide +kernel
set_option maxRecDepth 20000 in
set_option maxHeartbeats 4000000 in
theorem c_X5_count {a : Nat → Nat} {q : Nat → ClassId} {x1 : Int32} {x2 : Int32}  {sz : Int32} {pr : Nat → Int32} {pm : Nat → Nat} {kv : Nat → Int32} {kn : Nat → Int32} {kr : Nat → Int32} {kt : Nat → Int32} {kb : Nat → Int32} {ks : Nat → Int32} {kj : Nat → Int32} {kw : Nat → Int32} {kg : Nat → Int32} {wd : Nat → Nat → Int64} {fw : Nat → Nat → Int32} {ad : Nat → Int32} {bk : Nat → Int32} {md : Int32} {cr : Int32} {ow : Int32} {hd : Int32} {K : Int32 → (Nat → Int32) → (Nat → Int32) → Prop} (h : wp_X5_count x1 x2 sz kv kn kr kt bk cr K) : ctI_2 q yX5_count cX5_count 5 2 43 [.ref (a 0), .int x1, .int x2] (cgW a q sz pr pm kv kn kr kt kb ks kj kw kg wd fw ad bk md cr ow hd) (fun (kt : Nat → Int32) (bk : Nat → Int32) => (cgW a q sz pr pm kv kn kr kt kb ks kj kw kg wd fw ad bk md cr ow hd)) K := by
  refine met_I_2 (by decide) (Nat.le_of_ble_eq_true rfl) (fun Γ g hret => ?_)
  unfold wp_X5_count at h
  show jw Γ 5 0 0 (cgW a q sz pr pm kv kn kr kt kb ks kj kw kg wd fw ad bk md cr ow hd) [(0, .ref (a 0)), (1, .int x1), (2, .int x2)] [] 0
  refine j_aload_n g 0 rfl dX5_count_0 ?_
  refine j_get g fl_X5_12 0 cg_0 rfl dX5_count_1 ?_
  refine j_iload_n g 1 rfl dX5_count_4 ?_
  refine j_callVQ_0 g (As := [.int x1]) (st := []) (c_X3_findCoin  h) cl_X5_61 1 3 cg_1 rfl rfl (Nat.le_of_ble_eq_true rfl) (Nat.le_of_ble_eq_true rfl) (Nat.zero_le _) (Nat.zero_le _) rfl rfl (Nat.le_of_ble_eq_true rfl) dX5_count_5 (fun  h => ?_) (fun i_1  hi_1 h => ?_)
  · replace h := h.1 rfl
    refine j_astore_nN g (lv' := [(3, .null), (0, .ref (a 0)), (1, .int x1), (2, .int x2)]) (by decide) rfl dX5_count_8 ?_
    refine j_aload_nN g 0 rfl dX5_count_9 ?_
    refine j_ifnullN g dX5_count_10 (tgt := 32) (by decide) ?_
    refine j_ldc g (v := -1000000) ld_X5_146 dX5_count_32 ?_
    exact hret.go dX5_count_34 h
  replace h := h.2 i_1 rfl hi_1
  refine j_astore_n g (lv' := [(3, .ref (a (11 + i_1))), (0, .ref (a 0)), (1, .int x1), (2, .int x2)]) (by decide) rfl dX5_count_8 ?_
  refine j_aload_n g 0 rfl dX5_count_9 ?_
  refine j_ifnull g dX5_count_10 ?_
  refine j_iload_n g 3 rfl dX5_count_13 ?_
  refine j_if_lt g dX5_count_14 (tgt := 32) (by decide) (fun c2 => ?_) (fun c2 => ?_)
  · replace h := h.1 c2
    refine j_ldc g (v := -1000000) ld_X5_146 dX5_count_32 ?_
    exact hret.go dX5_count_34 h
  replace h := h.2 c2
  refine j_iload_n g 3 rfl dX5_count_17 ?_
  refine j_aload_n g 0 rfl dX5_count_18 ?_
  refine j_get g fl_X5_147 (11 + i_1) (cg_K hi_1) rfl dX5_count_19 ?_
  refine j_icmp_gt g dX5_count_22 (tgt := 32) (by decide) (fun c3 => ?_) (fun c3 => ?_)
  · replace h := h.1 c3
    refine j_ldc g (v := -1000000) ld_X5_146 dX5_count_32 ?_
    exact hret.go dX5_count_34 h
  replace h := h.2 c3
  refine j_aload_n g 1 rfl dX5_count_25 ?_
  refine j_get g fl_X5_45 0 cg_0 rfl dX5_count_26 ?_
  refine j_if_eq g dX5_count_29 (tgt := 35) (by decide) (fun c4 => ?_) (fun c4 => ?_)
  rotate_left
  · replace h := h.2 c4
    refine j_ldc g (v := -1000000) ld_X5_146 dX5_count_32 ?_
    exact hret.go dX5_count_34 h
  replace h := h.1 c4
  refine j_aload_n g 0 rfl dX5_count_35 ?_
  refine j_get g fl_X5_71 (11 + i_1) (cg_K hi_1) rfl dX5_count_36 ?_
  refine j_iload_n g 3 rfl dX5_count_39 ?_
  refine j_isub g dX5_count_40 ?_
  refine j_aload_n g 0 rfl dX5_count_41 ?_
  refine j_get g fl_X5_74 (11 + i_1) (cg_K hi_1) rfl dX5_count_42 ?_
  refine j_imul g dX5_count_45 ?_
  refine j_istore g (lv' := [(4, .int (((kt i_1) - x2) * (kv i_1))), (3, .ref (a (11 + i_1))), (0, .ref (a 0)), (1, .int x1), (2, .int x2)]) (by decide) rfl dX5_count_46 ?_
  refine j_aload_n g 1 rfl dX5_count_48 ?_
  refine j_iload_n g 4 rfl dX5_count_49 ?_
  refine j_put g fl_X5_71 fp_X0_3 (11 + i_1) (cg_K hi_1) rfl rfl (Nat.le_of_ble_eq_true rfl) (ws' := (cgW a q sz pr pm kv kn kr (upd kt i_1 x2) kb ks kj kw kg wd fw ad bk md cr ow hd)) (cg_s_kt hi_1) dX5_count_50 ?_
  refine j_aload_n g 2 rfl dX5_count_53 ?_
  refine j_get g fl_X5_37 0 cg_0 rfl dX5_count_54 ?_
  refine j_iconst g (v := 5) (by decide) dX5_count_57 ?_
  refine j_dup2 g rfl rfl dX5_count_58 ?_
  obtain ⟨hv5, h⟩ := h
  refine j_iald g 5 cg_5 hv5 dX5_count_59 ?_
  refine j_iload g 0 rfl dX5_count_60 ?_
  refine j_iadd g dX5_count_62 ?_
  obtain ⟨hv6, h⟩ := h
  refine j_iast g 5 cg_5 hv6 (ws' := (cgW a q sz pr pm kv kn kr (upd kt i_1 x2) kb ks kj kw kg wd fw ad (upd bk (5 : Int32).toNatClampNeg ((bk (5 : Int32).toNatClampNeg) + (((kt i_1) - x2) * (kv i_1)))) md cr ow hd)) rfl dX5_count_63 ?_
  refine j_iload g 0 rfl dX5_count_64 ?_
  exact hret.go dX5_count_66 h
end
section
set_option maxRecDepth 20000 in
def wp_X6_isKind (x1 : Int32) (mnk : Int32) (K : Int32 → Prop) : Prop :=
  ((x1 < 0 → K (0 : Int32)) ∧ (¬ x1 < 0 → ((mnk ≤ x1 → K (0 : Int32)) ∧ (¬ mnk ≤ x1 → K (1 : Int32)))))
theorem dX6_isKind_0 : decode cX6_isKind 0 = .ok (.iload_n 1, 1) := by decide +kernel
theorem dX6_isKind_1 : decode cX6_isKind 1 = .ok (.ifCond .lt 15, 3) := by decide +kernel
theorem dX6_isKind_4 : decode cX6_isKind 4 = .ok (.iload_n 1, 1) := by decide +kernel
theorem dX6_isKind_5 : decode cX6_isKind 5 = .ok (.aload_n 0, 1) := by decide +kernel
theorem dX6_isKind_6 : decode cX6_isKind 6 = .ok (.getfield 66, 3) := by decide +kernel
theorem dX6_isKind_9 : decode cX6_isKind 9 = .ok (.if_icmp .ge 7, 3) := by decide +kernel
theorem dX6_isKind_12 : decode cX6_isKind 12 = .ok (.iconst 1, 1) := by decide +kernel
theorem dX6_isKind_13 : decode cX6_isKind 13 = .ok (.goto 4, 3) := by decide +kernel
theorem dX6_isKind_16 : decode cX6_isKind 16 = .ok (.iconst 0, 1) := by decide +kernel
theorem dX6_isKind_17 : decode cX6_isKind 17 = .ok (.ireturn, 1) := by decide +kernel
set_option maxRecDepth 20000 in
set_option maxHeartbeats 4000000 in
theorem c_X6_isKind {a : Nat → Nat} {q : Nat → ClassId} {x1 : Int32}  {mtd : Int32} {mnk : Int32} {mva : Nat → Int32} {mno : Nat → Int32} {mro : Nat → Int32} {mtu : Nat → Int32} {mbx : Nat → Int32} {mst : Nat → Int32} {mja : Nat → Int32} {mpr : Nat → Int32} {mcr : Int32} {mow : Int32} {mhd : Int32} {mmo : Int32} {mbk : Nat → Int32} {mca : Nat → Int32} {mfr : Nat → Int32} {mrs : Int32} {mrk : Nat → Int32} {mfe : Nat → Int32} {mus : Nat → Int32} {mgi : Nat → Int32} {maj : Nat → Int32} {K : Int32 → Prop} (h : wp_X6_isKind x1 mnk K) : ctZ_0 q yX6_isKind cX6_isKind 2 0 0 [.ref (a 0), .int x1] (mdW a q mtd mnk mva mno mro mtu mbx mst mja mpr mcr mow mhd mmo mbk mca mfr mrs mrk mfe mus mgi maj) (mdW a q mtd mnk mva mno mro mtu mbx mst mja mpr mcr mow mhd mmo mbk mca mfr mrs mrk mfe mus mgi maj) K := by
  refine met_Z_0 (by decide) (Nat.le_of_ble_eq_true rfl) (fun Γ g hret => ?_)
  unfold wp_X6_isKind at h
  show jw Γ 2 0 0 (mdW a q mtd mnk mva mno mro mtu mbx mst mja mpr mcr mow mhd mmo mbk mca mfr mrs mrk mfe mus mgi maj) [(0, .ref (a 0)), (1, .int x1)] [] 0
  refine j_iload_n g 1 rfl dX6_isKind_0 ?_
  refine j_if_lt g dX6_isKind_1 (tgt := 16) (by decide) (fun c1 => ?_) (fun c1 => ?_)
  · replace h := h.1 c1
    refine j_iconst g (v := 0) (by decide) dX6_isKind_16 ?_
    exact hret.go dX6_isKind_17 (Or.inl rfl) h
  replace h := h.2 c1
  refine j_iload_n g 1 rfl dX6_isKind_4 ?_
  refine j_aload_n g 0 rfl dX6_isKind_5 ?_
  refine j_get g fl_X6_66 0 md_0 rfl dX6_isKind_6 ?_
  refine j_icmp_ge g dX6_isKind_9 (tgt := 16) (by decide) (fun c2 => ?_) (fun c2 => ?_)
  · replace h := h.1 c2
    refine j_iconst g (v := 0) (by decide) dX6_isKind_16 ?_
    exact hret.go dX6_isKind_17 (Or.inl rfl) h
  replace h := h.2 c2
  refine j_iconst g (v := 1) (by decide) dX6_isKind_12 ?_
  refine j_goto g dX6_isKind_13 (tgt := 17) (by decide) ?_
  exact hret.go dX6_isKind_17 (Or.inr rfl) h

set_option maxRecDepth 20000 in
def wp_X6_isCoin (x1 : Int32) (mnk : Int32) (mno : Nat → Int32) (K : Int32 → Prop) : Prop :=
  wp_X6_isKind x1 mnk (fun (r_1 : Int32)  => ((r_1 = 0 → K (0 : Int32)) ∧ (¬ r_1 = 0 → (vp_in x1 6 ∧ ((¬ mno x1.toNatClampNeg = 0 → K (0 : Int32)) ∧ (mno x1.toNatClampNeg = 0 → K (1 : Int32)))))))
theorem dX6_isCoin_0 : decode cX6_isCoin 0 = .ok (.aload_n 0, 1) := by decide +kernel
theorem dX6_isCoin_1 : decode cX6_isCoin 1 = .ok (.iload_n 1, 1) := by decide +kernel
theorem dX6_isCoin_2 : decode cX6_isCoin 2 = .ok (.invokevirtual 69, 3) := by decide +kernel
theorem dX6_isCoin_5 : decode cX6_isCoin 5 = .ok (.ifCond .eq 16, 3) := by decide +kernel
theorem dX6_isCoin_8 : decode cX6_isCoin 8 = .ok (.aload_n 0, 1) := by decide +kernel
theorem dX6_isCoin_9 : decode cX6_isCoin 9 = .ok (.getfield 13, 3) := by decide +kernel
theorem dX6_isCoin_12 : decode cX6_isCoin 12 = .ok (.iload_n 1, 1) := by decide +kernel
theorem dX6_isCoin_13 : decode cX6_isCoin 13 = .ok (.baload, 1) := by decide +kernel
theorem dX6_isCoin_14 : decode cX6_isCoin 14 = .ok (.ifCond .ne 7, 3) := by decide +kernel
theorem dX6_isCoin_17 : decode cX6_isCoin 17 = .ok (.iconst 1, 1) := by decide +kernel
theorem dX6_isCoin_18 : decode cX6_isCoin 18 = .ok (.goto 4, 3) := by decide +kernel
theorem dX6_isCoin_21 : decode cX6_isCoin 21 = .ok (.iconst 0, 1) := by decide +kernel
theorem dX6_isCoin_22 : decode cX6_isCoin 22 = .ok (.ireturn, 1) := by decide +kernel
set_option maxRecDepth 20000 in
set_option maxHeartbeats 4000000 in
theorem c_X6_isCoin {a : Nat → Nat} {q : Nat → ClassId} {x1 : Int32}  {mtd : Int32} {mnk : Int32} {mva : Nat → Int32} {mno : Nat → Int32} {mro : Nat → Int32} {mtu : Nat → Int32} {mbx : Nat → Int32} {mst : Nat → Int32} {mja : Nat → Int32} {mpr : Nat → Int32} {mcr : Int32} {mow : Int32} {mhd : Int32} {mmo : Int32} {mbk : Nat → Int32} {mca : Nat → Int32} {mfr : Nat → Int32} {mrs : Int32} {mrk : Nat → Int32} {mfe : Nat → Int32} {mus : Nat → Int32} {mgi : Nat → Int32} {maj : Nat → Int32} {K : Int32 → Prop} (h : wp_X6_isCoin x1 mnk mno K) : ctZ_0 q yX6_isCoin cX6_isCoin 2 1 21 [.ref (a 0), .int x1] (mdW a q mtd mnk mva mno mro mtu mbx mst mja mpr mcr mow mhd mmo mbk mca mfr mrs mrk mfe mus mgi maj) (mdW a q mtd mnk mva mno mro mtu mbx mst mja mpr mcr mow mhd mmo mbk mca mfr mrs mrk mfe mus mgi maj) K := by
  refine met_Z_0 (by decide) (Nat.le_of_ble_eq_true rfl) (fun Γ g hret => ?_)
  unfold wp_X6_isCoin at h
  show jw Γ 2 0 0 (mdW a q mtd mnk mva mno mro mtu mbx mst mja mpr mcr mow mhd mmo mbk mca mfr mrs mrk mfe mus mgi maj) [(0, .ref (a 0)), (1, .int x1)] [] 0
  refine j_aload_n g 0 rfl dX6_isCoin_0 ?_
  refine j_iload_n g 1 rfl dX6_isCoin_1 ?_
  refine j_callVZ_0 g (As := [.int x1]) (st := []) (c_X6_isKind  h) cl_X6_69 0 6 md_0 rfl rfl (Nat.le_of_ble_eq_true rfl) (Nat.le_of_ble_eq_true rfl) (Nat.zero_le _) (Nat.zero_le _) rfl rfl (Nat.le_of_ble_eq_true rfl) dX6_isCoin_2 (fun r_1  hz_1 h => ?_)
  refine j_if_eq g dX6_isCoin_5 (tgt := 21) (by decide) (fun c2 => ?_) (fun c2 => ?_)
  · replace h := h.1 c2
    refine j_iconst g (v := 0) (by decide) dX6_isCoin_21 ?_
    exact hret.go dX6_isCoin_22 (Or.inl rfl) h
  replace h := h.2 c2
  refine j_aload_n g 0 rfl dX6_isCoin_8 ?_
  refine j_get g fl_X6_13 0 md_0 rfl dX6_isCoin_9 ?_
  refine j_iload_n g 1 rfl dX6_isCoin_12 ?_
  obtain ⟨hv3, h⟩ := h
  refine j_zald g 2 md_2 hv3 dX6_isCoin_13 ?_
  refine j_if_ne g dX6_isCoin_14 (tgt := 21) (by decide) (fun c4 => ?_) (fun c4 => ?_)
  · replace h := h.1 c4
    refine j_iconst g (v := 0) (by decide) dX6_isCoin_21 ?_
    exact hret.go dX6_isCoin_22 (Or.inl rfl) h
  replace h := h.2 c4
  refine j_iconst g (v := 1) (by decide) dX6_isCoin_17 ?_
  refine j_goto g dX6_isCoin_18 (tgt := 22) (by decide) ?_
  exact hret.go dX6_isCoin_22 (Or.inr rfl) h

set_option maxRecDepth 20000 in
def wp_X6_canCome_32 (x1 : Int32) (mnk : Int32) (mva : Nat → Int32) (K : Int32 → Prop) (X : Prop) : Nat → Int32 → Prop
  | 0, _ => False
  | n + 1, x2 => ((mnk ≤ x2 → X) ∧ (¬ mnk ≤ x2 → (vp_in x2 6 ∧ ((¬ mva x2.toNatClampNeg = x1 → wp_X6_canCome_32 x1 mnk mva K X n (x2 + 1)) ∧ (mva x2.toNatClampNeg = x1 → K (0 : Int32))))))
set_option maxRecDepth 20000 in
def wp_X6_canCome (x1 : Int32) (mnk : Int32) (mva : Nat → Int32) (mcr : Int32) (K : Int32 → Prop) : Prop :=
  ((x1 < (1 : Int32) → K (0 : Int32)) ∧ (¬ x1 < (1 : Int32) → (((200 : Int32) < x1 → K (0 : Int32)) ∧ (¬ (200 : Int32) < x1 → ((0 < mcr → K (0 : Int32)) ∧ (¬ 0 < mcr → ((¬ mnk = (6 : Int32) → ∃ n5 : Nat, wp_X6_canCome_32 x1 mnk mva K (K (1 : Int32)) n5 (0 : Int32)) ∧ (mnk = (6 : Int32) → K (0 : Int32)))))))))
theorem dX6_canCome_0 : decode cX6_canCome 0 = .ok (.iload_n 1, 1) := by decide +kernel
theorem dX6_canCome_1 : decode cX6_canCome 1 = .ok (.iconst 1, 1) := by decide +kernel
theorem dX6_canCome_2 : decode cX6_canCome 2 = .ok (.if_icmp .lt 26, 3) := by decide +kernel
theorem dX6_canCome_5 : decode cX6_canCome 5 = .ok (.iload_n 1, 1) := by decide +kernel
theorem dX6_canCome_6 : decode cX6_canCome 6 = .ok (.sipush 200, 3) := by decide +kernel
theorem dX6_canCome_9 : decode cX6_canCome 9 = .ok (.if_icmp .gt 19, 3) := by decide +kernel
theorem dX6_canCome_12 : decode cX6_canCome 12 = .ok (.aload_n 0, 1) := by decide +kernel
theorem dX6_canCome_13 : decode cX6_canCome 13 = .ok (.getfield 73, 3) := by decide +kernel
theorem dX6_canCome_16 : decode cX6_canCome 16 = .ok (.ifCond .gt 12, 3) := by decide +kernel
theorem dX6_canCome_19 : decode cX6_canCome 19 = .ok (.aload_n 0, 1) := by decide +kernel
theorem dX6_canCome_20 : decode cX6_canCome 20 = .ok (.getfield 66, 3) := by decide +kernel
theorem dX6_canCome_23 : decode cX6_canCome 23 = .ok (.bipush 6, 2) := by decide +kernel
theorem dX6_canCome_25 : decode cX6_canCome 25 = .ok (.if_icmp .ne 5, 3) := by decide +kernel
theorem dX6_canCome_28 : decode cX6_canCome 28 = .ok (.iconst 0, 1) := by decide +kernel
theorem dX6_canCome_29 : decode cX6_canCome 29 = .ok (.ireturn, 1) := by decide +kernel
theorem dX6_canCome_30 : decode cX6_canCome 30 = .ok (.iconst 0, 1) := by decide +kernel
theorem dX6_canCome_31 : decode cX6_canCome 31 = .ok (.istore_n 2, 1) := by decide +kernel
theorem dX6_canCome_32 : decode cX6_canCome 32 = .ok (.iload_n 2, 1) := by decide +kernel
theorem dX6_canCome_33 : decode cX6_canCome 33 = .ok (.aload_n 0, 1) := by decide +kernel
theorem dX6_canCome_34 : decode cX6_canCome 34 = .ok (.getfield 66, 3) := by decide +kernel
theorem dX6_canCome_37 : decode cX6_canCome 37 = .ok (.if_icmp .ge 21, 3) := by decide +kernel
theorem dX6_canCome_40 : decode cX6_canCome 40 = .ok (.aload_n 0, 1) := by decide +kernel
theorem dX6_canCome_41 : decode cX6_canCome 41 = .ok (.getfield 7, 3) := by decide +kernel
theorem dX6_canCome_44 : decode cX6_canCome 44 = .ok (.iload_n 2, 1) := by decide +kernel
theorem dX6_canCome_45 : decode cX6_canCome 45 = .ok (.iaload, 1) := by decide +kernel
theorem dX6_canCome_46 : decode cX6_canCome 46 = .ok (.iload_n 1, 1) := by decide +kernel
theorem dX6_canCome_47 : decode cX6_canCome 47 = .ok (.if_icmp .ne 5, 3) := by decide +kernel
theorem dX6_canCome_50 : decode cX6_canCome 50 = .ok (.iconst 0, 1) := by decide +kernel
theorem dX6_canCome_51 : decode cX6_canCome 51 = .ok (.ireturn, 1) := by decide +kernel
theorem dX6_canCome_52 : decode cX6_canCome 52 = .ok (.iinc 2 1, 3) := by decide +kernel
theorem dX6_canCome_55 : decode cX6_canCome 55 = .ok (.goto (-23), 3) := by decide +kernel
theorem dX6_canCome_58 : decode cX6_canCome 58 = .ok (.iconst 1, 1) := by decide +kernel
theorem dX6_canCome_59 : decode cX6_canCome 59 = .ok (.ireturn, 1) := by decide +kernel
set_option maxRecDepth 20000 in
set_option maxHeartbeats 4000000 in
theorem wk_X6_canCome_32 {Γ : GT} {a : Nat → Nat} {q : Nat → ClassId} {x1 : Int32}  {mtd : Int32} {mnk : Int32} {mva : Nat → Int32} {mno : Nat → Int32} {mro : Nat → Int32} {mtu : Nat → Int32} {mbx : Nat → Int32} {mst : Nat → Int32} {mja : Nat → Int32} {mpr : Nat → Int32} {mcr : Int32} {mow : Int32} {mhd : Int32} {mmo : Int32} {mbk : Nat → Int32} {mca : Nat → Int32} {mfr : Nat → Int32} {mrs : Int32} {mrk : Nat → Int32} {mfe : Nat → Int32} {mus : Nat → Int32} {mgi : Nat → Int32} {maj : Nat → Int32} {K : Int32 → Prop} {X : Prop} (g : gd Γ cX6_canCome RX6 3 (rmz 0 0) q) (hret : rtZ_0 Γ cX6_canCome 3 (mdW a q mtd mnk mva mno mro mtu mbx mst mja mpr mcr mow mhd mmo mbk mca mfr mrs mrk mfe mus mgi maj) K) (hX : X → jw Γ 3 0 0 (mdW a q mtd mnk mva mno mro mtu mbx mst mja mpr mcr mow mhd mmo mbk mca mfr mrs mrk mfe mus mgi maj) [] [] 58) :
    ∀ (n : Nat) (x2 : Int32) , wp_X6_canCome_32 x1 mnk mva K X n x2 → jw Γ 3 0 0 (mdW a q mtd mnk mva mno mro mtu mbx mst mja mpr mcr mow mhd mmo mbk mca mfr mrs mrk mfe mus mgi maj) [(0, .ref (a 0)), (1, .int x1), (2, .int x2)] [] 32 := by
  intro n
  induction n with
  | zero =>
    intro _ h
    exact False.elim h
  | succ n ih =>
    intro x2 h
    unfold wp_X6_canCome_32 at h
    refine j_iload_n g 2 rfl dX6_canCome_32 ?_
    refine j_aload_n g 0 rfl dX6_canCome_33 ?_
    refine j_get g fl_X6_66 0 md_0 rfl dX6_canCome_34 ?_
    refine j_icmp_ge g dX6_canCome_37 (tgt := 58) (by decide) (fun c1 => ?_) (fun c1 => ?_)
    · replace h := h.1 c1
      refine j_sub [] rfl ?_
      exact hX h
    replace h := h.2 c1
    refine j_aload_n g 0 rfl dX6_canCome_40 ?_
    refine j_get g fl_X6_7 0 md_0 rfl dX6_canCome_41 ?_
    refine j_iload_n g 2 rfl dX6_canCome_44 ?_
    obtain ⟨hv2, h⟩ := h
    refine j_iald g 1 md_1 hv2 dX6_canCome_45 ?_
    refine j_iload_n g 1 rfl dX6_canCome_46 ?_
    refine j_icmp_ne g dX6_canCome_47 (tgt := 52) (by decide) (fun c3 => ?_) (fun c3 => ?_)
    rotate_left
    · replace h := h.2 c3
      refine j_iconst g (v := 0) (by decide) dX6_canCome_50 ?_
      exact hret.go dX6_canCome_51 (Or.inl rfl) h
    replace h := h.1 c3
    refine j_iinc g 2 (n := 1) (v := x2 + 1) (lv' := [(2, .int (x2 + 1)), (0, .ref (a 0)), (1, .int x1)]) rfl rfl (by decide) rfl dX6_canCome_52 ?_
    refine j_goto g dX6_canCome_55 (tgt := 32) (by decide) ?_
    refine j_sub [1, 2, 0] rfl ?_
    exact ih (x2 + 1) h
set_option maxRecDepth 20000 in
set_option maxHeartbeats 4000000 in
theorem c_X6_canCome {a : Nat → Nat} {q : Nat → ClassId} {x1 : Int32}  {mtd : Int32} {mnk : Int32} {mva : Nat → Int32} {mno : Nat → Int32} {mro : Nat → Int32} {mtu : Nat → Int32} {mbx : Nat → Int32} {mst : Nat → Int32} {mja : Nat → Int32} {mpr : Nat → Int32} {mcr : Int32} {mow : Int32} {mhd : Int32} {mmo : Int32} {mbk : Nat → Int32} {mca : Nat → Int32} {mfr : Nat → Int32} {mrs : Int32} {mrk : Nat → Int32} {mfe : Nat → Int32} {mus : Nat → Int32} {mgi : Nat → Int32} {maj : Nat → Int32} {K : Int32 → Prop} (h : wp_X6_canCome x1 mnk mva mcr K) : ctZ_0 q yX6_canCome cX6_canCome 3 0 0 [.ref (a 0), .int x1] (mdW a q mtd mnk mva mno mro mtu mbx mst mja mpr mcr mow mhd mmo mbk mca mfr mrs mrk mfe mus mgi maj) (mdW a q mtd mnk mva mno mro mtu mbx mst mja mpr mcr mow mhd mmo mbk mca mfr mrs mrk mfe mus mgi maj) K := by
  refine met_Z_0 (by decide) (Nat.le_of_ble_eq_true rfl) (fun Γ g hret => ?_)
  unfold wp_X6_canCome at h
  show jw Γ 3 0 0 (mdW a q mtd mnk mva mno mro mtu mbx mst mja mpr mcr mow mhd mmo mbk mca mfr mrs mrk mfe mus mgi maj) [(0, .ref (a 0)), (1, .int x1)] [] 0
  refine j_iload_n g 1 rfl dX6_canCome_0 ?_
  refine j_iconst g (v := 1) (by decide) dX6_canCome_1 ?_
  refine j_icmp_lt g dX6_canCome_2 (tgt := 28) (by decide) (fun c1 => ?_) (fun c1 => ?_)
  · replace h := h.1 c1
    refine j_iconst g (v := 0) (by decide) dX6_canCome_28 ?_
    exact hret.go dX6_canCome_29 (Or.inl rfl) h
  replace h := h.2 c1
  refine j_iload_n g 1 rfl dX6_canCome_5 ?_
  refine j_sipush g (v := 200) (by decide) dX6_canCome_6 ?_
  refine j_icmp_gt g dX6_canCome_9 (tgt := 28) (by decide) (fun c2 => ?_) (fun c2 => ?_)
  · replace h := h.1 c2
    refine j_iconst g (v := 0) (by decide) dX6_canCome_28 ?_
    exact hret.go dX6_canCome_29 (Or.inl rfl) h
  replace h := h.2 c2
  refine j_aload_n g 0 rfl dX6_canCome_12 ?_
  refine j_get g fl_X6_73 0 md_0 rfl dX6_canCome_13 ?_
  refine j_if_gt g dX6_canCome_16 (tgt := 28) (by decide) (fun c3 => ?_) (fun c3 => ?_)
  · replace h := h.1 c3
    refine j_iconst g (v := 0) (by decide) dX6_canCome_28 ?_
    exact hret.go dX6_canCome_29 (Or.inl rfl) h
  replace h := h.2 c3
  refine j_aload_n g 0 rfl dX6_canCome_19 ?_
  refine j_get g fl_X6_66 0 md_0 rfl dX6_canCome_20 ?_
  refine j_bipush g (v := 6) (by decide) dX6_canCome_23 ?_
  refine j_icmp_ne g dX6_canCome_25 (tgt := 30) (by decide) (fun c4 => ?_) (fun c4 => ?_)
  rotate_left
  · replace h := h.2 c4
    refine j_iconst g (v := 0) (by decide) dX6_canCome_28 ?_
    exact hret.go dX6_canCome_29 (Or.inl rfl) h
  replace h := h.1 c4
  refine j_iconst g (v := 0) (by decide) dX6_canCome_30 ?_
  refine j_istore_n g (lv' := [(2, .int (0 : Int32)), (0, .ref (a 0)), (1, .int x1)]) (by decide) rfl dX6_canCome_31 ?_
  obtain ⟨n5, h⟩ := h
  refine j_sub [1, 2, 0] rfl ?_
  refine wk_X6_canCome_32  g hret (fun h => ?_) n5 (0 : Int32) h
  refine j_iconst g (v := 1) (by decide) dX6_canCome_58 ?_
  exact hret.go dX6_canCome_59 (Or.inr rfl) h

set_option maxRecDepth 20000 in
def wp_X6_coin (x1 : Int32) (x2 : Int32) (mtd : Int32) (mnk : Int32) (mva : Nat → Int32) (mro : Nat → Int32) (mcr : Int32) (K : Int32 → Int32 → Int32 → (Nat → Int32) → (Nat → Int32) → Prop) : Prop :=
  wp_X6_canCome x1 mnk mva mcr (fun (r_1 : Int32)  => ((r_1 = 0 → K (-1 : Int32) (0 : Int32) mnk mva mro) ∧ (¬ r_1 = 0 → ((x2 < 0 → K (-1 : Int32) (0 : Int32) mnk mva mro) ∧ (¬ x2 < 0 → ((x2 ≤ (20 : Int32) → (vp_in mnk 6 ∧ (vp_in mnk 6 ∧ K ((mnk + (1 : Int32)) - (1 : Int32)) (0 : Int32) (mnk + (1 : Int32)) (upd mva mnk.toNatClampNeg x1) (upd mro mnk.toNatClampNeg x2)))) ∧ (¬ x2 ≤ (20 : Int32) → K (-1 : Int32) (0 : Int32) mnk mva mro)))))))
theorem dX6_coin_0 : decode cX6_coin 0 = .ok (.aload_n 0, 1) := by decide +kernel
theorem dX6_coin_1 : decode cX6_coin 1 = .ok (.iconst 0, 1) := by decide +kernel
theorem dX6_coin_2 : decode cX6_coin 2 = .ok (.putfield 63, 3) := by decide +kernel
theorem dX6_coin_5 : decode cX6_coin 5 = .ok (.aload_n 0, 1) := by decide +kernel
theorem dX6_coin_6 : decode cX6_coin 6 = .ok (.iload_n 1, 1) := by decide +kernel
theorem dX6_coin_7 : decode cX6_coin 7 = .ok (.invokevirtual 76, 3) := by decide +kernel
theorem dX6_coin_10 : decode cX6_coin 10 = .ok (.ifCond .eq 13, 3) := by decide +kernel
theorem dX6_coin_13 : decode cX6_coin 13 = .ok (.iload_n 2, 1) := by decide +kernel
theorem dX6_coin_14 : decode cX6_coin 14 = .ok (.ifCond .lt 9, 3) := by decide +kernel
theorem dX6_coin_17 : decode cX6_coin 17 = .ok (.iload_n 2, 1) := by decide +kernel
theorem dX6_coin_18 : decode cX6_coin 18 = .ok (.bipush 20, 2) := by decide +kernel
theorem dX6_coin_20 : decode cX6_coin 20 = .ok (.if_icmp .le 5, 3) := by decide +kernel
theorem dX6_coin_23 : decode cX6_coin 23 = .ok (.iconst (-1), 1) := by decide +kernel
theorem dX6_coin_24 : decode cX6_coin 24 = .ok (.ireturn, 1) := by decide +kernel
theorem dX6_coin_25 : decode cX6_coin 25 = .ok (.aload_n 0, 1) := by decide +kernel
theorem dX6_coin_26 : decode cX6_coin 26 = .ok (.getfield 7, 3) := by decide +kernel
theorem dX6_coin_29 : decode cX6_coin 29 = .ok (.aload_n 0, 1) := by decide +kernel
theorem dX6_coin_30 : decode cX6_coin 30 = .ok (.getfield 66, 3) := by decide +kernel
theorem dX6_coin_33 : decode cX6_coin 33 = .ok (.iload_n 1, 1) := by decide +kernel
theorem dX6_coin_34 : decode cX6_coin 34 = .ok (.iastore, 1) := by decide +kernel
theorem dX6_coin_35 : decode cX6_coin 35 = .ok (.aload_n 0, 1) := by decide +kernel
theorem dX6_coin_36 : decode cX6_coin 36 = .ok (.getfield 17, 3) := by decide +kernel
theorem dX6_coin_39 : decode cX6_coin 39 = .ok (.aload_n 0, 1) := by decide +kernel
theorem dX6_coin_40 : decode cX6_coin 40 = .ok (.getfield 66, 3) := by decide +kernel
theorem dX6_coin_43 : decode cX6_coin 43 = .ok (.iload_n 2, 1) := by decide +kernel
theorem dX6_coin_44 : decode cX6_coin 44 = .ok (.iastore, 1) := by decide +kernel
theorem dX6_coin_45 : decode cX6_coin 45 = .ok (.aload_n 0, 1) := by decide +kernel
theorem dX6_coin_46 : decode cX6_coin 46 = .ok (.aload_n 0, 1) := by decide +kernel
theorem dX6_coin_47 : decode cX6_coin 47 = .ok (.getfield 66, 3) := by decide +kernel
theorem dX6_coin_50 : decode cX6_coin 50 = .ok (.iconst 1, 1) := by decide +kernel
theorem dX6_coin_51 : decode cX6_coin 51 = .ok (.iadd, 1) := by decide +kernel
theorem dX6_coin_52 : decode cX6_coin 52 = .ok (.putfield 66, 3) := by decide +kernel
theorem dX6_coin_55 : decode cX6_coin 55 = .ok (.aload_n 0, 1) := by decide +kernel
theorem dX6_coin_56 : decode cX6_coin 56 = .ok (.getfield 66, 3) := by decide +kernel
theorem dX6_coin_59 : decode cX6_coin 59 = .ok (.iconst 1, 1) := by decide +kernel
theorem dX6_coin_60 : decode cX6_coin 60 = .ok (.isub, 1) := by decide +kernel
theorem dX6_coin_61 : decode cX6_coin 61 = .ok (.ireturn, 1) := by decide +kernel
set_option maxRecDepth 20000 in
set_option maxHeartbeats 4000000 in
theorem c_X6_coin {a : Nat → Nat} {q : Nat → ClassId} {x1 : Int32} {x2 : Int32}  {mtd : Int32} {mnk : Int32} {mva : Nat → Int32} {mno : Nat → Int32} {mro : Nat → Int32} {mtu : Nat → Int32} {mbx : Nat → Int32} {mst : Nat → Int32} {mja : Nat → Int32} {mpr : Nat → Int32} {mcr : Int32} {mow : Int32} {mhd : Int32} {mmo : Int32} {mbk : Nat → Int32} {mca : Nat → Int32} {mfr : Nat → Int32} {mrs : Int32} {mrk : Nat → Int32} {mfe : Nat → Int32} {mus : Nat → Int32} {mgi : Nat → Int32} {maj : Nat → Int32} {K : Int32 → Int32 → Int32 → (Nat → Int32) → (Nat → Int32) → Prop} (h : wp_X6_coin x1 x2 mtd mnk mva mro mcr K) : ctI_4 q yX6_coin cX6_coin 3 1 22 [.ref (a 0), .int x1, .int x2] (mdW a q mtd mnk mva mno mro mtu mbx mst mja mpr mcr mow mhd mmo mbk mca mfr mrs mrk mfe mus mgi maj) (fun (mtd : Int32) (mnk : Int32) (mva : Nat → Int32) (mro : Nat → Int32) => (mdW a q mtd mnk mva mno mro mtu mbx mst mja mpr mcr mow mhd mmo mbk mca mfr mrs mrk mfe mus mgi maj)) K := by
  refine met_I_4 (by decide) (Nat.le_of_ble_eq_true rfl) (fun Γ g hret => ?_)
  unfold wp_X6_coin at h
  show jw Γ 3 0 0 (mdW a q mtd mnk mva mno mro mtu mbx mst mja mpr mcr mow mhd mmo mbk mca mfr mrs mrk mfe mus mgi maj) [(0, .ref (a 0)), (1, .int x1), (2, .int x2)] [] 0
  refine j_aload_n g 0 rfl dX6_coin_0 ?_
  refine j_iconst g (v := 0) (by decide) dX6_coin_1 ?_
  refine j_put g fl_X6_63 fp_X6_0 0 md_0 rfl rfl (Nat.le_of_ble_eq_true rfl) (ws' := (mdW a q (0 : Int32) mnk mva mno mro mtu mbx mst mja mpr mcr mow mhd mmo mbk mca mfr mrs mrk mfe mus mgi maj)) rfl dX6_coin_2 ?_
  refine j_aload_n g 0 rfl dX6_coin_5 ?_
  refine j_iload_n g 1 rfl dX6_coin_6 ?_
  refine j_callVZ_0 g (As := [.int x1]) (st := []) (c_X6_canCome  h) cl_X6_76 0 6 md_0 rfl rfl (Nat.le_of_ble_eq_true rfl) (Nat.le_of_ble_eq_true rfl) (Nat.zero_le _) (Nat.zero_le _) rfl rfl (Nat.le_of_ble_eq_true rfl) dX6_coin_7 (fun r_1  hz_1 h => ?_)
  refine j_if_eq g dX6_coin_10 (tgt := 23) (by decide) (fun c2 => ?_) (fun c2 => ?_)
  · replace h := h.1 c2
    refine j_iconst g (v := -1) (by decide) dX6_coin_23 ?_
    exact hret.go dX6_coin_24 h
  replace h := h.2 c2
  refine j_iload_n g 2 rfl dX6_coin_13 ?_
  refine j_if_lt g dX6_coin_14 (tgt := 23) (by decide) (fun c3 => ?_) (fun c3 => ?_)
  · replace h := h.1 c3
    refine j_iconst g (v := -1) (by decide) dX6_coin_23 ?_
    exact hret.go dX6_coin_24 h
  replace h := h.2 c3
  refine j_iload_n g 2 rfl dX6_coin_17 ?_
  refine j_bipush g (v := 20) (by decide) dX6_coin_18 ?_
  refine j_icmp_le g dX6_coin_20 (tgt := 25) (by decide) (fun c4 => ?_) (fun c4 => ?_)
  rotate_left
  · replace h := h.2 c4
    refine j_iconst g (v := -1) (by decide) dX6_coin_23 ?_
    exact hret.go dX6_coin_24 h
  replace h := h.1 c4
  refine j_aload_n g 0 rfl dX6_coin_25 ?_
  refine j_get g fl_X6_7 0 md_0 rfl dX6_coin_26 ?_
  refine j_aload_n g 0 rfl dX6_coin_29 ?_
  refine j_get g fl_X6_66 0 md_0 rfl dX6_coin_30 ?_
  refine j_iload_n g 1 rfl dX6_coin_33 ?_
  obtain ⟨hv5, h⟩ := h
  refine j_iast g 1 md_1 hv5 (ws' := (mdW a q (0 : Int32) mnk (upd mva mnk.toNatClampNeg x1) mno mro mtu mbx mst mja mpr mcr mow mhd mmo mbk mca mfr mrs mrk mfe mus mgi maj)) rfl dX6_coin_34 ?_
  refine j_aload_n g 0 rfl dX6_coin_35 ?_
  refine j_get g fl_X6_17 0 md_0 rfl dX6_coin_36 ?_
  refine j_aload_n g 0 rfl dX6_coin_39 ?_
  refine j_get g fl_X6_66 0 md_0 rfl dX6_coin_40 ?_
  refine j_iload_n g 2 rfl dX6_coin_43 ?_
  obtain ⟨hv6, h⟩ := h
  refine j_iast g 3 md_3 hv6 (ws' := (mdW a q (0 : Int32) mnk (upd mva mnk.toNatClampNeg x1) mno (upd mro mnk.toNatClampNeg x2) mtu mbx mst mja mpr mcr mow mhd mmo mbk mca mfr mrs mrk mfe mus mgi maj)) rfl dX6_coin_44 ?_
  refine j_aload_n g 0 rfl dX6_coin_45 ?_
  refine j_aload_n g 0 rfl dX6_coin_46 ?_
  refine j_get g fl_X6_66 0 md_0 rfl dX6_coin_47 ?_
  refine j_iconst g (v := 1) (by decide) dX6_coin_50 ?_
  refine j_iadd g dX6_coin_51 ?_
  refine j_put g fl_X6_66 fp_X6_1 0 md_0 rfl rfl (Nat.le_of_ble_eq_true rfl) (ws' := (mdW a q (0 : Int32) (mnk + (1 : Int32)) (upd mva mnk.toNatClampNeg x1) mno (upd mro mnk.toNatClampNeg x2) mtu mbx mst mja mpr mcr mow mhd mmo mbk mca mfr mrs mrk mfe mus mgi maj)) rfl dX6_coin_52 ?_
  refine j_aload_n g 0 rfl dX6_coin_55 ?_
  refine j_get g fl_X6_66 0 md_0 rfl dX6_coin_56 ?_
  refine j_iconst g (v := 1) (by decide) dX6_coin_59 ?_
  refine j_isub g dX6_coin_60 ?_
  exact hret.go dX6_coin_61 h

set_option maxRecDepth 20000 in
def wp_X6_note (x1 : Int32) (mtd : Int32) (mnk : Int32) (mva : Nat → Int32) (mno : Nat → Int32) (mcr : Int32) (K : Int32 → Int32 → Int32 → (Nat → Int32) → (Nat → Int32) → Prop) : Prop :=
  wp_X6_canCome x1 mnk mva mcr (fun (r_1 : Int32)  => ((¬ r_1 = 0 → (vp_in mnk 6 ∧ (vp_in mnk 6 ∧ K ((mnk + (1 : Int32)) - (1 : Int32)) (0 : Int32) (mnk + (1 : Int32)) (upd mva mnk.toNatClampNeg x1) (upd mno mnk.toNatClampNeg (1 : Int32))))) ∧ (r_1 = 0 → K (-1 : Int32) (0 : Int32) mnk mva mno)))
theorem dX6_note_0 : decode cX6_note 0 = .ok (.aload_n 0, 1) := by decide +kernel
theorem dX6_note_1 : decode cX6_note 1 = .ok (.iconst 0, 1) := by decide +kernel
theorem dX6_note_2 : decode cX6_note 2 = .ok (.putfield 63, 3) := by decide +kernel
theorem dX6_note_5 : decode cX6_note 5 = .ok (.aload_n 0, 1) := by decide +kernel
theorem dX6_note_6 : decode cX6_note 6 = .ok (.iload_n 1, 1) := by decide +kernel
theorem dX6_note_7 : decode cX6_note 7 = .ok (.invokevirtual 76, 3) := by decide +kernel
theorem dX6_note_10 : decode cX6_note 10 = .ok (.ifCond .ne 5, 3) := by decide +kernel
theorem dX6_note_13 : decode cX6_note 13 = .ok (.iconst (-1), 1) := by decide +kernel
theorem dX6_note_14 : decode cX6_note 14 = .ok (.ireturn, 1) := by decide +kernel
theorem dX6_note_15 : decode cX6_note 15 = .ok (.aload_n 0, 1) := by decide +kernel
theorem dX6_note_16 : decode cX6_note 16 = .ok (.getfield 7, 3) := by decide +kernel
theorem dX6_note_19 : decode cX6_note 19 = .ok (.aload_n 0, 1) := by decide +kernel
theorem dX6_note_20 : decode cX6_note 20 = .ok (.getfield 66, 3) := by decide +kernel
theorem dX6_note_23 : decode cX6_note 23 = .ok (.iload_n 1, 1) := by decide +kernel
theorem dX6_note_24 : decode cX6_note 24 = .ok (.iastore, 1) := by decide +kernel
theorem dX6_note_25 : decode cX6_note 25 = .ok (.aload_n 0, 1) := by decide +kernel
theorem dX6_note_26 : decode cX6_note 26 = .ok (.getfield 13, 3) := by decide +kernel
theorem dX6_note_29 : decode cX6_note 29 = .ok (.aload_n 0, 1) := by decide +kernel
theorem dX6_note_30 : decode cX6_note 30 = .ok (.getfield 66, 3) := by decide +kernel
theorem dX6_note_33 : decode cX6_note 33 = .ok (.iconst 1, 1) := by decide +kernel
theorem dX6_note_34 : decode cX6_note 34 = .ok (.bastore, 1) := by decide +kernel
theorem dX6_note_35 : decode cX6_note 35 = .ok (.aload_n 0, 1) := by decide +kernel
theorem dX6_note_36 : decode cX6_note 36 = .ok (.aload_n 0, 1) := by decide +kernel
theorem dX6_note_37 : decode cX6_note 37 = .ok (.getfield 66, 3) := by decide +kernel
theorem dX6_note_40 : decode cX6_note 40 = .ok (.iconst 1, 1) := by decide +kernel
theorem dX6_note_41 : decode cX6_note 41 = .ok (.iadd, 1) := by decide +kernel
theorem dX6_note_42 : decode cX6_note 42 = .ok (.putfield 66, 3) := by decide +kernel
theorem dX6_note_45 : decode cX6_note 45 = .ok (.aload_n 0, 1) := by decide +kernel
theorem dX6_note_46 : decode cX6_note 46 = .ok (.getfield 66, 3) := by decide +kernel
theorem dX6_note_49 : decode cX6_note 49 = .ok (.iconst 1, 1) := by decide +kernel
theorem dX6_note_50 : decode cX6_note 50 = .ok (.isub, 1) := by decide +kernel
theorem dX6_note_51 : decode cX6_note 51 = .ok (.ireturn, 1) := by decide +kernel
set_option maxRecDepth 20000 in
set_option maxHeartbeats 4000000 in
theorem c_X6_note {a : Nat → Nat} {q : Nat → ClassId} {x1 : Int32}  {mtd : Int32} {mnk : Int32} {mva : Nat → Int32} {mno : Nat → Int32} {mro : Nat → Int32} {mtu : Nat → Int32} {mbx : Nat → Int32} {mst : Nat → Int32} {mja : Nat → Int32} {mpr : Nat → Int32} {mcr : Int32} {mow : Int32} {mhd : Int32} {mmo : Int32} {mbk : Nat → Int32} {mca : Nat → Int32} {mfr : Nat → Int32} {mrs : Int32} {mrk : Nat → Int32} {mfe : Nat → Int32} {mus : Nat → Int32} {mgi : Nat → Int32} {maj : Nat → Int32} {K : Int32 → Int32 → Int32 → (Nat → Int32) → (Nat → Int32) → Prop} (h : wp_X6_note x1 mtd mnk mva mno mcr K) : ctI_4 q yX6_note cX6_note 2 1 22 [.ref (a 0), .int x1] (mdW a q mtd mnk mva mno mro mtu mbx mst mja mpr mcr mow mhd mmo mbk mca mfr mrs mrk mfe mus mgi maj) (fun (mtd : Int32) (mnk : Int32) (mva : Nat → Int32) (mno : Nat → Int32) => (mdW a q mtd mnk mva mno mro mtu mbx mst mja mpr mcr mow mhd mmo mbk mca mfr mrs mrk mfe mus mgi maj)) K := by
  refine met_I_4 (by decide) (Nat.le_of_ble_eq_true rfl) (fun Γ g hret => ?_)
  unfold wp_X6_note at h
  show jw Γ 2 0 0 (mdW a q mtd mnk mva mno mro mtu mbx mst mja mpr mcr mow mhd mmo mbk mca mfr mrs mrk mfe mus mgi maj) [(0, .ref (a 0)), (1, .int x1)] [] 0
  refine j_aload_n g 0 rfl dX6_note_0 ?_
  refine j_iconst g (v := 0) (by decide) dX6_note_1 ?_
  refine j_put g fl_X6_63 fp_X6_0 0 md_0 rfl rfl (Nat.le_of_ble_eq_true rfl) (ws' := (mdW a q (0 : Int32) mnk mva mno mro mtu mbx mst mja mpr mcr mow mhd mmo mbk mca mfr mrs mrk mfe mus mgi maj)) rfl dX6_note_2 ?_
  refine j_aload_n g 0 rfl dX6_note_5 ?_
  refine j_iload_n g 1 rfl dX6_note_6 ?_
  refine j_callVZ_0 g (As := [.int x1]) (st := []) (c_X6_canCome  h) cl_X6_76 0 6 md_0 rfl rfl (Nat.le_of_ble_eq_true rfl) (Nat.le_of_ble_eq_true rfl) (Nat.zero_le _) (Nat.zero_le _) rfl rfl (Nat.le_of_ble_eq_true rfl) dX6_note_7 (fun r_1  hz_1 h => ?_)
  refine j_if_ne g dX6_note_10 (tgt := 15) (by decide) (fun c2 => ?_) (fun c2 => ?_)
  rotate_left
  · replace h := h.2 c2
    refine j_iconst g (v := -1) (by decide) dX6_note_13 ?_
    exact hret.go dX6_note_14 h
  replace h := h.1 c2
  refine j_aload_n g 0 rfl dX6_note_15 ?_
  refine j_get g fl_X6_7 0 md_0 rfl dX6_note_16 ?_
  refine j_aload_n g 0 rfl dX6_note_19 ?_
  refine j_get g fl_X6_66 0 md_0 rfl dX6_note_20 ?_
  refine j_iload_n g 1 rfl dX6_note_23 ?_
  obtain ⟨hv3, h⟩ := h
  refine j_iast g 1 md_1 hv3 (ws' := (mdW a q (0 : Int32) mnk (upd mva mnk.toNatClampNeg x1) mno mro mtu mbx mst mja mpr mcr mow mhd mmo mbk mca mfr mrs mrk mfe mus mgi maj)) rfl dX6_note_24 ?_
  refine j_aload_n g 0 rfl dX6_note_25 ?_
  refine j_get g fl_X6_13 0 md_0 rfl dX6_note_26 ?_
  refine j_aload_n g 0 rfl dX6_note_29 ?_
  refine j_get g fl_X6_66 0 md_0 rfl dX6_note_30 ?_
  refine j_iconst g (v := 1) (by decide) dX6_note_33 ?_
  obtain ⟨hv4, h⟩ := h
  refine j_zast g 2 md_2 hv4 (nz_v (Or.inr rfl)) (ws' := (mdW a q (0 : Int32) mnk (upd mva mnk.toNatClampNeg x1) (upd mno mnk.toNatClampNeg (1 : Int32)) mro mtu mbx mst mja mpr mcr mow mhd mmo mbk mca mfr mrs mrk mfe mus mgi maj)) rfl dX6_note_34 ?_
  refine j_aload_n g 0 rfl dX6_note_35 ?_
  refine j_aload_n g 0 rfl dX6_note_36 ?_
  refine j_get g fl_X6_66 0 md_0 rfl dX6_note_37 ?_
  refine j_iconst g (v := 1) (by decide) dX6_note_40 ?_
  refine j_iadd g dX6_note_41 ?_
  refine j_put g fl_X6_66 fp_X6_1 0 md_0 rfl rfl (Nat.le_of_ble_eq_true rfl) (ws' := (mdW a q (0 : Int32) (mnk + (1 : Int32)) (upd mva mnk.toNatClampNeg x1) (upd mno mnk.toNatClampNeg (1 : Int32)) mro mtu mbx mst mja mpr mcr mow mhd mmo mbk mca mfr mrs mrk mfe mus mgi maj)) rfl dX6_note_42 ?_
  refine j_aload_n g 0 rfl dX6_note_45 ?_
  refine j_get g fl_X6_66 0 md_0 rfl dX6_note_46 ?_
  refine j_iconst g (v := 1) (by decide) dX6_note_49 ?_
  refine j_isub g dX6_note_50 ?_
  exact hret.go dX6_note_51 h

set_option maxRecDepth 20000 in
def wp_X6_price (x1 : Int32) (x2 : Int32) (mtd : Int32) (mpr : Nat → Int32) (mcr : Int32) (K : Int32 → Int32 → (Nat → Int32) → Prop) : Prop :=
  ((x1 < 0 → K (0 : Int32) (0 : Int32) mpr) ∧ (¬ x1 < 0 → (((5 : Int32) < x1 → K (0 : Int32) (0 : Int32) mpr) ∧ (¬ (5 : Int32) < x1 → ((x2 < 0 → K (0 : Int32) (0 : Int32) mpr) ∧ (¬ x2 < 0 → (((300 : Int32) < x2 → K (0 : Int32) (0 : Int32) mpr) ∧ (¬ (300 : Int32) < x2 → ((mcr ≤ 0 → (vp_in x1 6 ∧ K (1 : Int32) (0 : Int32) (upd mpr x1.toNatClampNeg x2))) ∧ (¬ mcr ≤ 0 → K (0 : Int32) (0 : Int32) mpr))))))))))
theorem dX6_price_0 : decode cX6_price 0 = .ok (.aload_n 0, 1) := by decide +kernel
theorem dX6_price_1 : decode cX6_price 1 = .ok (.iconst 0, 1) := by decide +kernel
theorem dX6_price_2 : decode cX6_price 2 = .ok (.putfield 63, 3) := by decide +kernel
theorem dX6_price_5 : decode cX6_price 5 = .ok (.iload_n 1, 1) := by decide +kernel
theorem dX6_price_6 : decode cX6_price 6 = .ok (.ifCond .lt 26, 3) := by decide +kernel
theorem dX6_price_9 : decode cX6_price 9 = .ok (.iload_n 1, 1) := by decide +kernel
theorem dX6_price_10 : decode cX6_price 10 = .ok (.iconst 5, 1) := by decide +kernel
theorem dX6_price_11 : decode cX6_price 11 = .ok (.if_icmp .gt 21, 3) := by decide +kernel
theorem dX6_price_14 : decode cX6_price 14 = .ok (.iload_n 2, 1) := by decide +kernel
theorem dX6_price_15 : decode cX6_price 15 = .ok (.ifCond .lt 17, 3) := by decide +kernel
theorem dX6_price_18 : decode cX6_price 18 = .ok (.iload_n 2, 1) := by decide +kernel
theorem dX6_price_19 : decode cX6_price 19 = .ok (.sipush 300, 3) := by decide +kernel
theorem dX6_price_22 : decode cX6_price 22 = .ok (.if_icmp .gt 10, 3) := by decide +kernel
theorem dX6_price_25 : decode cX6_price 25 = .ok (.aload_n 0, 1) := by decide +kernel
theorem dX6_price_26 : decode cX6_price 26 = .ok (.getfield 73, 3) := by decide +kernel
theorem dX6_price_29 : decode cX6_price 29 = .ok (.ifCond .le 5, 3) := by decide +kernel
theorem dX6_price_32 : decode cX6_price 32 = .ok (.iconst 0, 1) := by decide +kernel
theorem dX6_price_33 : decode cX6_price 33 = .ok (.ireturn, 1) := by decide +kernel
theorem dX6_price_34 : decode cX6_price 34 = .ok (.aload_n 0, 1) := by decide +kernel
theorem dX6_price_35 : decode cX6_price 35 = .ok (.getfield 32, 3) := by decide +kernel
theorem dX6_price_38 : decode cX6_price 38 = .ok (.iload_n 1, 1) := by decide +kernel
theorem dX6_price_39 : decode cX6_price 39 = .ok (.iload_n 2, 1) := by decide +kernel
theorem dX6_price_40 : decode cX6_price 40 = .ok (.iastore, 1) := by decide +kernel
theorem dX6_price_41 : decode cX6_price 41 = .ok (.iconst 1, 1) := by decide +kernel
theorem dX6_price_42 : decode cX6_price 42 = .ok (.ireturn, 1) := by decide +kernel
set_option maxRecDepth 20000 in
set_option maxHeartbeats 4000000 in
theorem c_X6_price {a : Nat → Nat} {q : Nat → ClassId} {x1 : Int32} {x2 : Int32}  {mtd : Int32} {mnk : Int32} {mva : Nat → Int32} {mno : Nat → Int32} {mro : Nat → Int32} {mtu : Nat → Int32} {mbx : Nat → Int32} {mst : Nat → Int32} {mja : Nat → Int32} {mpr : Nat → Int32} {mcr : Int32} {mow : Int32} {mhd : Int32} {mmo : Int32} {mbk : Nat → Int32} {mca : Nat → Int32} {mfr : Nat → Int32} {mrs : Int32} {mrk : Nat → Int32} {mfe : Nat → Int32} {mus : Nat → Int32} {mgi : Nat → Int32} {maj : Nat → Int32} {K : Int32 → Int32 → (Nat → Int32) → Prop} (h : wp_X6_price x1 x2 mtd mpr mcr K) : ctZ_2 q yX6_price cX6_price 3 0 0 [.ref (a 0), .int x1, .int x2] (mdW a q mtd mnk mva mno mro mtu mbx mst mja mpr mcr mow mhd mmo mbk mca mfr mrs mrk mfe mus mgi maj) (fun (mtd : Int32) (mpr : Nat → Int32) => (mdW a q mtd mnk mva mno mro mtu mbx mst mja mpr mcr mow mhd mmo mbk mca mfr mrs mrk mfe mus mgi maj)) K := by
  refine met_Z_2 (by decide) (Nat.le_of_ble_eq_true rfl) (fun Γ g hret => ?_)
  unfold wp_X6_price at h
  show jw Γ 3 0 0 (mdW a q mtd mnk mva mno mro mtu mbx mst mja mpr mcr mow mhd mmo mbk mca mfr mrs mrk mfe mus mgi maj) [(0, .ref (a 0)), (1, .int x1), (2, .int x2)] [] 0
  refine j_aload_n g 0 rfl dX6_price_0 ?_
  refine j_iconst g (v := 0) (by decide) dX6_price_1 ?_
  refine j_put g fl_X6_63 fp_X6_0 0 md_0 rfl rfl (Nat.le_of_ble_eq_true rfl) (ws' := (mdW a q (0 : Int32) mnk mva mno mro mtu mbx mst mja mpr mcr mow mhd mmo mbk mca mfr mrs mrk mfe mus mgi maj)) rfl dX6_price_2 ?_
  refine j_iload_n g 1 rfl dX6_price_5 ?_
  refine j_if_lt g dX6_price_6 (tgt := 32) (by decide) (fun c1 => ?_) (fun c1 => ?_)
  · replace h := h.1 c1
    refine j_iconst g (v := 0) (by decide) dX6_price_32 ?_
    exact hret.go dX6_price_33 (Or.inl rfl) h
  replace h := h.2 c1
  refine j_iload_n g 1 rfl dX6_price_9 ?_
  refine j_iconst g (v := 5) (by decide) dX6_price_10 ?_
  refine j_icmp_gt g dX6_price_11 (tgt := 32) (by decide) (fun c2 => ?_) (fun c2 => ?_)
  · replace h := h.1 c2
    refine j_iconst g (v := 0) (by decide) dX6_price_32 ?_
    exact hret.go dX6_price_33 (Or.inl rfl) h
  replace h := h.2 c2
  refine j_iload_n g 2 rfl dX6_price_14 ?_
  refine j_if_lt g dX6_price_15 (tgt := 32) (by decide) (fun c3 => ?_) (fun c3 => ?_)
  · replace h := h.1 c3
    refine j_iconst g (v := 0) (by decide) dX6_price_32 ?_
    exact hret.go dX6_price_33 (Or.inl rfl) h
  replace h := h.2 c3
  refine j_iload_n g 2 rfl dX6_price_18 ?_
  refine j_sipush g (v := 300) (by decide) dX6_price_19 ?_
  refine j_icmp_gt g dX6_price_22 (tgt := 32) (by decide) (fun c4 => ?_) (fun c4 => ?_)
  · replace h := h.1 c4
    refine j_iconst g (v := 0) (by decide) dX6_price_32 ?_
    exact hret.go dX6_price_33 (Or.inl rfl) h
  replace h := h.2 c4
  refine j_aload_n g 0 rfl dX6_price_25 ?_
  refine j_get g fl_X6_73 0 md_0 rfl dX6_price_26 ?_
  refine j_if_le g dX6_price_29 (tgt := 34) (by decide) (fun c5 => ?_) (fun c5 => ?_)
  rotate_left
  · replace h := h.2 c5
    refine j_iconst g (v := 0) (by decide) dX6_price_32 ?_
    exact hret.go dX6_price_33 (Or.inl rfl) h
  replace h := h.1 c5
  refine j_aload_n g 0 rfl dX6_price_34 ?_
  refine j_get g fl_X6_32 0 md_0 rfl dX6_price_35 ?_
  refine j_iload_n g 1 rfl dX6_price_38 ?_
  refine j_iload_n g 2 rfl dX6_price_39 ?_
  obtain ⟨hv6, h⟩ := h
  refine j_iast g 8 md_8 hv6 (ws' := (mdW a q (0 : Int32) mnk mva mno mro mtu mbx mst mja (upd mpr x1.toNatClampNeg x2) mcr mow mhd mmo mbk mca mfr mrs mrk mfe mus mgi maj)) rfl dX6_price_40 ?_
  refine j_iconst g (v := 1) (by decide) dX6_price_41 ?_
  exact hret.go dX6_price_42 (Or.inr rfl) h

set_option maxRecDepth 20000 in
def wp_X6_mode (x1 : Int32) (mtd : Int32) (mmo : Int32) (K : Int32 → Int32 → Int32 → Prop) : Prop :=
  ((x1 < 0 → K (0 : Int32) (0 : Int32) mmo) ∧ (¬ x1 < 0 → ((x1 ≤ (1 : Int32) → K (1 : Int32) (0 : Int32) x1) ∧ (¬ x1 ≤ (1 : Int32) → K (0 : Int32) (0 : Int32) mmo))))
theorem dX6_mode_0 : decode cX6_mode 0 = .ok (.aload_n 0, 1) := by decide +kernel
theorem dX6_mode_1 : decode cX6_mode 1 = .ok (.iconst 0, 1) := by decide +kernel
theorem dX6_mode_2 : decode cX6_mode 2 = .ok (.putfield 63, 3) := by decide +kernel
theorem dX6_mode_5 : decode cX6_mode 5 = .ok (.iload_n 1, 1) := by decide +kernel
theorem dX6_mode_6 : decode cX6_mode 6 = .ok (.ifCond .lt 8, 3) := by decide +kernel
theorem dX6_mode_9 : decode cX6_mode 9 = .ok (.iload_n 1, 1) := by decide +kernel
theorem dX6_mode_10 : decode cX6_mode 10 = .ok (.iconst 1, 1) := by decide +kernel
theorem dX6_mode_11 : decode cX6_mode 11 = .ok (.if_icmp .le 5, 3) := by decide +kernel
theorem dX6_mode_14 : decode cX6_mode 14 = .ok (.iconst 0, 1) := by decide +kernel
theorem dX6_mode_15 : decode cX6_mode 15 = .ok (.ireturn, 1) := by decide +kernel
theorem dX6_mode_16 : decode cX6_mode 16 = .ok (.aload_n 0, 1) := by decide +kernel
theorem dX6_mode_17 : decode cX6_mode 17 = .ok (.iload_n 1, 1) := by decide +kernel
theorem dX6_mode_18 : decode cX6_mode 18 = .ok (.putfield 79, 3) := by decide +kernel
theorem dX6_mode_21 : decode cX6_mode 21 = .ok (.iconst 1, 1) := by decide +kernel
theorem dX6_mode_22 : decode cX6_mode 22 = .ok (.ireturn, 1) := by decide +kernel
set_option maxRecDepth 20000 in
set_option maxHeartbeats 4000000 in
theorem c_X6_mode {a : Nat → Nat} {q : Nat → ClassId} {x1 : Int32}  {mtd : Int32} {mnk : Int32} {mva : Nat → Int32} {mno : Nat → Int32} {mro : Nat → Int32} {mtu : Nat → Int32} {mbx : Nat → Int32} {mst : Nat → Int32} {mja : Nat → Int32} {mpr : Nat → Int32} {mcr : Int32} {mow : Int32} {mhd : Int32} {mmo : Int32} {mbk : Nat → Int32} {mca : Nat → Int32} {mfr : Nat → Int32} {mrs : Int32} {mrk : Nat → Int32} {mfe : Nat → Int32} {mus : Nat → Int32} {mgi : Nat → Int32} {maj : Nat → Int32} {K : Int32 → Int32 → Int32 → Prop} (h : wp_X6_mode x1 mtd mmo K) : ctZ_2 q yX6_mode cX6_mode 2 0 0 [.ref (a 0), .int x1] (mdW a q mtd mnk mva mno mro mtu mbx mst mja mpr mcr mow mhd mmo mbk mca mfr mrs mrk mfe mus mgi maj) (fun (mtd : Int32) (mmo : Int32) => (mdW a q mtd mnk mva mno mro mtu mbx mst mja mpr mcr mow mhd mmo mbk mca mfr mrs mrk mfe mus mgi maj)) K := by
  refine met_Z_2 (by decide) (Nat.le_of_ble_eq_true rfl) (fun Γ g hret => ?_)
  unfold wp_X6_mode at h
  show jw Γ 2 0 0 (mdW a q mtd mnk mva mno mro mtu mbx mst mja mpr mcr mow mhd mmo mbk mca mfr mrs mrk mfe mus mgi maj) [(0, .ref (a 0)), (1, .int x1)] [] 0
  refine j_aload_n g 0 rfl dX6_mode_0 ?_
  refine j_iconst g (v := 0) (by decide) dX6_mode_1 ?_
  refine j_put g fl_X6_63 fp_X6_0 0 md_0 rfl rfl (Nat.le_of_ble_eq_true rfl) (ws' := (mdW a q (0 : Int32) mnk mva mno mro mtu mbx mst mja mpr mcr mow mhd mmo mbk mca mfr mrs mrk mfe mus mgi maj)) rfl dX6_mode_2 ?_
  refine j_iload_n g 1 rfl dX6_mode_5 ?_
  refine j_if_lt g dX6_mode_6 (tgt := 14) (by decide) (fun c1 => ?_) (fun c1 => ?_)
  · replace h := h.1 c1
    refine j_iconst g (v := 0) (by decide) dX6_mode_14 ?_
    exact hret.go dX6_mode_15 (Or.inl rfl) h
  replace h := h.2 c1
  refine j_iload_n g 1 rfl dX6_mode_9 ?_
  refine j_iconst g (v := 1) (by decide) dX6_mode_10 ?_
  refine j_icmp_le g dX6_mode_11 (tgt := 16) (by decide) (fun c2 => ?_) (fun c2 => ?_)
  rotate_left
  · replace h := h.2 c2
    refine j_iconst g (v := 0) (by decide) dX6_mode_14 ?_
    exact hret.go dX6_mode_15 (Or.inl rfl) h
  replace h := h.1 c2
  refine j_aload_n g 0 rfl dX6_mode_16 ?_
  refine j_iload_n g 1 rfl dX6_mode_17 ?_
  refine j_put g fl_X6_79 fp_X6_13 0 md_0 rfl rfl (Nat.le_of_ble_eq_true rfl) (ws' := (mdW a q (0 : Int32) mnk mva mno mro mtu mbx mst mja mpr mcr mow mhd x1 mbk mca mfr mrs mrk mfe mus mgi maj)) rfl dX6_mode_18 ?_
  refine j_iconst g (v := 1) (by decide) dX6_mode_21 ?_
  exact hret.go dX6_mode_22 (Or.inr rfl) h

set_option maxRecDepth 20000 in
def wp_X6_fill (x1 : Int32) (x2 : Int32) (mtd : Int32) (mnk : Int32) (mva : Nat → Int32) (mno : Nat → Int32) (mro : Nat → Int32) (mtu : Nat → Int32) (mbk : Nat → Int32) (K : Int32 → Int32 → (Nat → Int32) → (Nat → Int32) → Prop) : Prop :=
  wp_X6_isCoin x1 mnk mno (fun (r_1 : Int32)  => ((r_1 = 0 → K (0 : Int32) (0 : Int32) mtu mbk) ∧ (¬ r_1 = 0 → ((x2 < 0 → K (0 : Int32) (0 : Int32) mtu mbk) ∧ (¬ x2 < 0 → (vp_in x1 6 ∧ (vp_in x1 6 ∧ ((x2 ≤ (mro x1.toNatClampNeg) - (mtu x1.toNatClampNeg) → (vp_in x1 6 ∧ (vp_in x1 6 ∧ (vp_in (3 : Int32) 6 ∧ (vp_in x1 6 ∧ (vp_in (3 : Int32) 6 ∧ K (1 : Int32) (0 : Int32) (upd mtu x1.toNatClampNeg ((mtu x1.toNatClampNeg) + x2)) (upd mbk (3 : Int32).toNatClampNeg ((mbk (3 : Int32).toNatClampNeg) + (x2 * (mva x1.toNatClampNeg)))))))))) ∧ (¬ x2 ≤ (mro x1.toNatClampNeg) - (mtu x1.toNatClampNeg) → K (0 : Int32) (0 : Int32) mtu mbk)))))))))
theorem dX6_fill_0 : decode cX6_fill 0 = .ok (.aload_n 0, 1) := by decide +kernel
theorem dX6_fill_1 : decode cX6_fill 1 = .ok (.iconst 0, 1) := by decide +kernel
theorem dX6_fill_2 : decode cX6_fill 2 = .ok (.putfield 63, 3) := by decide +kernel
theorem dX6_fill_5 : decode cX6_fill 5 = .ok (.aload_n 0, 1) := by decide +kernel
theorem dX6_fill_6 : decode cX6_fill 6 = .ok (.iload_n 1, 1) := by decide +kernel
theorem dX6_fill_7 : decode cX6_fill 7 = .ok (.invokevirtual 82, 3) := by decide +kernel
theorem dX6_fill_10 : decode cX6_fill 10 = .ok (.ifCond .eq 24, 3) := by decide +kernel
theorem dX6_fill_13 : decode cX6_fill 13 = .ok (.iload_n 2, 1) := by decide +kernel
theorem dX6_fill_14 : decode cX6_fill 14 = .ok (.ifCond .lt 20, 3) := by decide +kernel
theorem dX6_fill_17 : decode cX6_fill 17 = .ok (.iload_n 2, 1) := by decide +kernel
theorem dX6_fill_18 : decode cX6_fill 18 = .ok (.aload_n 0, 1) := by decide +kernel
theorem dX6_fill_19 : decode cX6_fill 19 = .ok (.getfield 17, 3) := by decide +kernel
theorem dX6_fill_22 : decode cX6_fill 22 = .ok (.iload_n 1, 1) := by decide +kernel
theorem dX6_fill_23 : decode cX6_fill 23 = .ok (.iaload, 1) := by decide +kernel
theorem dX6_fill_24 : decode cX6_fill 24 = .ok (.aload_n 0, 1) := by decide +kernel
theorem dX6_fill_25 : decode cX6_fill 25 = .ok (.getfield 20, 3) := by decide +kernel
theorem dX6_fill_28 : decode cX6_fill 28 = .ok (.iload_n 1, 1) := by decide +kernel
theorem dX6_fill_29 : decode cX6_fill 29 = .ok (.iaload, 1) := by decide +kernel
theorem dX6_fill_30 : decode cX6_fill 30 = .ok (.isub, 1) := by decide +kernel
theorem dX6_fill_31 : decode cX6_fill 31 = .ok (.if_icmp .le 5, 3) := by decide +kernel
theorem dX6_fill_34 : decode cX6_fill 34 = .ok (.iconst 0, 1) := by decide +kernel
theorem dX6_fill_35 : decode cX6_fill 35 = .ok (.ireturn, 1) := by decide +kernel
theorem dX6_fill_36 : decode cX6_fill 36 = .ok (.aload_n 0, 1) := by decide +kernel
theorem dX6_fill_37 : decode cX6_fill 37 = .ok (.getfield 20, 3) := by decide +kernel
theorem dX6_fill_40 : decode cX6_fill 40 = .ok (.iload_n 1, 1) := by decide +kernel
theorem dX6_fill_41 : decode cX6_fill 41 = .ok (.aload_n 0, 1) := by decide +kernel
theorem dX6_fill_42 : decode cX6_fill 42 = .ok (.getfield 20, 3) := by decide +kernel
theorem dX6_fill_45 : decode cX6_fill 45 = .ok (.iload_n 1, 1) := by decide +kernel
theorem dX6_fill_46 : decode cX6_fill 46 = .ok (.iaload, 1) := by decide +kernel
theorem dX6_fill_47 : decode cX6_fill 47 = .ok (.iload_n 2, 1) := by decide +kernel
theorem dX6_fill_48 : decode cX6_fill 48 = .ok (.iadd, 1) := by decide +kernel
theorem dX6_fill_49 : decode cX6_fill 49 = .ok (.iastore, 1) := by decide +kernel
theorem dX6_fill_50 : decode cX6_fill 50 = .ok (.aload_n 0, 1) := by decide +kernel
theorem dX6_fill_51 : decode cX6_fill 51 = .ok (.getfield 39, 3) := by decide +kernel
theorem dX6_fill_54 : decode cX6_fill 54 = .ok (.iconst 3, 1) := by decide +kernel
theorem dX6_fill_55 : decode cX6_fill 55 = .ok (.aload_n 0, 1) := by decide +kernel
theorem dX6_fill_56 : decode cX6_fill 56 = .ok (.getfield 39, 3) := by decide +kernel
theorem dX6_fill_59 : decode cX6_fill 59 = .ok (.iconst 3, 1) := by decide +kernel
theorem dX6_fill_60 : decode cX6_fill 60 = .ok (.iaload, 1) := by decide +kernel
theorem dX6_fill_61 : decode cX6_fill 61 = .ok (.iload_n 2, 1) := by decide +kernel
theorem dX6_fill_62 : decode cX6_fill 62 = .ok (.aload_n 0, 1) := by decide +kernel
theorem dX6_fill_63 : decode cX6_fill 63 = .ok (.getfield 7, 3) := by decide +kernel
theorem dX6_fill_66 : decode cX6_fill 66 = .ok (.iload_n 1, 1) := by decide +kernel
theorem dX6_fill_67 : decode cX6_fill 67 = .ok (.iaload, 1) := by decide +kernel
theorem dX6_fill_68 : decode cX6_fill 68 = .ok (.imul, 1) := by decide +kernel
theorem dX6_fill_69 : decode cX6_fill 69 = .ok (.iadd, 1) := by decide +kernel
theorem dX6_fill_70 : decode cX6_fill 70 = .ok (.iastore, 1) := by decide +kernel
theorem dX6_fill_71 : decode cX6_fill 71 = .ok (.iconst 1, 1) := by decide +kernel
theorem dX6_fill_72 : decode cX6_fill 72 = .ok (.ireturn, 1) := by decide +kernel
set_option maxRecDepth 20000 in
set_option maxHeartbeats 4000000 in
theorem c_X6_fill {a : Nat → Nat} {q : Nat → ClassId} {x1 : Int32} {x2 : Int32}  {mtd : Int32} {mnk : Int32} {mva : Nat → Int32} {mno : Nat → Int32} {mro : Nat → Int32} {mtu : Nat → Int32} {mbx : Nat → Int32} {mst : Nat → Int32} {mja : Nat → Int32} {mpr : Nat → Int32} {mcr : Int32} {mow : Int32} {mhd : Int32} {mmo : Int32} {mbk : Nat → Int32} {mca : Nat → Int32} {mfr : Nat → Int32} {mrs : Int32} {mrk : Nat → Int32} {mfe : Nat → Int32} {mus : Nat → Int32} {mgi : Nat → Int32} {maj : Nat → Int32} {K : Int32 → Int32 → (Nat → Int32) → (Nat → Int32) → Prop} (h : wp_X6_fill x1 x2 mtd mnk mva mno mro mtu mbk K) : ctZ_3 q yX6_fill cX6_fill 3 2 42 [.ref (a 0), .int x1, .int x2] (mdW a q mtd mnk mva mno mro mtu mbx mst mja mpr mcr mow mhd mmo mbk mca mfr mrs mrk mfe mus mgi maj) (fun (mtd : Int32) (mtu : Nat → Int32) (mbk : Nat → Int32) => (mdW a q mtd mnk mva mno mro mtu mbx mst mja mpr mcr mow mhd mmo mbk mca mfr mrs mrk mfe mus mgi maj)) K := by
  refine met_Z_3 (by decide) (Nat.le_of_ble_eq_true rfl) (fun Γ g hret => ?_)
  unfold wp_X6_fill at h
  show jw Γ 3 0 0 (mdW a q mtd mnk mva mno mro mtu mbx mst mja mpr mcr mow mhd mmo mbk mca mfr mrs mrk mfe mus mgi maj) [(0, .ref (a 0)), (1, .int x1), (2, .int x2)] [] 0
  refine j_aload_n g 0 rfl dX6_fill_0 ?_
  refine j_iconst g (v := 0) (by decide) dX6_fill_1 ?_
  refine j_put g fl_X6_63 fp_X6_0 0 md_0 rfl rfl (Nat.le_of_ble_eq_true rfl) (ws' := (mdW a q (0 : Int32) mnk mva mno mro mtu mbx mst mja mpr mcr mow mhd mmo mbk mca mfr mrs mrk mfe mus mgi maj)) rfl dX6_fill_2 ?_
  refine j_aload_n g 0 rfl dX6_fill_5 ?_
  refine j_iload_n g 1 rfl dX6_fill_6 ?_
  refine j_callVZ_0 g (As := [.int x1]) (st := []) (c_X6_isCoin  h) cl_X6_82 0 6 md_0 rfl rfl (Nat.le_of_ble_eq_true rfl) (Nat.le_of_ble_eq_true rfl) (Nat.zero_le _) (Nat.zero_le _) rfl rfl (Nat.le_of_ble_eq_true rfl) dX6_fill_7 (fun r_1  hz_1 h => ?_)
  refine j_if_eq g dX6_fill_10 (tgt := 34) (by decide) (fun c2 => ?_) (fun c2 => ?_)
  · replace h := h.1 c2
    refine j_iconst g (v := 0) (by decide) dX6_fill_34 ?_
    exact hret.go dX6_fill_35 (Or.inl rfl) h
  replace h := h.2 c2
  refine j_iload_n g 2 rfl dX6_fill_13 ?_
  refine j_if_lt g dX6_fill_14 (tgt := 34) (by decide) (fun c3 => ?_) (fun c3 => ?_)
  · replace h := h.1 c3
    refine j_iconst g (v := 0) (by decide) dX6_fill_34 ?_
    exact hret.go dX6_fill_35 (Or.inl rfl) h
  replace h := h.2 c3
  refine j_iload_n g 2 rfl dX6_fill_17 ?_
  refine j_aload_n g 0 rfl dX6_fill_18 ?_
  refine j_get g fl_X6_17 0 md_0 rfl dX6_fill_19 ?_
  refine j_iload_n g 1 rfl dX6_fill_22 ?_
  obtain ⟨hv4, h⟩ := h
  refine j_iald g 3 md_3 hv4 dX6_fill_23 ?_
  refine j_aload_n g 0 rfl dX6_fill_24 ?_
  refine j_get g fl_X6_20 0 md_0 rfl dX6_fill_25 ?_
  refine j_iload_n g 1 rfl dX6_fill_28 ?_
  obtain ⟨hv5, h⟩ := h
  refine j_iald g 4 md_4 hv5 dX6_fill_29 ?_
  refine j_isub g dX6_fill_30 ?_
  refine j_icmp_le g dX6_fill_31 (tgt := 36) (by decide) (fun c6 => ?_) (fun c6 => ?_)
  rotate_left
  · replace h := h.2 c6
    refine j_iconst g (v := 0) (by decide) dX6_fill_34 ?_
    exact hret.go dX6_fill_35 (Or.inl rfl) h
  replace h := h.1 c6
  refine j_aload_n g 0 rfl dX6_fill_36 ?_
  refine j_get g fl_X6_20 0 md_0 rfl dX6_fill_37 ?_
  refine j_iload_n g 1 rfl dX6_fill_40 ?_
  refine j_aload_n g 0 rfl dX6_fill_41 ?_
  refine j_get g fl_X6_20 0 md_0 rfl dX6_fill_42 ?_
  refine j_iload_n g 1 rfl dX6_fill_45 ?_
  obtain ⟨hv7, h⟩ := h
  refine j_iald g 4 md_4 hv7 dX6_fill_46 ?_
  refine j_iload_n g 2 rfl dX6_fill_47 ?_
  refine j_iadd g dX6_fill_48 ?_
  obtain ⟨hv8, h⟩ := h
  refine j_iast g 4 md_4 hv8 (ws' := (mdW a q (0 : Int32) mnk mva mno mro (upd mtu x1.toNatClampNeg ((mtu x1.toNatClampNeg) + x2)) mbx mst mja mpr mcr mow mhd mmo mbk mca mfr mrs mrk mfe mus mgi maj)) rfl dX6_fill_49 ?_
  refine j_aload_n g 0 rfl dX6_fill_50 ?_
  refine j_get g fl_X6_39 0 md_0 rfl dX6_fill_51 ?_
  refine j_iconst g (v := 3) (by decide) dX6_fill_54 ?_
  refine j_aload_n g 0 rfl dX6_fill_55 ?_
  refine j_get g fl_X6_39 0 md_0 rfl dX6_fill_56 ?_
  refine j_iconst g (v := 3) (by decide) dX6_fill_59 ?_
  obtain ⟨hv9, h⟩ := h
  refine j_iald g 9 md_9 hv9 dX6_fill_60 ?_
  refine j_iload_n g 2 rfl dX6_fill_61 ?_
  refine j_aload_n g 0 rfl dX6_fill_62 ?_
  refine j_get g fl_X6_7 0 md_0 rfl dX6_fill_63 ?_
  refine j_iload_n g 1 rfl dX6_fill_66 ?_
  obtain ⟨hv10, h⟩ := h
  refine j_iald g 1 md_1 hv10 dX6_fill_67 ?_
  refine j_imul g dX6_fill_68 ?_
  refine j_iadd g dX6_fill_69 ?_
  obtain ⟨hv11, h⟩ := h
  refine j_iast g 9 md_9 hv11 (ws' := (mdW a q (0 : Int32) mnk mva mno mro (upd mtu x1.toNatClampNeg ((mtu x1.toNatClampNeg) + x2)) mbx mst mja mpr mcr mow mhd mmo (upd mbk (3 : Int32).toNatClampNeg ((mbk (3 : Int32).toNatClampNeg) + (x2 * (mva x1.toNatClampNeg)))) mca mfr mrs mrk mfe mus mgi maj)) rfl dX6_fill_70 ?_
  refine j_iconst g (v := 1) (by decide) dX6_fill_71 ?_
  exact hret.go dX6_fill_72 (Or.inr rfl) h

set_option maxRecDepth 20000 in
def wp_X6_stuck (x1 : Int32) (x2 : Int32) (mtd : Int32) (mnk : Int32) (mno : Nat → Int32) (mst : Nat → Int32) (K : Int32 → Int32 → (Nat → Int32) → Prop) : Prop :=
  wp_X6_isCoin x1 mnk mno (fun (r_1 : Int32)  => ((r_1 = 0 → K (0 : Int32) (0 : Int32) mst) ∧ (¬ r_1 = 0 → (vp_in x1 6 ∧ ((¬ mst x1.toNatClampNeg = x2 → (vp_in x1 6 ∧ K (1 : Int32) (0 : Int32) (upd mst x1.toNatClampNeg x2))) ∧ (mst x1.toNatClampNeg = x2 → K (0 : Int32) (0 : Int32) mst))))))
theorem dX6_stuck_0 : decode cX6_stuck 0 = .ok (.aload_n 0, 1) := by decide +kernel
theorem dX6_stuck_1 : decode cX6_stuck 1 = .ok (.iconst 0, 1) := by decide +kernel
theorem dX6_stuck_2 : decode cX6_stuck 2 = .ok (.putfield 63, 3) := by decide +kernel
theorem dX6_stuck_5 : decode cX6_stuck 5 = .ok (.aload_n 0, 1) := by decide +kernel
theorem dX6_stuck_6 : decode cX6_stuck 6 = .ok (.iload_n 1, 1) := by decide +kernel
theorem dX6_stuck_7 : decode cX6_stuck 7 = .ok (.invokevirtual 82, 3) := by decide +kernel
theorem dX6_stuck_10 : decode cX6_stuck 10 = .ok (.ifCond .eq 13, 3) := by decide +kernel
theorem dX6_stuck_13 : decode cX6_stuck 13 = .ok (.aload_n 0, 1) := by decide +kernel
theorem dX6_stuck_14 : decode cX6_stuck 14 = .ok (.getfield 26, 3) := by decide +kernel
theorem dX6_stuck_17 : decode cX6_stuck 17 = .ok (.iload_n 1, 1) := by decide +kernel
theorem dX6_stuck_18 : decode cX6_stuck 18 = .ok (.baload, 1) := by decide +kernel
theorem dX6_stuck_19 : decode cX6_stuck 19 = .ok (.iload_n 2, 1) := by decide +kernel
theorem dX6_stuck_20 : decode cX6_stuck 20 = .ok (.if_icmp .ne 5, 3) := by decide +kernel
theorem dX6_stuck_23 : decode cX6_stuck 23 = .ok (.iconst 0, 1) := by decide +kernel
theorem dX6_stuck_24 : decode cX6_stuck 24 = .ok (.ireturn, 1) := by decide +kernel
theorem dX6_stuck_25 : decode cX6_stuck 25 = .ok (.aload_n 0, 1) := by decide +kernel
theorem dX6_stuck_26 : decode cX6_stuck 26 = .ok (.getfield 26, 3) := by decide +kernel
theorem dX6_stuck_29 : decode cX6_stuck 29 = .ok (.iload_n 1, 1) := by decide +kernel
theorem dX6_stuck_30 : decode cX6_stuck 30 = .ok (.iload_n 2, 1) := by decide +kernel
theorem dX6_stuck_31 : decode cX6_stuck 31 = .ok (.bastore, 1) := by decide +kernel
theorem dX6_stuck_32 : decode cX6_stuck 32 = .ok (.iconst 1, 1) := by decide +kernel
theorem dX6_stuck_33 : decode cX6_stuck 33 = .ok (.ireturn, 1) := by decide +kernel
set_option maxRecDepth 20000 in
set_option maxHeartbeats 4000000 in
theorem c_X6_stuck {a : Nat → Nat} {q : Nat → ClassId} {x1 : Int32} {x2 : Int32} (hz2 : x2 = 0 ∨ x2 = 1) {mtd : Int32} {mnk : Int32} {mva : Nat → Int32} {mno : Nat → Int32} {mro : Nat → Int32} {mtu : Nat → Int32} {mbx : Nat → Int32} {mst : Nat → Int32} {mja : Nat → Int32} {mpr : Nat → Int32} {mcr : Int32} {mow : Int32} {mhd : Int32} {mmo : Int32} {mbk : Nat → Int32} {mca : Nat → Int32} {mfr : Nat → Int32} {mrs : Int32} {mrk : Nat → Int32} {mfe : Nat → Int32} {mus : Nat → Int32} {mgi : Nat → Int32} {maj : Nat → Int32} {K : Int32 → Int32 → (Nat → Int32) → Prop} (h : wp_X6_stuck x1 x2 mtd mnk mno mst K) : ctZ_2 q yX6_stuck cX6_stuck 3 2 42 [.ref (a 0), .int x1, .int x2] (mdW a q mtd mnk mva mno mro mtu mbx mst mja mpr mcr mow mhd mmo mbk mca mfr mrs mrk mfe mus mgi maj) (fun (mtd : Int32) (mst : Nat → Int32) => (mdW a q mtd mnk mva mno mro mtu mbx mst mja mpr mcr mow mhd mmo mbk mca mfr mrs mrk mfe mus mgi maj)) K := by
  refine met_Z_2 (by decide) (Nat.le_of_ble_eq_true rfl) (fun Γ g hret => ?_)
  unfold wp_X6_stuck at h
  show jw Γ 3 0 0 (mdW a q mtd mnk mva mno mro mtu mbx mst mja mpr mcr mow mhd mmo mbk mca mfr mrs mrk mfe mus mgi maj) [(0, .ref (a 0)), (1, .int x1), (2, .int x2)] [] 0
  refine j_aload_n g 0 rfl dX6_stuck_0 ?_
  refine j_iconst g (v := 0) (by decide) dX6_stuck_1 ?_
  refine j_put g fl_X6_63 fp_X6_0 0 md_0 rfl rfl (Nat.le_of_ble_eq_true rfl) (ws' := (mdW a q (0 : Int32) mnk mva mno mro mtu mbx mst mja mpr mcr mow mhd mmo mbk mca mfr mrs mrk mfe mus mgi maj)) rfl dX6_stuck_2 ?_
  refine j_aload_n g 0 rfl dX6_stuck_5 ?_
  refine j_iload_n g 1 rfl dX6_stuck_6 ?_
  refine j_callVZ_0 g (As := [.int x1]) (st := []) (c_X6_isCoin  h) cl_X6_82 0 6 md_0 rfl rfl (Nat.le_of_ble_eq_true rfl) (Nat.le_of_ble_eq_true rfl) (Nat.zero_le _) (Nat.zero_le _) rfl rfl (Nat.le_of_ble_eq_true rfl) dX6_stuck_7 (fun r_1  hz_1 h => ?_)
  refine j_if_eq g dX6_stuck_10 (tgt := 23) (by decide) (fun c2 => ?_) (fun c2 => ?_)
  · replace h := h.1 c2
    refine j_iconst g (v := 0) (by decide) dX6_stuck_23 ?_
    exact hret.go dX6_stuck_24 (Or.inl rfl) h
  replace h := h.2 c2
  refine j_aload_n g 0 rfl dX6_stuck_13 ?_
  refine j_get g fl_X6_26 0 md_0 rfl dX6_stuck_14 ?_
  refine j_iload_n g 1 rfl dX6_stuck_17 ?_
  obtain ⟨hv3, h⟩ := h
  refine j_zald g 6 md_6 hv3 dX6_stuck_18 ?_
  refine j_iload_n g 2 rfl dX6_stuck_19 ?_
  refine j_icmp_ne g dX6_stuck_20 (tgt := 25) (by decide) (fun c4 => ?_) (fun c4 => ?_)
  rotate_left
  · replace h := h.2 c4
    refine j_iconst g (v := 0) (by decide) dX6_stuck_23 ?_
    exact hret.go dX6_stuck_24 (Or.inl rfl) h
  replace h := h.1 c4
  refine j_aload_n g 0 rfl dX6_stuck_25 ?_
  refine j_get g fl_X6_26 0 md_0 rfl dX6_stuck_26 ?_
  refine j_iload_n g 1 rfl dX6_stuck_29 ?_
  refine j_iload_n g 2 rfl dX6_stuck_30 ?_
  obtain ⟨hv5, h⟩ := h
  refine j_zast g 6 md_6 hv5 (nz_v hz2) (ws' := (mdW a q (0 : Int32) mnk mva mno mro mtu mbx (upd mst x1.toNatClampNeg x2) mja mpr mcr mow mhd mmo mbk mca mfr mrs mrk mfe mus mgi maj)) rfl dX6_stuck_31 ?_
  refine j_iconst g (v := 1) (by decide) dX6_stuck_32 ?_
  exact hret.go dX6_stuck_33 (Or.inr rfl) h

set_option maxRecDepth 20000 in
def wp_X6_jam (x1 : Int32) (x2 : Int32) (mtd : Int32) (mnk : Int32) (mno : Nat → Int32) (mja : Nat → Int32) (K : Int32 → Int32 → (Nat → Int32) → Prop) : Prop :=
  wp_X6_isCoin x1 mnk mno (fun (r_1 : Int32)  => ((r_1 = 0 → K (0 : Int32) (0 : Int32) mja) ∧ (¬ r_1 = 0 → ((x2 < (-1 : Int32) → K (0 : Int32) (0 : Int32) mja) ∧ (¬ x2 < (-1 : Int32) → ((x2 ≤ (99 : Int32) → (vp_in x1 6 ∧ K (1 : Int32) (0 : Int32) (upd mja x1.toNatClampNeg x2))) ∧ (¬ x2 ≤ (99 : Int32) → K (0 : Int32) (0 : Int32) mja)))))))
theorem dX6_jam_0 : decode cX6_jam 0 = .ok (.aload_n 0, 1) := by decide +kernel
theorem dX6_jam_1 : decode cX6_jam 1 = .ok (.iconst 0, 1) := by decide +kernel
theorem dX6_jam_2 : decode cX6_jam 2 = .ok (.putfield 63, 3) := by decide +kernel
theorem dX6_jam_5 : decode cX6_jam 5 = .ok (.aload_n 0, 1) := by decide +kernel
theorem dX6_jam_6 : decode cX6_jam 6 = .ok (.iload_n 1, 1) := by decide +kernel
theorem dX6_jam_7 : decode cX6_jam 7 = .ok (.invokevirtual 82, 3) := by decide +kernel
theorem dX6_jam_10 : decode cX6_jam 10 = .ok (.ifCond .eq 14, 3) := by decide +kernel
theorem dX6_jam_13 : decode cX6_jam 13 = .ok (.iload_n 2, 1) := by decide +kernel
theorem dX6_jam_14 : decode cX6_jam 14 = .ok (.iconst (-1), 1) := by decide +kernel
theorem dX6_jam_15 : decode cX6_jam 15 = .ok (.if_icmp .lt 9, 3) := by decide +kernel
theorem dX6_jam_18 : decode cX6_jam 18 = .ok (.iload_n 2, 1) := by decide +kernel
theorem dX6_jam_19 : decode cX6_jam 19 = .ok (.bipush 99, 2) := by decide +kernel
theorem dX6_jam_21 : decode cX6_jam 21 = .ok (.if_icmp .le 5, 3) := by decide +kernel
theorem dX6_jam_24 : decode cX6_jam 24 = .ok (.iconst 0, 1) := by decide +kernel
theorem dX6_jam_25 : decode cX6_jam 25 = .ok (.ireturn, 1) := by decide +kernel
theorem dX6_jam_26 : decode cX6_jam 26 = .ok (.aload_n 0, 1) := by decide +kernel
theorem dX6_jam_27 : decode cX6_jam 27 = .ok (.getfield 29, 3) := by decide +kernel
theorem dX6_jam_30 : decode cX6_jam 30 = .ok (.iload_n 1, 1) := by decide +kernel
theorem dX6_jam_31 : decode cX6_jam 31 = .ok (.iload_n 2, 1) := by decide +kernel
theorem dX6_jam_32 : decode cX6_jam 32 = .ok (.iastore, 1) := by decide +kernel
theorem dX6_jam_33 : decode cX6_jam 33 = .ok (.iconst 1, 1) := by decide +kernel
theorem dX6_jam_34 : decode cX6_jam 34 = .ok (.ireturn, 1) := by decide +kernel
set_option maxRecDepth 20000 in
set_option maxHeartbeats 4000000 in
theorem c_X6_jam {a : Nat → Nat} {q : Nat → ClassId} {x1 : Int32} {x2 : Int32}  {mtd : Int32} {mnk : Int32} {mva : Nat → Int32} {mno : Nat → Int32} {mro : Nat → Int32} {mtu : Nat → Int32} {mbx : Nat → Int32} {mst : Nat → Int32} {mja : Nat → Int32} {mpr : Nat → Int32} {mcr : Int32} {mow : Int32} {mhd : Int32} {mmo : Int32} {mbk : Nat → Int32} {mca : Nat → Int32} {mfr : Nat → Int32} {mrs : Int32} {mrk : Nat → Int32} {mfe : Nat → Int32} {mus : Nat → Int32} {mgi : Nat → Int32} {maj : Nat → Int32} {K : Int32 → Int32 → (Nat → Int32) → Prop} (h : wp_X6_jam x1 x2 mtd mnk mno mja K) : ctZ_2 q yX6_jam cX6_jam 3 2 42 [.ref (a 0), .int x1, .int x2] (mdW a q mtd mnk mva mno mro mtu mbx mst mja mpr mcr mow mhd mmo mbk mca mfr mrs mrk mfe mus mgi maj) (fun (mtd : Int32) (mja : Nat → Int32) => (mdW a q mtd mnk mva mno mro mtu mbx mst mja mpr mcr mow mhd mmo mbk mca mfr mrs mrk mfe mus mgi maj)) K := by
  refine met_Z_2 (by decide) (Nat.le_of_ble_eq_true rfl) (fun Γ g hret => ?_)
  unfold wp_X6_jam at h
  show jw Γ 3 0 0 (mdW a q mtd mnk mva mno mro mtu mbx mst mja mpr mcr mow mhd mmo mbk mca mfr mrs mrk mfe mus mgi maj) [(0, .ref (a 0)), (1, .int x1), (2, .int x2)] [] 0
  refine j_aload_n g 0 rfl dX6_jam_0 ?_
  refine j_iconst g (v := 0) (by decide) dX6_jam_1 ?_
  refine j_put g fl_X6_63 fp_X6_0 0 md_0 rfl rfl (Nat.le_of_ble_eq_true rfl) (ws' := (mdW a q (0 : Int32) mnk mva mno mro mtu mbx mst mja mpr mcr mow mhd mmo mbk mca mfr mrs mrk mfe mus mgi maj)) rfl dX6_jam_2 ?_
  refine j_aload_n g 0 rfl dX6_jam_5 ?_
  refine j_iload_n g 1 rfl dX6_jam_6 ?_
  refine j_callVZ_0 g (As := [.int x1]) (st := []) (c_X6_isCoin  h) cl_X6_82 0 6 md_0 rfl rfl (Nat.le_of_ble_eq_true rfl) (Nat.le_of_ble_eq_true rfl) (Nat.zero_le _) (Nat.zero_le _) rfl rfl (Nat.le_of_ble_eq_true rfl) dX6_jam_7 (fun r_1  hz_1 h => ?_)
  refine j_if_eq g dX6_jam_10 (tgt := 24) (by decide) (fun c2 => ?_) (fun c2 => ?_)
  · replace h := h.1 c2
    refine j_iconst g (v := 0) (by decide) dX6_jam_24 ?_
    exact hret.go dX6_jam_25 (Or.inl rfl) h
  replace h := h.2 c2
  refine j_iload_n g 2 rfl dX6_jam_13 ?_
  refine j_iconst g (v := -1) (by decide) dX6_jam_14 ?_
  refine j_icmp_lt g dX6_jam_15 (tgt := 24) (by decide) (fun c3 => ?_) (fun c3 => ?_)
  · replace h := h.1 c3
    refine j_iconst g (v := 0) (by decide) dX6_jam_24 ?_
    exact hret.go dX6_jam_25 (Or.inl rfl) h
  replace h := h.2 c3
  refine j_iload_n g 2 rfl dX6_jam_18 ?_
  refine j_bipush g (v := 99) (by decide) dX6_jam_19 ?_
  refine j_icmp_le g dX6_jam_21 (tgt := 26) (by decide) (fun c4 => ?_) (fun c4 => ?_)
  rotate_left
  · replace h := h.2 c4
    refine j_iconst g (v := 0) (by decide) dX6_jam_24 ?_
    exact hret.go dX6_jam_25 (Or.inl rfl) h
  replace h := h.1 c4
  refine j_aload_n g 0 rfl dX6_jam_26 ?_
  refine j_get g fl_X6_29 0 md_0 rfl dX6_jam_27 ?_
  refine j_iload_n g 1 rfl dX6_jam_30 ?_
  refine j_iload_n g 2 rfl dX6_jam_31 ?_
  obtain ⟨hv5, h⟩ := h
  refine j_iast g 7 md_7 hv5 (ws' := (mdW a q (0 : Int32) mnk mva mno mro mtu mbx mst (upd mja x1.toNatClampNeg x2) mpr mcr mow mhd mmo mbk mca mfr mrs mrk mfe mus mgi maj)) rfl dX6_jam_32 ?_
  refine j_iconst g (v := 1) (by decide) dX6_jam_33 ?_
  exact hret.go dX6_jam_34 (Or.inr rfl) h

set_option maxRecDepth 20000 in
def wp_X6_findSums_2   (K : (Nat → Int32) → (Nat → Int32) → Prop) (X : (Nat → Int32) → Prop) : Nat → Int32 → (Nat → Int32) → Prop
  | 0, _, _ => False
  | n + 1, x1, mca => (((999 : Int32) < x1 → X mca) ∧ (¬ (999 : Int32) < x1 → ((¬ x1 = 0 → (vp_in x1 1000 ∧ wp_X6_findSums_2 K X n (x1 + 1) (upd mca x1.toNatClampNeg (0 : Int32)))) ∧ (x1 = 0 → (vp_in x1 1000 ∧ wp_X6_findSums_2 K X n (x1 + 1) (upd mca x1.toNatClampNeg (1 : Int32)))))))
set_option maxRecDepth 20000 in
def wp_X6_findSums_63 (x1 : Int32) (mca : Nat → Int32) (K : (Nat → Int32) → (Nat → Int32) → Prop) (X : (Nat → Int32) → Prop) : Nat → Int32 → (Nat → Int32) → Prop
  | 0, _, _ => False
  | n + 1, x2, mfr => (((999 : Int32) < x2 → X mfr) ∧ (¬ (999 : Int32) < x2 → (vp_in x2 1000 ∧ ((mca x2.toNatClampNeg = 0 → (vp_in x2 1000 ∧ wp_X6_findSums_63 x1 mca K X n (x2 + 1) (upd mfr x2.toNatClampNeg (1000000 : Int32)))) ∧ (¬ mca x2.toNatClampNeg = 0 → (vp_in x2 1000 ∧ wp_X6_findSums_63 x1 mca K X n (x2 + 1) (upd mfr x2.toNatClampNeg (0 : Int32))))))))
set_option maxRecDepth 20000 in
def wp_X6_findSums_104 (x1 : Int32) (mva : Nat → Int32) (mtu : Nat → Int32) (K : (Nat → Int32) → (Nat → Int32) → Prop) (X : (Nat → Int32) → (Nat → Int32) → Prop) : Nat → Int32 → (Nat → Int32) → (Nat → Int32) → Prop
  | 0, _, _, _ => False
  | n + 1, x2, mca, mfr => (((999 : Int32) < x2 → X mca mfr) ∧ (¬ (999 : Int32) < x2 → (vp_in x2 1000 ∧ ((¬ mca x2.toNatClampNeg = 0 → wp_X6_findSums_104 x1 mva mtu K X n (x2 + 1) mca mfr) ∧ (mca x2.toNatClampNeg = 0 → (vp_in x1 6 ∧ (vp_in (x2 - (mva x1.toNatClampNeg)) 1000 ∧ (vp_in x1 6 ∧ ((mfr (x2 - (mva x1.toNatClampNeg)).toNatClampNeg < mtu x1.toNatClampNeg → (vp_in x2 1000 ∧ (vp_in x1 6 ∧ (vp_in (x2 - (mva x1.toNatClampNeg)) 1000 ∧ (vp_in x2 1000 ∧ wp_X6_findSums_104 x1 mva mtu K X n (x2 + 1) (upd mca x2.toNatClampNeg (1 : Int32)) (upd mfr x2.toNatClampNeg ((mfr (x2 - (mva x1.toNatClampNeg)).toNatClampNeg) + (1 : Int32)))))))) ∧ (¬ mfr (x2 - (mva x1.toNatClampNeg)).toNatClampNeg < mtu x1.toNatClampNeg → wp_X6_findSums_104 x1 mva mtu K X n (x2 + 1) mca mfr))))))))))
set_option maxRecDepth 20000 in
def wp_X6_findSums_32  (mnk : Int32) (mva : Nat → Int32) (mno : Nat → Int32) (mtu : Nat → Int32) (mst : Nat → Int32) (K : (Nat → Int32) → (Nat → Int32) → Prop) (X : (Nat → Int32) → (Nat → Int32) → Prop) : Nat → Int32 → (Nat → Int32) → (Nat → Int32) → Prop
  | 0, _, _, _ => False
  | n + 1, x1, mca, mfr => ((mnk ≤ x1 → X mca mfr) ∧ (¬ mnk ≤ x1 → (vp_in x1 6 ∧ ((¬ mno x1.toNatClampNeg = 0 → wp_X6_findSums_32 mnk mva mno mtu mst K X n (x1 + 1) mca mfr) ∧ (mno x1.toNatClampNeg = 0 → (vp_in x1 6 ∧ ((mst x1.toNatClampNeg = 0 → ∃ n6 : Nat, wp_X6_findSums_63 x1 mca K (fun (mfr_6 : Nat → Int32) => (vp_in x1 6 ∧ ∃ n8 : Nat, wp_X6_findSums_104 x1 mva mtu K (fun (mca_8 : Nat → Int32) (mfr_8 : Nat → Int32) => wp_X6_findSums_32 mnk mva mno mtu mst K X n (x1 + 1) mca_8 mfr_8) n8 (mva x1.toNatClampNeg) mca mfr_6)) n6 (0 : Int32) mfr) ∧ (¬ mst x1.toNatClampNeg = 0 → wp_X6_findSums_32 mnk mva mno mtu mst K X n (x1 + 1) mca mfr))))))))
set_option maxRecDepth 20000 in
def wp_X6_findSums  (mnk : Int32) (mva : Nat → Int32) (mno : Nat → Int32) (mtu : Nat → Int32) (mst : Nat → Int32) (mca : Nat → Int32) (mfr : Nat → Int32) (K : (Nat → Int32) → (Nat → Int32) → Prop) : Prop :=
  ∃ n1 : Nat, wp_X6_findSums_2 K (fun (mca_1 : Nat → Int32) => ∃ n2 : Nat, wp_X6_findSums_32 mnk mva mno mtu mst K (fun (mca_2 : Nat → Int32) (mfr_2 : Nat → Int32) => K mca_2 mfr_2) n2 (0 : Int32) mca_1 mfr) n1 (0 : Int32) mca
theorem dX6_findSums_0 : decode cX6_findSums 0 = .ok (.iconst 0, 1) := by decide +kernel
theorem dX6_findSums_1 : decode cX6_findSums 1 = .ok (.istore_n 1, 1) := by decide +kernel
theorem dX6_findSums_2 : decode cX6_findSums 2 = .ok (.iload_n 1, 1) := by decide +kernel
theorem dX6_findSums_3 : decode cX6_findSums 3 = .ok (.sipush 999, 3) := by decide +kernel
theorem dX6_findSums_6 : decode cX6_findSums 6 = .ok (.if_icmp .gt 24, 3) := by decide +kernel
theorem dX6_findSums_9 : decode cX6_findSums 9 = .ok (.aload_n 0, 1) := by decide +kernel
theorem dX6_findSums_10 : decode cX6_findSums 10 = .ok (.getfield 42, 3) := by decide +kernel
theorem dX6_findSums_13 : decode cX6_findSums 13 = .ok (.iload_n 1, 1) := by decide +kernel
theorem dX6_findSums_14 : decode cX6_findSums 14 = .ok (.iload_n 1, 1) := by decide +kernel
theorem dX6_findSums_15 : decode cX6_findSums 15 = .ok (.ifCond .ne 7, 3) := by decide +kernel
theorem dX6_findSums_18 : decode cX6_findSums 18 = .ok (.iconst 1, 1) := by decide +kernel
theorem dX6_findSums_19 : decode cX6_findSums 19 = .ok (.goto 4, 3) := by decide +kernel
theorem dX6_findSums_22 : decode cX6_findSums 22 = .ok (.iconst 0, 1) := by decide +kernel
theorem dX6_findSums_23 : decode cX6_findSums 23 = .ok (.bastore, 1) := by decide +kernel
theorem dX6_findSums_24 : decode cX6_findSums 24 = .ok (.iinc 1 1, 3) := by decide +kernel
theorem dX6_findSums_27 : decode cX6_findSums 27 = .ok (.goto (-25), 3) := by decide +kernel
theorem dX6_findSums_30 : decode cX6_findSums 30 = .ok (.iconst 0, 1) := by decide +kernel
theorem dX6_findSums_31 : decode cX6_findSums 31 = .ok (.istore_n 1, 1) := by decide +kernel
theorem dX6_findSums_32 : decode cX6_findSums 32 = .ok (.iload_n 1, 1) := by decide +kernel
theorem dX6_findSums_33 : decode cX6_findSums 33 = .ok (.aload_n 0, 1) := by decide +kernel
theorem dX6_findSums_34 : decode cX6_findSums 34 = .ok (.getfield 66, 3) := by decide +kernel
theorem dX6_findSums_37 : decode cX6_findSums 37 = .ok (.if_icmp .ge 148, 3) := by decide +kernel
theorem dX6_findSums_40 : decode cX6_findSums 40 = .ok (.aload_n 0, 1) := by decide +kernel
theorem dX6_findSums_41 : decode cX6_findSums 41 = .ok (.getfield 13, 3) := by decide +kernel
theorem dX6_findSums_44 : decode cX6_findSums 44 = .ok (.iload_n 1, 1) := by decide +kernel
theorem dX6_findSums_45 : decode cX6_findSums 45 = .ok (.baload, 1) := by decide +kernel
theorem dX6_findSums_46 : decode cX6_findSums 46 = .ok (.ifCond .ne 133, 3) := by decide +kernel
theorem dX6_findSums_49 : decode cX6_findSums 49 = .ok (.aload_n 0, 1) := by decide +kernel
theorem dX6_findSums_50 : decode cX6_findSums 50 = .ok (.getfield 26, 3) := by decide +kernel
theorem dX6_findSums_53 : decode cX6_findSums 53 = .ok (.iload_n 1, 1) := by decide +kernel
theorem dX6_findSums_54 : decode cX6_findSums 54 = .ok (.baload, 1) := by decide +kernel
theorem dX6_findSums_55 : decode cX6_findSums 55 = .ok (.ifCond .eq 6, 3) := by decide +kernel
theorem dX6_findSums_58 : decode cX6_findSums 58 = .ok (.goto 121, 3) := by decide +kernel
theorem dX6_findSums_61 : decode cX6_findSums 61 = .ok (.iconst 0, 1) := by decide +kernel
theorem dX6_findSums_62 : decode cX6_findSums 62 = .ok (.istore_n 2, 1) := by decide +kernel
theorem dX6_findSums_63 : decode cX6_findSums 63 = .ok (.iload_n 2, 1) := by decide +kernel
theorem dX6_findSums_64 : decode cX6_findSums 64 = .ok (.sipush 999, 3) := by decide +kernel
theorem dX6_findSums_67 : decode cX6_findSums 67 = .ok (.if_icmp .gt 30, 3) := by decide +kernel
theorem dX6_findSums_70 : decode cX6_findSums 70 = .ok (.aload_n 0, 1) := by decide +kernel
theorem dX6_findSums_71 : decode cX6_findSums 71 = .ok (.getfield 45, 3) := by decide +kernel
theorem dX6_findSums_74 : decode cX6_findSums 74 = .ok (.iload_n 2, 1) := by decide +kernel
theorem dX6_findSums_75 : decode cX6_findSums 75 = .ok (.aload_n 0, 1) := by decide +kernel
theorem dX6_findSums_76 : decode cX6_findSums 76 = .ok (.getfield 42, 3) := by decide +kernel
theorem dX6_findSums_79 : decode cX6_findSums 79 = .ok (.iload_n 2, 1) := by decide +kernel
theorem dX6_findSums_80 : decode cX6_findSums 80 = .ok (.baload, 1) := by decide +kernel
theorem dX6_findSums_81 : decode cX6_findSums 81 = .ok (.ifCond .eq 7, 3) := by decide +kernel
theorem dX6_findSums_84 : decode cX6_findSums 84 = .ok (.iconst 0, 1) := by decide +kernel
theorem dX6_findSums_85 : decode cX6_findSums 85 = .ok (.goto 5, 3) := by decide +kernel
theorem dX6_findSums_88 : decode cX6_findSums 88 = .ok (.ldc 85, 2) := by decide +kernel
theorem dX6_findSums_90 : decode cX6_findSums 90 = .ok (.iastore, 1) := by decide +kernel
theorem dX6_findSums_91 : decode cX6_findSums 91 = .ok (.iinc 2 1, 3) := by decide +kernel
theorem dX6_findSums_94 : decode cX6_findSums 94 = .ok (.goto (-31), 3) := by decide +kernel
theorem dX6_findSums_97 : decode cX6_findSums 97 = .ok (.aload_n 0, 1) := by decide +kernel
theorem dX6_findSums_98 : decode cX6_findSums 98 = .ok (.getfield 7, 3) := by decide +kernel
theorem dX6_findSums_101 : decode cX6_findSums 101 = .ok (.iload_n 1, 1) := by decide +kernel
theorem dX6_findSums_102 : decode cX6_findSums 102 = .ok (.iaload, 1) := by decide +kernel
theorem dX6_findSums_103 : decode cX6_findSums 103 = .ok (.istore_n 2, 1) := by decide +kernel
theorem dX6_findSums_104 : decode cX6_findSums 104 = .ok (.iload_n 2, 1) := by decide +kernel
theorem dX6_findSums_105 : decode cX6_findSums 105 = .ok (.sipush 999, 3) := by decide +kernel
theorem dX6_findSums_108 : decode cX6_findSums 108 = .ok (.if_icmp .gt 71, 3) := by decide +kernel
theorem dX6_findSums_111 : decode cX6_findSums 111 = .ok (.aload_n 0, 1) := by decide +kernel
theorem dX6_findSums_112 : decode cX6_findSums 112 = .ok (.getfield 42, 3) := by decide +kernel
theorem dX6_findSums_115 : decode cX6_findSums 115 = .ok (.iload_n 2, 1) := by decide +kernel
theorem dX6_findSums_116 : decode cX6_findSums 116 = .ok (.baload, 1) := by decide +kernel
theorem dX6_findSums_117 : decode cX6_findSums 117 = .ok (.ifCond .ne 56, 3) := by decide +kernel
theorem dX6_findSums_120 : decode cX6_findSums 120 = .ok (.aload_n 0, 1) := by decide +kernel
theorem dX6_findSums_121 : decode cX6_findSums 121 = .ok (.getfield 45, 3) := by decide +kernel
theorem dX6_findSums_124 : decode cX6_findSums 124 = .ok (.iload_n 2, 1) := by decide +kernel
theorem dX6_findSums_125 : decode cX6_findSums 125 = .ok (.aload_n 0, 1) := by decide +kernel
theorem dX6_findSums_126 : decode cX6_findSums 126 = .ok (.getfield 7, 3) := by decide +kernel
theorem dX6_findSums_129 : decode cX6_findSums 129 = .ok (.iload_n 1, 1) := by decide +kernel
theorem dX6_findSums_130 : decode cX6_findSums 130 = .ok (.iaload, 1) := by decide +kernel
theorem dX6_findSums_131 : decode cX6_findSums 131 = .ok (.isub, 1) := by decide +kernel
theorem dX6_findSums_132 : decode cX6_findSums 132 = .ok (.iaload, 1) := by decide +kernel
theorem dX6_findSums_133 : decode cX6_findSums 133 = .ok (.aload_n 0, 1) := by decide +kernel
theorem dX6_findSums_134 : decode cX6_findSums 134 = .ok (.getfield 20, 3) := by decide +kernel
theorem dX6_findSums_137 : decode cX6_findSums 137 = .ok (.iload_n 1, 1) := by decide +kernel
theorem dX6_findSums_138 : decode cX6_findSums 138 = .ok (.iaload, 1) := by decide +kernel
theorem dX6_findSums_139 : decode cX6_findSums 139 = .ok (.if_icmp .lt 6, 3) := by decide +kernel
theorem dX6_findSums_142 : decode cX6_findSums 142 = .ok (.goto 31, 3) := by decide +kernel
theorem dX6_findSums_145 : decode cX6_findSums 145 = .ok (.aload_n 0, 1) := by decide +kernel
theorem dX6_findSums_146 : decode cX6_findSums 146 = .ok (.getfield 42, 3) := by decide +kernel
theorem dX6_findSums_149 : decode cX6_findSums 149 = .ok (.iload_n 2, 1) := by decide +kernel
theorem dX6_findSums_150 : decode cX6_findSums 150 = .ok (.iconst 1, 1) := by decide +kernel
theorem dX6_findSums_151 : decode cX6_findSums 151 = .ok (.bastore, 1) := by decide +kernel
theorem dX6_findSums_152 : decode cX6_findSums 152 = .ok (.aload_n 0, 1) := by decide +kernel
theorem dX6_findSums_153 : decode cX6_findSums 153 = .ok (.getfield 45, 3) := by decide +kernel
theorem dX6_findSums_156 : decode cX6_findSums 156 = .ok (.iload_n 2, 1) := by decide +kernel
theorem dX6_findSums_157 : decode cX6_findSums 157 = .ok (.aload_n 0, 1) := by decide +kernel
theorem dX6_findSums_158 : decode cX6_findSums 158 = .ok (.getfield 45, 3) := by decide +kernel
theorem dX6_findSums_161 : decode cX6_findSums 161 = .ok (.iload_n 2, 1) := by decide +kernel
theorem dX6_findSums_162 : decode cX6_findSums 162 = .ok (.aload_n 0, 1) := by decide +kernel
theorem dX6_findSums_163 : decode cX6_findSums 163 = .ok (.getfield 7, 3) := by decide +kernel
theorem dX6_findSums_166 : decode cX6_findSums 166 = .ok (.iload_n 1, 1) := by decide +kernel
theorem dX6_findSums_167 : decode cX6_findSums 167 = .ok (.iaload, 1) := by decide +kernel
theorem dX6_findSums_168 : decode cX6_findSums 168 = .ok (.isub, 1) := by decide +kernel
theorem dX6_findSums_169 : decode cX6_findSums 169 = .ok (.iaload, 1) := by decide +kernel
theorem dX6_findSums_170 : decode cX6_findSums 170 = .ok (.iconst 1, 1) := by decide +kernel
theorem dX6_findSums_171 : decode cX6_findSums 171 = .ok (.iadd, 1) := by decide +kernel
theorem dX6_findSums_172 : decode cX6_findSums 172 = .ok (.iastore, 1) := by decide +kernel
theorem dX6_findSums_173 : decode cX6_findSums 173 = .ok (.iinc 2 1, 3) := by decide +kernel
theorem dX6_findSums_176 : decode cX6_findSums 176 = .ok (.goto (-72), 3) := by decide +kernel
theorem dX6_findSums_179 : decode cX6_findSums 179 = .ok (.iinc 1 1, 3) := by decide +kernel
theorem dX6_findSums_182 : decode cX6_findSums 182 = .ok (.goto (-150), 3) := by decide +kernel
theorem dX6_findSums_185 : decode cX6_findSums 185 = .ok (.return_, 1) := by decide +kernel
set_option maxRecDepth 20000 in
set_option maxHeartbeats 4000000 in
theorem wk_X6_findSums_2 {Γ : GT} {a : Nat → Nat} {q : Nat → ClassId}   {mtd : Int32} {mnk : Int32} {mva : Nat → Int32} {mno : Nat → Int32} {mro : Nat → Int32} {mtu : Nat → Int32} {mbx : Nat → Int32} {mst : Nat → Int32} {mja : Nat → Int32} {mpr : Nat → Int32} {mcr : Int32} {mow : Int32} {mhd : Int32} {mmo : Int32} {mbk : Nat → Int32} {mfr : Nat → Int32} {mrs : Int32} {mrk : Nat → Int32} {mfe : Nat → Int32} {mus : Nat → Int32} {mgi : Nat → Int32} {maj : Nat → Int32} {K : (Nat → Int32) → (Nat → Int32) → Prop} {X : (Nat → Int32) → Prop} (g : gd Γ cX6_findSums RX6 3 (rmz 0 0) q) (hret : rtV_2 Γ cX6_findSums 3 (fun (mca : Nat → Int32) (mfr : Nat → Int32) => (mdW a q mtd mnk mva mno mro mtu mbx mst mja mpr mcr mow mhd mmo mbk mca mfr mrs mrk mfe mus mgi maj)) K) (hX : ∀ (mca : Nat → Int32) , X mca → jw Γ 3 0 0 (mdW a q mtd mnk mva mno mro mtu mbx mst mja mpr mcr mow mhd mmo mbk mca mfr mrs mrk mfe mus mgi maj) [(0, .ref (a 0))] [] 30) :
    ∀ (n : Nat) (x1 : Int32) (mca : Nat → Int32) , wp_X6_findSums_2 K X n x1 mca → jw Γ 3 0 0 (mdW a q mtd mnk mva mno mro mtu mbx mst mja mpr mcr mow mhd mmo mbk mca mfr mrs mrk mfe mus mgi maj) [(0, .ref (a 0)), (1, .int x1)] [] 2 := by
  intro n
  induction n with
  | zero =>
    intro _ _ h
    exact False.elim h
  | succ n ih =>
    intro x1 mca h
    unfold wp_X6_findSums_2 at h
    refine j_iload_n g 1 rfl dX6_findSums_2 ?_
    refine j_sipush g (v := 999) (by decide) dX6_findSums_3 ?_
    refine j_icmp_gt g dX6_findSums_6 (tgt := 30) (by decide) (fun c1 => ?_) (fun c1 => ?_)
    · replace h := h.1 c1
      refine j_sub [0] rfl ?_
      exact hX mca h
    replace h := h.2 c1
    refine j_aload_n g 0 rfl dX6_findSums_9 ?_
    refine j_get g fl_X6_42 0 md_0 rfl dX6_findSums_10 ?_
    refine j_iload_n g 1 rfl dX6_findSums_13 ?_
    refine j_iload_n g 1 rfl dX6_findSums_14 ?_
    refine j_if_ne g dX6_findSums_15 (tgt := 22) (by decide) (fun c2 => ?_) (fun c2 => ?_)
    · replace h := h.1 c2
      refine j_iconst g (v := 0) (by decide) dX6_findSums_22 ?_
      obtain ⟨hv3, h⟩ := h
      refine j_zast g 10 md_10 hv3 (nz_v (Or.inl rfl)) (ws' := (mdW a q mtd mnk mva mno mro mtu mbx mst mja mpr mcr mow mhd mmo mbk (upd mca x1.toNatClampNeg (0 : Int32)) mfr mrs mrk mfe mus mgi maj)) rfl dX6_findSums_23 ?_
      refine j_iinc g 1 (n := 1) (v := x1 + 1) (lv' := [(1, .int (x1 + 1)), (0, .ref (a 0))]) rfl rfl (by decide) rfl dX6_findSums_24 ?_
      refine j_goto g dX6_findSums_27 (tgt := 2) (by decide) ?_
      refine j_sub [1, 0] rfl ?_
      exact ih (x1 + 1) (upd mca x1.toNatClampNeg (0 : Int32)) h
    replace h := h.2 c2
    refine j_iconst g (v := 1) (by decide) dX6_findSums_18 ?_
    refine j_goto g dX6_findSums_19 (tgt := 23) (by decide) ?_
    obtain ⟨hv4, h⟩ := h
    refine j_zast g 10 md_10 hv4 (nz_v (Or.inr rfl)) (ws' := (mdW a q mtd mnk mva mno mro mtu mbx mst mja mpr mcr mow mhd mmo mbk (upd mca x1.toNatClampNeg (1 : Int32)) mfr mrs mrk mfe mus mgi maj)) rfl dX6_findSums_23 ?_
    refine j_iinc g 1 (n := 1) (v := x1 + 1) (lv' := [(1, .int (x1 + 1)), (0, .ref (a 0))]) rfl rfl (by decide) rfl dX6_findSums_24 ?_
    refine j_goto g dX6_findSums_27 (tgt := 2) (by decide) ?_
    refine j_sub [1, 0] rfl ?_
    exact ih (x1 + 1) (upd mca x1.toNatClampNeg (1 : Int32)) h
set_option maxRecDepth 20000 in
set_option maxHeartbeats 4000000 in
theorem wk_X6_findSums_63 {Γ : GT} {a : Nat → Nat} {q : Nat → ClassId} {x1 : Int32}  {mtd : Int32} {mnk : Int32} {mva : Nat → Int32} {mno : Nat → Int32} {mro : Nat → Int32} {mtu : Nat → Int32} {mbx : Nat → Int32} {mst : Nat → Int32} {mja : Nat → Int32} {mpr : Nat → Int32} {mcr : Int32} {mow : Int32} {mhd : Int32} {mmo : Int32} {mbk : Nat → Int32} {mca : Nat → Int32} {mrs : Int32} {mrk : Nat → Int32} {mfe : Nat → Int32} {mus : Nat → Int32} {mgi : Nat → Int32} {maj : Nat → Int32} {K : (Nat → Int32) → (Nat → Int32) → Prop} {X : (Nat → Int32) → Prop} (g : gd Γ cX6_findSums RX6 3 (rmz 0 0) q) (hret : rtV_2 Γ cX6_findSums 3 (fun (mca : Nat → Int32) (mfr : Nat → Int32) => (mdW a q mtd mnk mva mno mro mtu mbx mst mja mpr mcr mow mhd mmo mbk mca mfr mrs mrk mfe mus mgi maj)) K) (hX : ∀ (mfr : Nat → Int32) , X mfr → jw Γ 3 0 0 (mdW a q mtd mnk mva mno mro mtu mbx mst mja mpr mcr mow mhd mmo mbk mca mfr mrs mrk mfe mus mgi maj) [(0, .ref (a 0)), (1, .int x1)] [] 97) :
    ∀ (n : Nat) (x2 : Int32) (mfr : Nat → Int32) , wp_X6_findSums_63 x1 mca K X n x2 mfr → jw Γ 3 0 0 (mdW a q mtd mnk mva mno mro mtu mbx mst mja mpr mcr mow mhd mmo mbk mca mfr mrs mrk mfe mus mgi maj) [(0, .ref (a 0)), (1, .int x1), (2, .int x2)] [] 63 := by
  intro n
  induction n with
  | zero =>
    intro _ _ h
    exact False.elim h
  | succ n ih =>
    intro x2 mfr h
    unfold wp_X6_findSums_63 at h
    refine j_iload_n g 2 rfl dX6_findSums_63 ?_
    refine j_sipush g (v := 999) (by decide) dX6_findSums_64 ?_
    refine j_icmp_gt g dX6_findSums_67 (tgt := 97) (by decide) (fun c1 => ?_) (fun c1 => ?_)
    · replace h := h.1 c1
      refine j_sub [0, 1] rfl ?_
      exact hX mfr h
    replace h := h.2 c1
    refine j_aload_n g 0 rfl dX6_findSums_70 ?_
    refine j_get g fl_X6_45 0 md_0 rfl dX6_findSums_71 ?_
    refine j_iload_n g 2 rfl dX6_findSums_74 ?_
    refine j_aload_n g 0 rfl dX6_findSums_75 ?_
    refine j_get g fl_X6_42 0 md_0 rfl dX6_findSums_76 ?_
    refine j_iload_n g 2 rfl dX6_findSums_79 ?_
    obtain ⟨hv2, h⟩ := h
    refine j_zald g 10 md_10 hv2 dX6_findSums_80 ?_
    refine j_if_eq g dX6_findSums_81 (tgt := 88) (by decide) (fun c3 => ?_) (fun c3 => ?_)
    · replace h := h.1 c3
      refine j_ldc g (v := 1000000) ld_X6_85 dX6_findSums_88 ?_
      obtain ⟨hv4, h⟩ := h
      refine j_iast g 11 md_11 hv4 (ws' := (mdW a q mtd mnk mva mno mro mtu mbx mst mja mpr mcr mow mhd mmo mbk mca (upd mfr x2.toNatClampNeg (1000000 : Int32)) mrs mrk mfe mus mgi maj)) rfl dX6_findSums_90 ?_
      refine j_iinc g 2 (n := 1) (v := x2 + 1) (lv' := [(2, .int (x2 + 1)), (0, .ref (a 0)), (1, .int x1)]) rfl rfl (by decide) rfl dX6_findSums_91 ?_
      refine j_goto g dX6_findSums_94 (tgt := 63) (by decide) ?_
      refine j_sub [1, 2, 0] rfl ?_
      exact ih (x2 + 1) (upd mfr x2.toNatClampNeg (1000000 : Int32)) h
    replace h := h.2 c3
    refine j_iconst g (v := 0) (by decide) dX6_findSums_84 ?_
    refine j_goto g dX6_findSums_85 (tgt := 90) (by decide) ?_
    obtain ⟨hv5, h⟩ := h
    refine j_iast g 11 md_11 hv5 (ws' := (mdW a q mtd mnk mva mno mro mtu mbx mst mja mpr mcr mow mhd mmo mbk mca (upd mfr x2.toNatClampNeg (0 : Int32)) mrs mrk mfe mus mgi maj)) rfl dX6_findSums_90 ?_
    refine j_iinc g 2 (n := 1) (v := x2 + 1) (lv' := [(2, .int (x2 + 1)), (0, .ref (a 0)), (1, .int x1)]) rfl rfl (by decide) rfl dX6_findSums_91 ?_
    refine j_goto g dX6_findSums_94 (tgt := 63) (by decide) ?_
    refine j_sub [1, 2, 0] rfl ?_
    exact ih (x2 + 1) (upd mfr x2.toNatClampNeg (0 : Int32)) h
set_option maxRecDepth 20000 in
set_option maxHeartbeats 4000000 in
theorem wk_X6_findSums_104 {Γ : GT} {a : Nat → Nat} {q : Nat → ClassId} {x1 : Int32}  {mtd : Int32} {mnk : Int32} {mva : Nat → Int32} {mno : Nat → Int32} {mro : Nat → Int32} {mtu : Nat → Int32} {mbx : Nat → Int32} {mst : Nat → Int32} {mja : Nat → Int32} {mpr : Nat → Int32} {mcr : Int32} {mow : Int32} {mhd : Int32} {mmo : Int32} {mbk : Nat → Int32} {mrs : Int32} {mrk : Nat → Int32} {mfe : Nat → Int32} {mus : Nat → Int32} {mgi : Nat → Int32} {maj : Nat → Int32} {K : (Nat → Int32) → (Nat → Int32) → Prop} {X : (Nat → Int32) → (Nat → Int32) → Prop} (g : gd Γ cX6_findSums RX6 3 (rmz 0 0) q) (hret : rtV_2 Γ cX6_findSums 3 (fun (mca : Nat → Int32) (mfr : Nat → Int32) => (mdW a q mtd mnk mva mno mro mtu mbx mst mja mpr mcr mow mhd mmo mbk mca mfr mrs mrk mfe mus mgi maj)) K) (hX : ∀ (mca : Nat → Int32) (mfr : Nat → Int32) , X mca mfr → jw Γ 3 0 0 (mdW a q mtd mnk mva mno mro mtu mbx mst mja mpr mcr mow mhd mmo mbk mca mfr mrs mrk mfe mus mgi maj) [(0, .ref (a 0)), (1, .int x1)] [] 179) :
    ∀ (n : Nat) (x2 : Int32) (mca : Nat → Int32) (mfr : Nat → Int32) , wp_X6_findSums_104 x1 mva mtu K X n x2 mca mfr → jw Γ 3 0 0 (mdW a q mtd mnk mva mno mro mtu mbx mst mja mpr mcr mow mhd mmo mbk mca mfr mrs mrk mfe mus mgi maj) [(0, .ref (a 0)), (1, .int x1), (2, .int x2)] [] 104 := by
  intro n
  induction n with
  | zero =>
    intro _ _ _ h
    exact False.elim h
  | succ n ih =>
    intro x2 mca mfr h
    unfold wp_X6_findSums_104 at h
    refine j_iload_n g 2 rfl dX6_findSums_104 ?_
    refine j_sipush g (v := 999) (by decide) dX6_findSums_105 ?_
    refine j_icmp_gt g dX6_findSums_108 (tgt := 179) (by decide) (fun c1 => ?_) (fun c1 => ?_)
    · replace h := h.1 c1
      refine j_sub [0, 1] rfl ?_
      exact hX mca mfr h
    replace h := h.2 c1
    refine j_aload_n g 0 rfl dX6_findSums_111 ?_
    refine j_get g fl_X6_42 0 md_0 rfl dX6_findSums_112 ?_
    refine j_iload_n g 2 rfl dX6_findSums_115 ?_
    obtain ⟨hv2, h⟩ := h
    refine j_zald g 10 md_10 hv2 dX6_findSums_116 ?_
    refine j_if_ne g dX6_findSums_117 (tgt := 173) (by decide) (fun c3 => ?_) (fun c3 => ?_)
    · replace h := h.1 c3
      refine j_iinc g 2 (n := 1) (v := x2 + 1) (lv' := [(2, .int (x2 + 1)), (0, .ref (a 0)), (1, .int x1)]) rfl rfl (by decide) rfl dX6_findSums_173 ?_
      refine j_goto g dX6_findSums_176 (tgt := 104) (by decide) ?_
      refine j_sub [1, 2, 0] rfl ?_
      exact ih (x2 + 1) mca mfr h
    replace h := h.2 c3
    refine j_aload_n g 0 rfl dX6_findSums_120 ?_
    refine j_get g fl_X6_45 0 md_0 rfl dX6_findSums_121 ?_
    refine j_iload_n g 2 rfl dX6_findSums_124 ?_
    refine j_aload_n g 0 rfl dX6_findSums_125 ?_
    refine j_get g fl_X6_7 0 md_0 rfl dX6_findSums_126 ?_
    refine j_iload_n g 1 rfl dX6_findSums_129 ?_
    obtain ⟨hv4, h⟩ := h
    refine j_iald g 1 md_1 hv4 dX6_findSums_130 ?_
    refine j_isub g dX6_findSums_131 ?_
    obtain ⟨hv5, h⟩ := h
    refine j_iald g 11 md_11 hv5 dX6_findSums_132 ?_
    refine j_aload_n g 0 rfl dX6_findSums_133 ?_
    refine j_get g fl_X6_20 0 md_0 rfl dX6_findSums_134 ?_
    refine j_iload_n g 1 rfl dX6_findSums_137 ?_
    obtain ⟨hv6, h⟩ := h
    refine j_iald g 4 md_4 hv6 dX6_findSums_138 ?_
    refine j_icmp_lt g dX6_findSums_139 (tgt := 145) (by decide) (fun c7 => ?_) (fun c7 => ?_)
    rotate_left
    · replace h := h.2 c7
      refine j_goto g dX6_findSums_142 (tgt := 173) (by decide) ?_
      refine j_iinc g 2 (n := 1) (v := x2 + 1) (lv' := [(2, .int (x2 + 1)), (0, .ref (a 0)), (1, .int x1)]) rfl rfl (by decide) rfl dX6_findSums_173 ?_
      refine j_goto g dX6_findSums_176 (tgt := 104) (by decide) ?_
      refine j_sub [1, 2, 0] rfl ?_
      exact ih (x2 + 1) mca mfr h
    replace h := h.1 c7
    refine j_aload_n g 0 rfl dX6_findSums_145 ?_
    refine j_get g fl_X6_42 0 md_0 rfl dX6_findSums_146 ?_
    refine j_iload_n g 2 rfl dX6_findSums_149 ?_
    refine j_iconst g (v := 1) (by decide) dX6_findSums_150 ?_
    obtain ⟨hv8, h⟩ := h
    refine j_zast g 10 md_10 hv8 (nz_v (Or.inr rfl)) (ws' := (mdW a q mtd mnk mva mno mro mtu mbx mst mja mpr mcr mow mhd mmo mbk (upd mca x2.toNatClampNeg (1 : Int32)) mfr mrs mrk mfe mus mgi maj)) rfl dX6_findSums_151 ?_
    refine j_aload_n g 0 rfl dX6_findSums_152 ?_
    refine j_get g fl_X6_45 0 md_0 rfl dX6_findSums_153 ?_
    refine j_iload_n g 2 rfl dX6_findSums_156 ?_
    refine j_aload_n g 0 rfl dX6_findSums_157 ?_
    refine j_get g fl_X6_45 0 md_0 rfl dX6_findSums_158 ?_
    refine j_iload_n g 2 rfl dX6_findSums_161 ?_
    refine j_aload_n g 0 rfl dX6_findSums_162 ?_
    refine j_get g fl_X6_7 0 md_0 rfl dX6_findSums_163 ?_
    refine j_iload_n g 1 rfl dX6_findSums_166 ?_
    obtain ⟨hv9, h⟩ := h
    refine j_iald g 1 md_1 hv9 dX6_findSums_167 ?_
    refine j_isub g dX6_findSums_168 ?_
    obtain ⟨hv10, h⟩ := h
    refine j_iald g 11 md_11 hv10 dX6_findSums_169 ?_
    refine j_iconst g (v := 1) (by decide) dX6_findSums_170 ?_
    refine j_iadd g dX6_findSums_171 ?_
    obtain ⟨hv11, h⟩ := h
    refine j_iast g 11 md_11 hv11 (ws' := (mdW a q mtd mnk mva mno mro mtu mbx mst mja mpr mcr mow mhd mmo mbk (upd mca x2.toNatClampNeg (1 : Int32)) (upd mfr x2.toNatClampNeg ((mfr (x2 - (mva x1.toNatClampNeg)).toNatClampNeg) + (1 : Int32))) mrs mrk mfe mus mgi maj)) rfl dX6_findSums_172 ?_
    refine j_iinc g 2 (n := 1) (v := x2 + 1) (lv' := [(2, .int (x2 + 1)), (0, .ref (a 0)), (1, .int x1)]) rfl rfl (by decide) rfl dX6_findSums_173 ?_
    refine j_goto g dX6_findSums_176 (tgt := 104) (by decide) ?_
    refine j_sub [1, 2, 0] rfl ?_
    exact ih (x2 + 1) (upd mca x2.toNatClampNeg (1 : Int32)) (upd mfr x2.toNatClampNeg ((mfr (x2 - (mva x1.toNatClampNeg)).toNatClampNeg) + (1 : Int32))) h
set_option maxRecDepth 20000 in
set_option maxHeartbeats 4000000 in
theorem wk_X6_findSums_32 {Γ : GT} {a : Nat → Nat} {q : Nat → ClassId}   {mtd : Int32} {mnk : Int32} {mva : Nat → Int32} {mno : Nat → Int32} {mro : Nat → Int32} {mtu : Nat → Int32} {mbx : Nat → Int32} {mst : Nat → Int32} {mja : Nat → Int32} {mpr : Nat → Int32} {mcr : Int32} {mow : Int32} {mhd : Int32} {mmo : Int32} {mbk : Nat → Int32} {mrs : Int32} {mrk : Nat → Int32} {mfe : Nat → Int32} {mus : Nat → Int32} {mgi : Nat → Int32} {maj : Nat → Int32} {K : (Nat → Int32) → (Nat → Int32) → Prop} {X : (Nat → Int32) → (Nat → Int32) → Prop} (g : gd Γ cX6_findSums RX6 3 (rmz 0 0) q) (hret : rtV_2 Γ cX6_findSums 3 (fun (mca : Nat → Int32) (mfr : Nat → Int32) => (mdW a q mtd mnk mva mno mro mtu mbx mst mja mpr mcr mow mhd mmo mbk mca mfr mrs mrk mfe mus mgi maj)) K) (hX : ∀ (mca : Nat → Int32) (mfr : Nat → Int32) , X mca mfr → jw Γ 3 0 0 (mdW a q mtd mnk mva mno mro mtu mbx mst mja mpr mcr mow mhd mmo mbk mca mfr mrs mrk mfe mus mgi maj) [] [] 185) :
    ∀ (n : Nat) (x1 : Int32) (mca : Nat → Int32) (mfr : Nat → Int32) , wp_X6_findSums_32 mnk mva mno mtu mst K X n x1 mca mfr → jw Γ 3 0 0 (mdW a q mtd mnk mva mno mro mtu mbx mst mja mpr mcr mow mhd mmo mbk mca mfr mrs mrk mfe mus mgi maj) [(0, .ref (a 0)), (1, .int x1)] [] 32 := by
  intro n
  induction n with
  | zero =>
    intro _ _ _ h
    exact False.elim h
  | succ n ih =>
    intro x1 mca mfr h
    unfold wp_X6_findSums_32 at h
    refine j_iload_n g 1 rfl dX6_findSums_32 ?_
    refine j_aload_n g 0 rfl dX6_findSums_33 ?_
    refine j_get g fl_X6_66 0 md_0 rfl dX6_findSums_34 ?_
    refine j_icmp_ge g dX6_findSums_37 (tgt := 185) (by decide) (fun c1 => ?_) (fun c1 => ?_)
    · replace h := h.1 c1
      refine j_sub [] rfl ?_
      exact hX mca mfr h
    replace h := h.2 c1
    refine j_aload_n g 0 rfl dX6_findSums_40 ?_
    refine j_get g fl_X6_13 0 md_0 rfl dX6_findSums_41 ?_
    refine j_iload_n g 1 rfl dX6_findSums_44 ?_
    obtain ⟨hv2, h⟩ := h
    refine j_zald g 2 md_2 hv2 dX6_findSums_45 ?_
    refine j_if_ne g dX6_findSums_46 (tgt := 179) (by decide) (fun c3 => ?_) (fun c3 => ?_)
    · replace h := h.1 c3
      refine j_iinc g 1 (n := 1) (v := x1 + 1) (lv' := [(1, .int (x1 + 1)), (0, .ref (a 0))]) rfl rfl (by decide) rfl dX6_findSums_179 ?_
      refine j_goto g dX6_findSums_182 (tgt := 32) (by decide) ?_
      refine j_sub [1, 0] rfl ?_
      exact ih (x1 + 1) mca mfr h
    replace h := h.2 c3
    refine j_aload_n g 0 rfl dX6_findSums_49 ?_
    refine j_get g fl_X6_26 0 md_0 rfl dX6_findSums_50 ?_
    refine j_iload_n g 1 rfl dX6_findSums_53 ?_
    obtain ⟨hv4, h⟩ := h
    refine j_zald g 6 md_6 hv4 dX6_findSums_54 ?_
    refine j_if_eq g dX6_findSums_55 (tgt := 61) (by decide) (fun c5 => ?_) (fun c5 => ?_)
    rotate_left
    · replace h := h.2 c5
      refine j_goto g dX6_findSums_58 (tgt := 179) (by decide) ?_
      refine j_iinc g 1 (n := 1) (v := x1 + 1) (lv' := [(1, .int (x1 + 1)), (0, .ref (a 0))]) rfl rfl (by decide) rfl dX6_findSums_179 ?_
      refine j_goto g dX6_findSums_182 (tgt := 32) (by decide) ?_
      refine j_sub [1, 0] rfl ?_
      exact ih (x1 + 1) mca mfr h
    replace h := h.1 c5
    refine j_iconst g (v := 0) (by decide) dX6_findSums_61 ?_
    refine j_istore_n g (lv' := [(2, .int (0 : Int32)), (0, .ref (a 0)), (1, .int x1)]) (by decide) rfl dX6_findSums_62 ?_
    obtain ⟨n6, h⟩ := h
    refine j_sub [1, 2, 0] rfl ?_
    refine wk_X6_findSums_63  g hret (fun mfr_6 h => ?_) n6 (0 : Int32) mfr h
    refine j_aload_n g 0 rfl dX6_findSums_97 ?_
    refine j_get g fl_X6_7 0 md_0 rfl dX6_findSums_98 ?_
    refine j_iload_n g 1 rfl dX6_findSums_101 ?_
    obtain ⟨hv7, h⟩ := h
    refine j_iald g 1 md_1 hv7 dX6_findSums_102 ?_
    refine j_istore_n g (lv' := [(2, .int (mva x1.toNatClampNeg)), (0, .ref (a 0)), (1, .int x1)]) (by decide) rfl dX6_findSums_103 ?_
    obtain ⟨n8, h⟩ := h
    refine j_sub [1, 2, 0] rfl ?_
    refine wk_X6_findSums_104  g hret (fun mca_8 mfr_8 h => ?_) n8 (mva x1.toNatClampNeg) mca mfr_6 h
    refine j_iinc g 1 (n := 1) (v := x1 + 1) (lv' := [(1, .int (x1 + 1)), (0, .ref (a 0))]) rfl rfl (by decide) rfl dX6_findSums_179 ?_
    refine j_goto g dX6_findSums_182 (tgt := 32) (by decide) ?_
    refine j_sub [1, 0] rfl ?_
    exact ih (x1 + 1) mca_8 mfr_8 h
set_option maxRecDepth 20000 in
set_option maxHeartbeats 4000000 in
theorem c_X6_findSums {a : Nat → Nat} {q : Nat → ClassId}   {mtd : Int32} {mnk : Int32} {mva : Nat → Int32} {mno : Nat → Int32} {mro : Nat → Int32} {mtu : Nat → Int32} {mbx : Nat → Int32} {mst : Nat → Int32} {mja : Nat → Int32} {mpr : Nat → Int32} {mcr : Int32} {mow : Int32} {mhd : Int32} {mmo : Int32} {mbk : Nat → Int32} {mca : Nat → Int32} {mfr : Nat → Int32} {mrs : Int32} {mrk : Nat → Int32} {mfe : Nat → Int32} {mus : Nat → Int32} {mgi : Nat → Int32} {maj : Nat → Int32} {K : (Nat → Int32) → (Nat → Int32) → Prop} (h : wp_X6_findSums mnk mva mno mtu mst mca mfr K) : ctV_2 q yX6_findSums cX6_findSums 3 0 0 [.ref (a 0)] (mdW a q mtd mnk mva mno mro mtu mbx mst mja mpr mcr mow mhd mmo mbk mca mfr mrs mrk mfe mus mgi maj) (fun (mca : Nat → Int32) (mfr : Nat → Int32) => (mdW a q mtd mnk mva mno mro mtu mbx mst mja mpr mcr mow mhd mmo mbk mca mfr mrs mrk mfe mus mgi maj)) K := by
  refine met_V_2 (by decide) (Nat.le_of_ble_eq_true rfl) (fun Γ g hret => ?_)
  unfold wp_X6_findSums at h
  show jw Γ 3 0 0 (mdW a q mtd mnk mva mno mro mtu mbx mst mja mpr mcr mow mhd mmo mbk mca mfr mrs mrk mfe mus mgi maj) [(0, .ref (a 0))] [] 0
  refine j_iconst g (v := 0) (by decide) dX6_findSums_0 ?_
  refine j_istore_n g (lv' := [(1, .int (0 : Int32)), (0, .ref (a 0))]) (by decide) rfl dX6_findSums_1 ?_
  obtain ⟨n1, h⟩ := h
  refine j_sub [1, 0] rfl ?_
  refine wk_X6_findSums_2  g hret (fun mca_1 h => ?_) n1 (0 : Int32) mca h
  refine j_iconst g (v := 0) (by decide) dX6_findSums_30 ?_
  refine j_istore_n g (lv' := [(1, .int (0 : Int32)), (0, .ref (a 0))]) (by decide) rfl dX6_findSums_31 ?_
  obtain ⟨n2, h⟩ := h
  refine j_sub [1, 0] rfl ?_
  refine wk_X6_findSums_32  g hret (fun mca_2 mfr_2 h => ?_) n2 (0 : Int32) mca_1 mfr h
  exact hret.go dX6_findSums_185 h

set_option maxRecDepth 20000 in
def wp_X6_rank_32 (x1 : Int32) (mva : Nat → Int32) (K : Int32 → (Nat → Int32) → Prop) (X : Int32 → (Nat → Int32) → Prop) : Nat → Int32 → (Nat → Int32) → Prop
  | 0, _, _ => False
  | n + 1, x2, mrk => ((x2 ≤ 0 → X x2 mrk) ∧ (¬ x2 ≤ 0 → (vp_in (x2 - (1 : Int32)) 6 ∧ (vp_in (mrk (x2 - (1 : Int32)).toNatClampNeg) 6 ∧ (vp_in x1 6 ∧ ((mva x1.toNatClampNeg ≤ mva (mrk (x2 - (1 : Int32)).toNatClampNeg).toNatClampNeg → X x2 mrk) ∧ (¬ mva x1.toNatClampNeg ≤ mva (mrk (x2 - (1 : Int32)).toNatClampNeg).toNatClampNeg → (vp_in (x2 - (1 : Int32)) 6 ∧ (vp_in x2 6 ∧ wp_X6_rank_32 x1 mva K X n (x2 - (1 : Int32)) (upd mrk x2.toNatClampNeg (mrk (x2 - (1 : Int32)).toNatClampNeg)))))))))))
set_option maxRecDepth 20000 in
def wp_X6_rank_7  (mnk : Int32) (mva : Nat → Int32) (mno : Nat → Int32) (K : Int32 → (Nat → Int32) → Prop) (X : Int32 → (Nat → Int32) → Prop) : Nat → Int32 → Int32 → (Nat → Int32) → Prop
  | 0, _, _, _ => False
  | n + 1, x1, mrs, mrk => ((mnk ≤ x1 → X mrs mrk) ∧ (¬ mnk ≤ x1 → (vp_in x1 6 ∧ ((mno x1.toNatClampNeg = 0 → ∃ n4 : Nat, wp_X6_rank_32 x1 mva K (fun (x2_4 : Int32) (mrk_4 : Nat → Int32) => (vp_in x2_4 6 ∧ wp_X6_rank_7 mnk mva mno K X n (x1 + 1) (mrs + (1 : Int32)) (upd mrk_4 x2_4.toNatClampNeg x1))) n4 mrs mrk) ∧ (¬ mno x1.toNatClampNeg = 0 → wp_X6_rank_7 mnk mva mno K X n (x1 + 1) mrs mrk)))))
set_option maxRecDepth 20000 in
def wp_X6_rank  (mnk : Int32) (mva : Nat → Int32) (mno : Nat → Int32) (mrs : Int32) (mrk : Nat → Int32) (K : Int32 → (Nat → Int32) → Prop) : Prop :=
  ∃ n1 : Nat, wp_X6_rank_7 mnk mva mno K (fun (mrs_1 : Int32) (mrk_1 : Nat → Int32) => K mrs_1 mrk_1) n1 (0 : Int32) (0 : Int32) mrk
theorem dX6_rank_0 : decode cX6_rank 0 = .ok (.aload_n 0, 1) := by decide +kernel
theorem dX6_rank_1 : decode cX6_rank 1 = .ok (.iconst 0, 1) := by decide +kernel
theorem dX6_rank_2 : decode cX6_rank 2 = .ok (.putfield 86, 3) := by decide +kernel
theorem dX6_rank_5 : decode cX6_rank 5 = .ok (.iconst 0, 1) := by decide +kernel
theorem dX6_rank_6 : decode cX6_rank 6 = .ok (.istore_n 1, 1) := by decide +kernel
theorem dX6_rank_7 : decode cX6_rank 7 = .ok (.iload_n 1, 1) := by decide +kernel
theorem dX6_rank_8 : decode cX6_rank 8 = .ok (.aload_n 0, 1) := by decide +kernel
theorem dX6_rank_9 : decode cX6_rank 9 = .ok (.getfield 66, 3) := by decide +kernel
theorem dX6_rank_12 : decode cX6_rank 12 = .ok (.if_icmp .ge 90, 3) := by decide +kernel
theorem dX6_rank_15 : decode cX6_rank 15 = .ok (.aload_n 0, 1) := by decide +kernel
theorem dX6_rank_16 : decode cX6_rank 16 = .ok (.getfield 13, 3) := by decide +kernel
theorem dX6_rank_19 : decode cX6_rank 19 = .ok (.iload_n 1, 1) := by decide +kernel
theorem dX6_rank_20 : decode cX6_rank 20 = .ok (.baload, 1) := by decide +kernel
theorem dX6_rank_21 : decode cX6_rank 21 = .ok (.ifCond .eq 6, 3) := by decide +kernel
theorem dX6_rank_24 : decode cX6_rank 24 = .ok (.goto 72, 3) := by decide +kernel
theorem dX6_rank_27 : decode cX6_rank 27 = .ok (.aload_n 0, 1) := by decide +kernel
theorem dX6_rank_28 : decode cX6_rank 28 = .ok (.getfield 86, 3) := by decide +kernel
theorem dX6_rank_31 : decode cX6_rank 31 = .ok (.istore_n 2, 1) := by decide +kernel
theorem dX6_rank_32 : decode cX6_rank 32 = .ok (.iload_n 2, 1) := by decide +kernel
theorem dX6_rank_33 : decode cX6_rank 33 = .ok (.ifCond .le 46, 3) := by decide +kernel
theorem dX6_rank_36 : decode cX6_rank 36 = .ok (.aload_n 0, 1) := by decide +kernel
theorem dX6_rank_37 : decode cX6_rank 37 = .ok (.getfield 7, 3) := by decide +kernel
theorem dX6_rank_40 : decode cX6_rank 40 = .ok (.aload_n 0, 1) := by decide +kernel
theorem dX6_rank_41 : decode cX6_rank 41 = .ok (.getfield 48, 3) := by decide +kernel
theorem dX6_rank_44 : decode cX6_rank 44 = .ok (.iload_n 2, 1) := by decide +kernel
theorem dX6_rank_45 : decode cX6_rank 45 = .ok (.iconst 1, 1) := by decide +kernel
theorem dX6_rank_46 : decode cX6_rank 46 = .ok (.isub, 1) := by decide +kernel
theorem dX6_rank_47 : decode cX6_rank 47 = .ok (.iaload, 1) := by decide +kernel
theorem dX6_rank_48 : decode cX6_rank 48 = .ok (.iaload, 1) := by decide +kernel
theorem dX6_rank_49 : decode cX6_rank 49 = .ok (.aload_n 0, 1) := by decide +kernel
theorem dX6_rank_50 : decode cX6_rank 50 = .ok (.getfield 7, 3) := by decide +kernel
theorem dX6_rank_53 : decode cX6_rank 53 = .ok (.iload_n 1, 1) := by decide +kernel
theorem dX6_rank_54 : decode cX6_rank 54 = .ok (.iaload, 1) := by decide +kernel
theorem dX6_rank_55 : decode cX6_rank 55 = .ok (.if_icmp .ge 24, 3) := by decide +kernel
theorem dX6_rank_58 : decode cX6_rank 58 = .ok (.aload_n 0, 1) := by decide +kernel
theorem dX6_rank_59 : decode cX6_rank 59 = .ok (.getfield 48, 3) := by decide +kernel
theorem dX6_rank_62 : decode cX6_rank 62 = .ok (.iload_n 2, 1) := by decide +kernel
theorem dX6_rank_63 : decode cX6_rank 63 = .ok (.aload_n 0, 1) := by decide +kernel
theorem dX6_rank_64 : decode cX6_rank 64 = .ok (.getfield 48, 3) := by decide +kernel
theorem dX6_rank_67 : decode cX6_rank 67 = .ok (.iload_n 2, 1) := by decide +kernel
theorem dX6_rank_68 : decode cX6_rank 68 = .ok (.iconst 1, 1) := by decide +kernel
theorem dX6_rank_69 : decode cX6_rank 69 = .ok (.isub, 1) := by decide +kernel
theorem dX6_rank_70 : decode cX6_rank 70 = .ok (.iaload, 1) := by decide +kernel
theorem dX6_rank_71 : decode cX6_rank 71 = .ok (.iastore, 1) := by decide +kernel
theorem dX6_rank_72 : decode cX6_rank 72 = .ok (.iload_n 2, 1) := by decide +kernel
theorem dX6_rank_73 : decode cX6_rank 73 = .ok (.iconst 1, 1) := by decide +kernel
theorem dX6_rank_74 : decode cX6_rank 74 = .ok (.isub, 1) := by decide +kernel
theorem dX6_rank_75 : decode cX6_rank 75 = .ok (.istore_n 2, 1) := by decide +kernel
theorem dX6_rank_76 : decode cX6_rank 76 = .ok (.goto (-44), 3) := by decide +kernel
theorem dX6_rank_79 : decode cX6_rank 79 = .ok (.aload_n 0, 1) := by decide +kernel
theorem dX6_rank_80 : decode cX6_rank 80 = .ok (.getfield 48, 3) := by decide +kernel
theorem dX6_rank_83 : decode cX6_rank 83 = .ok (.iload_n 2, 1) := by decide +kernel
theorem dX6_rank_84 : decode cX6_rank 84 = .ok (.iload_n 1, 1) := by decide +kernel
theorem dX6_rank_85 : decode cX6_rank 85 = .ok (.iastore, 1) := by decide +kernel
theorem dX6_rank_86 : decode cX6_rank 86 = .ok (.aload_n 0, 1) := by decide +kernel
theorem dX6_rank_87 : decode cX6_rank 87 = .ok (.aload_n 0, 1) := by decide +kernel
theorem dX6_rank_88 : decode cX6_rank 88 = .ok (.getfield 86, 3) := by decide +kernel
theorem dX6_rank_91 : decode cX6_rank 91 = .ok (.iconst 1, 1) := by decide +kernel
theorem dX6_rank_92 : decode cX6_rank 92 = .ok (.iadd, 1) := by decide +kernel
theorem dX6_rank_93 : decode cX6_rank 93 = .ok (.putfield 86, 3) := by decide +kernel
theorem dX6_rank_96 : decode cX6_rank 96 = .ok (.iinc 1 1, 3) := by decide +kernel
theorem dX6_rank_99 : decode cX6_rank 99 = .ok (.goto (-92), 3) := by decide +kernel
theorem dX6_rank_102 : decode cX6_rank 102 = .ok (.return_, 1) := by decide +kernel
set_option maxRecDepth 20000 in
set_option maxHeartbeats 4000000 in
theorem wk_X6_rank_32 {Γ : GT} {a : Nat → Nat} {q : Nat → ClassId} {x1 : Int32}  {mtd : Int32} {mnk : Int32} {mva : Nat → Int32} {mno : Nat → Int32} {mro : Nat → Int32} {mtu : Nat → Int32} {mbx : Nat → Int32} {mst : Nat → Int32} {mja : Nat → Int32} {mpr : Nat → Int32} {mcr : Int32} {mow : Int32} {mhd : Int32} {mmo : Int32} {mbk : Nat → Int32} {mca : Nat → Int32} {mfr : Nat → Int32} {mrs : Int32} {mfe : Nat → Int32} {mus : Nat → Int32} {mgi : Nat → Int32} {maj : Nat → Int32} {K : Int32 → (Nat → Int32) → Prop} {X : Int32 → (Nat → Int32) → Prop} (g : gd Γ cX6_rank RX6 3 (rmz 0 0) q) (hret : rtV_2 Γ cX6_rank 3 (fun (mrs : Int32) (mrk : Nat → Int32) => (mdW a q mtd mnk mva mno mro mtu mbx mst mja mpr mcr mow mhd mmo mbk mca mfr mrs mrk mfe mus mgi maj)) K) (hX : ∀ (x2 : Int32) (mrk : Nat → Int32) , X x2 mrk → jw Γ 3 0 0 (mdW a q mtd mnk mva mno mro mtu mbx mst mja mpr mcr mow mhd mmo mbk mca mfr mrs mrk mfe mus mgi maj) [(0, .ref (a 0)), (1, .int x1), (2, .int x2)] [] 79) :
    ∀ (n : Nat) (x2 : Int32) (mrk : Nat → Int32) , wp_X6_rank_32 x1 mva K X n x2 mrk → jw Γ 3 0 0 (mdW a q mtd mnk mva mno mro mtu mbx mst mja mpr mcr mow mhd mmo mbk mca mfr mrs mrk mfe mus mgi maj) [(0, .ref (a 0)), (1, .int x1), (2, .int x2)] [] 32 := by
  intro n
  induction n with
  | zero =>
    intro _ _ h
    exact False.elim h
  | succ n ih =>
    intro x2 mrk h
    unfold wp_X6_rank_32 at h
    refine j_iload_n g 2 rfl dX6_rank_32 ?_
    refine j_if_le g dX6_rank_33 (tgt := 79) (by decide) (fun c1 => ?_) (fun c1 => ?_)
    · replace h := h.1 c1
      exact hX x2 mrk h
    replace h := h.2 c1
    refine j_aload_n g 0 rfl dX6_rank_36 ?_
    refine j_get g fl_X6_7 0 md_0 rfl dX6_rank_37 ?_
    refine j_aload_n g 0 rfl dX6_rank_40 ?_
    refine j_get g fl_X6_48 0 md_0 rfl dX6_rank_41 ?_
    refine j_iload_n g 2 rfl dX6_rank_44 ?_
    refine j_iconst g (v := 1) (by decide) dX6_rank_45 ?_
    refine j_isub g dX6_rank_46 ?_
    obtain ⟨hv2, h⟩ := h
    refine j_iald g 12 md_12 hv2 dX6_rank_47 ?_
    obtain ⟨hv3, h⟩ := h
    refine j_iald g 1 md_1 hv3 dX6_rank_48 ?_
    refine j_aload_n g 0 rfl dX6_rank_49 ?_
    refine j_get g fl_X6_7 0 md_0 rfl dX6_rank_50 ?_
    refine j_iload_n g 1 rfl dX6_rank_53 ?_
    obtain ⟨hv4, h⟩ := h
    refine j_iald g 1 md_1 hv4 dX6_rank_54 ?_
    refine j_icmp_ge g dX6_rank_55 (tgt := 79) (by decide) (fun c5 => ?_) (fun c5 => ?_)
    · replace h := h.1 c5
      exact hX x2 mrk h
    replace h := h.2 c5
    refine j_aload_n g 0 rfl dX6_rank_58 ?_
    refine j_get g fl_X6_48 0 md_0 rfl dX6_rank_59 ?_
    refine j_iload_n g 2 rfl dX6_rank_62 ?_
    refine j_aload_n g 0 rfl dX6_rank_63 ?_
    refine j_get g fl_X6_48 0 md_0 rfl dX6_rank_64 ?_
    refine j_iload_n g 2 rfl dX6_rank_67 ?_
    refine j_iconst g (v := 1) (by decide) dX6_rank_68 ?_
    refine j_isub g dX6_rank_69 ?_
    obtain ⟨hv6, h⟩ := h
    refine j_iald g 12 md_12 hv6 dX6_rank_70 ?_
    obtain ⟨hv7, h⟩ := h
    refine j_iast g 12 md_12 hv7 (ws' := (mdW a q mtd mnk mva mno mro mtu mbx mst mja mpr mcr mow mhd mmo mbk mca mfr mrs (upd mrk x2.toNatClampNeg (mrk (x2 - (1 : Int32)).toNatClampNeg)) mfe mus mgi maj)) rfl dX6_rank_71 ?_
    refine j_iload_n g 2 rfl dX6_rank_72 ?_
    refine j_iconst g (v := 1) (by decide) dX6_rank_73 ?_
    refine j_isub g dX6_rank_74 ?_
    refine j_istore_n g (lv' := [(2, .int (x2 - (1 : Int32))), (0, .ref (a 0)), (1, .int x1)]) (by decide) rfl dX6_rank_75 ?_
    refine j_goto g dX6_rank_76 (tgt := 32) (by decide) ?_
    refine j_sub [1, 2, 0] rfl ?_
    exact ih (x2 - (1 : Int32)) (upd mrk x2.toNatClampNeg (mrk (x2 - (1 : Int32)).toNatClampNeg)) h
set_option maxRecDepth 20000 in
set_option maxHeartbeats 4000000 in
theorem wk_X6_rank_7 {Γ : GT} {a : Nat → Nat} {q : Nat → ClassId}   {mtd : Int32} {mnk : Int32} {mva : Nat → Int32} {mno : Nat → Int32} {mro : Nat → Int32} {mtu : Nat → Int32} {mbx : Nat → Int32} {mst : Nat → Int32} {mja : Nat → Int32} {mpr : Nat → Int32} {mcr : Int32} {mow : Int32} {mhd : Int32} {mmo : Int32} {mbk : Nat → Int32} {mca : Nat → Int32} {mfr : Nat → Int32} {mfe : Nat → Int32} {mus : Nat → Int32} {mgi : Nat → Int32} {maj : Nat → Int32} {K : Int32 → (Nat → Int32) → Prop} {X : Int32 → (Nat → Int32) → Prop} (g : gd Γ cX6_rank RX6 3 (rmz 0 0) q) (hret : rtV_2 Γ cX6_rank 3 (fun (mrs : Int32) (mrk : Nat → Int32) => (mdW a q mtd mnk mva mno mro mtu mbx mst mja mpr mcr mow mhd mmo mbk mca mfr mrs mrk mfe mus mgi maj)) K) (hX : ∀ (mrs : Int32) (mrk : Nat → Int32) , X mrs mrk → jw Γ 3 0 0 (mdW a q mtd mnk mva mno mro mtu mbx mst mja mpr mcr mow mhd mmo mbk mca mfr mrs mrk mfe mus mgi maj) [] [] 102) :
    ∀ (n : Nat) (x1 : Int32) (mrs : Int32) (mrk : Nat → Int32) , wp_X6_rank_7 mnk mva mno K X n x1 mrs mrk → jw Γ 3 0 0 (mdW a q mtd mnk mva mno mro mtu mbx mst mja mpr mcr mow mhd mmo mbk mca mfr mrs mrk mfe mus mgi maj) [(0, .ref (a 0)), (1, .int x1)] [] 7 := by
  intro n
  induction n with
  | zero =>
    intro _ _ _ h
    exact False.elim h
  | succ n ih =>
    intro x1 mrs mrk h
    unfold wp_X6_rank_7 at h
    refine j_iload_n g 1 rfl dX6_rank_7 ?_
    refine j_aload_n g 0 rfl dX6_rank_8 ?_
    refine j_get g fl_X6_66 0 md_0 rfl dX6_rank_9 ?_
    refine j_icmp_ge g dX6_rank_12 (tgt := 102) (by decide) (fun c1 => ?_) (fun c1 => ?_)
    · replace h := h.1 c1
      refine j_sub [] rfl ?_
      exact hX mrs mrk h
    replace h := h.2 c1
    refine j_aload_n g 0 rfl dX6_rank_15 ?_
    refine j_get g fl_X6_13 0 md_0 rfl dX6_rank_16 ?_
    refine j_iload_n g 1 rfl dX6_rank_19 ?_
    obtain ⟨hv2, h⟩ := h
    refine j_zald g 2 md_2 hv2 dX6_rank_20 ?_
    refine j_if_eq g dX6_rank_21 (tgt := 27) (by decide) (fun c3 => ?_) (fun c3 => ?_)
    rotate_left
    · replace h := h.2 c3
      refine j_goto g dX6_rank_24 (tgt := 96) (by decide) ?_
      refine j_iinc g 1 (n := 1) (v := x1 + 1) (lv' := [(1, .int (x1 + 1)), (0, .ref (a 0))]) rfl rfl (by decide) rfl dX6_rank_96 ?_
      refine j_goto g dX6_rank_99 (tgt := 7) (by decide) ?_
      refine j_sub [1, 0] rfl ?_
      exact ih (x1 + 1) mrs mrk h
    replace h := h.1 c3
    refine j_aload_n g 0 rfl dX6_rank_27 ?_
    refine j_get g fl_X6_86 0 md_0 rfl dX6_rank_28 ?_
    refine j_istore_n g (lv' := [(2, .int mrs), (0, .ref (a 0)), (1, .int x1)]) (by decide) rfl dX6_rank_31 ?_
    obtain ⟨n4, h⟩ := h
    refine j_sub [1, 2, 0] rfl ?_
    refine wk_X6_rank_32  g hret (fun x2_4 mrk_4 h => ?_) n4 mrs mrk h
    refine j_aload_n g 0 rfl dX6_rank_79 ?_
    refine j_get g fl_X6_48 0 md_0 rfl dX6_rank_80 ?_
    refine j_iload_n g 2 rfl dX6_rank_83 ?_
    refine j_iload_n g 1 rfl dX6_rank_84 ?_
    obtain ⟨hv5, h⟩ := h
    refine j_iast g 12 md_12 hv5 (ws' := (mdW a q mtd mnk mva mno mro mtu mbx mst mja mpr mcr mow mhd mmo mbk mca mfr mrs (upd mrk_4 x2_4.toNatClampNeg x1) mfe mus mgi maj)) rfl dX6_rank_85 ?_
    refine j_aload_n g 0 rfl dX6_rank_86 ?_
    refine j_aload_n g 0 rfl dX6_rank_87 ?_
    refine j_get g fl_X6_86 0 md_0 rfl dX6_rank_88 ?_
    refine j_iconst g (v := 1) (by decide) dX6_rank_91 ?_
    refine j_iadd g dX6_rank_92 ?_
    refine j_put g fl_X6_86 fp_X6_17 0 md_0 rfl rfl (Nat.le_of_ble_eq_true rfl) (ws' := (mdW a q mtd mnk mva mno mro mtu mbx mst mja mpr mcr mow mhd mmo mbk mca mfr (mrs + (1 : Int32)) (upd mrk_4 x2_4.toNatClampNeg x1) mfe mus mgi maj)) rfl dX6_rank_93 ?_
    refine j_iinc g 1 (n := 1) (v := x1 + 1) (lv' := [(1, .int (x1 + 1)), (0, .ref (a 0)), (2, .int x2_4)]) rfl rfl (by decide) rfl dX6_rank_96 ?_
    refine j_goto g dX6_rank_99 (tgt := 7) (by decide) ?_
    refine j_sub [1, 0] rfl ?_
    exact ih (x1 + 1) (mrs + (1 : Int32)) (upd mrk_4 x2_4.toNatClampNeg x1) h
set_option maxRecDepth 20000 in
set_option maxHeartbeats 4000000 in
theorem c_X6_rank {a : Nat → Nat} {q : Nat → ClassId}   {mtd : Int32} {mnk : Int32} {mva : Nat → Int32} {mno : Nat → Int32} {mro : Nat → Int32} {mtu : Nat → Int32} {mbx : Nat → Int32} {mst : Nat → Int32} {mja : Nat → Int32} {mpr : Nat → Int32} {mcr : Int32} {mow : Int32} {mhd : Int32} {mmo : Int32} {mbk : Nat → Int32} {mca : Nat → Int32} {mfr : Nat → Int32} {mrs : Int32} {mrk : Nat → Int32} {mfe : Nat → Int32} {mus : Nat → Int32} {mgi : Nat → Int32} {maj : Nat → Int32} {K : Int32 → (Nat → Int32) → Prop} (h : wp_X6_rank mnk mva mno mrs mrk K) : ctV_2 q yX6_rank cX6_rank 3 0 0 [.ref (a 0)] (mdW a q mtd mnk mva mno mro mtu mbx mst mja mpr mcr mow mhd mmo mbk mca mfr mrs mrk mfe mus mgi maj) (fun (mrs : Int32) (mrk : Nat → Int32) => (mdW a q mtd mnk mva mno mro mtu mbx mst mja mpr mcr mow mhd mmo mbk mca mfr mrs mrk mfe mus mgi maj)) K := by
  refine met_V_2 (by decide) (Nat.le_of_ble_eq_true rfl) (fun Γ g hret => ?_)
  unfold wp_X6_rank at h
  show jw Γ 3 0 0 (mdW a q mtd mnk mva mno mro mtu mbx mst mja mpr mcr mow mhd mmo mbk mca mfr mrs mrk mfe mus mgi maj) [(0, .ref (a 0))] [] 0
  refine j_aload_n g 0 rfl dX6_rank_0 ?_
  refine j_iconst g (v := 0) (by decide) dX6_rank_1 ?_
  refine j_put g fl_X6_86 fp_X6_17 0 md_0 rfl rfl (Nat.le_of_ble_eq_true rfl) (ws' := (mdW a q mtd mnk mva mno mro mtu mbx mst mja mpr mcr mow mhd mmo mbk mca mfr (0 : Int32) mrk mfe mus mgi maj)) rfl dX6_rank_2 ?_
  refine j_iconst g (v := 0) (by decide) dX6_rank_5 ?_
  refine j_istore_n g (lv' := [(1, .int (0 : Int32)), (0, .ref (a 0))]) (by decide) rfl dX6_rank_6 ?_
  obtain ⟨n1, h⟩ := h
  refine j_sub [1, 0] rfl ?_
  refine wk_X6_rank_7  g hret (fun mrs_1 mrk_1 h => ?_) n1 (0 : Int32) (0 : Int32) mrk h
  exact hret.go dX6_rank_102 h

set_option maxRecDepth 20000 in
def wp_X6_mayUse (x1 : Int32) (x2 : Int32) (mtu : Nat → Int32) (mst : Nat → Int32) (K : Int32 → Prop) : Prop :=
  (vp_in x1 6 ∧ ((¬ mst x1.toNatClampNeg = 0 → K (0 : Int32)) ∧ (mst x1.toNatClampNeg = 0 → (vp_in x1 6 ∧ ((x2 ≤ mtu x1.toNatClampNeg → (vp_in x1 6 ∧ K ((mtu x1.toNatClampNeg) - x2))) ∧ (¬ x2 ≤ mtu x1.toNatClampNeg → K (0 : Int32)))))))
theorem dX6_mayUse_0 : decode cX6_mayUse 0 = .ok (.aload_n 0, 1) := by decide +kernel
theorem dX6_mayUse_1 : decode cX6_mayUse 1 = .ok (.getfield 26, 3) := by decide +kernel
theorem dX6_mayUse_4 : decode cX6_mayUse 4 = .ok (.iload_n 1, 1) := by decide +kernel
theorem dX6_mayUse_5 : decode cX6_mayUse 5 = .ok (.baload, 1) := by decide +kernel
theorem dX6_mayUse_6 : decode cX6_mayUse 6 = .ok (.ifCond .ne 13, 3) := by decide +kernel
theorem dX6_mayUse_9 : decode cX6_mayUse 9 = .ok (.aload_n 0, 1) := by decide +kernel
theorem dX6_mayUse_10 : decode cX6_mayUse 10 = .ok (.getfield 20, 3) := by decide +kernel
theorem dX6_mayUse_13 : decode cX6_mayUse 13 = .ok (.iload_n 1, 1) := by decide +kernel
theorem dX6_mayUse_14 : decode cX6_mayUse 14 = .ok (.iaload, 1) := by decide +kernel
theorem dX6_mayUse_15 : decode cX6_mayUse 15 = .ok (.iload_n 2, 1) := by decide +kernel
theorem dX6_mayUse_16 : decode cX6_mayUse 16 = .ok (.if_icmp .ge 7, 3) := by decide +kernel
theorem dX6_mayUse_19 : decode cX6_mayUse 19 = .ok (.iconst 0, 1) := by decide +kernel
theorem dX6_mayUse_20 : decode cX6_mayUse 20 = .ok (.goto 11, 3) := by decide +kernel
theorem dX6_mayUse_23 : decode cX6_mayUse 23 = .ok (.aload_n 0, 1) := by decide +kernel
theorem dX6_mayUse_24 : decode cX6_mayUse 24 = .ok (.getfield 20, 3) := by decide +kernel
theorem dX6_mayUse_27 : decode cX6_mayUse 27 = .ok (.iload_n 1, 1) := by decide +kernel
theorem dX6_mayUse_28 : decode cX6_mayUse 28 = .ok (.iaload, 1) := by decide +kernel
theorem dX6_mayUse_29 : decode cX6_mayUse 29 = .ok (.iload_n 2, 1) := by decide +kernel
theorem dX6_mayUse_30 : decode cX6_mayUse 30 = .ok (.isub, 1) := by decide +kernel
theorem dX6_mayUse_31 : decode cX6_mayUse 31 = .ok (.ireturn, 1) := by decide +kernel
set_option maxRecDepth 20000 in
set_option maxHeartbeats 4000000 in
theorem c_X6_mayUse {a : Nat → Nat} {q : Nat → ClassId} {x1 : Int32} {x2 : Int32}  {mtd : Int32} {mnk : Int32} {mva : Nat → Int32} {mno : Nat → Int32} {mro : Nat → Int32} {mtu : Nat → Int32} {mbx : Nat → Int32} {mst : Nat → Int32} {mja : Nat → Int32} {mpr : Nat → Int32} {mcr : Int32} {mow : Int32} {mhd : Int32} {mmo : Int32} {mbk : Nat → Int32} {mca : Nat → Int32} {mfr : Nat → Int32} {mrs : Int32} {mrk : Nat → Int32} {mfe : Nat → Int32} {mus : Nat → Int32} {mgi : Nat → Int32} {maj : Nat → Int32} {K : Int32 → Prop} (h : wp_X6_mayUse x1 x2 mtu mst K) : ctI_0 q yX6_mayUse cX6_mayUse 3 0 0 [.ref (a 0), .int x1, .int x2] (mdW a q mtd mnk mva mno mro mtu mbx mst mja mpr mcr mow mhd mmo mbk mca mfr mrs mrk mfe mus mgi maj) (mdW a q mtd mnk mva mno mro mtu mbx mst mja mpr mcr mow mhd mmo mbk mca mfr mrs mrk mfe mus mgi maj) K := by
  refine met_I_0 (by decide) (Nat.le_of_ble_eq_true rfl) (fun Γ g hret => ?_)
  unfold wp_X6_mayUse at h
  show jw Γ 3 0 0 (mdW a q mtd mnk mva mno mro mtu mbx mst mja mpr mcr mow mhd mmo mbk mca mfr mrs mrk mfe mus mgi maj) [(0, .ref (a 0)), (1, .int x1), (2, .int x2)] [] 0
  refine j_aload_n g 0 rfl dX6_mayUse_0 ?_
  refine j_get g fl_X6_26 0 md_0 rfl dX6_mayUse_1 ?_
  refine j_iload_n g 1 rfl dX6_mayUse_4 ?_
  obtain ⟨hv1, h⟩ := h
  refine j_zald g 6 md_6 hv1 dX6_mayUse_5 ?_
  refine j_if_ne g dX6_mayUse_6 (tgt := 19) (by decide) (fun c2 => ?_) (fun c2 => ?_)
  · replace h := h.1 c2
    refine j_iconst g (v := 0) (by decide) dX6_mayUse_19 ?_
    refine j_goto g dX6_mayUse_20 (tgt := 31) (by decide) ?_
    exact hret.go dX6_mayUse_31 h
  replace h := h.2 c2
  refine j_aload_n g 0 rfl dX6_mayUse_9 ?_
  refine j_get g fl_X6_20 0 md_0 rfl dX6_mayUse_10 ?_
  refine j_iload_n g 1 rfl dX6_mayUse_13 ?_
  obtain ⟨hv3, h⟩ := h
  refine j_iald g 4 md_4 hv3 dX6_mayUse_14 ?_
  refine j_iload_n g 2 rfl dX6_mayUse_15 ?_
  refine j_icmp_ge g dX6_mayUse_16 (tgt := 23) (by decide) (fun c4 => ?_) (fun c4 => ?_)
  rotate_left
  · replace h := h.2 c4
    refine j_iconst g (v := 0) (by decide) dX6_mayUse_19 ?_
    refine j_goto g dX6_mayUse_20 (tgt := 31) (by decide) ?_
    exact hret.go dX6_mayUse_31 h
  replace h := h.1 c4
  refine j_aload_n g 0 rfl dX6_mayUse_23 ?_
  refine j_get g fl_X6_20 0 md_0 rfl dX6_mayUse_24 ?_
  refine j_iload_n g 1 rfl dX6_mayUse_27 ?_
  obtain ⟨hv5, h⟩ := h
  refine j_iald g 4 md_4 hv5 dX6_mayUse_28 ?_
  refine j_iload_n g 2 rfl dX6_mayUse_29 ?_
  refine j_isub g dX6_mayUse_30 ?_
  exact hret.go dX6_mayUse_31 h
end
