section
-- ===== PART A: goes FIRST, ahead of the names: the tables' words, and 'selects' of the private methods out of them =====
/-- a private method of a class that the tables say can be made, by its rows of tables_1 -/
def lw_okq (q : MethodName × Nat) : Prop := (q.1.cls ≠ "java/lang/invoke/MethodHandle" ∧ q.1.cls ≠ "java/lang/invoke/VarHandle") ∧ Cond.instantiable q.1.cls q.2 ∈ tables_1 ∧ Cond.privateMethod q.1 ∈ tables_1 ∧ Cond.instanceMethod q.1 ∈ tables_1
theorem lw_p0 : lw_okq (⟨"StepMap", "lookUp", "(I)I"⟩, 6) := ⟨⟨by decide +kernel, by decide +kernel⟩, List.mem_of_getElem? (i := 6) (by decide +kernel), List.mem_of_getElem? (i := 71) (by decide +kernel), List.mem_of_getElem? (i := 72) (by decide +kernel)⟩
theorem lw_p1 : lw_okq (⟨"StepMap", "lookFor", "(LStepMap$Table;I)I"⟩, 6) := ⟨⟨by decide +kernel, by decide +kernel⟩, List.mem_of_getElem? (i := 6) (by decide +kernel), List.mem_of_getElem? (i := 75) (by decide +kernel), List.mem_of_getElem? (i := 76) (by decide +kernel)⟩
theorem lw_p2 : lw_okq (⟨"StepMap", "wouldOutgrowHalf", "()Z"⟩, 6) := ⟨⟨by decide +kernel, by decide +kernel⟩, List.mem_of_getElem? (i := 6) (by decide +kernel), List.mem_of_getElem? (i := 101) (by decide +kernel), List.mem_of_getElem? (i := 102) (by decide +kernel)⟩
theorem lw_p3 : lw_okq (⟨"StepMap", "isCrowdedBy", "(I)Z"⟩, 6) := ⟨⟨by decide +kernel, by decide +kernel⟩, List.mem_of_getElem? (i := 6) (by decide +kernel), List.mem_of_getElem? (i := 105) (by decide +kernel), List.mem_of_getElem? (i := 106) (by decide +kernel)⟩
theorem lw_p4 : lw_okq (⟨"StepMap", "moveOn", "()V"⟩, 6) := ⟨⟨by decide +kernel, by decide +kernel⟩, List.mem_of_getElem? (i := 6) (by decide +kernel), List.mem_of_getElem? (i := 117) (by decide +kernel), List.mem_of_getElem? (i := 118) (by decide +kernel)⟩
theorem lw_p5 : lw_okq (⟨"StepMap", "moveNextSlots", "()V"⟩, 6) := ⟨⟨by decide +kernel, by decide +kernel⟩, List.mem_of_getElem? (i := 6) (by decide +kernel), List.mem_of_getElem? (i := 121) (by decide +kernel), List.mem_of_getElem? (i := 122) (by decide +kernel)⟩
theorem lw_p6 : lw_okq (⟨"StepMap", "moveToNew", "(I)V"⟩, 6) := ⟨⟨by decide +kernel, by decide +kernel⟩, List.mem_of_getElem? (i := 6) (by decide +kernel), List.mem_of_getElem? (i := 126) (by decide +kernel), List.mem_of_getElem? (i := 127) (by decide +kernel)⟩
theorem lw_p7 : lw_okq (⟨"StepMap", "startMigration", "(I)V"⟩, 6) := ⟨⟨by decide +kernel, by decide +kernel⟩, List.mem_of_getElem? (i := 6) (by decide +kernel), List.mem_of_getElem? (i := 130) (by decide +kernel), List.mem_of_getElem? (i := 131) (by decide +kernel)⟩
theorem lw_p8 : lw_okq (⟨"StepMap", "isSparse", "()Z"⟩, 6) := ⟨⟨by decide +kernel, by decide +kernel⟩, List.mem_of_getElem? (i := 6) (by decide +kernel), List.mem_of_getElem? (i := 134) (by decide +kernel), List.mem_of_getElem? (i := 135) (by decide +kernel)⟩
theorem lw_p9 : lw_okq (⟨"StepMap", "freeInNew", "(I)V"⟩, 6) := ⟨⟨by decide +kernel, by decide +kernel⟩, List.mem_of_getElem? (i := 6) (by decide +kernel), List.mem_of_getElem? (i := 150) (by decide +kernel), List.mem_of_getElem? (i := 151) (by decide +kernel)⟩
theorem lw_p10 : lw_okq (⟨"StepMap$Table", "ringDistance", "(II)I"⟩, 4) := ⟨⟨by decide +kernel, by decide +kernel⟩, List.mem_of_getElem? (i := 17) (by decide +kernel), List.mem_of_getElem? (i := 159) (by decide +kernel), List.mem_of_getElem? (i := 160) (by decide +kernel)⟩
theorem lw_p11 : lw_okq (⟨"StepMapModel", "look", "(II)I"⟩, 12) := ⟨⟨by decide +kernel, by decide +kernel⟩, List.mem_of_getElem? (i := 192) (by decide +kernel), List.mem_of_getElem? (i := 239) (by decide +kernel), List.mem_of_getElem? (i := 240) (by decide +kernel)⟩
theorem lw_p12 : lw_okq (⟨"StepMapModel", "home", "(II)I"⟩, 12) := ⟨⟨by decide +kernel, by decide +kernel⟩, List.mem_of_getElem? (i := 192) (by decide +kernel), List.mem_of_getElem? (i := 243) (by decide +kernel), List.mem_of_getElem? (i := 244) (by decide +kernel)⟩
theorem lw_p13 : lw_okq (⟨"StepMapModel", "at", "(II)I"⟩, 12) := ⟨⟨by decide +kernel, by decide +kernel⟩, List.mem_of_getElem? (i := 192) (by decide +kernel), List.mem_of_getElem? (i := 248) (by decide +kernel), List.mem_of_getElem? (i := 249) (by decide +kernel)⟩
theorem lw_p14 : lw_okq (⟨"StepMapModel", "behind", "(II)I"⟩, 12) := ⟨⟨by decide +kernel, by decide +kernel⟩, List.mem_of_getElem? (i := 192) (by decide +kernel), List.mem_of_getElem? (i := 252) (by decide +kernel), List.mem_of_getElem? (i := 253) (by decide +kernel)⟩
theorem lw_p15 : lw_okq (⟨"StepMapModel", "isFull", "()Z"⟩, 12) := ⟨⟨by decide +kernel, by decide +kernel⟩, List.mem_of_getElem? (i := 192) (by decide +kernel), List.mem_of_getElem? (i := 256) (by decide +kernel), List.mem_of_getElem? (i := 257) (by decide +kernel)⟩
def lw_privs_1 : List (MethodName × Nat) := [(⟨"StepMap", "lookUp", "(I)I"⟩, 6), (⟨"StepMap", "lookFor", "(LStepMap$Table;I)I"⟩, 6), (⟨"StepMap", "wouldOutgrowHalf", "()Z"⟩, 6), (⟨"StepMap", "isCrowdedBy", "(I)Z"⟩, 6), (⟨"StepMap", "moveOn", "()V"⟩, 6), (⟨"StepMap", "moveNextSlots", "()V"⟩, 6), (⟨"StepMap", "moveToNew", "(I)V"⟩, 6), (⟨"StepMap", "startMigration", "(I)V"⟩, 6), (⟨"StepMap", "isSparse", "()Z"⟩, 6), (⟨"StepMap", "freeInNew", "(I)V"⟩, 6), (⟨"StepMap$Table", "ringDistance", "(II)I"⟩, 4), (⟨"StepMapModel", "look", "(II)I"⟩, 12), (⟨"StepMapModel", "home", "(II)I"⟩, 12), (⟨"StepMapModel", "at", "(II)I"⟩, 12), (⟨"StepMapModel", "behind", "(II)I"⟩, 12), (⟨"StepMapModel", "isFull", "()Z"⟩, 12)]
theorem lw_r1 : ∀ q ∈ lw_privs_1, lw_okq q := List.forall_mem_cons.mpr ⟨lw_p0, List.forall_mem_cons.mpr ⟨lw_p1, List.forall_mem_cons.mpr ⟨lw_p2, List.forall_mem_cons.mpr ⟨lw_p3, List.forall_mem_cons.mpr ⟨lw_p4, List.forall_mem_cons.mpr ⟨lw_p5, List.forall_mem_cons.mpr ⟨lw_p6, List.forall_mem_cons.mpr ⟨lw_p7, List.forall_mem_cons.mpr ⟨lw_p8, List.forall_mem_cons.mpr ⟨lw_p9, List.forall_mem_cons.mpr ⟨lw_p10, List.forall_mem_cons.mpr ⟨lw_p11, List.forall_mem_cons.mpr ⟨lw_p12, List.forall_mem_cons.mpr ⟨lw_p13, List.forall_mem_cons.mpr ⟨lw_p14, List.forall_mem_cons.mpr ⟨lw_p15, fun _ h => absurd h List.not_mem_nil⟩⟩⟩⟩⟩⟩⟩⟩⟩⟩⟩⟩⟩⟩⟩⟩
theorem lw_p16 : lw_okq (⟨"StepMapModel", "lay", "(IIII)V"⟩, 12) := ⟨⟨by decide +kernel, by decide +kernel⟩, List.mem_of_getElem? (i := 192) (by decide +kernel), List.mem_of_getElem? (i := 261) (by decide +kernel), List.mem_of_getElem? (i := 262) (by decide +kernel)⟩
theorem lw_p17 : lw_okq (⟨"StepMapModel", "settle", "()V"⟩, 12) := ⟨⟨by decide +kernel, by decide +kernel⟩, List.mem_of_getElem? (i := 192) (by decide +kernel), List.mem_of_getElem? (i := 265) (by decide +kernel), List.mem_of_getElem? (i := 266) (by decide +kernel)⟩
theorem lw_p18 : lw_okq (⟨"StepMapModel", "moveSome", "()V"⟩, 12) := ⟨⟨by decide +kernel, by decide +kernel⟩, List.mem_of_getElem? (i := 192) (by decide +kernel), List.mem_of_getElem? (i := 269) (by decide +kernel), List.mem_of_getElem? (i := 270) (by decide +kernel)⟩
theorem lw_p19 : lw_okq (⟨"StepMapModel", "become", "(I)V"⟩, 12) := ⟨⟨by decide +kernel, by decide +kernel⟩, List.mem_of_getElem? (i := 192) (by decide +kernel), List.mem_of_getElem? (i := 273) (by decide +kernel), List.mem_of_getElem? (i := 274) (by decide +kernel)⟩
theorem lw_p20 : lw_okq (⟨"StepMapModel", "find", "(I)I"⟩, 12) := ⟨⟨by decide +kernel, by decide +kernel⟩, List.mem_of_getElem? (i := 192) (by decide +kernel), List.mem_of_getElem? (i := 281) (by decide +kernel), List.mem_of_getElem? (i := 282) (by decide +kernel)⟩
theorem lw_p21 : lw_okq (⟨"StepMapModel", "free", "(I)V"⟩, 12) := ⟨⟨by decide +kernel, by decide +kernel⟩, List.mem_of_getElem? (i := 192) (by decide +kernel), List.mem_of_getElem? (i := 293) (by decide +kernel), List.mem_of_getElem? (i := 294) (by decide +kernel)⟩
theorem lw_p22 : lw_okq (⟨"StepMapModel", "steps", "(II)I"⟩, 12) := ⟨⟨by decide +kernel, by decide +kernel⟩, List.mem_of_getElem? (i := 192) (by decide +kernel), List.mem_of_getElem? (i := 297) (by decide +kernel), List.mem_of_getElem? (i := 298) (by decide +kernel)⟩
def lw_privs_2 : List (MethodName × Nat) := [(⟨"StepMapModel", "lay", "(IIII)V"⟩, 12), (⟨"StepMapModel", "settle", "()V"⟩, 12), (⟨"StepMapModel", "moveSome", "()V"⟩, 12), (⟨"StepMapModel", "become", "(I)V"⟩, 12), (⟨"StepMapModel", "find", "(I)I"⟩, 12), (⟨"StepMapModel", "free", "(I)V"⟩, 12), (⟨"StepMapModel", "steps", "(II)I"⟩, 12)]
theorem lw_r2 : ∀ q ∈ lw_privs_2, lw_okq q := List.forall_mem_cons.mpr ⟨lw_p16, List.forall_mem_cons.mpr ⟨lw_p17, List.forall_mem_cons.mpr ⟨lw_p18, List.forall_mem_cons.mpr ⟨lw_p19, List.forall_mem_cons.mpr ⟨lw_p20, List.forall_mem_cons.mpr ⟨lw_p21, List.forall_mem_cons.mpr ⟨lw_p22, fun _ h => absurd h List.not_mem_nil⟩⟩⟩⟩⟩⟩⟩
def lw_privs : List (MethodName × Nat) := lw_privs_1 ++ (lw_privs_2)
def lw_tbl : List Cond := k2_sels lw_privs ++ tables_1
theorem lw_privs_ok : ∀ q ∈ lw_privs, lw_okq q := by
  show ∀ q ∈ lw_privs_1 ++ (lw_privs_2), lw_okq q
  exact List.forall_mem_append.mpr ⟨lw_r1, lw_r2⟩
-- ===== end of PART A; then your names; then what follows =====
end
section
/-! ===== BEGIN words of one list among another's, by their places ===== -/
theorem goodIn_r {big : List Cond} (ws : List Cond) (ps : List Nat) (hp : ws = ps.filterMap (fun i => big[i]?)) (h : ws.all goodWord = true) : GoodIn big ws := by
  intro w hw
  have h1 := List.all_eq_true.mp h w hw
  rw [hp] at hw
  obtain ⟨i, -, hi⟩ := List.mem_filterMap.mp hw
  have hm : w ∈ big := by first | exact List.mem_of_getElem? hi | exact List.getElem?_mem hi
  exact ⟨hm, good_of_word h1⟩
theorem goodIn_app {big a b : List Cond} (ha : GoodIn big a) (hb : GoodIn big b) : GoodIn big (a ++ b) := fun w h => (List.mem_append.mp h).elim (ha w) (hb w)
theorem goodIn_ca {big a b : List Cond} {c : Cond} (ha : GoodIn big (c :: a)) (hb : GoodIn big b) : GoodIn big (c :: (a ++ b)) := fun w h => (List.mem_cons.mp h).elim (fun e => ha w (List.mem_cons.mpr (Or.inl e))) (fun h => (List.mem_append.mp h).elim (fun h => ha w (List.mem_cons.mpr (Or.inr h))) (hb w))
theorem goodIn_sub {big ws : List Cond} (hm : ∀ w ∈ ws, w ∈ big) (h : ws.all goodWord = true) : GoodIn big ws := fun w hw => ⟨hm w hw, good_of_word (List.all_eq_true.mp h w hw)⟩
/-! ===== END ===== -/

/-! ===== BEGIN printed: names, fields, word lists, decode rows ===== -/
def RX0 : String := "StepMap$Table"
def TX0 : u_T := fun k => match k with
  | 0 => ("StepMap$Table", "marks", "[I", true)
  | 1 => ("StepMap$Table", "keys", "[I", true)
  | 2 => ("StepMap$Table", "values", "[I", true)
  | _ => ("StepMap$Table", "slots", "I", false)
def tyX0 : Nat → FieldType := fun k => match k with
  | 0 => .array .int
  | 1 => .array .int
  | 2 => .array .int
  | _ => .int
abbrev wsX00 : List Cond := u_ws RX0 TX0 4
theorem nmX0 : ∀ a, a < 4 → ∀ b, b < 4 → a ≠ b → (TX0 a).2.1 ≠ (TX0 b).2.1 := by decide +kernel
theorem tyX0_ok : ∀ k, k < 4 → parseFieldDescriptor (TX0 k).2.2.1 = some (tyX0 k) := by decide +kernel
abbrev cX0_init : ByteArray := prog_2_method_1_code
def yX0_init : MethodName := ⟨RX0, "<init>", "(I)V"⟩
abbrev cX0_clear : ByteArray := prog_2_method_2_code
def yX0_clear : MethodName := ⟨RX0, "clear", "(I)V"⟩
abbrev cX0_home : ByteArray := prog_2_method_3_code
def yX0_home : MethodName := ⟨RX0, "home", "(I)I"⟩
abbrev cX0_next : ByteArray := prog_2_method_4_code
def yX0_next : MethodName := ⟨RX0, "next", "(I)I"⟩
abbrev cX0_holds : ByteArray := prog_2_method_5_code
def yX0_holds : MethodName := ⟨RX0, "holds", "(II)Z"⟩
abbrev cX0_endsSearch : ByteArray := prog_2_method_6_code
def yX0_endsSearch : MethodName := ⟨RX0, "endsSearch", "(II)Z"⟩
abbrev cX0_reachesBack : ByteArray := prog_2_method_7_code
def yX0_reachesBack : MethodName := ⟨RX0, "reachesBack", "(II)Z"⟩
abbrev cX0_ringDistance : ByteArray := prog_2_method_8_code
def yX0_ringDistance : MethodName := ⟨RX0, "ringDistance", "(II)I"⟩
abbrev cX0_fill : ByteArray := prog_2_method_9_code
def yX0_fill : MethodName := ⟨RX0, "fill", "(III)V"⟩
abbrev cX0_shift : ByteArray := prog_2_method_10_code
def yX0_shift : MethodName := ⟨RX0, "shift", "(II)V"⟩
def RX1 : String := "StepMap"
def TX1 : u_T := fun k => match k with
  | 0 => ("StepMap", "half", "I", true)
  | 1 => ("StepMap", "newTable", "LStepMap$Table;", false)
  | 2 => ("StepMap", "oldTable", "LStepMap$Table;", false)
  | 3 => ("StepMap", "nextToMove", "I", false)
  | 4 => ("StepMap", "keyCount", "I", false)
  | _ => ("StepMap", "work", "I", false)
def tyX1 : Nat → FieldType := fun k => match k with
  | 0 => .int
  | 1 => .object "StepMap$Table"
  | 2 => .object "StepMap$Table"
  | 3 => .int
  | 4 => .int
  | _ => .int
abbrev wsX10 : List Cond := u_ws RX1 TX1 6
theorem nmX1 : ∀ a, a < 6 → ∀ b, b < 6 → a ≠ b → (TX1 a).2.1 ≠ (TX1 b).2.1 := by decide +kernel
theorem tyX1_ok : ∀ k, k < 6 → parseFieldDescriptor (TX1 k).2.2.1 = some (tyX1 k) := by decide +kernel
abbrev cX1_init : ByteArray := prog_1_method_1_code
def yX1_init : MethodName := ⟨RX1, "<init>", "(I)V"⟩
abbrev cX1_put : ByteArray := prog_1_method_2_code
def yX1_put : MethodName := ⟨RX1, "put", "(II)I"⟩
abbrev cX1_get : ByteArray := prog_1_method_3_code
def yX1_get : MethodName := ⟨RX1, "get", "(I)I"⟩
abbrev cX1_has : ByteArray := prog_1_method_4_code
def yX1_has : MethodName := ⟨RX1, "has", "(I)Z"⟩
abbrev cX1_remove : ByteArray := prog_1_method_5_code
def yX1_remove : MethodName := ⟨RX1, "remove", "(I)Z"⟩
abbrev cX1_size : ByteArray := prog_1_method_6_code
def yX1_size : MethodName := ⟨RX1, "size", "()I"⟩
abbrev cX1_capacity : ByteArray := prog_1_method_7_code
def yX1_capacity : MethodName := ⟨RX1, "capacity", "()I"⟩
abbrev cX1_migrating : ByteArray := prog_1_method_8_code
def yX1_migrating : MethodName := ⟨RX1, "migrating", "()Z"⟩
abbrev cX1_lastWork : ByteArray := prog_1_method_9_code
def yX1_lastWork : MethodName := ⟨RX1, "lastWork", "()I"⟩
abbrev cX1_slot : ByteArray := prog_1_method_10_code
def yX1_slot : MethodName := ⟨RX1, "slot", "(I)I"⟩
abbrev cX1_cursor : ByteArray := prog_1_method_11_code
def yX1_cursor : MethodName := ⟨RX1, "cursor", "()I"⟩
abbrev cX1_powerWithin : ByteArray := prog_1_method_12_code
def yX1_powerWithin : MethodName := ⟨RX1, "powerWithin", "(I)I"⟩
abbrev cX1_lookUp : ByteArray := prog_1_method_13_code
def yX1_lookUp : MethodName := ⟨RX1, "lookUp", "(I)I"⟩
abbrev cX1_emptySlot : ByteArray := prog_1_method_14_code
def yX1_emptySlot : MethodName := ⟨RX1, "emptySlot", "(I)I"⟩
abbrev cX1_lookFor : ByteArray := prog_1_method_15_code
def yX1_lookFor : MethodName := ⟨RX1, "lookFor", "(LStepMap$Table;I)I"⟩
abbrev cX1_freeInNew : ByteArray := prog_1_method_16_code
def yX1_freeInNew : MethodName := ⟨RX1, "freeInNew", "(I)V"⟩
abbrev cX1_wouldOutgrowHalf : ByteArray := prog_1_method_17_code
def yX1_wouldOutgrowHalf : MethodName := ⟨RX1, "wouldOutgrowHalf", "()Z"⟩
abbrev cX1_isCrowdedBy : ByteArray := prog_1_method_18_code
def yX1_isCrowdedBy : MethodName := ⟨RX1, "isCrowdedBy", "(I)Z"⟩
abbrev cX1_isSparse : ByteArray := prog_1_method_19_code
def yX1_isSparse : MethodName := ⟨RX1, "isSparse", "()Z"⟩
abbrev cX1_moveOn : ByteArray := prog_1_method_20_code
def yX1_moveOn : MethodName := ⟨RX1, "moveOn", "()V"⟩
abbrev cX1_moveNextSlots : ByteArray := prog_1_method_21_code
def yX1_moveNextSlots : MethodName := ⟨RX1, "moveNextSlots", "()V"⟩
abbrev cX1_moveToNew : ByteArray := prog_1_method_22_code
def yX1_moveToNew : MethodName := ⟨RX1, "moveToNew", "(I)V"⟩
abbrev cX1_startMigration : ByteArray := prog_1_method_23_code
def yX1_startMigration : MethodName := ⟨RX1, "startMigration", "(I)V"⟩
def RX2 : String := "StepMapModel"
def TX2 : u_T := fun k => match k with
  | 0 => ("StepMapModel", "thrown", "I", false)
  | 1 => ("StepMapModel", "half", "I", true)
  | 2 => ("StepMapModel", "states", "[I", true)
  | 3 => ("StepMapModel", "keys", "[I", true)
  | 4 => ("StepMapModel", "values", "[I", true)
  | 5 => ("StepMapModel", "sizes", "[I", true)
  | 6 => ("StepMapModel", "current", "I", false)
  | 7 => ("StepMapModel", "moving", "Z", false)
  | 8 => ("StepMapModel", "cursor", "I", false)
  | 9 => ("StepMapModel", "count", "I", false)
  | 10 => ("StepMapModel", "visits", "I", false)
  | _ => ("StepMapModel", "work", "I", false)
def tyX2 : Nat → FieldType := fun k => match k with
  | 0 => .int
  | 1 => .int
  | 2 => .array .int
  | 3 => .array .int
  | 4 => .array .int
  | 5 => .array .int
  | 6 => .int
  | 7 => .boolean
  | 8 => .int
  | 9 => .int
  | 10 => .int
  | _ => .int
abbrev wsX20 : List Cond := u_ws RX2 TX2 12
theorem nmX2 : ∀ a, a < 12 → ∀ b, b < 12 → a ≠ b → (TX2 a).2.1 ≠ (TX2 b).2.1 := by decide +kernel
theorem tyX2_ok : ∀ k, k < 12 → parseFieldDescriptor (TX2 k).2.2.1 = some (tyX2 k) := by decide +kernel
abbrev cX2_init : ByteArray := prog_4_method_1_code
def yX2_init : MethodName := ⟨RX2, "<init>", "(I)V"⟩
abbrev cX2_home : ByteArray := prog_4_method_3_code
def yX2_home : MethodName := ⟨RX2, "home", "(II)I"⟩
abbrev cX2_behind : ByteArray := prog_4_method_4_code
def yX2_behind : MethodName := ⟨RX2, "behind", "(II)I"⟩
abbrev cX2_at : ByteArray := prog_4_method_5_code
def yX2_at : MethodName := ⟨RX2, "at", "(II)I"⟩
abbrev cX2_look : ByteArray := prog_4_method_6_code
def yX2_look : MethodName := ⟨RX2, "look", "(II)I"⟩
abbrev cX2_lay : ByteArray := prog_4_method_7_code
def yX2_lay : MethodName := ⟨RX2, "lay", "(IIII)V"⟩
abbrev cX2_moveSome : ByteArray := prog_4_method_8_code
def yX2_moveSome : MethodName := ⟨RX2, "moveSome", "()V"⟩
abbrev cX2_become : ByteArray := prog_4_method_9_code
def yX2_become : MethodName := ⟨RX2, "become", "(I)V"⟩
abbrev cX2_settle : ByteArray := prog_4_method_10_code
def yX2_settle : MethodName := ⟨RX2, "settle", "()V"⟩
abbrev cX2_isFull : ByteArray := prog_4_method_11_code
def yX2_isFull : MethodName := ⟨RX2, "isFull", "()Z"⟩
abbrev cX2_find : ByteArray := prog_4_method_12_code
def yX2_find : MethodName := ⟨RX2, "find", "(I)I"⟩
abbrev cX2_put : ByteArray := prog_4_method_13_code
def yX2_put : MethodName := ⟨RX2, "put", "(II)I"⟩
abbrev cX2_get : ByteArray := prog_4_method_14_code
def yX2_get : MethodName := ⟨RX2, "get", "(I)I"⟩
abbrev cX2_has : ByteArray := prog_4_method_15_code
def yX2_has : MethodName := ⟨RX2, "has", "(I)Z"⟩
abbrev cX2_steps : ByteArray := prog_4_method_16_code
def yX2_steps : MethodName := ⟨RX2, "steps", "(II)I"⟩
abbrev cX2_free : ByteArray := prog_4_method_17_code
def yX2_free : MethodName := ⟨RX2, "free", "(I)V"⟩
abbrev cX2_remove : ByteArray := prog_4_method_18_code
def yX2_remove : MethodName := ⟨RX2, "remove", "(I)Z"⟩
abbrev cX2_size : ByteArray := prog_4_method_19_code
def yX2_size : MethodName := ⟨RX2, "size", "()I"⟩
abbrev cX2_capacity : ByteArray := prog_4_method_20_code
def yX2_capacity : MethodName := ⟨RX2, "capacity", "()I"⟩
abbrev cX2_migrating : ByteArray := prog_4_method_21_code
def yX2_migrating : MethodName := ⟨RX2, "migrating", "()Z"⟩
abbrev cX2_lastWork : ByteArray := prog_4_method_22_code
def yX2_lastWork : MethodName := ⟨RX2, "lastWork", "()I"⟩
abbrev cX2_slot : ByteArray := prog_4_method_23_code
def yX2_slot : MethodName := ⟨RX2, "slot", "(I)I"⟩
abbrev cX2_cursor : ByteArray := prog_4_method_24_code
def yX2_cursor : MethodName := ⟨RX2, "cursor", "()I"⟩
def RJ9 : String := "java/lang/Math"
def TJ9 : u_T := fun k => match k with
  | _ => ("", "", "", false)
def tyJ9 : Nat → FieldType := fun k => match k with
  | _ => .int
abbrev wsJ90 : List Cond := u_ws RJ9 TJ9 0
theorem nmJ9 : ∀ a, a < 0 → ∀ b, b < 0 → a ≠ b → (TJ9 a).2.1 ≠ (TJ9 b).2.1 := by decide +kernel
theorem tyJ9_ok : ∀ k, k < 0 → parseFieldDescriptor (TJ9 k).2.2.1 = some (tyJ9 k) := by decide +kernel
abbrev cJ9_min_7cf53 : ByteArray := prog_5_method_69_code
def yJ9_min_7cf53 : MethodName := ⟨RJ9, "min", "(II)I"⟩
def RL : String := "StepMapLaw"
abbrev cL_cell : ByteArray := method_2_code
def yL_cell : MethodName := ⟨RL, "cell", "([II)I"⟩
abbrev cL_law : ByteArray := code
def yL_law : MethodName := ⟨RL, "law", "([I)Z"⟩
def wsX0_init : List Cond := .code yX0_init cX0_init 2 none :: ([.methodLink RX0 1 objectInit, .instanceMethod objectInit, .code objectInit ⟨#[0xb1]⟩ 1 none, .arrayClass .int, .fieldLink RX0 7 "StepMap$Table" "marks" "[I", .fieldLink RX0 13 "StepMap$Table" "keys" "[I", .fieldLink RX0 16 "StepMap$Table" "values" "[I", .fieldLink RX0 19 "StepMap$Table" "slots" "I"] ++ wsX00)
def wsX0_clear : List Cond := .code yX0_clear cX0_clear 3 none :: ([.fieldLink RX0 7 "StepMap$Table" "marks" "[I", .methodLink RX0 23 Lib.Math.min.name, .static Lib.Math.min.name, .initialized "java/lang/Math", .code Lib.Math.min.name Lib.Math.min.code 2 (some .int), .fieldLink RX0 19 "StepMap$Table" "slots" "I"] ++ wsX00)
def wsX0_home : List Cond := .code yX0_home cX0_home 3 (some .int) :: ([.constant RX0 29 (-1640531535), .fieldLink RX0 19 "StepMap$Table" "slots" "I"] ++ wsX00)
def wsX0_next : List Cond := .code yX0_next cX0_next 2 (some .int) :: ([.fieldLink RX0 19 "StepMap$Table" "slots" "I"] ++ wsX00)
def wsX0_holds : List Cond := .code yX0_holds cX0_holds 3 (some .boolean) :: ([.fieldLink RX0 7 "StepMap$Table" "marks" "[I", .fieldLink RX0 13 "StepMap$Table" "keys" "[I"] ++ wsX00)
def wsX0_endsSearch : List Cond := .code yX0_endsSearch cX0_endsSearch 3 (some .boolean) :: ([.fieldLink RX0 7 "StepMap$Table" "marks" "[I", .methodLink RX0 30 yX0_holds, .instanceMethod yX0_holds, .selects RX0 yX0_holds yX0_holds, .initialized RX0, .code yX0_holds cX0_holds 3 (some .boolean), .fieldLink RX0 13 "StepMap$Table" "keys" "[I"] ++ wsX00)
def wsX0_ringDistance : List Cond := .code yX0_ringDistance cX0_ringDistance 3 (some .int) :: ([.fieldLink RX0 19 "StepMap$Table" "slots" "I"] ++ wsX00)
def wsX0_reachesBack : List Cond := .code yX0_reachesBack cX0_reachesBack 3 (some .boolean) :: ([.fieldLink RX0 13 "StepMap$Table" "keys" "[I", .methodLink RX0 34 yX0_home, .instanceMethod yX0_home, .selects RX0 yX0_home yX0_home, .initialized RX0, .code yX0_home cX0_home 3 (some .int), .constant RX0 29 (-1640531535), .fieldLink RX0 19 "StepMap$Table" "slots" "I", .methodLink RX0 38 yX0_ringDistance, .instanceMethod yX0_ringDistance, .selects RX0 yX0_ringDistance yX0_ringDistance, .code yX0_ringDistance cX0_ringDistance 3 (some .int)] ++ wsX00)
def wsX0_fill : List Cond := .code yX0_fill cX0_fill 4 none :: ([.fieldLink RX0 7 "StepMap$Table" "marks" "[I", .fieldLink RX0 13 "StepMap$Table" "keys" "[I", .fieldLink RX0 16 "StepMap$Table" "values" "[I"] ++ wsX00)
def wsX0_shift : List Cond := .code yX0_shift cX0_shift 3 none :: ([.fieldLink RX0 13 "StepMap$Table" "keys" "[I", .fieldLink RX0 16 "StepMap$Table" "values" "[I", .fieldLink RX0 7 "StepMap$Table" "marks" "[I", .methodLink RX0 41 yX0_fill, .instanceMethod yX0_fill, .selects RX0 yX0_fill yX0_fill, .initialized RX0, .code yX0_fill cX0_fill 4 none] ++ wsX00)
def wsX1_powerWithin : List Cond := .code yX1_powerWithin cX1_powerWithin 2 (some .int) :: ([])
def wsX1_init_r1 : List Cond := [Cond.methodLink RX1 1 objectInit, Cond.instanceMethod objectInit, Cond.code objectInit ⟨#[0xb1]⟩ 1 none, Cond.fieldLink RX1 13 "StepMap" "half" "I", Cond.classLink RX1 17 RX0, Cond.instantiable RX0 4, Cond.initialized RX0, Cond.fieldLink RX1 22 "StepMap" "newTable" "LStepMap$Table;", Cond.fieldLink RX1 26 "StepMap" "oldTable" "LStepMap$Table;", Cond.fieldLink RX1 32 "StepMap" "nextToMove" "I", Cond.methodLink RX1 7 yX1_powerWithin, Cond.static yX1_powerWithin, Cond.initialized RX1, Cond.code yX1_powerWithin cX1_powerWithin 2 (some .int), Cond.methodLink RX1 19 yX0_init, Cond.instanceMethod yX0_init, Cond.code yX0_init cX0_init 2 none, Cond.methodLink RX0 1 objectInit, Cond.arrayClass .int, Cond.fieldLink RX0 7 "StepMap$Table" "marks" "[I", Cond.fieldLink RX0 13 "StepMap$Table" "keys" "[I", Cond.fieldLink RX0 16 "StepMap$Table" "values" "[I", Cond.fieldLink RX0 19 "StepMap$Table" "slots" "I", Cond.methodLink RX1 29 yX0_clear]
def wsX1_init_r2 : List Cond := [Cond.instanceMethod yX0_clear, Cond.selects RX0 yX0_clear yX0_clear, Cond.code yX0_clear cX0_clear 3 none, Cond.methodLink RX0 23 Lib.Math.min.name, Cond.static Lib.Math.min.name, Cond.initialized "java/lang/Math", Cond.code Lib.Math.min.name Lib.Math.min.code 2 (some .int)]
def wsX1_init : List Cond := .code yX1_init cX1_init 2 none :: ((wsX1_init_r1 ++ wsX1_init_r2) ++ wsX10 ++ wsX00)
def wsX1_lookFor : List Cond := .code yX1_lookFor cX1_lookFor 5 (some .int) :: ([.fieldLink RX1 35 "StepMap" "work" "I", .fieldLink RX1 69 "StepMap$Table" "slots" "I", .methodLink RX1 83 yX0_home, .instanceMethod yX0_home, .selects RX0 yX0_home yX0_home, .initialized RX0, .code yX0_home cX0_home 3 (some .int), .constant RX0 29 (-1640531535), .fieldLink RX0 19 "StepMap$Table" "slots" "I", .methodLink RX1 86 yX0_endsSearch, .instanceMethod yX0_endsSearch, .selects RX0 yX0_endsSearch yX0_endsSearch, .code yX0_endsSearch cX0_endsSearch 3 (some .boolean), .fieldLink RX0 7 "StepMap$Table" "marks" "[I", .methodLink RX0 30 yX0_holds, .instanceMethod yX0_holds, .selects RX0 yX0_holds yX0_holds, .code yX0_holds cX0_holds 3 (some .boolean), .fieldLink RX0 13 "StepMap$Table" "keys" "[I", .methodLink RX1 89 yX0_next, .instanceMethod yX0_next, .selects RX0 yX0_next yX0_next, .code yX0_next cX0_next 2 (some .int)] ++ wsX10 ++ wsX00)
def wsX1_migrating : List Cond := .code yX1_migrating cX1_migrating 1 (some .boolean) :: ([.fieldLink RX1 32 "StepMap" "nextToMove" "I"] ++ wsX10)
def wsX1_lookUp_r1 : List Cond := [Cond.fieldLink RX1 22 "StepMap" "newTable" "LStepMap$Table;", Cond.fieldLink RX1 26 "StepMap" "oldTable" "LStepMap$Table;", Cond.methodLink RX1 72 yX1_lookFor, Cond.instanceMethod yX1_lookFor, Cond.selects RX1 yX1_lookFor yX1_lookFor, Cond.initialized RX1, Cond.code yX1_lookFor cX1_lookFor 5 (some .int), Cond.fieldLink RX1 35 "StepMap" "work" "I", Cond.fieldLink RX1 69 "StepMap$Table" "slots" "I", Cond.methodLink RX1 83 yX0_home, Cond.instanceMethod yX0_home, Cond.selects RX0 yX0_home yX0_home, Cond.initialized RX0, Cond.code yX0_home cX0_home 3 (some .int), Cond.constant RX0 29 (-1640531535), Cond.fieldLink RX0 19 "StepMap$Table" "slots" "I", Cond.methodLink RX1 86 yX0_endsSearch, Cond.instanceMethod yX0_endsSearch, Cond.selects RX0 yX0_endsSearch yX0_endsSearch, Cond.code yX0_endsSearch cX0_endsSearch 3 (some .boolean), Cond.fieldLink RX0 7 "StepMap$Table" "marks" "[I", Cond.methodLink RX0 30 yX0_holds, Cond.instanceMethod yX0_holds, Cond.selects RX0 yX0_holds yX0_holds]
def wsX1_lookUp_r2 : List Cond := [Cond.code yX0_holds cX0_holds 3 (some .boolean), Cond.fieldLink RX0 13 "StepMap$Table" "keys" "[I", Cond.methodLink RX1 89 yX0_next, Cond.instanceMethod yX0_next, Cond.selects RX0 yX0_next yX0_next, Cond.code yX0_next cX0_next 2 (some .int), Cond.methodLink RX1 76 yX0_holds, Cond.methodLink RX1 80 yX1_migrating, Cond.instanceMethod yX1_migrating, Cond.selects RX1 yX1_migrating yX1_migrating, Cond.code yX1_migrating cX1_migrating 1 (some .boolean), Cond.fieldLink RX1 32 "StepMap" "nextToMove" "I"]
def wsX1_lookUp : List Cond := .code yX1_lookUp cX1_lookUp 4 (some .int) :: ((wsX1_lookUp_r1 ++ wsX1_lookUp_r2) ++ wsX10 ++ wsX00)
def wsX1_isCrowdedBy : List Cond := .code yX1_isCrowdedBy cX1_isCrowdedBy 2 (some .boolean) :: ([.fieldLink RX1 22 "StepMap" "newTable" "LStepMap$Table;", .fieldLink RX1 69 "StepMap$Table" "slots" "I"] ++ wsX10 ++ wsX00)
def wsX1_wouldOutgrowHalf : List Cond := .code yX1_wouldOutgrowHalf cX1_wouldOutgrowHalf 2 (some .boolean) :: ([.fieldLink RX1 32 "StepMap" "nextToMove" "I", .fieldLink RX1 26 "StepMap" "oldTable" "LStepMap$Table;", .fieldLink RX1 69 "StepMap$Table" "slots" "I", .fieldLink RX1 57 "StepMap" "keyCount" "I", .fieldLink RX1 22 "StepMap" "newTable" "LStepMap$Table;", .fieldLink RX1 13 "StepMap" "half" "I", .methodLink RX1 80 yX1_migrating, .instanceMethod yX1_migrating, .selects RX1 yX1_migrating yX1_migrating, .initialized RX1, .code yX1_migrating cX1_migrating 1 (some .boolean), .methodLink RX1 99 yX1_isCrowdedBy, .instanceMethod yX1_isCrowdedBy, .selects RX1 yX1_isCrowdedBy yX1_isCrowdedBy, .code yX1_isCrowdedBy cX1_isCrowdedBy 2 (some .boolean)] ++ wsX10 ++ wsX00)
def wsX1_emptySlot : List Cond := .code yX1_emptySlot cX1_emptySlot 1 (some .int) :: ([])
def wsX1_moveToNew_r1 : List Cond := [Cond.fieldLink RX1 26 "StepMap" "oldTable" "LStepMap$Table;", Cond.fieldLink RX1 121 "StepMap$Table" "keys" "[I", Cond.fieldLink RX1 22 "StepMap" "newTable" "LStepMap$Table;", Cond.fieldLink RX1 41 "StepMap$Table" "values" "[I", Cond.fieldLink RX1 63 "StepMap$Table" "marks" "[I", Cond.methodLink RX1 72 yX1_lookFor, Cond.instanceMethod yX1_lookFor, Cond.selects RX1 yX1_lookFor yX1_lookFor, Cond.initialized RX1, Cond.code yX1_lookFor cX1_lookFor 5 (some .int), Cond.fieldLink RX1 35 "StepMap" "work" "I", Cond.fieldLink RX1 69 "StepMap$Table" "slots" "I", Cond.methodLink RX1 83 yX0_home, Cond.instanceMethod yX0_home, Cond.selects RX0 yX0_home yX0_home, Cond.initialized RX0, Cond.code yX0_home cX0_home 3 (some .int), Cond.constant RX0 29 (-1640531535), Cond.fieldLink RX0 19 "StepMap$Table" "slots" "I", Cond.methodLink RX1 86 yX0_endsSearch, Cond.instanceMethod yX0_endsSearch, Cond.selects RX0 yX0_endsSearch yX0_endsSearch, Cond.code yX0_endsSearch cX0_endsSearch 3 (some .boolean), Cond.fieldLink RX0 7 "StepMap$Table" "marks" "[I"]
def wsX1_moveToNew_r2 : List Cond := [Cond.methodLink RX0 30 yX0_holds, Cond.instanceMethod yX0_holds, Cond.selects RX0 yX0_holds yX0_holds, Cond.code yX0_holds cX0_holds 3 (some .boolean), Cond.fieldLink RX0 13 "StepMap$Table" "keys" "[I", Cond.methodLink RX1 89 yX0_next, Cond.instanceMethod yX0_next, Cond.selects RX0 yX0_next yX0_next, Cond.code yX0_next cX0_next 2 (some .int), Cond.methodLink RX1 53 yX0_fill, Cond.instanceMethod yX0_fill, Cond.selects RX0 yX0_fill yX0_fill, Cond.code yX0_fill cX0_fill 4 none, Cond.fieldLink RX0 16 "StepMap$Table" "values" "[I"]
def wsX1_moveToNew : List Cond := .code yX1_moveToNew cX1_moveToNew 3 none :: ((wsX1_moveToNew_r1 ++ wsX1_moveToNew_r2) ++ wsX10 ++ wsX00)
def wsX1_moveNextSlots_r1 : List Cond := [Cond.fieldLink RX1 32 "StepMap" "nextToMove" "I", Cond.fieldLink RX1 26 "StepMap" "oldTable" "LStepMap$Table;", Cond.fieldLink RX1 69 "StepMap$Table" "slots" "I", Cond.methodLink RX1 112 Lib.Math.min.name, Cond.static Lib.Math.min.name, Cond.initialized "java/lang/Math", Cond.code Lib.Math.min.name Lib.Math.min.code 2 (some .int), Cond.fieldLink RX1 35 "StepMap" "work" "I", Cond.fieldLink RX1 63 "StepMap$Table" "marks" "[I", Cond.methodLink RX1 118 yX1_moveToNew, Cond.instanceMethod yX1_moveToNew, Cond.selects RX1 yX1_moveToNew yX1_moveToNew, Cond.initialized RX1, Cond.code yX1_moveToNew cX1_moveToNew 3 none, Cond.fieldLink RX1 121 "StepMap$Table" "keys" "[I", Cond.fieldLink RX1 22 "StepMap" "newTable" "LStepMap$Table;", Cond.fieldLink RX1 41 "StepMap$Table" "values" "[I", Cond.methodLink RX1 72 yX1_lookFor, Cond.instanceMethod yX1_lookFor, Cond.selects RX1 yX1_lookFor yX1_lookFor, Cond.code yX1_lookFor cX1_lookFor 5 (some .int), Cond.methodLink RX1 83 yX0_home, Cond.instanceMethod yX0_home, Cond.selects RX0 yX0_home yX0_home]
def wsX1_moveNextSlots_r2 : List Cond := [Cond.initialized RX0, Cond.code yX0_home cX0_home 3 (some .int), Cond.constant RX0 29 (-1640531535), Cond.fieldLink RX0 19 "StepMap$Table" "slots" "I", Cond.methodLink RX1 86 yX0_endsSearch, Cond.instanceMethod yX0_endsSearch, Cond.selects RX0 yX0_endsSearch yX0_endsSearch, Cond.code yX0_endsSearch cX0_endsSearch 3 (some .boolean), Cond.fieldLink RX0 7 "StepMap$Table" "marks" "[I", Cond.methodLink RX0 30 yX0_holds, Cond.instanceMethod yX0_holds, Cond.selects RX0 yX0_holds yX0_holds, Cond.code yX0_holds cX0_holds 3 (some .boolean), Cond.fieldLink RX0 13 "StepMap$Table" "keys" "[I", Cond.methodLink RX1 89 yX0_next, Cond.instanceMethod yX0_next, Cond.selects RX0 yX0_next yX0_next, Cond.code yX0_next cX0_next 2 (some .int), Cond.methodLink RX1 53 yX0_fill, Cond.instanceMethod yX0_fill, Cond.selects RX0 yX0_fill yX0_fill, Cond.code yX0_fill cX0_fill 4 none, Cond.fieldLink RX0 16 "StepMap$Table" "values" "[I"]
def wsX1_moveNextSlots : List Cond := .code yX1_moveNextSlots cX1_moveNextSlots 3 none :: ((wsX1_moveNextSlots_r1 ++ wsX1_moveNextSlots_r2) ++ wsX10 ++ wsX00)
def wsX1_startMigration : List Cond := .code yX1_startMigration cX1_startMigration 3 none :: ([.fieldLink RX1 26 "StepMap" "oldTable" "LStepMap$Table;", .fieldLink RX1 22 "StepMap" "newTable" "LStepMap$Table;", .fieldLink RX1 32 "StepMap" "nextToMove" "I", .methodLink RX1 29 yX0_clear, .instanceMethod yX0_clear, .selects RX0 yX0_clear yX0_clear, .initialized RX0, .code yX0_clear cX0_clear 3 none, .fieldLink RX0 7 "StepMap$Table" "marks" "[I", .methodLink RX0 23 Lib.Math.min.name, .static Lib.Math.min.name, .initialized "java/lang/Math", .code Lib.Math.min.name Lib.Math.min.code 2 (some .int), .fieldLink RX0 19 "StepMap$Table" "slots" "I"] ++ wsX10 ++ wsX00)
def wsX1_isSparse : List Cond := .code yX1_isSparse cX1_isSparse 1 (some .boolean) :: ([.fieldLink RX1 57 "StepMap" "keyCount" "I", .fieldLink RX1 22 "StepMap" "newTable" "LStepMap$Table;", .fieldLink RX1 69 "StepMap$Table" "slots" "I"] ++ wsX10 ++ wsX00)
def wsX1_moveOn_r1 : List Cond := [Cond.fieldLink RX1 57 "StepMap" "keyCount" "I", Cond.fieldLink RX1 22 "StepMap" "newTable" "LStepMap$Table;", Cond.fieldLink RX1 69 "StepMap$Table" "slots" "I", Cond.methodLink RX1 80 yX1_migrating, Cond.instanceMethod yX1_migrating, Cond.selects RX1 yX1_migrating yX1_migrating, Cond.initialized RX1, Cond.code yX1_migrating cX1_migrating 1 (some .boolean), Cond.fieldLink RX1 32 "StepMap" "nextToMove" "I", Cond.methodLink RX1 103 yX1_moveNextSlots, Cond.instanceMethod yX1_moveNextSlots, Cond.selects RX1 yX1_moveNextSlots yX1_moveNextSlots, Cond.code yX1_moveNextSlots cX1_moveNextSlots 3 none, Cond.fieldLink RX1 26 "StepMap" "oldTable" "LStepMap$Table;", Cond.methodLink RX1 112 Lib.Math.min.name, Cond.static Lib.Math.min.name, Cond.initialized "java/lang/Math", Cond.code Lib.Math.min.name Lib.Math.min.code 2 (some .int), Cond.fieldLink RX1 35 "StepMap" "work" "I", Cond.fieldLink RX1 63 "StepMap$Table" "marks" "[I", Cond.methodLink RX1 118 yX1_moveToNew, Cond.instanceMethod yX1_moveToNew, Cond.selects RX1 yX1_moveToNew yX1_moveToNew, Cond.code yX1_moveToNew cX1_moveToNew 3 none]
def wsX1_moveOn_r2 : List Cond := [Cond.fieldLink RX1 121 "StepMap$Table" "keys" "[I", Cond.fieldLink RX1 41 "StepMap$Table" "values" "[I", Cond.methodLink RX1 72 yX1_lookFor, Cond.instanceMethod yX1_lookFor, Cond.selects RX1 yX1_lookFor yX1_lookFor, Cond.code yX1_lookFor cX1_lookFor 5 (some .int), Cond.methodLink RX1 83 yX0_home, Cond.instanceMethod yX0_home, Cond.selects RX0 yX0_home yX0_home, Cond.initialized RX0, Cond.code yX0_home cX0_home 3 (some .int), Cond.constant RX0 29 (-1640531535), Cond.fieldLink RX0 19 "StepMap$Table" "slots" "I", Cond.methodLink RX1 86 yX0_endsSearch, Cond.instanceMethod yX0_endsSearch, Cond.selects RX0 yX0_endsSearch yX0_endsSearch, Cond.code yX0_endsSearch cX0_endsSearch 3 (some .boolean), Cond.fieldLink RX0 7 "StepMap$Table" "marks" "[I", Cond.methodLink RX0 30 yX0_holds, Cond.instanceMethod yX0_holds, Cond.selects RX0 yX0_holds yX0_holds, Cond.code yX0_holds cX0_holds 3 (some .boolean), Cond.fieldLink RX0 13 "StepMap$Table" "keys" "[I", Cond.methodLink RX1 89 yX0_next]
def wsX1_moveOn_r3 : List Cond := [Cond.instanceMethod yX0_next, Cond.selects RX0 yX0_next yX0_next, Cond.code yX0_next cX0_next 2 (some .int), Cond.methodLink RX1 53 yX0_fill, Cond.instanceMethod yX0_fill, Cond.selects RX0 yX0_fill yX0_fill, Cond.code yX0_fill cX0_fill 4 none, Cond.fieldLink RX0 16 "StepMap$Table" "values" "[I", Cond.methodLink RX1 99 yX1_isCrowdedBy, Cond.instanceMethod yX1_isCrowdedBy, Cond.selects RX1 yX1_isCrowdedBy yX1_isCrowdedBy, Cond.code yX1_isCrowdedBy cX1_isCrowdedBy 2 (some .boolean), Cond.methodLink RX1 106 yX1_startMigration, Cond.instanceMethod yX1_startMigration, Cond.selects RX1 yX1_startMigration yX1_startMigration, Cond.code yX1_startMigration cX1_startMigration 3 none, Cond.methodLink RX1 29 yX0_clear, Cond.instanceMethod yX0_clear, Cond.selects RX0 yX0_clear yX0_clear, Cond.code yX0_clear cX0_clear 3 none, Cond.methodLink RX0 23 Lib.Math.min.name, Cond.methodLink RX1 109 yX1_isSparse, Cond.instanceMethod yX1_isSparse, Cond.selects RX1 yX1_isSparse yX1_isSparse]
def wsX1_moveOn_r4 : List Cond := [Cond.code yX1_isSparse cX1_isSparse 1 (some .boolean)]
def wsX1_moveOn : List Cond := .code yX1_moveOn cX1_moveOn 1 none :: ((wsX1_moveOn_r1 ++ (wsX1_moveOn_r2 ++ (wsX1_moveOn_r3 ++ wsX1_moveOn_r4))) ++ wsX10 ++ wsX00)
def wsX1_put_r1 : List Cond := [Cond.fieldLink RX1 35 "StepMap" "work" "I", Cond.fieldLink RX1 26 "StepMap" "oldTable" "LStepMap$Table;", Cond.fieldLink RX1 41 "StepMap$Table" "values" "[I", Cond.fieldLink RX1 22 "StepMap" "newTable" "LStepMap$Table;", Cond.constant RX1 49 (-2000000001), Cond.fieldLink RX1 57 "StepMap" "keyCount" "I", Cond.methodLink RX1 38 yX1_lookUp, Cond.instanceMethod yX1_lookUp, Cond.selects RX1 yX1_lookUp yX1_lookUp, Cond.initialized RX1, Cond.code yX1_lookUp cX1_lookUp 4 (some .int), Cond.methodLink RX1 72 yX1_lookFor, Cond.instanceMethod yX1_lookFor, Cond.selects RX1 yX1_lookFor yX1_lookFor, Cond.code yX1_lookFor cX1_lookFor 5 (some .int), Cond.fieldLink RX1 69 "StepMap$Table" "slots" "I", Cond.methodLink RX1 83 yX0_home, Cond.instanceMethod yX0_home, Cond.selects RX0 yX0_home yX0_home, Cond.initialized RX0, Cond.code yX0_home cX0_home 3 (some .int), Cond.constant RX0 29 (-1640531535), Cond.fieldLink RX0 19 "StepMap$Table" "slots" "I", Cond.methodLink RX1 86 yX0_endsSearch]
def wsX1_put_r2 : List Cond := [Cond.instanceMethod yX0_endsSearch, Cond.selects RX0 yX0_endsSearch yX0_endsSearch, Cond.code yX0_endsSearch cX0_endsSearch 3 (some .boolean), Cond.fieldLink RX0 7 "StepMap$Table" "marks" "[I", Cond.methodLink RX0 30 yX0_holds, Cond.instanceMethod yX0_holds, Cond.selects RX0 yX0_holds yX0_holds, Cond.code yX0_holds cX0_holds 3 (some .boolean), Cond.fieldLink RX0 13 "StepMap$Table" "keys" "[I", Cond.methodLink RX1 89 yX0_next, Cond.instanceMethod yX0_next, Cond.selects RX0 yX0_next yX0_next, Cond.code yX0_next cX0_next 2 (some .int), Cond.methodLink RX1 76 yX0_holds, Cond.methodLink RX1 80 yX1_migrating, Cond.instanceMethod yX1_migrating, Cond.selects RX1 yX1_migrating yX1_migrating, Cond.code yX1_migrating cX1_migrating 1 (some .boolean), Cond.fieldLink RX1 32 "StepMap" "nextToMove" "I", Cond.methodLink RX1 45 yX1_wouldOutgrowHalf, Cond.instanceMethod yX1_wouldOutgrowHalf, Cond.selects RX1 yX1_wouldOutgrowHalf yX1_wouldOutgrowHalf, Cond.code yX1_wouldOutgrowHalf cX1_wouldOutgrowHalf 2 (some .boolean), Cond.fieldLink RX1 13 "StepMap" "half" "I"]
def wsX1_put_r3 : List Cond := [Cond.methodLink RX1 99 yX1_isCrowdedBy, Cond.instanceMethod yX1_isCrowdedBy, Cond.selects RX1 yX1_isCrowdedBy yX1_isCrowdedBy, Cond.code yX1_isCrowdedBy cX1_isCrowdedBy 2 (some .boolean), Cond.methodLink RX1 50 yX1_emptySlot, Cond.static yX1_emptySlot, Cond.code yX1_emptySlot cX1_emptySlot 1 (some .int), Cond.methodLink RX1 53 yX0_fill, Cond.instanceMethod yX0_fill, Cond.selects RX0 yX0_fill yX0_fill, Cond.code yX0_fill cX0_fill 4 none, Cond.fieldLink RX0 16 "StepMap$Table" "values" "[I", Cond.methodLink RX1 60 yX1_moveOn, Cond.instanceMethod yX1_moveOn, Cond.selects RX1 yX1_moveOn yX1_moveOn, Cond.code yX1_moveOn cX1_moveOn 1 none, Cond.methodLink RX1 103 yX1_moveNextSlots, Cond.instanceMethod yX1_moveNextSlots, Cond.selects RX1 yX1_moveNextSlots yX1_moveNextSlots, Cond.code yX1_moveNextSlots cX1_moveNextSlots 3 none, Cond.methodLink RX1 112 Lib.Math.min.name, Cond.static Lib.Math.min.name, Cond.initialized "java/lang/Math", Cond.code Lib.Math.min.name Lib.Math.min.code 2 (some .int)]
def wsX1_put_r4 : List Cond := [Cond.fieldLink RX1 63 "StepMap$Table" "marks" "[I", Cond.methodLink RX1 118 yX1_moveToNew, Cond.instanceMethod yX1_moveToNew, Cond.selects RX1 yX1_moveToNew yX1_moveToNew, Cond.code yX1_moveToNew cX1_moveToNew 3 none, Cond.fieldLink RX1 121 "StepMap$Table" "keys" "[I", Cond.methodLink RX1 106 yX1_startMigration, Cond.instanceMethod yX1_startMigration, Cond.selects RX1 yX1_startMigration yX1_startMigration, Cond.code yX1_startMigration cX1_startMigration 3 none, Cond.methodLink RX1 29 yX0_clear, Cond.instanceMethod yX0_clear, Cond.selects RX0 yX0_clear yX0_clear, Cond.code yX0_clear cX0_clear 3 none, Cond.methodLink RX0 23 Lib.Math.min.name, Cond.methodLink RX1 109 yX1_isSparse, Cond.instanceMethod yX1_isSparse, Cond.selects RX1 yX1_isSparse yX1_isSparse, Cond.code yX1_isSparse cX1_isSparse 1 (some .boolean)]
def wsX1_put : List Cond := .code yX1_put cX1_put 4 (some .int) :: ((wsX1_put_r1 ++ (wsX1_put_r2 ++ (wsX1_put_r3 ++ wsX1_put_r4))) ++ wsX10 ++ wsX00)
def wsX1_get_r1 : List Cond := [Cond.fieldLink RX1 35 "StepMap" "work" "I", Cond.fieldLink RX1 26 "StepMap" "oldTable" "LStepMap$Table;", Cond.fieldLink RX1 41 "StepMap$Table" "values" "[I", Cond.fieldLink RX1 22 "StepMap" "newTable" "LStepMap$Table;", Cond.methodLink RX1 38 yX1_lookUp, Cond.instanceMethod yX1_lookUp, Cond.selects RX1 yX1_lookUp yX1_lookUp, Cond.initialized RX1, Cond.code yX1_lookUp cX1_lookUp 4 (some .int), Cond.methodLink RX1 72 yX1_lookFor, Cond.instanceMethod yX1_lookFor, Cond.selects RX1 yX1_lookFor yX1_lookFor, Cond.code yX1_lookFor cX1_lookFor 5 (some .int), Cond.fieldLink RX1 69 "StepMap$Table" "slots" "I", Cond.methodLink RX1 83 yX0_home, Cond.instanceMethod yX0_home, Cond.selects RX0 yX0_home yX0_home, Cond.initialized RX0, Cond.code yX0_home cX0_home 3 (some .int), Cond.constant RX0 29 (-1640531535), Cond.fieldLink RX0 19 "StepMap$Table" "slots" "I", Cond.methodLink RX1 86 yX0_endsSearch, Cond.instanceMethod yX0_endsSearch, Cond.selects RX0 yX0_endsSearch yX0_endsSearch]
def wsX1_get_r2 : List Cond := [Cond.code yX0_endsSearch cX0_endsSearch 3 (some .boolean), Cond.fieldLink RX0 7 "StepMap$Table" "marks" "[I", Cond.methodLink RX0 30 yX0_holds, Cond.instanceMethod yX0_holds, Cond.selects RX0 yX0_holds yX0_holds, Cond.code yX0_holds cX0_holds 3 (some .boolean), Cond.fieldLink RX0 13 "StepMap$Table" "keys" "[I", Cond.methodLink RX1 89 yX0_next, Cond.instanceMethod yX0_next, Cond.selects RX0 yX0_next yX0_next, Cond.code yX0_next cX0_next 2 (some .int), Cond.methodLink RX1 76 yX0_holds, Cond.methodLink RX1 80 yX1_migrating, Cond.instanceMethod yX1_migrating, Cond.selects RX1 yX1_migrating yX1_migrating, Cond.code yX1_migrating cX1_migrating 1 (some .boolean), Cond.fieldLink RX1 32 "StepMap" "nextToMove" "I"]
def wsX1_get : List Cond := .code yX1_get cX1_get 3 (some .int) :: ((wsX1_get_r1 ++ wsX1_get_r2) ++ wsX10 ++ wsX00)
def wsX1_has_r1 : List Cond := [Cond.fieldLink RX1 35 "StepMap" "work" "I", Cond.methodLink RX1 38 yX1_lookUp, Cond.instanceMethod yX1_lookUp, Cond.selects RX1 yX1_lookUp yX1_lookUp, Cond.initialized RX1, Cond.code yX1_lookUp cX1_lookUp 4 (some .int), Cond.fieldLink RX1 22 "StepMap" "newTable" "LStepMap$Table;", Cond.fieldLink RX1 26 "StepMap" "oldTable" "LStepMap$Table;", Cond.methodLink RX1 72 yX1_lookFor, Cond.instanceMethod yX1_lookFor, Cond.selects RX1 yX1_lookFor yX1_lookFor, Cond.code yX1_lookFor cX1_lookFor 5 (some .int), Cond.fieldLink RX1 69 "StepMap$Table" "slots" "I", Cond.methodLink RX1 83 yX0_home, Cond.instanceMethod yX0_home, Cond.selects RX0 yX0_home yX0_home, Cond.initialized RX0, Cond.code yX0_home cX0_home 3 (some .int), Cond.constant RX0 29 (-1640531535), Cond.fieldLink RX0 19 "StepMap$Table" "slots" "I", Cond.methodLink RX1 86 yX0_endsSearch, Cond.instanceMethod yX0_endsSearch, Cond.selects RX0 yX0_endsSearch yX0_endsSearch, Cond.code yX0_endsSearch cX0_endsSearch 3 (some .boolean)]
def wsX1_has_r2 : List Cond := [Cond.fieldLink RX0 7 "StepMap$Table" "marks" "[I", Cond.methodLink RX0 30 yX0_holds, Cond.instanceMethod yX0_holds, Cond.selects RX0 yX0_holds yX0_holds, Cond.code yX0_holds cX0_holds 3 (some .boolean), Cond.fieldLink RX0 13 "StepMap$Table" "keys" "[I", Cond.methodLink RX1 89 yX0_next, Cond.instanceMethod yX0_next, Cond.selects RX0 yX0_next yX0_next, Cond.code yX0_next cX0_next 2 (some .int), Cond.methodLink RX1 76 yX0_holds, Cond.methodLink RX1 80 yX1_migrating, Cond.instanceMethod yX1_migrating, Cond.selects RX1 yX1_migrating yX1_migrating, Cond.code yX1_migrating cX1_migrating 1 (some .boolean), Cond.fieldLink RX1 32 "StepMap" "nextToMove" "I"]
def wsX1_has : List Cond := .code yX1_has cX1_has 2 (some .boolean) :: ((wsX1_has_r1 ++ wsX1_has_r2) ++ wsX10 ++ wsX00)
def wsX1_freeInNew_r1 : List Cond := [Cond.fieldLink RX1 22 "StepMap" "newTable" "LStepMap$Table;", Cond.fieldLink RX1 63 "StepMap$Table" "marks" "[I", Cond.fieldLink RX1 35 "StepMap" "work" "I", Cond.fieldLink RX1 69 "StepMap$Table" "slots" "I", Cond.methodLink RX1 89 yX0_next, Cond.instanceMethod yX0_next, Cond.selects RX0 yX0_next yX0_next, Cond.initialized RX0, Cond.code yX0_next cX0_next 2 (some .int), Cond.fieldLink RX0 19 "StepMap$Table" "slots" "I", Cond.methodLink RX1 92 yX0_reachesBack, Cond.instanceMethod yX0_reachesBack, Cond.selects RX0 yX0_reachesBack yX0_reachesBack, Cond.code yX0_reachesBack cX0_reachesBack 3 (some .boolean), Cond.fieldLink RX0 13 "StepMap$Table" "keys" "[I", Cond.methodLink RX0 34 yX0_home, Cond.instanceMethod yX0_home, Cond.selects RX0 yX0_home yX0_home, Cond.code yX0_home cX0_home 3 (some .int), Cond.constant RX0 29 (-1640531535), Cond.methodLink RX0 38 yX0_ringDistance, Cond.instanceMethod yX0_ringDistance, Cond.selects RX0 yX0_ringDistance yX0_ringDistance, Cond.code yX0_ringDistance cX0_ringDistance 3 (some .int)]
def wsX1_freeInNew_r2 : List Cond := [Cond.methodLink RX1 95 yX0_shift, Cond.instanceMethod yX0_shift, Cond.selects RX0 yX0_shift yX0_shift, Cond.code yX0_shift cX0_shift 3 none, Cond.fieldLink RX0 16 "StepMap$Table" "values" "[I", Cond.fieldLink RX0 7 "StepMap$Table" "marks" "[I", Cond.methodLink RX0 41 yX0_fill, Cond.instanceMethod yX0_fill, Cond.selects RX0 yX0_fill yX0_fill, Cond.code yX0_fill cX0_fill 4 none]
def wsX1_freeInNew : List Cond := .code yX1_freeInNew cX1_freeInNew 5 none :: ((wsX1_freeInNew_r1 ++ wsX1_freeInNew_r2) ++ wsX10 ++ wsX00)
def wsX1_remove_r1 : List Cond := [Cond.fieldLink RX1 35 "StepMap" "work" "I", Cond.fieldLink RX1 26 "StepMap" "oldTable" "LStepMap$Table;", Cond.fieldLink RX1 63 "StepMap$Table" "marks" "[I", Cond.fieldLink RX1 57 "StepMap" "keyCount" "I", Cond.methodLink RX1 38 yX1_lookUp, Cond.instanceMethod yX1_lookUp, Cond.selects RX1 yX1_lookUp yX1_lookUp, Cond.initialized RX1, Cond.code yX1_lookUp cX1_lookUp 4 (some .int), Cond.fieldLink RX1 22 "StepMap" "newTable" "LStepMap$Table;", Cond.methodLink RX1 72 yX1_lookFor, Cond.instanceMethod yX1_lookFor, Cond.selects RX1 yX1_lookFor yX1_lookFor, Cond.code yX1_lookFor cX1_lookFor 5 (some .int), Cond.fieldLink RX1 69 "StepMap$Table" "slots" "I", Cond.methodLink RX1 83 yX0_home, Cond.instanceMethod yX0_home, Cond.selects RX0 yX0_home yX0_home, Cond.initialized RX0, Cond.code yX0_home cX0_home 3 (some .int), Cond.constant RX0 29 (-1640531535), Cond.fieldLink RX0 19 "StepMap$Table" "slots" "I", Cond.methodLink RX1 86 yX0_endsSearch, Cond.instanceMethod yX0_endsSearch]
def wsX1_remove_r2 : List Cond := [Cond.selects RX0 yX0_endsSearch yX0_endsSearch, Cond.code yX0_endsSearch cX0_endsSearch 3 (some .boolean), Cond.fieldLink RX0 7 "StepMap$Table" "marks" "[I", Cond.methodLink RX0 30 yX0_holds, Cond.instanceMethod yX0_holds, Cond.selects RX0 yX0_holds yX0_holds, Cond.code yX0_holds cX0_holds 3 (some .boolean), Cond.fieldLink RX0 13 "StepMap$Table" "keys" "[I", Cond.methodLink RX1 89 yX0_next, Cond.instanceMethod yX0_next, Cond.selects RX0 yX0_next yX0_next, Cond.code yX0_next cX0_next 2 (some .int), Cond.methodLink RX1 76 yX0_holds, Cond.methodLink RX1 80 yX1_migrating, Cond.instanceMethod yX1_migrating, Cond.selects RX1 yX1_migrating yX1_migrating, Cond.code yX1_migrating cX1_migrating 1 (some .boolean), Cond.fieldLink RX1 32 "StepMap" "nextToMove" "I", Cond.methodLink RX1 66 yX1_freeInNew, Cond.instanceMethod yX1_freeInNew, Cond.selects RX1 yX1_freeInNew yX1_freeInNew, Cond.code yX1_freeInNew cX1_freeInNew 5 none, Cond.methodLink RX1 92 yX0_reachesBack, Cond.instanceMethod yX0_reachesBack]
def wsX1_remove_r3 : List Cond := [Cond.selects RX0 yX0_reachesBack yX0_reachesBack, Cond.code yX0_reachesBack cX0_reachesBack 3 (some .boolean), Cond.methodLink RX0 34 yX0_home, Cond.methodLink RX0 38 yX0_ringDistance, Cond.instanceMethod yX0_ringDistance, Cond.selects RX0 yX0_ringDistance yX0_ringDistance, Cond.code yX0_ringDistance cX0_ringDistance 3 (some .int), Cond.methodLink RX1 95 yX0_shift, Cond.instanceMethod yX0_shift, Cond.selects RX0 yX0_shift yX0_shift, Cond.code yX0_shift cX0_shift 3 none, Cond.fieldLink RX0 16 "StepMap$Table" "values" "[I", Cond.methodLink RX0 41 yX0_fill, Cond.instanceMethod yX0_fill, Cond.selects RX0 yX0_fill yX0_fill, Cond.code yX0_fill cX0_fill 4 none, Cond.methodLink RX1 60 yX1_moveOn, Cond.instanceMethod yX1_moveOn, Cond.selects RX1 yX1_moveOn yX1_moveOn, Cond.code yX1_moveOn cX1_moveOn 1 none, Cond.methodLink RX1 103 yX1_moveNextSlots, Cond.instanceMethod yX1_moveNextSlots, Cond.selects RX1 yX1_moveNextSlots yX1_moveNextSlots, Cond.code yX1_moveNextSlots cX1_moveNextSlots 3 none]
def wsX1_remove_r4 : List Cond := [Cond.methodLink RX1 112 Lib.Math.min.name, Cond.static Lib.Math.min.name, Cond.initialized "java/lang/Math", Cond.code Lib.Math.min.name Lib.Math.min.code 2 (some .int), Cond.methodLink RX1 118 yX1_moveToNew, Cond.instanceMethod yX1_moveToNew, Cond.selects RX1 yX1_moveToNew yX1_moveToNew, Cond.code yX1_moveToNew cX1_moveToNew 3 none, Cond.fieldLink RX1 121 "StepMap$Table" "keys" "[I", Cond.fieldLink RX1 41 "StepMap$Table" "values" "[I", Cond.methodLink RX1 53 yX0_fill, Cond.methodLink RX1 99 yX1_isCrowdedBy, Cond.instanceMethod yX1_isCrowdedBy, Cond.selects RX1 yX1_isCrowdedBy yX1_isCrowdedBy, Cond.code yX1_isCrowdedBy cX1_isCrowdedBy 2 (some .boolean), Cond.methodLink RX1 106 yX1_startMigration, Cond.instanceMethod yX1_startMigration, Cond.selects RX1 yX1_startMigration yX1_startMigration, Cond.code yX1_startMigration cX1_startMigration 3 none, Cond.methodLink RX1 29 yX0_clear, Cond.instanceMethod yX0_clear, Cond.selects RX0 yX0_clear yX0_clear, Cond.code yX0_clear cX0_clear 3 none, Cond.methodLink RX0 23 Lib.Math.min.name]
def wsX1_remove_r5 : List Cond := [Cond.methodLink RX1 109 yX1_isSparse, Cond.instanceMethod yX1_isSparse, Cond.selects RX1 yX1_isSparse yX1_isSparse, Cond.code yX1_isSparse cX1_isSparse 1 (some .boolean)]
def wsX1_remove : List Cond := .code yX1_remove cX1_remove 3 (some .boolean) :: ((wsX1_remove_r1 ++ (wsX1_remove_r2 ++ (wsX1_remove_r3 ++ (wsX1_remove_r4 ++ wsX1_remove_r5)))) ++ wsX10 ++ wsX00)
def wsX1_size : List Cond := .code yX1_size cX1_size 1 (some .int) :: ([.fieldLink RX1 57 "StepMap" "keyCount" "I"] ++ wsX10)
def wsX1_capacity : List Cond := .code yX1_capacity cX1_capacity 1 (some .int) :: ([.fieldLink RX1 22 "StepMap" "newTable" "LStepMap$Table;", .fieldLink RX1 69 "StepMap$Table" "slots" "I"] ++ wsX10 ++ wsX00)
def wsX1_lastWork : List Cond := .code yX1_lastWork cX1_lastWork 1 (some .int) :: ([.fieldLink RX1 35 "StepMap" "work" "I"] ++ wsX10)
def wsX1_slot_r1 : List Cond := [Cond.fieldLink RX1 35 "StepMap" "work" "I", Cond.methodLink RX1 38 yX1_lookUp, Cond.instanceMethod yX1_lookUp, Cond.selects RX1 yX1_lookUp yX1_lookUp, Cond.initialized RX1, Cond.code yX1_lookUp cX1_lookUp 4 (some .int), Cond.fieldLink RX1 22 "StepMap" "newTable" "LStepMap$Table;", Cond.fieldLink RX1 26 "StepMap" "oldTable" "LStepMap$Table;", Cond.methodLink RX1 72 yX1_lookFor, Cond.instanceMethod yX1_lookFor, Cond.selects RX1 yX1_lookFor yX1_lookFor, Cond.code yX1_lookFor cX1_lookFor 5 (some .int), Cond.fieldLink RX1 69 "StepMap$Table" "slots" "I", Cond.methodLink RX1 83 yX0_home, Cond.instanceMethod yX0_home, Cond.selects RX0 yX0_home yX0_home, Cond.initialized RX0, Cond.code yX0_home cX0_home 3 (some .int), Cond.constant RX0 29 (-1640531535), Cond.fieldLink RX0 19 "StepMap$Table" "slots" "I", Cond.methodLink RX1 86 yX0_endsSearch, Cond.instanceMethod yX0_endsSearch, Cond.selects RX0 yX0_endsSearch yX0_endsSearch, Cond.code yX0_endsSearch cX0_endsSearch 3 (some .boolean)]
def wsX1_slot_r2 : List Cond := [Cond.fieldLink RX0 7 "StepMap$Table" "marks" "[I", Cond.methodLink RX0 30 yX0_holds, Cond.instanceMethod yX0_holds, Cond.selects RX0 yX0_holds yX0_holds, Cond.code yX0_holds cX0_holds 3 (some .boolean), Cond.fieldLink RX0 13 "StepMap$Table" "keys" "[I", Cond.methodLink RX1 89 yX0_next, Cond.instanceMethod yX0_next, Cond.selects RX0 yX0_next yX0_next, Cond.code yX0_next cX0_next 2 (some .int), Cond.methodLink RX1 76 yX0_holds, Cond.methodLink RX1 80 yX1_migrating, Cond.instanceMethod yX1_migrating, Cond.selects RX1 yX1_migrating yX1_migrating, Cond.code yX1_migrating cX1_migrating 1 (some .boolean), Cond.fieldLink RX1 32 "StepMap" "nextToMove" "I"]
def wsX1_slot : List Cond := .code yX1_slot cX1_slot 4 (some .int) :: ((wsX1_slot_r1 ++ wsX1_slot_r2) ++ wsX10 ++ wsX00)
def wsX1_cursor : List Cond := .code yX1_cursor cX1_cursor 1 (some .int) :: ([.fieldLink RX1 32 "StepMap" "nextToMove" "I"] ++ wsX10)
def wsX2_init : List Cond := .code yX2_init cX2_init 3 none :: ([.methodLink RX2 1 objectInit, .instanceMethod objectInit, .code objectInit ⟨#[0xb1]⟩ 1 none, .arrayClass .int, .fieldLink RX2 7 "StepMapModel" "states" "[I", .fieldLink RX2 13 "StepMapModel" "keys" "[I", .fieldLink RX2 16 "StepMapModel" "values" "[I", .fieldLink RX2 19 "StepMapModel" "sizes" "[I", .fieldLink RX2 22 "StepMapModel" "half" "I"] ++ wsX20)
def wsX2_home : List Cond := .code yX2_home cX2_home 5 (some .int) :: ([.constant RX2 29 (-1640531535), .fieldLink RX2 19 "StepMapModel" "sizes" "[I"] ++ wsX20)
def wsX2_behind : List Cond := .code yX2_behind cX2_behind 3 (some .int) :: ([.fieldLink RX2 19 "StepMapModel" "sizes" "[I"] ++ wsX20)
def wsX2_at : List Cond := .code yX2_at cX2_at 3 (some .int) :: ([])
def wsX2_look : List Cond := .code yX2_look cX2_look 4 (some .int) :: ([.fieldLink RX2 34 "StepMapModel" "visits" "I", .fieldLink RX2 7 "StepMapModel" "states" "[I", .fieldLink RX2 13 "StepMapModel" "keys" "[I", .methodLink RX2 30 yX2_home, .instanceMethod yX2_home, .selects RX2 yX2_home yX2_home, .initialized RX2, .code yX2_home cX2_home 5 (some .int), .constant RX2 29 (-1640531535), .fieldLink RX2 19 "StepMapModel" "sizes" "[I", .methodLink RX2 37 yX2_at, .instanceMethod yX2_at, .selects RX2 yX2_at yX2_at, .code yX2_at cX2_at 3 (some .int), .methodLink RX2 40 yX2_behind, .instanceMethod yX2_behind, .selects RX2 yX2_behind yX2_behind, .code yX2_behind cX2_behind 3 (some .int)] ++ wsX20)
def wsX2_lay : List Cond := .code yX2_lay cX2_lay 5 none :: ([.fieldLink RX2 7 "StepMapModel" "states" "[I", .fieldLink RX2 13 "StepMapModel" "keys" "[I", .fieldLink RX2 16 "StepMapModel" "values" "[I", .methodLink RX2 37 yX2_at, .instanceMethod yX2_at, .selects RX2 yX2_at yX2_at, .initialized RX2, .code yX2_at cX2_at 3 (some .int)] ++ wsX20)
def wsX2_moveSome_r1 : List Cond := [Cond.fieldLink RX2 43 "StepMapModel" "current" "I", Cond.fieldLink RX2 46 "StepMapModel" "cursor" "I", Cond.fieldLink RX2 19 "StepMapModel" "sizes" "[I", Cond.fieldLink RX2 34 "StepMapModel" "visits" "I", Cond.fieldLink RX2 7 "StepMapModel" "states" "[I", Cond.fieldLink RX2 13 "StepMapModel" "keys" "[I", Cond.fieldLink RX2 16 "StepMapModel" "values" "[I", Cond.fieldLink RX2 56 "StepMapModel" "moving" "Z", Cond.methodLink RX2 37 yX2_at, Cond.instanceMethod yX2_at, Cond.selects RX2 yX2_at yX2_at, Cond.initialized RX2, Cond.code yX2_at cX2_at 3 (some .int), Cond.methodLink RX2 49 yX2_look, Cond.instanceMethod yX2_look, Cond.selects RX2 yX2_look yX2_look, Cond.code yX2_look cX2_look 4 (some .int), Cond.methodLink RX2 30 yX2_home, Cond.instanceMethod yX2_home, Cond.selects RX2 yX2_home yX2_home, Cond.code yX2_home cX2_home 5 (some .int), Cond.constant RX2 29 (-1640531535), Cond.methodLink RX2 40 yX2_behind, Cond.instanceMethod yX2_behind]
def wsX2_moveSome_r2 : List Cond := [Cond.selects RX2 yX2_behind yX2_behind, Cond.code yX2_behind cX2_behind 3 (some .int), Cond.methodLink RX2 52 yX2_lay, Cond.instanceMethod yX2_lay, Cond.selects RX2 yX2_lay yX2_lay, Cond.code yX2_lay cX2_lay 5 none]
def wsX2_moveSome : List Cond := .code yX2_moveSome cX2_moveSome 5 none :: ((wsX2_moveSome_r1 ++ wsX2_moveSome_r2) ++ wsX20)
def wsX2_become : List Cond := .code yX2_become cX2_become 3 none :: ([.fieldLink RX2 43 "StepMapModel" "current" "I", .fieldLink RX2 19 "StepMapModel" "sizes" "[I", .fieldLink RX2 7 "StepMapModel" "states" "[I", .fieldLink RX2 46 "StepMapModel" "cursor" "I", .fieldLink RX2 56 "StepMapModel" "moving" "Z", .methodLink RX2 37 yX2_at, .instanceMethod yX2_at, .selects RX2 yX2_at yX2_at, .initialized RX2, .code yX2_at cX2_at 3 (some .int)] ++ wsX20)
def wsX2_settle_r1 : List Cond := [Cond.fieldLink RX2 56 "StepMapModel" "moving" "Z", Cond.fieldLink RX2 19 "StepMapModel" "sizes" "[I", Cond.fieldLink RX2 43 "StepMapModel" "current" "I", Cond.fieldLink RX2 63 "StepMapModel" "count" "I", Cond.methodLink RX2 60 yX2_moveSome, Cond.instanceMethod yX2_moveSome, Cond.selects RX2 yX2_moveSome yX2_moveSome, Cond.initialized RX2, Cond.code yX2_moveSome cX2_moveSome 5 none, Cond.fieldLink RX2 46 "StepMapModel" "cursor" "I", Cond.fieldLink RX2 34 "StepMapModel" "visits" "I", Cond.fieldLink RX2 7 "StepMapModel" "states" "[I", Cond.fieldLink RX2 13 "StepMapModel" "keys" "[I", Cond.fieldLink RX2 16 "StepMapModel" "values" "[I", Cond.methodLink RX2 37 yX2_at, Cond.instanceMethod yX2_at, Cond.selects RX2 yX2_at yX2_at, Cond.code yX2_at cX2_at 3 (some .int), Cond.methodLink RX2 49 yX2_look, Cond.instanceMethod yX2_look, Cond.selects RX2 yX2_look yX2_look, Cond.code yX2_look cX2_look 4 (some .int), Cond.methodLink RX2 30 yX2_home, Cond.instanceMethod yX2_home]
def wsX2_settle_r2 : List Cond := [Cond.selects RX2 yX2_home yX2_home, Cond.code yX2_home cX2_home 5 (some .int), Cond.constant RX2 29 (-1640531535), Cond.methodLink RX2 40 yX2_behind, Cond.instanceMethod yX2_behind, Cond.selects RX2 yX2_behind yX2_behind, Cond.code yX2_behind cX2_behind 3 (some .int), Cond.methodLink RX2 52 yX2_lay, Cond.instanceMethod yX2_lay, Cond.selects RX2 yX2_lay yX2_lay, Cond.code yX2_lay cX2_lay 5 none, Cond.methodLink RX2 66 yX2_become, Cond.instanceMethod yX2_become, Cond.selects RX2 yX2_become yX2_become, Cond.code yX2_become cX2_become 3 none]
def wsX2_settle : List Cond := .code yX2_settle cX2_settle 2 none :: ((wsX2_settle_r1 ++ wsX2_settle_r2) ++ wsX20)
def wsX2_isFull : List Cond := .code yX2_isFull cX2_isFull 2 (some .boolean) :: ([.fieldLink RX2 56 "StepMapModel" "moving" "Z", .fieldLink RX2 19 "StepMapModel" "sizes" "[I", .fieldLink RX2 43 "StepMapModel" "current" "I", .fieldLink RX2 46 "StepMapModel" "cursor" "I", .fieldLink RX2 63 "StepMapModel" "count" "I", .fieldLink RX2 22 "StepMapModel" "half" "I"] ++ wsX20)
def wsX2_find : List Cond := .code yX2_find cX2_find 4 (some .int) :: ([.fieldLink RX2 43 "StepMapModel" "current" "I", .fieldLink RX2 56 "StepMapModel" "moving" "Z", .methodLink RX2 49 yX2_look, .instanceMethod yX2_look, .selects RX2 yX2_look yX2_look, .initialized RX2, .code yX2_look cX2_look 4 (some .int), .fieldLink RX2 34 "StepMapModel" "visits" "I", .fieldLink RX2 7 "StepMapModel" "states" "[I", .fieldLink RX2 13 "StepMapModel" "keys" "[I", .methodLink RX2 30 yX2_home, .instanceMethod yX2_home, .selects RX2 yX2_home yX2_home, .code yX2_home cX2_home 5 (some .int), .constant RX2 29 (-1640531535), .fieldLink RX2 19 "StepMapModel" "sizes" "[I", .methodLink RX2 37 yX2_at, .instanceMethod yX2_at, .selects RX2 yX2_at yX2_at, .code yX2_at cX2_at 3 (some .int), .methodLink RX2 40 yX2_behind, .instanceMethod yX2_behind, .selects RX2 yX2_behind yX2_behind, .code yX2_behind cX2_behind 3 (some .int)] ++ wsX20)
def wsX2_put_r1 : List Cond := [Cond.fieldLink RX2 26 "StepMapModel" "thrown" "I", Cond.fieldLink RX2 34 "StepMapModel" "visits" "I", Cond.fieldLink RX2 43 "StepMapModel" "current" "I", Cond.fieldLink RX2 56 "StepMapModel" "moving" "Z", Cond.fieldLink RX2 16 "StepMapModel" "values" "[I", Cond.constant RX2 74 (-2000000001), Cond.fieldLink RX2 63 "StepMapModel" "count" "I", Cond.fieldLink RX2 78 "StepMapModel" "work" "I", Cond.methodLink RX2 49 yX2_look, Cond.instanceMethod yX2_look, Cond.selects RX2 yX2_look yX2_look, Cond.initialized RX2, Cond.code yX2_look cX2_look 4 (some .int), Cond.fieldLink RX2 7 "StepMapModel" "states" "[I", Cond.fieldLink RX2 13 "StepMapModel" "keys" "[I", Cond.methodLink RX2 30 yX2_home, Cond.instanceMethod yX2_home, Cond.selects RX2 yX2_home yX2_home, Cond.code yX2_home cX2_home 5 (some .int), Cond.constant RX2 29 (-1640531535), Cond.fieldLink RX2 19 "StepMapModel" "sizes" "[I", Cond.methodLink RX2 37 yX2_at, Cond.instanceMethod yX2_at, Cond.selects RX2 yX2_at yX2_at]
def wsX2_put_r2 : List Cond := [Cond.code yX2_at cX2_at 3 (some .int), Cond.methodLink RX2 40 yX2_behind, Cond.instanceMethod yX2_behind, Cond.selects RX2 yX2_behind yX2_behind, Cond.code yX2_behind cX2_behind 3 (some .int), Cond.methodLink RX2 70 yX2_isFull, Cond.instanceMethod yX2_isFull, Cond.selects RX2 yX2_isFull yX2_isFull, Cond.code yX2_isFull cX2_isFull 2 (some .boolean), Cond.fieldLink RX2 46 "StepMapModel" "cursor" "I", Cond.fieldLink RX2 22 "StepMapModel" "half" "I", Cond.methodLink RX2 52 yX2_lay, Cond.instanceMethod yX2_lay, Cond.selects RX2 yX2_lay yX2_lay, Cond.code yX2_lay cX2_lay 5 none, Cond.methodLink RX2 75 yX2_settle, Cond.instanceMethod yX2_settle, Cond.selects RX2 yX2_settle yX2_settle, Cond.code yX2_settle cX2_settle 2 none, Cond.methodLink RX2 60 yX2_moveSome, Cond.instanceMethod yX2_moveSome, Cond.selects RX2 yX2_moveSome yX2_moveSome, Cond.code yX2_moveSome cX2_moveSome 5 none, Cond.methodLink RX2 66 yX2_become]
def wsX2_put_r3 : List Cond := [Cond.instanceMethod yX2_become, Cond.selects RX2 yX2_become yX2_become, Cond.code yX2_become cX2_become 3 none]
def wsX2_put : List Cond := .code yX2_put cX2_put 6 (some .int) :: ((wsX2_put_r1 ++ (wsX2_put_r2 ++ wsX2_put_r3)) ++ wsX20)
def wsX2_get_r1 : List Cond := [Cond.fieldLink RX2 26 "StepMapModel" "thrown" "I", Cond.fieldLink RX2 34 "StepMapModel" "visits" "I", Cond.fieldLink RX2 78 "StepMapModel" "work" "I", Cond.fieldLink RX2 16 "StepMapModel" "values" "[I", Cond.methodLink RX2 81 yX2_find, Cond.instanceMethod yX2_find, Cond.selects RX2 yX2_find yX2_find, Cond.initialized RX2, Cond.code yX2_find cX2_find 4 (some .int), Cond.fieldLink RX2 43 "StepMapModel" "current" "I", Cond.fieldLink RX2 56 "StepMapModel" "moving" "Z", Cond.methodLink RX2 49 yX2_look, Cond.instanceMethod yX2_look, Cond.selects RX2 yX2_look yX2_look, Cond.code yX2_look cX2_look 4 (some .int), Cond.fieldLink RX2 7 "StepMapModel" "states" "[I", Cond.fieldLink RX2 13 "StepMapModel" "keys" "[I", Cond.methodLink RX2 30 yX2_home, Cond.instanceMethod yX2_home, Cond.selects RX2 yX2_home yX2_home, Cond.code yX2_home cX2_home 5 (some .int), Cond.constant RX2 29 (-1640531535), Cond.fieldLink RX2 19 "StepMapModel" "sizes" "[I", Cond.methodLink RX2 37 yX2_at]
def wsX2_get_r2 : List Cond := [Cond.instanceMethod yX2_at, Cond.selects RX2 yX2_at yX2_at, Cond.code yX2_at cX2_at 3 (some .int), Cond.methodLink RX2 40 yX2_behind, Cond.instanceMethod yX2_behind, Cond.selects RX2 yX2_behind yX2_behind, Cond.code yX2_behind cX2_behind 3 (some .int)]
def wsX2_get : List Cond := .code yX2_get cX2_get 3 (some .int) :: ((wsX2_get_r1 ++ wsX2_get_r2) ++ wsX20)
def wsX2_has_r1 : List Cond := [Cond.fieldLink RX2 26 "StepMapModel" "thrown" "I", Cond.fieldLink RX2 34 "StepMapModel" "visits" "I", Cond.fieldLink RX2 78 "StepMapModel" "work" "I", Cond.methodLink RX2 81 yX2_find, Cond.instanceMethod yX2_find, Cond.selects RX2 yX2_find yX2_find, Cond.initialized RX2, Cond.code yX2_find cX2_find 4 (some .int), Cond.fieldLink RX2 43 "StepMapModel" "current" "I", Cond.fieldLink RX2 56 "StepMapModel" "moving" "Z", Cond.methodLink RX2 49 yX2_look, Cond.instanceMethod yX2_look, Cond.selects RX2 yX2_look yX2_look, Cond.code yX2_look cX2_look 4 (some .int), Cond.fieldLink RX2 7 "StepMapModel" "states" "[I", Cond.fieldLink RX2 13 "StepMapModel" "keys" "[I", Cond.methodLink RX2 30 yX2_home, Cond.instanceMethod yX2_home, Cond.selects RX2 yX2_home yX2_home, Cond.code yX2_home cX2_home 5 (some .int), Cond.constant RX2 29 (-1640531535), Cond.fieldLink RX2 19 "StepMapModel" "sizes" "[I", Cond.methodLink RX2 37 yX2_at, Cond.instanceMethod yX2_at]
def wsX2_has_r2 : List Cond := [Cond.selects RX2 yX2_at yX2_at, Cond.code yX2_at cX2_at 3 (some .int), Cond.methodLink RX2 40 yX2_behind, Cond.instanceMethod yX2_behind, Cond.selects RX2 yX2_behind yX2_behind, Cond.code yX2_behind cX2_behind 3 (some .int)]
def wsX2_has : List Cond := .code yX2_has cX2_has 3 (some .boolean) :: ((wsX2_has_r1 ++ wsX2_has_r2) ++ wsX20)
def wsX2_steps : List Cond := .code yX2_steps cX2_steps 5 (some .int) :: ([.fieldLink RX2 43 "StepMapModel" "current" "I", .methodLink RX2 40 yX2_behind, .instanceMethod yX2_behind, .selects RX2 yX2_behind yX2_behind, .initialized RX2, .code yX2_behind cX2_behind 3 (some .int), .fieldLink RX2 19 "StepMapModel" "sizes" "[I"] ++ wsX20)
def wsX2_free_r1 : List Cond := [Cond.fieldLink RX2 43 "StepMapModel" "current" "I", Cond.fieldLink RX2 34 "StepMapModel" "visits" "I", Cond.fieldLink RX2 7 "StepMapModel" "states" "[I", Cond.fieldLink RX2 13 "StepMapModel" "keys" "[I", Cond.fieldLink RX2 16 "StepMapModel" "values" "[I", Cond.methodLink RX2 40 yX2_behind, Cond.instanceMethod yX2_behind, Cond.selects RX2 yX2_behind yX2_behind, Cond.initialized RX2, Cond.code yX2_behind cX2_behind 3 (some .int), Cond.fieldLink RX2 19 "StepMapModel" "sizes" "[I", Cond.methodLink RX2 37 yX2_at, Cond.instanceMethod yX2_at, Cond.selects RX2 yX2_at yX2_at, Cond.code yX2_at cX2_at 3 (some .int), Cond.methodLink RX2 30 yX2_home, Cond.instanceMethod yX2_home, Cond.selects RX2 yX2_home yX2_home, Cond.code yX2_home cX2_home 5 (some .int), Cond.constant RX2 29 (-1640531535), Cond.methodLink RX2 85 yX2_steps, Cond.instanceMethod yX2_steps, Cond.selects RX2 yX2_steps yX2_steps, Cond.code yX2_steps cX2_steps 5 (some .int)]
def wsX2_free_r2 : List Cond := [Cond.methodLink RX2 52 yX2_lay, Cond.instanceMethod yX2_lay, Cond.selects RX2 yX2_lay yX2_lay, Cond.code yX2_lay cX2_lay 5 none]
def wsX2_free : List Cond := .code yX2_free cX2_free 5 none :: ((wsX2_free_r1 ++ wsX2_free_r2) ++ wsX20)
def wsX2_remove_r1 : List Cond := [Cond.fieldLink RX2 26 "StepMapModel" "thrown" "I", Cond.fieldLink RX2 34 "StepMapModel" "visits" "I", Cond.fieldLink RX2 43 "StepMapModel" "current" "I", Cond.fieldLink RX2 56 "StepMapModel" "moving" "Z", Cond.fieldLink RX2 7 "StepMapModel" "states" "[I", Cond.fieldLink RX2 63 "StepMapModel" "count" "I", Cond.fieldLink RX2 78 "StepMapModel" "work" "I", Cond.methodLink RX2 49 yX2_look, Cond.instanceMethod yX2_look, Cond.selects RX2 yX2_look yX2_look, Cond.initialized RX2, Cond.code yX2_look cX2_look 4 (some .int), Cond.fieldLink RX2 13 "StepMapModel" "keys" "[I", Cond.methodLink RX2 30 yX2_home, Cond.instanceMethod yX2_home, Cond.selects RX2 yX2_home yX2_home, Cond.code yX2_home cX2_home 5 (some .int), Cond.constant RX2 29 (-1640531535), Cond.fieldLink RX2 19 "StepMapModel" "sizes" "[I", Cond.methodLink RX2 37 yX2_at, Cond.instanceMethod yX2_at, Cond.selects RX2 yX2_at yX2_at, Cond.code yX2_at cX2_at 3 (some .int), Cond.methodLink RX2 40 yX2_behind]
def wsX2_remove_r2 : List Cond := [Cond.instanceMethod yX2_behind, Cond.selects RX2 yX2_behind yX2_behind, Cond.code yX2_behind cX2_behind 3 (some .int), Cond.methodLink RX2 88 yX2_free, Cond.instanceMethod yX2_free, Cond.selects RX2 yX2_free yX2_free, Cond.code yX2_free cX2_free 5 none, Cond.fieldLink RX2 16 "StepMapModel" "values" "[I", Cond.methodLink RX2 85 yX2_steps, Cond.instanceMethod yX2_steps, Cond.selects RX2 yX2_steps yX2_steps, Cond.code yX2_steps cX2_steps 5 (some .int), Cond.methodLink RX2 52 yX2_lay, Cond.instanceMethod yX2_lay, Cond.selects RX2 yX2_lay yX2_lay, Cond.code yX2_lay cX2_lay 5 none, Cond.methodLink RX2 75 yX2_settle, Cond.instanceMethod yX2_settle, Cond.selects RX2 yX2_settle yX2_settle, Cond.code yX2_settle cX2_settle 2 none, Cond.methodLink RX2 60 yX2_moveSome, Cond.instanceMethod yX2_moveSome, Cond.selects RX2 yX2_moveSome yX2_moveSome, Cond.code yX2_moveSome cX2_moveSome 5 none]
def wsX2_remove_r3 : List Cond := [Cond.fieldLink RX2 46 "StepMapModel" "cursor" "I", Cond.methodLink RX2 66 yX2_become, Cond.instanceMethod yX2_become, Cond.selects RX2 yX2_become yX2_become, Cond.code yX2_become cX2_become 3 none]
def wsX2_remove : List Cond := .code yX2_remove cX2_remove 4 (some .boolean) :: ((wsX2_remove_r1 ++ (wsX2_remove_r2 ++ wsX2_remove_r3)) ++ wsX20)
def wsX2_size : List Cond := .code yX2_size cX2_size 1 (some .int) :: ([.fieldLink RX2 26 "StepMapModel" "thrown" "I", .fieldLink RX2 63 "StepMapModel" "count" "I"] ++ wsX20)
def wsX2_capacity : List Cond := .code yX2_capacity cX2_capacity 1 (some .int) :: ([.fieldLink RX2 26 "StepMapModel" "thrown" "I", .fieldLink RX2 19 "StepMapModel" "sizes" "[I", .fieldLink RX2 43 "StepMapModel" "current" "I"] ++ wsX20)
def wsX2_migrating : List Cond := .code yX2_migrating cX2_migrating 1 (some .boolean) :: ([.fieldLink RX2 26 "StepMapModel" "thrown" "I", .fieldLink RX2 56 "StepMapModel" "moving" "Z"] ++ wsX20)
def wsX2_lastWork : List Cond := .code yX2_lastWork cX2_lastWork 1 (some .int) :: ([.fieldLink RX2 26 "StepMapModel" "thrown" "I", .fieldLink RX2 78 "StepMapModel" "work" "I"] ++ wsX20)
def wsX2_slot_r1 : List Cond := [Cond.fieldLink RX2 26 "StepMapModel" "thrown" "I", Cond.fieldLink RX2 43 "StepMapModel" "current" "I", Cond.methodLink RX2 81 yX2_find, Cond.instanceMethod yX2_find, Cond.selects RX2 yX2_find yX2_find, Cond.initialized RX2, Cond.code yX2_find cX2_find 4 (some .int), Cond.fieldLink RX2 56 "StepMapModel" "moving" "Z", Cond.methodLink RX2 49 yX2_look, Cond.instanceMethod yX2_look, Cond.selects RX2 yX2_look yX2_look, Cond.code yX2_look cX2_look 4 (some .int), Cond.fieldLink RX2 34 "StepMapModel" "visits" "I", Cond.fieldLink RX2 7 "StepMapModel" "states" "[I", Cond.fieldLink RX2 13 "StepMapModel" "keys" "[I", Cond.methodLink RX2 30 yX2_home, Cond.instanceMethod yX2_home, Cond.selects RX2 yX2_home yX2_home, Cond.code yX2_home cX2_home 5 (some .int), Cond.constant RX2 29 (-1640531535), Cond.fieldLink RX2 19 "StepMapModel" "sizes" "[I", Cond.methodLink RX2 37 yX2_at, Cond.instanceMethod yX2_at, Cond.selects RX2 yX2_at yX2_at]
def wsX2_slot_r2 : List Cond := [Cond.code yX2_at cX2_at 3 (some .int), Cond.methodLink RX2 40 yX2_behind, Cond.instanceMethod yX2_behind, Cond.selects RX2 yX2_behind yX2_behind, Cond.code yX2_behind cX2_behind 3 (some .int)]
def wsX2_slot : List Cond := .code yX2_slot cX2_slot 3 (some .int) :: ((wsX2_slot_r1 ++ wsX2_slot_r2) ++ wsX20)
def wsX2_cursor : List Cond := .code yX2_cursor cX2_cursor 1 (some .int) :: ([.fieldLink RX2 26 "StepMapModel" "thrown" "I", .fieldLink RX2 56 "StepMapModel" "moving" "Z", .fieldLink RX2 46 "StepMapModel" "cursor" "I"] ++ wsX20)
def wsJ9_min_7cf53 : List Cond := .code yJ9_min_7cf53 cJ9_min_7cf53 2 (some .int) :: ([])
def wsL_cell : List Cond := .code yL_cell cL_cell 2 (some .int) :: ([])
def wsL_law_r1 : List Cond := [Cond.classLink RL 7 RX1, Cond.instantiable RX1 6, Cond.initialized RX1, Cond.classLink RL 18 RX2, Cond.instantiable RX2 12, Cond.initialized RX2, Cond.methodLink RL 9 yL_cell, Cond.static yL_cell, Cond.initialized RL, Cond.code yL_cell cL_cell 2 (some .int), Cond.methodLink RL 15 yX1_init, Cond.instanceMethod yX1_init, Cond.code yX1_init cX1_init 2 none, Cond.methodLink RX1 1 objectInit, Cond.instanceMethod objectInit, Cond.code objectInit ⟨#[0xb1]⟩ 1 none, Cond.fieldLink RX1 13 "StepMap" "half" "I", Cond.classLink RX1 17 RX0, Cond.instantiable RX0 4, Cond.initialized RX0, Cond.fieldLink RX1 22 "StepMap" "newTable" "LStepMap$Table;", Cond.fieldLink RX1 26 "StepMap" "oldTable" "LStepMap$Table;", Cond.fieldLink RX1 32 "StepMap" "nextToMove" "I", Cond.methodLink RX1 7 yX1_powerWithin]
def wsL_law_r2 : List Cond := [Cond.static yX1_powerWithin, Cond.code yX1_powerWithin cX1_powerWithin 2 (some .int), Cond.methodLink RX1 19 yX0_init, Cond.instanceMethod yX0_init, Cond.code yX0_init cX0_init 2 none, Cond.methodLink RX0 1 objectInit, Cond.arrayClass .int, Cond.fieldLink RX0 7 "StepMap$Table" "marks" "[I", Cond.fieldLink RX0 13 "StepMap$Table" "keys" "[I", Cond.fieldLink RX0 16 "StepMap$Table" "values" "[I", Cond.fieldLink RX0 19 "StepMap$Table" "slots" "I", Cond.methodLink RX1 29 yX0_clear, Cond.instanceMethod yX0_clear, Cond.selects RX0 yX0_clear yX0_clear, Cond.code yX0_clear cX0_clear 3 none, Cond.methodLink RX0 23 Lib.Math.min.name, Cond.static Lib.Math.min.name, Cond.initialized "java/lang/Math", Cond.code Lib.Math.min.name Lib.Math.min.code 2 (some .int), Cond.methodLink RL 20 yX2_init, Cond.instanceMethod yX2_init, Cond.code yX2_init cX2_init 3 none, Cond.methodLink RX2 1 objectInit, Cond.fieldLink RX2 7 "StepMapModel" "states" "[I"]
def wsL_law_r3 : List Cond := [Cond.fieldLink RX2 13 "StepMapModel" "keys" "[I", Cond.fieldLink RX2 16 "StepMapModel" "values" "[I", Cond.fieldLink RX2 19 "StepMapModel" "sizes" "[I", Cond.fieldLink RX2 22 "StepMapModel" "half" "I", Cond.methodLink RL 21 yX1_put, Cond.instanceMethod yX1_put, Cond.selects RX1 yX1_put yX1_put, Cond.code yX1_put cX1_put 4 (some .int), Cond.fieldLink RX1 35 "StepMap" "work" "I", Cond.fieldLink RX1 41 "StepMap$Table" "values" "[I", Cond.constant RX1 49 (-2000000001), Cond.fieldLink RX1 57 "StepMap" "keyCount" "I", Cond.methodLink RX1 38 yX1_lookUp, Cond.instanceMethod yX1_lookUp, Cond.selects RX1 yX1_lookUp yX1_lookUp, Cond.code yX1_lookUp cX1_lookUp 4 (some .int), Cond.methodLink RX1 72 yX1_lookFor, Cond.instanceMethod yX1_lookFor, Cond.selects RX1 yX1_lookFor yX1_lookFor, Cond.code yX1_lookFor cX1_lookFor 5 (some .int), Cond.fieldLink RX1 69 "StepMap$Table" "slots" "I", Cond.methodLink RX1 83 yX0_home, Cond.instanceMethod yX0_home, Cond.selects RX0 yX0_home yX0_home]
def wsL_law_r4 : List Cond := [Cond.code yX0_home cX0_home 3 (some .int), Cond.constant RX0 29 (-1640531535), Cond.methodLink RX1 86 yX0_endsSearch, Cond.instanceMethod yX0_endsSearch, Cond.selects RX0 yX0_endsSearch yX0_endsSearch, Cond.code yX0_endsSearch cX0_endsSearch 3 (some .boolean), Cond.methodLink RX0 30 yX0_holds, Cond.instanceMethod yX0_holds, Cond.selects RX0 yX0_holds yX0_holds, Cond.code yX0_holds cX0_holds 3 (some .boolean), Cond.methodLink RX1 89 yX0_next, Cond.instanceMethod yX0_next, Cond.selects RX0 yX0_next yX0_next, Cond.code yX0_next cX0_next 2 (some .int), Cond.methodLink RX1 76 yX0_holds, Cond.methodLink RX1 80 yX1_migrating, Cond.instanceMethod yX1_migrating, Cond.selects RX1 yX1_migrating yX1_migrating, Cond.code yX1_migrating cX1_migrating 1 (some .boolean), Cond.methodLink RX1 45 yX1_wouldOutgrowHalf, Cond.instanceMethod yX1_wouldOutgrowHalf, Cond.selects RX1 yX1_wouldOutgrowHalf yX1_wouldOutgrowHalf, Cond.code yX1_wouldOutgrowHalf cX1_wouldOutgrowHalf 2 (some .boolean), Cond.methodLink RX1 99 yX1_isCrowdedBy]
def wsL_law_r5 : List Cond := [Cond.instanceMethod yX1_isCrowdedBy, Cond.selects RX1 yX1_isCrowdedBy yX1_isCrowdedBy, Cond.code yX1_isCrowdedBy cX1_isCrowdedBy 2 (some .boolean), Cond.methodLink RX1 50 yX1_emptySlot, Cond.static yX1_emptySlot, Cond.code yX1_emptySlot cX1_emptySlot 1 (some .int), Cond.methodLink RX1 53 yX0_fill, Cond.instanceMethod yX0_fill, Cond.selects RX0 yX0_fill yX0_fill, Cond.code yX0_fill cX0_fill 4 none, Cond.methodLink RX1 60 yX1_moveOn, Cond.instanceMethod yX1_moveOn, Cond.selects RX1 yX1_moveOn yX1_moveOn, Cond.code yX1_moveOn cX1_moveOn 1 none, Cond.methodLink RX1 103 yX1_moveNextSlots, Cond.instanceMethod yX1_moveNextSlots, Cond.selects RX1 yX1_moveNextSlots yX1_moveNextSlots, Cond.code yX1_moveNextSlots cX1_moveNextSlots 3 none, Cond.methodLink RX1 112 Lib.Math.min.name, Cond.fieldLink RX1 63 "StepMap$Table" "marks" "[I", Cond.methodLink RX1 118 yX1_moveToNew, Cond.instanceMethod yX1_moveToNew, Cond.selects RX1 yX1_moveToNew yX1_moveToNew, Cond.code yX1_moveToNew cX1_moveToNew 3 none]
def wsL_law_r6 : List Cond := [Cond.fieldLink RX1 121 "StepMap$Table" "keys" "[I", Cond.methodLink RX1 106 yX1_startMigration, Cond.instanceMethod yX1_startMigration, Cond.selects RX1 yX1_startMigration yX1_startMigration, Cond.code yX1_startMigration cX1_startMigration 3 none, Cond.methodLink RX1 109 yX1_isSparse, Cond.instanceMethod yX1_isSparse, Cond.selects RX1 yX1_isSparse yX1_isSparse, Cond.code yX1_isSparse cX1_isSparse 1 (some .boolean), Cond.methodLink RL 25 yX2_put, Cond.instanceMethod yX2_put, Cond.selects RX2 yX2_put yX2_put, Cond.code yX2_put cX2_put 6 (some .int), Cond.fieldLink RX2 26 "StepMapModel" "thrown" "I", Cond.fieldLink RX2 34 "StepMapModel" "visits" "I", Cond.fieldLink RX2 43 "StepMapModel" "current" "I", Cond.fieldLink RX2 56 "StepMapModel" "moving" "Z", Cond.constant RX2 74 (-2000000001), Cond.fieldLink RX2 63 "StepMapModel" "count" "I", Cond.fieldLink RX2 78 "StepMapModel" "work" "I", Cond.methodLink RX2 49 yX2_look, Cond.instanceMethod yX2_look, Cond.selects RX2 yX2_look yX2_look, Cond.code yX2_look cX2_look 4 (some .int)]
def wsL_law_r7 : List Cond := [Cond.methodLink RX2 30 yX2_home, Cond.instanceMethod yX2_home, Cond.selects RX2 yX2_home yX2_home, Cond.code yX2_home cX2_home 5 (some .int), Cond.constant RX2 29 (-1640531535), Cond.methodLink RX2 37 yX2_at, Cond.instanceMethod yX2_at, Cond.selects RX2 yX2_at yX2_at, Cond.code yX2_at cX2_at 3 (some .int), Cond.methodLink RX2 40 yX2_behind, Cond.instanceMethod yX2_behind, Cond.selects RX2 yX2_behind yX2_behind, Cond.code yX2_behind cX2_behind 3 (some .int), Cond.methodLink RX2 70 yX2_isFull, Cond.instanceMethod yX2_isFull, Cond.selects RX2 yX2_isFull yX2_isFull, Cond.code yX2_isFull cX2_isFull 2 (some .boolean), Cond.fieldLink RX2 46 "StepMapModel" "cursor" "I", Cond.methodLink RX2 52 yX2_lay, Cond.instanceMethod yX2_lay, Cond.selects RX2 yX2_lay yX2_lay, Cond.code yX2_lay cX2_lay 5 none, Cond.methodLink RX2 75 yX2_settle, Cond.instanceMethod yX2_settle]
def wsL_law_r8 : List Cond := [Cond.selects RX2 yX2_settle yX2_settle, Cond.code yX2_settle cX2_settle 2 none, Cond.methodLink RX2 60 yX2_moveSome, Cond.instanceMethod yX2_moveSome, Cond.selects RX2 yX2_moveSome yX2_moveSome, Cond.code yX2_moveSome cX2_moveSome 5 none, Cond.methodLink RX2 66 yX2_become, Cond.instanceMethod yX2_become, Cond.selects RX2 yX2_become yX2_become, Cond.code yX2_become cX2_become 3 none, Cond.methodLink RL 26 yX1_get, Cond.instanceMethod yX1_get, Cond.selects RX1 yX1_get yX1_get, Cond.code yX1_get cX1_get 3 (some .int), Cond.methodLink RL 30 yX2_get, Cond.instanceMethod yX2_get, Cond.selects RX2 yX2_get yX2_get, Cond.code yX2_get cX2_get 3 (some .int), Cond.methodLink RX2 81 yX2_find, Cond.instanceMethod yX2_find, Cond.selects RX2 yX2_find yX2_find, Cond.code yX2_find cX2_find 4 (some .int), Cond.methodLink RL 31 yX1_has, Cond.instanceMethod yX1_has]
def wsL_law_r9 : List Cond := [Cond.selects RX1 yX1_has yX1_has, Cond.code yX1_has cX1_has 2 (some .boolean), Cond.methodLink RL 35 yX2_has, Cond.instanceMethod yX2_has, Cond.selects RX2 yX2_has yX2_has, Cond.code yX2_has cX2_has 3 (some .boolean), Cond.methodLink RL 36 yX1_remove, Cond.instanceMethod yX1_remove, Cond.selects RX1 yX1_remove yX1_remove, Cond.code yX1_remove cX1_remove 3 (some .boolean), Cond.methodLink RX1 66 yX1_freeInNew, Cond.instanceMethod yX1_freeInNew, Cond.selects RX1 yX1_freeInNew yX1_freeInNew, Cond.code yX1_freeInNew cX1_freeInNew 5 none, Cond.methodLink RX1 92 yX0_reachesBack, Cond.instanceMethod yX0_reachesBack, Cond.selects RX0 yX0_reachesBack yX0_reachesBack, Cond.code yX0_reachesBack cX0_reachesBack 3 (some .boolean), Cond.methodLink RX0 34 yX0_home, Cond.methodLink RX0 38 yX0_ringDistance, Cond.instanceMethod yX0_ringDistance, Cond.selects RX0 yX0_ringDistance yX0_ringDistance, Cond.code yX0_ringDistance cX0_ringDistance 3 (some .int), Cond.methodLink RX1 95 yX0_shift]
def wsL_law_r10 : List Cond := [Cond.instanceMethod yX0_shift, Cond.selects RX0 yX0_shift yX0_shift, Cond.code yX0_shift cX0_shift 3 none, Cond.methodLink RX0 41 yX0_fill, Cond.methodLink RL 39 yX2_remove, Cond.instanceMethod yX2_remove, Cond.selects RX2 yX2_remove yX2_remove, Cond.code yX2_remove cX2_remove 4 (some .boolean), Cond.methodLink RX2 88 yX2_free, Cond.instanceMethod yX2_free, Cond.selects RX2 yX2_free yX2_free, Cond.code yX2_free cX2_free 5 none, Cond.methodLink RX2 85 yX2_steps, Cond.instanceMethod yX2_steps, Cond.selects RX2 yX2_steps yX2_steps, Cond.code yX2_steps cX2_steps 5 (some .int), Cond.methodLink RL 40 yX1_size, Cond.instanceMethod yX1_size, Cond.selects RX1 yX1_size yX1_size, Cond.code yX1_size cX1_size 1 (some .int), Cond.methodLink RL 44 yX2_size, Cond.instanceMethod yX2_size, Cond.selects RX2 yX2_size yX2_size, Cond.code yX2_size cX2_size 1 (some .int)]
def wsL_law_r11 : List Cond := [Cond.methodLink RL 45 yX1_capacity, Cond.instanceMethod yX1_capacity, Cond.selects RX1 yX1_capacity yX1_capacity, Cond.code yX1_capacity cX1_capacity 1 (some .int), Cond.methodLink RL 48 yX2_capacity, Cond.instanceMethod yX2_capacity, Cond.selects RX2 yX2_capacity yX2_capacity, Cond.code yX2_capacity cX2_capacity 1 (some .int), Cond.methodLink RL 49 yX1_migrating, Cond.methodLink RL 53 yX2_migrating, Cond.instanceMethod yX2_migrating, Cond.selects RX2 yX2_migrating yX2_migrating, Cond.code yX2_migrating cX2_migrating 1 (some .boolean), Cond.methodLink RL 54 yX1_lastWork, Cond.instanceMethod yX1_lastWork, Cond.selects RX1 yX1_lastWork yX1_lastWork, Cond.code yX1_lastWork cX1_lastWork 1 (some .int), Cond.methodLink RL 57 yX2_lastWork, Cond.instanceMethod yX2_lastWork, Cond.selects RX2 yX2_lastWork yX2_lastWork, Cond.code yX2_lastWork cX2_lastWork 1 (some .int), Cond.methodLink RL 58 yX1_slot, Cond.instanceMethod yX1_slot, Cond.selects RX1 yX1_slot yX1_slot]
def wsL_law_r12 : List Cond := [Cond.code yX1_slot cX1_slot 4 (some .int), Cond.methodLink RL 61 yX2_slot, Cond.instanceMethod yX2_slot, Cond.selects RX2 yX2_slot yX2_slot, Cond.code yX2_slot cX2_slot 3 (some .int), Cond.methodLink RL 62 yX1_cursor, Cond.instanceMethod yX1_cursor, Cond.selects RX1 yX1_cursor yX1_cursor, Cond.code yX1_cursor cX1_cursor 1 (some .int), Cond.methodLink RL 65 yX2_cursor, Cond.instanceMethod yX2_cursor, Cond.selects RX2 yX2_cursor yX2_cursor, Cond.code yX2_cursor cX2_cursor 1 (some .int)]
def wsL_law : List Cond := (wsL_law_r1 ++ (wsL_law_r2 ++ (wsL_law_r3 ++ (wsL_law_r4 ++ (wsL_law_r5 ++ (wsL_law_r6 ++ (wsL_law_r7 ++ (wsL_law_r8 ++ (wsL_law_r9 ++ (wsL_law_r10 ++ (wsL_law_r11 ++ wsL_law_r12))))))))))) ++ wsX10 ++ wsX20 ++ wsX00 ++ ([] : List Cond)
set_option maxRecDepth 20000 in
theorem wsL_law_in : ∀ w ∈ wsL_law, w ∈ lw_tbl := fun w h => (goodIn_p wsL_law [213, 32, 35, 38, 43, 66, 69, 218, 92, 96, 100, 104, 109, 113, 117, 122, 126, 130, 134, 138, 142, 146, 151, 155, 159, 260, 264, 268, 273, 277, 281, 286, 290, 294, 298, 163, 302, 306, 167, 310, 171, 175, 179, 184, 188, 314, 318, 322, 193, 326, 197, 330, 334, 202, 338, 206, 342, 210, 346] (by decide +kernel) (by decide +kernel) w h).1
theorem inlX0 : ∀ w ∈ wsX00, w ∈ wsL_law := fun _ h => List.mem_append_left _ (List.mem_append_right _ h)
theorem inX0 : ∀ w ∈ wsX00, w ∈ lw_tbl := fun w h => wsL_law_in w (inlX0 w h)
theorem inlX1 : ∀ w ∈ wsX10, w ∈ wsL_law := fun _ h => List.mem_append_left _ (List.mem_append_left _ (List.mem_append_left _ (List.mem_append_right _ h)))
theorem inX1 : ∀ w ∈ wsX10, w ∈ lw_tbl := fun w h => wsL_law_in w (inlX1 w h)
theorem inlX2 : ∀ w ∈ wsX20, w ∈ wsL_law := fun _ h => List.mem_append_left _ (List.mem_append_left _ (List.mem_append_right _ h))
theorem inX2 : ∀ w ∈ wsX20, w ∈ lw_tbl := fun w h => wsL_law_in w (inlX2 w h)
theorem inJ9 : ∀ w ∈ wsJ90, w ∈ lw_tbl := by decide +kernel
theorem dX0_init_0 : decode cX0_init 0 = .ok (.aload_n 0, 1) := by decide +kernel
theorem dX0_init_1 : decode cX0_init 1 = .ok (.invokespecial 1, 3) := by decide +kernel
theorem dX0_init_4 : decode cX0_init 4 = .ok (.aload_n 0, 1) := by decide +kernel
theorem dX0_init_5 : decode cX0_init 5 = .ok (.iload_n 1, 1) := by decide +kernel
theorem dX0_init_6 : decode cX0_init 6 = .ok (.newarray .int, 2) := by decide +kernel
theorem dX0_init_8 : decode cX0_init 8 = .ok (.putfield 7, 3) := by decide +kernel
theorem dX0_init_11 : decode cX0_init 11 = .ok (.aload_n 0, 1) := by decide +kernel
theorem dX0_init_12 : decode cX0_init 12 = .ok (.iload_n 1, 1) := by decide +kernel
theorem dX0_init_13 : decode cX0_init 13 = .ok (.newarray .int, 2) := by decide +kernel
theorem dX0_init_15 : decode cX0_init 15 = .ok (.putfield 13, 3) := by decide +kernel
theorem dX0_init_18 : decode cX0_init 18 = .ok (.aload_n 0, 1) := by decide +kernel
theorem dX0_init_19 : decode cX0_init 19 = .ok (.iload_n 1, 1) := by decide +kernel
theorem dX0_init_20 : decode cX0_init 20 = .ok (.newarray .int, 2) := by decide +kernel
theorem dX0_init_22 : decode cX0_init 22 = .ok (.putfield 16, 3) := by decide +kernel
theorem dX0_init_25 : decode cX0_init 25 = .ok (.aload_n 0, 1) := by decide +kernel
theorem dX0_init_26 : decode cX0_init 26 = .ok (.iload_n 1, 1) := by decide +kernel
theorem dX0_init_27 : decode cX0_init 27 = .ok (.putfield 19, 3) := by decide +kernel
theorem dX0_init_30 : decode cX0_init 30 = .ok (.return_, 1) := by decide +kernel
theorem dX0_clear_0 : decode cX0_clear 0 = .ok (.aload_n 0, 1) := by decide +kernel
theorem dX0_clear_1 : decode cX0_clear 1 = .ok (.iload_n 1, 1) := by decide +kernel
theorem dX0_clear_2 : decode cX0_clear 2 = .ok (.aload_n 0, 1) := by decide +kernel
theorem dX0_clear_3 : decode cX0_clear 3 = .ok (.getfield 7, 3) := by decide +kernel
theorem dX0_clear_6 : decode cX0_clear 6 = .ok (.arraylength, 1) := by decide +kernel
theorem dX0_clear_7 : decode cX0_clear 7 = .ok (.invokestatic 23, 3) := by decide +kernel
theorem dX0_clear_10 : decode cX0_clear 10 = .ok (.putfield 19, 3) := by decide +kernel
theorem dX0_clear_13 : decode cX0_clear 13 = .ok (.iconst 0, 1) := by decide +kernel
theorem dX0_clear_14 : decode cX0_clear 14 = .ok (.istore_n 2, 1) := by decide +kernel
theorem dX0_clear_15 : decode cX0_clear 15 = .ok (.iload_n 2, 1) := by decide +kernel
theorem dX0_clear_16 : decode cX0_clear 16 = .ok (.aload_n 0, 1) := by decide +kernel
theorem dX0_clear_17 : decode cX0_clear 17 = .ok (.getfield 19, 3) := by decide +kernel
theorem dX0_clear_20 : decode cX0_clear 20 = .ok (.if_icmp .ge 16, 3) := by decide +kernel
theorem dX0_clear_23 : decode cX0_clear 23 = .ok (.aload_n 0, 1) := by decide +kernel
theorem dX0_clear_24 : decode cX0_clear 24 = .ok (.getfield 7, 3) := by decide +kernel
theorem dX0_clear_27 : decode cX0_clear 27 = .ok (.iload_n 2, 1) := by decide +kernel
theorem dX0_clear_28 : decode cX0_clear 28 = .ok (.iconst 0, 1) := by decide +kernel
theorem dX0_clear_29 : decode cX0_clear 29 = .ok (.iastore, 1) := by decide +kernel
theorem dX0_clear_30 : decode cX0_clear 30 = .ok (.iinc 2 1, 3) := by decide +kernel
theorem dX0_clear_33 : decode cX0_clear 33 = .ok (.goto (-18), 3) := by decide +kernel
theorem dX0_clear_36 : decode cX0_clear 36 = .ok (.return_, 1) := by decide +kernel
theorem dX0_home_0 : decode cX0_home 0 = .ok (.iload_n 1, 1) := by decide +kernel
theorem dX0_home_1 : decode cX0_home 1 = .ok (.ldc 29, 2) := by decide +kernel
theorem dX0_home_3 : decode cX0_home 3 = .ok (.imul, 1) := by decide +kernel
theorem dX0_home_4 : decode cX0_home 4 = .ok (.istore_n 2, 1) := by decide +kernel
theorem dX0_home_5 : decode cX0_home 5 = .ok (.iload_n 2, 1) := by decide +kernel
theorem dX0_home_6 : decode cX0_home 6 = .ok (.iload_n 2, 1) := by decide +kernel
theorem dX0_home_7 : decode cX0_home 7 = .ok (.bipush 15, 2) := by decide +kernel
theorem dX0_home_9 : decode cX0_home 9 = .ok (.iushr, 1) := by decide +kernel
theorem dX0_home_10 : decode cX0_home 10 = .ok (.ixor, 1) := by decide +kernel
theorem dX0_home_11 : decode cX0_home 11 = .ok (.aload_n 0, 1) := by decide +kernel
theorem dX0_home_12 : decode cX0_home 12 = .ok (.getfield 19, 3) := by decide +kernel
theorem dX0_home_15 : decode cX0_home 15 = .ok (.iconst 1, 1) := by decide +kernel
theorem dX0_home_16 : decode cX0_home 16 = .ok (.isub, 1) := by decide +kernel
theorem dX0_home_17 : decode cX0_home 17 = .ok (.iand, 1) := by decide +kernel
theorem dX0_home_18 : decode cX0_home 18 = .ok (.ireturn, 1) := by decide +kernel
theorem dX0_next_0 : decode cX0_next 0 = .ok (.iload_n 1, 1) := by decide +kernel
theorem dX0_next_1 : decode cX0_next 1 = .ok (.iconst 1, 1) := by decide +kernel
theorem dX0_next_2 : decode cX0_next 2 = .ok (.iadd, 1) := by decide +kernel
theorem dX0_next_3 : decode cX0_next 3 = .ok (.aload_n 0, 1) := by decide +kernel
theorem dX0_next_4 : decode cX0_next 4 = .ok (.getfield 19, 3) := by decide +kernel
theorem dX0_next_7 : decode cX0_next 7 = .ok (.iconst 1, 1) := by decide +kernel
theorem dX0_next_8 : decode cX0_next 8 = .ok (.isub, 1) := by decide +kernel
theorem dX0_next_9 : decode cX0_next 9 = .ok (.iand, 1) := by decide +kernel
theorem dX0_next_10 : decode cX0_next 10 = .ok (.ireturn, 1) := by decide +kernel
theorem dX0_holds_0 : decode cX0_holds 0 = .ok (.aload_n 0, 1) := by decide +kernel
theorem dX0_holds_1 : decode cX0_holds 1 = .ok (.getfield 7, 3) := by decide +kernel
theorem dX0_holds_4 : decode cX0_holds 4 = .ok (.iload_n 1, 1) := by decide +kernel
theorem dX0_holds_5 : decode cX0_holds 5 = .ok (.iaload, 1) := by decide +kernel
theorem dX0_holds_6 : decode cX0_holds 6 = .ok (.iconst 2, 1) := by decide +kernel
theorem dX0_holds_7 : decode cX0_holds 7 = .ok (.if_icmp .ne 17, 3) := by decide +kernel
theorem dX0_holds_10 : decode cX0_holds 10 = .ok (.aload_n 0, 1) := by decide +kernel
theorem dX0_holds_11 : decode cX0_holds 11 = .ok (.getfield 13, 3) := by decide +kernel
theorem dX0_holds_14 : decode cX0_holds 14 = .ok (.iload_n 1, 1) := by decide +kernel
theorem dX0_holds_15 : decode cX0_holds 15 = .ok (.iaload, 1) := by decide +kernel
theorem dX0_holds_16 : decode cX0_holds 16 = .ok (.iload_n 2, 1) := by decide +kernel
theorem dX0_holds_17 : decode cX0_holds 17 = .ok (.if_icmp .ne 7, 3) := by decide +kernel
theorem dX0_holds_20 : decode cX0_holds 20 = .ok (.iconst 1, 1) := by decide +kernel
theorem dX0_holds_21 : decode cX0_holds 21 = .ok (.goto 4, 3) := by decide +kernel
theorem dX0_holds_24 : decode cX0_holds 24 = .ok (.iconst 0, 1) := by decide +kernel
theorem dX0_holds_25 : decode cX0_holds 25 = .ok (.ireturn, 1) := by decide +kernel
set_option maxRecDepth 20000 in
theorem ggX0_endsSearch_X0_holds : GoodIn wsX0_endsSearch wsX0_holds := goodIn_r _ [6, 1, 7, 8, 9, 10, 11] (by decide +kernel) (by decide +kernel)
set_option maxRecDepth 20000 in
theorem gX0_endsSearch_X0_holds : GoodIn wsX0_endsSearch (wsV RX0 30 RX0 yX0_holds wsX0_holds) := goodIn_app (goodIn_of _ (by decide +kernel)) ggX0_endsSearch_X0_holds
theorem dX0_endsSearch_0 : decode cX0_endsSearch 0 = .ok (.aload_n 0, 1) := by decide +kernel
theorem dX0_endsSearch_1 : decode cX0_endsSearch 1 = .ok (.getfield 7, 3) := by decide +kernel
theorem dX0_endsSearch_4 : decode cX0_endsSearch 4 = .ok (.iload_n 1, 1) := by decide +kernel
theorem dX0_endsSearch_5 : decode cX0_endsSearch 5 = .ok (.iaload, 1) := by decide +kernel
theorem dX0_endsSearch_6 : decode cX0_endsSearch 6 = .ok (.ifCond .eq 12, 3) := by decide +kernel
theorem dX0_endsSearch_9 : decode cX0_endsSearch 9 = .ok (.aload_n 0, 1) := by decide +kernel
theorem dX0_endsSearch_10 : decode cX0_endsSearch 10 = .ok (.iload_n 1, 1) := by decide +kernel
theorem dX0_endsSearch_11 : decode cX0_endsSearch 11 = .ok (.iload_n 2, 1) := by decide +kernel
theorem dX0_endsSearch_12 : decode cX0_endsSearch 12 = .ok (.invokevirtual 30, 3) := by decide +kernel
theorem dX0_endsSearch_15 : decode cX0_endsSearch 15 = .ok (.ifCond .eq 7, 3) := by decide +kernel
theorem dX0_endsSearch_18 : decode cX0_endsSearch 18 = .ok (.iconst 1, 1) := by decide +kernel
theorem dX0_endsSearch_19 : decode cX0_endsSearch 19 = .ok (.goto 4, 3) := by decide +kernel
theorem dX0_endsSearch_22 : decode cX0_endsSearch 22 = .ok (.iconst 0, 1) := by decide +kernel
theorem dX0_endsSearch_23 : decode cX0_endsSearch 23 = .ok (.ireturn, 1) := by decide +kernel
set_option maxRecDepth 20000 in
theorem ggX0_reachesBack_X0_home : GoodIn wsX0_reachesBack wsX0_home := goodIn_r _ [6, 7, 8, 13, 14, 15, 16] (by decide +kernel) (by decide +kernel)
set_option maxRecDepth 20000 in
theorem gX0_reachesBack_X0_home : GoodIn wsX0_reachesBack (wsV RX0 34 RX0 yX0_home wsX0_home) := goodIn_app (goodIn_of _ (by decide +kernel)) ggX0_reachesBack_X0_home
set_option maxRecDepth 20000 in
theorem ggX0_reachesBack_X0_ringDistance : GoodIn wsX0_reachesBack wsX0_ringDistance := goodIn_r _ [12, 8, 13, 14, 15, 16] (by decide +kernel) (by decide +kernel)
set_option maxRecDepth 20000 in
theorem gX0_reachesBack_X0_ringDistance : GoodIn wsX0_reachesBack (wsV RX0 38 RX0 yX0_ringDistance wsX0_ringDistance) := goodIn_app (goodIn_of _ (by decide +kernel)) ggX0_reachesBack_X0_ringDistance
theorem dX0_reachesBack_0 : decode cX0_reachesBack 0 = .ok (.aload_n 0, 1) := by decide +kernel
theorem dX0_reachesBack_1 : decode cX0_reachesBack 1 = .ok (.aload_n 0, 1) := by decide +kernel
theorem dX0_reachesBack_2 : decode cX0_reachesBack 2 = .ok (.aload_n 0, 1) := by decide +kernel
theorem dX0_reachesBack_3 : decode cX0_reachesBack 3 = .ok (.getfield 13, 3) := by decide +kernel
theorem dX0_reachesBack_6 : decode cX0_reachesBack 6 = .ok (.iload_n 1, 1) := by decide +kernel
theorem dX0_reachesBack_7 : decode cX0_reachesBack 7 = .ok (.iaload, 1) := by decide +kernel
theorem dX0_reachesBack_8 : decode cX0_reachesBack 8 = .ok (.invokevirtual 34, 3) := by decide +kernel
theorem dX0_reachesBack_11 : decode cX0_reachesBack 11 = .ok (.iload_n 1, 1) := by decide +kernel
theorem dX0_reachesBack_12 : decode cX0_reachesBack 12 = .ok (.invokevirtual 38, 3) := by decide +kernel
theorem dX0_reachesBack_15 : decode cX0_reachesBack 15 = .ok (.aload_n 0, 1) := by decide +kernel
theorem dX0_reachesBack_16 : decode cX0_reachesBack 16 = .ok (.iload_n 2, 1) := by decide +kernel
theorem dX0_reachesBack_17 : decode cX0_reachesBack 17 = .ok (.iload_n 1, 1) := by decide +kernel
theorem dX0_reachesBack_18 : decode cX0_reachesBack 18 = .ok (.invokevirtual 38, 3) := by decide +kernel
theorem dX0_reachesBack_21 : decode cX0_reachesBack 21 = .ok (.if_icmp .lt 7, 3) := by decide +kernel
theorem dX0_reachesBack_24 : decode cX0_reachesBack 24 = .ok (.iconst 1, 1) := by decide +kernel
theorem dX0_reachesBack_25 : decode cX0_reachesBack 25 = .ok (.goto 4, 3) := by decide +kernel
theorem dX0_reachesBack_28 : decode cX0_reachesBack 28 = .ok (.iconst 0, 1) := by decide +kernel
theorem dX0_reachesBack_29 : decode cX0_reachesBack 29 = .ok (.ireturn, 1) := by decide +kernel
theorem dX0_ringDistance_0 : decode cX0_ringDistance 0 = .ok (.iload_n 2, 1) := by decide +kernel
theorem dX0_ringDistance_1 : decode cX0_ringDistance 1 = .ok (.iload_n 1, 1) := by decide +kernel
theorem dX0_ringDistance_2 : decode cX0_ringDistance 2 = .ok (.isub, 1) := by decide +kernel
theorem dX0_ringDistance_3 : decode cX0_ringDistance 3 = .ok (.aload_n 0, 1) := by decide +kernel
theorem dX0_ringDistance_4 : decode cX0_ringDistance 4 = .ok (.getfield 19, 3) := by decide +kernel
theorem dX0_ringDistance_7 : decode cX0_ringDistance 7 = .ok (.iconst 1, 1) := by decide +kernel
theorem dX0_ringDistance_8 : decode cX0_ringDistance 8 = .ok (.isub, 1) := by decide +kernel
theorem dX0_ringDistance_9 : decode cX0_ringDistance 9 = .ok (.iand, 1) := by decide +kernel
theorem dX0_ringDistance_10 : decode cX0_ringDistance 10 = .ok (.ireturn, 1) := by decide +kernel
theorem dX0_fill_0 : decode cX0_fill 0 = .ok (.aload_n 0, 1) := by decide +kernel
theorem dX0_fill_1 : decode cX0_fill 1 = .ok (.getfield 7, 3) := by decide +kernel
theorem dX0_fill_4 : decode cX0_fill 4 = .ok (.iload_n 1, 1) := by decide +kernel
theorem dX0_fill_5 : decode cX0_fill 5 = .ok (.iconst 2, 1) := by decide +kernel
theorem dX0_fill_6 : decode cX0_fill 6 = .ok (.iastore, 1) := by decide +kernel
theorem dX0_fill_7 : decode cX0_fill 7 = .ok (.aload_n 0, 1) := by decide +kernel
theorem dX0_fill_8 : decode cX0_fill 8 = .ok (.getfield 13, 3) := by decide +kernel
theorem dX0_fill_11 : decode cX0_fill 11 = .ok (.iload_n 1, 1) := by decide +kernel
theorem dX0_fill_12 : decode cX0_fill 12 = .ok (.iload_n 2, 1) := by decide +kernel
theorem dX0_fill_13 : decode cX0_fill 13 = .ok (.iastore, 1) := by decide +kernel
theorem dX0_fill_14 : decode cX0_fill 14 = .ok (.aload_n 0, 1) := by decide +kernel
theorem dX0_fill_15 : decode cX0_fill 15 = .ok (.getfield 16, 3) := by decide +kernel
theorem dX0_fill_18 : decode cX0_fill 18 = .ok (.iload_n 1, 1) := by decide +kernel
theorem dX0_fill_19 : decode cX0_fill 19 = .ok (.iload_n 3, 1) := by decide +kernel
theorem dX0_fill_20 : decode cX0_fill 20 = .ok (.iastore, 1) := by decide +kernel
theorem dX0_fill_21 : decode cX0_fill 21 = .ok (.return_, 1) := by decide +kernel
set_option maxRecDepth 20000 in
theorem ggX0_shift_X0_fill : GoodIn wsX0_shift wsX0_fill := goodIn_r _ [8, 3, 1, 2, 9, 10, 11, 12] (by decide +kernel) (by decide +kernel)
set_option maxRecDepth 20000 in
theorem gX0_shift_X0_fill : GoodIn wsX0_shift (wsV RX0 41 RX0 yX0_fill wsX0_fill) := goodIn_app (goodIn_of _ (by decide +kernel)) ggX0_shift_X0_fill
theorem dX0_shift_0 : decode cX0_shift 0 = .ok (.aload_n 0, 1) := by decide +kernel
theorem dX0_shift_1 : decode cX0_shift 1 = .ok (.iload_n 2, 1) := by decide +kernel
theorem dX0_shift_2 : decode cX0_shift 2 = .ok (.aload_n 0, 1) := by decide +kernel
theorem dX0_shift_3 : decode cX0_shift 3 = .ok (.getfield 13, 3) := by decide +kernel
theorem dX0_shift_6 : decode cX0_shift 6 = .ok (.iload_n 1, 1) := by decide +kernel
theorem dX0_shift_7 : decode cX0_shift 7 = .ok (.iaload, 1) := by decide +kernel
theorem dX0_shift_8 : decode cX0_shift 8 = .ok (.aload_n 0, 1) := by decide +kernel
theorem dX0_shift_9 : decode cX0_shift 9 = .ok (.getfield 16, 3) := by decide +kernel
theorem dX0_shift_12 : decode cX0_shift 12 = .ok (.iload_n 1, 1) := by decide +kernel
theorem dX0_shift_13 : decode cX0_shift 13 = .ok (.iaload, 1) := by decide +kernel
theorem dX0_shift_14 : decode cX0_shift 14 = .ok (.invokevirtual 41, 3) := by decide +kernel
theorem dX0_shift_17 : decode cX0_shift 17 = .ok (.aload_n 0, 1) := by decide +kernel
theorem dX0_shift_18 : decode cX0_shift 18 = .ok (.getfield 7, 3) := by decide +kernel
theorem dX0_shift_21 : decode cX0_shift 21 = .ok (.iload_n 1, 1) := by decide +kernel
theorem dX0_shift_22 : decode cX0_shift 22 = .ok (.iconst 0, 1) := by decide +kernel
theorem dX0_shift_23 : decode cX0_shift 23 = .ok (.iastore, 1) := by decide +kernel
theorem dX0_shift_24 : decode cX0_shift 24 = .ok (.return_, 1) := by decide +kernel
set_option maxRecDepth 20000 in
theorem ggX1_init_X1_powerWithin : GoodIn wsX1_init wsX1_powerWithin := goodIn_r _ [14] (by decide +kernel) (by decide +kernel)
set_option maxRecDepth 20000 in
theorem gX1_init_X1_powerWithin : GoodIn wsX1_init (va_wsS RX1 7 yX1_powerWithin wsX1_powerWithin) := goodIn_app (goodIn_of _ (by decide +kernel)) ggX1_init_X1_powerWithin
set_option maxRecDepth 20000 in
theorem ggX1_init_X0_init : GoodIn wsX1_init wsX0_init := goodIn_r _ [17, 18, 2, 3, 19, 20, 21, 22, 23, 38, 39, 40, 41] (by decide +kernel) (by decide +kernel)
set_option maxRecDepth 20000 in
theorem gX1_init_X0_init : GoodIn wsX1_init (wsX0_init) := ggX1_init_X0_init
set_option maxRecDepth 20000 in
theorem ggX1_init_X0_clear : GoodIn wsX1_init wsX0_clear := goodIn_r _ [27, 20, 28, 29, 30, 31, 23, 38, 39, 40, 41] (by decide +kernel) (by decide +kernel)
set_option maxRecDepth 20000 in
theorem gX1_init_X0_clear : GoodIn wsX1_init (wsV RX1 29 RX0 yX0_clear wsX0_clear) := goodIn_app (goodIn_of _ (by decide +kernel)) ggX1_init_X0_clear
theorem dX1_init_0 : decode cX1_init 0 = .ok (.aload_n 0, 1) := by decide +kernel
theorem dX1_init_1 : decode cX1_init 1 = .ok (.invokespecial 1, 3) := by decide +kernel
theorem dX1_init_4 : decode cX1_init 4 = .ok (.aload_n 0, 1) := by decide +kernel
theorem dX1_init_5 : decode cX1_init 5 = .ok (.iload_n 1, 1) := by decide +kernel
theorem dX1_init_6 : decode cX1_init 6 = .ok (.invokestatic 7, 3) := by decide +kernel
theorem dX1_init_9 : decode cX1_init 9 = .ok (.putfield 13, 3) := by decide +kernel
theorem dX1_init_12 : decode cX1_init 12 = .ok (.aload_n 0, 1) := by decide +kernel
theorem dX1_init_13 : decode cX1_init 13 = .ok (.new 17, 3) := by decide +kernel
theorem dX1_init_16 : decode cX1_init 16 = .ok (.dup, 1) := by decide +kernel
theorem dX1_init_17 : decode cX1_init 17 = .ok (.aload_n 0, 1) := by decide +kernel
theorem dX1_init_18 : decode cX1_init 18 = .ok (.getfield 13, 3) := by decide +kernel
theorem dX1_init_21 : decode cX1_init 21 = .ok (.invokespecial 19, 3) := by decide +kernel
theorem dX1_init_24 : decode cX1_init 24 = .ok (.putfield 22, 3) := by decide +kernel
theorem dX1_init_27 : decode cX1_init 27 = .ok (.aload_n 0, 1) := by decide +kernel
theorem dX1_init_28 : decode cX1_init 28 = .ok (.new 17, 3) := by decide +kernel
theorem dX1_init_31 : decode cX1_init 31 = .ok (.dup, 1) := by decide +kernel
theorem dX1_init_32 : decode cX1_init 32 = .ok (.aload_n 0, 1) := by decide +kernel
theorem dX1_init_33 : decode cX1_init 33 = .ok (.getfield 13, 3) := by decide +kernel
theorem dX1_init_36 : decode cX1_init 36 = .ok (.invokespecial 19, 3) := by decide +kernel
theorem dX1_init_39 : decode cX1_init 39 = .ok (.putfield 26, 3) := by decide +kernel
theorem dX1_init_42 : decode cX1_init 42 = .ok (.aload_n 0, 1) := by decide +kernel
theorem dX1_init_43 : decode cX1_init 43 = .ok (.getfield 22, 3) := by decide +kernel
theorem dX1_init_46 : decode cX1_init 46 = .ok (.bipush 8, 2) := by decide +kernel
theorem dX1_init_48 : decode cX1_init 48 = .ok (.invokevirtual 29, 3) := by decide +kernel
theorem dX1_init_51 : decode cX1_init 51 = .ok (.aload_n 0, 1) := by decide +kernel
theorem dX1_init_52 : decode cX1_init 52 = .ok (.iconst (-1), 1) := by decide +kernel
theorem dX1_init_53 : decode cX1_init 53 = .ok (.putfield 32, 3) := by decide +kernel
theorem dX1_init_56 : decode cX1_init 56 = .ok (.return_, 1) := by decide +kernel
set_option maxRecDepth 20000 in
theorem ggX1_put_X1_lookUp : GoodIn wsX1_put wsX1_lookUp := goodIn_r _ [11, 4, 2, 12, 13, 14, 10, 15, 1, 16, 17, 18, 19, 20, 21, 22, 23, 24, 25, 26, 27, 28, 29, 30, 31, 32, 33, 34, 35, 36, 37, 38, 39, 40, 41, 42, 43, 92, 93, 94, 95, 96, 97, 98, 99, 100, 101] (by decide +kernel) (by decide +kernel)
set_option maxRecDepth 20000 in
theorem gX1_put_X1_lookUp : GoodIn wsX1_put (wsV RX1 38 RX1 yX1_lookUp wsX1_lookUp) := goodIn_app (goodIn_of _ (by decide +kernel)) ggX1_put_X1_lookUp
set_option maxRecDepth 20000 in
theorem ggX1_put_X1_wouldOutgrowHalf : GoodIn wsX1_put wsX1_wouldOutgrowHalf := goodIn_r _ [47, 43, 2, 16, 6, 4, 48, 39, 40, 41, 10, 42, 49, 50, 51, 52, 92, 93, 94, 95, 96, 97, 98, 99, 100, 101] (by decide +kernel) (by decide +kernel)
set_option maxRecDepth 20000 in
theorem gX1_put_X1_wouldOutgrowHalf : GoodIn wsX1_put (wsV RX1 45 RX1 yX1_wouldOutgrowHalf wsX1_wouldOutgrowHalf) := goodIn_app (goodIn_of _ (by decide +kernel)) ggX1_put_X1_wouldOutgrowHalf
set_option maxRecDepth 20000 in
theorem ggX1_put_X1_emptySlot : GoodIn wsX1_put wsX1_emptySlot := goodIn_r _ [55] (by decide +kernel) (by decide +kernel)
set_option maxRecDepth 20000 in
theorem gX1_put_X1_emptySlot : GoodIn wsX1_put (va_wsS RX1 50 yX1_emptySlot wsX1_emptySlot) := goodIn_app (goodIn_of _ (by decide +kernel)) ggX1_put_X1_emptySlot
set_option maxRecDepth 20000 in
theorem ggX1_put_X0_fill : GoodIn wsX1_put wsX0_fill := goodIn_r _ [59, 28, 33, 60, 98, 99, 100, 101] (by decide +kernel) (by decide +kernel)
set_option maxRecDepth 20000 in
theorem gX1_put_X0_fill : GoodIn wsX1_put (wsV RX1 53 RX0 yX0_fill wsX0_fill) := goodIn_app (goodIn_of _ (by decide +kernel)) ggX1_put_X0_fill
set_option maxRecDepth 20000 in
theorem ggX1_put_X1_moveOn : GoodIn wsX1_put wsX1_moveOn := goodIn_r _ [64, 6, 4, 16, 39, 40, 41, 10, 42, 43, 65, 66, 67, 68, 2, 69, 70, 71, 72, 1, 73, 74, 75, 76, 77, 78, 3, 12, 13, 14, 15, 17, 18, 19, 20, 21, 22, 23, 24, 25, 26, 27, 28, 29, 30, 31, 32, 33, 34, 35, 36, 37, 56, 57, 58, 59, 60, 49, 50, 51, 52, 79, 80, 81, 82, 83, 84, 85, 86, 87, 88, 89, 90, 91, 92, 93, 94, 95, 96, 97, 98, 99, 100, 101] (by decide +kernel) (by decide +kernel)
set_option maxRecDepth 20000 in
theorem gX1_put_X1_moveOn : GoodIn wsX1_put (wsV RX1 60 RX1 yX1_moveOn wsX1_moveOn) := goodIn_app (goodIn_of _ (by decide +kernel)) ggX1_put_X1_moveOn
theorem dX1_put_0 : decode cX1_put 0 = .ok (.aload_n 0, 1) := by decide +kernel
theorem dX1_put_1 : decode cX1_put 1 = .ok (.iconst 0, 1) := by decide +kernel
theorem dX1_put_2 : decode cX1_put 2 = .ok (.putfield 35, 3) := by decide +kernel
theorem dX1_put_5 : decode cX1_put 5 = .ok (.aload_n 0, 1) := by decide +kernel
theorem dX1_put_6 : decode cX1_put 6 = .ok (.iload_n 1, 1) := by decide +kernel
theorem dX1_put_7 : decode cX1_put 7 = .ok (.invokevirtual 38, 3) := by decide +kernel
theorem dX1_put_10 : decode cX1_put 10 = .ok (.istore_n 3, 1) := by decide +kernel
theorem dX1_put_11 : decode cX1_put 11 = .ok (.iload_n 3, 1) := by decide +kernel
theorem dX1_put_12 : decode cX1_put 12 = .ok (.sipush 2000, 3) := by decide +kernel
theorem dX1_put_15 : decode cX1_put 15 = .ok (.if_icmp .lt 19, 3) := by decide +kernel
theorem dX1_put_18 : decode cX1_put 18 = .ok (.aload_n 0, 1) := by decide +kernel
theorem dX1_put_19 : decode cX1_put 19 = .ok (.getfield 26, 3) := by decide +kernel
theorem dX1_put_22 : decode cX1_put 22 = .ok (.getfield 41, 3) := by decide +kernel
theorem dX1_put_25 : decode cX1_put 25 = .ok (.iload_n 3, 1) := by decide +kernel
theorem dX1_put_26 : decode cX1_put 26 = .ok (.sipush 2000, 3) := by decide +kernel
theorem dX1_put_29 : decode cX1_put 29 = .ok (.isub, 1) := by decide +kernel
theorem dX1_put_30 : decode cX1_put 30 = .ok (.iload_n 2, 1) := by decide +kernel
theorem dX1_put_31 : decode cX1_put 31 = .ok (.iastore, 1) := by decide +kernel
theorem dX1_put_32 : decode cX1_put 32 = .ok (.iconst 0, 1) := by decide +kernel
theorem dX1_put_33 : decode cX1_put 33 = .ok (.ireturn, 1) := by decide +kernel
theorem dX1_put_34 : decode cX1_put 34 = .ok (.iload_n 3, 1) := by decide +kernel
theorem dX1_put_35 : decode cX1_put 35 = .ok (.ifCond .lt 15, 3) := by decide +kernel
theorem dX1_put_38 : decode cX1_put 38 = .ok (.aload_n 0, 1) := by decide +kernel
theorem dX1_put_39 : decode cX1_put 39 = .ok (.getfield 22, 3) := by decide +kernel
theorem dX1_put_42 : decode cX1_put 42 = .ok (.getfield 41, 3) := by decide +kernel
theorem dX1_put_45 : decode cX1_put 45 = .ok (.iload_n 3, 1) := by decide +kernel
theorem dX1_put_46 : decode cX1_put 46 = .ok (.iload_n 2, 1) := by decide +kernel
theorem dX1_put_47 : decode cX1_put 47 = .ok (.iastore, 1) := by decide +kernel
theorem dX1_put_48 : decode cX1_put 48 = .ok (.iconst 0, 1) := by decide +kernel
theorem dX1_put_49 : decode cX1_put 49 = .ok (.ireturn, 1) := by decide +kernel
theorem dX1_put_50 : decode cX1_put 50 = .ok (.aload_n 0, 1) := by decide +kernel
theorem dX1_put_51 : decode cX1_put 51 = .ok (.invokevirtual 45, 3) := by decide +kernel
theorem dX1_put_54 : decode cX1_put 54 = .ok (.ifCond .eq 6, 3) := by decide +kernel
theorem dX1_put_57 : decode cX1_put 57 = .ok (.ldc 49, 2) := by decide +kernel
theorem dX1_put_59 : decode cX1_put 59 = .ok (.ireturn, 1) := by decide +kernel
theorem dX1_put_60 : decode cX1_put 60 = .ok (.aload_n 0, 1) := by decide +kernel
theorem dX1_put_61 : decode cX1_put 61 = .ok (.getfield 22, 3) := by decide +kernel
theorem dX1_put_64 : decode cX1_put 64 = .ok (.iload_n 3, 1) := by decide +kernel
theorem dX1_put_65 : decode cX1_put 65 = .ok (.invokestatic 50, 3) := by decide +kernel
theorem dX1_put_68 : decode cX1_put 68 = .ok (.iload_n 1, 1) := by decide +kernel
theorem dX1_put_69 : decode cX1_put 69 = .ok (.iload_n 2, 1) := by decide +kernel
theorem dX1_put_70 : decode cX1_put 70 = .ok (.invokevirtual 53, 3) := by decide +kernel
theorem dX1_put_73 : decode cX1_put 73 = .ok (.aload_n 0, 1) := by decide +kernel
theorem dX1_put_74 : decode cX1_put 74 = .ok (.dup, 1) := by decide +kernel
theorem dX1_put_75 : decode cX1_put 75 = .ok (.getfield 57, 3) := by decide +kernel
theorem dX1_put_78 : decode cX1_put 78 = .ok (.iconst 1, 1) := by decide +kernel
theorem dX1_put_79 : decode cX1_put 79 = .ok (.iadd, 1) := by decide +kernel
theorem dX1_put_80 : decode cX1_put 80 = .ok (.putfield 57, 3) := by decide +kernel
theorem dX1_put_83 : decode cX1_put 83 = .ok (.aload_n 0, 1) := by decide +kernel
theorem dX1_put_84 : decode cX1_put 84 = .ok (.invokevirtual 60, 3) := by decide +kernel
theorem dX1_put_87 : decode cX1_put 87 = .ok (.iconst 0, 1) := by decide +kernel
theorem dX1_put_88 : decode cX1_put 88 = .ok (.ireturn, 1) := by decide +kernel
set_option maxRecDepth 20000 in
theorem ggX1_get_X1_lookUp : GoodIn wsX1_get wsX1_lookUp := goodIn_r _ [9, 4, 2, 10, 11, 12, 8, 13, 1, 14, 15, 16, 17, 18, 19, 20, 21, 22, 23, 24, 25, 26, 27, 28, 29, 30, 31, 32, 33, 34, 35, 36, 37, 38, 39, 40, 41, 42, 43, 44, 45, 46, 47, 48, 49, 50, 51] (by decide +kernel) (by decide +kernel)
set_option maxRecDepth 20000 in
theorem gX1_get_X1_lookUp : GoodIn wsX1_get (wsV RX1 38 RX1 yX1_lookUp wsX1_lookUp) := goodIn_app (goodIn_of _ (by decide +kernel)) ggX1_get_X1_lookUp
theorem dX1_get_0 : decode cX1_get 0 = .ok (.aload_n 0, 1) := by decide +kernel
theorem dX1_get_1 : decode cX1_get 1 = .ok (.iconst 0, 1) := by decide +kernel
theorem dX1_get_2 : decode cX1_get 2 = .ok (.putfield 35, 3) := by decide +kernel
theorem dX1_get_5 : decode cX1_get 5 = .ok (.aload_n 0, 1) := by decide +kernel
theorem dX1_get_6 : decode cX1_get 6 = .ok (.iload_n 1, 1) := by decide +kernel
theorem dX1_get_7 : decode cX1_get 7 = .ok (.invokevirtual 38, 3) := by decide +kernel
theorem dX1_get_10 : decode cX1_get 10 = .ok (.istore_n 2, 1) := by decide +kernel
theorem dX1_get_11 : decode cX1_get 11 = .ok (.iload_n 2, 1) := by decide +kernel
theorem dX1_get_12 : decode cX1_get 12 = .ok (.sipush 2000, 3) := by decide +kernel
theorem dX1_get_15 : decode cX1_get 15 = .ok (.if_icmp .lt 17, 3) := by decide +kernel
theorem dX1_get_18 : decode cX1_get 18 = .ok (.aload_n 0, 1) := by decide +kernel
theorem dX1_get_19 : decode cX1_get 19 = .ok (.getfield 26, 3) := by decide +kernel
theorem dX1_get_22 : decode cX1_get 22 = .ok (.getfield 41, 3) := by decide +kernel
theorem dX1_get_25 : decode cX1_get 25 = .ok (.iload_n 2, 1) := by decide +kernel
theorem dX1_get_26 : decode cX1_get 26 = .ok (.sipush 2000, 3) := by decide +kernel
theorem dX1_get_29 : decode cX1_get 29 = .ok (.isub, 1) := by decide +kernel
theorem dX1_get_30 : decode cX1_get 30 = .ok (.iaload, 1) := by decide +kernel
theorem dX1_get_31 : decode cX1_get 31 = .ok (.ireturn, 1) := by decide +kernel
theorem dX1_get_32 : decode cX1_get 32 = .ok (.iload_n 2, 1) := by decide +kernel
theorem dX1_get_33 : decode cX1_get 33 = .ok (.ifCond .lt 15, 3) := by decide +kernel
theorem dX1_get_36 : decode cX1_get 36 = .ok (.aload_n 0, 1) := by decide +kernel
theorem dX1_get_37 : decode cX1_get 37 = .ok (.getfield 22, 3) := by decide +kernel
theorem dX1_get_40 : decode cX1_get 40 = .ok (.getfield 41, 3) := by decide +kernel
theorem dX1_get_43 : decode cX1_get 43 = .ok (.iload_n 2, 1) := by decide +kernel
theorem dX1_get_44 : decode cX1_get 44 = .ok (.iaload, 1) := by decide +kernel
theorem dX1_get_45 : decode cX1_get 45 = .ok (.goto 4, 3) := by decide +kernel
theorem dX1_get_48 : decode cX1_get 48 = .ok (.iconst 0, 1) := by decide +kernel
theorem dX1_get_49 : decode cX1_get 49 = .ok (.ireturn, 1) := by decide +kernel
set_option maxRecDepth 20000 in
theorem ggX1_has_X1_lookUp : GoodIn wsX1_has wsX1_lookUp := goodIn_r _ [6, 7, 8, 9, 10, 11, 5, 12, 1, 13, 14, 15, 16, 17, 18, 19, 20, 21, 22, 23, 24, 25, 26, 27, 28, 29, 30, 31, 32, 33, 34, 35, 36, 37, 38, 39, 40, 41, 42, 43, 44, 45, 46, 47, 48, 49, 50] (by decide +kernel) (by decide +kernel)
set_option maxRecDepth 20000 in
theorem gX1_has_X1_lookUp : GoodIn wsX1_has (wsV RX1 38 RX1 yX1_lookUp wsX1_lookUp) := goodIn_app (goodIn_of _ (by decide +kernel)) ggX1_has_X1_lookUp
theorem dX1_has_0 : decode cX1_has 0 = .ok (.aload_n 0, 1) := by decide +kernel
theorem dX1_has_1 : decode cX1_has 1 = .ok (.iconst 0, 1) := by decide +kernel
theorem dX1_has_2 : decode cX1_has 2 = .ok (.putfield 35, 3) := by decide +kernel
theorem dX1_has_5 : decode cX1_has 5 = .ok (.aload_n 0, 1) := by decide +kernel
theorem dX1_has_6 : decode cX1_has 6 = .ok (.iload_n 1, 1) := by decide +kernel
theorem dX1_has_7 : decode cX1_has 7 = .ok (.invokevirtual 38, 3) := by decide +kernel
theorem dX1_has_10 : decode cX1_has 10 = .ok (.ifCond .lt 7, 3) := by decide +kernel
theorem dX1_has_13 : decode cX1_has 13 = .ok (.iconst 1, 1) := by decide +kernel
theorem dX1_has_14 : decode cX1_has 14 = .ok (.goto 4, 3) := by decide +kernel
theorem dX1_has_17 : decode cX1_has 17 = .ok (.iconst 0, 1) := by decide +kernel
theorem dX1_has_18 : decode cX1_has 18 = .ok (.ireturn, 1) := by decide +kernel
set_option maxRecDepth 20000 in
theorem ggX1_remove_X1_lookUp : GoodIn wsX1_remove wsX1_lookUp := goodIn_r _ [9, 10, 2, 11, 12, 13, 8, 14, 1, 15, 16, 17, 18, 19, 20, 21, 22, 23, 24, 25, 26, 27, 28, 29, 30, 31, 32, 33, 34, 35, 36, 37, 38, 39, 40, 41, 42, 101, 102, 103, 104, 105, 106, 107, 108, 109, 110] (by decide +kernel) (by decide +kernel)
set_option maxRecDepth 20000 in
theorem gX1_remove_X1_lookUp : GoodIn wsX1_remove (wsV RX1 38 RX1 yX1_lookUp wsX1_lookUp) := goodIn_app (goodIn_of _ (by decide +kernel)) ggX1_remove_X1_lookUp
set_option maxRecDepth 20000 in
theorem ggX1_remove_X1_freeInNew : GoodIn wsX1_remove wsX1_freeInNew := goodIn_r _ [46, 10, 3, 1, 15, 33, 34, 35, 19, 36, 22, 47, 48, 49, 50, 32, 51, 17, 18, 20, 21, 52, 53, 54, 55, 56, 57, 58, 59, 60, 27, 61, 62, 63, 64, 101, 102, 103, 104, 105, 106, 107, 108, 109, 110] (by decide +kernel) (by decide +kernel)
set_option maxRecDepth 20000 in
theorem gX1_remove_X1_freeInNew : GoodIn wsX1_remove (wsV RX1 66 RX1 yX1_freeInNew wsX1_freeInNew) := goodIn_app (goodIn_of _ (by decide +kernel)) ggX1_remove_X1_freeInNew
set_option maxRecDepth 20000 in
theorem ggX1_remove_X1_moveOn : GoodIn wsX1_remove wsX1_moveOn := goodIn_r _ [68, 4, 10, 15, 38, 39, 40, 8, 41, 42, 69, 70, 71, 72, 2, 73, 74, 75, 76, 1, 3, 77, 78, 79, 80, 81, 82, 11, 12, 13, 14, 16, 17, 18, 19, 20, 21, 22, 23, 24, 25, 26, 27, 28, 29, 30, 31, 32, 33, 34, 35, 36, 83, 62, 63, 64, 60, 84, 85, 86, 87, 88, 89, 90, 91, 92, 93, 94, 95, 96, 97, 98, 99, 100, 101, 102, 103, 104, 105, 106, 107, 108, 109, 110] (by decide +kernel) (by decide +kernel)
set_option maxRecDepth 20000 in
theorem gX1_remove_X1_moveOn : GoodIn wsX1_remove (wsV RX1 60 RX1 yX1_moveOn wsX1_moveOn) := goodIn_app (goodIn_of _ (by decide +kernel)) ggX1_remove_X1_moveOn
theorem dX1_remove_0 : decode cX1_remove 0 = .ok (.aload_n 0, 1) := by decide +kernel
theorem dX1_remove_1 : decode cX1_remove 1 = .ok (.iconst 0, 1) := by decide +kernel
theorem dX1_remove_2 : decode cX1_remove 2 = .ok (.putfield 35, 3) := by decide +kernel
theorem dX1_remove_5 : decode cX1_remove 5 = .ok (.aload_n 0, 1) := by decide +kernel
theorem dX1_remove_6 : decode cX1_remove 6 = .ok (.iload_n 1, 1) := by decide +kernel
theorem dX1_remove_7 : decode cX1_remove 7 = .ok (.invokevirtual 38, 3) := by decide +kernel
theorem dX1_remove_10 : decode cX1_remove 10 = .ok (.istore_n 2, 1) := by decide +kernel
theorem dX1_remove_11 : decode cX1_remove 11 = .ok (.iload_n 2, 1) := by decide +kernel
theorem dX1_remove_12 : decode cX1_remove 12 = .ok (.ifCond .ge 5, 3) := by decide +kernel
theorem dX1_remove_15 : decode cX1_remove 15 = .ok (.iconst 0, 1) := by decide +kernel
theorem dX1_remove_16 : decode cX1_remove 16 = .ok (.ireturn, 1) := by decide +kernel
theorem dX1_remove_17 : decode cX1_remove 17 = .ok (.iload_n 2, 1) := by decide +kernel
theorem dX1_remove_18 : decode cX1_remove 18 = .ok (.sipush 2000, 3) := by decide +kernel
theorem dX1_remove_21 : decode cX1_remove 21 = .ok (.if_icmp .lt 20, 3) := by decide +kernel
theorem dX1_remove_24 : decode cX1_remove 24 = .ok (.aload_n 0, 1) := by decide +kernel
theorem dX1_remove_25 : decode cX1_remove 25 = .ok (.getfield 26, 3) := by decide +kernel
theorem dX1_remove_28 : decode cX1_remove 28 = .ok (.getfield 63, 3) := by decide +kernel
theorem dX1_remove_31 : decode cX1_remove 31 = .ok (.iload_n 2, 1) := by decide +kernel
theorem dX1_remove_32 : decode cX1_remove 32 = .ok (.sipush 2000, 3) := by decide +kernel
theorem dX1_remove_35 : decode cX1_remove 35 = .ok (.isub, 1) := by decide +kernel
theorem dX1_remove_36 : decode cX1_remove 36 = .ok (.iconst 1, 1) := by decide +kernel
theorem dX1_remove_37 : decode cX1_remove 37 = .ok (.iastore, 1) := by decide +kernel
theorem dX1_remove_38 : decode cX1_remove 38 = .ok (.goto 8, 3) := by decide +kernel
theorem dX1_remove_41 : decode cX1_remove 41 = .ok (.aload_n 0, 1) := by decide +kernel
theorem dX1_remove_42 : decode cX1_remove 42 = .ok (.iload_n 2, 1) := by decide +kernel
theorem dX1_remove_43 : decode cX1_remove 43 = .ok (.invokevirtual 66, 3) := by decide +kernel
theorem dX1_remove_46 : decode cX1_remove 46 = .ok (.aload_n 0, 1) := by decide +kernel
theorem dX1_remove_47 : decode cX1_remove 47 = .ok (.dup, 1) := by decide +kernel
theorem dX1_remove_48 : decode cX1_remove 48 = .ok (.getfield 57, 3) := by decide +kernel
theorem dX1_remove_51 : decode cX1_remove 51 = .ok (.iconst 1, 1) := by decide +kernel
theorem dX1_remove_52 : decode cX1_remove 52 = .ok (.isub, 1) := by decide +kernel
theorem dX1_remove_53 : decode cX1_remove 53 = .ok (.putfield 57, 3) := by decide +kernel
theorem dX1_remove_56 : decode cX1_remove 56 = .ok (.aload_n 0, 1) := by decide +kernel
theorem dX1_remove_57 : decode cX1_remove 57 = .ok (.invokevirtual 60, 3) := by decide +kernel
theorem dX1_remove_60 : decode cX1_remove 60 = .ok (.iconst 1, 1) := by decide +kernel
theorem dX1_remove_61 : decode cX1_remove 61 = .ok (.ireturn, 1) := by decide +kernel
theorem dX1_size_0 : decode cX1_size 0 = .ok (.aload_n 0, 1) := by decide +kernel
theorem dX1_size_1 : decode cX1_size 1 = .ok (.getfield 57, 3) := by decide +kernel
theorem dX1_size_4 : decode cX1_size 4 = .ok (.ireturn, 1) := by decide +kernel
theorem dX1_capacity_0 : decode cX1_capacity 0 = .ok (.aload_n 0, 1) := by decide +kernel
theorem dX1_capacity_1 : decode cX1_capacity 1 = .ok (.getfield 22, 3) := by decide +kernel
theorem dX1_capacity_4 : decode cX1_capacity 4 = .ok (.getfield 69, 3) := by decide +kernel
theorem dX1_capacity_7 : decode cX1_capacity 7 = .ok (.ireturn, 1) := by decide +kernel
theorem dX1_migrating_0 : decode cX1_migrating 0 = .ok (.aload_n 0, 1) := by decide +kernel
theorem dX1_migrating_1 : decode cX1_migrating 1 = .ok (.getfield 32, 3) := by decide +kernel
theorem dX1_migrating_4 : decode cX1_migrating 4 = .ok (.iconst (-1), 1) := by decide +kernel
theorem dX1_migrating_5 : decode cX1_migrating 5 = .ok (.if_icmp .eq 7, 3) := by decide +kernel
theorem dX1_migrating_8 : decode cX1_migrating 8 = .ok (.iconst 1, 1) := by decide +kernel
theorem dX1_migrating_9 : decode cX1_migrating 9 = .ok (.goto 4, 3) := by decide +kernel
theorem dX1_migrating_12 : decode cX1_migrating 12 = .ok (.iconst 0, 1) := by decide +kernel
theorem dX1_migrating_13 : decode cX1_migrating 13 = .ok (.ireturn, 1) := by decide +kernel
theorem dX1_lastWork_0 : decode cX1_lastWork 0 = .ok (.aload_n 0, 1) := by decide +kernel
theorem dX1_lastWork_1 : decode cX1_lastWork 1 = .ok (.getfield 35, 3) := by decide +kernel
theorem dX1_lastWork_4 : decode cX1_lastWork 4 = .ok (.ireturn, 1) := by decide +kernel
set_option maxRecDepth 20000 in
theorem ggX1_slot_X1_lookUp : GoodIn wsX1_slot wsX1_lookUp := goodIn_r _ [6, 7, 8, 9, 10, 11, 5, 12, 1, 13, 14, 15, 16, 17, 18, 19, 20, 21, 22, 23, 24, 25, 26, 27, 28, 29, 30, 31, 32, 33, 34, 35, 36, 37, 38, 39, 40, 41, 42, 43, 44, 45, 46, 47, 48, 49, 50] (by decide +kernel) (by decide +kernel)
set_option maxRecDepth 20000 in
theorem gX1_slot_X1_lookUp : GoodIn wsX1_slot (wsV RX1 38 RX1 yX1_lookUp wsX1_lookUp) := goodIn_app (goodIn_of _ (by decide +kernel)) ggX1_slot_X1_lookUp
theorem dX1_slot_0 : decode cX1_slot 0 = .ok (.aload_n 0, 1) := by decide +kernel
theorem dX1_slot_1 : decode cX1_slot 1 = .ok (.getfield 35, 3) := by decide +kernel
theorem dX1_slot_4 : decode cX1_slot 4 = .ok (.istore_n 2, 1) := by decide +kernel
theorem dX1_slot_5 : decode cX1_slot 5 = .ok (.aload_n 0, 1) := by decide +kernel
theorem dX1_slot_6 : decode cX1_slot 6 = .ok (.iload_n 1, 1) := by decide +kernel
theorem dX1_slot_7 : decode cX1_slot 7 = .ok (.invokevirtual 38, 3) := by decide +kernel
theorem dX1_slot_10 : decode cX1_slot 10 = .ok (.istore_n 3, 1) := by decide +kernel
theorem dX1_slot_11 : decode cX1_slot 11 = .ok (.aload_n 0, 1) := by decide +kernel
theorem dX1_slot_12 : decode cX1_slot 12 = .ok (.iload_n 2, 1) := by decide +kernel
theorem dX1_slot_13 : decode cX1_slot 13 = .ok (.putfield 35, 3) := by decide +kernel
theorem dX1_slot_16 : decode cX1_slot 16 = .ok (.iload_n 3, 1) := by decide +kernel
theorem dX1_slot_17 : decode cX1_slot 17 = .ok (.ifCond .lt 7, 3) := by decide +kernel
theorem dX1_slot_20 : decode cX1_slot 20 = .ok (.iload_n 3, 1) := by decide +kernel
theorem dX1_slot_21 : decode cX1_slot 21 = .ok (.goto 4, 3) := by decide +kernel
theorem dX1_slot_24 : decode cX1_slot 24 = .ok (.iconst (-1), 1) := by decide +kernel
theorem dX1_slot_25 : decode cX1_slot 25 = .ok (.ireturn, 1) := by decide +kernel
theorem dX1_cursor_0 : decode cX1_cursor 0 = .ok (.aload_n 0, 1) := by decide +kernel
theorem dX1_cursor_1 : decode cX1_cursor 1 = .ok (.getfield 32, 3) := by decide +kernel
theorem dX1_cursor_4 : decode cX1_cursor 4 = .ok (.ireturn, 1) := by decide +kernel
theorem dX1_powerWithin_0 : decode cX1_powerWithin 0 = .ok (.bipush 8, 2) := by decide +kernel
theorem dX1_powerWithin_2 : decode cX1_powerWithin 2 = .ok (.istore_n 1, 1) := by decide +kernel
theorem dX1_powerWithin_3 : decode cX1_powerWithin 3 = .ok (.iload_n 1, 1) := by decide +kernel
theorem dX1_powerWithin_4 : decode cX1_powerWithin 4 = .ok (.sipush 1024, 3) := by decide +kernel
theorem dX1_powerWithin_7 : decode cX1_powerWithin 7 = .ok (.if_icmp .ge 17, 3) := by decide +kernel
theorem dX1_powerWithin_10 : decode cX1_powerWithin 10 = .ok (.iload_n 1, 1) := by decide +kernel
theorem dX1_powerWithin_11 : decode cX1_powerWithin 11 = .ok (.iconst 2, 1) := by decide +kernel
theorem dX1_powerWithin_12 : decode cX1_powerWithin 12 = .ok (.imul, 1) := by decide +kernel
theorem dX1_powerWithin_13 : decode cX1_powerWithin 13 = .ok (.iload_n 0, 1) := by decide +kernel
theorem dX1_powerWithin_14 : decode cX1_powerWithin 14 = .ok (.if_icmp .gt 10, 3) := by decide +kernel
theorem dX1_powerWithin_17 : decode cX1_powerWithin 17 = .ok (.iload_n 1, 1) := by decide +kernel
theorem dX1_powerWithin_18 : decode cX1_powerWithin 18 = .ok (.iconst 2, 1) := by decide +kernel
theorem dX1_powerWithin_19 : decode cX1_powerWithin 19 = .ok (.imul, 1) := by decide +kernel
theorem dX1_powerWithin_20 : decode cX1_powerWithin 20 = .ok (.istore_n 1, 1) := by decide +kernel
theorem dX1_powerWithin_21 : decode cX1_powerWithin 21 = .ok (.goto (-18), 3) := by decide +kernel
theorem dX1_powerWithin_24 : decode cX1_powerWithin 24 = .ok (.iload_n 1, 1) := by decide +kernel
theorem dX1_powerWithin_25 : decode cX1_powerWithin 25 = .ok (.ireturn, 1) := by decide +kernel
set_option maxRecDepth 20000 in
theorem ggX1_lookUp_X1_lookFor : GoodIn wsX1_lookUp wsX1_lookFor := goodIn_r _ [7, 8, 9, 10, 11, 12, 13, 14, 15, 16, 17, 18, 19, 20, 21, 22, 23, 24, 25, 26, 27, 28, 29, 30, 37, 38, 39, 40, 41, 42, 43, 44, 45, 46] (by decide +kernel) (by decide +kernel)
set_option maxRecDepth 20000 in
theorem gX1_lookUp_X1_lookFor : GoodIn wsX1_lookUp (wsV RX1 72 RX1 yX1_lookFor wsX1_lookFor) := goodIn_app (goodIn_of _ (by decide +kernel)) ggX1_lookUp_X1_lookFor
set_option maxRecDepth 20000 in
theorem ggX1_lookUp_X0_holds : GoodIn wsX1_lookUp wsX0_holds := goodIn_r _ [25, 21, 26, 43, 44, 45, 46] (by decide +kernel) (by decide +kernel)
set_option maxRecDepth 20000 in
theorem gX1_lookUp_X0_holds : GoodIn wsX1_lookUp (wsV RX1 76 RX0 yX0_holds wsX0_holds) := goodIn_app (goodIn_of _ (by decide +kernel)) ggX1_lookUp_X0_holds
set_option maxRecDepth 20000 in
theorem ggX1_lookUp_X1_migrating : GoodIn wsX1_lookUp wsX1_migrating := goodIn_r _ [35, 36, 37, 38, 39, 40, 41, 42] (by decide +kernel) (by decide +kernel)
set_option maxRecDepth 20000 in
theorem gX1_lookUp_X1_migrating : GoodIn wsX1_lookUp (wsV RX1 80 RX1 yX1_migrating wsX1_migrating) := goodIn_app (goodIn_of _ (by decide +kernel)) ggX1_lookUp_X1_migrating
theorem dX1_lookUp_0 : decode cX1_lookUp 0 = .ok (.aload_n 0, 1) := by decide +kernel
theorem dX1_lookUp_1 : decode cX1_lookUp 1 = .ok (.aload_n 0, 1) := by decide +kernel
theorem dX1_lookUp_2 : decode cX1_lookUp 2 = .ok (.getfield 22, 3) := by decide +kernel
theorem dX1_lookUp_5 : decode cX1_lookUp 5 = .ok (.iload_n 1, 1) := by decide +kernel
theorem dX1_lookUp_6 : decode cX1_lookUp 6 = .ok (.invokevirtual 72, 3) := by decide +kernel
theorem dX1_lookUp_9 : decode cX1_lookUp 9 = .ok (.istore_n 2, 1) := by decide +kernel
theorem dX1_lookUp_10 : decode cX1_lookUp 10 = .ok (.aload_n 0, 1) := by decide +kernel
theorem dX1_lookUp_11 : decode cX1_lookUp 11 = .ok (.getfield 22, 3) := by decide +kernel
theorem dX1_lookUp_14 : decode cX1_lookUp 14 = .ok (.iload_n 2, 1) := by decide +kernel
theorem dX1_lookUp_15 : decode cX1_lookUp 15 = .ok (.iload_n 1, 1) := by decide +kernel
theorem dX1_lookUp_16 : decode cX1_lookUp 16 = .ok (.invokevirtual 76, 3) := by decide +kernel
theorem dX1_lookUp_19 : decode cX1_lookUp 19 = .ok (.ifCond .eq 5, 3) := by decide +kernel
theorem dX1_lookUp_22 : decode cX1_lookUp 22 = .ok (.iload_n 2, 1) := by decide +kernel
theorem dX1_lookUp_23 : decode cX1_lookUp 23 = .ok (.ireturn, 1) := by decide +kernel
theorem dX1_lookUp_24 : decode cX1_lookUp 24 = .ok (.aload_n 0, 1) := by decide +kernel
theorem dX1_lookUp_25 : decode cX1_lookUp 25 = .ok (.invokevirtual 80, 3) := by decide +kernel
theorem dX1_lookUp_28 : decode cX1_lookUp 28 = .ok (.ifCond .eq 31, 3) := by decide +kernel
theorem dX1_lookUp_31 : decode cX1_lookUp 31 = .ok (.aload_n 0, 1) := by decide +kernel
theorem dX1_lookUp_32 : decode cX1_lookUp 32 = .ok (.aload_n 0, 1) := by decide +kernel
theorem dX1_lookUp_33 : decode cX1_lookUp 33 = .ok (.getfield 26, 3) := by decide +kernel
theorem dX1_lookUp_36 : decode cX1_lookUp 36 = .ok (.iload_n 1, 1) := by decide +kernel
theorem dX1_lookUp_37 : decode cX1_lookUp 37 = .ok (.invokevirtual 72, 3) := by decide +kernel
theorem dX1_lookUp_40 : decode cX1_lookUp 40 = .ok (.istore_n 3, 1) := by decide +kernel
theorem dX1_lookUp_41 : decode cX1_lookUp 41 = .ok (.aload_n 0, 1) := by decide +kernel
theorem dX1_lookUp_42 : decode cX1_lookUp 42 = .ok (.getfield 26, 3) := by decide +kernel
theorem dX1_lookUp_45 : decode cX1_lookUp 45 = .ok (.iload_n 3, 1) := by decide +kernel
theorem dX1_lookUp_46 : decode cX1_lookUp 46 = .ok (.iload_n 1, 1) := by decide +kernel
theorem dX1_lookUp_47 : decode cX1_lookUp 47 = .ok (.invokevirtual 76, 3) := by decide +kernel
theorem dX1_lookUp_50 : decode cX1_lookUp 50 = .ok (.ifCond .eq 9, 3) := by decide +kernel
theorem dX1_lookUp_53 : decode cX1_lookUp 53 = .ok (.sipush 2000, 3) := by decide +kernel
theorem dX1_lookUp_56 : decode cX1_lookUp 56 = .ok (.iload_n 3, 1) := by decide +kernel
theorem dX1_lookUp_57 : decode cX1_lookUp 57 = .ok (.iadd, 1) := by decide +kernel
theorem dX1_lookUp_58 : decode cX1_lookUp 58 = .ok (.ireturn, 1) := by decide +kernel
theorem dX1_lookUp_59 : decode cX1_lookUp 59 = .ok (.iconst (-1), 1) := by decide +kernel
theorem dX1_lookUp_60 : decode cX1_lookUp 60 = .ok (.iload_n 2, 1) := by decide +kernel
theorem dX1_lookUp_61 : decode cX1_lookUp 61 = .ok (.isub, 1) := by decide +kernel
theorem dX1_lookUp_62 : decode cX1_lookUp 62 = .ok (.ireturn, 1) := by decide +kernel
theorem dX1_emptySlot_0 : decode cX1_emptySlot 0 = .ok (.iconst (-1), 1) := by decide +kernel
theorem dX1_emptySlot_1 : decode cX1_emptySlot 1 = .ok (.iload_n 0, 1) := by decide +kernel
theorem dX1_emptySlot_2 : decode cX1_emptySlot 2 = .ok (.isub, 1) := by decide +kernel
theorem dX1_emptySlot_3 : decode cX1_emptySlot 3 = .ok (.ireturn, 1) := by decide +kernel
set_option maxRecDepth 20000 in
theorem ggX1_lookFor_X0_home : GoodIn wsX1_lookFor wsX0_home := goodIn_r _ [7, 8, 9, 30, 31, 32, 33] (by decide +kernel) (by decide +kernel)
set_option maxRecDepth 20000 in
theorem gX1_lookFor_X0_home : GoodIn wsX1_lookFor (wsV RX1 83 RX0 yX0_home wsX0_home) := goodIn_app (goodIn_of _ (by decide +kernel)) ggX1_lookFor_X0_home
set_option maxRecDepth 20000 in
theorem ggX1_lookFor_X0_endsSearch : GoodIn wsX1_lookFor wsX0_endsSearch := goodIn_r _ [13, 14, 15, 16, 17, 6, 18, 19, 30, 31, 32, 33] (by decide +kernel) (by decide +kernel)
set_option maxRecDepth 20000 in
theorem gX1_lookFor_X0_endsSearch : GoodIn wsX1_lookFor (wsV RX1 86 RX0 yX0_endsSearch wsX0_endsSearch) := goodIn_app (goodIn_of _ (by decide +kernel)) ggX1_lookFor_X0_endsSearch
set_option maxRecDepth 20000 in
theorem ggX1_lookFor_X0_next : GoodIn wsX1_lookFor wsX0_next := goodIn_r _ [23, 9, 30, 31, 32, 33] (by decide +kernel) (by decide +kernel)
set_option maxRecDepth 20000 in
theorem gX1_lookFor_X0_next : GoodIn wsX1_lookFor (wsV RX1 89 RX0 yX0_next wsX0_next) := goodIn_app (goodIn_of _ (by decide +kernel)) ggX1_lookFor_X0_next
theorem dX1_lookFor_0 : decode cX1_lookFor 0 = .ok (.aload_n 1, 1) := by decide +kernel
theorem dX1_lookFor_1 : decode cX1_lookFor 1 = .ok (.iload_n 2, 1) := by decide +kernel
theorem dX1_lookFor_2 : decode cX1_lookFor 2 = .ok (.invokevirtual 83, 3) := by decide +kernel
theorem dX1_lookFor_5 : decode cX1_lookFor 5 = .ok (.istore_n 3, 1) := by decide +kernel
theorem dX1_lookFor_6 : decode cX1_lookFor 6 = .ok (.aload_n 0, 1) := by decide +kernel
theorem dX1_lookFor_7 : decode cX1_lookFor 7 = .ok (.dup, 1) := by decide +kernel
theorem dX1_lookFor_8 : decode cX1_lookFor 8 = .ok (.getfield 35, 3) := by decide +kernel
theorem dX1_lookFor_11 : decode cX1_lookFor 11 = .ok (.iconst 1, 1) := by decide +kernel
theorem dX1_lookFor_12 : decode cX1_lookFor 12 = .ok (.iadd, 1) := by decide +kernel
theorem dX1_lookFor_13 : decode cX1_lookFor 13 = .ok (.putfield 35, 3) := by decide +kernel
theorem dX1_lookFor_16 : decode cX1_lookFor 16 = .ok (.iconst 1, 1) := by decide +kernel
theorem dX1_lookFor_17 : decode cX1_lookFor 17 = .ok (.istore 4, 2) := by decide +kernel
theorem dX1_lookFor_19 : decode cX1_lookFor 19 = .ok (.iload 4, 2) := by decide +kernel
theorem dX1_lookFor_21 : decode cX1_lookFor 21 = .ok (.aload_n 1, 1) := by decide +kernel
theorem dX1_lookFor_22 : decode cX1_lookFor 22 = .ok (.getfield 69, 3) := by decide +kernel
theorem dX1_lookFor_25 : decode cX1_lookFor 25 = .ok (.if_icmp .ge 34, 3) := by decide +kernel
theorem dX1_lookFor_28 : decode cX1_lookFor 28 = .ok (.aload_n 1, 1) := by decide +kernel
theorem dX1_lookFor_29 : decode cX1_lookFor 29 = .ok (.iload_n 3, 1) := by decide +kernel
theorem dX1_lookFor_30 : decode cX1_lookFor 30 = .ok (.iload_n 2, 1) := by decide +kernel
theorem dX1_lookFor_31 : decode cX1_lookFor 31 = .ok (.invokevirtual 86, 3) := by decide +kernel
theorem dX1_lookFor_34 : decode cX1_lookFor 34 = .ok (.ifCond .ne 25, 3) := by decide +kernel
theorem dX1_lookFor_37 : decode cX1_lookFor 37 = .ok (.aload_n 1, 1) := by decide +kernel
theorem dX1_lookFor_38 : decode cX1_lookFor 38 = .ok (.iload_n 3, 1) := by decide +kernel
theorem dX1_lookFor_39 : decode cX1_lookFor 39 = .ok (.invokevirtual 89, 3) := by decide +kernel
theorem dX1_lookFor_42 : decode cX1_lookFor 42 = .ok (.istore_n 3, 1) := by decide +kernel
theorem dX1_lookFor_43 : decode cX1_lookFor 43 = .ok (.aload_n 0, 1) := by decide +kernel
theorem dX1_lookFor_44 : decode cX1_lookFor 44 = .ok (.dup, 1) := by decide +kernel
theorem dX1_lookFor_45 : decode cX1_lookFor 45 = .ok (.getfield 35, 3) := by decide +kernel
theorem dX1_lookFor_48 : decode cX1_lookFor 48 = .ok (.iconst 1, 1) := by decide +kernel
theorem dX1_lookFor_49 : decode cX1_lookFor 49 = .ok (.iadd, 1) := by decide +kernel
theorem dX1_lookFor_50 : decode cX1_lookFor 50 = .ok (.putfield 35, 3) := by decide +kernel
theorem dX1_lookFor_53 : decode cX1_lookFor 53 = .ok (.iinc 4 1, 3) := by decide +kernel
theorem dX1_lookFor_56 : decode cX1_lookFor 56 = .ok (.goto (-37), 3) := by decide +kernel
theorem dX1_lookFor_59 : decode cX1_lookFor 59 = .ok (.iload_n 3, 1) := by decide +kernel
theorem dX1_lookFor_60 : decode cX1_lookFor 60 = .ok (.ireturn, 1) := by decide +kernel
set_option maxRecDepth 20000 in
theorem ggX1_freeInNew_X0_next : GoodIn wsX1_freeInNew wsX0_next := goodIn_r _ [9, 10, 41, 42, 43, 44] (by decide +kernel) (by decide +kernel)
set_option maxRecDepth 20000 in
theorem gX1_freeInNew_X0_next : GoodIn wsX1_freeInNew (wsV RX1 89 RX0 yX0_next wsX0_next) := goodIn_app (goodIn_of _ (by decide +kernel)) ggX1_freeInNew_X0_next
set_option maxRecDepth 20000 in
theorem ggX1_freeInNew_X0_reachesBack : GoodIn wsX1_freeInNew wsX0_reachesBack := goodIn_r _ [14, 15, 16, 17, 18, 8, 19, 20, 10, 21, 22, 23, 24, 41, 42, 43, 44] (by decide +kernel) (by decide +kernel)
set_option maxRecDepth 20000 in
theorem gX1_freeInNew_X0_reachesBack : GoodIn wsX1_freeInNew (wsV RX1 92 RX0 yX0_reachesBack wsX0_reachesBack) := goodIn_app (goodIn_of _ (by decide +kernel)) ggX1_freeInNew_X0_reachesBack
set_option maxRecDepth 20000 in
theorem ggX1_freeInNew_X0_shift : GoodIn wsX1_freeInNew wsX0_shift := goodIn_r _ [28, 15, 29, 30, 31, 32, 33, 8, 34, 41, 42, 43, 44] (by decide +kernel) (by decide +kernel)
set_option maxRecDepth 20000 in
theorem gX1_freeInNew_X0_shift : GoodIn wsX1_freeInNew (wsV RX1 95 RX0 yX0_shift wsX0_shift) := goodIn_app (goodIn_of _ (by decide +kernel)) ggX1_freeInNew_X0_shift
theorem dX1_freeInNew_0 : decode cX1_freeInNew 0 = .ok (.iload_n 1, 1) := by decide +kernel
theorem dX1_freeInNew_1 : decode cX1_freeInNew 1 = .ok (.istore_n 2, 1) := by decide +kernel
theorem dX1_freeInNew_2 : decode cX1_freeInNew 2 = .ok (.aload_n 0, 1) := by decide +kernel
theorem dX1_freeInNew_3 : decode cX1_freeInNew 3 = .ok (.getfield 22, 3) := by decide +kernel
theorem dX1_freeInNew_6 : decode cX1_freeInNew 6 = .ok (.getfield 63, 3) := by decide +kernel
theorem dX1_freeInNew_9 : decode cX1_freeInNew 9 = .ok (.iload_n 2, 1) := by decide +kernel
theorem dX1_freeInNew_10 : decode cX1_freeInNew 10 = .ok (.iconst 0, 1) := by decide +kernel
theorem dX1_freeInNew_11 : decode cX1_freeInNew 11 = .ok (.iastore, 1) := by decide +kernel
theorem dX1_freeInNew_12 : decode cX1_freeInNew 12 = .ok (.aload_n 0, 1) := by decide +kernel
theorem dX1_freeInNew_13 : decode cX1_freeInNew 13 = .ok (.getfield 22, 3) := by decide +kernel
theorem dX1_freeInNew_16 : decode cX1_freeInNew 16 = .ok (.iload_n 2, 1) := by decide +kernel
theorem dX1_freeInNew_17 : decode cX1_freeInNew 17 = .ok (.invokevirtual 89, 3) := by decide +kernel
theorem dX1_freeInNew_20 : decode cX1_freeInNew 20 = .ok (.istore_n 3, 1) := by decide +kernel
theorem dX1_freeInNew_21 : decode cX1_freeInNew 21 = .ok (.aload_n 0, 1) := by decide +kernel
theorem dX1_freeInNew_22 : decode cX1_freeInNew 22 = .ok (.dup, 1) := by decide +kernel
theorem dX1_freeInNew_23 : decode cX1_freeInNew 23 = .ok (.getfield 35, 3) := by decide +kernel
theorem dX1_freeInNew_26 : decode cX1_freeInNew 26 = .ok (.iconst 1, 1) := by decide +kernel
theorem dX1_freeInNew_27 : decode cX1_freeInNew 27 = .ok (.iadd, 1) := by decide +kernel
theorem dX1_freeInNew_28 : decode cX1_freeInNew 28 = .ok (.putfield 35, 3) := by decide +kernel
theorem dX1_freeInNew_31 : decode cX1_freeInNew 31 = .ok (.iconst 1, 1) := by decide +kernel
theorem dX1_freeInNew_32 : decode cX1_freeInNew 32 = .ok (.istore 4, 2) := by decide +kernel
theorem dX1_freeInNew_34 : decode cX1_freeInNew 34 = .ok (.iload 4, 2) := by decide +kernel
theorem dX1_freeInNew_36 : decode cX1_freeInNew 36 = .ok (.aload_n 0, 1) := by decide +kernel
theorem dX1_freeInNew_37 : decode cX1_freeInNew 37 = .ok (.getfield 22, 3) := by decide +kernel
theorem dX1_freeInNew_40 : decode cX1_freeInNew 40 = .ok (.getfield 69, 3) := by decide +kernel
theorem dX1_freeInNew_43 : decode cX1_freeInNew 43 = .ok (.if_icmp .ge 63, 3) := by decide +kernel
theorem dX1_freeInNew_46 : decode cX1_freeInNew 46 = .ok (.aload_n 0, 1) := by decide +kernel
theorem dX1_freeInNew_47 : decode cX1_freeInNew 47 = .ok (.getfield 22, 3) := by decide +kernel
theorem dX1_freeInNew_50 : decode cX1_freeInNew 50 = .ok (.getfield 63, 3) := by decide +kernel
theorem dX1_freeInNew_53 : decode cX1_freeInNew 53 = .ok (.iload_n 3, 1) := by decide +kernel
theorem dX1_freeInNew_54 : decode cX1_freeInNew 54 = .ok (.iaload, 1) := by decide +kernel
theorem dX1_freeInNew_55 : decode cX1_freeInNew 55 = .ok (.ifCond .eq 51, 3) := by decide +kernel
theorem dX1_freeInNew_58 : decode cX1_freeInNew 58 = .ok (.aload_n 0, 1) := by decide +kernel
theorem dX1_freeInNew_59 : decode cX1_freeInNew 59 = .ok (.getfield 22, 3) := by decide +kernel
theorem dX1_freeInNew_62 : decode cX1_freeInNew 62 = .ok (.iload_n 3, 1) := by decide +kernel
theorem dX1_freeInNew_63 : decode cX1_freeInNew 63 = .ok (.iload_n 2, 1) := by decide +kernel
theorem dX1_freeInNew_64 : decode cX1_freeInNew 64 = .ok (.invokevirtual 92, 3) := by decide +kernel
theorem dX1_freeInNew_67 : decode cX1_freeInNew 67 = .ok (.ifCond .eq 14, 3) := by decide +kernel
theorem dX1_freeInNew_70 : decode cX1_freeInNew 70 = .ok (.aload_n 0, 1) := by decide +kernel
theorem dX1_freeInNew_71 : decode cX1_freeInNew 71 = .ok (.getfield 22, 3) := by decide +kernel
theorem dX1_freeInNew_74 : decode cX1_freeInNew 74 = .ok (.iload_n 3, 1) := by decide +kernel
theorem dX1_freeInNew_75 : decode cX1_freeInNew 75 = .ok (.iload_n 2, 1) := by decide +kernel
theorem dX1_freeInNew_76 : decode cX1_freeInNew 76 = .ok (.invokevirtual 95, 3) := by decide +kernel
theorem dX1_freeInNew_79 : decode cX1_freeInNew 79 = .ok (.iload_n 3, 1) := by decide +kernel
theorem dX1_freeInNew_80 : decode cX1_freeInNew 80 = .ok (.istore_n 2, 1) := by decide +kernel
theorem dX1_freeInNew_81 : decode cX1_freeInNew 81 = .ok (.aload_n 0, 1) := by decide +kernel
theorem dX1_freeInNew_82 : decode cX1_freeInNew 82 = .ok (.getfield 22, 3) := by decide +kernel
theorem dX1_freeInNew_85 : decode cX1_freeInNew 85 = .ok (.iload_n 3, 1) := by decide +kernel
theorem dX1_freeInNew_86 : decode cX1_freeInNew 86 = .ok (.invokevirtual 89, 3) := by decide +kernel
theorem dX1_freeInNew_89 : decode cX1_freeInNew 89 = .ok (.istore_n 3, 1) := by decide +kernel
theorem dX1_freeInNew_90 : decode cX1_freeInNew 90 = .ok (.aload_n 0, 1) := by decide +kernel
theorem dX1_freeInNew_91 : decode cX1_freeInNew 91 = .ok (.dup, 1) := by decide +kernel
theorem dX1_freeInNew_92 : decode cX1_freeInNew 92 = .ok (.getfield 35, 3) := by decide +kernel
theorem dX1_freeInNew_95 : decode cX1_freeInNew 95 = .ok (.iconst 1, 1) := by decide +kernel
theorem dX1_freeInNew_96 : decode cX1_freeInNew 96 = .ok (.iadd, 1) := by decide +kernel
theorem dX1_freeInNew_97 : decode cX1_freeInNew 97 = .ok (.putfield 35, 3) := by decide +kernel
theorem dX1_freeInNew_100 : decode cX1_freeInNew 100 = .ok (.iinc 4 1, 3) := by decide +kernel
theorem dX1_freeInNew_103 : decode cX1_freeInNew 103 = .ok (.goto (-69), 3) := by decide +kernel
theorem dX1_freeInNew_106 : decode cX1_freeInNew 106 = .ok (.return_, 1) := by decide +kernel
set_option maxRecDepth 20000 in
theorem ggX1_wouldOutgrowHalf_X1_migrating : GoodIn wsX1_wouldOutgrowHalf wsX1_migrating := goodIn_r _ [11, 1, 16, 17, 18, 19, 20, 21] (by decide +kernel) (by decide +kernel)
set_option maxRecDepth 20000 in
theorem gX1_wouldOutgrowHalf_X1_migrating : GoodIn wsX1_wouldOutgrowHalf (wsV RX1 80 RX1 yX1_migrating wsX1_migrating) := goodIn_app (goodIn_of _ (by decide +kernel)) ggX1_wouldOutgrowHalf_X1_migrating
set_option maxRecDepth 20000 in
theorem ggX1_wouldOutgrowHalf_X1_isCrowdedBy : GoodIn wsX1_wouldOutgrowHalf wsX1_isCrowdedBy := goodIn_r _ [15, 5, 3, 16, 17, 18, 19, 20, 21, 22, 23, 24, 25] (by decide +kernel) (by decide +kernel)
set_option maxRecDepth 20000 in
theorem gX1_wouldOutgrowHalf_X1_isCrowdedBy : GoodIn wsX1_wouldOutgrowHalf (wsV RX1 99 RX1 yX1_isCrowdedBy wsX1_isCrowdedBy) := goodIn_app (goodIn_of _ (by decide +kernel)) ggX1_wouldOutgrowHalf_X1_isCrowdedBy
theorem dX1_wouldOutgrowHalf_0 : decode cX1_wouldOutgrowHalf 0 = .ok (.aload_n 0, 1) := by decide +kernel
theorem dX1_wouldOutgrowHalf_1 : decode cX1_wouldOutgrowHalf 1 = .ok (.invokevirtual 80, 3) := by decide +kernel
theorem dX1_wouldOutgrowHalf_4 : decode cX1_wouldOutgrowHalf 4 = .ok (.ifCond .eq 23, 3) := by decide +kernel
theorem dX1_wouldOutgrowHalf_7 : decode cX1_wouldOutgrowHalf 7 = .ok (.aload_n 0, 1) := by decide +kernel
theorem dX1_wouldOutgrowHalf_8 : decode cX1_wouldOutgrowHalf 8 = .ok (.getfield 32, 3) := by decide +kernel
theorem dX1_wouldOutgrowHalf_11 : decode cX1_wouldOutgrowHalf 11 = .ok (.iconst 4, 1) := by decide +kernel
theorem dX1_wouldOutgrowHalf_12 : decode cX1_wouldOutgrowHalf 12 = .ok (.iadd, 1) := by decide +kernel
theorem dX1_wouldOutgrowHalf_13 : decode cX1_wouldOutgrowHalf 13 = .ok (.aload_n 0, 1) := by decide +kernel
theorem dX1_wouldOutgrowHalf_14 : decode cX1_wouldOutgrowHalf 14 = .ok (.getfield 26, 3) := by decide +kernel
theorem dX1_wouldOutgrowHalf_17 : decode cX1_wouldOutgrowHalf 17 = .ok (.getfield 69, 3) := by decide +kernel
theorem dX1_wouldOutgrowHalf_20 : decode cX1_wouldOutgrowHalf 20 = .ok (.if_icmp .ge 7, 3) := by decide +kernel
theorem dX1_wouldOutgrowHalf_23 : decode cX1_wouldOutgrowHalf 23 = .ok (.iconst 1, 1) := by decide +kernel
theorem dX1_wouldOutgrowHalf_24 : decode cX1_wouldOutgrowHalf 24 = .ok (.goto 4, 3) := by decide +kernel
theorem dX1_wouldOutgrowHalf_27 : decode cX1_wouldOutgrowHalf 27 = .ok (.iconst 0, 1) := by decide +kernel
theorem dX1_wouldOutgrowHalf_28 : decode cX1_wouldOutgrowHalf 28 = .ok (.istore_n 1, 1) := by decide +kernel
theorem dX1_wouldOutgrowHalf_29 : decode cX1_wouldOutgrowHalf 29 = .ok (.iload_n 1, 1) := by decide +kernel
theorem dX1_wouldOutgrowHalf_30 : decode cX1_wouldOutgrowHalf 30 = .ok (.ifCond .ne 36, 3) := by decide +kernel
theorem dX1_wouldOutgrowHalf_33 : decode cX1_wouldOutgrowHalf 33 = .ok (.aload_n 0, 1) := by decide +kernel
theorem dX1_wouldOutgrowHalf_34 : decode cX1_wouldOutgrowHalf 34 = .ok (.aload_n 0, 1) := by decide +kernel
theorem dX1_wouldOutgrowHalf_35 : decode cX1_wouldOutgrowHalf 35 = .ok (.getfield 57, 3) := by decide +kernel
theorem dX1_wouldOutgrowHalf_38 : decode cX1_wouldOutgrowHalf 38 = .ok (.iconst 1, 1) := by decide +kernel
theorem dX1_wouldOutgrowHalf_39 : decode cX1_wouldOutgrowHalf 39 = .ok (.iadd, 1) := by decide +kernel
theorem dX1_wouldOutgrowHalf_40 : decode cX1_wouldOutgrowHalf 40 = .ok (.invokevirtual 99, 3) := by decide +kernel
theorem dX1_wouldOutgrowHalf_43 : decode cX1_wouldOutgrowHalf 43 = .ok (.ifCond .eq 23, 3) := by decide +kernel
theorem dX1_wouldOutgrowHalf_46 : decode cX1_wouldOutgrowHalf 46 = .ok (.aload_n 0, 1) := by decide +kernel
theorem dX1_wouldOutgrowHalf_47 : decode cX1_wouldOutgrowHalf 47 = .ok (.getfield 22, 3) := by decide +kernel
theorem dX1_wouldOutgrowHalf_50 : decode cX1_wouldOutgrowHalf 50 = .ok (.getfield 69, 3) := by decide +kernel
theorem dX1_wouldOutgrowHalf_53 : decode cX1_wouldOutgrowHalf 53 = .ok (.iconst 2, 1) := by decide +kernel
theorem dX1_wouldOutgrowHalf_54 : decode cX1_wouldOutgrowHalf 54 = .ok (.imul, 1) := by decide +kernel
theorem dX1_wouldOutgrowHalf_55 : decode cX1_wouldOutgrowHalf 55 = .ok (.aload_n 0, 1) := by decide +kernel
theorem dX1_wouldOutgrowHalf_56 : decode cX1_wouldOutgrowHalf 56 = .ok (.getfield 13, 3) := by decide +kernel
theorem dX1_wouldOutgrowHalf_59 : decode cX1_wouldOutgrowHalf 59 = .ok (.if_icmp .le 7, 3) := by decide +kernel
theorem dX1_wouldOutgrowHalf_62 : decode cX1_wouldOutgrowHalf 62 = .ok (.iconst 1, 1) := by decide +kernel
theorem dX1_wouldOutgrowHalf_63 : decode cX1_wouldOutgrowHalf 63 = .ok (.goto 4, 3) := by decide +kernel
theorem dX1_wouldOutgrowHalf_66 : decode cX1_wouldOutgrowHalf 66 = .ok (.iconst 0, 1) := by decide +kernel
theorem dX1_wouldOutgrowHalf_67 : decode cX1_wouldOutgrowHalf 67 = .ok (.ireturn, 1) := by decide +kernel
theorem dX1_isCrowdedBy_0 : decode cX1_isCrowdedBy 0 = .ok (.iload_n 1, 1) := by decide +kernel
theorem dX1_isCrowdedBy_1 : decode cX1_isCrowdedBy 1 = .ok (.iconst 4, 1) := by decide +kernel
theorem dX1_isCrowdedBy_2 : decode cX1_isCrowdedBy 2 = .ok (.imul, 1) := by decide +kernel
theorem dX1_isCrowdedBy_3 : decode cX1_isCrowdedBy 3 = .ok (.aload_n 0, 1) := by decide +kernel
theorem dX1_isCrowdedBy_4 : decode cX1_isCrowdedBy 4 = .ok (.getfield 22, 3) := by decide +kernel
theorem dX1_isCrowdedBy_7 : decode cX1_isCrowdedBy 7 = .ok (.getfield 69, 3) := by decide +kernel
theorem dX1_isCrowdedBy_10 : decode cX1_isCrowdedBy 10 = .ok (.iconst 3, 1) := by decide +kernel
theorem dX1_isCrowdedBy_11 : decode cX1_isCrowdedBy 11 = .ok (.imul, 1) := by decide +kernel
theorem dX1_isCrowdedBy_12 : decode cX1_isCrowdedBy 12 = .ok (.if_icmp .lt 7, 3) := by decide +kernel
theorem dX1_isCrowdedBy_15 : decode cX1_isCrowdedBy 15 = .ok (.iconst 1, 1) := by decide +kernel
theorem dX1_isCrowdedBy_16 : decode cX1_isCrowdedBy 16 = .ok (.goto 4, 3) := by decide +kernel
theorem dX1_isCrowdedBy_19 : decode cX1_isCrowdedBy 19 = .ok (.iconst 0, 1) := by decide +kernel
theorem dX1_isCrowdedBy_20 : decode cX1_isCrowdedBy 20 = .ok (.ireturn, 1) := by decide +kernel
theorem dX1_isSparse_0 : decode cX1_isSparse 0 = .ok (.aload_n 0, 1) := by decide +kernel
theorem dX1_isSparse_1 : decode cX1_isSparse 1 = .ok (.getfield 57, 3) := by decide +kernel
theorem dX1_isSparse_4 : decode cX1_isSparse 4 = .ok (.bipush 8, 2) := by decide +kernel
theorem dX1_isSparse_6 : decode cX1_isSparse 6 = .ok (.imul, 1) := by decide +kernel
theorem dX1_isSparse_7 : decode cX1_isSparse 7 = .ok (.aload_n 0, 1) := by decide +kernel
theorem dX1_isSparse_8 : decode cX1_isSparse 8 = .ok (.getfield 22, 3) := by decide +kernel
theorem dX1_isSparse_11 : decode cX1_isSparse 11 = .ok (.getfield 69, 3) := by decide +kernel
theorem dX1_isSparse_14 : decode cX1_isSparse 14 = .ok (.if_icmp .gt 19, 3) := by decide +kernel
theorem dX1_isSparse_17 : decode cX1_isSparse 17 = .ok (.aload_n 0, 1) := by decide +kernel
theorem dX1_isSparse_18 : decode cX1_isSparse 18 = .ok (.getfield 22, 3) := by decide +kernel
theorem dX1_isSparse_21 : decode cX1_isSparse 21 = .ok (.getfield 69, 3) := by decide +kernel
theorem dX1_isSparse_24 : decode cX1_isSparse 24 = .ok (.bipush 8, 2) := by decide +kernel
theorem dX1_isSparse_26 : decode cX1_isSparse 26 = .ok (.if_icmp .le 7, 3) := by decide +kernel
theorem dX1_isSparse_29 : decode cX1_isSparse 29 = .ok (.iconst 1, 1) := by decide +kernel
theorem dX1_isSparse_30 : decode cX1_isSparse 30 = .ok (.goto 4, 3) := by decide +kernel
theorem dX1_isSparse_33 : decode cX1_isSparse 33 = .ok (.iconst 0, 1) := by decide +kernel
theorem dX1_isSparse_34 : decode cX1_isSparse 34 = .ok (.ireturn, 1) := by decide +kernel
set_option maxRecDepth 20000 in
theorem ggX1_moveOn_X1_migrating : GoodIn wsX1_moveOn wsX1_migrating := goodIn_r _ [8, 9, 74, 75, 76, 77, 78, 79] (by decide +kernel) (by decide +kernel)
set_option maxRecDepth 20000 in
theorem gX1_moveOn_X1_migrating : GoodIn wsX1_moveOn (wsV RX1 80 RX1 yX1_migrating wsX1_migrating) := goodIn_app (goodIn_of _ (by decide +kernel)) ggX1_moveOn_X1_migrating
set_option maxRecDepth 20000 in
theorem ggX1_moveOn_X1_moveNextSlots : GoodIn wsX1_moveOn wsX1_moveNextSlots := goodIn_r _ [13, 9, 14, 3, 15, 16, 17, 18, 19, 20, 21, 22, 23, 7, 24, 25, 2, 26, 27, 28, 29, 30, 31, 32, 33, 34, 35, 36, 37, 38, 39, 40, 41, 42, 43, 44, 45, 46, 47, 48, 49, 50, 51, 52, 53, 54, 55, 56, 74, 75, 76, 77, 78, 79, 80, 81, 82, 83] (by decide +kernel) (by decide +kernel)
set_option maxRecDepth 20000 in
theorem gX1_moveOn_X1_moveNextSlots : GoodIn wsX1_moveOn (wsV RX1 103 RX1 yX1_moveNextSlots wsX1_moveNextSlots) := goodIn_app (goodIn_of _ (by decide +kernel)) ggX1_moveOn_X1_moveNextSlots
set_option maxRecDepth 20000 in
theorem ggX1_moveOn_X1_isCrowdedBy : GoodIn wsX1_moveOn wsX1_isCrowdedBy := goodIn_r _ [60, 2, 3, 74, 75, 76, 77, 78, 79, 80, 81, 82, 83] (by decide +kernel) (by decide +kernel)
set_option maxRecDepth 20000 in
theorem gX1_moveOn_X1_isCrowdedBy : GoodIn wsX1_moveOn (wsV RX1 99 RX1 yX1_isCrowdedBy wsX1_isCrowdedBy) := goodIn_app (goodIn_of _ (by decide +kernel)) ggX1_moveOn_X1_isCrowdedBy
set_option maxRecDepth 20000 in
theorem ggX1_moveOn_X1_startMigration : GoodIn wsX1_moveOn wsX1_startMigration := goodIn_r _ [64, 14, 2, 9, 65, 66, 67, 34, 68, 42, 69, 16, 17, 18, 37, 74, 75, 76, 77, 78, 79, 80, 81, 82, 83] (by decide +kernel) (by decide +kernel)
set_option maxRecDepth 20000 in
theorem gX1_moveOn_X1_startMigration : GoodIn wsX1_moveOn (wsV RX1 106 RX1 yX1_startMigration wsX1_startMigration) := goodIn_app (goodIn_of _ (by decide +kernel)) ggX1_moveOn_X1_startMigration
set_option maxRecDepth 20000 in
theorem ggX1_moveOn_X1_isSparse : GoodIn wsX1_moveOn wsX1_isSparse := goodIn_r _ [73, 1, 2, 3, 74, 75, 76, 77, 78, 79, 80, 81, 82, 83] (by decide +kernel) (by decide +kernel)
set_option maxRecDepth 20000 in
theorem gX1_moveOn_X1_isSparse : GoodIn wsX1_moveOn (wsV RX1 109 RX1 yX1_isSparse wsX1_isSparse) := goodIn_app (goodIn_of _ (by decide +kernel)) ggX1_moveOn_X1_isSparse
theorem dX1_moveOn_0 : decode cX1_moveOn 0 = .ok (.aload_n 0, 1) := by decide +kernel
theorem dX1_moveOn_1 : decode cX1_moveOn 1 = .ok (.invokevirtual 80, 3) := by decide +kernel
theorem dX1_moveOn_4 : decode cX1_moveOn 4 = .ok (.ifCond .eq 7, 3) := by decide +kernel
theorem dX1_moveOn_7 : decode cX1_moveOn 7 = .ok (.aload_n 0, 1) := by decide +kernel
theorem dX1_moveOn_8 : decode cX1_moveOn 8 = .ok (.invokevirtual 103, 3) := by decide +kernel
theorem dX1_moveOn_11 : decode cX1_moveOn 11 = .ok (.aload_n 0, 1) := by decide +kernel
theorem dX1_moveOn_12 : decode cX1_moveOn 12 = .ok (.invokevirtual 80, 3) := by decide +kernel
theorem dX1_moveOn_15 : decode cX1_moveOn 15 = .ok (.ifCond .eq 4, 3) := by decide +kernel
theorem dX1_moveOn_18 : decode cX1_moveOn 18 = .ok (.return_, 1) := by decide +kernel
theorem dX1_moveOn_19 : decode cX1_moveOn 19 = .ok (.aload_n 0, 1) := by decide +kernel
theorem dX1_moveOn_20 : decode cX1_moveOn 20 = .ok (.aload_n 0, 1) := by decide +kernel
theorem dX1_moveOn_21 : decode cX1_moveOn 21 = .ok (.getfield 57, 3) := by decide +kernel
theorem dX1_moveOn_24 : decode cX1_moveOn 24 = .ok (.invokevirtual 99, 3) := by decide +kernel
theorem dX1_moveOn_27 : decode cX1_moveOn 27 = .ok (.ifCond .eq 19, 3) := by decide +kernel
theorem dX1_moveOn_30 : decode cX1_moveOn 30 = .ok (.aload_n 0, 1) := by decide +kernel
theorem dX1_moveOn_31 : decode cX1_moveOn 31 = .ok (.aload_n 0, 1) := by decide +kernel
theorem dX1_moveOn_32 : decode cX1_moveOn 32 = .ok (.getfield 22, 3) := by decide +kernel
theorem dX1_moveOn_35 : decode cX1_moveOn 35 = .ok (.getfield 69, 3) := by decide +kernel
theorem dX1_moveOn_38 : decode cX1_moveOn 38 = .ok (.iconst 2, 1) := by decide +kernel
theorem dX1_moveOn_39 : decode cX1_moveOn 39 = .ok (.imul, 1) := by decide +kernel
theorem dX1_moveOn_40 : decode cX1_moveOn 40 = .ok (.invokevirtual 106, 3) := by decide +kernel
theorem dX1_moveOn_43 : decode cX1_moveOn 43 = .ok (.goto 23, 3) := by decide +kernel
theorem dX1_moveOn_46 : decode cX1_moveOn 46 = .ok (.aload_n 0, 1) := by decide +kernel
theorem dX1_moveOn_47 : decode cX1_moveOn 47 = .ok (.invokevirtual 109, 3) := by decide +kernel
theorem dX1_moveOn_50 : decode cX1_moveOn 50 = .ok (.ifCond .eq 16, 3) := by decide +kernel
theorem dX1_moveOn_53 : decode cX1_moveOn 53 = .ok (.aload_n 0, 1) := by decide +kernel
theorem dX1_moveOn_54 : decode cX1_moveOn 54 = .ok (.aload_n 0, 1) := by decide +kernel
theorem dX1_moveOn_55 : decode cX1_moveOn 55 = .ok (.getfield 22, 3) := by decide +kernel
theorem dX1_moveOn_58 : decode cX1_moveOn 58 = .ok (.getfield 69, 3) := by decide +kernel
theorem dX1_moveOn_61 : decode cX1_moveOn 61 = .ok (.iconst 2, 1) := by decide +kernel
theorem dX1_moveOn_62 : decode cX1_moveOn 62 = .ok (.idiv, 1) := by decide +kernel
theorem dX1_moveOn_63 : decode cX1_moveOn 63 = .ok (.invokevirtual 106, 3) := by decide +kernel
theorem dX1_moveOn_66 : decode cX1_moveOn 66 = .ok (.return_, 1) := by decide +kernel
set_option maxRecDepth 20000 in
theorem ggX1_moveNextSlots_X1_moveToNew : GoodIn wsX1_moveNextSlots wsX1_moveToNew := goodIn_r _ [14, 2, 15, 16, 17, 9, 18, 19, 20, 13, 21, 8, 3, 22, 23, 24, 25, 26, 27, 28, 29, 30, 31, 32, 33, 34, 35, 36, 37, 38, 39, 40, 41, 42, 43, 44, 45, 46, 47, 48, 49, 50, 51, 52, 53, 54, 55, 56, 57] (by decide +kernel) (by decide +kernel)
set_option maxRecDepth 20000 in
theorem gX1_moveNextSlots_X1_moveToNew : GoodIn wsX1_moveNextSlots (wsV RX1 118 RX1 yX1_moveToNew wsX1_moveToNew) := goodIn_app (goodIn_of _ (by decide +kernel)) ggX1_moveNextSlots_X1_moveToNew
theorem dX1_moveNextSlots_0 : decode cX1_moveNextSlots 0 = .ok (.aload_n 0, 1) := by decide +kernel
theorem dX1_moveNextSlots_1 : decode cX1_moveNextSlots 1 = .ok (.getfield 32, 3) := by decide +kernel
theorem dX1_moveNextSlots_4 : decode cX1_moveNextSlots 4 = .ok (.iconst 4, 1) := by decide +kernel
theorem dX1_moveNextSlots_5 : decode cX1_moveNextSlots 5 = .ok (.iadd, 1) := by decide +kernel
theorem dX1_moveNextSlots_6 : decode cX1_moveNextSlots 6 = .ok (.aload_n 0, 1) := by decide +kernel
theorem dX1_moveNextSlots_7 : decode cX1_moveNextSlots 7 = .ok (.getfield 26, 3) := by decide +kernel
theorem dX1_moveNextSlots_10 : decode cX1_moveNextSlots 10 = .ok (.getfield 69, 3) := by decide +kernel
theorem dX1_moveNextSlots_13 : decode cX1_moveNextSlots 13 = .ok (.invokestatic 112, 3) := by decide +kernel
theorem dX1_moveNextSlots_16 : decode cX1_moveNextSlots 16 = .ok (.istore_n 1, 1) := by decide +kernel
theorem dX1_moveNextSlots_17 : decode cX1_moveNextSlots 17 = .ok (.aload_n 0, 1) := by decide +kernel
theorem dX1_moveNextSlots_18 : decode cX1_moveNextSlots 18 = .ok (.getfield 32, 3) := by decide +kernel
theorem dX1_moveNextSlots_21 : decode cX1_moveNextSlots 21 = .ok (.istore_n 2, 1) := by decide +kernel
theorem dX1_moveNextSlots_22 : decode cX1_moveNextSlots 22 = .ok (.iload_n 2, 1) := by decide +kernel
theorem dX1_moveNextSlots_23 : decode cX1_moveNextSlots 23 = .ok (.iload_n 1, 1) := by decide +kernel
theorem dX1_moveNextSlots_24 : decode cX1_moveNextSlots 24 = .ok (.if_icmp .ge 37, 3) := by decide +kernel
theorem dX1_moveNextSlots_27 : decode cX1_moveNextSlots 27 = .ok (.aload_n 0, 1) := by decide +kernel
theorem dX1_moveNextSlots_28 : decode cX1_moveNextSlots 28 = .ok (.dup, 1) := by decide +kernel
theorem dX1_moveNextSlots_29 : decode cX1_moveNextSlots 29 = .ok (.getfield 35, 3) := by decide +kernel
theorem dX1_moveNextSlots_32 : decode cX1_moveNextSlots 32 = .ok (.iconst 1, 1) := by decide +kernel
theorem dX1_moveNextSlots_33 : decode cX1_moveNextSlots 33 = .ok (.iadd, 1) := by decide +kernel
theorem dX1_moveNextSlots_34 : decode cX1_moveNextSlots 34 = .ok (.putfield 35, 3) := by decide +kernel
theorem dX1_moveNextSlots_37 : decode cX1_moveNextSlots 37 = .ok (.aload_n 0, 1) := by decide +kernel
theorem dX1_moveNextSlots_38 : decode cX1_moveNextSlots 38 = .ok (.getfield 26, 3) := by decide +kernel
theorem dX1_moveNextSlots_41 : decode cX1_moveNextSlots 41 = .ok (.getfield 63, 3) := by decide +kernel
theorem dX1_moveNextSlots_44 : decode cX1_moveNextSlots 44 = .ok (.iload_n 2, 1) := by decide +kernel
theorem dX1_moveNextSlots_45 : decode cX1_moveNextSlots 45 = .ok (.iaload, 1) := by decide +kernel
theorem dX1_moveNextSlots_46 : decode cX1_moveNextSlots 46 = .ok (.iconst 2, 1) := by decide +kernel
theorem dX1_moveNextSlots_47 : decode cX1_moveNextSlots 47 = .ok (.if_icmp .ne 8, 3) := by decide +kernel
theorem dX1_moveNextSlots_50 : decode cX1_moveNextSlots 50 = .ok (.aload_n 0, 1) := by decide +kernel
theorem dX1_moveNextSlots_51 : decode cX1_moveNextSlots 51 = .ok (.iload_n 2, 1) := by decide +kernel
theorem dX1_moveNextSlots_52 : decode cX1_moveNextSlots 52 = .ok (.invokevirtual 118, 3) := by decide +kernel
theorem dX1_moveNextSlots_55 : decode cX1_moveNextSlots 55 = .ok (.iinc 2 1, 3) := by decide +kernel
theorem dX1_moveNextSlots_58 : decode cX1_moveNextSlots 58 = .ok (.goto (-36), 3) := by decide +kernel
theorem dX1_moveNextSlots_61 : decode cX1_moveNextSlots 61 = .ok (.aload_n 0, 1) := by decide +kernel
theorem dX1_moveNextSlots_62 : decode cX1_moveNextSlots 62 = .ok (.iload_n 1, 1) := by decide +kernel
theorem dX1_moveNextSlots_63 : decode cX1_moveNextSlots 63 = .ok (.aload_n 0, 1) := by decide +kernel
theorem dX1_moveNextSlots_64 : decode cX1_moveNextSlots 64 = .ok (.getfield 26, 3) := by decide +kernel
theorem dX1_moveNextSlots_67 : decode cX1_moveNextSlots 67 = .ok (.getfield 69, 3) := by decide +kernel
theorem dX1_moveNextSlots_70 : decode cX1_moveNextSlots 70 = .ok (.if_icmp .ge 7, 3) := by decide +kernel
theorem dX1_moveNextSlots_73 : decode cX1_moveNextSlots 73 = .ok (.iload_n 1, 1) := by decide +kernel
theorem dX1_moveNextSlots_74 : decode cX1_moveNextSlots 74 = .ok (.goto 4, 3) := by decide +kernel
theorem dX1_moveNextSlots_77 : decode cX1_moveNextSlots 77 = .ok (.iconst (-1), 1) := by decide +kernel
theorem dX1_moveNextSlots_78 : decode cX1_moveNextSlots 78 = .ok (.putfield 32, 3) := by decide +kernel
theorem dX1_moveNextSlots_81 : decode cX1_moveNextSlots 81 = .ok (.return_, 1) := by decide +kernel
set_option maxRecDepth 20000 in
theorem ggX1_moveToNew_X1_lookFor : GoodIn wsX1_moveToNew wsX1_lookFor := goodIn_r _ [10, 11, 12, 13, 14, 15, 16, 17, 18, 19, 20, 21, 22, 23, 24, 25, 26, 27, 28, 29, 30, 31, 32, 33, 39, 40, 41, 42, 43, 44, 45, 46, 47, 48] (by decide +kernel) (by decide +kernel)
set_option maxRecDepth 20000 in
theorem gX1_moveToNew_X1_lookFor : GoodIn wsX1_moveToNew (wsV RX1 72 RX1 yX1_lookFor wsX1_lookFor) := goodIn_app (goodIn_of _ (by decide +kernel)) ggX1_moveToNew_X1_lookFor
set_option maxRecDepth 20000 in
theorem ggX1_moveToNew_X0_fill : GoodIn wsX1_moveToNew wsX0_fill := goodIn_r _ [37, 24, 29, 38, 45, 46, 47, 48] (by decide +kernel) (by decide +kernel)
set_option maxRecDepth 20000 in
theorem gX1_moveToNew_X0_fill : GoodIn wsX1_moveToNew (wsV RX1 53 RX0 yX0_fill wsX0_fill) := goodIn_app (goodIn_of _ (by decide +kernel)) ggX1_moveToNew_X0_fill
theorem dX1_moveToNew_0 : decode cX1_moveToNew 0 = .ok (.aload_n 0, 1) := by decide +kernel
theorem dX1_moveToNew_1 : decode cX1_moveToNew 1 = .ok (.getfield 26, 3) := by decide +kernel
theorem dX1_moveToNew_4 : decode cX1_moveToNew 4 = .ok (.getfield 121, 3) := by decide +kernel
theorem dX1_moveToNew_7 : decode cX1_moveToNew 7 = .ok (.iload_n 1, 1) := by decide +kernel
theorem dX1_moveToNew_8 : decode cX1_moveToNew 8 = .ok (.iaload, 1) := by decide +kernel
theorem dX1_moveToNew_9 : decode cX1_moveToNew 9 = .ok (.istore_n 2, 1) := by decide +kernel
theorem dX1_moveToNew_10 : decode cX1_moveToNew 10 = .ok (.aload_n 0, 1) := by decide +kernel
theorem dX1_moveToNew_11 : decode cX1_moveToNew 11 = .ok (.getfield 22, 3) := by decide +kernel
theorem dX1_moveToNew_14 : decode cX1_moveToNew 14 = .ok (.aload_n 0, 1) := by decide +kernel
theorem dX1_moveToNew_15 : decode cX1_moveToNew 15 = .ok (.aload_n 0, 1) := by decide +kernel
theorem dX1_moveToNew_16 : decode cX1_moveToNew 16 = .ok (.getfield 22, 3) := by decide +kernel
theorem dX1_moveToNew_19 : decode cX1_moveToNew 19 = .ok (.iload_n 2, 1) := by decide +kernel
theorem dX1_moveToNew_20 : decode cX1_moveToNew 20 = .ok (.invokevirtual 72, 3) := by decide +kernel
theorem dX1_moveToNew_23 : decode cX1_moveToNew 23 = .ok (.iload_n 2, 1) := by decide +kernel
theorem dX1_moveToNew_24 : decode cX1_moveToNew 24 = .ok (.aload_n 0, 1) := by decide +kernel
theorem dX1_moveToNew_25 : decode cX1_moveToNew 25 = .ok (.getfield 26, 3) := by decide +kernel
theorem dX1_moveToNew_28 : decode cX1_moveToNew 28 = .ok (.getfield 41, 3) := by decide +kernel
theorem dX1_moveToNew_31 : decode cX1_moveToNew 31 = .ok (.iload_n 1, 1) := by decide +kernel
theorem dX1_moveToNew_32 : decode cX1_moveToNew 32 = .ok (.iaload, 1) := by decide +kernel
theorem dX1_moveToNew_33 : decode cX1_moveToNew 33 = .ok (.invokevirtual 53, 3) := by decide +kernel
theorem dX1_moveToNew_36 : decode cX1_moveToNew 36 = .ok (.aload_n 0, 1) := by decide +kernel
theorem dX1_moveToNew_37 : decode cX1_moveToNew 37 = .ok (.getfield 26, 3) := by decide +kernel
theorem dX1_moveToNew_40 : decode cX1_moveToNew 40 = .ok (.getfield 63, 3) := by decide +kernel
theorem dX1_moveToNew_43 : decode cX1_moveToNew 43 = .ok (.iload_n 1, 1) := by decide +kernel
theorem dX1_moveToNew_44 : decode cX1_moveToNew 44 = .ok (.iconst 1, 1) := by decide +kernel
theorem dX1_moveToNew_45 : decode cX1_moveToNew 45 = .ok (.iastore, 1) := by decide +kernel
theorem dX1_moveToNew_46 : decode cX1_moveToNew 46 = .ok (.return_, 1) := by decide +kernel
set_option maxRecDepth 20000 in
theorem ggX1_startMigration_X0_clear : GoodIn wsX1_startMigration wsX0_clear := goodIn_r _ [8, 9, 10, 11, 12, 13, 14, 21, 22, 23, 24] (by decide +kernel) (by decide +kernel)
set_option maxRecDepth 20000 in
theorem gX1_startMigration_X0_clear : GoodIn wsX1_startMigration (wsV RX1 29 RX0 yX0_clear wsX0_clear) := goodIn_app (goodIn_of _ (by decide +kernel)) ggX1_startMigration_X0_clear
theorem dX1_startMigration_0 : decode cX1_startMigration 0 = .ok (.aload_n 0, 1) := by decide +kernel
theorem dX1_startMigration_1 : decode cX1_startMigration 1 = .ok (.getfield 26, 3) := by decide +kernel
theorem dX1_startMigration_4 : decode cX1_startMigration 4 = .ok (.astore_n 2, 1) := by decide +kernel
theorem dX1_startMigration_5 : decode cX1_startMigration 5 = .ok (.aload_n 0, 1) := by decide +kernel
theorem dX1_startMigration_6 : decode cX1_startMigration 6 = .ok (.aload_n 0, 1) := by decide +kernel
theorem dX1_startMigration_7 : decode cX1_startMigration 7 = .ok (.getfield 22, 3) := by decide +kernel
theorem dX1_startMigration_10 : decode cX1_startMigration 10 = .ok (.putfield 26, 3) := by decide +kernel
theorem dX1_startMigration_13 : decode cX1_startMigration 13 = .ok (.aload_n 0, 1) := by decide +kernel
theorem dX1_startMigration_14 : decode cX1_startMigration 14 = .ok (.aload_n 2, 1) := by decide +kernel
theorem dX1_startMigration_15 : decode cX1_startMigration 15 = .ok (.putfield 22, 3) := by decide +kernel
theorem dX1_startMigration_18 : decode cX1_startMigration 18 = .ok (.aload_n 0, 1) := by decide +kernel
theorem dX1_startMigration_19 : decode cX1_startMigration 19 = .ok (.getfield 22, 3) := by decide +kernel
theorem dX1_startMigration_22 : decode cX1_startMigration 22 = .ok (.iload_n 1, 1) := by decide +kernel
theorem dX1_startMigration_23 : decode cX1_startMigration 23 = .ok (.invokevirtual 29, 3) := by decide +kernel
theorem dX1_startMigration_26 : decode cX1_startMigration 26 = .ok (.aload_n 0, 1) := by decide +kernel
theorem dX1_startMigration_27 : decode cX1_startMigration 27 = .ok (.iconst 0, 1) := by decide +kernel
theorem dX1_startMigration_28 : decode cX1_startMigration 28 = .ok (.putfield 32, 3) := by decide +kernel
theorem dX1_startMigration_31 : decode cX1_startMigration 31 = .ok (.return_, 1) := by decide +kernel
theorem dX2_init_0 : decode cX2_init 0 = .ok (.aload_n 0, 1) := by decide +kernel
theorem dX2_init_1 : decode cX2_init 1 = .ok (.invokespecial 1, 3) := by decide +kernel
theorem dX2_init_4 : decode cX2_init 4 = .ok (.aload_n 0, 1) := by decide +kernel
theorem dX2_init_5 : decode cX2_init 5 = .ok (.sipush 2048, 3) := by decide +kernel
theorem dX2_init_8 : decode cX2_init 8 = .ok (.newarray .int, 2) := by decide +kernel
theorem dX2_init_10 : decode cX2_init 10 = .ok (.putfield 7, 3) := by decide +kernel
theorem dX2_init_13 : decode cX2_init 13 = .ok (.aload_n 0, 1) := by decide +kernel
theorem dX2_init_14 : decode cX2_init 14 = .ok (.sipush 2048, 3) := by decide +kernel
theorem dX2_init_17 : decode cX2_init 17 = .ok (.newarray .int, 2) := by decide +kernel
theorem dX2_init_19 : decode cX2_init 19 = .ok (.putfield 13, 3) := by decide +kernel
theorem dX2_init_22 : decode cX2_init 22 = .ok (.aload_n 0, 1) := by decide +kernel
theorem dX2_init_23 : decode cX2_init 23 = .ok (.sipush 2048, 3) := by decide +kernel
theorem dX2_init_26 : decode cX2_init 26 = .ok (.newarray .int, 2) := by decide +kernel
theorem dX2_init_28 : decode cX2_init 28 = .ok (.putfield 16, 3) := by decide +kernel
theorem dX2_init_31 : decode cX2_init 31 = .ok (.aload_n 0, 1) := by decide +kernel
theorem dX2_init_32 : decode cX2_init 32 = .ok (.iconst 2, 1) := by decide +kernel
theorem dX2_init_33 : decode cX2_init 33 = .ok (.newarray .int, 2) := by decide +kernel
theorem dX2_init_35 : decode cX2_init 35 = .ok (.putfield 19, 3) := by decide +kernel
theorem dX2_init_38 : decode cX2_init 38 = .ok (.bipush 8, 2) := by decide +kernel
theorem dX2_init_40 : decode cX2_init 40 = .ok (.istore_n 2, 1) := by decide +kernel
theorem dX2_init_41 : decode cX2_init 41 = .ok (.iload_n 2, 1) := by decide +kernel
theorem dX2_init_42 : decode cX2_init 42 = .ok (.sipush 1024, 3) := by decide +kernel
theorem dX2_init_45 : decode cX2_init 45 = .ok (.if_icmp .ge 17, 3) := by decide +kernel
theorem dX2_init_48 : decode cX2_init 48 = .ok (.iload_n 2, 1) := by decide +kernel
theorem dX2_init_49 : decode cX2_init 49 = .ok (.iload_n 1, 1) := by decide +kernel
theorem dX2_init_50 : decode cX2_init 50 = .ok (.iconst 2, 1) := by decide +kernel
theorem dX2_init_51 : decode cX2_init 51 = .ok (.idiv, 1) := by decide +kernel
theorem dX2_init_52 : decode cX2_init 52 = .ok (.if_icmp .gt 10, 3) := by decide +kernel
theorem dX2_init_55 : decode cX2_init 55 = .ok (.iload_n 2, 1) := by decide +kernel
theorem dX2_init_56 : decode cX2_init 56 = .ok (.iload_n 2, 1) := by decide +kernel
theorem dX2_init_57 : decode cX2_init 57 = .ok (.iadd, 1) := by decide +kernel
theorem dX2_init_58 : decode cX2_init 58 = .ok (.istore_n 2, 1) := by decide +kernel
theorem dX2_init_59 : decode cX2_init 59 = .ok (.goto (-18), 3) := by decide +kernel
theorem dX2_init_62 : decode cX2_init 62 = .ok (.aload_n 0, 1) := by decide +kernel
theorem dX2_init_63 : decode cX2_init 63 = .ok (.iload_n 2, 1) := by decide +kernel
theorem dX2_init_64 : decode cX2_init 64 = .ok (.putfield 22, 3) := by decide +kernel
theorem dX2_init_67 : decode cX2_init 67 = .ok (.aload_n 0, 1) := by decide +kernel
theorem dX2_init_68 : decode cX2_init 68 = .ok (.getfield 19, 3) := by decide +kernel
theorem dX2_init_71 : decode cX2_init 71 = .ok (.iconst 0, 1) := by decide +kernel
theorem dX2_init_72 : decode cX2_init 72 = .ok (.bipush 8, 2) := by decide +kernel
theorem dX2_init_74 : decode cX2_init 74 = .ok (.iastore, 1) := by decide +kernel
theorem dX2_init_75 : decode cX2_init 75 = .ok (.return_, 1) := by decide +kernel
theorem dX2_home_0 : decode cX2_home 0 = .ok (.iload_n 1, 1) := by decide +kernel
theorem dX2_home_1 : decode cX2_home 1 = .ok (.ldc 29, 2) := by decide +kernel
theorem dX2_home_3 : decode cX2_home 3 = .ok (.imul, 1) := by decide +kernel
theorem dX2_home_4 : decode cX2_home 4 = .ok (.istore_n 3, 1) := by decide +kernel
theorem dX2_home_5 : decode cX2_home 5 = .ok (.iload_n 3, 1) := by decide +kernel
theorem dX2_home_6 : decode cX2_home 6 = .ok (.iload_n 3, 1) := by decide +kernel
theorem dX2_home_7 : decode cX2_home 7 = .ok (.bipush 15, 2) := by decide +kernel
theorem dX2_home_9 : decode cX2_home 9 = .ok (.iushr, 1) := by decide +kernel
theorem dX2_home_10 : decode cX2_home 10 = .ok (.ixor, 1) := by decide +kernel
theorem dX2_home_11 : decode cX2_home 11 = .ok (.istore_n 3, 1) := by decide +kernel
theorem dX2_home_12 : decode cX2_home 12 = .ok (.iload_n 3, 1) := by decide +kernel
theorem dX2_home_13 : decode cX2_home 13 = .ok (.aload_n 0, 1) := by decide +kernel
theorem dX2_home_14 : decode cX2_home 14 = .ok (.getfield 19, 3) := by decide +kernel
theorem dX2_home_17 : decode cX2_home 17 = .ok (.iload_n 2, 1) := by decide +kernel
theorem dX2_home_18 : decode cX2_home 18 = .ok (.iaload, 1) := by decide +kernel
theorem dX2_home_19 : decode cX2_home 19 = .ok (.irem, 1) := by decide +kernel
theorem dX2_home_20 : decode cX2_home 20 = .ok (.istore 4, 2) := by decide +kernel
theorem dX2_home_22 : decode cX2_home 22 = .ok (.iload 4, 2) := by decide +kernel
theorem dX2_home_24 : decode cX2_home 24 = .ok (.ifCond .ge 15, 3) := by decide +kernel
theorem dX2_home_27 : decode cX2_home 27 = .ok (.iload 4, 2) := by decide +kernel
theorem dX2_home_29 : decode cX2_home 29 = .ok (.aload_n 0, 1) := by decide +kernel
theorem dX2_home_30 : decode cX2_home 30 = .ok (.getfield 19, 3) := by decide +kernel
theorem dX2_home_33 : decode cX2_home 33 = .ok (.iload_n 2, 1) := by decide +kernel
theorem dX2_home_34 : decode cX2_home 34 = .ok (.iaload, 1) := by decide +kernel
theorem dX2_home_35 : decode cX2_home 35 = .ok (.iadd, 1) := by decide +kernel
theorem dX2_home_36 : decode cX2_home 36 = .ok (.goto 5, 3) := by decide +kernel
theorem dX2_home_39 : decode cX2_home 39 = .ok (.iload 4, 2) := by decide +kernel
theorem dX2_home_41 : decode cX2_home 41 = .ok (.ireturn, 1) := by decide +kernel
theorem dX2_behind_0 : decode cX2_behind 0 = .ok (.iload_n 1, 1) := by decide +kernel
theorem dX2_behind_1 : decode cX2_behind 1 = .ok (.iconst 1, 1) := by decide +kernel
theorem dX2_behind_2 : decode cX2_behind 2 = .ok (.iadd, 1) := by decide +kernel
theorem dX2_behind_3 : decode cX2_behind 3 = .ok (.aload_n 0, 1) := by decide +kernel
theorem dX2_behind_4 : decode cX2_behind 4 = .ok (.getfield 19, 3) := by decide +kernel
theorem dX2_behind_7 : decode cX2_behind 7 = .ok (.iload_n 2, 1) := by decide +kernel
theorem dX2_behind_8 : decode cX2_behind 8 = .ok (.iaload, 1) := by decide +kernel
theorem dX2_behind_9 : decode cX2_behind 9 = .ok (.irem, 1) := by decide +kernel
theorem dX2_behind_10 : decode cX2_behind 10 = .ok (.ireturn, 1) := by decide +kernel
theorem dX2_at_0 : decode cX2_at 0 = .ok (.sipush 1024, 3) := by decide +kernel
theorem dX2_at_3 : decode cX2_at 3 = .ok (.iload_n 1, 1) := by decide +kernel
theorem dX2_at_4 : decode cX2_at 4 = .ok (.imul, 1) := by decide +kernel
theorem dX2_at_5 : decode cX2_at 5 = .ok (.iload_n 2, 1) := by decide +kernel
theorem dX2_at_6 : decode cX2_at 6 = .ok (.iadd, 1) := by decide +kernel
theorem dX2_at_7 : decode cX2_at 7 = .ok (.ireturn, 1) := by decide +kernel
set_option maxRecDepth 20000 in
theorem ggX2_look_X2_home : GoodIn wsX2_look wsX2_home := goodIn_r _ [8, 9, 10, 19, 20, 21, 22, 23, 24, 25, 26, 27, 28, 29, 30] (by decide +kernel) (by decide +kernel)
set_option maxRecDepth 20000 in
theorem gX2_look_X2_home : GoodIn wsX2_look (wsV RX2 30 RX2 yX2_home wsX2_home) := goodIn_app (goodIn_of _ (by decide +kernel)) ggX2_look_X2_home
set_option maxRecDepth 20000 in
theorem ggX2_look_X2_at : GoodIn wsX2_look wsX2_at := goodIn_r _ [14] (by decide +kernel) (by decide +kernel)
set_option maxRecDepth 20000 in
theorem gX2_look_X2_at : GoodIn wsX2_look (wsV RX2 37 RX2 yX2_at wsX2_at) := goodIn_app (goodIn_of _ (by decide +kernel)) ggX2_look_X2_at
set_option maxRecDepth 20000 in
theorem ggX2_look_X2_behind : GoodIn wsX2_look wsX2_behind := goodIn_r _ [18, 10, 19, 20, 21, 22, 23, 24, 25, 26, 27, 28, 29, 30] (by decide +kernel) (by decide +kernel)
set_option maxRecDepth 20000 in
theorem gX2_look_X2_behind : GoodIn wsX2_look (wsV RX2 40 RX2 yX2_behind wsX2_behind) := goodIn_app (goodIn_of _ (by decide +kernel)) ggX2_look_X2_behind
theorem dX2_look_0 : decode cX2_look 0 = .ok (.aload_n 0, 1) := by decide +kernel
theorem dX2_look_1 : decode cX2_look 1 = .ok (.iload_n 1, 1) := by decide +kernel
theorem dX2_look_2 : decode cX2_look 2 = .ok (.iload_n 2, 1) := by decide +kernel
theorem dX2_look_3 : decode cX2_look 3 = .ok (.invokevirtual 30, 3) := by decide +kernel
theorem dX2_look_6 : decode cX2_look 6 = .ok (.istore_n 3, 1) := by decide +kernel
theorem dX2_look_7 : decode cX2_look 7 = .ok (.aload_n 0, 1) := by decide +kernel
theorem dX2_look_8 : decode cX2_look 8 = .ok (.dup, 1) := by decide +kernel
theorem dX2_look_9 : decode cX2_look 9 = .ok (.getfield 34, 3) := by decide +kernel
theorem dX2_look_12 : decode cX2_look 12 = .ok (.iconst 1, 1) := by decide +kernel
theorem dX2_look_13 : decode cX2_look 13 = .ok (.iadd, 1) := by decide +kernel
theorem dX2_look_14 : decode cX2_look 14 = .ok (.putfield 34, 3) := by decide +kernel
theorem dX2_look_17 : decode cX2_look 17 = .ok (.aload_n 0, 1) := by decide +kernel
theorem dX2_look_18 : decode cX2_look 18 = .ok (.getfield 7, 3) := by decide +kernel
theorem dX2_look_21 : decode cX2_look 21 = .ok (.aload_n 0, 1) := by decide +kernel
theorem dX2_look_22 : decode cX2_look 22 = .ok (.iload_n 2, 1) := by decide +kernel
theorem dX2_look_23 : decode cX2_look 23 = .ok (.iload_n 3, 1) := by decide +kernel
theorem dX2_look_24 : decode cX2_look 24 = .ok (.invokevirtual 37, 3) := by decide +kernel
theorem dX2_look_27 : decode cX2_look 27 = .ok (.iaload, 1) := by decide +kernel
theorem dX2_look_28 : decode cX2_look 28 = .ok (.ifCond .eq 55, 3) := by decide +kernel
theorem dX2_look_31 : decode cX2_look 31 = .ok (.aload_n 0, 1) := by decide +kernel
theorem dX2_look_32 : decode cX2_look 32 = .ok (.getfield 7, 3) := by decide +kernel
theorem dX2_look_35 : decode cX2_look 35 = .ok (.aload_n 0, 1) := by decide +kernel
theorem dX2_look_36 : decode cX2_look 36 = .ok (.iload_n 2, 1) := by decide +kernel
theorem dX2_look_37 : decode cX2_look 37 = .ok (.iload_n 3, 1) := by decide +kernel
theorem dX2_look_38 : decode cX2_look 38 = .ok (.invokevirtual 37, 3) := by decide +kernel
theorem dX2_look_41 : decode cX2_look 41 = .ok (.iaload, 1) := by decide +kernel
theorem dX2_look_42 : decode cX2_look 42 = .ok (.iconst 1, 1) := by decide +kernel
theorem dX2_look_43 : decode cX2_look 43 = .ok (.if_icmp .ne 20, 3) := by decide +kernel
theorem dX2_look_46 : decode cX2_look 46 = .ok (.aload_n 0, 1) := by decide +kernel
theorem dX2_look_47 : decode cX2_look 47 = .ok (.getfield 13, 3) := by decide +kernel
theorem dX2_look_50 : decode cX2_look 50 = .ok (.aload_n 0, 1) := by decide +kernel
theorem dX2_look_51 : decode cX2_look 51 = .ok (.iload_n 2, 1) := by decide +kernel
theorem dX2_look_52 : decode cX2_look 52 = .ok (.iload_n 3, 1) := by decide +kernel
theorem dX2_look_53 : decode cX2_look 53 = .ok (.invokevirtual 37, 3) := by decide +kernel
theorem dX2_look_56 : decode cX2_look 56 = .ok (.iaload, 1) := by decide +kernel
theorem dX2_look_57 : decode cX2_look 57 = .ok (.iload_n 1, 1) := by decide +kernel
theorem dX2_look_58 : decode cX2_look 58 = .ok (.if_icmp .ne 5, 3) := by decide +kernel
theorem dX2_look_61 : decode cX2_look 61 = .ok (.iload_n 3, 1) := by decide +kernel
theorem dX2_look_62 : decode cX2_look 62 = .ok (.ireturn, 1) := by decide +kernel
theorem dX2_look_63 : decode cX2_look 63 = .ok (.aload_n 0, 1) := by decide +kernel
theorem dX2_look_64 : decode cX2_look 64 = .ok (.iload_n 3, 1) := by decide +kernel
theorem dX2_look_65 : decode cX2_look 65 = .ok (.iload_n 2, 1) := by decide +kernel
theorem dX2_look_66 : decode cX2_look 66 = .ok (.invokevirtual 40, 3) := by decide +kernel
theorem dX2_look_69 : decode cX2_look 69 = .ok (.istore_n 3, 1) := by decide +kernel
theorem dX2_look_70 : decode cX2_look 70 = .ok (.aload_n 0, 1) := by decide +kernel
theorem dX2_look_71 : decode cX2_look 71 = .ok (.dup, 1) := by decide +kernel
theorem dX2_look_72 : decode cX2_look 72 = .ok (.getfield 34, 3) := by decide +kernel
theorem dX2_look_75 : decode cX2_look 75 = .ok (.iconst 1, 1) := by decide +kernel
theorem dX2_look_76 : decode cX2_look 76 = .ok (.iadd, 1) := by decide +kernel
theorem dX2_look_77 : decode cX2_look 77 = .ok (.putfield 34, 3) := by decide +kernel
theorem dX2_look_80 : decode cX2_look 80 = .ok (.goto (-63), 3) := by decide +kernel
theorem dX2_look_83 : decode cX2_look 83 = .ok (.iconst (-1), 1) := by decide +kernel
theorem dX2_look_84 : decode cX2_look 84 = .ok (.iload_n 3, 1) := by decide +kernel
theorem dX2_look_85 : decode cX2_look 85 = .ok (.isub, 1) := by decide +kernel
theorem dX2_look_86 : decode cX2_look 86 = .ok (.ireturn, 1) := by decide +kernel
set_option maxRecDepth 20000 in
theorem ggX2_lay_X2_at : GoodIn wsX2_lay wsX2_at := goodIn_r _ [8] (by decide +kernel) (by decide +kernel)
set_option maxRecDepth 20000 in
theorem gX2_lay_X2_at : GoodIn wsX2_lay (wsV RX2 37 RX2 yX2_at wsX2_at) := goodIn_app (goodIn_of _ (by decide +kernel)) ggX2_lay_X2_at
theorem dX2_lay_0 : decode cX2_lay 0 = .ok (.aload_n 0, 1) := by decide +kernel
theorem dX2_lay_1 : decode cX2_lay 1 = .ok (.getfield 7, 3) := by decide +kernel
theorem dX2_lay_4 : decode cX2_lay 4 = .ok (.aload_n 0, 1) := by decide +kernel
theorem dX2_lay_5 : decode cX2_lay 5 = .ok (.iload_n 1, 1) := by decide +kernel
theorem dX2_lay_6 : decode cX2_lay 6 = .ok (.iload_n 2, 1) := by decide +kernel
theorem dX2_lay_7 : decode cX2_lay 7 = .ok (.invokevirtual 37, 3) := by decide +kernel
theorem dX2_lay_10 : decode cX2_lay 10 = .ok (.iconst 1, 1) := by decide +kernel
theorem dX2_lay_11 : decode cX2_lay 11 = .ok (.iastore, 1) := by decide +kernel
theorem dX2_lay_12 : decode cX2_lay 12 = .ok (.aload_n 0, 1) := by decide +kernel
theorem dX2_lay_13 : decode cX2_lay 13 = .ok (.getfield 13, 3) := by decide +kernel
theorem dX2_lay_16 : decode cX2_lay 16 = .ok (.aload_n 0, 1) := by decide +kernel
theorem dX2_lay_17 : decode cX2_lay 17 = .ok (.iload_n 1, 1) := by decide +kernel
theorem dX2_lay_18 : decode cX2_lay 18 = .ok (.iload_n 2, 1) := by decide +kernel
theorem dX2_lay_19 : decode cX2_lay 19 = .ok (.invokevirtual 37, 3) := by decide +kernel
theorem dX2_lay_22 : decode cX2_lay 22 = .ok (.iload_n 3, 1) := by decide +kernel
theorem dX2_lay_23 : decode cX2_lay 23 = .ok (.iastore, 1) := by decide +kernel
theorem dX2_lay_24 : decode cX2_lay 24 = .ok (.aload_n 0, 1) := by decide +kernel
theorem dX2_lay_25 : decode cX2_lay 25 = .ok (.getfield 16, 3) := by decide +kernel
theorem dX2_lay_28 : decode cX2_lay 28 = .ok (.aload_n 0, 1) := by decide +kernel
theorem dX2_lay_29 : decode cX2_lay 29 = .ok (.iload_n 1, 1) := by decide +kernel
theorem dX2_lay_30 : decode cX2_lay 30 = .ok (.iload_n 2, 1) := by decide +kernel
theorem dX2_lay_31 : decode cX2_lay 31 = .ok (.invokevirtual 37, 3) := by decide +kernel
theorem dX2_lay_34 : decode cX2_lay 34 = .ok (.iload 4, 2) := by decide +kernel
theorem dX2_lay_36 : decode cX2_lay 36 = .ok (.iastore, 1) := by decide +kernel
theorem dX2_lay_37 : decode cX2_lay 37 = .ok (.return_, 1) := by decide +kernel
set_option maxRecDepth 20000 in
theorem ggX2_moveSome_X2_at : GoodIn wsX2_moveSome wsX2_at := goodIn_r _ [13] (by decide +kernel) (by decide +kernel)
set_option maxRecDepth 20000 in
theorem gX2_moveSome_X2_at : GoodIn wsX2_moveSome (wsV RX2 37 RX2 yX2_at wsX2_at) := goodIn_app (goodIn_of _ (by decide +kernel)) ggX2_moveSome_X2_at
set_option maxRecDepth 20000 in
theorem ggX2_moveSome_X2_look : GoodIn wsX2_moveSome wsX2_look := goodIn_r _ [17, 4, 5, 6, 18, 19, 20, 12, 21, 22, 3, 9, 10, 11, 13, 23, 24, 25, 26, 31, 32, 33, 34, 35, 36, 37, 38, 39, 40, 41, 42] (by decide +kernel) (by decide +kernel)
set_option maxRecDepth 20000 in
theorem gX2_moveSome_X2_look : GoodIn wsX2_moveSome (wsV RX2 49 RX2 yX2_look wsX2_look) := goodIn_app (goodIn_of _ (by decide +kernel)) ggX2_moveSome_X2_look
set_option maxRecDepth 20000 in
theorem ggX2_moveSome_X2_lay : GoodIn wsX2_moveSome wsX2_lay := goodIn_r _ [30, 5, 6, 7, 9, 10, 11, 12, 13, 31, 32, 33, 34, 35, 36, 37, 38, 39, 40, 41, 42] (by decide +kernel) (by decide +kernel)
set_option maxRecDepth 20000 in
theorem gX2_moveSome_X2_lay : GoodIn wsX2_moveSome (wsV RX2 52 RX2 yX2_lay wsX2_lay) := goodIn_app (goodIn_of _ (by decide +kernel)) ggX2_moveSome_X2_lay
theorem dX2_moveSome_0 : decode cX2_moveSome 0 = .ok (.iconst 1, 1) := by decide +kernel
theorem dX2_moveSome_1 : decode cX2_moveSome 1 = .ok (.aload_n 0, 1) := by decide +kernel
theorem dX2_moveSome_2 : decode cX2_moveSome 2 = .ok (.getfield 43, 3) := by decide +kernel
theorem dX2_moveSome_5 : decode cX2_moveSome 5 = .ok (.isub, 1) := by decide +kernel
theorem dX2_moveSome_6 : decode cX2_moveSome 6 = .ok (.istore_n 1, 1) := by decide +kernel
theorem dX2_moveSome_7 : decode cX2_moveSome 7 = .ok (.iconst 0, 1) := by decide +kernel
theorem dX2_moveSome_8 : decode cX2_moveSome 8 = .ok (.istore_n 2, 1) := by decide +kernel
theorem dX2_moveSome_9 : decode cX2_moveSome 9 = .ok (.iload_n 2, 1) := by decide +kernel
theorem dX2_moveSome_10 : decode cX2_moveSome 10 = .ok (.iconst 4, 1) := by decide +kernel
theorem dX2_moveSome_11 : decode cX2_moveSome 11 = .ok (.if_icmp .ge 109, 3) := by decide +kernel
theorem dX2_moveSome_14 : decode cX2_moveSome 14 = .ok (.aload_n 0, 1) := by decide +kernel
theorem dX2_moveSome_15 : decode cX2_moveSome 15 = .ok (.getfield 46, 3) := by decide +kernel
theorem dX2_moveSome_18 : decode cX2_moveSome 18 = .ok (.aload_n 0, 1) := by decide +kernel
theorem dX2_moveSome_19 : decode cX2_moveSome 19 = .ok (.getfield 19, 3) := by decide +kernel
theorem dX2_moveSome_22 : decode cX2_moveSome 22 = .ok (.iload_n 1, 1) := by decide +kernel
theorem dX2_moveSome_23 : decode cX2_moveSome 23 = .ok (.iaload, 1) := by decide +kernel
theorem dX2_moveSome_24 : decode cX2_moveSome 24 = .ok (.if_icmp .ge 96, 3) := by decide +kernel
theorem dX2_moveSome_27 : decode cX2_moveSome 27 = .ok (.aload_n 0, 1) := by decide +kernel
theorem dX2_moveSome_28 : decode cX2_moveSome 28 = .ok (.dup, 1) := by decide +kernel
theorem dX2_moveSome_29 : decode cX2_moveSome 29 = .ok (.getfield 34, 3) := by decide +kernel
theorem dX2_moveSome_32 : decode cX2_moveSome 32 = .ok (.iconst 1, 1) := by decide +kernel
theorem dX2_moveSome_33 : decode cX2_moveSome 33 = .ok (.iadd, 1) := by decide +kernel
theorem dX2_moveSome_34 : decode cX2_moveSome 34 = .ok (.putfield 34, 3) := by decide +kernel
theorem dX2_moveSome_37 : decode cX2_moveSome 37 = .ok (.aload_n 0, 1) := by decide +kernel
theorem dX2_moveSome_38 : decode cX2_moveSome 38 = .ok (.iload_n 1, 1) := by decide +kernel
theorem dX2_moveSome_39 : decode cX2_moveSome 39 = .ok (.aload_n 0, 1) := by decide +kernel
theorem dX2_moveSome_40 : decode cX2_moveSome 40 = .ok (.getfield 46, 3) := by decide +kernel
theorem dX2_moveSome_43 : decode cX2_moveSome 43 = .ok (.invokevirtual 37, 3) := by decide +kernel
theorem dX2_moveSome_46 : decode cX2_moveSome 46 = .ok (.istore_n 3, 1) := by decide +kernel
theorem dX2_moveSome_47 : decode cX2_moveSome 47 = .ok (.aload_n 0, 1) := by decide +kernel
theorem dX2_moveSome_48 : decode cX2_moveSome 48 = .ok (.getfield 7, 3) := by decide +kernel
theorem dX2_moveSome_51 : decode cX2_moveSome 51 = .ok (.iload_n 3, 1) := by decide +kernel
theorem dX2_moveSome_52 : decode cX2_moveSome 52 = .ok (.iaload, 1) := by decide +kernel
theorem dX2_moveSome_53 : decode cX2_moveSome 53 = .ok (.iconst 1, 1) := by decide +kernel
theorem dX2_moveSome_54 : decode cX2_moveSome 54 = .ok (.if_icmp .ne 50, 3) := by decide +kernel
theorem dX2_moveSome_57 : decode cX2_moveSome 57 = .ok (.aload_n 0, 1) := by decide +kernel
theorem dX2_moveSome_58 : decode cX2_moveSome 58 = .ok (.aload_n 0, 1) := by decide +kernel
theorem dX2_moveSome_59 : decode cX2_moveSome 59 = .ok (.getfield 13, 3) := by decide +kernel
theorem dX2_moveSome_62 : decode cX2_moveSome 62 = .ok (.iload_n 3, 1) := by decide +kernel
theorem dX2_moveSome_63 : decode cX2_moveSome 63 = .ok (.iaload, 1) := by decide +kernel
theorem dX2_moveSome_64 : decode cX2_moveSome 64 = .ok (.aload_n 0, 1) := by decide +kernel
theorem dX2_moveSome_65 : decode cX2_moveSome 65 = .ok (.getfield 43, 3) := by decide +kernel
theorem dX2_moveSome_68 : decode cX2_moveSome 68 = .ok (.invokevirtual 49, 3) := by decide +kernel
theorem dX2_moveSome_71 : decode cX2_moveSome 71 = .ok (.istore 4, 2) := by decide +kernel
theorem dX2_moveSome_73 : decode cX2_moveSome 73 = .ok (.aload_n 0, 1) := by decide +kernel
theorem dX2_moveSome_74 : decode cX2_moveSome 74 = .ok (.aload_n 0, 1) := by decide +kernel
theorem dX2_moveSome_75 : decode cX2_moveSome 75 = .ok (.getfield 43, 3) := by decide +kernel
theorem dX2_moveSome_78 : decode cX2_moveSome 78 = .ok (.iconst (-1), 1) := by decide +kernel
theorem dX2_moveSome_79 : decode cX2_moveSome 79 = .ok (.iload 4, 2) := by decide +kernel
theorem dX2_moveSome_81 : decode cX2_moveSome 81 = .ok (.isub, 1) := by decide +kernel
theorem dX2_moveSome_82 : decode cX2_moveSome 82 = .ok (.aload_n 0, 1) := by decide +kernel
theorem dX2_moveSome_83 : decode cX2_moveSome 83 = .ok (.getfield 13, 3) := by decide +kernel
theorem dX2_moveSome_86 : decode cX2_moveSome 86 = .ok (.iload_n 3, 1) := by decide +kernel
theorem dX2_moveSome_87 : decode cX2_moveSome 87 = .ok (.iaload, 1) := by decide +kernel
theorem dX2_moveSome_88 : decode cX2_moveSome 88 = .ok (.aload_n 0, 1) := by decide +kernel
theorem dX2_moveSome_89 : decode cX2_moveSome 89 = .ok (.getfield 16, 3) := by decide +kernel
theorem dX2_moveSome_92 : decode cX2_moveSome 92 = .ok (.iload_n 3, 1) := by decide +kernel
theorem dX2_moveSome_93 : decode cX2_moveSome 93 = .ok (.iaload, 1) := by decide +kernel
theorem dX2_moveSome_94 : decode cX2_moveSome 94 = .ok (.invokevirtual 52, 3) := by decide +kernel
theorem dX2_moveSome_97 : decode cX2_moveSome 97 = .ok (.aload_n 0, 1) := by decide +kernel
theorem dX2_moveSome_98 : decode cX2_moveSome 98 = .ok (.getfield 7, 3) := by decide +kernel
theorem dX2_moveSome_101 : decode cX2_moveSome 101 = .ok (.iload_n 3, 1) := by decide +kernel
theorem dX2_moveSome_102 : decode cX2_moveSome 102 = .ok (.iconst 2, 1) := by decide +kernel
theorem dX2_moveSome_103 : decode cX2_moveSome 103 = .ok (.iastore, 1) := by decide +kernel
theorem dX2_moveSome_104 : decode cX2_moveSome 104 = .ok (.aload_n 0, 1) := by decide +kernel
theorem dX2_moveSome_105 : decode cX2_moveSome 105 = .ok (.dup, 1) := by decide +kernel
theorem dX2_moveSome_106 : decode cX2_moveSome 106 = .ok (.getfield 46, 3) := by decide +kernel
theorem dX2_moveSome_109 : decode cX2_moveSome 109 = .ok (.iconst 1, 1) := by decide +kernel
theorem dX2_moveSome_110 : decode cX2_moveSome 110 = .ok (.iadd, 1) := by decide +kernel
theorem dX2_moveSome_111 : decode cX2_moveSome 111 = .ok (.putfield 46, 3) := by decide +kernel
theorem dX2_moveSome_114 : decode cX2_moveSome 114 = .ok (.iinc 2 1, 3) := by decide +kernel
theorem dX2_moveSome_117 : decode cX2_moveSome 117 = .ok (.goto (-108), 3) := by decide +kernel
theorem dX2_moveSome_120 : decode cX2_moveSome 120 = .ok (.aload_n 0, 1) := by decide +kernel
theorem dX2_moveSome_121 : decode cX2_moveSome 121 = .ok (.aload_n 0, 1) := by decide +kernel
theorem dX2_moveSome_122 : decode cX2_moveSome 122 = .ok (.getfield 46, 3) := by decide +kernel
theorem dX2_moveSome_125 : decode cX2_moveSome 125 = .ok (.aload_n 0, 1) := by decide +kernel
theorem dX2_moveSome_126 : decode cX2_moveSome 126 = .ok (.getfield 19, 3) := by decide +kernel
theorem dX2_moveSome_129 : decode cX2_moveSome 129 = .ok (.iload_n 1, 1) := by decide +kernel
theorem dX2_moveSome_130 : decode cX2_moveSome 130 = .ok (.iaload, 1) := by decide +kernel
theorem dX2_moveSome_131 : decode cX2_moveSome 131 = .ok (.if_icmp .ge 7, 3) := by decide +kernel
theorem dX2_moveSome_134 : decode cX2_moveSome 134 = .ok (.iconst 1, 1) := by decide +kernel
theorem dX2_moveSome_135 : decode cX2_moveSome 135 = .ok (.goto 4, 3) := by decide +kernel
theorem dX2_moveSome_138 : decode cX2_moveSome 138 = .ok (.iconst 0, 1) := by decide +kernel
theorem dX2_moveSome_139 : decode cX2_moveSome 139 = .ok (.putfield 56, 3) := by decide +kernel
theorem dX2_moveSome_142 : decode cX2_moveSome 142 = .ok (.return_, 1) := by decide +kernel
set_option maxRecDepth 20000 in
theorem ggX2_become_X2_at : GoodIn wsX2_become wsX2_at := goodIn_r _ [10] (by decide +kernel) (by decide +kernel)
set_option maxRecDepth 20000 in
theorem gX2_become_X2_at : GoodIn wsX2_become (wsV RX2 37 RX2 yX2_at wsX2_at) := goodIn_app (goodIn_of _ (by decide +kernel)) ggX2_become_X2_at
theorem dX2_become_0 : decode cX2_become 0 = .ok (.aload_n 0, 1) := by decide +kernel
theorem dX2_become_1 : decode cX2_become 1 = .ok (.iconst 1, 1) := by decide +kernel
theorem dX2_become_2 : decode cX2_become 2 = .ok (.aload_n 0, 1) := by decide +kernel
theorem dX2_become_3 : decode cX2_become 3 = .ok (.getfield 43, 3) := by decide +kernel
theorem dX2_become_6 : decode cX2_become 6 = .ok (.isub, 1) := by decide +kernel
theorem dX2_become_7 : decode cX2_become 7 = .ok (.putfield 43, 3) := by decide +kernel
theorem dX2_become_10 : decode cX2_become 10 = .ok (.aload_n 0, 1) := by decide +kernel
theorem dX2_become_11 : decode cX2_become 11 = .ok (.getfield 19, 3) := by decide +kernel
theorem dX2_become_14 : decode cX2_become 14 = .ok (.aload_n 0, 1) := by decide +kernel
theorem dX2_become_15 : decode cX2_become 15 = .ok (.getfield 43, 3) := by decide +kernel
theorem dX2_become_18 : decode cX2_become 18 = .ok (.iload_n 1, 1) := by decide +kernel
theorem dX2_become_19 : decode cX2_become 19 = .ok (.iastore, 1) := by decide +kernel
theorem dX2_become_20 : decode cX2_become 20 = .ok (.iconst 0, 1) := by decide +kernel
theorem dX2_become_21 : decode cX2_become 21 = .ok (.istore_n 2, 1) := by decide +kernel
theorem dX2_become_22 : decode cX2_become 22 = .ok (.iload_n 2, 1) := by decide +kernel
theorem dX2_become_23 : decode cX2_become 23 = .ok (.iload_n 1, 1) := by decide +kernel
theorem dX2_become_24 : decode cX2_become 24 = .ok (.if_icmp .ge 24, 3) := by decide +kernel
theorem dX2_become_27 : decode cX2_become 27 = .ok (.aload_n 0, 1) := by decide +kernel
theorem dX2_become_28 : decode cX2_become 28 = .ok (.getfield 7, 3) := by decide +kernel
theorem dX2_become_31 : decode cX2_become 31 = .ok (.aload_n 0, 1) := by decide +kernel
theorem dX2_become_32 : decode cX2_become 32 = .ok (.aload_n 0, 1) := by decide +kernel
theorem dX2_become_33 : decode cX2_become 33 = .ok (.getfield 43, 3) := by decide +kernel
theorem dX2_become_36 : decode cX2_become 36 = .ok (.iload_n 2, 1) := by decide +kernel
theorem dX2_become_37 : decode cX2_become 37 = .ok (.invokevirtual 37, 3) := by decide +kernel
theorem dX2_become_40 : decode cX2_become 40 = .ok (.iconst 0, 1) := by decide +kernel
theorem dX2_become_41 : decode cX2_become 41 = .ok (.iastore, 1) := by decide +kernel
theorem dX2_become_42 : decode cX2_become 42 = .ok (.iinc 2 1, 3) := by decide +kernel
theorem dX2_become_45 : decode cX2_become 45 = .ok (.goto (-23), 3) := by decide +kernel
theorem dX2_become_48 : decode cX2_become 48 = .ok (.aload_n 0, 1) := by decide +kernel
theorem dX2_become_49 : decode cX2_become 49 = .ok (.iconst 0, 1) := by decide +kernel
theorem dX2_become_50 : decode cX2_become 50 = .ok (.putfield 46, 3) := by decide +kernel
theorem dX2_become_53 : decode cX2_become 53 = .ok (.aload_n 0, 1) := by decide +kernel
theorem dX2_become_54 : decode cX2_become 54 = .ok (.iconst 1, 1) := by decide +kernel
theorem dX2_become_55 : decode cX2_become 55 = .ok (.putfield 56, 3) := by decide +kernel
theorem dX2_become_58 : decode cX2_become 58 = .ok (.return_, 1) := by decide +kernel
set_option maxRecDepth 20000 in
theorem ggX2_settle_X2_moveSome : GoodIn wsX2_settle wsX2_moveSome := goodIn_r _ [9, 3, 10, 2, 11, 12, 13, 14, 1, 15, 16, 17, 8, 18, 19, 20, 21, 22, 23, 24, 25, 26, 27, 28, 29, 30, 31, 32, 33, 34, 35, 40, 41, 42, 43, 44, 45, 46, 47, 48, 49, 50, 51] (by decide +kernel) (by decide +kernel)
set_option maxRecDepth 20000 in
theorem gX2_settle_X2_moveSome : GoodIn wsX2_settle (wsV RX2 60 RX2 yX2_moveSome wsX2_moveSome) := goodIn_app (goodIn_of _ (by decide +kernel)) ggX2_settle_X2_moveSome
set_option maxRecDepth 20000 in
theorem ggX2_settle_X2_become : GoodIn wsX2_settle wsX2_become := goodIn_r _ [39, 3, 2, 12, 10, 1, 15, 16, 17, 8, 18, 40, 41, 42, 43, 44, 45, 46, 47, 48, 49, 50, 51] (by decide +kernel) (by decide +kernel)
set_option maxRecDepth 20000 in
theorem gX2_settle_X2_become : GoodIn wsX2_settle (wsV RX2 66 RX2 yX2_become wsX2_become) := goodIn_app (goodIn_of _ (by decide +kernel)) ggX2_settle_X2_become
theorem dX2_settle_0 : decode cX2_settle 0 = .ok (.aload_n 0, 1) := by decide +kernel
theorem dX2_settle_1 : decode cX2_settle 1 = .ok (.getfield 56, 3) := by decide +kernel
theorem dX2_settle_4 : decode cX2_settle 4 = .ok (.ifCond .eq 7, 3) := by decide +kernel
theorem dX2_settle_7 : decode cX2_settle 7 = .ok (.aload_n 0, 1) := by decide +kernel
theorem dX2_settle_8 : decode cX2_settle 8 = .ok (.invokevirtual 60, 3) := by decide +kernel
theorem dX2_settle_11 : decode cX2_settle 11 = .ok (.aload_n 0, 1) := by decide +kernel
theorem dX2_settle_12 : decode cX2_settle 12 = .ok (.getfield 19, 3) := by decide +kernel
theorem dX2_settle_15 : decode cX2_settle 15 = .ok (.aload_n 0, 1) := by decide +kernel
theorem dX2_settle_16 : decode cX2_settle 16 = .ok (.getfield 43, 3) := by decide +kernel
theorem dX2_settle_19 : decode cX2_settle 19 = .ok (.iaload, 1) := by decide +kernel
theorem dX2_settle_20 : decode cX2_settle 20 = .ok (.istore_n 1, 1) := by decide +kernel
theorem dX2_settle_21 : decode cX2_settle 21 = .ok (.aload_n 0, 1) := by decide +kernel
theorem dX2_settle_22 : decode cX2_settle 22 = .ok (.getfield 56, 3) := by decide +kernel
theorem dX2_settle_25 : decode cX2_settle 25 = .ok (.ifCond .ne 25, 3) := by decide +kernel
theorem dX2_settle_28 : decode cX2_settle 28 = .ok (.iconst 4, 1) := by decide +kernel
theorem dX2_settle_29 : decode cX2_settle 29 = .ok (.aload_n 0, 1) := by decide +kernel
theorem dX2_settle_30 : decode cX2_settle 30 = .ok (.getfield 63, 3) := by decide +kernel
theorem dX2_settle_33 : decode cX2_settle 33 = .ok (.imul, 1) := by decide +kernel
theorem dX2_settle_34 : decode cX2_settle 34 = .ok (.iconst 3, 1) := by decide +kernel
theorem dX2_settle_35 : decode cX2_settle 35 = .ok (.iload_n 1, 1) := by decide +kernel
theorem dX2_settle_36 : decode cX2_settle 36 = .ok (.imul, 1) := by decide +kernel
theorem dX2_settle_37 : decode cX2_settle 37 = .ok (.if_icmp .lt 13, 3) := by decide +kernel
theorem dX2_settle_40 : decode cX2_settle 40 = .ok (.aload_n 0, 1) := by decide +kernel
theorem dX2_settle_41 : decode cX2_settle 41 = .ok (.iconst 2, 1) := by decide +kernel
theorem dX2_settle_42 : decode cX2_settle 42 = .ok (.iload_n 1, 1) := by decide +kernel
theorem dX2_settle_43 : decode cX2_settle 43 = .ok (.imul, 1) := by decide +kernel
theorem dX2_settle_44 : decode cX2_settle 44 = .ok (.invokevirtual 66, 3) := by decide +kernel
theorem dX2_settle_47 : decode cX2_settle 47 = .ok (.goto 34, 3) := by decide +kernel
theorem dX2_settle_50 : decode cX2_settle 50 = .ok (.aload_n 0, 1) := by decide +kernel
theorem dX2_settle_51 : decode cX2_settle 51 = .ok (.getfield 56, 3) := by decide +kernel
theorem dX2_settle_54 : decode cX2_settle 54 = .ok (.ifCond .ne 27, 3) := by decide +kernel
theorem dX2_settle_57 : decode cX2_settle 57 = .ok (.iload_n 1, 1) := by decide +kernel
theorem dX2_settle_58 : decode cX2_settle 58 = .ok (.bipush 8, 2) := by decide +kernel
theorem dX2_settle_60 : decode cX2_settle 60 = .ok (.if_icmp .le 21, 3) := by decide +kernel
theorem dX2_settle_63 : decode cX2_settle 63 = .ok (.bipush 8, 2) := by decide +kernel
theorem dX2_settle_65 : decode cX2_settle 65 = .ok (.aload_n 0, 1) := by decide +kernel
theorem dX2_settle_66 : decode cX2_settle 66 = .ok (.getfield 63, 3) := by decide +kernel
theorem dX2_settle_69 : decode cX2_settle 69 = .ok (.imul, 1) := by decide +kernel
theorem dX2_settle_70 : decode cX2_settle 70 = .ok (.iload_n 1, 1) := by decide +kernel
theorem dX2_settle_71 : decode cX2_settle 71 = .ok (.if_icmp .gt 10, 3) := by decide +kernel
theorem dX2_settle_74 : decode cX2_settle 74 = .ok (.aload_n 0, 1) := by decide +kernel
theorem dX2_settle_75 : decode cX2_settle 75 = .ok (.iload_n 1, 1) := by decide +kernel
theorem dX2_settle_76 : decode cX2_settle 76 = .ok (.iconst 2, 1) := by decide +kernel
theorem dX2_settle_77 : decode cX2_settle 77 = .ok (.idiv, 1) := by decide +kernel
theorem dX2_settle_78 : decode cX2_settle 78 = .ok (.invokevirtual 66, 3) := by decide +kernel
theorem dX2_settle_81 : decode cX2_settle 81 = .ok (.return_, 1) := by decide +kernel
theorem dX2_isFull_0 : decode cX2_isFull 0 = .ok (.aload_n 0, 1) := by decide +kernel
theorem dX2_isFull_1 : decode cX2_isFull 1 = .ok (.getfield 56, 3) := by decide +kernel
theorem dX2_isFull_4 : decode cX2_isFull 4 = .ok (.ifCond .eq 27, 3) := by decide +kernel
theorem dX2_isFull_7 : decode cX2_isFull 7 = .ok (.aload_n 0, 1) := by decide +kernel
theorem dX2_isFull_8 : decode cX2_isFull 8 = .ok (.getfield 19, 3) := by decide +kernel
theorem dX2_isFull_11 : decode cX2_isFull 11 = .ok (.iconst 1, 1) := by decide +kernel
theorem dX2_isFull_12 : decode cX2_isFull 12 = .ok (.aload_n 0, 1) := by decide +kernel
theorem dX2_isFull_13 : decode cX2_isFull 13 = .ok (.getfield 43, 3) := by decide +kernel
theorem dX2_isFull_16 : decode cX2_isFull 16 = .ok (.isub, 1) := by decide +kernel
theorem dX2_isFull_17 : decode cX2_isFull 17 = .ok (.iaload, 1) := by decide +kernel
theorem dX2_isFull_18 : decode cX2_isFull 18 = .ok (.aload_n 0, 1) := by decide +kernel
theorem dX2_isFull_19 : decode cX2_isFull 19 = .ok (.getfield 46, 3) := by decide +kernel
theorem dX2_isFull_22 : decode cX2_isFull 22 = .ok (.isub, 1) := by decide +kernel
theorem dX2_isFull_23 : decode cX2_isFull 23 = .ok (.iconst 4, 1) := by decide +kernel
theorem dX2_isFull_24 : decode cX2_isFull 24 = .ok (.if_icmp .le 7, 3) := by decide +kernel
theorem dX2_isFull_27 : decode cX2_isFull 27 = .ok (.iconst 1, 1) := by decide +kernel
theorem dX2_isFull_28 : decode cX2_isFull 28 = .ok (.goto 4, 3) := by decide +kernel
theorem dX2_isFull_31 : decode cX2_isFull 31 = .ok (.iconst 0, 1) := by decide +kernel
theorem dX2_isFull_32 : decode cX2_isFull 32 = .ok (.istore_n 1, 1) := by decide +kernel
theorem dX2_isFull_33 : decode cX2_isFull 33 = .ok (.iload_n 1, 1) := by decide +kernel
theorem dX2_isFull_34 : decode cX2_isFull 34 = .ok (.ifCond .ne 47, 3) := by decide +kernel
theorem dX2_isFull_37 : decode cX2_isFull 37 = .ok (.iconst 4, 1) := by decide +kernel
theorem dX2_isFull_38 : decode cX2_isFull 38 = .ok (.aload_n 0, 1) := by decide +kernel
theorem dX2_isFull_39 : decode cX2_isFull 39 = .ok (.getfield 63, 3) := by decide +kernel
theorem dX2_isFull_42 : decode cX2_isFull 42 = .ok (.imul, 1) := by decide +kernel
theorem dX2_isFull_43 : decode cX2_isFull 43 = .ok (.iconst 4, 1) := by decide +kernel
theorem dX2_isFull_44 : decode cX2_isFull 44 = .ok (.iadd, 1) := by decide +kernel
theorem dX2_isFull_45 : decode cX2_isFull 45 = .ok (.iconst 3, 1) := by decide +kernel
theorem dX2_isFull_46 : decode cX2_isFull 46 = .ok (.aload_n 0, 1) := by decide +kernel
theorem dX2_isFull_47 : decode cX2_isFull 47 = .ok (.getfield 19, 3) := by decide +kernel
theorem dX2_isFull_50 : decode cX2_isFull 50 = .ok (.aload_n 0, 1) := by decide +kernel
theorem dX2_isFull_51 : decode cX2_isFull 51 = .ok (.getfield 43, 3) := by decide +kernel
theorem dX2_isFull_54 : decode cX2_isFull 54 = .ok (.iaload, 1) := by decide +kernel
theorem dX2_isFull_55 : decode cX2_isFull 55 = .ok (.imul, 1) := by decide +kernel
theorem dX2_isFull_56 : decode cX2_isFull 56 = .ok (.if_icmp .lt 25, 3) := by decide +kernel
theorem dX2_isFull_59 : decode cX2_isFull 59 = .ok (.iconst 2, 1) := by decide +kernel
theorem dX2_isFull_60 : decode cX2_isFull 60 = .ok (.aload_n 0, 1) := by decide +kernel
theorem dX2_isFull_61 : decode cX2_isFull 61 = .ok (.getfield 19, 3) := by decide +kernel
theorem dX2_isFull_64 : decode cX2_isFull 64 = .ok (.aload_n 0, 1) := by decide +kernel
theorem dX2_isFull_65 : decode cX2_isFull 65 = .ok (.getfield 43, 3) := by decide +kernel
theorem dX2_isFull_68 : decode cX2_isFull 68 = .ok (.iaload, 1) := by decide +kernel
theorem dX2_isFull_69 : decode cX2_isFull 69 = .ok (.imul, 1) := by decide +kernel
theorem dX2_isFull_70 : decode cX2_isFull 70 = .ok (.aload_n 0, 1) := by decide +kernel
theorem dX2_isFull_71 : decode cX2_isFull 71 = .ok (.getfield 22, 3) := by decide +kernel
theorem dX2_isFull_74 : decode cX2_isFull 74 = .ok (.if_icmp .le 7, 3) := by decide +kernel
theorem dX2_isFull_77 : decode cX2_isFull 77 = .ok (.iconst 1, 1) := by decide +kernel
theorem dX2_isFull_78 : decode cX2_isFull 78 = .ok (.goto 4, 3) := by decide +kernel
theorem dX2_isFull_81 : decode cX2_isFull 81 = .ok (.iconst 0, 1) := by decide +kernel
theorem dX2_isFull_82 : decode cX2_isFull 82 = .ok (.ireturn, 1) := by decide +kernel
set_option maxRecDepth 20000 in
theorem ggX2_find_X2_look : GoodIn wsX2_find wsX2_look := goodIn_r _ [7, 8, 9, 10, 11, 12, 13, 6, 14, 15, 16, 17, 18, 19, 20, 21, 22, 23, 24, 25, 26, 27, 28, 29, 30, 31, 32, 33, 34, 35, 36] (by decide +kernel) (by decide +kernel)
set_option maxRecDepth 20000 in
theorem gX2_find_X2_look : GoodIn wsX2_find (wsV RX2 49 RX2 yX2_look wsX2_look) := goodIn_app (goodIn_of _ (by decide +kernel)) ggX2_find_X2_look
set_option maxRecDepth 20000 in
theorem ggX2_find_X2_at : GoodIn wsX2_find wsX2_at := goodIn_r _ [20] (by decide +kernel) (by decide +kernel)
set_option maxRecDepth 20000 in
theorem gX2_find_X2_at : GoodIn wsX2_find (wsV RX2 37 RX2 yX2_at wsX2_at) := goodIn_app (goodIn_of _ (by decide +kernel)) ggX2_find_X2_at
theorem dX2_find_0 : decode cX2_find 0 = .ok (.aload_n 0, 1) := by decide +kernel
theorem dX2_find_1 : decode cX2_find 1 = .ok (.iload_n 1, 1) := by decide +kernel
theorem dX2_find_2 : decode cX2_find 2 = .ok (.aload_n 0, 1) := by decide +kernel
theorem dX2_find_3 : decode cX2_find 3 = .ok (.getfield 43, 3) := by decide +kernel
theorem dX2_find_6 : decode cX2_find 6 = .ok (.invokevirtual 49, 3) := by decide +kernel
theorem dX2_find_9 : decode cX2_find 9 = .ok (.istore_n 2, 1) := by decide +kernel
theorem dX2_find_10 : decode cX2_find 10 = .ok (.iload_n 2, 1) := by decide +kernel
theorem dX2_find_11 : decode cX2_find 11 = .ok (.ifCond .lt 13, 3) := by decide +kernel
theorem dX2_find_14 : decode cX2_find 14 = .ok (.aload_n 0, 1) := by decide +kernel
theorem dX2_find_15 : decode cX2_find 15 = .ok (.aload_n 0, 1) := by decide +kernel
theorem dX2_find_16 : decode cX2_find 16 = .ok (.getfield 43, 3) := by decide +kernel
theorem dX2_find_19 : decode cX2_find 19 = .ok (.iload_n 2, 1) := by decide +kernel
theorem dX2_find_20 : decode cX2_find 20 = .ok (.invokevirtual 37, 3) := by decide +kernel
theorem dX2_find_23 : decode cX2_find 23 = .ok (.ireturn, 1) := by decide +kernel
theorem dX2_find_24 : decode cX2_find 24 = .ok (.aload_n 0, 1) := by decide +kernel
theorem dX2_find_25 : decode cX2_find 25 = .ok (.getfield 56, 3) := by decide +kernel
theorem dX2_find_28 : decode cX2_find 28 = .ok (.ifCond .eq 17, 3) := by decide +kernel
theorem dX2_find_31 : decode cX2_find 31 = .ok (.aload_n 0, 1) := by decide +kernel
theorem dX2_find_32 : decode cX2_find 32 = .ok (.iload_n 1, 1) := by decide +kernel
theorem dX2_find_33 : decode cX2_find 33 = .ok (.iconst 1, 1) := by decide +kernel
theorem dX2_find_34 : decode cX2_find 34 = .ok (.aload_n 0, 1) := by decide +kernel
theorem dX2_find_35 : decode cX2_find 35 = .ok (.getfield 43, 3) := by decide +kernel
theorem dX2_find_38 : decode cX2_find 38 = .ok (.isub, 1) := by decide +kernel
theorem dX2_find_39 : decode cX2_find 39 = .ok (.invokevirtual 49, 3) := by decide +kernel
theorem dX2_find_42 : decode cX2_find 42 = .ok (.goto 4, 3) := by decide +kernel
theorem dX2_find_45 : decode cX2_find 45 = .ok (.iconst (-1), 1) := by decide +kernel
theorem dX2_find_46 : decode cX2_find 46 = .ok (.istore_n 3, 1) := by decide +kernel
theorem dX2_find_47 : decode cX2_find 47 = .ok (.iload_n 3, 1) := by decide +kernel
theorem dX2_find_48 : decode cX2_find 48 = .ok (.ifCond .ge 7, 3) := by decide +kernel
theorem dX2_find_51 : decode cX2_find 51 = .ok (.iconst (-1), 1) := by decide +kernel
theorem dX2_find_52 : decode cX2_find 52 = .ok (.goto 14, 3) := by decide +kernel
theorem dX2_find_55 : decode cX2_find 55 = .ok (.aload_n 0, 1) := by decide +kernel
theorem dX2_find_56 : decode cX2_find 56 = .ok (.iconst 1, 1) := by decide +kernel
theorem dX2_find_57 : decode cX2_find 57 = .ok (.aload_n 0, 1) := by decide +kernel
theorem dX2_find_58 : decode cX2_find 58 = .ok (.getfield 43, 3) := by decide +kernel
theorem dX2_find_61 : decode cX2_find 61 = .ok (.isub, 1) := by decide +kernel
theorem dX2_find_62 : decode cX2_find 62 = .ok (.iload_n 3, 1) := by decide +kernel
theorem dX2_find_63 : decode cX2_find 63 = .ok (.invokevirtual 37, 3) := by decide +kernel
theorem dX2_find_66 : decode cX2_find 66 = .ok (.ireturn, 1) := by decide +kernel
set_option maxRecDepth 20000 in
theorem ggX2_put_X2_look : GoodIn wsX2_put wsX2_look := goodIn_r _ [13, 2, 14, 15, 16, 17, 18, 12, 19, 20, 21, 22, 23, 24, 25, 26, 27, 28, 29, 52, 53, 54, 55, 56, 57, 58, 59, 60, 61, 62, 63] (by decide +kernel) (by decide +kernel)
set_option maxRecDepth 20000 in
theorem gX2_put_X2_look : GoodIn wsX2_put (wsV RX2 49 RX2 yX2_look wsX2_look) := goodIn_app (goodIn_of _ (by decide +kernel)) ggX2_put_X2_look
set_option maxRecDepth 20000 in
theorem ggX2_put_X2_at : GoodIn wsX2_put wsX2_at := goodIn_r _ [25] (by decide +kernel) (by decide +kernel)
set_option maxRecDepth 20000 in
theorem gX2_put_X2_at : GoodIn wsX2_put (wsV RX2 37 RX2 yX2_at wsX2_at) := goodIn_app (goodIn_of _ (by decide +kernel)) ggX2_put_X2_at
set_option maxRecDepth 20000 in
theorem ggX2_put_X2_isFull : GoodIn wsX2_put wsX2_isFull := goodIn_r _ [33, 4, 21, 3, 34, 7, 35, 52, 53, 54, 55, 56, 57, 58, 59, 60, 61, 62, 63] (by decide +kernel) (by decide +kernel)
set_option maxRecDepth 20000 in
theorem gX2_put_X2_isFull : GoodIn wsX2_put (wsV RX2 70 RX2 yX2_isFull wsX2_isFull) := goodIn_app (goodIn_of _ (by decide +kernel)) ggX2_put_X2_isFull
set_option maxRecDepth 20000 in
theorem ggX2_put_X2_lay : GoodIn wsX2_put wsX2_lay := goodIn_r _ [39, 14, 15, 5, 22, 23, 24, 12, 25, 52, 53, 54, 55, 56, 57, 58, 59, 60, 61, 62, 63] (by decide +kernel) (by decide +kernel)
set_option maxRecDepth 20000 in
theorem gX2_put_X2_lay : GoodIn wsX2_put (wsV RX2 52 RX2 yX2_lay wsX2_lay) := goodIn_app (goodIn_of _ (by decide +kernel)) ggX2_put_X2_lay
set_option maxRecDepth 20000 in
theorem ggX2_put_X2_settle : GoodIn wsX2_put wsX2_settle := goodIn_r _ [43, 4, 21, 3, 7, 44, 45, 46, 12, 47, 34, 2, 14, 15, 5, 22, 23, 24, 25, 9, 10, 11, 13, 16, 17, 18, 19, 20, 26, 27, 28, 29, 36, 37, 38, 39, 48, 49, 50, 51, 52, 53, 54, 55, 56, 57, 58, 59, 60, 61, 62, 63] (by decide +kernel) (by decide +kernel)
set_option maxRecDepth 20000 in
theorem gX2_put_X2_settle : GoodIn wsX2_put (wsV RX2 75 RX2 yX2_settle wsX2_settle) := goodIn_app (goodIn_of _ (by decide +kernel)) ggX2_put_X2_settle
theorem dX2_put_0 : decode cX2_put 0 = .ok (.aload_n 0, 1) := by decide +kernel
theorem dX2_put_1 : decode cX2_put 1 = .ok (.iconst 0, 1) := by decide +kernel
theorem dX2_put_2 : decode cX2_put 2 = .ok (.putfield 26, 3) := by decide +kernel
theorem dX2_put_5 : decode cX2_put 5 = .ok (.aload_n 0, 1) := by decide +kernel
theorem dX2_put_6 : decode cX2_put 6 = .ok (.iconst 0, 1) := by decide +kernel
theorem dX2_put_7 : decode cX2_put 7 = .ok (.putfield 34, 3) := by decide +kernel
theorem dX2_put_10 : decode cX2_put 10 = .ok (.aload_n 0, 1) := by decide +kernel
theorem dX2_put_11 : decode cX2_put 11 = .ok (.iload_n 1, 1) := by decide +kernel
theorem dX2_put_12 : decode cX2_put 12 = .ok (.aload_n 0, 1) := by decide +kernel
theorem dX2_put_13 : decode cX2_put 13 = .ok (.getfield 43, 3) := by decide +kernel
theorem dX2_put_16 : decode cX2_put 16 = .ok (.invokevirtual 49, 3) := by decide +kernel
theorem dX2_put_19 : decode cX2_put 19 = .ok (.istore_n 3, 1) := by decide +kernel
theorem dX2_put_20 : decode cX2_put 20 = .ok (.iload_n 3, 1) := by decide +kernel
theorem dX2_put_21 : decode cX2_put 21 = .ok (.ifCond .ge 24, 3) := by decide +kernel
theorem dX2_put_24 : decode cX2_put 24 = .ok (.aload_n 0, 1) := by decide +kernel
theorem dX2_put_25 : decode cX2_put 25 = .ok (.getfield 56, 3) := by decide +kernel
theorem dX2_put_28 : decode cX2_put 28 = .ok (.ifCond .eq 17, 3) := by decide +kernel
theorem dX2_put_31 : decode cX2_put 31 = .ok (.aload_n 0, 1) := by decide +kernel
theorem dX2_put_32 : decode cX2_put 32 = .ok (.iload_n 1, 1) := by decide +kernel
theorem dX2_put_33 : decode cX2_put 33 = .ok (.iconst 1, 1) := by decide +kernel
theorem dX2_put_34 : decode cX2_put 34 = .ok (.aload_n 0, 1) := by decide +kernel
theorem dX2_put_35 : decode cX2_put 35 = .ok (.getfield 43, 3) := by decide +kernel
theorem dX2_put_38 : decode cX2_put 38 = .ok (.isub, 1) := by decide +kernel
theorem dX2_put_39 : decode cX2_put 39 = .ok (.invokevirtual 49, 3) := by decide +kernel
theorem dX2_put_42 : decode cX2_put 42 = .ok (.goto 4, 3) := by decide +kernel
theorem dX2_put_45 : decode cX2_put 45 = .ok (.iconst (-1), 1) := by decide +kernel
theorem dX2_put_46 : decode cX2_put 46 = .ok (.istore 4, 2) := by decide +kernel
theorem dX2_put_48 : decode cX2_put 48 = .ok (.iconst 0, 1) := by decide +kernel
theorem dX2_put_49 : decode cX2_put 49 = .ok (.istore 5, 2) := by decide +kernel
theorem dX2_put_51 : decode cX2_put 51 = .ok (.iload_n 3, 1) := by decide +kernel
theorem dX2_put_52 : decode cX2_put 52 = .ok (.ifCond .ge 8, 3) := by decide +kernel
theorem dX2_put_55 : decode cX2_put 55 = .ok (.iload 4, 2) := by decide +kernel
theorem dX2_put_57 : decode cX2_put 57 = .ok (.ifCond .lt 40, 3) := by decide +kernel
theorem dX2_put_60 : decode cX2_put 60 = .ok (.aload_n 0, 1) := by decide +kernel
theorem dX2_put_61 : decode cX2_put 61 = .ok (.getfield 16, 3) := by decide +kernel
theorem dX2_put_64 : decode cX2_put 64 = .ok (.iload_n 3, 1) := by decide +kernel
theorem dX2_put_65 : decode cX2_put 65 = .ok (.ifCond .lt 15, 3) := by decide +kernel
theorem dX2_put_68 : decode cX2_put 68 = .ok (.aload_n 0, 1) := by decide +kernel
theorem dX2_put_69 : decode cX2_put 69 = .ok (.aload_n 0, 1) := by decide +kernel
theorem dX2_put_70 : decode cX2_put 70 = .ok (.getfield 43, 3) := by decide +kernel
theorem dX2_put_73 : decode cX2_put 73 = .ok (.iload_n 3, 1) := by decide +kernel
theorem dX2_put_74 : decode cX2_put 74 = .ok (.invokevirtual 37, 3) := by decide +kernel
theorem dX2_put_77 : decode cX2_put 77 = .ok (.goto 15, 3) := by decide +kernel
theorem dX2_put_80 : decode cX2_put 80 = .ok (.aload_n 0, 1) := by decide +kernel
theorem dX2_put_81 : decode cX2_put 81 = .ok (.iconst 1, 1) := by decide +kernel
theorem dX2_put_82 : decode cX2_put 82 = .ok (.aload_n 0, 1) := by decide +kernel
theorem dX2_put_83 : decode cX2_put 83 = .ok (.getfield 43, 3) := by decide +kernel
theorem dX2_put_86 : decode cX2_put 86 = .ok (.isub, 1) := by decide +kernel
theorem dX2_put_87 : decode cX2_put 87 = .ok (.iload 4, 2) := by decide +kernel
theorem dX2_put_89 : decode cX2_put 89 = .ok (.invokevirtual 37, 3) := by decide +kernel
theorem dX2_put_92 : decode cX2_put 92 = .ok (.iload_n 2, 1) := by decide +kernel
theorem dX2_put_93 : decode cX2_put 93 = .ok (.iastore, 1) := by decide +kernel
theorem dX2_put_94 : decode cX2_put 94 = .ok (.goto 44, 3) := by decide +kernel
theorem dX2_put_97 : decode cX2_put 97 = .ok (.aload_n 0, 1) := by decide +kernel
theorem dX2_put_98 : decode cX2_put 98 = .ok (.invokevirtual 70, 3) := by decide +kernel
theorem dX2_put_101 : decode cX2_put 101 = .ok (.ifCond .eq 10, 3) := by decide +kernel
theorem dX2_put_104 : decode cX2_put 104 = .ok (.ldc 74, 2) := by decide +kernel
theorem dX2_put_106 : decode cX2_put 106 = .ok (.istore 5, 2) := by decide +kernel
theorem dX2_put_108 : decode cX2_put 108 = .ok (.goto 30, 3) := by decide +kernel
theorem dX2_put_111 : decode cX2_put 111 = .ok (.aload_n 0, 1) := by decide +kernel
theorem dX2_put_112 : decode cX2_put 112 = .ok (.aload_n 0, 1) := by decide +kernel
theorem dX2_put_113 : decode cX2_put 113 = .ok (.getfield 43, 3) := by decide +kernel
theorem dX2_put_116 : decode cX2_put 116 = .ok (.iconst (-1), 1) := by decide +kernel
theorem dX2_put_117 : decode cX2_put 117 = .ok (.iload_n 3, 1) := by decide +kernel
theorem dX2_put_118 : decode cX2_put 118 = .ok (.isub, 1) := by decide +kernel
theorem dX2_put_119 : decode cX2_put 119 = .ok (.iload_n 1, 1) := by decide +kernel
theorem dX2_put_120 : decode cX2_put 120 = .ok (.iload_n 2, 1) := by decide +kernel
theorem dX2_put_121 : decode cX2_put 121 = .ok (.invokevirtual 52, 3) := by decide +kernel
theorem dX2_put_124 : decode cX2_put 124 = .ok (.aload_n 0, 1) := by decide +kernel
theorem dX2_put_125 : decode cX2_put 125 = .ok (.dup, 1) := by decide +kernel
theorem dX2_put_126 : decode cX2_put 126 = .ok (.getfield 63, 3) := by decide +kernel
theorem dX2_put_129 : decode cX2_put 129 = .ok (.iconst 1, 1) := by decide +kernel
theorem dX2_put_130 : decode cX2_put 130 = .ok (.iadd, 1) := by decide +kernel
theorem dX2_put_131 : decode cX2_put 131 = .ok (.putfield 63, 3) := by decide +kernel
theorem dX2_put_134 : decode cX2_put 134 = .ok (.aload_n 0, 1) := by decide +kernel
theorem dX2_put_135 : decode cX2_put 135 = .ok (.invokevirtual 75, 3) := by decide +kernel
theorem dX2_put_138 : decode cX2_put 138 = .ok (.aload_n 0, 1) := by decide +kernel
theorem dX2_put_139 : decode cX2_put 139 = .ok (.aload_n 0, 1) := by decide +kernel
theorem dX2_put_140 : decode cX2_put 140 = .ok (.getfield 34, 3) := by decide +kernel
theorem dX2_put_143 : decode cX2_put 143 = .ok (.putfield 78, 3) := by decide +kernel
theorem dX2_put_146 : decode cX2_put 146 = .ok (.iload 5, 2) := by decide +kernel
theorem dX2_put_148 : decode cX2_put 148 = .ok (.ireturn, 1) := by decide +kernel
set_option maxRecDepth 20000 in
theorem ggX2_get_X2_find : GoodIn wsX2_get wsX2_find := goodIn_r _ [9, 10, 11, 12, 13, 14, 8, 15, 2, 16, 17, 18, 19, 20, 21, 22, 23, 24, 25, 26, 27, 28, 29, 30, 31, 32, 33, 34, 35, 36, 37, 38, 39, 40, 41, 42, 43] (by decide +kernel) (by decide +kernel)
set_option maxRecDepth 20000 in
theorem gX2_get_X2_find : GoodIn wsX2_get (wsV RX2 81 RX2 yX2_find wsX2_find) := goodIn_app (goodIn_of _ (by decide +kernel)) ggX2_get_X2_find
theorem dX2_get_0 : decode cX2_get 0 = .ok (.aload_n 0, 1) := by decide +kernel
theorem dX2_get_1 : decode cX2_get 1 = .ok (.iconst 0, 1) := by decide +kernel
theorem dX2_get_2 : decode cX2_get 2 = .ok (.putfield 26, 3) := by decide +kernel
theorem dX2_get_5 : decode cX2_get 5 = .ok (.aload_n 0, 1) := by decide +kernel
theorem dX2_get_6 : decode cX2_get 6 = .ok (.iconst 0, 1) := by decide +kernel
theorem dX2_get_7 : decode cX2_get 7 = .ok (.putfield 34, 3) := by decide +kernel
theorem dX2_get_10 : decode cX2_get 10 = .ok (.aload_n 0, 1) := by decide +kernel
theorem dX2_get_11 : decode cX2_get 11 = .ok (.iload_n 1, 1) := by decide +kernel
theorem dX2_get_12 : decode cX2_get 12 = .ok (.invokevirtual 81, 3) := by decide +kernel
theorem dX2_get_15 : decode cX2_get 15 = .ok (.istore_n 2, 1) := by decide +kernel
theorem dX2_get_16 : decode cX2_get 16 = .ok (.aload_n 0, 1) := by decide +kernel
theorem dX2_get_17 : decode cX2_get 17 = .ok (.aload_n 0, 1) := by decide +kernel
theorem dX2_get_18 : decode cX2_get 18 = .ok (.getfield 34, 3) := by decide +kernel
theorem dX2_get_21 : decode cX2_get 21 = .ok (.putfield 78, 3) := by decide +kernel
theorem dX2_get_24 : decode cX2_get 24 = .ok (.iload_n 2, 1) := by decide +kernel
theorem dX2_get_25 : decode cX2_get 25 = .ok (.ifCond .ge 7, 3) := by decide +kernel
theorem dX2_get_28 : decode cX2_get 28 = .ok (.iconst 0, 1) := by decide +kernel
theorem dX2_get_29 : decode cX2_get 29 = .ok (.goto 9, 3) := by decide +kernel
theorem dX2_get_32 : decode cX2_get 32 = .ok (.aload_n 0, 1) := by decide +kernel
theorem dX2_get_33 : decode cX2_get 33 = .ok (.getfield 16, 3) := by decide +kernel
theorem dX2_get_36 : decode cX2_get 36 = .ok (.iload_n 2, 1) := by decide +kernel
theorem dX2_get_37 : decode cX2_get 37 = .ok (.iaload, 1) := by decide +kernel
theorem dX2_get_38 : decode cX2_get 38 = .ok (.ireturn, 1) := by decide +kernel
set_option maxRecDepth 20000 in
theorem ggX2_has_X2_find : GoodIn wsX2_has wsX2_find := goodIn_r _ [8, 9, 10, 11, 12, 13, 7, 14, 2, 15, 16, 17, 18, 19, 20, 21, 22, 23, 24, 25, 26, 27, 28, 29, 30, 31, 32, 33, 34, 35, 36, 37, 38, 39, 40, 41, 42] (by decide +kernel) (by decide +kernel)
set_option maxRecDepth 20000 in
theorem gX2_has_X2_find : GoodIn wsX2_has (wsV RX2 81 RX2 yX2_find wsX2_find) := goodIn_app (goodIn_of _ (by decide +kernel)) ggX2_has_X2_find
theorem dX2_has_0 : decode cX2_has 0 = .ok (.aload_n 0, 1) := by decide +kernel
theorem dX2_has_1 : decode cX2_has 1 = .ok (.iconst 0, 1) := by decide +kernel
theorem dX2_has_2 : decode cX2_has 2 = .ok (.putfield 26, 3) := by decide +kernel
theorem dX2_has_5 : decode cX2_has 5 = .ok (.aload_n 0, 1) := by decide +kernel
theorem dX2_has_6 : decode cX2_has 6 = .ok (.iconst 0, 1) := by decide +kernel
theorem dX2_has_7 : decode cX2_has 7 = .ok (.putfield 34, 3) := by decide +kernel
theorem dX2_has_10 : decode cX2_has 10 = .ok (.aload_n 0, 1) := by decide +kernel
theorem dX2_has_11 : decode cX2_has 11 = .ok (.iload_n 1, 1) := by decide +kernel
theorem dX2_has_12 : decode cX2_has 12 = .ok (.invokevirtual 81, 3) := by decide +kernel
theorem dX2_has_15 : decode cX2_has 15 = .ok (.istore_n 2, 1) := by decide +kernel
theorem dX2_has_16 : decode cX2_has 16 = .ok (.aload_n 0, 1) := by decide +kernel
theorem dX2_has_17 : decode cX2_has 17 = .ok (.aload_n 0, 1) := by decide +kernel
theorem dX2_has_18 : decode cX2_has 18 = .ok (.getfield 34, 3) := by decide +kernel
theorem dX2_has_21 : decode cX2_has 21 = .ok (.putfield 78, 3) := by decide +kernel
theorem dX2_has_24 : decode cX2_has 24 = .ok (.iload_n 2, 1) := by decide +kernel
theorem dX2_has_25 : decode cX2_has 25 = .ok (.ifCond .lt 7, 3) := by decide +kernel
theorem dX2_has_28 : decode cX2_has 28 = .ok (.iconst 1, 1) := by decide +kernel
theorem dX2_has_29 : decode cX2_has 29 = .ok (.goto 4, 3) := by decide +kernel
theorem dX2_has_32 : decode cX2_has 32 = .ok (.iconst 0, 1) := by decide +kernel
theorem dX2_has_33 : decode cX2_has 33 = .ok (.ireturn, 1) := by decide +kernel
set_option maxRecDepth 20000 in
theorem ggX2_steps_X2_behind : GoodIn wsX2_steps wsX2_behind := goodIn_r _ [6, 7, 8, 9, 10, 11, 12, 13, 14, 15, 16, 17, 18, 19] (by decide +kernel) (by decide +kernel)
set_option maxRecDepth 20000 in
theorem gX2_steps_X2_behind : GoodIn wsX2_steps (wsV RX2 40 RX2 yX2_behind wsX2_behind) := goodIn_app (goodIn_of _ (by decide +kernel)) ggX2_steps_X2_behind
theorem dX2_steps_0 : decode cX2_steps 0 = .ok (.iconst 0, 1) := by decide +kernel
theorem dX2_steps_1 : decode cX2_steps 1 = .ok (.istore_n 3, 1) := by decide +kernel
theorem dX2_steps_2 : decode cX2_steps 2 = .ok (.iload_n 1, 1) := by decide +kernel
theorem dX2_steps_3 : decode cX2_steps 3 = .ok (.istore 4, 2) := by decide +kernel
theorem dX2_steps_5 : decode cX2_steps 5 = .ok (.iload 4, 2) := by decide +kernel
theorem dX2_steps_7 : decode cX2_steps 7 = .ok (.iload_n 2, 1) := by decide +kernel
theorem dX2_steps_8 : decode cX2_steps 8 = .ok (.if_icmp .eq 21, 3) := by decide +kernel
theorem dX2_steps_11 : decode cX2_steps 11 = .ok (.aload_n 0, 1) := by decide +kernel
theorem dX2_steps_12 : decode cX2_steps 12 = .ok (.iload 4, 2) := by decide +kernel
theorem dX2_steps_14 : decode cX2_steps 14 = .ok (.aload_n 0, 1) := by decide +kernel
theorem dX2_steps_15 : decode cX2_steps 15 = .ok (.getfield 43, 3) := by decide +kernel
theorem dX2_steps_18 : decode cX2_steps 18 = .ok (.invokevirtual 40, 3) := by decide +kernel
theorem dX2_steps_21 : decode cX2_steps 21 = .ok (.istore 4, 2) := by decide +kernel
theorem dX2_steps_23 : decode cX2_steps 23 = .ok (.iinc 3 1, 3) := by decide +kernel
theorem dX2_steps_26 : decode cX2_steps 26 = .ok (.goto (-21), 3) := by decide +kernel
theorem dX2_steps_29 : decode cX2_steps 29 = .ok (.iload_n 3, 1) := by decide +kernel
theorem dX2_steps_30 : decode cX2_steps 30 = .ok (.ireturn, 1) := by decide +kernel
set_option maxRecDepth 20000 in
theorem ggX2_free_X2_behind : GoodIn wsX2_free wsX2_behind := goodIn_r _ [10, 11, 29, 30, 31, 32, 33, 34, 35, 36, 37, 38, 39, 40] (by decide +kernel) (by decide +kernel)
set_option maxRecDepth 20000 in
theorem gX2_free_X2_behind : GoodIn wsX2_free (wsV RX2 40 RX2 yX2_behind wsX2_behind) := goodIn_app (goodIn_of _ (by decide +kernel)) ggX2_free_X2_behind
set_option maxRecDepth 20000 in
theorem ggX2_free_X2_at : GoodIn wsX2_free wsX2_at := goodIn_r _ [15] (by decide +kernel) (by decide +kernel)
set_option maxRecDepth 20000 in
theorem gX2_free_X2_at : GoodIn wsX2_free (wsV RX2 37 RX2 yX2_at wsX2_at) := goodIn_app (goodIn_of _ (by decide +kernel)) ggX2_free_X2_at
set_option maxRecDepth 20000 in
theorem ggX2_free_X2_home : GoodIn wsX2_free wsX2_home := goodIn_r _ [19, 20, 11, 29, 30, 31, 32, 33, 34, 35, 36, 37, 38, 39, 40] (by decide +kernel) (by decide +kernel)
set_option maxRecDepth 20000 in
theorem gX2_free_X2_home : GoodIn wsX2_free (wsV RX2 30 RX2 yX2_home wsX2_home) := goodIn_app (goodIn_of _ (by decide +kernel)) ggX2_free_X2_home
set_option maxRecDepth 20000 in
theorem ggX2_free_X2_steps : GoodIn wsX2_free wsX2_steps := goodIn_r _ [24, 1, 6, 7, 8, 9, 10, 11, 29, 30, 31, 32, 33, 34, 35, 36, 37, 38, 39, 40] (by decide +kernel) (by decide +kernel)
set_option maxRecDepth 20000 in
theorem gX2_free_X2_steps : GoodIn wsX2_free (wsV RX2 85 RX2 yX2_steps wsX2_steps) := goodIn_app (goodIn_of _ (by decide +kernel)) ggX2_free_X2_steps
set_option maxRecDepth 20000 in
theorem ggX2_free_X2_lay : GoodIn wsX2_free wsX2_lay := goodIn_r _ [28, 3, 4, 5, 12, 13, 14, 9, 15, 29, 30, 31, 32, 33, 34, 35, 36, 37, 38, 39, 40] (by decide +kernel) (by decide +kernel)
set_option maxRecDepth 20000 in
theorem gX2_free_X2_lay : GoodIn wsX2_free (wsV RX2 52 RX2 yX2_lay wsX2_lay) := goodIn_app (goodIn_of _ (by decide +kernel)) ggX2_free_X2_lay
theorem dX2_free_0 : decode cX2_free 0 = .ok (.iload_n 1, 1) := by decide +kernel
theorem dX2_free_1 : decode cX2_free 1 = .ok (.istore_n 2, 1) := by decide +kernel
theorem dX2_free_2 : decode cX2_free 2 = .ok (.aload_n 0, 1) := by decide +kernel
theorem dX2_free_3 : decode cX2_free 3 = .ok (.iload_n 1, 1) := by decide +kernel
theorem dX2_free_4 : decode cX2_free 4 = .ok (.aload_n 0, 1) := by decide +kernel
theorem dX2_free_5 : decode cX2_free 5 = .ok (.getfield 43, 3) := by decide +kernel
theorem dX2_free_8 : decode cX2_free 8 = .ok (.invokevirtual 40, 3) := by decide +kernel
theorem dX2_free_11 : decode cX2_free 11 = .ok (.istore_n 3, 1) := by decide +kernel
theorem dX2_free_12 : decode cX2_free 12 = .ok (.aload_n 0, 1) := by decide +kernel
theorem dX2_free_13 : decode cX2_free 13 = .ok (.dup, 1) := by decide +kernel
theorem dX2_free_14 : decode cX2_free 14 = .ok (.getfield 34, 3) := by decide +kernel
theorem dX2_free_17 : decode cX2_free 17 = .ok (.iconst 1, 1) := by decide +kernel
theorem dX2_free_18 : decode cX2_free 18 = .ok (.iadd, 1) := by decide +kernel
theorem dX2_free_19 : decode cX2_free 19 = .ok (.putfield 34, 3) := by decide +kernel
theorem dX2_free_22 : decode cX2_free 22 = .ok (.aload_n 0, 1) := by decide +kernel
theorem dX2_free_23 : decode cX2_free 23 = .ok (.getfield 7, 3) := by decide +kernel
theorem dX2_free_26 : decode cX2_free 26 = .ok (.aload_n 0, 1) := by decide +kernel
theorem dX2_free_27 : decode cX2_free 27 = .ok (.aload_n 0, 1) := by decide +kernel
theorem dX2_free_28 : decode cX2_free 28 = .ok (.getfield 43, 3) := by decide +kernel
theorem dX2_free_31 : decode cX2_free 31 = .ok (.iload_n 3, 1) := by decide +kernel
theorem dX2_free_32 : decode cX2_free 32 = .ok (.invokevirtual 37, 3) := by decide +kernel
theorem dX2_free_35 : decode cX2_free 35 = .ok (.iaload, 1) := by decide +kernel
theorem dX2_free_36 : decode cX2_free 36 = .ok (.ifCond .eq 113, 3) := by decide +kernel
theorem dX2_free_39 : decode cX2_free 39 = .ok (.aload_n 0, 1) := by decide +kernel
theorem dX2_free_40 : decode cX2_free 40 = .ok (.aload_n 0, 1) := by decide +kernel
theorem dX2_free_41 : decode cX2_free 41 = .ok (.aload_n 0, 1) := by decide +kernel
theorem dX2_free_42 : decode cX2_free 42 = .ok (.getfield 13, 3) := by decide +kernel
theorem dX2_free_45 : decode cX2_free 45 = .ok (.aload_n 0, 1) := by decide +kernel
theorem dX2_free_46 : decode cX2_free 46 = .ok (.aload_n 0, 1) := by decide +kernel
theorem dX2_free_47 : decode cX2_free 47 = .ok (.getfield 43, 3) := by decide +kernel
theorem dX2_free_50 : decode cX2_free 50 = .ok (.iload_n 3, 1) := by decide +kernel
theorem dX2_free_51 : decode cX2_free 51 = .ok (.invokevirtual 37, 3) := by decide +kernel
theorem dX2_free_54 : decode cX2_free 54 = .ok (.iaload, 1) := by decide +kernel
theorem dX2_free_55 : decode cX2_free 55 = .ok (.aload_n 0, 1) := by decide +kernel
theorem dX2_free_56 : decode cX2_free 56 = .ok (.getfield 43, 3) := by decide +kernel
theorem dX2_free_59 : decode cX2_free 59 = .ok (.invokevirtual 30, 3) := by decide +kernel
theorem dX2_free_62 : decode cX2_free 62 = .ok (.iload_n 3, 1) := by decide +kernel
theorem dX2_free_63 : decode cX2_free 63 = .ok (.invokevirtual 85, 3) := by decide +kernel
theorem dX2_free_66 : decode cX2_free 66 = .ok (.aload_n 0, 1) := by decide +kernel
theorem dX2_free_67 : decode cX2_free 67 = .ok (.iload_n 2, 1) := by decide +kernel
theorem dX2_free_68 : decode cX2_free 68 = .ok (.iload_n 3, 1) := by decide +kernel
theorem dX2_free_69 : decode cX2_free 69 = .ok (.invokevirtual 85, 3) := by decide +kernel
theorem dX2_free_72 : decode cX2_free 72 = .ok (.if_icmp .ge 7, 3) := by decide +kernel
theorem dX2_free_75 : decode cX2_free 75 = .ok (.iconst 1, 1) := by decide +kernel
theorem dX2_free_76 : decode cX2_free 76 = .ok (.goto 4, 3) := by decide +kernel
theorem dX2_free_79 : decode cX2_free 79 = .ok (.iconst 0, 1) := by decide +kernel
theorem dX2_free_80 : decode cX2_free 80 = .ok (.istore 4, 2) := by decide +kernel
theorem dX2_free_82 : decode cX2_free 82 = .ok (.iload 4, 2) := by decide +kernel
theorem dX2_free_84 : decode cX2_free 84 = .ok (.ifCond .ne 42, 3) := by decide +kernel
theorem dX2_free_87 : decode cX2_free 87 = .ok (.aload_n 0, 1) := by decide +kernel
theorem dX2_free_88 : decode cX2_free 88 = .ok (.aload_n 0, 1) := by decide +kernel
theorem dX2_free_89 : decode cX2_free 89 = .ok (.getfield 43, 3) := by decide +kernel
theorem dX2_free_92 : decode cX2_free 92 = .ok (.iload_n 2, 1) := by decide +kernel
theorem dX2_free_93 : decode cX2_free 93 = .ok (.aload_n 0, 1) := by decide +kernel
theorem dX2_free_94 : decode cX2_free 94 = .ok (.getfield 13, 3) := by decide +kernel
theorem dX2_free_97 : decode cX2_free 97 = .ok (.aload_n 0, 1) := by decide +kernel
theorem dX2_free_98 : decode cX2_free 98 = .ok (.aload_n 0, 1) := by decide +kernel
theorem dX2_free_99 : decode cX2_free 99 = .ok (.getfield 43, 3) := by decide +kernel
theorem dX2_free_102 : decode cX2_free 102 = .ok (.iload_n 3, 1) := by decide +kernel
theorem dX2_free_103 : decode cX2_free 103 = .ok (.invokevirtual 37, 3) := by decide +kernel
theorem dX2_free_106 : decode cX2_free 106 = .ok (.iaload, 1) := by decide +kernel
theorem dX2_free_107 : decode cX2_free 107 = .ok (.aload_n 0, 1) := by decide +kernel
theorem dX2_free_108 : decode cX2_free 108 = .ok (.getfield 16, 3) := by decide +kernel
theorem dX2_free_111 : decode cX2_free 111 = .ok (.aload_n 0, 1) := by decide +kernel
theorem dX2_free_112 : decode cX2_free 112 = .ok (.aload_n 0, 1) := by decide +kernel
theorem dX2_free_113 : decode cX2_free 113 = .ok (.getfield 43, 3) := by decide +kernel
theorem dX2_free_116 : decode cX2_free 116 = .ok (.iload_n 3, 1) := by decide +kernel
theorem dX2_free_117 : decode cX2_free 117 = .ok (.invokevirtual 37, 3) := by decide +kernel
theorem dX2_free_120 : decode cX2_free 120 = .ok (.iaload, 1) := by decide +kernel
theorem dX2_free_121 : decode cX2_free 121 = .ok (.invokevirtual 52, 3) := by decide +kernel
theorem dX2_free_124 : decode cX2_free 124 = .ok (.iload_n 3, 1) := by decide +kernel
theorem dX2_free_125 : decode cX2_free 125 = .ok (.istore_n 2, 1) := by decide +kernel
theorem dX2_free_126 : decode cX2_free 126 = .ok (.aload_n 0, 1) := by decide +kernel
theorem dX2_free_127 : decode cX2_free 127 = .ok (.iload_n 3, 1) := by decide +kernel
theorem dX2_free_128 : decode cX2_free 128 = .ok (.aload_n 0, 1) := by decide +kernel
theorem dX2_free_129 : decode cX2_free 129 = .ok (.getfield 43, 3) := by decide +kernel
theorem dX2_free_132 : decode cX2_free 132 = .ok (.invokevirtual 40, 3) := by decide +kernel
theorem dX2_free_135 : decode cX2_free 135 = .ok (.istore_n 3, 1) := by decide +kernel
theorem dX2_free_136 : decode cX2_free 136 = .ok (.aload_n 0, 1) := by decide +kernel
theorem dX2_free_137 : decode cX2_free 137 = .ok (.dup, 1) := by decide +kernel
theorem dX2_free_138 : decode cX2_free 138 = .ok (.getfield 34, 3) := by decide +kernel
theorem dX2_free_141 : decode cX2_free 141 = .ok (.iconst 1, 1) := by decide +kernel
theorem dX2_free_142 : decode cX2_free 142 = .ok (.iadd, 1) := by decide +kernel
theorem dX2_free_143 : decode cX2_free 143 = .ok (.putfield 34, 3) := by decide +kernel
theorem dX2_free_146 : decode cX2_free 146 = .ok (.goto (-124), 3) := by decide +kernel
theorem dX2_free_149 : decode cX2_free 149 = .ok (.aload_n 0, 1) := by decide +kernel
theorem dX2_free_150 : decode cX2_free 150 = .ok (.getfield 7, 3) := by decide +kernel
theorem dX2_free_153 : decode cX2_free 153 = .ok (.aload_n 0, 1) := by decide +kernel
theorem dX2_free_154 : decode cX2_free 154 = .ok (.aload_n 0, 1) := by decide +kernel
theorem dX2_free_155 : decode cX2_free 155 = .ok (.getfield 43, 3) := by decide +kernel
theorem dX2_free_158 : decode cX2_free 158 = .ok (.iload_n 2, 1) := by decide +kernel
theorem dX2_free_159 : decode cX2_free 159 = .ok (.invokevirtual 37, 3) := by decide +kernel
theorem dX2_free_162 : decode cX2_free 162 = .ok (.iconst 0, 1) := by decide +kernel
theorem dX2_free_163 : decode cX2_free 163 = .ok (.iastore, 1) := by decide +kernel
theorem dX2_free_164 : decode cX2_free 164 = .ok (.return_, 1) := by decide +kernel
set_option maxRecDepth 20000 in
theorem ggX2_remove_X2_look : GoodIn wsX2_remove wsX2_look := goodIn_r _ [12, 2, 5, 13, 14, 15, 16, 11, 17, 18, 19, 20, 21, 22, 23, 24, 25, 26, 27, 54, 55, 56, 57, 58, 59, 60, 61, 62, 63, 64, 65] (by decide +kernel) (by decide +kernel)
set_option maxRecDepth 20000 in
theorem gX2_remove_X2_look : GoodIn wsX2_remove (wsV RX2 49 RX2 yX2_look wsX2_look) := goodIn_app (goodIn_of _ (by decide +kernel)) ggX2_remove_X2_look
set_option maxRecDepth 20000 in
theorem ggX2_remove_X2_free : GoodIn wsX2_remove wsX2_free := goodIn_r _ [31, 3, 2, 5, 13, 32, 24, 25, 26, 11, 27, 19, 20, 21, 22, 23, 14, 15, 16, 17, 18, 33, 34, 35, 36, 37, 38, 39, 40, 54, 55, 56, 57, 58, 59, 60, 61, 62, 63, 64, 65] (by decide +kernel) (by decide +kernel)
set_option maxRecDepth 20000 in
theorem gX2_remove_X2_free : GoodIn wsX2_remove (wsV RX2 88 RX2 yX2_free wsX2_free) := goodIn_app (goodIn_of _ (by decide +kernel)) ggX2_remove_X2_free
set_option maxRecDepth 20000 in
theorem ggX2_remove_X2_at : GoodIn wsX2_remove wsX2_at := goodIn_r _ [23] (by decide +kernel) (by decide +kernel)
set_option maxRecDepth 20000 in
theorem gX2_remove_X2_at : GoodIn wsX2_remove (wsV RX2 37 RX2 yX2_at wsX2_at) := goodIn_app (goodIn_of _ (by decide +kernel)) ggX2_remove_X2_at
set_option maxRecDepth 20000 in
theorem ggX2_remove_X2_settle : GoodIn wsX2_remove wsX2_settle := goodIn_r _ [44, 4, 19, 3, 6, 45, 46, 47, 11, 48, 49, 2, 5, 13, 32, 20, 21, 22, 23, 8, 9, 10, 12, 14, 15, 16, 17, 18, 24, 25, 26, 27, 37, 38, 39, 40, 50, 51, 52, 53, 54, 55, 56, 57, 58, 59, 60, 61, 62, 63, 64, 65] (by decide +kernel) (by decide +kernel)
set_option maxRecDepth 20000 in
theorem gX2_remove_X2_settle : GoodIn wsX2_remove (wsV RX2 75 RX2 yX2_settle wsX2_settle) := goodIn_app (goodIn_of _ (by decide +kernel)) ggX2_remove_X2_settle
theorem dX2_remove_0 : decode cX2_remove 0 = .ok (.aload_n 0, 1) := by decide +kernel
theorem dX2_remove_1 : decode cX2_remove 1 = .ok (.iconst 0, 1) := by decide +kernel
theorem dX2_remove_2 : decode cX2_remove 2 = .ok (.putfield 26, 3) := by decide +kernel
theorem dX2_remove_5 : decode cX2_remove 5 = .ok (.aload_n 0, 1) := by decide +kernel
theorem dX2_remove_6 : decode cX2_remove 6 = .ok (.iconst 0, 1) := by decide +kernel
theorem dX2_remove_7 : decode cX2_remove 7 = .ok (.putfield 34, 3) := by decide +kernel
theorem dX2_remove_10 : decode cX2_remove 10 = .ok (.aload_n 0, 1) := by decide +kernel
theorem dX2_remove_11 : decode cX2_remove 11 = .ok (.iload_n 1, 1) := by decide +kernel
theorem dX2_remove_12 : decode cX2_remove 12 = .ok (.aload_n 0, 1) := by decide +kernel
theorem dX2_remove_13 : decode cX2_remove 13 = .ok (.getfield 43, 3) := by decide +kernel
theorem dX2_remove_16 : decode cX2_remove 16 = .ok (.invokevirtual 49, 3) := by decide +kernel
theorem dX2_remove_19 : decode cX2_remove 19 = .ok (.istore_n 2, 1) := by decide +kernel
theorem dX2_remove_20 : decode cX2_remove 20 = .ok (.iload_n 2, 1) := by decide +kernel
theorem dX2_remove_21 : decode cX2_remove 21 = .ok (.ifCond .ge 24, 3) := by decide +kernel
theorem dX2_remove_24 : decode cX2_remove 24 = .ok (.aload_n 0, 1) := by decide +kernel
theorem dX2_remove_25 : decode cX2_remove 25 = .ok (.getfield 56, 3) := by decide +kernel
theorem dX2_remove_28 : decode cX2_remove 28 = .ok (.ifCond .eq 17, 3) := by decide +kernel
theorem dX2_remove_31 : decode cX2_remove 31 = .ok (.aload_n 0, 1) := by decide +kernel
theorem dX2_remove_32 : decode cX2_remove 32 = .ok (.iload_n 1, 1) := by decide +kernel
theorem dX2_remove_33 : decode cX2_remove 33 = .ok (.iconst 1, 1) := by decide +kernel
theorem dX2_remove_34 : decode cX2_remove 34 = .ok (.aload_n 0, 1) := by decide +kernel
theorem dX2_remove_35 : decode cX2_remove 35 = .ok (.getfield 43, 3) := by decide +kernel
theorem dX2_remove_38 : decode cX2_remove 38 = .ok (.isub, 1) := by decide +kernel
theorem dX2_remove_39 : decode cX2_remove 39 = .ok (.invokevirtual 49, 3) := by decide +kernel
theorem dX2_remove_42 : decode cX2_remove 42 = .ok (.goto 4, 3) := by decide +kernel
theorem dX2_remove_45 : decode cX2_remove 45 = .ok (.iconst (-1), 1) := by decide +kernel
theorem dX2_remove_46 : decode cX2_remove 46 = .ok (.istore_n 3, 1) := by decide +kernel
theorem dX2_remove_47 : decode cX2_remove 47 = .ok (.iload_n 2, 1) := by decide +kernel
theorem dX2_remove_48 : decode cX2_remove 48 = .ok (.ifCond .lt 11, 3) := by decide +kernel
theorem dX2_remove_51 : decode cX2_remove 51 = .ok (.aload_n 0, 1) := by decide +kernel
theorem dX2_remove_52 : decode cX2_remove 52 = .ok (.iload_n 2, 1) := by decide +kernel
theorem dX2_remove_53 : decode cX2_remove 53 = .ok (.invokevirtual 88, 3) := by decide +kernel
theorem dX2_remove_56 : decode cX2_remove 56 = .ok (.goto 24, 3) := by decide +kernel
theorem dX2_remove_59 : decode cX2_remove 59 = .ok (.iload_n 3, 1) := by decide +kernel
theorem dX2_remove_60 : decode cX2_remove 60 = .ok (.ifCond .lt 20, 3) := by decide +kernel
theorem dX2_remove_63 : decode cX2_remove 63 = .ok (.aload_n 0, 1) := by decide +kernel
theorem dX2_remove_64 : decode cX2_remove 64 = .ok (.getfield 7, 3) := by decide +kernel
theorem dX2_remove_67 : decode cX2_remove 67 = .ok (.aload_n 0, 1) := by decide +kernel
theorem dX2_remove_68 : decode cX2_remove 68 = .ok (.iconst 1, 1) := by decide +kernel
theorem dX2_remove_69 : decode cX2_remove 69 = .ok (.aload_n 0, 1) := by decide +kernel
theorem dX2_remove_70 : decode cX2_remove 70 = .ok (.getfield 43, 3) := by decide +kernel
theorem dX2_remove_73 : decode cX2_remove 73 = .ok (.isub, 1) := by decide +kernel
theorem dX2_remove_74 : decode cX2_remove 74 = .ok (.iload_n 3, 1) := by decide +kernel
theorem dX2_remove_75 : decode cX2_remove 75 = .ok (.invokevirtual 37, 3) := by decide +kernel
theorem dX2_remove_78 : decode cX2_remove 78 = .ok (.iconst 2, 1) := by decide +kernel
theorem dX2_remove_79 : decode cX2_remove 79 = .ok (.iastore, 1) := by decide +kernel
theorem dX2_remove_80 : decode cX2_remove 80 = .ok (.iload_n 2, 1) := by decide +kernel
theorem dX2_remove_81 : decode cX2_remove 81 = .ok (.ifCond .ge 7, 3) := by decide +kernel
theorem dX2_remove_84 : decode cX2_remove 84 = .ok (.iload_n 3, 1) := by decide +kernel
theorem dX2_remove_85 : decode cX2_remove 85 = .ok (.ifCond .lt 17, 3) := by decide +kernel
theorem dX2_remove_88 : decode cX2_remove 88 = .ok (.aload_n 0, 1) := by decide +kernel
theorem dX2_remove_89 : decode cX2_remove 89 = .ok (.dup, 1) := by decide +kernel
theorem dX2_remove_90 : decode cX2_remove 90 = .ok (.getfield 63, 3) := by decide +kernel
theorem dX2_remove_93 : decode cX2_remove 93 = .ok (.iconst 1, 1) := by decide +kernel
theorem dX2_remove_94 : decode cX2_remove 94 = .ok (.isub, 1) := by decide +kernel
theorem dX2_remove_95 : decode cX2_remove 95 = .ok (.putfield 63, 3) := by decide +kernel
theorem dX2_remove_98 : decode cX2_remove 98 = .ok (.aload_n 0, 1) := by decide +kernel
theorem dX2_remove_99 : decode cX2_remove 99 = .ok (.invokevirtual 75, 3) := by decide +kernel
theorem dX2_remove_102 : decode cX2_remove 102 = .ok (.aload_n 0, 1) := by decide +kernel
theorem dX2_remove_103 : decode cX2_remove 103 = .ok (.aload_n 0, 1) := by decide +kernel
theorem dX2_remove_104 : decode cX2_remove 104 = .ok (.getfield 34, 3) := by decide +kernel
theorem dX2_remove_107 : decode cX2_remove 107 = .ok (.putfield 78, 3) := by decide +kernel
theorem dX2_remove_110 : decode cX2_remove 110 = .ok (.iload_n 2, 1) := by decide +kernel
theorem dX2_remove_111 : decode cX2_remove 111 = .ok (.ifCond .ge 7, 3) := by decide +kernel
theorem dX2_remove_114 : decode cX2_remove 114 = .ok (.iload_n 3, 1) := by decide +kernel
theorem dX2_remove_115 : decode cX2_remove 115 = .ok (.ifCond .lt 7, 3) := by decide +kernel
theorem dX2_remove_118 : decode cX2_remove 118 = .ok (.iconst 1, 1) := by decide +kernel
theorem dX2_remove_119 : decode cX2_remove 119 = .ok (.goto 4, 3) := by decide +kernel
theorem dX2_remove_122 : decode cX2_remove 122 = .ok (.iconst 0, 1) := by decide +kernel
theorem dX2_remove_123 : decode cX2_remove 123 = .ok (.ireturn, 1) := by decide +kernel
theorem dX2_size_0 : decode cX2_size 0 = .ok (.aload_n 0, 1) := by decide +kernel
theorem dX2_size_1 : decode cX2_size 1 = .ok (.iconst 0, 1) := by decide +kernel
theorem dX2_size_2 : decode cX2_size 2 = .ok (.putfield 26, 3) := by decide +kernel
theorem dX2_size_5 : decode cX2_size 5 = .ok (.aload_n 0, 1) := by decide +kernel
theorem dX2_size_6 : decode cX2_size 6 = .ok (.getfield 63, 3) := by decide +kernel
theorem dX2_size_9 : decode cX2_size 9 = .ok (.ireturn, 1) := by decide +kernel
theorem dX2_capacity_0 : decode cX2_capacity 0 = .ok (.aload_n 0, 1) := by decide +kernel
theorem dX2_capacity_1 : decode cX2_capacity 1 = .ok (.iconst 0, 1) := by decide +kernel
theorem dX2_capacity_2 : decode cX2_capacity 2 = .ok (.putfield 26, 3) := by decide +kernel
theorem dX2_capacity_5 : decode cX2_capacity 5 = .ok (.aload_n 0, 1) := by decide +kernel
theorem dX2_capacity_6 : decode cX2_capacity 6 = .ok (.getfield 19, 3) := by decide +kernel
theorem dX2_capacity_9 : decode cX2_capacity 9 = .ok (.aload_n 0, 1) := by decide +kernel
theorem dX2_capacity_10 : decode cX2_capacity 10 = .ok (.getfield 43, 3) := by decide +kernel
theorem dX2_capacity_13 : decode cX2_capacity 13 = .ok (.iaload, 1) := by decide +kernel
theorem dX2_capacity_14 : decode cX2_capacity 14 = .ok (.ireturn, 1) := by decide +kernel
theorem dX2_migrating_0 : decode cX2_migrating 0 = .ok (.aload_n 0, 1) := by decide +kernel
theorem dX2_migrating_1 : decode cX2_migrating 1 = .ok (.iconst 0, 1) := by decide +kernel
theorem dX2_migrating_2 : decode cX2_migrating 2 = .ok (.putfield 26, 3) := by decide +kernel
theorem dX2_migrating_5 : decode cX2_migrating 5 = .ok (.aload_n 0, 1) := by decide +kernel
theorem dX2_migrating_6 : decode cX2_migrating 6 = .ok (.getfield 56, 3) := by decide +kernel
theorem dX2_migrating_9 : decode cX2_migrating 9 = .ok (.ireturn, 1) := by decide +kernel
theorem dX2_lastWork_0 : decode cX2_lastWork 0 = .ok (.aload_n 0, 1) := by decide +kernel
theorem dX2_lastWork_1 : decode cX2_lastWork 1 = .ok (.iconst 0, 1) := by decide +kernel
theorem dX2_lastWork_2 : decode cX2_lastWork 2 = .ok (.putfield 26, 3) := by decide +kernel
theorem dX2_lastWork_5 : decode cX2_lastWork 5 = .ok (.aload_n 0, 1) := by decide +kernel
theorem dX2_lastWork_6 : decode cX2_lastWork 6 = .ok (.getfield 78, 3) := by decide +kernel
theorem dX2_lastWork_9 : decode cX2_lastWork 9 = .ok (.ireturn, 1) := by decide +kernel
set_option maxRecDepth 20000 in
theorem ggX2_slot_X2_find : GoodIn wsX2_slot wsX2_find := goodIn_r _ [7, 2, 8, 9, 10, 11, 6, 12, 13, 14, 15, 16, 17, 18, 19, 20, 21, 22, 23, 24, 25, 26, 27, 28, 29, 30, 31, 32, 33, 34, 35, 36, 37, 38, 39, 40, 41] (by decide +kernel) (by decide +kernel)
set_option maxRecDepth 20000 in
theorem gX2_slot_X2_find : GoodIn wsX2_slot (wsV RX2 81 RX2 yX2_find wsX2_find) := goodIn_app (goodIn_of _ (by decide +kernel)) ggX2_slot_X2_find
theorem dX2_slot_0 : decode cX2_slot 0 = .ok (.aload_n 0, 1) := by decide +kernel
theorem dX2_slot_1 : decode cX2_slot 1 = .ok (.iconst 0, 1) := by decide +kernel
theorem dX2_slot_2 : decode cX2_slot 2 = .ok (.putfield 26, 3) := by decide +kernel
theorem dX2_slot_5 : decode cX2_slot 5 = .ok (.aload_n 0, 1) := by decide +kernel
theorem dX2_slot_6 : decode cX2_slot 6 = .ok (.iload_n 1, 1) := by decide +kernel
theorem dX2_slot_7 : decode cX2_slot 7 = .ok (.invokevirtual 81, 3) := by decide +kernel
theorem dX2_slot_10 : decode cX2_slot 10 = .ok (.istore_n 2, 1) := by decide +kernel
theorem dX2_slot_11 : decode cX2_slot 11 = .ok (.iload_n 2, 1) := by decide +kernel
theorem dX2_slot_12 : decode cX2_slot 12 = .ok (.ifCond .ge 7, 3) := by decide +kernel
theorem dX2_slot_15 : decode cX2_slot 15 = .ok (.iconst (-1), 1) := by decide +kernel
theorem dX2_slot_16 : decode cX2_slot 16 = .ok (.goto 32, 3) := by decide +kernel
theorem dX2_slot_19 : decode cX2_slot 19 = .ok (.iload_n 2, 1) := by decide +kernel
theorem dX2_slot_20 : decode cX2_slot 20 = .ok (.sipush 1024, 3) := by decide +kernel
theorem dX2_slot_23 : decode cX2_slot 23 = .ok (.idiv, 1) := by decide +kernel
theorem dX2_slot_24 : decode cX2_slot 24 = .ok (.aload_n 0, 1) := by decide +kernel
theorem dX2_slot_25 : decode cX2_slot 25 = .ok (.getfield 43, 3) := by decide +kernel
theorem dX2_slot_28 : decode cX2_slot 28 = .ok (.if_icmp .ne 11, 3) := by decide +kernel
theorem dX2_slot_31 : decode cX2_slot 31 = .ok (.iload_n 2, 1) := by decide +kernel
theorem dX2_slot_32 : decode cX2_slot 32 = .ok (.sipush 1024, 3) := by decide +kernel
theorem dX2_slot_35 : decode cX2_slot 35 = .ok (.irem, 1) := by decide +kernel
theorem dX2_slot_36 : decode cX2_slot 36 = .ok (.goto 12, 3) := by decide +kernel
theorem dX2_slot_39 : decode cX2_slot 39 = .ok (.sipush 2000, 3) := by decide +kernel
theorem dX2_slot_42 : decode cX2_slot 42 = .ok (.iload_n 2, 1) := by decide +kernel
theorem dX2_slot_43 : decode cX2_slot 43 = .ok (.sipush 1024, 3) := by decide +kernel
theorem dX2_slot_46 : decode cX2_slot 46 = .ok (.irem, 1) := by decide +kernel
theorem dX2_slot_47 : decode cX2_slot 47 = .ok (.iadd, 1) := by decide +kernel
theorem dX2_slot_48 : decode cX2_slot 48 = .ok (.ireturn, 1) := by decide +kernel
theorem dX2_cursor_0 : decode cX2_cursor 0 = .ok (.aload_n 0, 1) := by decide +kernel
theorem dX2_cursor_1 : decode cX2_cursor 1 = .ok (.iconst 0, 1) := by decide +kernel
theorem dX2_cursor_2 : decode cX2_cursor 2 = .ok (.putfield 26, 3) := by decide +kernel
theorem dX2_cursor_5 : decode cX2_cursor 5 = .ok (.aload_n 0, 1) := by decide +kernel
theorem dX2_cursor_6 : decode cX2_cursor 6 = .ok (.getfield 56, 3) := by decide +kernel
theorem dX2_cursor_9 : decode cX2_cursor 9 = .ok (.ifCond .eq 10, 3) := by decide +kernel
theorem dX2_cursor_12 : decode cX2_cursor 12 = .ok (.aload_n 0, 1) := by decide +kernel
theorem dX2_cursor_13 : decode cX2_cursor 13 = .ok (.getfield 46, 3) := by decide +kernel
theorem dX2_cursor_16 : decode cX2_cursor 16 = .ok (.goto 4, 3) := by decide +kernel
theorem dX2_cursor_19 : decode cX2_cursor 19 = .ok (.iconst (-1), 1) := by decide +kernel
theorem dX2_cursor_20 : decode cX2_cursor 20 = .ok (.ireturn, 1) := by decide +kernel
theorem dJ9_min_7cf53_0 : decode cJ9_min_7cf53 0 = .ok (.iload_n 0, 1) := by decide +kernel
theorem dJ9_min_7cf53_1 : decode cJ9_min_7cf53 1 = .ok (.iload_n 1, 1) := by decide +kernel
theorem dJ9_min_7cf53_2 : decode cJ9_min_7cf53 2 = .ok (.if_icmp .gt 7, 3) := by decide +kernel
theorem dJ9_min_7cf53_5 : decode cJ9_min_7cf53 5 = .ok (.iload_n 0, 1) := by decide +kernel
theorem dJ9_min_7cf53_6 : decode cJ9_min_7cf53 6 = .ok (.goto 4, 3) := by decide +kernel
theorem dJ9_min_7cf53_9 : decode cJ9_min_7cf53 9 = .ok (.iload_n 1, 1) := by decide +kernel
theorem dJ9_min_7cf53_10 : decode cJ9_min_7cf53 10 = .ok (.ireturn, 1) := by decide +kernel
theorem dL_cell_0 : decode cL_cell 0 = .ok (.iload_n 1, 1) := by decide +kernel
theorem dL_cell_1 : decode cL_cell 1 = .ok (.aload_n 0, 1) := by decide +kernel
theorem dL_cell_2 : decode cL_cell 2 = .ok (.arraylength, 1) := by decide +kernel
theorem dL_cell_3 : decode cL_cell 3 = .ok (.if_icmp .ge 9, 3) := by decide +kernel
theorem dL_cell_6 : decode cL_cell 6 = .ok (.aload_n 0, 1) := by decide +kernel
theorem dL_cell_7 : decode cL_cell 7 = .ok (.iload_n 1, 1) := by decide +kernel
theorem dL_cell_8 : decode cL_cell 8 = .ok (.iaload, 1) := by decide +kernel
theorem dL_cell_9 : decode cL_cell 9 = .ok (.goto 4, 3) := by decide +kernel
theorem dL_cell_12 : decode cL_cell 12 = .ok (.iconst 0, 1) := by decide +kernel
theorem dL_cell_13 : decode cL_cell 13 = .ok (.ireturn, 1) := by decide +kernel
set_option maxRecDepth 20000 in
theorem ggL_law_L_cell : GoodIn wsL_law wsL_cell := goodIn_r _ [9] (by decide +kernel) (by decide +kernel)
set_option maxRecDepth 20000 in
theorem gL_law_L_cell : GoodIn wsL_law (va_wsS RL 9 yL_cell wsL_cell) := goodIn_app (goodIn_of _ (by decide +kernel)) ggL_law_L_cell
set_option maxRecDepth 20000 in
theorem ggL_law_X1_init : GoodIn wsL_law wsX1_init := goodIn_r _ [12, 13, 14, 15, 16, 17, 18, 19, 20, 21, 22, 23, 24, 2, 25, 26, 27, 28, 29, 30, 31, 32, 33, 34, 35, 36, 37, 38, 39, 40, 41, 42, 277, 278, 279, 280, 281, 282, 295, 296, 297, 298] (by decide +kernel) (by decide +kernel)
set_option maxRecDepth 20000 in
theorem gL_law_X1_init : GoodIn wsL_law (wsX1_init) := ggL_law_X1_init
set_option maxRecDepth 20000 in
theorem ggL_law_X2_init : GoodIn wsL_law wsX2_init := goodIn_r _ [45, 46, 14, 15, 30, 47, 48, 49, 50, 51, 283, 284, 285, 286, 287, 288, 289, 290, 291, 292, 293, 294] (by decide +kernel) (by decide +kernel)
set_option maxRecDepth 20000 in
theorem gL_law_X2_init : GoodIn wsL_law (wsX2_init) := ggL_law_X2_init
set_option maxRecDepth 20000 in
theorem ggL_law_X1_put : GoodIn wsL_law wsX1_put := goodIn_r _ [55, 56, 21, 57, 20, 58, 59, 60, 61, 62, 2, 63, 64, 65, 66, 67, 68, 69, 70, 71, 19, 72, 73, 34, 74, 75, 76, 77, 31, 78, 79, 80, 81, 32, 82, 83, 84, 85, 86, 87, 88, 89, 90, 22, 91, 92, 93, 94, 16, 95, 96, 97, 98, 99, 100, 101, 102, 103, 104, 105, 33, 106, 107, 108, 109, 110, 111, 112, 113, 114, 40, 41, 42, 115, 116, 117, 118, 119, 120, 121, 122, 123, 124, 35, 36, 37, 38, 39, 125, 126, 127, 128, 277, 278, 279, 280, 281, 282, 295, 296, 297, 298] (by decide +kernel) (by decide +kernel)
set_option maxRecDepth 20000 in
theorem gL_law_X1_put : GoodIn wsL_law (wsV RL 21 RX1 yX1_put wsX1_put) := goodIn_app (goodIn_of _ (by decide +kernel)) ggL_law_X1_put
set_option maxRecDepth 20000 in
theorem ggL_law_X2_put : GoodIn wsL_law wsX2_put := goodIn_r _ [132, 133, 134, 135, 136, 49, 137, 138, 139, 140, 141, 142, 5, 143, 47, 48, 144, 145, 146, 147, 148, 50, 149, 150, 151, 152, 153, 154, 155, 156, 157, 158, 159, 160, 161, 51, 162, 163, 164, 165, 166, 167, 168, 169, 170, 171, 172, 173, 174, 175, 176, 177, 283, 284, 285, 286, 287, 288, 289, 290, 291, 292, 293, 294] (by decide +kernel) (by decide +kernel)
set_option maxRecDepth 20000 in
theorem gL_law_X2_put : GoodIn wsL_law (wsV RL 25 RX2 yX2_put wsX2_put) := goodIn_app (goodIn_of _ (by decide +kernel)) ggL_law_X2_put
set_option maxRecDepth 20000 in
theorem ggL_law_X1_get : GoodIn wsL_law wsX1_get := goodIn_r _ [181, 56, 21, 57, 20, 60, 61, 62, 2, 63, 64, 65, 66, 67, 68, 69, 70, 71, 19, 72, 73, 34, 74, 75, 76, 77, 31, 78, 79, 80, 81, 32, 82, 83, 84, 85, 86, 87, 88, 89, 90, 22, 277, 278, 279, 280, 281, 282, 295, 296, 297, 298] (by decide +kernel) (by decide +kernel)
set_option maxRecDepth 20000 in
theorem gL_law_X1_get : GoodIn wsL_law (wsV RL 26 RX1 yX1_get wsX1_get) := goodIn_app (goodIn_of _ (by decide +kernel)) ggL_law_X1_get
set_option maxRecDepth 20000 in
theorem ggL_law_X2_get : GoodIn wsL_law wsX2_get := goodIn_r _ [185, 133, 134, 139, 49, 186, 187, 188, 5, 189, 135, 136, 140, 141, 142, 143, 47, 48, 144, 145, 146, 147, 148, 50, 149, 150, 151, 152, 153, 154, 155, 156, 283, 284, 285, 286, 287, 288, 289, 290, 291, 292, 293, 294] (by decide +kernel) (by decide +kernel)
set_option maxRecDepth 20000 in
theorem gL_law_X2_get : GoodIn wsL_law (wsV RL 30 RX2 yX2_get wsX2_get) := goodIn_app (goodIn_of _ (by decide +kernel)) ggL_law_X2_get
set_option maxRecDepth 20000 in
theorem ggL_law_X1_has : GoodIn wsL_law wsX1_has := goodIn_r _ [193, 56, 60, 61, 62, 2, 63, 20, 21, 64, 65, 66, 67, 68, 69, 70, 71, 19, 72, 73, 34, 74, 75, 76, 77, 31, 78, 79, 80, 81, 32, 82, 83, 84, 85, 86, 87, 88, 89, 90, 22, 277, 278, 279, 280, 281, 282, 295, 296, 297, 298] (by decide +kernel) (by decide +kernel)
set_option maxRecDepth 20000 in
theorem gL_law_X1_has : GoodIn wsL_law (wsV RL 31 RX1 yX1_has wsX1_has) := goodIn_app (goodIn_of _ (by decide +kernel)) ggL_law_X1_has
set_option maxRecDepth 20000 in
theorem ggL_law_X2_has : GoodIn wsL_law wsX2_has := goodIn_r _ [197, 133, 134, 139, 186, 187, 188, 5, 189, 135, 136, 140, 141, 142, 143, 47, 48, 144, 145, 146, 147, 148, 50, 149, 150, 151, 152, 153, 154, 155, 156, 283, 284, 285, 286, 287, 288, 289, 290, 291, 292, 293, 294] (by decide +kernel) (by decide +kernel)
set_option maxRecDepth 20000 in
theorem gL_law_X2_has : GoodIn wsL_law (wsV RL 35 RX2 yX2_has wsX2_has) := goodIn_app (goodIn_of _ (by decide +kernel)) ggL_law_X2_has
set_option maxRecDepth 20000 in
theorem ggL_law_X1_remove : GoodIn wsL_law wsX1_remove := goodIn_r _ [201, 56, 21, 115, 59, 60, 61, 62, 2, 63, 20, 64, 65, 66, 67, 68, 69, 70, 71, 19, 72, 73, 34, 74, 75, 76, 77, 31, 78, 79, 80, 81, 32, 82, 83, 84, 85, 86, 87, 88, 89, 90, 22, 202, 203, 204, 205, 206, 207, 208, 209, 210, 211, 212, 213, 214, 215, 216, 217, 218, 33, 219, 103, 104, 105, 106, 107, 108, 109, 110, 111, 112, 113, 114, 40, 41, 42, 116, 117, 118, 119, 120, 57, 102, 95, 96, 97, 98, 121, 122, 123, 124, 35, 36, 37, 38, 39, 125, 126, 127, 128, 277, 278, 279, 280, 281, 282, 295, 296, 297, 298] (by decide +kernel) (by decide +kernel)
set_option maxRecDepth 20000 in
theorem gL_law_X1_remove : GoodIn wsL_law (wsV RL 36 RX1 yX1_remove wsX1_remove) := goodIn_app (goodIn_of _ (by decide +kernel)) ggL_law_X1_remove
set_option maxRecDepth 20000 in
theorem ggL_law_X2_remove : GoodIn wsL_law wsX2_remove := goodIn_r _ [223, 133, 134, 135, 136, 47, 138, 139, 140, 141, 142, 5, 143, 48, 144, 145, 146, 147, 148, 50, 149, 150, 151, 152, 153, 154, 155, 156, 224, 225, 226, 227, 49, 228, 229, 230, 231, 162, 163, 164, 165, 166, 167, 168, 169, 170, 171, 172, 173, 161, 174, 175, 176, 177, 283, 284, 285, 286, 287, 288, 289, 290, 291, 292, 293, 294] (by decide +kernel) (by decide +kernel)
set_option maxRecDepth 20000 in
theorem gL_law_X2_remove : GoodIn wsL_law (wsV RL 39 RX2 yX2_remove wsX2_remove) := goodIn_app (goodIn_of _ (by decide +kernel)) ggL_law_X2_remove
set_option maxRecDepth 20000 in
theorem ggL_law_X1_size : GoodIn wsL_law wsX1_size := goodIn_r _ [235, 59, 277, 278, 279, 280, 281, 282] (by decide +kernel) (by decide +kernel)
set_option maxRecDepth 20000 in
theorem gL_law_X1_size : GoodIn wsL_law (wsV RL 40 RX1 yX1_size wsX1_size) := goodIn_app (goodIn_of _ (by decide +kernel)) ggL_law_X1_size
set_option maxRecDepth 20000 in
theorem ggL_law_X2_size : GoodIn wsL_law wsX2_size := goodIn_r _ [239, 133, 138, 283, 284, 285, 286, 287, 288, 289, 290, 291, 292, 293, 294] (by decide +kernel) (by decide +kernel)
set_option maxRecDepth 20000 in
theorem gL_law_X2_size : GoodIn wsL_law (wsV RL 44 RX2 yX2_size wsX2_size) := goodIn_app (goodIn_of _ (by decide +kernel)) ggL_law_X2_size
set_option maxRecDepth 20000 in
theorem ggL_law_X1_capacity : GoodIn wsL_law wsX1_capacity := goodIn_r _ [243, 20, 68, 277, 278, 279, 280, 281, 282, 295, 296, 297, 298] (by decide +kernel) (by decide +kernel)
set_option maxRecDepth 20000 in
theorem gL_law_X1_capacity : GoodIn wsL_law (wsV RL 45 RX1 yX1_capacity wsX1_capacity) := goodIn_app (goodIn_of _ (by decide +kernel)) ggL_law_X1_capacity
set_option maxRecDepth 20000 in
theorem ggL_law_X2_capacity : GoodIn wsL_law wsX2_capacity := goodIn_r _ [247, 133, 50, 135, 283, 284, 285, 286, 287, 288, 289, 290, 291, 292, 293, 294] (by decide +kernel) (by decide +kernel)
set_option maxRecDepth 20000 in
theorem gL_law_X2_capacity : GoodIn wsL_law (wsV RL 48 RX2 yX2_capacity wsX2_capacity) := goodIn_app (goodIn_of _ (by decide +kernel)) ggL_law_X2_capacity
set_option maxRecDepth 20000 in
theorem ggL_law_X1_migrating : GoodIn wsL_law wsX1_migrating := goodIn_r _ [90, 22, 277, 278, 279, 280, 281, 282] (by decide +kernel) (by decide +kernel)
set_option maxRecDepth 20000 in
theorem gL_law_X1_migrating : GoodIn wsL_law (wsV RL 49 RX1 yX1_migrating wsX1_migrating) := goodIn_app (goodIn_of _ (by decide +kernel)) ggL_law_X1_migrating
set_option maxRecDepth 20000 in
theorem ggL_law_X2_migrating : GoodIn wsL_law wsX2_migrating := goodIn_r _ [252, 133, 136, 283, 284, 285, 286, 287, 288, 289, 290, 291, 292, 293, 294] (by decide +kernel) (by decide +kernel)
set_option maxRecDepth 20000 in
theorem gL_law_X2_migrating : GoodIn wsL_law (wsV RL 53 RX2 yX2_migrating wsX2_migrating) := goodIn_app (goodIn_of _ (by decide +kernel)) ggL_law_X2_migrating
set_option maxRecDepth 20000 in
theorem ggL_law_X1_lastWork : GoodIn wsL_law wsX1_lastWork := goodIn_r _ [256, 56, 277, 278, 279, 280, 281, 282] (by decide +kernel) (by decide +kernel)
set_option maxRecDepth 20000 in
theorem gL_law_X1_lastWork : GoodIn wsL_law (wsV RL 54 RX1 yX1_lastWork wsX1_lastWork) := goodIn_app (goodIn_of _ (by decide +kernel)) ggL_law_X1_lastWork
set_option maxRecDepth 20000 in
theorem ggL_law_X2_lastWork : GoodIn wsL_law wsX2_lastWork := goodIn_r _ [260, 133, 139, 283, 284, 285, 286, 287, 288, 289, 290, 291, 292, 293, 294] (by decide +kernel) (by decide +kernel)
set_option maxRecDepth 20000 in
theorem gL_law_X2_lastWork : GoodIn wsL_law (wsV RL 57 RX2 yX2_lastWork wsX2_lastWork) := goodIn_app (goodIn_of _ (by decide +kernel)) ggL_law_X2_lastWork
set_option maxRecDepth 20000 in
theorem ggL_law_X1_slot : GoodIn wsL_law wsX1_slot := goodIn_r _ [264, 56, 60, 61, 62, 2, 63, 20, 21, 64, 65, 66, 67, 68, 69, 70, 71, 19, 72, 73, 34, 74, 75, 76, 77, 31, 78, 79, 80, 81, 32, 82, 83, 84, 85, 86, 87, 88, 89, 90, 22, 277, 278, 279, 280, 281, 282, 295, 296, 297, 298] (by decide +kernel) (by decide +kernel)
set_option maxRecDepth 20000 in
theorem gL_law_X1_slot : GoodIn wsL_law (wsV RL 58 RX1 yX1_slot wsX1_slot) := goodIn_app (goodIn_of _ (by decide +kernel)) ggL_law_X1_slot
set_option maxRecDepth 20000 in
theorem ggL_law_X2_slot : GoodIn wsL_law wsX2_slot := goodIn_r _ [268, 133, 135, 186, 187, 188, 5, 189, 136, 140, 141, 142, 143, 134, 47, 48, 144, 145, 146, 147, 148, 50, 149, 150, 151, 152, 153, 154, 155, 156, 283, 284, 285, 286, 287, 288, 289, 290, 291, 292, 293, 294] (by decide +kernel) (by decide +kernel)
set_option maxRecDepth 20000 in
theorem gL_law_X2_slot : GoodIn wsL_law (wsV RL 61 RX2 yX2_slot wsX2_slot) := goodIn_app (goodIn_of _ (by decide +kernel)) ggL_law_X2_slot
set_option maxRecDepth 20000 in
theorem ggL_law_X1_cursor : GoodIn wsL_law wsX1_cursor := goodIn_r _ [272, 22, 277, 278, 279, 280, 281, 282] (by decide +kernel) (by decide +kernel)
set_option maxRecDepth 20000 in
theorem gL_law_X1_cursor : GoodIn wsL_law (wsV RL 62 RX1 yX1_cursor wsX1_cursor) := goodIn_app (goodIn_of _ (by decide +kernel)) ggL_law_X1_cursor
set_option maxRecDepth 20000 in
theorem ggL_law_X2_cursor : GoodIn wsL_law wsX2_cursor := goodIn_r _ [276, 133, 136, 161, 283, 284, 285, 286, 287, 288, 289, 290, 291, 292, 293, 294] (by decide +kernel) (by decide +kernel)
set_option maxRecDepth 20000 in
theorem gL_law_X2_cursor : GoodIn wsL_law (wsV RL 65 RX2 yX2_cursor wsX2_cursor) := goodIn_app (goodIn_of _ (by decide +kernel)) ggL_law_X2_cursor
theorem dL_law_0 : decode cL_law 0 = .ok (.new 7, 3) := by decide +kernel
theorem dL_law_3 : decode cL_law 3 = .ok (.dup, 1) := by decide +kernel
theorem dL_law_4 : decode cL_law 4 = .ok (.aload_n 0, 1) := by decide +kernel
theorem dL_law_5 : decode cL_law 5 = .ok (.iconst 0, 1) := by decide +kernel
theorem dL_law_6 : decode cL_law 6 = .ok (.invokestatic 9, 3) := by decide +kernel
theorem dL_law_9 : decode cL_law 9 = .ok (.invokespecial 15, 3) := by decide +kernel
theorem dL_law_12 : decode cL_law 12 = .ok (.astore_n 1, 1) := by decide +kernel
theorem dL_law_13 : decode cL_law 13 = .ok (.new 18, 3) := by decide +kernel
theorem dL_law_16 : decode cL_law 16 = .ok (.dup, 1) := by decide +kernel
theorem dL_law_17 : decode cL_law 17 = .ok (.aload_n 0, 1) := by decide +kernel
theorem dL_law_18 : decode cL_law 18 = .ok (.iconst 0, 1) := by decide +kernel
theorem dL_law_19 : decode cL_law 19 = .ok (.invokestatic 9, 3) := by decide +kernel
theorem dL_law_22 : decode cL_law 22 = .ok (.invokespecial 20, 3) := by decide +kernel
theorem dL_law_25 : decode cL_law 25 = .ok (.astore_n 2, 1) := by decide +kernel
theorem dL_law_26 : decode cL_law 26 = .ok (.iconst 1, 1) := by decide +kernel
theorem dL_law_27 : decode cL_law 27 = .ok (.istore_n 3, 1) := by decide +kernel
theorem dL_law_28 : decode cL_law 28 = .ok (.iload_n 3, 1) := by decide +kernel
theorem dL_law_29 : decode cL_law 29 = .ok (.aload_n 0, 1) := by decide +kernel
theorem dL_law_30 : decode cL_law 30 = .ok (.arraylength, 1) := by decide +kernel
theorem dL_law_31 : decode cL_law 31 = .ok (.iconst 3, 1) := by decide +kernel
theorem dL_law_32 : decode cL_law 32 = .ok (.isub, 1) := by decide +kernel
theorem dL_law_33 : decode cL_law 33 = .ok (.if_icmp .gt 259, 3) := by decide +kernel
theorem dL_law_36 : decode cL_law 36 = .ok (.aload_n 0, 1) := by decide +kernel
theorem dL_law_37 : decode cL_law 37 = .ok (.iload_n 3, 1) := by decide +kernel
theorem dL_law_38 : decode cL_law 38 = .ok (.iaload, 1) := by decide +kernel
theorem dL_law_39 : decode cL_law 39 = .ok (.bipush 15, 2) := by decide +kernel
theorem dL_law_41 : decode cL_law 41 = .ok (.iand, 1) := by decide +kernel
theorem dL_law_42 : decode cL_law 42 = .ok (.tableswitch 244 0 9 #[54, 87, 110, 133, 156, 169, 182, 195, 208, 231], 54) := by decide +kernel
theorem dL_law_96 : decode cL_law 96 = .ok (.aload_n 1, 1) := by decide +kernel
theorem dL_law_97 : decode cL_law 97 = .ok (.aload_n 0, 1) := by decide +kernel
theorem dL_law_98 : decode cL_law 98 = .ok (.iload_n 3, 1) := by decide +kernel
theorem dL_law_99 : decode cL_law 99 = .ok (.iconst 1, 1) := by decide +kernel
theorem dL_law_100 : decode cL_law 100 = .ok (.iadd, 1) := by decide +kernel
theorem dL_law_101 : decode cL_law 101 = .ok (.iaload, 1) := by decide +kernel
theorem dL_law_102 : decode cL_law 102 = .ok (.aload_n 0, 1) := by decide +kernel
theorem dL_law_103 : decode cL_law 103 = .ok (.iload_n 3, 1) := by decide +kernel
theorem dL_law_104 : decode cL_law 104 = .ok (.iconst 2, 1) := by decide +kernel
theorem dL_law_105 : decode cL_law 105 = .ok (.iadd, 1) := by decide +kernel
theorem dL_law_106 : decode cL_law 106 = .ok (.iaload, 1) := by decide +kernel
theorem dL_law_107 : decode cL_law 107 = .ok (.invokevirtual 21, 3) := by decide +kernel
theorem dL_law_110 : decode cL_law 110 = .ok (.aload_n 2, 1) := by decide +kernel
theorem dL_law_111 : decode cL_law 111 = .ok (.aload_n 0, 1) := by decide +kernel
theorem dL_law_112 : decode cL_law 112 = .ok (.iload_n 3, 1) := by decide +kernel
theorem dL_law_113 : decode cL_law 113 = .ok (.iconst 1, 1) := by decide +kernel
theorem dL_law_114 : decode cL_law 114 = .ok (.iadd, 1) := by decide +kernel
theorem dL_law_115 : decode cL_law 115 = .ok (.iaload, 1) := by decide +kernel
theorem dL_law_116 : decode cL_law 116 = .ok (.aload_n 0, 1) := by decide +kernel
theorem dL_law_117 : decode cL_law 117 = .ok (.iload_n 3, 1) := by decide +kernel
theorem dL_law_118 : decode cL_law 118 = .ok (.iconst 2, 1) := by decide +kernel
theorem dL_law_119 : decode cL_law 119 = .ok (.iadd, 1) := by decide +kernel
theorem dL_law_120 : decode cL_law 120 = .ok (.iaload, 1) := by decide +kernel
theorem dL_law_121 : decode cL_law 121 = .ok (.invokevirtual 25, 3) := by decide +kernel
theorem dL_law_124 : decode cL_law 124 = .ok (.if_icmp .eq 162, 3) := by decide +kernel
theorem dL_law_127 : decode cL_law 127 = .ok (.iconst 0, 1) := by decide +kernel
theorem dL_law_128 : decode cL_law 128 = .ok (.ireturn, 1) := by decide +kernel
theorem dL_law_129 : decode cL_law 129 = .ok (.aload_n 1, 1) := by decide +kernel
theorem dL_law_130 : decode cL_law 130 = .ok (.aload_n 0, 1) := by decide +kernel
theorem dL_law_131 : decode cL_law 131 = .ok (.iload_n 3, 1) := by decide +kernel
theorem dL_law_132 : decode cL_law 132 = .ok (.iconst 1, 1) := by decide +kernel
theorem dL_law_133 : decode cL_law 133 = .ok (.iadd, 1) := by decide +kernel
theorem dL_law_134 : decode cL_law 134 = .ok (.iaload, 1) := by decide +kernel
theorem dL_law_135 : decode cL_law 135 = .ok (.invokevirtual 26, 3) := by decide +kernel
theorem dL_law_138 : decode cL_law 138 = .ok (.aload_n 2, 1) := by decide +kernel
theorem dL_law_139 : decode cL_law 139 = .ok (.aload_n 0, 1) := by decide +kernel
theorem dL_law_140 : decode cL_law 140 = .ok (.iload_n 3, 1) := by decide +kernel
theorem dL_law_141 : decode cL_law 141 = .ok (.iconst 1, 1) := by decide +kernel
theorem dL_law_142 : decode cL_law 142 = .ok (.iadd, 1) := by decide +kernel
theorem dL_law_143 : decode cL_law 143 = .ok (.iaload, 1) := by decide +kernel
theorem dL_law_144 : decode cL_law 144 = .ok (.invokevirtual 30, 3) := by decide +kernel
theorem dL_law_147 : decode cL_law 147 = .ok (.if_icmp .eq 139, 3) := by decide +kernel
theorem dL_law_150 : decode cL_law 150 = .ok (.iconst 0, 1) := by decide +kernel
theorem dL_law_151 : decode cL_law 151 = .ok (.ireturn, 1) := by decide +kernel
theorem dL_law_152 : decode cL_law 152 = .ok (.aload_n 1, 1) := by decide +kernel
theorem dL_law_153 : decode cL_law 153 = .ok (.aload_n 0, 1) := by decide +kernel
theorem dL_law_154 : decode cL_law 154 = .ok (.iload_n 3, 1) := by decide +kernel
theorem dL_law_155 : decode cL_law 155 = .ok (.iconst 1, 1) := by decide +kernel
theorem dL_law_156 : decode cL_law 156 = .ok (.iadd, 1) := by decide +kernel
theorem dL_law_157 : decode cL_law 157 = .ok (.iaload, 1) := by decide +kernel
theorem dL_law_158 : decode cL_law 158 = .ok (.invokevirtual 31, 3) := by decide +kernel
theorem dL_law_161 : decode cL_law 161 = .ok (.aload_n 2, 1) := by decide +kernel
theorem dL_law_162 : decode cL_law 162 = .ok (.aload_n 0, 1) := by decide +kernel
theorem dL_law_163 : decode cL_law 163 = .ok (.iload_n 3, 1) := by decide +kernel
theorem dL_law_164 : decode cL_law 164 = .ok (.iconst 1, 1) := by decide +kernel
theorem dL_law_165 : decode cL_law 165 = .ok (.iadd, 1) := by decide +kernel
theorem dL_law_166 : decode cL_law 166 = .ok (.iaload, 1) := by decide +kernel
theorem dL_law_167 : decode cL_law 167 = .ok (.invokevirtual 35, 3) := by decide +kernel
theorem dL_law_170 : decode cL_law 170 = .ok (.if_icmp .eq 116, 3) := by decide +kernel
theorem dL_law_173 : decode cL_law 173 = .ok (.iconst 0, 1) := by decide +kernel
theorem dL_law_174 : decode cL_law 174 = .ok (.ireturn, 1) := by decide +kernel
theorem dL_law_175 : decode cL_law 175 = .ok (.aload_n 1, 1) := by decide +kernel
theorem dL_law_176 : decode cL_law 176 = .ok (.aload_n 0, 1) := by decide +kernel
theorem dL_law_177 : decode cL_law 177 = .ok (.iload_n 3, 1) := by decide +kernel
theorem dL_law_178 : decode cL_law 178 = .ok (.iconst 1, 1) := by decide +kernel
theorem dL_law_179 : decode cL_law 179 = .ok (.iadd, 1) := by decide +kernel
theorem dL_law_180 : decode cL_law 180 = .ok (.iaload, 1) := by decide +kernel
theorem dL_law_181 : decode cL_law 181 = .ok (.invokevirtual 36, 3) := by decide +kernel
theorem dL_law_184 : decode cL_law 184 = .ok (.aload_n 2, 1) := by decide +kernel
theorem dL_law_185 : decode cL_law 185 = .ok (.aload_n 0, 1) := by decide +kernel
theorem dL_law_186 : decode cL_law 186 = .ok (.iload_n 3, 1) := by decide +kernel
theorem dL_law_187 : decode cL_law 187 = .ok (.iconst 1, 1) := by decide +kernel
theorem dL_law_188 : decode cL_law 188 = .ok (.iadd, 1) := by decide +kernel
theorem dL_law_189 : decode cL_law 189 = .ok (.iaload, 1) := by decide +kernel
theorem dL_law_190 : decode cL_law 190 = .ok (.invokevirtual 39, 3) := by decide +kernel
theorem dL_law_193 : decode cL_law 193 = .ok (.if_icmp .eq 93, 3) := by decide +kernel
theorem dL_law_196 : decode cL_law 196 = .ok (.iconst 0, 1) := by decide +kernel
theorem dL_law_197 : decode cL_law 197 = .ok (.ireturn, 1) := by decide +kernel
theorem dL_law_198 : decode cL_law 198 = .ok (.aload_n 1, 1) := by decide +kernel
theorem dL_law_199 : decode cL_law 199 = .ok (.invokevirtual 40, 3) := by decide +kernel
theorem dL_law_202 : decode cL_law 202 = .ok (.aload_n 2, 1) := by decide +kernel
theorem dL_law_203 : decode cL_law 203 = .ok (.invokevirtual 44, 3) := by decide +kernel
theorem dL_law_206 : decode cL_law 206 = .ok (.if_icmp .eq 80, 3) := by decide +kernel
theorem dL_law_209 : decode cL_law 209 = .ok (.iconst 0, 1) := by decide +kernel
theorem dL_law_210 : decode cL_law 210 = .ok (.ireturn, 1) := by decide +kernel
theorem dL_law_211 : decode cL_law 211 = .ok (.aload_n 1, 1) := by decide +kernel
theorem dL_law_212 : decode cL_law 212 = .ok (.invokevirtual 45, 3) := by decide +kernel
theorem dL_law_215 : decode cL_law 215 = .ok (.aload_n 2, 1) := by decide +kernel
theorem dL_law_216 : decode cL_law 216 = .ok (.invokevirtual 48, 3) := by decide +kernel
theorem dL_law_219 : decode cL_law 219 = .ok (.if_icmp .eq 67, 3) := by decide +kernel
theorem dL_law_222 : decode cL_law 222 = .ok (.iconst 0, 1) := by decide +kernel
theorem dL_law_223 : decode cL_law 223 = .ok (.ireturn, 1) := by decide +kernel
theorem dL_law_224 : decode cL_law 224 = .ok (.aload_n 1, 1) := by decide +kernel
theorem dL_law_225 : decode cL_law 225 = .ok (.invokevirtual 49, 3) := by decide +kernel
theorem dL_law_228 : decode cL_law 228 = .ok (.aload_n 2, 1) := by decide +kernel
theorem dL_law_229 : decode cL_law 229 = .ok (.invokevirtual 53, 3) := by decide +kernel
theorem dL_law_232 : decode cL_law 232 = .ok (.if_icmp .eq 54, 3) := by decide +kernel
theorem dL_law_235 : decode cL_law 235 = .ok (.iconst 0, 1) := by decide +kernel
theorem dL_law_236 : decode cL_law 236 = .ok (.ireturn, 1) := by decide +kernel
theorem dL_law_237 : decode cL_law 237 = .ok (.aload_n 1, 1) := by decide +kernel
theorem dL_law_238 : decode cL_law 238 = .ok (.invokevirtual 54, 3) := by decide +kernel
theorem dL_law_241 : decode cL_law 241 = .ok (.aload_n 2, 1) := by decide +kernel
theorem dL_law_242 : decode cL_law 242 = .ok (.invokevirtual 57, 3) := by decide +kernel
theorem dL_law_245 : decode cL_law 245 = .ok (.if_icmp .eq 41, 3) := by decide +kernel
theorem dL_law_248 : decode cL_law 248 = .ok (.iconst 0, 1) := by decide +kernel
theorem dL_law_249 : decode cL_law 249 = .ok (.ireturn, 1) := by decide +kernel
theorem dL_law_250 : decode cL_law 250 = .ok (.aload_n 1, 1) := by decide +kernel
theorem dL_law_251 : decode cL_law 251 = .ok (.aload_n 0, 1) := by decide +kernel
theorem dL_law_252 : decode cL_law 252 = .ok (.iload_n 3, 1) := by decide +kernel
theorem dL_law_253 : decode cL_law 253 = .ok (.iconst 1, 1) := by decide +kernel
theorem dL_law_254 : decode cL_law 254 = .ok (.iadd, 1) := by decide +kernel
theorem dL_law_255 : decode cL_law 255 = .ok (.iaload, 1) := by decide +kernel
theorem dL_law_256 : decode cL_law 256 = .ok (.invokevirtual 58, 3) := by decide +kernel
theorem dL_law_259 : decode cL_law 259 = .ok (.aload_n 2, 1) := by decide +kernel
theorem dL_law_260 : decode cL_law 260 = .ok (.aload_n 0, 1) := by decide +kernel
theorem dL_law_261 : decode cL_law 261 = .ok (.iload_n 3, 1) := by decide +kernel
theorem dL_law_262 : decode cL_law 262 = .ok (.iconst 1, 1) := by decide +kernel
theorem dL_law_263 : decode cL_law 263 = .ok (.iadd, 1) := by decide +kernel
theorem dL_law_264 : decode cL_law 264 = .ok (.iaload, 1) := by decide +kernel
theorem dL_law_265 : decode cL_law 265 = .ok (.invokevirtual 61, 3) := by decide +kernel
theorem dL_law_268 : decode cL_law 268 = .ok (.if_icmp .eq 18, 3) := by decide +kernel
theorem dL_law_271 : decode cL_law 271 = .ok (.iconst 0, 1) := by decide +kernel
theorem dL_law_272 : decode cL_law 272 = .ok (.ireturn, 1) := by decide +kernel
theorem dL_law_273 : decode cL_law 273 = .ok (.aload_n 1, 1) := by decide +kernel
theorem dL_law_274 : decode cL_law 274 = .ok (.invokevirtual 62, 3) := by decide +kernel
theorem dL_law_277 : decode cL_law 277 = .ok (.aload_n 2, 1) := by decide +kernel
theorem dL_law_278 : decode cL_law 278 = .ok (.invokevirtual 65, 3) := by decide +kernel
theorem dL_law_281 : decode cL_law 281 = .ok (.if_icmp .eq 5, 3) := by decide +kernel
theorem dL_law_284 : decode cL_law 284 = .ok (.iconst 0, 1) := by decide +kernel
theorem dL_law_285 : decode cL_law 285 = .ok (.ireturn, 1) := by decide +kernel
theorem dL_law_286 : decode cL_law 286 = .ok (.iinc 3 3, 3) := by decide +kernel
theorem dL_law_289 : decode cL_law 289 = .ok (.goto (-261), 3) := by decide +kernel
theorem dL_law_292 : decode cL_law 292 = .ok (.iconst 1, 1) := by decide +kernel
theorem dL_law_293 : decode cL_law 293 = .ok (.ireturn, 1) := by decide +kernel
abbrev vwCl : List vw_C := [(RX0, TX0, 4), (RX1, TX1, 6), (RX2, TX2, 12)]
/-! ===== END printed: names ===== -/
end
section
/-! PURE: rings, tables of slots, looking for a key. A table is (n, marks, keys, values); marks 0 empty, 1 taken, 2 a key. -/
def q_ad (n a d : Nat) : Nat := if a + d < n then a + d else a + d - n
def q_rd (n a b : Nat) : Nat := if a ≤ b then b - a else b + n - a
theorem q_ad_c (n a d : Nat) : (a + d < n ∧ q_ad n a d = a + d) ∨ (n ≤ a + d ∧ q_ad n a d = a + d - n) := by
  unfold q_ad
  by_cases h : a + d < n
  · exact Or.inl ⟨h, if_pos h⟩
  · exact Or.inr ⟨Nat.le_of_not_lt h, if_neg h⟩
theorem q_rd_c (n a b : Nat) : (a ≤ b ∧ q_rd n a b = b - a) ∨ (b < a ∧ q_rd n a b = b + n - a) := by
  unfold q_rd
  by_cases h : a ≤ b
  · exact Or.inl ⟨h, if_pos h⟩
  · exact Or.inr ⟨Nat.lt_of_not_le h, if_neg h⟩
theorem q_ad_lt {n a d : Nat} (ha : a < n) (hd : d ≤ n) : q_ad n a d < n := by
  rcases q_ad_c n a d with ⟨h, e⟩ | ⟨h, e⟩ <;> omega
theorem q_rd_lt {n a b : Nat} (ha : a < n) (hb : b < n) : q_rd n a b < n := by
  rcases q_rd_c n a b with ⟨h, e⟩ | ⟨h, e⟩ <;> omega
theorem q_ad_rd {n a b : Nat} (ha : a < n) (hb : b < n) : q_ad n a (q_rd n a b) = b := by
  rcases q_rd_c n a b with ⟨h, e⟩ | ⟨h, e⟩ <;> rcases q_ad_c n a (q_rd n a b) with ⟨h2, e2⟩ | ⟨h2, e2⟩ <;> omega
theorem q_rd_ad {n a d : Nat} (ha : a < n) (hd : d < n) : q_rd n a (q_ad n a d) = d := by
  rcases q_ad_c n a d with ⟨h, e⟩ | ⟨h, e⟩ <;> rcases q_rd_c n a (q_ad n a d) with ⟨h2, e2⟩ | ⟨h2, e2⟩ <;> omega
theorem q_ad_ad {n a d e : Nat} (ha : a < n) (h : d + e ≤ n) : q_ad n (q_ad n a d) e = q_ad n a (d + e) := by
  rcases q_ad_c n a d with ⟨h1, e1⟩ | ⟨h1, e1⟩ <;> rcases q_ad_c n (q_ad n a d) e with ⟨h2, e2⟩ | ⟨h2, e2⟩ <;> rcases q_ad_c n a (d + e) with ⟨h3, e3⟩ | ⟨h3, e3⟩ <;> omega
theorem q_ad_0 {n a : Nat} (ha : a < n) : q_ad n a 0 = a := by
  rcases q_ad_c n a 0 with ⟨h, e⟩ | ⟨h, e⟩ <;> omega
theorem q_rd_0 {n a : Nat} : q_rd n a a = 0 := by
  rcases q_rd_c n a a with ⟨h, e⟩ | ⟨h, e⟩ <;> omega
/-- a slot at which looking for k stops -/
abbrev q_stp (M K : Nat → Int32) (k : Int32) (i : Nat) : Prop := M i = 0 ∨ (M i = 2 ∧ K i = k)
/-- how many slots looking goes on from i, at most f -/
def q_lkS (M K : Nat → Int32) (n : Nat) (k : Int32) : Nat → Nat → Nat
  | 0, _ => 0
  | f + 1, i => if q_stp M K k i then 0 else q_lkS M K n k f (q_ad n i 1) + 1
theorem q_lkS_z {M K : Nat → Int32} {n : Nat} {k : Int32} (f i : Nat) (h : q_stp M K k i) : q_lkS M K n k f i = 0 := by
  cases f with
  | zero => rfl
  | succ f => exact if_pos h
theorem q_lkS_s {M K : Nat → Int32} {n : Nat} {k : Int32} (f i : Nat) (h : ¬ q_stp M K k i) : q_lkS M K n k (f + 1) i = q_lkS M K n k f (q_ad n i 1) + 1 := if_neg h
theorem q_lkS_le {M K : Nat → Int32} {n : Nat} {k : Int32} : ∀ f i, q_lkS M K n k f i ≤ f := by
  intro f
  induction f with
  | zero => intro i; exact Nat.le_refl _
  | succ f ih =>
    intro i
    by_cases h : q_stp M K k i
    · rw [q_lkS_z _ _ h]; omega
    · rw [q_lkS_s _ _ h]
      have := ih (q_ad n i 1)
      omega
theorem q_lkS_pre {M K : Nat → Int32} {n : Nat} {k : Int32} : ∀ f i, i < n → f ≤ n → ∀ d, d < q_lkS M K n k f i → ¬ q_stp M K k (q_ad n i d) := by
  intro f
  induction f with
  | zero => intro i _ _ d hd; exact absurd hd (Nat.not_lt_zero _)
  | succ f ih =>
    intro i hi hf d hd
    by_cases h : q_stp M K k i
    · rw [q_lkS_z _ _ h] at hd; omega
    · rw [q_lkS_s _ _ h] at hd
      cases d with
      | zero => rw [q_ad_0 hi]; exact h
      | succ d =>
        have hle := q_lkS_le (M := M) (K := K) (n := n) (k := k) f (q_ad n i 1)
        have := ih (q_ad n i 1) (q_ad_lt hi (by omega)) (by omega) d (by omega)
        rw [q_ad_ad hi (by omega), Nat.add_comm 1 d] at this
        exact this
theorem q_lkS_stp {M K : Nat → Int32} {n : Nat} {k : Int32} : ∀ f i, i < n → f ≤ n → q_lkS M K n k f i < f → q_stp M K k (q_ad n i (q_lkS M K n k f i)) := by
  intro f
  induction f with
  | zero => intro i _ _ h; exact absurd h (Nat.not_lt_zero _)
  | succ f ih =>
    intro i hi hf hd
    by_cases h : q_stp M K k i
    · rw [q_lkS_z _ _ h, q_ad_0 hi]; exact h
    · rw [q_lkS_s _ _ h] at hd ⊢
      have hle := q_lkS_le (M := M) (K := K) (n := n) (k := k) f (q_ad n i 1)
      have := ih (q_ad n i 1) (q_ad_lt hi (by omega)) (by omega) (by omega)
      rw [q_ad_ad hi (by omega), Nat.add_comm 1 _] at this
      exact this
/-- where a slot within reach stops looking, it is stopped -/
theorem q_lkS_hit {M K : Nat → Int32} {n : Nat} {k : Int32} {f i d : Nat} (hi : i < n) (hf : f < n) (hd : d ≤ f) (h : q_stp M K k (q_ad n i d)) : q_lkS M K n k f i ≤ d ∧ q_stp M K k (q_ad n i (q_lkS M K n k f i)) := by
  have h1 : q_lkS M K n k f i ≤ d := Nat.le_of_not_lt fun z => q_lkS_pre f i hi (by omega) d z h
  refine ⟨h1, ?_⟩
  rcases Nat.lt_or_ge (q_lkS M K n k f i) f with z | z
  · exact q_lkS_stp f i hi (by omega) z
  · have : d = q_lkS M K n k f i := by omega
    rw [← this]; exact h
def q_hsh (k : Int32) : Int32 := (k * (-1640531535)) ^^^ ((k * (-1640531535)).toUInt32 >>> ((15 : Int32).toUInt32 &&& Int32.toUInt32 31)).toInt32
/-- the home of a key in a table of n slots -/
def q_hm (n : Nat) (k : Int32) : Nat := (q_hsh k).toBitVec.toNat % n
theorem q_hm_lt {n : Nat} (k : Int32) (h : 0 < n) : q_hm n k < n := Nat.mod_lt _ h
abbrev q_TB : Type := Nat × (Nat → Int32) × (Nat → Int32) × (Nat → Int32)
def q_lkD (t : q_TB) (k : Int32) : Nat := q_lkS t.2.1 t.2.2.1 t.1 k (t.1 - 1) (q_hm t.1 k)
def q_lkE (t : q_TB) (k : Int32) : Nat := q_ad t.1 (q_hm t.1 k) (q_lkD t k)
abbrev q_hit (t : q_TB) (k : Int32) : Prop := t.2.1 (q_lkE t k) = 2 ∧ t.2.2.1 (q_lkE t k) = k
/-- a key's slot is reached from its home without an empty one -/
def q_PB (t : q_TB) : Prop := ∀ j, j < t.1 → t.2.1 j = 2 → ∀ d, d < q_rd t.1 (q_hm t.1 (t.2.2.1 j)) j → t.2.1 (q_ad t.1 (q_hm t.1 (t.2.2.1 j)) d) ≠ 0
def q_UQ (t : q_TB) : Prop := ∀ i j, i < t.1 → j < t.1 → t.2.1 i = 2 → t.2.1 j = 2 → t.2.2.1 i = t.2.2.1 j → i = j
def q_EM (t : q_TB) : Prop := ∃ e, e < t.1 ∧ t.2.1 e = 0
def q_NT (t : q_TB) : Prop := ∀ i, i < t.1 → t.2.1 i = 0 ∨ t.2.1 i = 2
def q_DJ (A B : q_TB) : Prop := ∀ i j, i < A.1 → j < B.1 → A.2.1 i = 2 → B.2.1 j = 2 → A.2.2.1 i ≠ B.2.2.1 j
theorem q_lkD_lt {t : q_TB} (k : Int32) (h : 0 < t.1) : q_lkD t k < t.1 := by
  have := q_lkS_le (M := t.2.1) (K := t.2.2.1) (n := t.1) (k := k) (t.1 - 1) (q_hm t.1 k)
  unfold q_lkD
  omega
theorem q_lkE_lt {t : q_TB} (k : Int32) (h : 0 < t.1) : q_lkE t k < t.1 := q_ad_lt (q_hm_lt k h) (by have := q_lkD_lt k h; omega)
theorem q_lk_stp {t : q_TB} (k : Int32) (h : 0 < t.1) (he : q_EM t) : q_stp t.2.1 t.2.2.1 k (q_lkE t k) := by
  obtain ⟨e, h1, h2⟩ := he
  have hh := q_hm_lt k h
  have := q_rd_lt hh h1
  exact (q_lkS_hit (d := q_rd t.1 (q_hm t.1 k) e) hh (by omega) (by omega) (by rw [q_ad_rd hh h1]; exact Or.inl h2)).2
theorem q_lk_miss {t : q_TB} {k : Int32} (h : 0 < t.1) (he : q_EM t) (hm : ¬ q_hit t k) : t.2.1 (q_lkE t k) = 0 := (q_lk_stp k h he).elim id fun z => absurd z hm
theorem q_lk_all {t : q_TB} {k : Int32} (h : 0 < t.1) (hP : q_PB t) {j : Nat} (hj : j < t.1) (h2 : t.2.1 j = 2) (hk : t.2.2.1 j = k) : q_hit t k := by
  have hh := q_hm_lt k h
  have hr := q_rd_lt hh hj
  have hz := q_lkS_hit (M := t.2.1) (K := t.2.2.1) (k := k) (f := t.1 - 1) (d := q_rd t.1 (q_hm t.1 k) j) hh (by omega) (by omega) (by rw [q_ad_rd hh hj]; exact Or.inr ⟨h2, hk⟩)
  have hz1 : q_lkD t k ≤ q_rd t.1 (q_hm t.1 k) j := hz.1
  rcases hz.2 with z | z
  · rcases Nat.lt_or_ge (q_lkD t k) (q_rd t.1 (q_hm t.1 k) j) with y | y
    · exact absurd z (by have := hP j hj h2 (q_lkD t k) (by rw [hk]; exact y); rw [hk] at this; exact this)
    · have e : q_lkE t k = j := by
        unfold q_lkE
        rw [show q_lkD t k = q_rd t.1 (q_hm t.1 k) j by omega]
        exact q_ad_rd hh hj
      exact ⟨by rw [e]; exact h2, by rw [e]; exact hk⟩
  · exact z
/-- a key laid into a slot -/
abbrev q_fl (t : q_TB) (e : Nat) (k v : Int32) : q_TB := (t.1, upd t.2.1 e 2, upd t.2.2.1 e k, upd t.2.2.2 e v)
theorem q_up_ne {f : Nat → Int32} {a : Nat} {x : Int32} {j : Nat} (hx : x ≠ 0) (h : f j ≠ 0) : upd f a x j ≠ 0 := by
  by_cases e : j = a
  · subst e; rw [pk_us]; exact hx
  · rw [pk_un e]; exact h
theorem q_up_2 {f : Nat → Int32} {a : Nat} {x : Int32} {j : Nat} (hx : x ≠ 2) (h : upd f a x j = 2) : j ≠ a ∧ f j = 2 := by
  by_cases e : j = a
  · subst e; rw [pk_us] at h; exact absurd h hx
  · rw [pk_un e] at h; exact ⟨e, h⟩
def q_NK (M : Nat → Int32) : Nat → Nat
  | 0 => 0
  | n + 1 => q_NK M n + if M n = 2 then 1 else 0
theorem q_NK_le (M : Nat → Int32) : ∀ n, q_NK M n ≤ n := by
  intro n
  induction n with
  | zero => exact Nat.le_refl _
  | succ n ih => unfold q_NK; split <;> omega
theorem q_NK_out {M : Nat → Int32} {a : Nat} {x : Int32} : ∀ n, n ≤ a → q_NK (upd M a x) n = q_NK M n := by
  intro n
  induction n with
  | zero => intro _; rfl
  | succ n ih => intro h; unfold q_NK; rw [ih (by omega), pk_un (by omega)]
theorem q_NK_up {M : Nat → Int32} {a : Nat} (h2 : M a ≠ 2) : ∀ n, a < n → q_NK (upd M a 2) n = q_NK M n + 1 := by
  intro n
  induction n with
  | zero => intro h; omega
  | succ n ih =>
    intro h
    unfold q_NK
    rcases Nat.lt_or_ge a n with z | z
    · rw [ih z, pk_un (by omega)]; omega
    · have e : a = n := by omega
      subst e
      rw [q_NK_out _ (Nat.le_refl _), pk_us, if_pos rfl, if_neg h2]
theorem q_NK_dn {M : Nat → Int32} {a : Nat} {x : Int32} (hx : x ≠ 2) (h2 : M a = 2) : ∀ n, a < n → q_NK M n = q_NK (upd M a x) n + 1 := by
  intro n
  induction n with
  | zero => intro h; omega
  | succ n ih =>
    intro h
    unfold q_NK
    rcases Nat.lt_or_ge a n with z | z
    · rw [ih z, pk_un (by omega)]; omega
    · have e : a = n := by omega
      subst e
      rw [q_NK_out _ (Nat.le_refl _), pk_us, if_pos h2, if_neg hx]
theorem q_NK_0 {M : Nat → Int32} : ∀ n, (∀ i, i < n → M i ≠ 2) → q_NK M n = 0 := by
  intro n
  induction n with
  | zero => intro _; rfl
  | succ n ih => intro h; unfold q_NK; rw [ih (fun i hi => h i (by omega)), if_neg (h n (by omega))]
theorem q_NK_full {M : Nat → Int32} : ∀ n, (∀ i, i < n → M i = 2) → q_NK M n = n := by
  intro n
  induction n with
  | zero => intro _; rfl
  | succ n ih => intro h; unfold q_NK; rw [ih (fun i hi => h i (by omega)), if_pos (h n (by omega))]
theorem q_NK_pos {M : Nat → Int32} {j : Nat} (h2 : M j = 2) : ∀ n, j < n → 0 < q_NK M n := by
  intro n h
  have := q_NK_dn (x := 0) (by decide) h2 n h
  omega
theorem q_EM_of {t : q_TB} (hN : q_NT t) (h : q_NK t.2.1 t.1 < t.1) : q_EM t := by
  by_cases z : ∃ e, e < t.1 ∧ t.2.1 e = 0
  · exact z
  · have := q_NK_full (M := t.2.1) t.1 (fun i hi => (hN i hi).elim (fun y => absurd ⟨i, hi, y⟩ z) id)
    omega
theorem q_fl_NT {t : q_TB} {e : Nat} {k v : Int32} (h : q_NT t) : q_NT (q_fl t e k v) := by
  intro i hi
  show upd t.2.1 e 2 i = 0 ∨ upd t.2.1 e 2 i = 2
  by_cases z : i = e
  · subst z; exact Or.inr pk_us
  · rw [pk_un z]; exact h i hi
theorem q_fl_PB {t : q_TB} {k v : Int32} (h0 : 0 < t.1) (h : q_PB t) : q_PB (q_fl t (q_lkE t k) k v) := by
  intro j hj h2 d hd
  refine q_up_ne (by decide) ?_
  by_cases z : j = q_lkE t k
  · subst z
    have e1 : (q_fl t (q_lkE t k) k v).2.2.1 (q_lkE t k) = k := pk_us
    rw [e1] at hd ⊢
    have hh := q_hm_lt k h0
    have e2 : q_rd t.1 (q_hm t.1 k) (q_lkE t k) = q_lkD t k := q_rd_ad hh (q_lkD_lt k h0)
    have hd : d < q_lkD t k := by rw [← e2]; exact hd
    intro y
    exact q_lkS_pre (M := t.2.1) (K := t.2.2.1) (k := k) (t.1 - 1) (q_hm t.1 k) hh (by omega) d hd (Or.inl y)
  · have e1 : (q_fl t (q_lkE t k) k v).2.2.1 j = t.2.2.1 j := pk_un z
    have h2' : t.2.1 j = 2 := by rw [← h2]; exact (pk_un z).symm
    rw [e1] at hd ⊢
    exact h j hj h2' d hd
theorem q_fl_UQ {t : q_TB} {e : Nat} {k v : Int32} (h : q_UQ t) (hn : ∀ j, j < t.1 → t.2.1 j = 2 → t.2.2.1 j ≠ k) : q_UQ (q_fl t e k v) := by
  intro i j hi hj hi2 hj2 hk
  by_cases zi : i = e <;> by_cases zj : j = e
  · rw [zi, zj]
  · subst zi
    have a1 : (q_fl t i k v).2.2.1 i = k := pk_us
    have a2 : (q_fl t i k v).2.2.1 j = t.2.2.1 j := pk_un zj
    have a3 : t.2.1 j = 2 := by rw [← hj2]; exact (pk_un zj).symm
    exact absurd (by rw [← a2, ← hk, a1]) (hn j hj a3)
  · subst zj
    have a1 : (q_fl t j k v).2.2.1 j = k := pk_us
    have a2 : (q_fl t j k v).2.2.1 i = t.2.2.1 i := pk_un zi
    have a3 : t.2.1 i = 2 := by rw [← hi2]; exact (pk_un zi).symm
    exact absurd (by rw [← a2, hk, a1]) (hn i hi a3)
  · have a1 : (q_fl t e k v).2.2.1 i = t.2.2.1 i := pk_un zi
    have a2 : (q_fl t e k v).2.2.1 j = t.2.2.1 j := pk_un zj
    have a3 : t.2.1 i = 2 := by rw [← hi2]; exact (pk_un zi).symm
    have a4 : t.2.1 j = 2 := by rw [← hj2]; exact (pk_un zj).symm
    exact h i j hi hj a3 a4 (by rw [← a1, ← a2]; exact hk)
/-- a key's slot taken -/
abbrev q_tk (t : q_TB) (c : Nat) : q_TB := (t.1, upd t.2.1 c 1, t.2.2.1, t.2.2.2)
theorem q_tk_PB {t : q_TB} {c : Nat} (h : q_PB t) : q_PB (q_tk t c) := fun j hj h2 d hd => q_up_ne (by decide) (h j hj (q_up_2 (by decide) h2).2 d hd)
theorem q_tk_UQ {t : q_TB} {c : Nat} (h : q_UQ t) : q_UQ (q_tk t c) := fun i j hi hj hi2 hj2 hk => h i j hi hj (q_up_2 (by decide) hi2).2 (q_up_2 (by decide) hj2).2 hk
theorem q_tk_EM {t : q_TB} {c : Nat} (h : q_EM t) (h2 : t.2.1 c = 2) : q_EM (q_tk t c) := by
  obtain ⟨e, h1, h3⟩ := h
  refine ⟨e, h1, ?_⟩
  show upd t.2.1 c 1 e = 0
  rw [pk_un (fun z => by rw [z, h2] at h3; exact absurd h3 (by decide))]
  exact h3
end
section
/-! PURE: a slot freed, and the gap closed behind it -/
abbrev q_sh (t : q_TB) (i fr : Nat) : q_TB := (t.1, upd (upd t.2.1 fr 2) i 0, upd t.2.2.1 fr (t.2.2.1 i), upd t.2.2.2 fr (t.2.2.2 i))
abbrev q_rb (t : q_TB) (i fr : Nat) : Prop := q_rd t.1 fr i ≤ q_rd t.1 (q_hm t.1 (t.2.2.1 i)) i
def q_fz : Nat → q_TB → Nat → Nat → q_TB × Nat
  | 0, t, _, _ => (t, 0)
  | f + 1, t, fr, i => if t.2.1 i = 0 then (t, 0) else if q_rb t i fr then ((q_fz f (q_sh t i fr) i (q_ad t.1 i 1)).1, (q_fz f (q_sh t i fr) i (q_ad t.1 i 1)).2 + 1) else ((q_fz f t fr (q_ad t.1 i 1)).1, (q_fz f t fr (q_ad t.1 i 1)).2 + 1)
theorem q_fz_0 {f : Nat} {t : q_TB} {fr i : Nat} (h : t.2.1 i = 0) : q_fz f t fr i = (t, 0) := by
  cases f with
  | zero => rfl
  | succ f => exact if_pos h
theorem q_fz_1 {f : Nat} {t : q_TB} {fr i : Nat} (h : ¬ t.2.1 i = 0) (hb : q_rb t i fr) : q_fz (f + 1) t fr i = ((q_fz f (q_sh t i fr) i (q_ad t.1 i 1)).1, (q_fz f (q_sh t i fr) i (q_ad t.1 i 1)).2 + 1) := by
  rw [show q_fz (f + 1) t fr i = if t.2.1 i = 0 then (t, 0) else if q_rb t i fr then ((q_fz f (q_sh t i fr) i (q_ad t.1 i 1)).1, (q_fz f (q_sh t i fr) i (q_ad t.1 i 1)).2 + 1) else ((q_fz f t fr (q_ad t.1 i 1)).1, (q_fz f t fr (q_ad t.1 i 1)).2 + 1) from rfl, if_neg h, if_pos hb]
theorem q_fz_2 {f : Nat} {t : q_TB} {fr i : Nat} (h : ¬ t.2.1 i = 0) (hb : ¬ q_rb t i fr) : q_fz (f + 1) t fr i = ((q_fz f t fr (q_ad t.1 i 1)).1, (q_fz f t fr (q_ad t.1 i 1)).2 + 1) := by
  rw [show q_fz (f + 1) t fr i = if t.2.1 i = 0 then (t, 0) else if q_rb t i fr then ((q_fz f (q_sh t i fr) i (q_ad t.1 i 1)).1, (q_fz f (q_sh t i fr) i (q_ad t.1 i 1)).2 + 1) else ((q_fz f t fr (q_ad t.1 i 1)).1, (q_fz f t fr (q_ad t.1 i 1)).2 + 1) from rfl, if_neg h, if_neg hb]
theorem q_rd_split {n h d j : Nat} (hh : h < n) (hj : j < n) (hd : d ≤ q_rd n h j) : q_rd n (q_ad n h d) j = q_rd n h j - d := by
  rcases q_rd_c n h j with ⟨h1, e1⟩ | ⟨h1, e1⟩ <;> rcases q_ad_c n h d with ⟨h2, e2⟩ | ⟨h2, e2⟩ <;> rcases q_rd_c n (q_ad n h d) j with ⟨h3, e3⟩ | ⟨h3, e3⟩ <;> omega
/-- fr lies on the way from h to i -/
theorem q_rd_way {n h fr i : Nat} (hh : h < n) (hf : fr < n) (hi : i < n) (hw : q_rd n fr i ≤ q_rd n h i) : q_rd n h fr + q_rd n fr i = q_rd n h i := by
  rcases q_rd_c n h fr with ⟨h1, e1⟩ | ⟨h1, e1⟩ <;> rcases q_rd_c n fr i with ⟨h2, e2⟩ | ⟨h2, e2⟩ <;> rcases q_rd_c n h i with ⟨h3, e3⟩ | ⟨h3, e3⟩ <;> omega
theorem q_rd_inj {n a b c : Nat} (ha : a < n) (hb : b < n) (hc : c < n) (h : q_rd n a b = q_rd n a c) : b = c := by
  rcases q_rd_c n a b with ⟨h1, e1⟩ | ⟨h1, e1⟩ <;> rcases q_rd_c n a c with ⟨h2, e2⟩ | ⟨h2, e2⟩ <;> omega
theorem q_rd_pos {n a b : Nat} (ha : a < n) (hb : b < n) (h : a ≠ b) : 0 < q_rd n a b := by
  rcases q_rd_c n a b with ⟨h1, e1⟩ | ⟨h1, e1⟩ <;> omega
/-- while the gap is being closed: the gap fr, the slot i that is looked at -/
def q_FI (t : q_TB) (fr i d : Nat) : Prop := fr < t.1 ∧ i < t.1 ∧ fr ≠ i ∧ t.2.1 fr = 0 ∧ q_NT t ∧ q_UQ t ∧ q_rd t.1 fr i + d < t.1 ∧ t.2.1 (q_ad t.1 i d) = 0 ∧
  ∀ j, j < t.1 → t.2.1 j = 2 → ∀ d, d < q_rd t.1 (q_hm t.1 (t.2.2.1 j)) j → t.2.1 (q_ad t.1 (q_hm t.1 (t.2.2.1 j)) d) = 0 → q_ad t.1 (q_hm t.1 (t.2.2.1 j)) d = fr ∧ q_rd t.1 fr i ≤ q_rd t.1 fr j
theorem q_FI_end {t : q_TB} {fr i d : Nat} (h : q_FI t fr i d) (h0 : t.2.1 i = 0) : q_PB t := by
  obtain ⟨hf, hi, hne, hf0, hN, hU, hd, hd0, hp⟩ := h
  intro j hj h2 e he hz
  obtain ⟨e1, e2⟩ := hp j hj h2 e he hz
  have hh : q_hm t.1 (t.2.2.1 j) < t.1 := q_hm_lt _ (by omega)
  have hij : i ≠ j := fun z => by rw [z, h2] at h0; exact absurd h0 (by decide)
  have hlt : q_rd t.1 fr i < q_rd t.1 fr j := Nat.lt_of_le_of_ne e2 fun z => hij (q_rd_inj hf hi hj z)
  have hs : q_rd t.1 fr j = q_rd t.1 (q_hm t.1 (t.2.2.1 j)) j - e := by rw [← e1]; exact q_rd_split hh hj (by omega)
  have hr := q_rd_lt hh hj
  have e3 : q_ad t.1 (q_hm t.1 (t.2.2.1 j)) (e + q_rd t.1 fr i) = i := by
    rw [← q_ad_ad hh (by omega), e1]; exact q_ad_rd hf hi
  have := hp j hj h2 (e + q_rd t.1 fr i) (by omega) (by rw [e3]; exact h0)
  rw [e3] at this
  exact hne this.1.symm
theorem q_FI_d {t : q_TB} {fr i d : Nat} (h : q_FI t fr i d) (h0 : ¬ t.2.1 i = 0) : 0 < d := by
  obtain ⟨hf, hi, hne, hf0, hN, hU, hd, hd0, hp⟩ := h
  cases d with
  | zero => rw [q_ad_0 hi] at hd0; exact absurd hd0 h0
  | succ d => omega
theorem q_FI_1 {t : q_TB} {fr i d : Nat} (h : q_FI t fr i (d + 1)) (h0 : ¬ t.2.1 i = 0) (hb : q_rb t i fr) : q_FI (q_sh t i fr) i (q_ad t.1 i 1) d := by
  obtain ⟨hf, hi, hne, hf0, hN, hU, hd, hd0, hp⟩ := h
  have hi2 : t.2.1 i = 2 := (hN i hi).elim (fun z => absurd z h0) id
  have hpos := q_rd_pos hf hi hne
  have hM : ∀ j, j ≠ i → j ≠ fr → upd (upd t.2.1 fr 2) i 0 j = t.2.1 j := fun j a b => by rw [pk_un a, pk_un b]
  have hMi : upd (upd t.2.1 fr 2) i 0 i = 0 := pk_us
  have hMf : upd (upd t.2.1 fr 2) i 0 fr = 2 := by rw [pk_un hne, pk_us]
  have hKf : upd t.2.2.1 fr (t.2.2.1 i) fr = t.2.2.1 i := pk_us
  have hK : ∀ j, j ≠ fr → upd t.2.2.1 fr (t.2.2.1 i) j = t.2.2.1 j := fun j a => pk_un a
  have hr1 : q_rd t.1 i (q_ad t.1 i 1) = 1 := q_rd_ad hi (by omega)
  have hp1 : q_ad t.1 (q_ad t.1 i 1) d = q_ad t.1 i (d + 1) := by rw [q_ad_ad hi (by omega), Nat.add_comm 1 d]
  have hpi : q_ad t.1 i (d + 1) ≠ i := fun z => by have := q_rd_ad (d := d + 1) hi (by omega); rw [z, q_rd_0] at this; omega
  have hpf : q_ad t.1 i (d + 1) ≠ fr := fun z => by
    have a : q_ad t.1 fr (q_rd t.1 fr i + (d + 1)) = fr := by rw [← q_ad_ad hf (by omega), q_ad_rd hf hi]; exact z
    have b := q_rd_ad (d := q_rd t.1 fr i + (d + 1)) hf (by omega)
    rw [a, q_rd_0] at b
    omega
  refine ⟨hi, q_ad_lt hi (by show 1 ≤ t.1; omega), ?_, hMi, ?_, ?_, ?_, ?_, ?_⟩
  · intro z
    show False
    rw [show q_ad t.1 i 1 = i from z.symm, q_rd_0] at hr1
    omega
  · intro j hj
    show upd (upd t.2.1 fr 2) i 0 j = 0 ∨ upd (upd t.2.1 fr 2) i 0 j = 2
    by_cases a : j = i
    · subst a; exact Or.inl hMi
    · by_cases b : j = fr
      · subst b; exact Or.inr hMf
      · rw [hM j a b]; exact hN j hj
  · intro a b ha hb2 ha2 hb3 hk
    have ha2 : upd (upd t.2.1 fr 2) i 0 a = 2 := ha2
    have hb3 : upd (upd t.2.1 fr 2) i 0 b = 2 := hb3
    have hk : upd t.2.2.1 fr (t.2.2.1 i) a = upd t.2.2.1 fr (t.2.2.1 i) b := hk
    have ai : a ≠ i := fun z => by rw [z, hMi] at ha2; exact absurd ha2 (by decide)
    have bi : b ≠ i := fun z => by rw [z, hMi] at hb3; exact absurd hb3 (by decide)
    by_cases za : a = fr <;> by_cases zb : b = fr
    · rw [za, zb]
    · subst za
      rw [hKf, hK b zb] at hk
      rw [hM b bi zb] at hb3
      exact absurd (hU i b hi hb2 hi2 hb3 hk) (fun z => bi z.symm)
    · subst zb
      rw [hKf, hK a za] at hk
      rw [hM a ai za] at ha2
      exact absurd (hU a i ha hi ha2 hi2 hk) ai
    · rw [hK a za, hK b zb] at hk
      rw [hM a ai za] at ha2
      rw [hM b bi zb] at hb3
      exact hU a b ha hb2 ha2 hb3 hk
  · show q_rd t.1 i (q_ad t.1 i 1) + d < t.1
    rw [hr1]; omega
  · show upd (upd t.2.1 fr 2) i 0 (q_ad t.1 (q_ad t.1 i 1) d) = 0
    rw [hp1, hM _ hpi hpf]; exact hd0
  · intro j hj h2 e he hz
    have hj : j < t.1 := hj
    have h2 : upd (upd t.2.1 fr 2) i 0 j = 2 := h2
    have he : e < q_rd t.1 (q_hm t.1 (upd t.2.2.1 fr (t.2.2.1 i) j)) j := he
    have hz : upd (upd t.2.1 fr 2) i 0 (q_ad t.1 (q_hm t.1 (upd t.2.2.1 fr (t.2.2.1 i) j)) e) = 0 := hz
    show q_ad t.1 (q_hm t.1 (upd t.2.2.1 fr (t.2.2.1 i) j)) e = i ∧ q_rd t.1 i (q_ad t.1 i 1) ≤ q_rd t.1 i j
    have ji : j ≠ i := fun z => by rw [z, hMi] at h2; exact absurd h2 (by decide)
    have hle : q_rd t.1 i (q_ad t.1 i 1) ≤ q_rd t.1 i j := by rw [hr1]; exact q_rd_pos hi hj (fun z => ji z.symm)
    refine ⟨?_, hle⟩
    by_cases pi : q_ad t.1 (q_hm t.1 (upd t.2.2.1 fr (t.2.2.1 i) j)) e = i
    · exact pi
    · have pf : q_ad t.1 (q_hm t.1 (upd t.2.2.1 fr (t.2.2.1 i) j)) e ≠ fr := fun z => by rw [z, hMf] at hz; exact absurd hz (by decide)
      rw [hM _ pi pf] at hz
      by_cases jf : j = fr
      · subst jf
        rw [hKf] at he hz pf
        have hh : q_hm t.1 (t.2.2.1 i) < t.1 := q_hm_lt _ (by omega)
        have hw := q_rd_way hh hf hi hb
        have := hp i hi hi2 e (by omega) hz
        exact absurd this.1 pf
      · rw [hK j jf] at he hz pf
        rw [hM j ji jf] at h2
        exact absurd (hp j hj h2 e he hz).1 pf
theorem q_FI_2 {t : q_TB} {fr i d : Nat} (h : q_FI t fr i (d + 1)) (h0 : ¬ t.2.1 i = 0) (hb : ¬ q_rb t i fr) : q_FI t fr (q_ad t.1 i 1) d := by
  obtain ⟨hf, hi, hne, hf0, hN, hU, hd, hd0, hp⟩ := h
  have hi2 : t.2.1 i = 2 := (hN i hi).elim (fun z => absurd z h0) id
  have e1 : q_ad t.1 i 1 = q_ad t.1 fr (q_rd t.1 fr i + 1) := by rw [← q_ad_ad hf (by omega), q_ad_rd hf hi]
  have e2 : q_rd t.1 fr (q_ad t.1 i 1) = q_rd t.1 fr i + 1 := by rw [e1]; exact q_rd_ad hf (by omega)
  refine ⟨hf, q_ad_lt hi (by omega), fun z => ?_, hf0, hN, hU, by rw [e2]; omega, ?_, ?_⟩
  · rw [← z, q_rd_0] at e2; omega
  · rw [q_ad_ad hi (by omega), Nat.add_comm 1 d]; exact hd0
  · intro j hj h2 e he hz
    obtain ⟨a1, a2⟩ := hp j hj h2 e he hz
    refine ⟨a1, ?_⟩
    rw [e2]
    rcases Nat.lt_or_ge (q_rd t.1 fr i) (q_rd t.1 fr j) with y | y
    · exact y
    · have ji : j = i := q_rd_inj hf hj hi (by omega)
      subst ji
      have hh : q_hm t.1 (t.2.2.1 j) < t.1 := q_hm_lt _ (by omega)
      have hs : q_rd t.1 fr j = q_rd t.1 (q_hm t.1 (t.2.2.1 j)) j - e := by rw [← a1]; exact q_rd_split hh hj (by omega)
      exact absurd (show q_rb t j fr by show q_rd t.1 fr j ≤ _; omega) hb
/-- what comes out of it -/
theorem q_fz_ok : ∀ (d f : Nat) (t : q_TB) (fr i : Nat), d < f → q_FI t fr i d → (q_fz f t fr i).1.1 = t.1 ∧ q_NT (q_fz f t fr i).1 ∧ q_PB (q_fz f t fr i).1 ∧ q_UQ (q_fz f t fr i).1 ∧ q_NK (q_fz f t fr i).1.2.1 t.1 = q_NK t.2.1 t.1 ∧ ∀ a, a < t.1 → (q_fz f t fr i).1.2.1 a = 2 → ∃ b, b < t.1 ∧ t.2.1 b = 2 ∧ (q_fz f t fr i).1.2.2.1 a = t.2.2.1 b := by
  intro d
  induction d with
  | zero =>
    intro f t fr i hf h
    have h0 : t.2.1 i = 0 := Classical.byContradiction fun z => absurd (q_FI_d h z) (Nat.lt_irrefl 0)
    rw [q_fz_0 h0]
    exact ⟨rfl, h.2.2.2.2.1, q_FI_end h h0, h.2.2.2.2.2.1, rfl, fun a ha h2 => ⟨a, ha, h2, rfl⟩⟩
  | succ d ih =>
    intro f t fr i hf h
    by_cases h0 : t.2.1 i = 0
    · rw [q_fz_0 h0]
      exact ⟨rfl, h.2.2.2.2.1, q_FI_end h h0, h.2.2.2.2.2.1, rfl, fun a ha h2 => ⟨a, ha, h2, rfl⟩⟩
    · obtain ⟨f, rfl⟩ : ∃ g, f = g + 1 := ⟨f - 1, by omega⟩
      by_cases hb : q_rb t i fr
      · rw [q_fz_1 h0 hb]
        obtain ⟨a1, a2, a3, a4, a5, a6⟩ := ih f (q_sh t i fr) i (q_ad t.1 i 1) (by omega) (q_FI_1 h h0 hb)
        refine ⟨a1, a2, a3, a4, ?_, ?_⟩
        · refine a5.trans ?_
          show q_NK (upd (upd t.2.1 fr 2) i 0) t.1 = q_NK t.2.1 t.1
          have hi2 : t.2.1 i = 2 := (h.2.2.2.2.1 i h.2.1).elim (fun z => absurd z h0) id
          have b1 := q_NK_up (M := t.2.1) (a := fr) (by rw [h.2.2.2.1]; decide) t.1 h.1
          have b2 := q_NK_dn (M := upd t.2.1 fr 2) (a := i) (x := 0) (by decide) (by rw [pk_un (fun z => h.2.2.1 z.symm)]; exact hi2) t.1 h.2.1
          omega
        · intro a ha h2
          obtain ⟨b, b1, b2, b3⟩ := a6 a ha h2
          have b2 : upd (upd t.2.1 fr 2) i 0 b = 2 := b2
          have b3 : (q_fz f (q_sh t i fr) i (q_ad t.1 i 1)).1.2.2.1 a = upd t.2.2.1 fr (t.2.2.1 i) b := b3
          have bi := q_up_2 (by decide) b2
          by_cases z : b = fr
          · subst z
            rw [pk_us] at b3
            exact ⟨i, h.2.1, (h.2.2.2.2.1 i h.2.1).elim (fun z => absurd z h0) id, b3⟩
          · rw [pk_un z] at b3
            exact ⟨b, b1, by rw [← bi.2, pk_un z], b3⟩
      · rw [q_fz_2 h0 hb]
        exact ih f t fr (q_ad t.1 i 1) (by omega) (q_FI_2 h h0 hb)
/-- the table with slot e freed, and how many slots it takes behind the first -/
def q_fr (t : q_TB) (e : Nat) : q_TB × Nat := q_fz (t.1 - 1) (t.1, upd t.2.1 e 0, t.2.2.1, t.2.2.2) e (q_ad t.1 e 1)
theorem q_fr_FI {t : q_TB} {e : Nat} (hN : q_NT t) (hP : q_PB t) (hU : q_UQ t) (hE : q_EM t) (he : e < t.1) (h2 : t.2.1 e = 2) : ∃ d, d < t.1 - 1 ∧ q_FI (t.1, upd t.2.1 e 0, t.2.2.1, t.2.2.2) e (q_ad t.1 e 1) d := by
  obtain ⟨z, hz, hz0⟩ := hE
  have hez : e ≠ z := fun y => by rw [← y, h2] at hz0; exact absurd hz0 (by decide)
  have hp := q_rd_pos he hz hez
  have hl := q_rd_lt he hz
  have hr1 : q_rd t.1 e (q_ad t.1 e 1) = 1 := q_rd_ad he (by omega)
  refine ⟨q_rd t.1 e z - 1, by omega, he, q_ad_lt he (by show 1 ≤ t.1; omega), fun y => ?_, pk_us, ?_, ?_, ?_, ?_, ?_⟩
  · show False
    rw [show q_ad t.1 e 1 = e from y.symm, q_rd_0] at hr1
    omega
  · intro j hj
    show upd t.2.1 e 0 j = 0 ∨ upd t.2.1 e 0 j = 2
    by_cases y : j = e
    · subst y; exact Or.inl pk_us
    · rw [pk_un y]; exact hN j hj
  · exact fun a b ha hb ha2 hb2 hk => hU a b ha hb (q_up_2 (by decide) ha2).2 (q_up_2 (by decide) hb2).2 hk
  · show q_rd t.1 e (q_ad t.1 e 1) + (q_rd t.1 e z - 1) < t.1
    rw [hr1]; omega
  · show upd t.2.1 e 0 (q_ad t.1 (q_ad t.1 e 1) (q_rd t.1 e z - 1)) = 0
    rw [q_ad_ad he (by omega), show 1 + (q_rd t.1 e z - 1) = q_rd t.1 e z by omega, q_ad_rd he hz, pk_un (fun y => hez y.symm)]
    exact hz0
  · intro j hj hj2 d hd hd0
    have hj : j < t.1 := hj
    obtain ⟨je, hj2⟩ := q_up_2 (by decide) (show upd t.2.1 e 0 j = 2 from hj2)
    have hd : d < q_rd t.1 (q_hm t.1 (t.2.2.1 j)) j := hd
    have hd0 : upd t.2.1 e 0 (q_ad t.1 (q_hm t.1 (t.2.2.1 j)) d) = 0 := hd0
    show q_ad t.1 (q_hm t.1 (t.2.2.1 j)) d = e ∧ q_rd t.1 e (q_ad t.1 e 1) ≤ q_rd t.1 e j
    refine ⟨Classical.byContradiction fun y => ?_, by rw [hr1]; exact q_rd_pos he hj (fun y => je y.symm)⟩
    rw [pk_un y] at hd0
    exact hP j hj hj2 d hd hd0
theorem q_fr_ok {t : q_TB} {e : Nat} (hN : q_NT t) (hP : q_PB t) (hU : q_UQ t) (hE : q_EM t) (he : e < t.1) (h2 : t.2.1 e = 2) : (q_fr t e).1.1 = t.1 ∧ q_NT (q_fr t e).1 ∧ q_PB (q_fr t e).1 ∧ q_UQ (q_fr t e).1 ∧ q_NK t.2.1 t.1 = q_NK (q_fr t e).1.2.1 t.1 + 1 ∧ ∀ a, a < t.1 → (q_fr t e).1.2.1 a = 2 → ∃ b, b < t.1 ∧ t.2.1 b = 2 ∧ (q_fr t e).1.2.2.1 a = t.2.2.1 b := by
  obtain ⟨d, hd, hF⟩ := q_fr_FI hN hP hU hE he h2
  obtain ⟨a1, a2, a3, a4, a5, a6⟩ := q_fz_ok d (t.1 - 1) _ e (q_ad t.1 e 1) hd hF
  have a5 : q_NK (q_fr t e).1.2.1 t.1 = q_NK (upd t.2.1 e 0) t.1 := a5
  refine ⟨a1, a2, a3, a4, ?_, fun a ha h3 => ?_⟩
  · rw [a5]; exact q_NK_dn (by decide) h2 t.1 he
  · obtain ⟨b, b1, b2, b3⟩ := a6 a ha h3
    exact ⟨b, b1, (q_up_2 (by decide) b2).2, b3⟩
end
section
/-! PURE: the four slots of a call, the start of a migration, the whole state and what holds of it. State: (new table, old table, cursor, how many keys, work) -/
/-- one slot of the old table moved: new table, old table, slots visited -/
def q_mv (A B : q_TB) (c : Nat) : q_TB × q_TB × Nat := if B.2.1 c = 2 then (q_fl A (q_lkE A (B.2.2.1 c)) (B.2.2.1 c) (B.2.2.2 c), q_tk B c, q_lkD A (B.2.2.1 c) + 2) else (A, B, 1)
theorem q_mv_1 {A B : q_TB} {c : Nat} (h : B.2.1 c = 2) : q_mv A B c = (q_fl A (q_lkE A (B.2.2.1 c)) (B.2.2.1 c) (B.2.2.2 c), q_tk B c, q_lkD A (B.2.2.1 c) + 2) := if_pos h
theorem q_mv_0 {A B : q_TB} {c : Nat} (h : ¬ B.2.1 c = 2) : q_mv A B c = (A, B, 1) := if_neg h
def q_mvs : Nat → q_TB → q_TB → Nat → q_TB × q_TB × Nat
  | 0, A, B, _ => (A, B, 0)
  | j + 1, A, B, c => ((q_mvs j (q_mv A B c).1 (q_mv A B c).2.1 (c + 1)).1, (q_mvs j (q_mv A B c).1 (q_mv A B c).2.1 (c + 1)).2.1, (q_mv A B c).2.2 + (q_mvs j (q_mv A B c).1 (q_mv A B c).2.1 (c + 1)).2.2)
def q_MI (A B : q_TB) (c : Nat) : Prop := 0 < A.1 ∧ q_NT A ∧ q_PB A ∧ q_UQ A ∧ q_PB B ∧ q_UQ B ∧ q_DJ A B ∧ q_EM B ∧ q_NK A.2.1 A.1 + q_NK B.2.1 B.1 < A.1 ∧ ∀ i, i < c → i < B.1 → B.2.1 i ≠ 2
theorem q_MI_EM {A B : q_TB} {c : Nat} (h : q_MI A B c) : q_EM A := q_EM_of h.2.1 (by have := h.2.2.2.2.2.2.2.2.1; omega)
theorem q_MI_miss {A B : q_TB} {c j : Nat} (h : q_MI A B c) (hj : j < B.1) (h2 : B.2.1 j = 2) : ¬ q_hit A (B.2.2.1 j) := fun z => h.2.2.2.2.2.2.1 _ j (q_lkE_lt _ h.1) hj z.1 h2 z.2
theorem q_mv_ok {A B : q_TB} {c : Nat} (h : q_MI A B c) (hc : c < B.1) : (q_mv A B c).1.1 = A.1 ∧ (q_mv A B c).2.1.1 = B.1 ∧ q_MI (q_mv A B c).1 (q_mv A B c).2.1 (c + 1) ∧ q_NK (q_mv A B c).1.2.1 A.1 + q_NK (q_mv A B c).2.1.2.1 B.1 = q_NK A.2.1 A.1 + q_NK B.2.1 B.1 := by
  by_cases h2 : B.2.1 c = 2
  · rw [q_mv_1 h2]
    have hmiss := q_MI_miss h hc h2
    have hE := q_MI_EM h
    obtain ⟨h0, hN, hP, hU, hPB, hUB, hD, hEB, hK, hb⟩ := h
    have he := q_lkE_lt (t := A) (B.2.2.1 c) h0
    have hz := q_lk_miss h0 hE hmiss
    have n1 : q_NK (upd A.2.1 (q_lkE A (B.2.2.1 c)) 2) A.1 = q_NK A.2.1 A.1 + 1 := q_NK_up (by rw [hz]; decide) A.1 he
    have n2 : q_NK B.2.1 B.1 = q_NK (upd B.2.1 c 1) B.1 + 1 := q_NK_dn (by decide) h2 B.1 hc
    refine ⟨rfl, rfl, ⟨h0, q_fl_NT hN, q_fl_PB h0 hP, q_fl_UQ hU (fun j hj hj2 hk => hD j c hj hc hj2 h2 hk), q_tk_PB hPB, q_tk_UQ hUB, ?_, q_tk_EM hEB h2, ?_, ?_⟩, ?_⟩
    · intro i j hi hj hi2 hj2
      obtain ⟨jc, hj2⟩ := q_up_2 (by decide) (show upd B.2.1 c 1 j = 2 from hj2)
      show upd A.2.2.1 (q_lkE A (B.2.2.1 c)) (B.2.2.1 c) i ≠ B.2.2.1 j
      by_cases z : i = q_lkE A (B.2.2.1 c)
      · rw [z, pk_us]
        exact fun y => jc (hUB c j hc hj h2 hj2 y).symm
      · rw [pk_un z]
        exact hD i j hi hj (by rw [← hi2]; exact (pk_un z).symm) hj2
    · show q_NK (upd A.2.1 (q_lkE A (B.2.2.1 c)) 2) A.1 + q_NK (upd B.2.1 c 1) B.1 < A.1
      omega
    · intro i hi hiB
      show upd B.2.1 c 1 i ≠ 2
      by_cases z : i = c
      · subst z; rw [pk_us]; decide
      · rw [pk_un z]; exact hb i (by omega) hiB
    · show q_NK (upd A.2.1 (q_lkE A (B.2.2.1 c)) 2) A.1 + q_NK (upd B.2.1 c 1) B.1 = _
      omega
  · rw [q_mv_0 h2]
    obtain ⟨h0, hN, hP, hU, hPB, hUB, hD, hEB, hK, hb⟩ := h
    refine ⟨rfl, rfl, ⟨h0, hN, hP, hU, hPB, hUB, hD, hEB, hK, fun i hi hiB => ?_⟩, rfl⟩
    rcases Nat.lt_or_ge i c with z | z
    · exact hb i z hiB
    · have : i = c := by omega
      subst this; exact h2
theorem q_mvs_ok : ∀ (j : Nat) (A B : q_TB) (c : Nat), q_MI A B c → c + j ≤ B.1 → (q_mvs j A B c).1.1 = A.1 ∧ (q_mvs j A B c).2.1.1 = B.1 ∧ q_MI (q_mvs j A B c).1 (q_mvs j A B c).2.1 (c + j) ∧ q_NK (q_mvs j A B c).1.2.1 A.1 + q_NK (q_mvs j A B c).2.1.2.1 B.1 = q_NK A.2.1 A.1 + q_NK B.2.1 B.1 := by
  intro j
  induction j with
  | zero => intro A B c h _; exact ⟨rfl, rfl, h, rfl⟩
  | succ j ih =>
    intro A B c h hc
    obtain ⟨a1, a2, a3, a4⟩ := q_mv_ok h (by omega)
    obtain ⟨b1, b2, b3, b4⟩ := ih (q_mv A B c).1 (q_mv A B c).2.1 (c + 1) a3 (by rw [a2]; omega)
    rw [a1] at b1 b4
    rw [a2] at b2 b4
    have b3 : q_MI (q_mvs (j + 1) A B c).1 (q_mvs (j + 1) A B c).2.1 (c + (j + 1)) := by rw [show c + (j + 1) = c + 1 + j by omega]; exact b3
    exact ⟨b1, b2, b3, b4.trans a4⟩
abbrev q_ST : Type := q_TB × q_TB × Option Nat × Nat × Nat
def q_start (A B : q_TB) (q kc wk : Nat) : q_ST := ((q, (fun i => if i < q then 0 else B.2.1 i), B.2.2.1, B.2.2.2), A, some 0, kc, wk)
def q_set0 (A B : q_TB) (kc wk : Nat) : q_ST := if 3 * A.1 ≤ 4 * kc then q_start A B (2 * A.1) kc wk else if 8 * kc ≤ A.1 ∧ 8 < A.1 then q_start A B (A.1 / 2) kc wk else (A, B, none, kc, wk)
/-- what is done behind a put of a key more or a remove of one -/
def q_on (A B : q_TB) (nx : Option Nat) (kc wk : Nat) : q_ST := match nx with
  | none => q_set0 A B kc wk
  | some c => if c + 4 < B.1 then ((q_mvs 4 A B c).1, (q_mvs 4 A B c).2.1, some (c + 4), kc, wk + (q_mvs 4 A B c).2.2) else q_set0 (q_mvs 4 A B c).1 (q_mvs 4 A B c).2.1 kc (wk + (q_mvs 4 A B c).2.2)
theorem q_on_s (A B : q_TB) (c kc wk : Nat) : q_on A B (some c) kc wk = if c + 4 < B.1 then ((q_mvs 4 A B c).1, (q_mvs 4 A B c).2.1, some (c + 4), kc, wk + (q_mvs 4 A B c).2.2) else q_set0 (q_mvs 4 A B c).1 (q_mvs 4 A B c).2.1 kc (wk + (q_mvs 4 A B c).2.2) := rfl
theorem q_on_n (A B : q_TB) (kc wk : Nat) : q_on A B none kc wk = q_set0 A B kc wk := rfl
def q_pw (n : Nat) : Prop := ∃ j, 3 ≤ j ∧ j ≤ 10 ∧ n = 2 ^ j
theorem q_pw_c {n : Nat} (h : q_pw n) : n = 8 ∨ n = 16 ∨ n = 32 ∨ n = 64 ∨ n = 128 ∨ n = 256 ∨ n = 512 ∨ n = 1024 := by
  obtain ⟨j, h1, h2, rfl⟩ := h
  have : j = 3 ∨ j = 4 ∨ j = 5 ∨ j = 6 ∨ j = 7 ∨ j = 8 ∨ j = 9 ∨ j = 10 := by omega
  rcases this with rfl | rfl | rfl | rfl | rfl | rfl | rfl | rfl <;> simp
theorem q_pw_of {n : Nat} (h : n = 8 ∨ n = 16 ∨ n = 32 ∨ n = 64 ∨ n = 128 ∨ n = 256 ∨ n = 512 ∨ n = 1024) : q_pw n := by
  rcases h with rfl | rfl | rfl | rfl | rfl | rfl | rfl | rfl
  · exact ⟨3, by omega, by omega, rfl⟩
  · exact ⟨4, by omega, by omega, rfl⟩
  · exact ⟨5, by omega, by omega, rfl⟩
  · exact ⟨6, by omega, by omega, rfl⟩
  · exact ⟨7, by omega, by omega, rfl⟩
  · exact ⟨8, by omega, by omega, rfl⟩
  · exact ⟨9, by omega, by omega, rfl⟩
  · exact ⟨10, by omega, by omega, rfl⟩
theorem q_pw_8 {n : Nat} (h : q_pw n) : 8 ≤ n ∧ n ≤ 1024 := by have := q_pw_c h; omega
theorem q_pw_4 {n : Nat} (h : q_pw n) : n % 4 = 0 := by have := q_pw_c h; omega
theorem q_pw_dbl {n L : Nat} (h : q_pw n) (hL : q_pw L) (h2 : 2 * n ≤ L) : q_pw (2 * n) := by
  have a := q_pw_c h
  have b := q_pw_8 hL
  apply q_pw_of
  omega
theorem q_pw_hlf {n : Nat} (h : q_pw n) (h8 : 8 < n) : q_pw (n / 2) := by
  have a := q_pw_c h
  apply q_pw_of
  omega
/-- what holds of the sizes, whatever else -/
def q_SZ (L : Nat) (A B : q_TB) : Prop := q_pw L ∧ q_pw A.1 ∧ A.1 ≤ L ∧ q_pw B.1 ∧ B.1 ≤ L
/-- THE INVARIANT between calls -/
def q_IV (L : Nat) (A B : q_TB) (nx : Option Nat) (kc : Nat) : Prop := q_SZ L A B ∧ match nx with
  | none => q_NT A ∧ q_PB A ∧ q_UQ A ∧ kc = q_NK A.2.1 A.1 ∧ 4 * kc < 3 * A.1
  | some c => q_MI A B c ∧ kc = q_NK A.2.1 A.1 + q_NK B.2.1 B.1 ∧ c % 4 = 0 ∧ c < B.1 ∧ 4 * kc + (B.1 - c) ≤ 3 * A.1
/-- what holds ahead of q_on -/
def q_IW (L : Nat) (A B : q_TB) (nx : Option Nat) (kc : Nat) : Prop := q_SZ L A B ∧ match nx with
  | none => q_NT A ∧ q_PB A ∧ q_UQ A ∧ kc = q_NK A.2.1 A.1 ∧ 4 * kc ≤ 3 * A.1 ∧ (4 * kc = 3 * A.1 → 2 * A.1 ≤ L)
  | some c => q_MI A B c ∧ kc = q_NK A.2.1 A.1 + q_NK B.2.1 B.1 ∧ c % 4 = 0 ∧ c < B.1 ∧ 4 * kc + (B.1 - (c + 4)) ≤ 3 * A.1 ∧ (c + 4 = B.1 → 4 * kc = 3 * A.1 → 2 * A.1 ≤ L)
abbrev q_iv (L : Nat) (s : q_ST) : Prop := q_IV L s.1 s.2.1 s.2.2.1 s.2.2.2.1
theorem q_start_iv {L q kc wk : Nat} {A B : q_TB} (hL : q_pw L) (hA : q_pw A.1) (hAL : A.1 ≤ L) (hN : q_NT A) (hP : q_PB A) (hU : q_UQ A) (hk : kc = q_NK A.2.1 A.1) (hq : q_pw q) (hqL : q ≤ L) (hc : 4 * kc + A.1 ≤ 3 * q) (hkA : kc < A.1) (hkq : kc < q) : q_iv L (q_start A B q kc wk) := by
  have hq0 := q_pw_8 hq
  have hA0 := q_pw_8 hA
  have hz : ∀ i, i < q → (fun i => if i < q then (0 : Int32) else B.2.1 i) i = 0 := fun i hi => if_pos hi
  have hz2 : ∀ i, i < q → (fun i => if i < q then (0 : Int32) else B.2.1 i) i ≠ 2 := fun i hi => by rw [hz i hi]; decide
  have hk0 : q_NK (fun i => if i < q then (0 : Int32) else B.2.1 i) q = 0 := q_NK_0 q hz2
  refine ⟨⟨hL, hq, hqL, hA, hAL⟩, ⟨by show 0 < q; omega, fun i hi => Or.inl (hz i hi), fun j hj h2 => absurd h2 (hz2 j hj), fun i j hi hj h2 => absurd h2 (hz2 i hi), hP, hU, fun i j hi hj h2 => absurd h2 (hz2 i hi), (show q_EM A from q_EM_of hN (by omega)), ?_, fun i hi => absurd hi (Nat.not_lt_zero _)⟩, ?_, rfl, by show 0 < A.1; omega, hc⟩
  · show q_NK (fun i => if i < q then (0 : Int32) else B.2.1 i) q + q_NK A.2.1 A.1 < q
    rw [hk0]; omega
  · show kc = q_NK (fun i => if i < q then (0 : Int32) else B.2.1 i) q + q_NK A.2.1 A.1
    rw [hk0]; omega
theorem q_set0_iv {L kc wk : Nat} {A B : q_TB} (hS : q_SZ L A B) (hN : q_NT A) (hP : q_PB A) (hU : q_UQ A) (hk : kc = q_NK A.2.1 A.1) (h1 : 4 * kc ≤ 3 * A.1) (h2 : 4 * kc = 3 * A.1 → 2 * A.1 ≤ L) : q_iv L (q_set0 A B kc wk) := by
  obtain ⟨hL, hA, hAL, hB, hBL⟩ := hS
  have hA0 := q_pw_8 hA
  unfold q_set0
  by_cases c1 : 3 * A.1 ≤ 4 * kc
  · rw [if_pos c1]
    exact q_start_iv hL hA hAL hN hP hU hk (q_pw_dbl hA hL (h2 (by omega))) (h2 (by omega)) (by omega) (by omega) (by omega)
  · rw [if_neg c1]
    by_cases c2 : 8 * kc ≤ A.1 ∧ 8 < A.1
    · rw [if_pos c2]
      have h4 := q_pw_4 hA
      exact q_start_iv hL hA hAL hN hP hU hk (q_pw_hlf hA c2.2) (by omega) (by omega) (by omega) (by omega)
    · rw [if_neg c2]
      exact ⟨⟨hL, hA, hAL, hB, hBL⟩, hN, hP, hU, hk, (show 4 * kc < 3 * A.1 by omega)⟩
theorem q_on_iv {L kc wk : Nat} {A B : q_TB} {nx : Option Nat} (h : q_IW L A B nx kc) : q_iv L (q_on A B nx kc wk) := by
  obtain ⟨hS, h⟩ := h
  cases nx with
  | none =>
    obtain ⟨hN, hP, hU, hk, h1, h2⟩ := h
    exact q_set0_iv hS hN hP hU hk h1 h2
  | some c =>
    obtain ⟨hM, hk, hc4, hc, h1, h2⟩ := h
    have hB4 := q_pw_4 hS.2.2.2.1
    obtain ⟨a1, a2, a3, a4⟩ := q_mvs_ok 4 A B c hM (by omega)
    rw [q_on_s]
    generalize q_mvs 4 A B c = r at a1 a2 a3 a4 ⊢
    obtain ⟨A', B', w⟩ := r
    have a1 : A'.1 = A.1 := a1
    have a2 : B'.1 = B.1 := a2
    have a3 : q_MI A' B' (c + 4) := a3
    have a4 : q_NK A'.2.1 A.1 + q_NK B'.2.1 B.1 = q_NK A.2.1 A.1 + q_NK B.2.1 B.1 := a4
    have hS' : q_SZ L A' B' := by unfold q_SZ; rw [a1, a2]; exact hS
    by_cases z : c + 4 < B.1
    · rw [if_pos z]
      refine ⟨hS', a3, ?_, ?_, ?_, ?_⟩
      · show kc = q_NK A'.2.1 A'.1 + q_NK B'.2.1 B'.1
        rw [a1, a2, a4]; exact hk
      · omega
      · show c + 4 < B'.1
        rw [a2]; exact z
      · show 4 * kc + (B'.1 - (c + 4)) ≤ 3 * A'.1
        rw [a1, a2]; exact h1
    · rw [if_neg z]
      have hnb : q_NK B'.2.1 B.1 = 0 := q_NK_0 B.1 (fun i hi => a3.2.2.2.2.2.2.2.2.2 i (by omega) (by rw [a2]; exact hi))
      have k1 : kc = q_NK A'.2.1 A'.1 := by rw [a1]; omega
      have k2 : 4 * kc ≤ 3 * A'.1 := by rw [a1]; omega
      have k3 : 4 * kc = 3 * A'.1 → 2 * A'.1 ≤ L := by rw [a1]; intro y; exact h2 (by omega) y
      exact q_set0_iv hS' a3.2.1 a3.2.2.1 a3.2.2.2.1 k1 k2 k3
/-- whether one key more would double the table beyond its limit -/
abbrev q_full (L : Nat) (A B : q_TB) (nx : Option Nat) (kc : Nat) : Prop := ¬ (∃ c, nx = some c ∧ c + 4 < B.1) ∧ 3 * A.1 ≤ 4 * (kc + 1) ∧ L < 2 * A.1
abbrev q_hitB (B : q_TB) (nx : Option Nat) (k : Int32) : Prop := nx.isSome = true ∧ q_hit B k
/-- the work of a lookup -/
def q_lw (A B : q_TB) (nx : Option Nat) (k : Int32) : Nat := if q_hit A k then q_lkD A k + 1 else if nx.isSome = true then q_lkD A k + 1 + (q_lkD B k + 1) else q_lkD A k + 1
theorem q_iv_EM {L kc : Nat} {A B : q_TB} {nx : Option Nat} (h : q_IV L A B nx kc) : q_EM A := by
  obtain ⟨hS, h⟩ := h
  have := q_pw_8 hS.2.1
  cases nx with
  | none =>
    obtain ⟨hN, hP, hU, hk, h1⟩ := h
    exact q_EM_of hN (by omega)
  | some c => exact q_MI_EM h.1
theorem q_iv_PU {L kc : Nat} {A B : q_TB} {nx : Option Nat} (h : q_IV L A B nx kc) : q_NT A ∧ q_PB A ∧ q_UQ A := by
  obtain ⟨hS, h⟩ := h
  cases nx with
  | none =>
    obtain ⟨hN, hP, hU, hk, h1⟩ := h
    exact ⟨hN, hP, hU⟩
  | some c => exact ⟨h.1.2.1, h.1.2.2.1, h.1.2.2.2.1⟩
theorem q_iv_kc {L kc : Nat} {A B : q_TB} {nx : Option Nat} (h : q_IV L A B nx kc) : q_NK A.2.1 A.1 ≤ kc ∧ kc ≤ 1024 := by
  obtain ⟨hS, h⟩ := h
  have := q_pw_8 hS.2.1
  cases nx with
  | none =>
    obtain ⟨hN, hP, hU, hk, h1⟩ := h
    omega
  | some c =>
    obtain ⟨hM, hk, h1, h2, h3⟩ := h
    omega
/-- other values of a table's keys -/
theorem q_PB_v {t : q_TB} {V : Nat → Int32} (h : q_PB t) : q_PB (t.1, t.2.1, t.2.2.1, V) := h
theorem q_iv_vA {L kc : Nat} {A B : q_TB} {nx : Option Nat} {V : Nat → Int32} (h : q_IV L A B nx kc) : q_IV L (A.1, A.2.1, A.2.2.1, V) B nx kc := by
  cases nx with
  | none => exact h
  | some c => exact h
theorem q_iv_vB {L kc : Nat} {A B : q_TB} {nx : Option Nat} {V : Nat → Int32} (h : q_IV L A B nx kc) : q_IV L A (B.1, B.2.1, B.2.2.1, V) nx kc := by
  cases nx with
  | none => exact h
  | some c => exact h
/-- a put of a key more, ahead of q_on -/
theorem q_iw_put {L kc : Nat} {A B : q_TB} {nx : Option Nat} {k v : Int32} (h : q_IV L A B nx kc) (hA : ¬ q_hit A k) (hB : ¬ q_hitB B nx k) (hf : ¬ q_full L A B nx kc) : q_IW L (q_fl A (q_lkE A k) k v) B nx (kc + 1) := by
  have hE := q_iv_EM h
  obtain ⟨hN, hP, hU⟩ := q_iv_PU h
  have hk := q_iv_kc h
  obtain ⟨hS, h⟩ := h
  have h8 := q_pw_8 hS.2.1
  have h4 := q_pw_4 hS.2.1
  have h0 : 0 < A.1 := by omega
  have hz := q_lk_miss h0 hE hA
  have he := q_lkE_lt (t := A) k h0
  have n1 : q_NK (upd A.2.1 (q_lkE A k) 2) A.1 = q_NK A.2.1 A.1 + 1 := q_NK_up (by rw [hz]; decide) A.1 he
  have hnA : ∀ j, j < A.1 → A.2.1 j = 2 → A.2.2.1 j ≠ k := fun j hj h2 hk => hA (q_lk_all h0 hP hj h2 hk)
  refine ⟨hS, ?_⟩
  cases nx with
  | none =>
    obtain ⟨-, -, -, hkc, h1⟩ := h
    refine ⟨q_fl_NT hN, q_fl_PB h0 hP, q_fl_UQ hU hnA, ?_, ?_, ?_⟩
    · show kc + 1 = q_NK (upd A.2.1 (q_lkE A k) 2) A.1
      omega
    · show 4 * (kc + 1) ≤ 3 * A.1
      omega
    · intro y
      have y : 4 * (kc + 1) = 3 * A.1 := y
      show 2 * A.1 ≤ L
      refine Nat.le_of_not_lt fun z => hf ⟨?_, by omega, z⟩
      rintro ⟨c, hc, -⟩
      cases hc
  | some c =>
    obtain ⟨hM, hkc, hc4, hc, h1⟩ := h
    have hB4 := q_pw_4 hS.2.2.2.1
    have hB8 := q_pw_8 hS.2.2.2.1
    have hB : ¬ q_hit B k := fun z => hB ⟨rfl, z⟩
    obtain ⟨-, -, -, -, hPB, hUB, hD, hEB, hK, hb⟩ := hM
    refine ⟨⟨h0, q_fl_NT hN, q_fl_PB h0 hP, q_fl_UQ hU hnA, hPB, hUB, ?_, hEB, ?_, hb⟩, ?_, hc4, hc, ?_, ?_⟩
    · intro i j hi hj hi2 hj2
      show upd A.2.2.1 (q_lkE A k) k i ≠ B.2.2.1 j
      by_cases z : i = q_lkE A k
      · rw [z, pk_us]
        exact fun y => hB (q_lk_all (by omega) hPB hj hj2 y.symm)
      · rw [pk_un z]
        exact hD i j hi hj (by rw [← hi2]; exact (pk_un z).symm) hj2
    · show q_NK (upd A.2.1 (q_lkE A k) 2) A.1 + q_NK B.2.1 B.1 < A.1
      omega
    · show kc + 1 = q_NK (upd A.2.1 (q_lkE A k) 2) A.1 + q_NK B.2.1 B.1
      omega
    · show 4 * (kc + 1) + (B.1 - (c + 4)) ≤ 3 * A.1
      omega
    · intro y1 y2
      have y2 : 4 * (kc + 1) = 3 * A.1 := y2
      show 2 * A.1 ≤ L
      refine Nat.le_of_not_lt fun z => hf ⟨?_, by omega, z⟩
      rintro ⟨c', hc', hlt⟩
      cases hc'
      omega
/-- a remove from the new table, ahead of q_on -/
theorem q_iw_rmA {L kc : Nat} {A B : q_TB} {nx : Option Nat} {k : Int32} (h : q_IV L A B nx kc) (hA : q_hit A k) : q_IW L (q_fr A (q_lkE A k)).1 B nx (kc - 1) := by
  have hE := q_iv_EM h
  obtain ⟨hN, hP, hU⟩ := q_iv_PU h
  obtain ⟨hS, h⟩ := h
  have h8 := q_pw_8 hS.2.1
  have h0 : 0 < A.1 := by omega
  have he := q_lkE_lt (t := A) k h0
  obtain ⟨a1, a2, a3, a4, a5, a6⟩ := q_fr_ok hN hP hU hE he hA.1
  have hS' : q_SZ L (q_fr A (q_lkE A k)).1 B := by unfold q_SZ; rw [a1]; exact hS
  refine ⟨hS', ?_⟩
  cases nx with
  | none =>
    obtain ⟨-, -, -, hkc, h1⟩ := h
    exact ⟨a2, a3, a4, by rw [a1]; omega, by rw [a1]; omega, by rw [a1]; omega⟩
  | some c =>
    obtain ⟨hM, hkc, hc4, hc, h1⟩ := h
    obtain ⟨-, -, -, -, hPB, hUB, hD, hEB, hK, hb⟩ := hM
    refine ⟨⟨by rw [a1]; exact h0, a2, a3, a4, hPB, hUB, ?_, hEB, by rw [a1]; omega, hb⟩, by rw [a1]; omega, hc4, hc, by rw [a1]; omega, fun _ => by rw [a1]; omega⟩
    intro i j hi hj hi2 hj2
    rw [a1] at hi
    obtain ⟨b, b1, b2, b3⟩ := a6 i hi hi2
    rw [b3]
    exact hD b j b1 hj b2 hj2
/-- a remove from the old table, ahead of q_on -/
theorem q_iw_rmB {L kc c j : Nat} {A B : q_TB} (h : q_IV L A B (some c) kc) (hj : j < B.1) (h2 : B.2.1 j = 2) : q_IW L A (q_tk B j) (some c) (kc - 1) := by
  obtain ⟨hS, hM, hkc, hc4, hc, h1⟩ := h
  obtain ⟨h0, hN, hP, hU, hPB, hUB, hD, hEB, hK, hb⟩ := hM
  have n2 : q_NK B.2.1 B.1 = q_NK (upd B.2.1 j 1) B.1 + 1 := q_NK_dn (by decide) h2 B.1 hj
  have h4 := q_pw_4 hS.2.2.2.1
  have h4' : B.1 % 4 = 0 := h4
  refine ⟨hS, ⟨h0, hN, hP, hU, q_tk_PB hPB, q_tk_UQ hUB, fun a b ha hb' ha2 hb2 => hD a b ha hb' ha2 (q_up_2 (by decide) hb2).2, q_tk_EM hEB h2, ?_, fun i hi hiB => ?_⟩, ?_, hc4, hc, ?_, ?_⟩
  · show q_NK A.2.1 A.1 + q_NK (upd B.2.1 j 1) B.1 < A.1
    omega
  · show upd B.2.1 j 1 i ≠ 2
    by_cases z : i = j
    · subst z; rw [pk_us]; decide
    · rw [pk_un z]; exact hb i hi hiB
  · show kc - 1 = q_NK A.2.1 A.1 + q_NK (upd B.2.1 j 1) B.1
    omega
  · show 4 * (kc - 1) + (B.1 - (c + 4)) ≤ 3 * A.1
    omega
  · intro y1 y2
    have y1 : c + 4 = B.1 := y1
    omega
end
section
/-! BITS: homes, rings and remainders as the machine counts them -/
theorem q_pw_mask {n : Nat} (h : q_pw n) (x : Int32) : x &&& (nI n - 1) = nI (x.toBitVec.toNat % n) := by
  obtain ⟨j, h1, h2, rfl⟩ := h
  have hp : 0 < 2 ^ j := Nat.two_pow_pos j
  have hb : 2 ^ j ≤ 2 ^ 10 := Nat.pow_le_pow_right (by decide) h2
  refine pk_and x j ?_
  rw [show nI (2 ^ j) - 1 = nI (2 ^ j - 1) from pk_sub hp]
  exact pk_tn (by omega)
theorem q_home_eq {n : Nat} (h : q_pw n) (k : Int32) : q_hsh k &&& (nI n - 1) = nI (q_hm n k) := q_pw_mask h _
theorem q_mod_ad {n a : Nat} (ha : a < n) : (a + 1) % n = q_ad n a 1 := by
  rcases q_ad_c n a 1 with ⟨h, e⟩ | ⟨h, e⟩
  · rw [e]; exact Nat.mod_eq_of_lt h
  · rw [e, show a + 1 = n by omega, Nat.mod_self]; omega
theorem q_next_eq {n a : Nat} (h : q_pw n) (ha : a < n) : (nI a + 1) &&& (nI n - 1) = nI (q_ad n a 1) := by
  have h8 := q_pw_8 h
  rw [nI_1, q_pw_mask h, pk_tn (by omega), q_mod_ad ha]
theorem q_ring_eq {n a b : Nat} (h : q_pw n) (ha : a < n) (hb : b < n) : (nI b - nI a) &&& (nI n - 1) = nI (q_rd n a b) := by
  rw [q_pw_mask h]
  have e : (nI b - nI a).toBitVec.toNat = (2 ^ 32 - a + b) % 2 ^ 32 := by
    rw [Int32.toBitVec_sub, BitVec.toNat_sub]
    have h8 := q_pw_8 h
    rw [pk_tn (n := a) (by omega), pk_tn (n := b) (by omega)]
  rw [e]
  congr 1
  rcases q_pw_c h with rfl | rfl | rfl | rfl | rfl | rfl | rfl | rfl <;> rcases q_rd_c _ a b with ⟨h1, e1⟩ | ⟨h1, e1⟩ <;> rw [e1] <;> omega
theorem q_behind_eq {n a : Nat} (h : q_pw n) (ha : a < n) : (nI a + 1) - (nI a + 1) / nI n * nI n = nI (q_ad n a 1) := by
  have h8 := q_pw_8 h
  rw [nI_1, pk_rem (by omega) (by omega) (by omega), q_mod_ad ha]
theorem q_rem_toInt (x y : Int32) : (x - x / y * y).toInt = x.toInt.tmod y.toInt := by
  have a := (x % y).toInt_lt
  have b := (x % y).le_toInt
  rw [Int32.toInt_mod] at a b
  rw [Int32.toInt_sub, Int32.toInt_mul, Int32.toInt_div, Int.bmod_mul_bmod, Int.sub_bmod_bmod, Int.mul_comm, ← Int.tmod_def]
  exact Int.bmod_eq_of_le (by omega) (by omega)
theorem q_toInt_c (x : Int32) : (x.toBitVec.toNat < 2 ^ 31 ∧ x.toInt = (x.toBitVec.toNat : Int)) ∨ (2 ^ 31 ≤ x.toBitVec.toNat ∧ x.toBitVec.toNat < 2 ^ 32 ∧ x.toInt = (x.toBitVec.toNat : Int) - 2 ^ 32) := by
  have e : x.toInt = x.toBitVec.toInt := rfl
  have hl := x.toBitVec.isLt
  rw [e, BitVec.toInt_eq_toNat_cond]
  by_cases h : 2 * x.toBitVec.toNat < 2 ^ 32
  · rw [if_pos h]; left; omega
  · rw [if_neg h]; right; omega
theorem q_rem_c {n : Nat} (h : q_pw n) (x : Int32) : ((x - x / nI n * nI n) < 0 ∧ (x - x / nI n * nI n) + nI n = nI (x.toBitVec.toNat % n)) ∨ (¬ (x - x / nI n * nI n) < 0 ∧ (x - x / nI n * nI n) = nI (x.toBitVec.toNat % n)) := by
  have h8 := q_pw_8 h
  have hr := q_rem_toInt x (nI n)
  rw [nI_toInt (n := n) (by omega)] at hr
  have hm : x.toBitVec.toNat % n < n := Nat.mod_lt _ (by omega)
  generalize hz : x - x / nI n * nI n = z at hr ⊢
  have hm2 : (nI (x.toBitVec.toNat % n)).toInt = ((x.toBitVec.toNat % n : Nat) : Int) := nI_toInt (by omega)
  have ha : (z + nI n).toInt = (z.toInt + (n : Int)).bmod (2 ^ 32) := by rw [Int32.toInt_add, nI_toInt (by omega)]
  have key : (z.toInt < 0 ∧ z.toInt + (n : Int) = ((x.toBitVec.toNat % n : Nat) : Int)) ∨ (0 ≤ z.toInt ∧ z.toInt = ((x.toBitVec.toNat % n : Nat) : Int)) := by
    rcases q_toInt_c x with ⟨c1, c2⟩ | ⟨c1, c3, c2⟩
    · right
      rw [hr, c2, Int.tmod_eq_emod_of_nonneg (by omega)]
      exact ⟨by omega, by omega⟩
    · have e : x.toInt.tmod (n : Int) = -((2 ^ 32 - (x.toBitVec.toNat : Int)) % (n : Int)) := by
        rw [c2, show (x.toBitVec.toNat : Int) - 2 ^ 32 = -(2 ^ 32 - (x.toBitVec.toNat : Int)) by omega, Int.neg_tmod, Int.tmod_eq_emod_of_nonneg (by omega)]
      rw [hr, e]
      rcases q_pw_c h with rfl | rfl | rfl | rfl | rfl | rfl | rfl | rfl <;> omega
  have hz0 : z < 0 ↔ z.toInt < 0 := by rw [Int32.lt_iff_toInt_lt]; rfl
  rcases key with ⟨k1, k2⟩ | ⟨k1, k2⟩
  · left
    refine ⟨hz0.mpr k1, Int32.toInt_inj.mp ?_⟩
    rw [ha, hm2, k2]
    exact Int.bmod_eq_of_le (by omega) (by omega)
  · right
    exact ⟨fun y => by have := hz0.mp y; omega, Int32.toInt_inj.mp (by rw [hm2, k2])⟩
theorem q_neg1 {e : Nat} (he : e < 2 ^ 30) : (-1 - nI e) < 0 := by
  rw [Int32.lt_iff_toInt_lt, Int32.toInt_sub, nI_toInt (by omega), show (-1 : Int32).toInt = -1 from by decide, show (0 : Int32).toInt = 0 from by decide, Int.bmod_eq_of_le (by omega) (by omega)]
  omega
theorem q_neg1' (e : Nat) : (-1 - (-1 - nI e)) = nI e := by
  rw [Int32.sub_eq_add_neg, Int32.sub_eq_add_neg, Int32.neg_add, Int32.neg_neg, Int32.sub_eq_add_neg, Int32.neg_neg, ← Int32.add_assoc, show (-1 : Int32) + 1 = 0 from rfl, Int32.zero_add]
def q_b (p : Prop) [Decidable p] : Int32 := if p then 1 else 0
theorem q_b_t {p : Prop} [Decidable p] (h : p) : q_b p = 1 := if_pos h
theorem q_b_f {p : Prop} [Decidable p] (h : ¬ p) : q_b p = 0 := if_neg h
theorem q_b_eq {p q : Prop} [Decidable p] [Decidable q] (h : p ↔ q) : q_b p = q_b q := by
  by_cases z : p
  · rw [q_b_t z, q_b_t (h.mp z)]
  · rw [q_b_f z, q_b_f (fun y => z (h.mpr y))]
theorem q_b_0 {p : Prop} [Decidable p] : q_b p = 0 ↔ ¬ p := by
  by_cases z : p
  · rw [q_b_t z]; exact ⟨fun y => absurd y (by decide), fun y => absurd z y⟩
  · rw [q_b_f z]; exact ⟨fun _ => z, fun _ => rfl⟩
theorem q_b_z (p : Prop) [Decidable p] : narrow .boolean (.int (q_b p)) = .int (q_b p) := by
  by_cases z : p
  · rw [q_b_t z]; rfl
  · rw [q_b_f z]; rfl
/-- the cursor as the class keeps it -/
def q_nx (nx : Option Nat) : Int32 := match nx with
  | none => -1
  | some c => nI c
theorem q_nI_m1 {c : Nat} (h : c < 2 ^ 31) : ¬ nI c = -1 := fun q => by
  have a := nI_toInt h
  rw [q, show (-1 : Int32).toInt = -1 from by decide] at a
  omega
theorem q_b_n0 {p : Prop} [Decidable p] (h : ¬ q_b p = 0) : p := Classical.byContradiction fun z => h (q_b_0.mpr z)
theorem q_le_t {a b : Nat} (ha : a < 2 ^ 31) (hb : b < 2 ^ 31) (h : nI a ≤ nI b) : a ≤ b := (nI_leI ha hb).mp h
theorem q_le_f {a b : Nat} (ha : a < 2 ^ 31) (hb : b < 2 ^ 31) (h : ¬ nI a ≤ nI b) : b < a := Nat.lt_of_not_le fun z => h ((nI_leI ha hb).mpr z)
theorem q_lt_t {a b : Nat} (ha : a < 2 ^ 31) (hb : b < 2 ^ 31) (h : nI a < nI b) : a < b := (nI_ltI ha hb).mp h
theorem q_lt_f {a b : Nat} (ha : a < 2 ^ 31) (hb : b < 2 ^ 31) (h : ¬ nI a < nI b) : b ≤ a := Nat.le_of_not_lt fun z => h ((nI_ltI ha hb).mpr z)
theorem q_eq_t {a b : Nat} (ha : a < 2 ^ 31) (hb : b < 2 ^ 31) (h : nI a = nI b) : a = b := (nI_eq ha hb).mp h
theorem q_eq_f {a b : Nat} (ha : a < 2 ^ 31) (hb : b < 2 ^ 31) (h : ¬ nI a = nI b) : a ≠ b := fun z => h (by rw [z])
end
section
/-! ROWS: reads, writes and calls, packed for this claim's worlds -/
section RR
variable {p : Program} {l : Launch} {e : Env} {R : Room} {s : State} {m : MethodId} {args : Array Value} {below : List Frame} {meth : Method} {c : Code} {H : Heap} {locs : List Loc} {cells slots : Nat} {Q : State → Prop}
variable {cc : ByteArray} {pc : Nat} {ls : Array Slot} {rest st0 : List Value} {D : va_G} {cl : List vw_C} {A : Nat → Prop} {tys : List (ClassId × FieldType)} {ws wc wr : va_W} {H0 : Heap}
variable {y : MethodName} {bytes : ByteArray} {maxL nL n index : Nat} {ret : Option FieldType} {wy : List Cond} {rm : Room} {Ts : List Cond} {own C : String} {b : Addr} {As : List Value}
theorem r_room (h : (rest.map fun v => v.category).sum ≤ 8) : 2 * (F0 m pc ls st0).monitorRoom + (rest.map fun v => v.category).sum ≤ 8 := lv_room h
theorem r_eq {x z : Int32} (h : x = z) (k : W p l e R s m args below meth c H locs cells slots Q (F0 m pc ls (.int z :: rest))) : W p l e R s m args below meth c H locs cells slots Q (F0 m pc ls (.int x :: rest)) := by
  rw [h]; exact k
theorem r_ld (hx : p.tables.exec = Jvm.exec) (hb : c.code = cc) (hK : va_K D cl tys s) (hP : va_P D cl ws H) (q0 t0 : Nat) {a : Nat} {cA : ClassId} {n : Nat} {f : Nat → Int32} (ha : ws[q0]? = some (a, .inl (cA, n, .inl f))) (ht : tys[t0]? = some (cA, .int)) {i : Nat} (hi : i < n) (hn : n < 2 ^ 31) (hdg : decode cc pc = .ok (.iaload, 1))
    (kk : W p l e R s m args below meth c H locs cells slots Q (F0 m (pc + 1) ls (.int (f i) :: rest))) : W p l e R s m args below meth c H locs cells slots Q (F0 m pc ls (.int (nI i) :: .ref a :: rest)) :=
  va_iald hx hb hK hP q0 t0 ha ht (vp_in_nI hi hn) hdg (by rw [nI_clamp (by omega)]; exact kk)
theorem r_st (hx : p.tables.exec = Jvm.exec) (hb : c.code = cc) (hK : va_K D cl tys s) (hP : va_P D cl ws H) (hD : va_D A ws) (hS : va_S A H0 H locs) (q0 t0 : Nat) {a : Nat} {cA : ClassId} {n : Nat} {f : Nat → Int32} (ha : ws[q0]? = some (a, .inl (cA, n, .inl f))) (ht : tys[t0]? = some (cA, .int)) {i : Nat} {x : Int32} (hi : i < n) (hn : n < 2 ^ 31) (hdg : decode cc pc = .ok (.iastore, 1))
    (kk : ∀ (H1 : Heap) (locs1 : List Loc), va_P D cl (ws.set q0 (a, .inl (cA, n, .inl (upd f i x)))) H1 → va_D A (ws.set q0 (a, .inl (cA, n, .inl (upd f i x)))) → va_S A H0 H1 locs1 → W p l e R s m args below meth c H1 locs1 cells slots Q (F0 m (pc + 1) ls rest)) : W p l e R s m args below meth c H locs cells slots Q (F0 m pc ls (.int x :: .int (nI i) :: .ref a :: rest)) :=
  va_iast hx hb hK hP hD hS q0 t0 ha ht (vp_in_nI hi hn) hdg (by rw [nI_clamp (by omega)]; exact kk)
theorem r_psub (hP : va_P D cl ws H) (isC : List Nat) (hC : isC.map (fun i => ws[i]?) = wc.map some) : va_P D cl wc H := by
  intro k q hk
  have h1 : (isC.map (fun i => ws[i]?))[k]? = some (some q) := by rw [hC, List.getElem?_map, hk]; rfl
  rw [List.getElem?_map] at h1
  cases hi : isC[k]? with
  | none => rw [hi] at h1; cases h1
  | some i => rw [hi] at h1; exact hP i q (Option.some.inj h1)
/-- a contract that only reads: its start -/
abbrev r_Pc (D : va_G) (cl : List vw_C) (tys : List (ClassId × FieldType)) (wc : va_W) (av : List Value) : Array Value → State → Prop := va_Pc av (fun U => va_P D cl wc U.heap ∧ va_K D cl tys U)
/-- a contract that writes: its start -/
abbrev r_Mc (D : va_G) (cl : List vw_C) (tys : List (ClassId × FieldType)) (wc : va_W) (sz : Nat) (av : List Value) : Array Value → State → Prop := va_Pc av (fun U => U.heap.size = sz ∧ va_P D cl wc U.heap ∧ va_K D cl tys U ∧ va_D (fun _ => True) wc)
abbrev r_B (D : va_G) (cl : List vw_C) (tys : List (ClassId × FieldType)) (A : Nat → Prop) (w1 : va_W) (t : State) : Prop := va_P D cl w1 t.heap ∧ va_K D cl tys t ∧ va_D A w1
theorem r_blind {av : List Value} : FrameBlind (r_Pc D cl tys wc av) := fun a U g mk q => ⟨q.1, q.2.1, va_K.moved (u := U) (U := U.calling g mk a) (Vm.Alike.refl U.vm) q.2.2⟩
theorem r_blindM {av : List Value} {sz : Nat} : FrameBlind (r_Mc D cl tys wc sz av) := fun a U g mk q => ⟨q.1, q.2.1, q.2.2.1, va_K.moved (u := U) (U := U.calling g mk a) (Vm.Alike.refl U.vm) q.2.2.2.1, q.2.2.2.2⟩
/-- the end of a call that only read -/
theorem r_csi {v : Int32} {a : Array Value} (hr : va_Run p l e R s m args below meth c H locs cells slots 0 0 (F0 m pc ls st0) rest (vp_Si (fun r => r = v) a) (fun _ => False))
    (kk : W p l e R s m args below meth c H locs cells slots Q (F0 m (pc + 3) ls (.int v :: rest))) : W p l e R s m args below meth c H locs cells slots Q (F0 m pc ls st0) := by
  intro T hT X
  obtain ⟨v, st₀, t, T', L, h0, X', hL, e1, e2, ⟨r, hv, hp, hh⟩, st⟩ := hr T hT X
  cases hv
  subst hp
  obtain ⟨t2, a1, b1⟩ := kk T' (by rw [e1, hh, h0]) (Stand.forget X' (fun q h => (hL q h).elim))
  exact ⟨t2, st t2 a1, b1⟩
/-- a call that only reads, invokevirtual -/
theorem r_roV (S : CallFix p m c cc nL s args Ts own) {v : Int32} (hM : Met l y wy rm (r_Pc D cl tys wc (.ref b :: As)) (vp_Si (fun r => r = v)) 0 0 (fun _ => False)) (cw : CallW R s args own C index y bytes maxL ret wy rm 0 0 n)
    (hK : va_K D cl tys s) (hP : va_P D cl ws H) (isC : List Nat) (hC : isC.filterMap (fun i => ws[i]?) = wc) {ci q0 : Nat} {q : vw_C} {fs : List Value} (hc : cl[ci]? = some q) (hq : q.1 = C) (he : wc[q0]? = some (b, .inr (ci, fs)))
    (hn : As.length = n) (hsize : ls.size = nL) (hst : st0 = As.reverse ++ .ref b :: rest) (hW : (rest.map fun v => v.category).sum ≤ 8) (hdg : decode cc pc = .ok (.invokevirtual index, 3)) (hf : cells + 0 ≤ R.cells ∧ slots + 0 ≤ R.slots)
    (kk : W p l e R s m args below meth c H locs cells slots Q (F0 m (pc + 3) ls (.int v :: rest))) : W p l e R s m args below meth c H locs cells slots Q (F0 m pc ls st0) := by
  have hPc : va_P D cl wc H := hP.sub isC hC
  refine r_csi (va_runV (As := As) (rest := rest) S hM cw ⟨r_blind, ?_, fun U hU hW => ⟨rfl, by rw [hU]; exact hPc, va_K.moved hW.alike hK⟩⟩ rfl hn hsize hst (lv_room hW) hdg hf) kk
  rw [← hq]
  exact va_recv hK hPc hc he
/-- a call that only reads, invokestatic -/
theorem r_roS (S : CallFix p m c cc nL s args Ts own) {v : Int32} (hM : Met l y wy rm (r_Pc D cl tys wc As) (vp_Si (fun r => r = v)) 0 0 (fun _ => False)) (cw : CallB R s args own index y bytes maxL ret wy rm 0 0 n ∧ (Cond.static y).before args s = true)
    (hK : va_K D cl tys s) (hP : va_P D cl ws H) (isC : List Nat) (hC : isC.filterMap (fun i => ws[i]?) = wc)
    (hn : As.length = n) (hsize : ls.size = nL) (hst : st0 = As.reverse ++ rest) (hW : (rest.map fun v => v.category).sum ≤ 8) (hdg : decode cc pc = .ok (.invokestatic index, 3)) (hf : cells + 0 ≤ R.cells ∧ slots + 0 ≤ R.slots)
    (kk : W p l e R s m args below meth c H locs cells slots Q (F0 m (pc + 3) ls (.int v :: rest))) : W p l e R s m args below meth c H locs cells slots Q (F0 m pc ls st0) := by
  have hPc : va_P D cl wc H := hP.sub isC hC
  exact r_csi (va_runS (As := As) (rest := rest) S hM cw ⟨r_blind, fun U hU hW => ⟨rfl, by rw [hU]; exact hPc, va_K.moved hW.alike hK⟩⟩ rfl hn hsize hst (lv_room hW) hdg hf) kk
/-- a call that writes and answers an int -/
theorem r_muI {S' : Type} {post : Int32 → S' → Prop} {w1 : S' → va_W} (S : CallFix p m c cc nL s args Ts own) (hM : Met l y wy rm (r_Mc D cl tys wc H.size (.ref b :: As)) (va_Qi post (fun u t => r_B D cl tys (va_A wc H.size) (w1 u) t) (va_A wc H.size)) 0 0 (va_A wc H.size)) (cw : CallW R s args own C index y bytes maxL ret wy rm 0 0 n)
    (hK : va_K D cl tys s) (hP : va_P D cl ws H) (hD : va_D A ws) (hS : va_S A H0 H locs) (hA : ∀ q, H0.size ≤ q → A q) (isC isR : List Nat) (hC : isC.map (fun i => ws[i]?) = wc.map some) (hR : isR.map (fun i => ws[i]?) = wr.map some) (hnC : va_nd isC = true) (hnd : va_nd isR = true) (hdis : ∀ i ∈ isR, i ∉ isC) {ci q0 : Nat} {q : vw_C} {fs : List Value} (hc : cl[ci]? = some q) (hq : q.1 = C) (he : wc[q0]? = some (b, .inr (ci, fs)))
    (hn : As.length = n) (hsize : ls.size = nL) (hst : st0 = As.reverse ++ .ref b :: rest) (hW : (rest.map fun v => v.category).sum ≤ 8) (hdg : decode cc pc = .ok (.invokevirtual index, 3)) (hf : cells + 0 ≤ R.cells ∧ slots + 0 ≤ R.slots)
    (kk : ∀ (r : Int32) (u : S') (H1 : Heap) (locs1 : List Loc), post r u → va_P D cl (wr ++ w1 u) H1 → va_D A (wr ++ w1 u) → va_S A H0 H1 locs1 → W p l e R s m args below meth c H1 locs1 cells slots Q (F0 m (pc + 3) ls (.int r :: rest))) : W p l e R s m args below meth c H locs cells slots Q (F0 m pc ls st0) := by
  have hPc : va_P D cl wc H := r_psub hP isC hC
  have hDc : va_D A wc := hD.sub isC hnC hC
  have hF := va_free hD hS hA isC hC
  refine va_calli (va_runV (As := As) (rest := rest) S hM cw ⟨r_blindM, ?_, fun U hU hW => ⟨rfl, by rw [hU], by rw [hU]; exact hPc, va_K.moved hW.alike hK, hDc.weaken (fun _ _ _ _ => trivial)⟩⟩ rfl hn hsize hst (lv_room hW) hdg hf) hS (fun q _ h => hF q h) hF (fun r u t H1 locs1 ht hvm hw hB hz hk hS1 => ?_)
  · rw [← hq]; exact va_recv hK hPc hc he
  · obtain ⟨hP1, -, hD1⟩ := hB
    rw [ht] at hP1
    obtain ⟨a1, a2⟩ := va_join hP hD isC isR hC hR hnd hdis hk hF hP1 hD1
    exact kk r u H1 locs1 hw a1 a2 hS1
/-- a call that writes and answers nothing -/
theorem r_muV {S' : Type} {post : S' → Prop} {w1 : S' → va_W} (S : CallFix p m c cc nL s args Ts own) (hM : Met l y wy rm (r_Mc D cl tys wc H.size (.ref b :: As)) (va_Qv post (fun u t => r_B D cl tys (va_A wc H.size) (w1 u) t) (va_A wc H.size)) 0 0 (va_A wc H.size)) (cw : CallW R s args own C index y bytes maxL ret wy rm 0 0 n)
    (hK : va_K D cl tys s) (hP : va_P D cl ws H) (hD : va_D A ws) (hS : va_S A H0 H locs) (hA : ∀ q, H0.size ≤ q → A q) (isC isR : List Nat) (hC : isC.map (fun i => ws[i]?) = wc.map some) (hR : isR.map (fun i => ws[i]?) = wr.map some) (hnC : va_nd isC = true) (hnd : va_nd isR = true) (hdis : ∀ i ∈ isR, i ∉ isC) {ci q0 : Nat} {q : vw_C} {fs : List Value} (hc : cl[ci]? = some q) (hq : q.1 = C) (he : wc[q0]? = some (b, .inr (ci, fs)))
    (hn : As.length = n) (hsize : ls.size = nL) (hst : st0 = As.reverse ++ .ref b :: rest) (hW : (rest.map fun v => v.category).sum ≤ 8) (hdg : decode cc pc = .ok (.invokevirtual index, 3)) (hf : cells + 0 ≤ R.cells ∧ slots + 0 ≤ R.slots)
    (kk : ∀ (u : S') (H1 : Heap) (locs1 : List Loc), post u → va_P D cl (wr ++ w1 u) H1 → va_D A (wr ++ w1 u) → va_S A H0 H1 locs1 → W p l e R s m args below meth c H1 locs1 cells slots Q (F0 m (pc + 3) ls rest)) : W p l e R s m args below meth c H locs cells slots Q (F0 m pc ls st0) := by
  have hPc : va_P D cl wc H := r_psub hP isC hC
  have hDc : va_D A wc := hD.sub isC hnC hC
  have hF := va_free hD hS hA isC hC
  refine va_callv (va_runV (As := As) (rest := rest) S hM cw ⟨r_blindM, ?_, fun U hU hW => ⟨rfl, by rw [hU], by rw [hU]; exact hPc, va_K.moved hW.alike hK, hDc.weaken (fun _ _ _ _ => trivial)⟩⟩ rfl hn hsize hst (lv_room hW) hdg hf) hS (fun q _ h => hF q h) hF (fun u t H1 locs1 ht hvm hw hB hz hk hS1 => ?_)
  · rw [← hq]; exact va_recv hK hPc hc he
  · obtain ⟨hP1, -, hD1⟩ := hB
    rw [ht] at hP1
    obtain ⟨a1, a2⟩ := va_join hP hD isC isR hC hR hnd hdis hk hF hP1 hD1
    exact kk u H1 locs1 hw a1 a2 hS1
end RR
end
section
/-! TABLE: the contracts of StepMap$Table (laid by gen_table.py) -/
theorem hin_X0_init_X0 : ∀ w ∈ wsX00, w ∈ wsX0_init := by decide +kernel
theorem hin_X0_clear_X0 : ∀ w ∈ wsX00, w ∈ wsX0_clear := by decide +kernel
theorem hin_X0_home_X0 : ∀ w ∈ wsX00, w ∈ wsX0_home := by decide +kernel
theorem hin_X0_next_X0 : ∀ w ∈ wsX00, w ∈ wsX0_next := by decide +kernel
theorem hin_X0_holds_X0 : ∀ w ∈ wsX00, w ∈ wsX0_holds := by decide +kernel
theorem hin_X0_endsSearch_X0 : ∀ w ∈ wsX00, w ∈ wsX0_endsSearch := by decide +kernel
theorem hin_X0_reachesBack_X0 : ∀ w ∈ wsX00, w ∈ wsX0_reachesBack := by decide +kernel
theorem hin_X0_ringDistance_X0 : ∀ w ∈ wsX00, w ∈ wsX0_ringDistance := by decide +kernel
theorem hin_X0_fill_X0 : ∀ w ∈ wsX00, w ∈ wsX0_fill := by decide +kernel
theorem hin_X0_shift_X0 : ∀ w ∈ wsX00, w ∈ wsX0_shift := by decide +kernel
/-- the first i marks cleared -/
def q_cl (M : Nat → Int32) (i : Nat) : Nat → Int32 := fun j => if j < i then 0 else M j
theorem q_cl_0 (M : Nat → Int32) : q_cl M 0 = M := funext fun j => if_neg (Nat.not_lt_zero j)
theorem q_cl_s (M : Nat → Int32) (i : Nat) : upd (q_cl M i) i 0 = q_cl M (i + 1) := by
  funext j
  show (if j = i then (0 : Int32) else if j < i then 0 else M j) = if j < i + 1 then 0 else M j
  by_cases h : j = i
  · rw [if_pos h, if_pos (by omega)]
  · rw [if_neg h]
    by_cases h2 : j < i
    · rw [if_pos h2, if_pos (by omega)]
    · rw [if_neg h2, if_neg (by omega)]
set_option maxHeartbeats 4000000 in
set_option maxRecDepth 100000 in
theorem c_X0_home (l : Launch) (dC : Nat → ClassId) (dI : Nat → Nat → Nat) (cI : ClassId) (ta ma ka va L n : Nat) (M K V : Nat → Int32) (k : Int32) (hn : q_pw n) (hnL : n ≤ L) (hL : L ≤ 1024) : Met l yX0_home wsX0_home ({ frames := 0, cells := 0, slots := 0, locals := 0 }) (r_Pc (dC, dI) vwCl [(cI, .int)] [(ta, .inr (0, [.ref ma, .ref ka, .ref va, .int (nI n)])), (ma, .inl (cI, L, .inl M)), (ka, .inl (cI, L, .inl K)), (va, .inl (cI, L, .inl V))] [.ref ta, .int k]) (vp_Si (fun r => r = nI (q_hm n k))) 0 0 (fun _ => False) := by
  refine Met.ofW (cc := cX0_home) (maxL := 3) (ret := (some .int)) (by decide) rfl ?_
  intro p e s m args below meth c s₁ Bd hml hv
  obtain ⟨rfl, hP, hK⟩ := hv
  have hx := Bd.exec
  have hb := Bd.bytes
  have hr := Bd.returns
  have hts := atoms_spec (ws := wsX0_home) Bd.pre
  have hown : s.vm.findClass RX0 = some m.cls := findClass_of_methodNamed Bd.named
  have hlocks := Bd.notSynchronized
  have S0 : CallFix p m c cX0_home 3 s _ wsX0_home RX0 := ⟨hx, hb, hml, hown, hts⟩
  have hP : va_P (dC, dI) vwCl [(ta, .inr (0, [.ref ma, .ref ka, .ref va, .int (nI n)])), (ma, .inl (cI, L, .inl M)), (ka, .inl (cI, L, .inl K)), (va, .inl (cI, L, .inl V))] s.heap := hP
  have hl := lv_entry ([.ref ta, .int k]) (n := 3) (Nat.le_of_ble_eq_true rfl)
  rw [lg_entry_eq]
  generalize (lg_sl ([.ref ta, .int k]) ++ List.replicate (3 - (lg_sl ([.ref ta, .int k])).length) Slot.unset).toArray = ls at hl ⊢
  have hl : lv_has ls 3 [(0, .ref ta), (1, .int k)] := hl
  have hn8 := q_pw_8 hn
  refine lv_iload_n hx hb dX0_home_0 rfl (lv_at hl 1 rfl) ?_
  refine lv_ldc (v := -1640531535) hx hb hown (hts (.constant RX0 29 (-1640531535)) (by decide +kernel)) dX0_home_1 ?_
  refine lv_imul hx hb dX0_home_3 ?_
  refine lv_istore_n (lv' := [(2, .int (k * (-1640531535))), (0, .ref ta), (1, .int k)]) hx hb dX0_home_4 rfl hl (by decide) rfl (fun ls hl => ?_)
  refine lv_iload_n hx hb dX0_home_5 rfl (lv_at hl 0 rfl) ?_
  refine lv_iload_n hx hb dX0_home_6 rfl (lv_at hl 0 rfl) ?_
  refine lv_bipush (v := 15) hx hb dX0_home_7 (by decide) ?_
  refine lv_iushr (v := ((k * (-1640531535)).toUInt32 >>> ((15 : Int32).toUInt32 &&& Int32.toUInt32 31)).toInt32) hx hb dX0_home_9 rfl ?_
  refine lv_ixor hx hb dX0_home_10 ?_
  refine lv_aload_n hx hb dX0_home_11 rfl (lv_at hl 1 rfl) ?_
  refine va_get (D := (dC, dI)) (ci := 0) (v := .int (nI n)) (C := RX0) (T := TX0) (N := 4) hx hb hts hin_X0_home_X0 hown hK hP 0 rfl rfl 3 (by decide) (hts (.fieldLink RX0 19 "StepMap$Table" "slots" "I") (by decide +kernel)) (fun _ h9 => h9) rfl dX0_home_12 ?_
  refine lv_iconst (v := 1) hx hb dX0_home_15 (by decide) ?_
  refine lv_isub hx hb dX0_home_16 ?_
  refine lv_iand hx hb dX0_home_17 ?_
  exact W.iret (v := ((k * (-1640531535)) ^^^ (((k * (-1640531535)).toUInt32 >>> ((15 : Int32).toUInt32 &&& Int32.toUInt32 31)).toInt32)) &&& ((nI n) - 1)) hx hb hr (fun t ht hW => ⟨_, rfl, q_home_eq hn k, ht⟩) (fun _ h => by cases h) dX0_home_18
set_option maxHeartbeats 4000000 in
set_option maxRecDepth 100000 in
theorem c_X0_next (l : Launch) (dC : Nat → ClassId) (dI : Nat → Nat → Nat) (cI : ClassId) (ta ma ka va L n : Nat) (M K V : Nat → Int32) (a : Nat) (hn : q_pw n) (hnL : n ≤ L) (hL : L ≤ 1024) (ha : a < n) : Met l yX0_next wsX0_next ({ frames := 0, cells := 0, slots := 0, locals := 0 }) (r_Pc (dC, dI) vwCl [(cI, .int)] [(ta, .inr (0, [.ref ma, .ref ka, .ref va, .int (nI n)])), (ma, .inl (cI, L, .inl M)), (ka, .inl (cI, L, .inl K)), (va, .inl (cI, L, .inl V))] [.ref ta, .int (nI a)]) (vp_Si (fun r => r = nI (q_ad n a 1))) 0 0 (fun _ => False) := by
  refine Met.ofW (cc := cX0_next) (maxL := 2) (ret := (some .int)) (by decide) rfl ?_
  intro p e s m args below meth c s₁ Bd hml hv
  obtain ⟨rfl, hP, hK⟩ := hv
  have hx := Bd.exec
  have hb := Bd.bytes
  have hr := Bd.returns
  have hts := atoms_spec (ws := wsX0_next) Bd.pre
  have hown : s.vm.findClass RX0 = some m.cls := findClass_of_methodNamed Bd.named
  have hlocks := Bd.notSynchronized
  have S0 : CallFix p m c cX0_next 2 s _ wsX0_next RX0 := ⟨hx, hb, hml, hown, hts⟩
  have hP : va_P (dC, dI) vwCl [(ta, .inr (0, [.ref ma, .ref ka, .ref va, .int (nI n)])), (ma, .inl (cI, L, .inl M)), (ka, .inl (cI, L, .inl K)), (va, .inl (cI, L, .inl V))] s.heap := hP
  have hl := lv_entry ([.ref ta, .int (nI a)]) (n := 2) (Nat.le_of_ble_eq_true rfl)
  rw [lg_entry_eq]
  generalize (lg_sl ([.ref ta, .int (nI a)]) ++ List.replicate (2 - (lg_sl ([.ref ta, .int (nI a)])).length) Slot.unset).toArray = ls at hl ⊢
  have hl : lv_has ls 2 [(0, .ref ta), (1, .int (nI a))] := hl
  have hn8 := q_pw_8 hn
  refine lv_iload_n hx hb dX0_next_0 rfl (lv_at hl 1 rfl) ?_
  refine lv_iconst (v := 1) hx hb dX0_next_1 (by decide) ?_
  refine lv_iadd hx hb dX0_next_2 ?_
  refine lv_aload_n hx hb dX0_next_3 rfl (lv_at hl 0 rfl) ?_
  refine va_get (D := (dC, dI)) (ci := 0) (v := .int (nI n)) (C := RX0) (T := TX0) (N := 4) hx hb hts hin_X0_next_X0 hown hK hP 0 rfl rfl 3 (by decide) (hts (.fieldLink RX0 19 "StepMap$Table" "slots" "I") (by decide +kernel)) (fun _ h9 => h9) rfl dX0_next_4 ?_
  refine lv_iconst (v := 1) hx hb dX0_next_7 (by decide) ?_
  refine lv_isub hx hb dX0_next_8 ?_
  refine lv_iand hx hb dX0_next_9 ?_
  exact W.iret (v := ((nI a) + 1) &&& ((nI n) - 1)) hx hb hr (fun t ht hW => ⟨_, rfl, q_next_eq hn ha, ht⟩) (fun _ h => by cases h) dX0_next_10
set_option maxHeartbeats 4000000 in
set_option maxRecDepth 100000 in
theorem c_X0_ringDistance (l : Launch) (dC : Nat → ClassId) (dI : Nat → Nat → Nat) (cI : ClassId) (ta ma ka va L n : Nat) (M K V : Nat → Int32) (a b : Nat) (hn : q_pw n) (hnL : n ≤ L) (hL : L ≤ 1024) (ha : a < n) (hb2 : b < n) : Met l yX0_ringDistance wsX0_ringDistance ({ frames := 0, cells := 0, slots := 0, locals := 0 }) (r_Pc (dC, dI) vwCl [(cI, .int)] [(ta, .inr (0, [.ref ma, .ref ka, .ref va, .int (nI n)])), (ma, .inl (cI, L, .inl M)), (ka, .inl (cI, L, .inl K)), (va, .inl (cI, L, .inl V))] [.ref ta, .int (nI a), .int (nI b)]) (vp_Si (fun r => r = nI (q_rd n a b))) 0 0 (fun _ => False) := by
  refine Met.ofW (cc := cX0_ringDistance) (maxL := 3) (ret := (some .int)) (by decide) rfl ?_
  intro p e s m args below meth c s₁ Bd hml hv
  obtain ⟨rfl, hP, hK⟩ := hv
  have hx := Bd.exec
  have hb := Bd.bytes
  have hr := Bd.returns
  have hts := atoms_spec (ws := wsX0_ringDistance) Bd.pre
  have hown : s.vm.findClass RX0 = some m.cls := findClass_of_methodNamed Bd.named
  have hlocks := Bd.notSynchronized
  have S0 : CallFix p m c cX0_ringDistance 3 s _ wsX0_ringDistance RX0 := ⟨hx, hb, hml, hown, hts⟩
  have hP : va_P (dC, dI) vwCl [(ta, .inr (0, [.ref ma, .ref ka, .ref va, .int (nI n)])), (ma, .inl (cI, L, .inl M)), (ka, .inl (cI, L, .inl K)), (va, .inl (cI, L, .inl V))] s.heap := hP
  have hl := lv_entry ([.ref ta, .int (nI a), .int (nI b)]) (n := 3) (Nat.le_of_ble_eq_true rfl)
  rw [lg_entry_eq]
  generalize (lg_sl ([.ref ta, .int (nI a), .int (nI b)]) ++ List.replicate (3 - (lg_sl ([.ref ta, .int (nI a), .int (nI b)])).length) Slot.unset).toArray = ls at hl ⊢
  have hl : lv_has ls 3 [(0, .ref ta), (1, .int (nI a)), (2, .int (nI b))] := hl
  have hn8 := q_pw_8 hn
  refine lv_iload_n hx hb dX0_ringDistance_0 rfl (lv_at hl 2 rfl) ?_
  refine lv_iload_n hx hb dX0_ringDistance_1 rfl (lv_at hl 1 rfl) ?_
  refine lv_isub hx hb dX0_ringDistance_2 ?_
  refine lv_aload_n hx hb dX0_ringDistance_3 rfl (lv_at hl 0 rfl) ?_
  refine va_get (D := (dC, dI)) (ci := 0) (v := .int (nI n)) (C := RX0) (T := TX0) (N := 4) hx hb hts hin_X0_ringDistance_X0 hown hK hP 0 rfl rfl 3 (by decide) (hts (.fieldLink RX0 19 "StepMap$Table" "slots" "I") (by decide +kernel)) (fun _ h9 => h9) rfl dX0_ringDistance_4 ?_
  refine lv_iconst (v := 1) hx hb dX0_ringDistance_7 (by decide) ?_
  refine lv_isub hx hb dX0_ringDistance_8 ?_
  refine lv_iand hx hb dX0_ringDistance_9 ?_
  exact W.iret (v := ((nI b) - (nI a)) &&& ((nI n) - 1)) hx hb hr (fun t ht hW => ⟨_, rfl, q_ring_eq hn ha hb2, ht⟩) (fun _ h => by cases h) dX0_ringDistance_10
set_option maxHeartbeats 4000000 in
set_option maxRecDepth 100000 in
theorem c_X0_holds (l : Launch) (dC : Nat → ClassId) (dI : Nat → Nat → Nat) (cI : ClassId) (ta ma ka va L n : Nat) (M K V : Nat → Int32) (a : Nat) (k : Int32) (hn : q_pw n) (hnL : n ≤ L) (hL : L ≤ 1024) (ha : a < n) : Met l yX0_holds wsX0_holds ({ frames := 0, cells := 0, slots := 0, locals := 0 }) (r_Pc (dC, dI) vwCl [(cI, .int)] [(ta, .inr (0, [.ref ma, .ref ka, .ref va, .int (nI n)])), (ma, .inl (cI, L, .inl M)), (ka, .inl (cI, L, .inl K)), (va, .inl (cI, L, .inl V))] [.ref ta, .int (nI a), .int k]) (vp_Si (fun r => r = q_b (M a = 2 ∧ K a = k))) 0 0 (fun _ => False) := by
  refine Met.ofW (cc := cX0_holds) (maxL := 3) (ret := (some .boolean)) (by decide) rfl ?_
  intro p e s m args below meth c s₁ Bd hml hv
  obtain ⟨rfl, hP, hK⟩ := hv
  have hx := Bd.exec
  have hb := Bd.bytes
  have hr := Bd.returns
  have hts := atoms_spec (ws := wsX0_holds) Bd.pre
  have hown : s.vm.findClass RX0 = some m.cls := findClass_of_methodNamed Bd.named
  have hlocks := Bd.notSynchronized
  have S0 : CallFix p m c cX0_holds 3 s _ wsX0_holds RX0 := ⟨hx, hb, hml, hown, hts⟩
  have hP : va_P (dC, dI) vwCl [(ta, .inr (0, [.ref ma, .ref ka, .ref va, .int (nI n)])), (ma, .inl (cI, L, .inl M)), (ka, .inl (cI, L, .inl K)), (va, .inl (cI, L, .inl V))] s.heap := hP
  have hl := lv_entry ([.ref ta, .int (nI a), .int k]) (n := 3) (Nat.le_of_ble_eq_true rfl)
  rw [lg_entry_eq]
  generalize (lg_sl ([.ref ta, .int (nI a), .int k]) ++ List.replicate (3 - (lg_sl ([.ref ta, .int (nI a), .int k])).length) Slot.unset).toArray = ls at hl ⊢
  have hl : lv_has ls 3 [(0, .ref ta), (1, .int (nI a)), (2, .int k)] := hl
  have hn8 := q_pw_8 hn
  refine lv_aload_n hx hb dX0_holds_0 rfl (lv_at hl 0 rfl) ?_
  refine va_get (D := (dC, dI)) (ci := 0) (v := .ref ma) (C := RX0) (T := TX0) (N := 4) hx hb hts hin_X0_holds_X0 hown hK hP 0 rfl rfl 0 (by decide) (hts (.fieldLink RX0 7 "StepMap$Table" "marks" "[I") (by decide +kernel)) (fun _ h9 => h9) rfl dX0_holds_1 ?_
  refine lv_iload_n hx hb dX0_holds_4 rfl (lv_at hl 1 rfl) ?_
  refine r_ld (i := a) hx hb hK hP 1 0 rfl rfl (by omega) (by omega) dX0_holds_5 ?_
  refine lv_iconst (v := 2) hx hb dX0_holds_6 (by decide) ?_
  refine lv_icmp_ne (tgt := 24) hx hb dX0_holds_7 (by decide) (fun c_7 => ?_) (fun c_7 => ?_)
  · refine lv_iconst (v := 0) hx hb dX0_holds_24 (by decide) ?_
    exact W.zret (v := 0) hx hb hr (rfl) (fun t ht hW => ⟨_, rfl, (q_b_f (fun z => c_7 z.1)).symm, ht⟩) (fun _ h => by cases h) dX0_holds_25
  · refine lv_aload_n hx hb dX0_holds_10 rfl (lv_at hl 0 rfl) ?_
    refine va_get (D := (dC, dI)) (ci := 0) (v := .ref ka) (C := RX0) (T := TX0) (N := 4) hx hb hts hin_X0_holds_X0 hown hK hP 0 rfl rfl 1 (by decide) (hts (.fieldLink RX0 13 "StepMap$Table" "keys" "[I") (by decide +kernel)) (fun _ h9 => h9) rfl dX0_holds_11 ?_
    refine lv_iload_n hx hb dX0_holds_14 rfl (lv_at hl 1 rfl) ?_
    refine r_ld (i := a) hx hb hK hP 2 0 rfl rfl (by omega) (by omega) dX0_holds_15 ?_
    refine lv_iload_n hx hb dX0_holds_16 rfl (lv_at hl 2 rfl) ?_
    refine lv_icmp_ne (tgt := 24) hx hb dX0_holds_17 (by decide) (fun c_17 => ?_) (fun c_17 => ?_)
    · refine lv_iconst (v := 0) hx hb dX0_holds_24 (by decide) ?_
      exact W.zret (v := 0) hx hb hr (rfl) (fun t ht hW => ⟨_, rfl, (q_b_f (fun z => c_17 z.2)).symm, ht⟩) (fun _ h => by cases h) dX0_holds_25
    · refine lv_iconst (v := 1) hx hb dX0_holds_20 (by decide) ?_
      refine lv_goto (tgt := 25) hx hb dX0_holds_21 (by decide) ?_
      exact W.zret (v := 1) hx hb hr (rfl) (fun t ht hW => ⟨_, rfl, (q_b_t ⟨c_7, c_17⟩).symm, ht⟩) (fun _ h => by cases h) dX0_holds_25
set_option maxHeartbeats 4000000 in
set_option maxRecDepth 100000 in
theorem c_X0_endsSearch (l : Launch) (dC : Nat → ClassId) (dI : Nat → Nat → Nat) (cI : ClassId) (ta ma ka va L n : Nat) (M K V : Nat → Int32) (a : Nat) (k : Int32) (hn : q_pw n) (hnL : n ≤ L) (hL : L ≤ 1024) (ha : a < n) : Met l yX0_endsSearch wsX0_endsSearch ({ frames := 1, cells := 0, slots := 0, locals := 22 }) (r_Pc (dC, dI) vwCl [(cI, .int)] [(ta, .inr (0, [.ref ma, .ref ka, .ref va, .int (nI n)])), (ma, .inl (cI, L, .inl M)), (ka, .inl (cI, L, .inl K)), (va, .inl (cI, L, .inl V))] [.ref ta, .int (nI a), .int k]) (vp_Si (fun r => r = q_b (q_stp M K k a))) 0 0 (fun _ => False) := by
  refine Met.ofW (cc := cX0_endsSearch) (maxL := 3) (ret := (some .boolean)) (by decide) rfl ?_
  intro p e s m args below meth c s₁ Bd hml hv
  obtain ⟨rfl, hP, hK⟩ := hv
  have hx := Bd.exec
  have hb := Bd.bytes
  have hr := Bd.returns
  have hts := atoms_spec (ws := wsX0_endsSearch) Bd.pre
  have hown : s.vm.findClass RX0 = some m.cls := findClass_of_methodNamed Bd.named
  have hlocks := Bd.notSynchronized
  have S0 : CallFix p m c cX0_endsSearch 3 s _ wsX0_endsSearch RX0 := ⟨hx, hb, hml, hown, hts⟩
  have hP : va_P (dC, dI) vwCl [(ta, .inr (0, [.ref ma, .ref ka, .ref va, .int (nI n)])), (ma, .inl (cI, L, .inl M)), (ka, .inl (cI, L, .inl K)), (va, .inl (cI, L, .inl V))] s.heap := hP
  have hl := lv_entry ([.ref ta, .int (nI a), .int k]) (n := 3) (Nat.le_of_ble_eq_true rfl)
  rw [lg_entry_eq]
  generalize (lg_sl ([.ref ta, .int (nI a), .int k]) ++ List.replicate (3 - (lg_sl ([.ref ta, .int (nI a), .int k])).length) Slot.unset).toArray = ls at hl ⊢
  have hl : lv_has ls 3 [(0, .ref ta), (1, .int (nI a)), (2, .int k)] := hl
  have hn8 := q_pw_8 hn
  refine lv_aload_n hx hb dX0_endsSearch_0 rfl (lv_at hl 0 rfl) ?_
  refine va_get (D := (dC, dI)) (ci := 0) (v := .ref ma) (C := RX0) (T := TX0) (N := 4) hx hb hts hin_X0_endsSearch_X0 hown hK hP 0 rfl rfl 0 (by decide) (hts (.fieldLink RX0 7 "StepMap$Table" "marks" "[I") (by decide +kernel)) (fun _ h9 => h9) rfl dX0_endsSearch_1 ?_
  refine lv_iload_n hx hb dX0_endsSearch_4 rfl (lv_at hl 1 rfl) ?_
  refine r_ld (i := a) hx hb hK hP 1 0 rfl rfl (by omega) (by omega) dX0_endsSearch_5 ?_
  refine lv_if_eq (tgt := 18) hx hb dX0_endsSearch_6 (by decide) (fun c_6 => ?_) (fun c_6 => ?_)
  · refine lv_iconst (v := 1) hx hb dX0_endsSearch_18 (by decide) ?_
    refine lv_goto (tgt := 23) hx hb dX0_endsSearch_19 (by decide) ?_
    exact W.zret (v := 1) hx hb hr (rfl) (fun t ht hW => ⟨_, rfl, (q_b_t (Or.inl c_6)).symm, ht⟩) (fun _ h => by cases h) dX0_endsSearch_23
  · refine lv_aload_n hx hb dX0_endsSearch_9 rfl (lv_at hl 0 rfl) ?_
    refine lv_iload_n hx hb dX0_endsSearch_10 rfl (lv_at hl 1 rfl) ?_
    refine lv_iload_n hx hb dX0_endsSearch_11 rfl (lv_at hl 2 rfl) ?_
    refine r_roV (rest := []) S0 (c_X0_holds l dC dI cI ta ma ka va L n M K V a k (by assumption) (by omega) (by omega) (by omega)) (cwV 2 hts gX0_endsSearch_X0_holds rfl rfl rfl (by decide +kernel) ⟨Nat.le_of_ble_eq_true rfl, Nat.le_of_ble_eq_true rfl⟩) hK hP [0, 1, 2, 3] rfl (ci := 0) (q0 := 0) rfl rfl rfl rfl hl.1 rfl (Nat.le_of_ble_eq_true rfl) dX0_endsSearch_12 ⟨Nat.zero_le _, Nat.zero_le _⟩ ?_
    refine lv_if_eq (tgt := 22) hx hb dX0_endsSearch_15 (by decide) (fun c_15 => ?_) (fun c_15 => ?_)
    · have h_15 : ¬ (M a = 2 ∧ K a = k) := q_b_0.mp c_15
      refine lv_iconst (v := 0) hx hb dX0_endsSearch_22 (by decide) ?_
      exact W.zret (v := 0) hx hb hr (rfl) (fun t ht hW => ⟨_, rfl, (q_b_f (fun z => z.elim c_6 h_15)).symm, ht⟩) (fun _ h => by cases h) dX0_endsSearch_23
    · have h_15 : (M a = 2 ∧ K a = k) := q_b_n0 c_15
      refine lv_iconst (v := 1) hx hb dX0_endsSearch_18 (by decide) ?_
      refine lv_goto (tgt := 23) hx hb dX0_endsSearch_19 (by decide) ?_
      exact W.zret (v := 1) hx hb hr (rfl) (fun t ht hW => ⟨_, rfl, (q_b_t (Or.inr h_15)).symm, ht⟩) (fun _ h => by cases h) dX0_endsSearch_23
set_option maxHeartbeats 4000000 in
set_option maxRecDepth 100000 in
theorem c_X0_reachesBack (l : Launch) (dC : Nat → ClassId) (dI : Nat → Nat → Nat) (cI : ClassId) (ta ma ka va L n : Nat) (M K V : Nat → Int32) (a f : Nat) (hn : q_pw n) (hnL : n ≤ L) (hL : L ≤ 1024) (ha : a < n) (hf : f < n) : Met l yX0_reachesBack wsX0_reachesBack ({ frames := 1, cells := 0, slots := 0, locals := 22 }) (r_Pc (dC, dI) vwCl [(cI, .int)] [(ta, .inr (0, [.ref ma, .ref ka, .ref va, .int (nI n)])), (ma, .inl (cI, L, .inl M)), (ka, .inl (cI, L, .inl K)), (va, .inl (cI, L, .inl V))] [.ref ta, .int (nI a), .int (nI f)]) (vp_Si (fun r => r = q_b (q_rd n f a ≤ q_rd n (q_hm n (K a)) a))) 0 0 (fun _ => False) := by
  refine Met.ofW (cc := cX0_reachesBack) (maxL := 3) (ret := (some .boolean)) (by decide) rfl ?_
  intro p e s m args below meth c s₁ Bd hml hv
  obtain ⟨rfl, hP, hK⟩ := hv
  have hx := Bd.exec
  have hb := Bd.bytes
  have hr := Bd.returns
  have hts := atoms_spec (ws := wsX0_reachesBack) Bd.pre
  have hown : s.vm.findClass RX0 = some m.cls := findClass_of_methodNamed Bd.named
  have hlocks := Bd.notSynchronized
  have S0 : CallFix p m c cX0_reachesBack 3 s _ wsX0_reachesBack RX0 := ⟨hx, hb, hml, hown, hts⟩
  have hP : va_P (dC, dI) vwCl [(ta, .inr (0, [.ref ma, .ref ka, .ref va, .int (nI n)])), (ma, .inl (cI, L, .inl M)), (ka, .inl (cI, L, .inl K)), (va, .inl (cI, L, .inl V))] s.heap := hP
  have hl := lv_entry ([.ref ta, .int (nI a), .int (nI f)]) (n := 3) (Nat.le_of_ble_eq_true rfl)
  rw [lg_entry_eq]
  generalize (lg_sl ([.ref ta, .int (nI a), .int (nI f)]) ++ List.replicate (3 - (lg_sl ([.ref ta, .int (nI a), .int (nI f)])).length) Slot.unset).toArray = ls at hl ⊢
  have hl : lv_has ls 3 [(0, .ref ta), (1, .int (nI a)), (2, .int (nI f))] := hl
  have hn8 := q_pw_8 hn
  refine lv_aload_n hx hb dX0_reachesBack_0 rfl (lv_at hl 0 rfl) ?_
  refine lv_aload_n hx hb dX0_reachesBack_1 rfl (lv_at hl 0 rfl) ?_
  refine lv_aload_n hx hb dX0_reachesBack_2 rfl (lv_at hl 0 rfl) ?_
  refine va_get (D := (dC, dI)) (ci := 0) (v := .ref ka) (C := RX0) (T := TX0) (N := 4) hx hb hts hin_X0_reachesBack_X0 hown hK hP 0 rfl rfl 1 (by decide) (hts (.fieldLink RX0 13 "StepMap$Table" "keys" "[I") (by decide +kernel)) (fun _ h9 => h9) rfl dX0_reachesBack_3 ?_
  refine lv_iload_n hx hb dX0_reachesBack_6 rfl (lv_at hl 1 rfl) ?_
  refine r_ld (i := a) hx hb hK hP 2 0 rfl rfl (by omega) (by omega) dX0_reachesBack_7 ?_
  refine r_roV (rest := [.ref ta]) S0 (c_X0_home l dC dI cI ta ma ka va L n M K V (K a) (by assumption) (by omega) (by omega)) (cwV 1 hts gX0_reachesBack_X0_home rfl rfl rfl (by decide +kernel) ⟨Nat.le_of_ble_eq_true rfl, Nat.le_of_ble_eq_true rfl⟩) hK hP [0, 1, 2, 3] rfl (ci := 0) (q0 := 0) rfl rfl rfl rfl hl.1 rfl (Nat.le_of_ble_eq_true rfl) dX0_reachesBack_8 ⟨Nat.zero_le _, Nat.zero_le _⟩ ?_
  have hh := q_hm_lt (K a) (show 0 < n by omega)
  refine lv_iload_n hx hb dX0_reachesBack_11 rfl (lv_at hl 1 rfl) ?_
  refine r_roV (rest := []) S0 (c_X0_ringDistance l dC dI cI ta ma ka va L n M K V (q_hm n (K a)) a (by assumption) (by omega) (by omega) (by omega) (by omega)) (cwV 2 hts gX0_reachesBack_X0_ringDistance rfl rfl rfl (by decide +kernel) ⟨Nat.le_of_ble_eq_true rfl, Nat.le_of_ble_eq_true rfl⟩) hK hP [0, 1, 2, 3] rfl (ci := 0) (q0 := 0) rfl rfl rfl rfl hl.1 rfl (Nat.le_of_ble_eq_true rfl) dX0_reachesBack_12 ⟨Nat.zero_le _, Nat.zero_le _⟩ ?_
  refine lv_aload_n hx hb dX0_reachesBack_15 rfl (lv_at hl 0 rfl) ?_
  refine lv_iload_n hx hb dX0_reachesBack_16 rfl (lv_at hl 2 rfl) ?_
  refine lv_iload_n hx hb dX0_reachesBack_17 rfl (lv_at hl 1 rfl) ?_
  refine r_roV (rest := [.int (nI (q_rd n (q_hm n (K a)) a))]) S0 (c_X0_ringDistance l dC dI cI ta ma ka va L n M K V f a (by assumption) (by omega) (by omega) (by omega) (by omega)) (cwV 2 hts gX0_reachesBack_X0_ringDistance rfl rfl rfl (by decide +kernel) ⟨Nat.le_of_ble_eq_true rfl, Nat.le_of_ble_eq_true rfl⟩) hK hP [0, 1, 2, 3] rfl (ci := 0) (q0 := 0) rfl rfl rfl rfl hl.1 rfl (Nat.le_of_ble_eq_true rfl) dX0_reachesBack_18 ⟨Nat.zero_le _, Nat.zero_le _⟩ ?_
  have hr1 := q_rd_lt hh ha
  have hr2 := q_rd_lt hf ha
  refine lv_icmp_lt (tgt := 28) hx hb dX0_reachesBack_21 (by decide) (fun c_21 => ?_) (fun c_21 => ?_)
  · have h_21 := q_lt_t (a := q_rd n (q_hm n (K a)) a) (b := q_rd n f a) (by omega) (by omega) c_21
    refine lv_iconst (v := 0) hx hb dX0_reachesBack_28 (by decide) ?_
    exact W.zret (v := 0) hx hb hr (rfl) (fun t ht hW => ⟨_, rfl, (q_b_f (by omega)).symm, ht⟩) (fun _ h => by cases h) dX0_reachesBack_29
  · have h_21 := q_lt_f (a := q_rd n (q_hm n (K a)) a) (b := q_rd n f a) (by omega) (by omega) c_21
    refine lv_iconst (v := 1) hx hb dX0_reachesBack_24 (by decide) ?_
    refine lv_goto (tgt := 29) hx hb dX0_reachesBack_25 (by decide) ?_
    exact W.zret (v := 1) hx hb hr (rfl) (fun t ht hW => ⟨_, rfl, (q_b_t h_21).symm, ht⟩) (fun _ h => by cases h) dX0_reachesBack_29
set_option maxHeartbeats 4000000 in
set_option maxRecDepth 100000 in
theorem c_X0_fill (l : Launch) (dC : Nat → ClassId) (dI : Nat → Nat → Nat) (cI : ClassId) (ta ma ka va L n : Nat) (M K V : Nat → Int32) (a : Nat) (k v : Int32) (sz : Nat) (hn : q_pw n) (hnL : n ≤ L) (hL : L ≤ 1024) (ha : a < n) : Met l yX0_fill wsX0_fill ({ frames := 0, cells := 0, slots := 0, locals := 0 }) (r_Mc (dC, dI) vwCl [(cI, .int)] [(ta, .inr (0, [.ref ma, .ref ka, .ref va, .int (nI n)])), (ma, .inl (cI, L, .inl M)), (ka, .inl (cI, L, .inl K)), (va, .inl (cI, L, .inl V))] sz [.ref ta, .int (nI a), .int k, .int v]) (va_Qv (fun (_ : Unit) => True) (fun u t => r_B (dC, dI) vwCl [(cI, .int)] (va_A [(ta, .inr (0, [.ref ma, .ref ka, .ref va, .int (nI n)])), (ma, .inl (cI, L, .inl M)), (ka, .inl (cI, L, .inl K)), (va, .inl (cI, L, .inl V))] sz) ((fun _ => [(ta, .inr (0, [.ref ma, .ref ka, .ref va, .int (nI n)])), (ma, .inl (cI, L, .inl (upd M a 2))), (ka, .inl (cI, L, .inl (upd K a k))), (va, .inl (cI, L, .inl (upd V a v)))]) u) t) (va_A [(ta, .inr (0, [.ref ma, .ref ka, .ref va, .int (nI n)])), (ma, .inl (cI, L, .inl M)), (ka, .inl (cI, L, .inl K)), (va, .inl (cI, L, .inl V))] sz)) 0 0 (va_A [(ta, .inr (0, [.ref ma, .ref ka, .ref va, .int (nI n)])), (ma, .inl (cI, L, .inl M)), (ka, .inl (cI, L, .inl K)), (va, .inl (cI, L, .inl V))] sz) := by
  refine Met.ofW (cc := cX0_fill) (maxL := 4) (ret := none) (by decide) rfl ?_
  intro p e s m args below meth c s₁ Bd hml hv
  obtain ⟨rfl, hsz, hP, hK, hD0⟩ := hv
  have hx := Bd.exec
  have hb := Bd.bytes
  have hr := Bd.returns
  have hts := atoms_spec (ws := wsX0_fill) Bd.pre
  have hown : s.vm.findClass RX0 = some m.cls := findClass_of_methodNamed Bd.named
  have hlocks := Bd.notSynchronized
  have S0 : CallFix p m c cX0_fill 4 s _ wsX0_fill RX0 := ⟨hx, hb, hml, hown, hts⟩
  subst hsz
  have hD := hD0.self (sz := s.heap.size)
  generalize hAe : va_A [(ta, .inr (0, [.ref ma, .ref ka, .ref va, .int (nI n)])), (ma, .inl (cI, L, .inl M)), (ka, .inl (cI, L, .inl K)), (va, .inl (cI, L, .inl V))] s.heap.size = Aq at hD ⊢
  have hA : ∀ q : Nat, s.heap.size ≤ q → Aq q := fun q h => by rw [← hAe]; exact Or.inr h
  have hS : va_S Aq s.heap s.heap [] := va_S.rf
  have hD : va_D Aq [(ta, .inr (0, [.ref ma, .ref ka, .ref va, .int (nI n)])), (ma, .inl (cI, L, .inl M)), (ka, .inl (cI, L, .inl K)), (va, .inl (cI, L, .inl V))] := hD
  have hP : va_P (dC, dI) vwCl [(ta, .inr (0, [.ref ma, .ref ka, .ref va, .int (nI n)])), (ma, .inl (cI, L, .inl M)), (ka, .inl (cI, L, .inl K)), (va, .inl (cI, L, .inl V))] s.heap := hP
  have hl := lv_entry ([.ref ta, .int (nI a), .int k, .int v]) (n := 4) (Nat.le_of_ble_eq_true rfl)
  rw [lg_entry_eq]
  generalize (lg_sl ([.ref ta, .int (nI a), .int k, .int v]) ++ List.replicate (4 - (lg_sl ([.ref ta, .int (nI a), .int k, .int v])).length) Slot.unset).toArray = ls at hl ⊢
  have hl : lv_has ls 4 [(0, .ref ta), (1, .int (nI a)), (2, .int k), (3, .int v)] := hl
  have hn8 := q_pw_8 hn
  refine lv_aload_n hx hb dX0_fill_0 rfl (lv_at hl 0 rfl) ?_
  refine va_get (D := (dC, dI)) (ci := 0) (v := .ref ma) (C := RX0) (T := TX0) (N := 4) hx hb hts hin_X0_fill_X0 hown hK hP 0 rfl rfl 0 (by decide) (hts (.fieldLink RX0 7 "StepMap$Table" "marks" "[I") (by decide +kernel)) (fun _ h9 => h9) rfl dX0_fill_1 ?_
  refine lv_iload_n hx hb dX0_fill_4 rfl (lv_at hl 1 rfl) ?_
  refine lv_iconst (v := 2) hx hb dX0_fill_5 (by decide) ?_
  refine r_st (i := a) hx hb hK hP hD hS 1 0 rfl rfl (by omega) (by omega) dX0_fill_6 (fun H locs hP hD hS => ?_)
  have hP : va_P (dC, dI) vwCl [(ta, .inr (0, [.ref ma, .ref ka, .ref va, .int (nI n)])), (ma, .inl (cI, L, .inl (upd M a 2))), (ka, .inl (cI, L, .inl K)), (va, .inl (cI, L, .inl V))] H := hP
  have hD : va_D Aq [(ta, .inr (0, [.ref ma, .ref ka, .ref va, .int (nI n)])), (ma, .inl (cI, L, .inl (upd M a 2))), (ka, .inl (cI, L, .inl K)), (va, .inl (cI, L, .inl V))] := hD
  refine lv_aload_n hx hb dX0_fill_7 rfl (lv_at hl 0 rfl) ?_
  refine va_get (D := (dC, dI)) (ci := 0) (v := .ref ka) (C := RX0) (T := TX0) (N := 4) hx hb hts hin_X0_fill_X0 hown hK hP 0 rfl rfl 1 (by decide) (hts (.fieldLink RX0 13 "StepMap$Table" "keys" "[I") (by decide +kernel)) (fun _ h9 => h9) rfl dX0_fill_8 ?_
  refine lv_iload_n hx hb dX0_fill_11 rfl (lv_at hl 1 rfl) ?_
  refine lv_iload_n hx hb dX0_fill_12 rfl (lv_at hl 2 rfl) ?_
  refine r_st (i := a) hx hb hK hP hD hS 2 0 rfl rfl (by omega) (by omega) dX0_fill_13 (fun H locs hP hD hS => ?_)
  have hP : va_P (dC, dI) vwCl [(ta, .inr (0, [.ref ma, .ref ka, .ref va, .int (nI n)])), (ma, .inl (cI, L, .inl (upd M a 2))), (ka, .inl (cI, L, .inl (upd K a k))), (va, .inl (cI, L, .inl V))] H := hP
  have hD : va_D Aq [(ta, .inr (0, [.ref ma, .ref ka, .ref va, .int (nI n)])), (ma, .inl (cI, L, .inl (upd M a 2))), (ka, .inl (cI, L, .inl (upd K a k))), (va, .inl (cI, L, .inl V))] := hD
  refine lv_aload_n hx hb dX0_fill_14 rfl (lv_at hl 0 rfl) ?_
  refine va_get (D := (dC, dI)) (ci := 0) (v := .ref va) (C := RX0) (T := TX0) (N := 4) hx hb hts hin_X0_fill_X0 hown hK hP 0 rfl rfl 2 (by decide) (hts (.fieldLink RX0 16 "StepMap$Table" "values" "[I") (by decide +kernel)) (fun _ h9 => h9) rfl dX0_fill_15 ?_
  refine lv_iload_n hx hb dX0_fill_18 rfl (lv_at hl 1 rfl) ?_
  refine lv_iload_n hx hb dX0_fill_19 rfl (lv_at hl 3 rfl) ?_
  refine r_st (i := a) hx hb hK hP hD hS 3 0 rfl rfl (by omega) (by omega) dX0_fill_20 (fun H locs hP hD hS => ?_)
  have hP : va_P (dC, dI) vwCl [(ta, .inr (0, [.ref ma, .ref ka, .ref va, .int (nI n)])), (ma, .inl (cI, L, .inl (upd M a 2))), (ka, .inl (cI, L, .inl (upd K a k))), (va, .inl (cI, L, .inl (upd V a v)))] H := hP
  have hD : va_D Aq [(ta, .inr (0, [.ref ma, .ref ka, .ref va, .int (nI n)])), (ma, .inl (cI, L, .inl (upd M a 2))), (ka, .inl (cI, L, .inl (upd K a k))), (va, .inl (cI, L, .inl (upd V a v)))] := hD
  exact W.vret hx hb hr (fun t ht hW => ⟨⟨(), rfl, trivial, by rw [ht]; exact hP, va_K.moved hW.alike hK, hD⟩, hS.F ht⟩) hS.2.2 dX0_fill_21
set_option maxHeartbeats 4000000 in
set_option maxRecDepth 100000 in
theorem c_X0_shift (l : Launch) (dC : Nat → ClassId) (dI : Nat → Nat → Nat) (cI : ClassId) (ta ma ka va L n : Nat) (M K V : Nat → Int32) (a b : Nat) (sz : Nat) (hn : q_pw n) (hnL : n ≤ L) (hL : L ≤ 1024) (ha : a < n) (hb2 : b < n) : Met l yX0_shift wsX0_shift ({ frames := 1, cells := 0, slots := 0, locals := 23 }) (r_Mc (dC, dI) vwCl [(cI, .int)] [(ta, .inr (0, [.ref ma, .ref ka, .ref va, .int (nI n)])), (ma, .inl (cI, L, .inl M)), (ka, .inl (cI, L, .inl K)), (va, .inl (cI, L, .inl V))] sz [.ref ta, .int (nI a), .int (nI b)]) (va_Qv (fun (_ : Unit) => True) (fun u t => r_B (dC, dI) vwCl [(cI, .int)] (va_A [(ta, .inr (0, [.ref ma, .ref ka, .ref va, .int (nI n)])), (ma, .inl (cI, L, .inl M)), (ka, .inl (cI, L, .inl K)), (va, .inl (cI, L, .inl V))] sz) ((fun _ => [(ta, .inr (0, [.ref ma, .ref ka, .ref va, .int (nI n)])), (ma, .inl (cI, L, .inl (upd (upd M b 2) a 0))), (ka, .inl (cI, L, .inl (upd K b (K a)))), (va, .inl (cI, L, .inl (upd V b (V a))))]) u) t) (va_A [(ta, .inr (0, [.ref ma, .ref ka, .ref va, .int (nI n)])), (ma, .inl (cI, L, .inl M)), (ka, .inl (cI, L, .inl K)), (va, .inl (cI, L, .inl V))] sz)) 0 0 (va_A [(ta, .inr (0, [.ref ma, .ref ka, .ref va, .int (nI n)])), (ma, .inl (cI, L, .inl M)), (ka, .inl (cI, L, .inl K)), (va, .inl (cI, L, .inl V))] sz) := by
  refine Met.ofW (cc := cX0_shift) (maxL := 3) (ret := none) (by decide) rfl ?_
  intro p e s m args below meth c s₁ Bd hml hv
  obtain ⟨rfl, hsz, hP, hK, hD0⟩ := hv
  have hx := Bd.exec
  have hb := Bd.bytes
  have hr := Bd.returns
  have hts := atoms_spec (ws := wsX0_shift) Bd.pre
  have hown : s.vm.findClass RX0 = some m.cls := findClass_of_methodNamed Bd.named
  have hlocks := Bd.notSynchronized
  have S0 : CallFix p m c cX0_shift 3 s _ wsX0_shift RX0 := ⟨hx, hb, hml, hown, hts⟩
  subst hsz
  have hD := hD0.self (sz := s.heap.size)
  generalize hAe : va_A [(ta, .inr (0, [.ref ma, .ref ka, .ref va, .int (nI n)])), (ma, .inl (cI, L, .inl M)), (ka, .inl (cI, L, .inl K)), (va, .inl (cI, L, .inl V))] s.heap.size = Aq at hD ⊢
  have hA : ∀ q : Nat, s.heap.size ≤ q → Aq q := fun q h => by rw [← hAe]; exact Or.inr h
  have hS : va_S Aq s.heap s.heap [] := va_S.rf
  have hD : va_D Aq [(ta, .inr (0, [.ref ma, .ref ka, .ref va, .int (nI n)])), (ma, .inl (cI, L, .inl M)), (ka, .inl (cI, L, .inl K)), (va, .inl (cI, L, .inl V))] := hD
  have hP : va_P (dC, dI) vwCl [(ta, .inr (0, [.ref ma, .ref ka, .ref va, .int (nI n)])), (ma, .inl (cI, L, .inl M)), (ka, .inl (cI, L, .inl K)), (va, .inl (cI, L, .inl V))] s.heap := hP
  have hl := lv_entry ([.ref ta, .int (nI a), .int (nI b)]) (n := 3) (Nat.le_of_ble_eq_true rfl)
  rw [lg_entry_eq]
  generalize (lg_sl ([.ref ta, .int (nI a), .int (nI b)]) ++ List.replicate (3 - (lg_sl ([.ref ta, .int (nI a), .int (nI b)])).length) Slot.unset).toArray = ls at hl ⊢
  have hl : lv_has ls 3 [(0, .ref ta), (1, .int (nI a)), (2, .int (nI b))] := hl
  have hn8 := q_pw_8 hn
  refine lv_aload_n hx hb dX0_shift_0 rfl (lv_at hl 0 rfl) ?_
  refine lv_iload_n hx hb dX0_shift_1 rfl (lv_at hl 2 rfl) ?_
  refine lv_aload_n hx hb dX0_shift_2 rfl (lv_at hl 0 rfl) ?_
  refine va_get (D := (dC, dI)) (ci := 0) (v := .ref ka) (C := RX0) (T := TX0) (N := 4) hx hb hts hin_X0_shift_X0 hown hK hP 0 rfl rfl 1 (by decide) (hts (.fieldLink RX0 13 "StepMap$Table" "keys" "[I") (by decide +kernel)) (fun _ h9 => h9) rfl dX0_shift_3 ?_
  refine lv_iload_n hx hb dX0_shift_6 rfl (lv_at hl 1 rfl) ?_
  refine r_ld (i := a) hx hb hK hP 2 0 rfl rfl (by omega) (by omega) dX0_shift_7 ?_
  refine lv_aload_n hx hb dX0_shift_8 rfl (lv_at hl 0 rfl) ?_
  refine va_get (D := (dC, dI)) (ci := 0) (v := .ref va) (C := RX0) (T := TX0) (N := 4) hx hb hts hin_X0_shift_X0 hown hK hP 0 rfl rfl 2 (by decide) (hts (.fieldLink RX0 16 "StepMap$Table" "values" "[I") (by decide +kernel)) (fun _ h9 => h9) rfl dX0_shift_9 ?_
  refine lv_iload_n hx hb dX0_shift_12 rfl (lv_at hl 1 rfl) ?_
  refine r_ld (i := a) hx hb hK hP 3 0 rfl rfl (by omega) (by omega) dX0_shift_13 ?_
  refine r_muV (wr := []) (rest := []) S0 (c_X0_fill l dC dI cI ta ma ka va L n M K V b (K a) (V a) s.heap.size (by assumption) (by omega) (by omega) (by omega)) (cwV 3 hts gX0_shift_X0_fill rfl rfl rfl (by decide +kernel) ⟨Nat.le_of_ble_eq_true rfl, Nat.le_of_ble_eq_true rfl⟩) hK hP hD hS hA [0, 1, 2, 3] [] rfl rfl (by decide) (by decide) (by decide) (ci := 0) (q0 := 0) rfl rfl rfl rfl hl.1 rfl (Nat.le_of_ble_eq_true rfl) dX0_shift_14 ⟨Nat.zero_le _, Nat.zero_le _⟩ (fun _ H locs hu hP hD hS => ?_)
  have hP : va_P (dC, dI) vwCl [(ta, .inr (0, [.ref ma, .ref ka, .ref va, .int (nI n)])), (ma, .inl (cI, L, .inl (upd M b 2))), (ka, .inl (cI, L, .inl (upd K b (K a)))), (va, .inl (cI, L, .inl (upd V b (V a))))] H := hP.sub [0, 1, 2, 3] rfl
  have hD : va_D Aq [(ta, .inr (0, [.ref ma, .ref ka, .ref va, .int (nI n)])), (ma, .inl (cI, L, .inl (upd M b 2))), (ka, .inl (cI, L, .inl (upd K b (K a)))), (va, .inl (cI, L, .inl (upd V b (V a))))] := hD.sub [0, 1, 2, 3] (by decide) rfl
  refine lv_aload_n hx hb dX0_shift_17 rfl (lv_at hl 0 rfl) ?_
  refine va_get (D := (dC, dI)) (ci := 0) (v := .ref ma) (C := RX0) (T := TX0) (N := 4) hx hb hts hin_X0_shift_X0 hown hK hP 0 rfl rfl 0 (by decide) (hts (.fieldLink RX0 7 "StepMap$Table" "marks" "[I") (by decide +kernel)) (fun _ h9 => h9) rfl dX0_shift_18 ?_
  refine lv_iload_n hx hb dX0_shift_21 rfl (lv_at hl 1 rfl) ?_
  refine lv_iconst (v := 0) hx hb dX0_shift_22 (by decide) ?_
  refine r_st (i := a) hx hb hK hP hD hS 1 0 rfl rfl (by omega) (by omega) dX0_shift_23 (fun H locs hP hD hS => ?_)
  have hP : va_P (dC, dI) vwCl [(ta, .inr (0, [.ref ma, .ref ka, .ref va, .int (nI n)])), (ma, .inl (cI, L, .inl (upd (upd M b 2) a 0))), (ka, .inl (cI, L, .inl (upd K b (K a)))), (va, .inl (cI, L, .inl (upd V b (V a))))] H := hP
  have hD : va_D Aq [(ta, .inr (0, [.ref ma, .ref ka, .ref va, .int (nI n)])), (ma, .inl (cI, L, .inl (upd (upd M b 2) a 0))), (ka, .inl (cI, L, .inl (upd K b (K a)))), (va, .inl (cI, L, .inl (upd V b (V a))))] := hD
  exact W.vret hx hb hr (fun t ht hW => ⟨⟨(), rfl, trivial, by rw [ht]; exact hP, va_K.moved hW.alike hK, hD⟩, hS.F ht⟩) hS.2.2 dX0_shift_24
set_option maxHeartbeats 4000000 in
set_option maxRecDepth 100000 in
theorem lp_X0_clear {p : Program} {l : Launch} {e : Env} {s : State} {m : MethodId} {args : Array Value} {below : List Frame} {meth : Method} {c : Code} {Q : State → Prop} {dC : Nat → ClassId} {dI : Nat → Nat → Nat} {cI : ClassId} {Aq : Nat → Prop} {H0 : Heap} (S0 : CallFix p m c cX0_clear 3 s args wsX0_clear RX0) (hK : va_K (dC, dI) vwCl [(cI, .int)] s) (hA : ∀ q : Nat, H0.size ≤ q → Aq q) (ta ma ka va L q : Nat) (M K V : Nat → Int32) (hq : q ≤ L) (hL : L ≤ 1024)
    (kk : ∀ (H : Heap) (locs : List Loc) (ls : Array Slot), va_P (dC, dI) vwCl [(ta, .inr (0, [.ref ma, .ref ka, .ref va, .int (nI q)])), (ma, .inl (cI, L, .inl (q_cl M q))), (ka, .inl (cI, L, .inl K)), (va, .inl (cI, L, .inl V))] H → va_D Aq [(ta, .inr (0, [.ref ma, .ref ka, .ref va, .int (nI q)])), (ma, .inl (cI, L, .inl (q_cl M q))), (ka, .inl (cI, L, .inl K)), (va, .inl (cI, L, .inl V))] → va_S Aq H0 H locs → lv_has ls 3 [(0, .ref ta), (1, .int (nI q)), (2, .int (nI q))] → W p l e ({ frames := 1, cells := 0, slots := 0, locals := 21 }) s m args below meth c H locs 0 0 Q (F0 m 36 ls [])) :
    ∀ (f : Nat) (i : Nat), i + f = q → ∀ (H : Heap) (locs : List Loc) (ls : Array Slot), va_P (dC, dI) vwCl [(ta, .inr (0, [.ref ma, .ref ka, .ref va, .int (nI q)])), (ma, .inl (cI, L, .inl (q_cl M i))), (ka, .inl (cI, L, .inl K)), (va, .inl (cI, L, .inl V))] H → va_D Aq [(ta, .inr (0, [.ref ma, .ref ka, .ref va, .int (nI q)])), (ma, .inl (cI, L, .inl (q_cl M i))), (ka, .inl (cI, L, .inl K)), (va, .inl (cI, L, .inl V))] → va_S Aq H0 H locs → lv_has ls 3 [(0, .ref ta), (1, .int (nI q)), (2, .int (nI i))] → W p l e ({ frames := 1, cells := 0, slots := 0, locals := 21 }) s m args below meth c H locs 0 0 Q (F0 m 15 ls []) := by
  obtain ⟨hx, hb, hml, hown, hts⟩ := id S0
  intro f
  induction f with
  | zero =>
    intro i hi H locs ls hP hD hS hl
    refine lv_iload_n hx hb dX0_clear_15 rfl (lv_at hl 2 rfl) ?_
    refine lv_aload_n hx hb dX0_clear_16 rfl (lv_at hl 0 rfl) ?_
    refine va_get (D := (dC, dI)) (ci := 0) (v := .int (nI q)) (C := RX0) (T := TX0) (N := 4) hx hb hts hin_X0_clear_X0 hown hK hP 0 rfl rfl 3 (by decide) (hts (.fieldLink RX0 19 "StepMap$Table" "slots" "I") (by decide +kernel)) (fun _ h9 => h9) rfl dX0_clear_17 ?_
    refine lv_icmp_ge (tgt := 36) hx hb dX0_clear_20 (by decide) (fun c_20 => ?_) (fun c_20 => ?_)
    · have h_20 := q_le_t (a := q) (b := i) (by omega) (by omega) c_20
      have ei : i = q := by omega
      subst ei
      exact kk H locs ls hP hD hS hl
    · have h_20 := q_le_f (a := q) (b := i) (by omega) (by omega) c_20
      omega
  | succ f ih =>
    intro i hi H locs ls hP hD hS hl
    refine lv_iload_n hx hb dX0_clear_15 rfl (lv_at hl 2 rfl) ?_
    refine lv_aload_n hx hb dX0_clear_16 rfl (lv_at hl 0 rfl) ?_
    refine va_get (D := (dC, dI)) (ci := 0) (v := .int (nI q)) (C := RX0) (T := TX0) (N := 4) hx hb hts hin_X0_clear_X0 hown hK hP 0 rfl rfl 3 (by decide) (hts (.fieldLink RX0 19 "StepMap$Table" "slots" "I") (by decide +kernel)) (fun _ h9 => h9) rfl dX0_clear_17 ?_
    refine lv_icmp_ge (tgt := 36) hx hb dX0_clear_20 (by decide) (fun c_20 => ?_) (fun c_20 => ?_)
    · have h_20 := q_le_t (a := q) (b := i) (by omega) (by omega) c_20
      omega
    · have h_20 := q_le_f (a := q) (b := i) (by omega) (by omega) c_20
      refine lv_aload_n hx hb dX0_clear_23 rfl (lv_at hl 0 rfl) ?_
      refine va_get (D := (dC, dI)) (ci := 0) (v := .ref ma) (C := RX0) (T := TX0) (N := 4) hx hb hts hin_X0_clear_X0 hown hK hP 0 rfl rfl 0 (by decide) (hts (.fieldLink RX0 7 "StepMap$Table" "marks" "[I") (by decide +kernel)) (fun _ h9 => h9) rfl dX0_clear_24 ?_
      refine lv_iload_n hx hb dX0_clear_27 rfl (lv_at hl 2 rfl) ?_
      refine lv_iconst (v := 0) hx hb dX0_clear_28 (by decide) ?_
      refine r_st (i := i) hx hb hK hP hD hS 1 0 rfl rfl (by omega) (by omega) dX0_clear_29 (fun H locs hP hD hS => ?_)
      have hP : va_P (dC, dI) vwCl [(ta, .inr (0, [.ref ma, .ref ka, .ref va, .int (nI q)])), (ma, .inl (cI, L, .inl (upd (q_cl M i) i 0))), (ka, .inl (cI, L, .inl K)), (va, .inl (cI, L, .inl V))] H := hP
      have hD : va_D Aq [(ta, .inr (0, [.ref ma, .ref ka, .ref va, .int (nI q)])), (ma, .inl (cI, L, .inl (upd (q_cl M i) i 0))), (ka, .inl (cI, L, .inl K)), (va, .inl (cI, L, .inl V))] := hD
      refine lv_iinc (v := nI (i + 1)) (lv' := [(2, .int (nI (i + 1))), (0, .ref ta), (1, .int (nI q))]) hx hb dX0_clear_30 hl (k := 2) rfl (nI_1 _) (by decide) rfl (fun ls hl => ?_)
      refine lv_goto (tgt := 15) hx hb dX0_clear_33 (by decide) ?_
      have hP : va_P (dC, dI) vwCl [(ta, .inr (0, [.ref ma, .ref ka, .ref va, .int (nI q)])), (ma, .inl (cI, L, .inl (q_cl M (i + 1)))), (ka, .inl (cI, L, .inl K)), (va, .inl (cI, L, .inl V))] H := by rw [← q_cl_s]; exact hP
      have hD : va_D Aq [(ta, .inr (0, [.ref ma, .ref ka, .ref va, .int (nI q)])), (ma, .inl (cI, L, .inl (q_cl M (i + 1)))), (ka, .inl (cI, L, .inl K)), (va, .inl (cI, L, .inl V))] := by rw [← q_cl_s]; exact hD
      exact ih (i + 1) (by omega) H locs ls hP hD hS (lv_sub hl [1, 2, 0] rfl)
set_option maxHeartbeats 4000000 in
set_option maxRecDepth 100000 in
theorem c_X0_clear (l : Launch) (dC : Nat → ClassId) (dI : Nat → Nat → Nat) (cI : ClassId) (ta ma ka va L n : Nat) (M K V : Nat → Int32) (q : Nat) (sz : Nat) (hn : q_pw n) (hnL : n ≤ L) (hL : L ≤ 1024) (hq : q ≤ L) : Met l yX0_clear wsX0_clear ({ frames := 1, cells := 0, slots := 0, locals := 21 }) (r_Mc (dC, dI) vwCl [(cI, .int)] [(ta, .inr (0, [.ref ma, .ref ka, .ref va, .int (nI n)])), (ma, .inl (cI, L, .inl M)), (ka, .inl (cI, L, .inl K)), (va, .inl (cI, L, .inl V))] sz [.ref ta, .int (nI q)]) (va_Qv (fun (_ : Unit) => True) (fun u t => r_B (dC, dI) vwCl [(cI, .int)] (va_A [(ta, .inr (0, [.ref ma, .ref ka, .ref va, .int (nI n)])), (ma, .inl (cI, L, .inl M)), (ka, .inl (cI, L, .inl K)), (va, .inl (cI, L, .inl V))] sz) ((fun _ => [(ta, .inr (0, [.ref ma, .ref ka, .ref va, .int (nI q)])), (ma, .inl (cI, L, .inl (q_cl M q))), (ka, .inl (cI, L, .inl K)), (va, .inl (cI, L, .inl V))]) u) t) (va_A [(ta, .inr (0, [.ref ma, .ref ka, .ref va, .int (nI n)])), (ma, .inl (cI, L, .inl M)), (ka, .inl (cI, L, .inl K)), (va, .inl (cI, L, .inl V))] sz)) 0 0 (va_A [(ta, .inr (0, [.ref ma, .ref ka, .ref va, .int (nI n)])), (ma, .inl (cI, L, .inl M)), (ka, .inl (cI, L, .inl K)), (va, .inl (cI, L, .inl V))] sz) := by
  refine Met.ofW (cc := cX0_clear) (maxL := 3) (ret := none) (by decide) rfl ?_
  intro p e s m args below meth c s₁ Bd hml hv
  obtain ⟨rfl, hsz, hP, hK, hD0⟩ := hv
  have hx := Bd.exec
  have hb := Bd.bytes
  have hr := Bd.returns
  have hts := atoms_spec (ws := wsX0_clear) Bd.pre
  have hown : s.vm.findClass RX0 = some m.cls := findClass_of_methodNamed Bd.named
  have hlocks := Bd.notSynchronized
  have S0 : CallFix p m c cX0_clear 3 s _ wsX0_clear RX0 := ⟨hx, hb, hml, hown, hts⟩
  subst hsz
  have hD := hD0.self (sz := s.heap.size)
  generalize hAe : va_A [(ta, .inr (0, [.ref ma, .ref ka, .ref va, .int (nI n)])), (ma, .inl (cI, L, .inl M)), (ka, .inl (cI, L, .inl K)), (va, .inl (cI, L, .inl V))] s.heap.size = Aq at hD ⊢
  have hA : ∀ q : Nat, s.heap.size ≤ q → Aq q := fun q h => by rw [← hAe]; exact Or.inr h
  have hS : va_S Aq s.heap s.heap [] := va_S.rf
  have hD : va_D Aq [(ta, .inr (0, [.ref ma, .ref ka, .ref va, .int (nI n)])), (ma, .inl (cI, L, .inl M)), (ka, .inl (cI, L, .inl K)), (va, .inl (cI, L, .inl V))] := hD
  have hP : va_P (dC, dI) vwCl [(ta, .inr (0, [.ref ma, .ref ka, .ref va, .int (nI n)])), (ma, .inl (cI, L, .inl M)), (ka, .inl (cI, L, .inl K)), (va, .inl (cI, L, .inl V))] s.heap := hP
  have hl := lv_entry ([.ref ta, .int (nI q)]) (n := 3) (Nat.le_of_ble_eq_true rfl)
  rw [lg_entry_eq]
  generalize (lg_sl ([.ref ta, .int (nI q)]) ++ List.replicate (3 - (lg_sl ([.ref ta, .int (nI q)])).length) Slot.unset).toArray = ls at hl ⊢
  have hl : lv_has ls 3 [(0, .ref ta), (1, .int (nI q))] := hl
  have hn8 := q_pw_8 hn
  refine lv_aload_n hx hb dX0_clear_0 rfl (lv_at hl 0 rfl) ?_
  refine lv_iload_n hx hb dX0_clear_1 rfl (lv_at hl 1 rfl) ?_
  refine lv_aload_n hx hb dX0_clear_2 rfl (lv_at hl 0 rfl) ?_
  refine va_get (D := (dC, dI)) (ci := 0) (v := .ref ma) (C := RX0) (T := TX0) (N := 4) hx hb hts hin_X0_clear_X0 hown hK hP 0 rfl rfl 0 (by decide) (hts (.fieldLink RX0 7 "StepMap$Table" "marks" "[I") (by decide +kernel)) (fun _ h9 => h9) rfl dX0_clear_3 ?_
  refine va_alen (v := nI L) hx hb hK hP 1 0 rfl rfl rfl dX0_clear_6 ?_
  refine va_mmin hx hb (by rw [hml]; exact hl.1.symm) hown (hts (.methodLink RX0 23 Lib.Math.min.name) (by decide +kernel)) (hts (.static Lib.Math.min.name) (by decide +kernel)) (hts (.initialized "java/lang/Math") (by decide +kernel)) (hts (.code Lib.Math.min.name Lib.Math.min.code 2 (some .int)) (by decide +kernel)) (Nat.le_of_ble_eq_true rfl) (Nat.le_of_ble_eq_true rfl) (Nat.zero_le _) (Nat.zero_le _) dX0_clear_7 ?_
  refine r_eq (z := nI q) (if_neg (nI_nlt hq (by omega))) ?_
  refine va_put (D := (dC, dI)) (ci := 0) (v := .int (nI q)) (ty := .int) (C := RX0) (T := TX0) (N := 4) hx hb hts hin_X0_clear_X0 tyX0 tyX0_ok nmX0 hown hK hP hD hS 0 rfl rfl 3 (by decide) (hts (.fieldLink RX0 19 "StepMap$Table" "slots" "I") (by decide +kernel)) (fun _ h9 => h9) rfl (by decide +kernel) (rfl) (rfl) (Nat.le_of_ble_eq_true rfl) dX0_clear_10 (fun H locs hP hD hS => ?_)
  have hP : va_P (dC, dI) vwCl [(ta, .inr (0, [.ref ma, .ref ka, .ref va, .int (nI q)])), (ma, .inl (cI, L, .inl M)), (ka, .inl (cI, L, .inl K)), (va, .inl (cI, L, .inl V))] H := hP
  have hD : va_D Aq [(ta, .inr (0, [.ref ma, .ref ka, .ref va, .int (nI q)])), (ma, .inl (cI, L, .inl M)), (ka, .inl (cI, L, .inl K)), (va, .inl (cI, L, .inl V))] := hD
  refine lv_iconst (v := 0) hx hb dX0_clear_13 (by decide) ?_
  refine lv_istore_n (lv' := [(2, .int 0), (0, .ref ta), (1, .int (nI q))]) hx hb dX0_clear_14 rfl hl (by decide) rfl (fun ls hl => ?_)
  have hP : va_P (dC, dI) vwCl [(ta, .inr (0, [.ref ma, .ref ka, .ref va, .int (nI q)])), (ma, .inl (cI, L, .inl (q_cl M 0))), (ka, .inl (cI, L, .inl K)), (va, .inl (cI, L, .inl V))] H := by rw [q_cl_0]; exact hP
  have hD : va_D Aq [(ta, .inr (0, [.ref ma, .ref ka, .ref va, .int (nI q)])), (ma, .inl (cI, L, .inl (q_cl M 0))), (ka, .inl (cI, L, .inl K)), (va, .inl (cI, L, .inl V))] := by rw [q_cl_0]; exact hD
  refine lp_X0_clear S0 hK hA ta ma ka va L q M K V hq hL (fun H locs ls hP hD hS hl => ?_) q 0 (by omega) H locs ls hP hD hS (lv_sub hl [1, 2, 0] rfl)
  exact W.vret hx hb hr (fun t ht hW => ⟨⟨(), rfl, trivial, by rw [ht]; exact hP, va_K.moved hW.alike hK, hD⟩, hS.F ht⟩) hS.2.2 dX0_clear_36
end
section
/-! SPEC: what the map's calls answer and leave, in the words of PURE -/
theorem q_nx_m1 {nx : Option Nat} (hc : ∀ c, nx = some c → c < 2 ^ 31) : q_nx nx = -1 ↔ ¬ nx.isSome = true := by
  cases nx with
  | none => exact ⟨fun _ z => (by cases z), fun _ => rfl⟩
  | some c => exact ⟨fun z => absurd z (q_nI_m1 (hc c rfl)), fun z => absurd rfl z⟩
def q_place (A B : q_TB) (nx : Option Nat) (k : Int32) : Int32 := if q_hit A k then nI (q_lkE A k) else if q_hitB B nx k then nI (2000 + q_lkE B k) else -1 - nI (q_lkE A k)
theorem q_lw_A {A B : q_TB} {nx : Option Nat} {k : Int32} (h : q_hit A k) : q_lw A B nx k = q_lkD A k + 1 := if_pos h
theorem q_lw_B {A B : q_TB} {nx : Option Nat} {k : Int32} (h : ¬ q_hit A k) (hx : nx.isSome = true) : q_lw A B nx k = q_lkD A k + 1 + (q_lkD B k + 1) := by
  unfold q_lw; rw [if_neg h, if_pos hx]
theorem q_lw_N {A B : q_TB} {nx : Option Nat} {k : Int32} (h : ¬ q_hit A k) (hx : ¬ nx.isSome = true) : q_lw A B nx k = q_lkD A k + 1 := by
  unfold q_lw; rw [if_neg h, if_neg hx]
theorem q_place_A {A B : q_TB} {nx : Option Nat} {k : Int32} (h : q_hit A k) : q_place A B nx k = nI (q_lkE A k) := if_pos h
theorem q_place_B {A B : q_TB} {nx : Option Nat} {k : Int32} (h : ¬ q_hit A k) (hb : q_hitB B nx k) : q_place A B nx k = nI (2000 + q_lkE B k) := by
  unfold q_place; rw [if_neg h, if_pos hb]
theorem q_place_N {A B : q_TB} {nx : Option Nat} {k : Int32} (h : ¬ q_hit A k) (hb : ¬ q_hitB B nx k) : q_place A B nx k = -1 - nI (q_lkE A k) := by
  unfold q_place; rw [if_neg h, if_neg hb]
theorem q_place_c (A B : q_TB) (nx : Option Nat) (k : Int32) : (q_hit A k ∧ q_place A B nx k = nI (q_lkE A k)) ∨ (¬ q_hit A k ∧ q_hitB B nx k ∧ q_place A B nx k = nI (2000 + q_lkE B k)) ∨ (¬ q_hit A k ∧ ¬ q_hitB B nx k ∧ q_place A B nx k = -1 - nI (q_lkE A k)) := by
  by_cases h : q_hit A k
  · exact Or.inl ⟨h, q_place_A h⟩
  · by_cases hb : q_hitB B nx k
    · exact Or.inr (Or.inl ⟨h, hb, q_place_B h hb⟩)
    · exact Or.inr (Or.inr ⟨h, hb, q_place_N h hb⟩)
theorem q_mvs_1 {X Y : q_TB} {f i : Nat} (h : Y.2.1 i = 2) : q_mvs (f + 1) X Y i = ((q_mvs f (q_fl X (q_lkE X (Y.2.2.1 i)) (Y.2.2.1 i) (Y.2.2.2 i)) (q_tk Y i) (i + 1)).1, (q_mvs f (q_fl X (q_lkE X (Y.2.2.1 i)) (Y.2.2.1 i) (Y.2.2.2 i)) (q_tk Y i) (i + 1)).2.1, q_lkD X (Y.2.2.1 i) + 2 + (q_mvs f (q_fl X (q_lkE X (Y.2.2.1 i)) (Y.2.2.1 i) (Y.2.2.2 i)) (q_tk Y i) (i + 1)).2.2) := by
  rw [show q_mvs (f + 1) X Y i = ((q_mvs f (q_mv X Y i).1 (q_mv X Y i).2.1 (i + 1)).1, (q_mvs f (q_mv X Y i).1 (q_mv X Y i).2.1 (i + 1)).2.1, (q_mv X Y i).2.2 + (q_mvs f (q_mv X Y i).1 (q_mv X Y i).2.1 (i + 1)).2.2) from rfl, q_mv_1 h]
theorem q_mvs_0 {X Y : q_TB} {f i : Nat} (h : ¬ Y.2.1 i = 2) : q_mvs (f + 1) X Y i = ((q_mvs f X Y (i + 1)).1, (q_mvs f X Y (i + 1)).2.1, 1 + (q_mvs f X Y (i + 1)).2.2) := by
  rw [show q_mvs (f + 1) X Y i = ((q_mvs f (q_mv X Y i).1 (q_mv X Y i).2.1 (i + 1)).1, (q_mvs f (q_mv X Y i).1 (q_mv X Y i).2.1 (i + 1)).2.1, (q_mv X Y i).2.2 + (q_mvs f (q_mv X Y i).1 (q_mv X Y i).2.1 (i + 1)).2.2) from rfl, q_mv_0 h]
def q_put (L : Nat) (A B : q_TB) (nx : Option Nat) (kc : Nat) (k v : Int32) : Int32 × q_ST := if q_hit A k then (0, (A.1, A.2.1, A.2.2.1, upd A.2.2.2 (q_lkE A k) v), B, nx, kc, q_lw A B nx k) else if q_hitB B nx k then (0, A, (B.1, B.2.1, B.2.2.1, upd B.2.2.2 (q_lkE B k) v), nx, kc, q_lw A B nx k) else if q_full L A B nx kc then (-2000000001, A, B, nx, kc, q_lw A B nx k) else (0, q_on (q_fl A (q_lkE A k) k v) B nx (kc + 1) (q_lw A B nx k))
theorem q_put_A {L : Nat} {A B : q_TB} {nx : Option Nat} {kc : Nat} {k v : Int32} (h : q_hit A k) : q_put L A B nx kc k v = (0, (A.1, A.2.1, A.2.2.1, upd A.2.2.2 (q_lkE A k) v), B, nx, kc, q_lw A B nx k) := if_pos h
theorem q_put_B {L : Nat} {A B : q_TB} {nx : Option Nat} {kc : Nat} {k v : Int32} (h : ¬ q_hit A k) (hb : q_hitB B nx k) : q_put L A B nx kc k v = (0, A, (B.1, B.2.1, B.2.2.1, upd B.2.2.2 (q_lkE B k) v), nx, kc, q_lw A B nx k) := by
  unfold q_put; rw [if_neg h, if_pos hb]
theorem q_put_F {L : Nat} {A B : q_TB} {nx : Option Nat} {kc : Nat} {k v : Int32} (h : ¬ q_hit A k) (hb : ¬ q_hitB B nx k) (hf : q_full L A B nx kc) : q_put L A B nx kc k v = (-2000000001, A, B, nx, kc, q_lw A B nx k) := by
  unfold q_put; rw [if_neg h, if_neg hb, if_pos hf]
theorem q_put_N {L : Nat} {A B : q_TB} {nx : Option Nat} {kc : Nat} {k v : Int32} (h : ¬ q_hit A k) (hb : ¬ q_hitB B nx k) (hf : ¬ q_full L A B nx kc) : q_put L A B nx kc k v = (0, q_on (q_fl A (q_lkE A k) k v) B nx (kc + 1) (q_lw A B nx k)) := by
  unfold q_put; rw [if_neg h, if_neg hb, if_neg hf]
def q_rem (A B : q_TB) (nx : Option Nat) (kc : Nat) (k : Int32) : Int32 × q_ST := if q_hit A k then (1, q_on (q_fr A (q_lkE A k)).1 B nx (kc - 1) (q_lw A B nx k + ((q_fr A (q_lkE A k)).2 + 1))) else if q_hitB B nx k then (1, q_on A (q_tk B (q_lkE B k)) nx (kc - 1) (q_lw A B nx k)) else (0, A, B, nx, kc, q_lw A B nx k)
theorem q_rem_A {A B : q_TB} {nx : Option Nat} {kc : Nat} {k : Int32} (h : q_hit A k) : q_rem A B nx kc k = (1, q_on (q_fr A (q_lkE A k)).1 B nx (kc - 1) (q_lw A B nx k + ((q_fr A (q_lkE A k)).2 + 1))) := if_pos h
theorem q_rem_B {A B : q_TB} {nx : Option Nat} {kc : Nat} {k : Int32} (h : ¬ q_hit A k) (hb : q_hitB B nx k) : q_rem A B nx kc k = (1, q_on A (q_tk B (q_lkE B k)) nx (kc - 1) (q_lw A B nx k)) := by
  unfold q_rem; rw [if_neg h, if_pos hb]
theorem q_rem_N {A B : q_TB} {nx : Option Nat} {kc : Nat} {k : Int32} (h : ¬ q_hit A k) (hb : ¬ q_hitB B nx k) : q_rem A B nx kc k = (0, A, B, nx, kc, q_lw A B nx k) := by
  unfold q_rem; rw [if_neg h, if_neg hb]
def q_get (A B : q_TB) (nx : Option Nat) (k : Int32) : Int32 := if q_hit A k then A.2.2.2 (q_lkE A k) else if q_hitB B nx k then B.2.2.2 (q_lkE B k) else 0
theorem q_get_A {A B : q_TB} {nx : Option Nat} {k : Int32} (h : q_hit A k) : q_get A B nx k = A.2.2.2 (q_lkE A k) := if_pos h
theorem q_get_B {A B : q_TB} {nx : Option Nat} {k : Int32} (h : ¬ q_hit A k) (hb : q_hitB B nx k) : q_get A B nx k = B.2.2.2 (q_lkE B k) := by
  unfold q_get; rw [if_neg h, if_pos hb]
theorem q_get_N {A B : q_TB} {nx : Option Nat} {k : Int32} (h : ¬ q_hit A k) (hb : ¬ q_hitB B nx k) : q_get A B nx k = 0 := by
  unfold q_get; rw [if_neg h, if_neg hb]
abbrev q_has (A B : q_TB) (nx : Option Nat) (k : Int32) : Prop := q_hit A k ∨ q_hitB B nx k
def q_slot (A B : q_TB) (nx : Option Nat) (k : Int32) : Int32 := if q_hit A k then nI (q_lkE A k) else if q_hitB B nx k then nI (2000 + q_lkE B k) else -1
theorem q_slot_A {A B : q_TB} {nx : Option Nat} {k : Int32} (h : q_hit A k) : q_slot A B nx k = nI (q_lkE A k) := if_pos h
theorem q_slot_B {A B : q_TB} {nx : Option Nat} {k : Int32} (h : ¬ q_hit A k) (hb : q_hitB B nx k) : q_slot A B nx k = nI (2000 + q_lkE B k) := by
  unfold q_slot; rw [if_neg h, if_pos hb]
theorem q_slot_N {A B : q_TB} {nx : Option Nat} {k : Int32} (h : ¬ q_hit A k) (hb : ¬ q_hitB B nx k) : q_slot A B nx k = -1 := by
  unfold q_slot; rw [if_neg h, if_neg hb]
theorem q_on_c {A B : q_TB} {c kc wk : Nat} (h : c + 4 < B.1) : q_on A B (some c) kc wk = ((q_mvs 4 A B c).1, (q_mvs 4 A B c).2.1, some (c + 4), kc, wk + (q_mvs 4 A B c).2.2) := by rw [q_on_s, if_pos h]
theorem q_on_e {A B : q_TB} {c kc wk : Nat} (h : ¬ c + 4 < B.1) : q_on A B (some c) kc wk = q_set0 (q_mvs 4 A B c).1 (q_mvs 4 A B c).2.1 kc (wk + (q_mvs 4 A B c).2.2) := by rw [q_on_s, if_neg h]
theorem q_set0_1 {A B : q_TB} {kc wk : Nat} (h : 3 * A.1 ≤ 4 * kc) : q_set0 A B kc wk = q_start A B (2 * A.1) kc wk := if_pos h
theorem q_set0_2 {A B : q_TB} {kc wk : Nat} (h : ¬ 3 * A.1 ≤ 4 * kc) (h2 : 8 * kc ≤ A.1 ∧ 8 < A.1) : q_set0 A B kc wk = q_start A B (A.1 / 2) kc wk := by
  unfold q_set0; rw [if_neg h, if_pos h2]
theorem q_set0_3 {A B : q_TB} {kc wk : Nat} (h : ¬ 3 * A.1 ≤ 4 * kc) (h2 : ¬ (8 * kc ≤ A.1 ∧ 8 < A.1)) : q_set0 A B kc wk = (A, B, none, kc, wk) := by
  unfold q_set0; rw [if_neg h, if_neg h2]
abbrev q_AD : Type := Nat × Nat × Nat × Nat × Nat × Nat × Nat × Nat
/-- the map's cells: the map, its new table, its old table -/
abbrev q_WS (cI : ClassId) (L h0 : Nat) (a : q_AD) (s : q_ST) : va_W := [(h0, .inr (1, [.int (nI L), .ref a.1, .ref a.2.2.2.2.1, .int (q_nx s.2.2.1), .int (nI s.2.2.2.1), .int (nI s.2.2.2.2)])), (a.1, .inr (0, [.ref a.2.1, .ref a.2.2.1, .ref a.2.2.2.1, .int (nI s.1.1)])), (a.2.1, .inl (cI, L, .inl s.1.2.1)), (a.2.2.1, .inl (cI, L, .inl s.1.2.2.1)), (a.2.2.2.1, .inl (cI, L, .inl s.1.2.2.2)), (a.2.2.2.2.1, .inr (0, [.ref a.2.2.2.2.2.1, .ref a.2.2.2.2.2.2.1, .ref a.2.2.2.2.2.2.2, .int (nI s.2.1.1)])), (a.2.2.2.2.2.1, .inl (cI, L, .inl s.2.1.2.1)), (a.2.2.2.2.2.2.1, .inl (cI, L, .inl s.2.1.2.2.1)), (a.2.2.2.2.2.2.2, .inl (cI, L, .inl s.2.1.2.2.2))]
theorem q_mv_n (A B : q_TB) (c : Nat) : (q_mv A B c).1.1 = A.1 ∧ (q_mv A B c).2.1.1 = B.1 := by
  by_cases h : B.2.1 c = 2
  · rw [q_mv_1 h]; exact ⟨rfl, rfl⟩
  · rw [q_mv_0 h]; exact ⟨rfl, rfl⟩
theorem q_mvs_n : ∀ (j : Nat) (A B : q_TB) (c : Nat), (q_mvs j A B c).1.1 = A.1 ∧ (q_mvs j A B c).2.1.1 = B.1 := by
  intro j
  induction j with
  | zero => intro A B c; exact ⟨rfl, rfl⟩
  | succ j ih =>
    intro A B c
    have a := q_mv_n A B c
    have b := ih (q_mv A B c).1 (q_mv A B c).2.1 (c + 1)
    exact ⟨b.1.trans a.1, b.2.trans a.2⟩
theorem q_fz_n : ∀ (f : Nat) (t : q_TB) (fr i : Nat), (q_fz f t fr i).1.1 = t.1 := by
  intro f
  induction f with
  | zero => intro t fr i; rfl
  | succ f ih =>
    intro t fr i
    by_cases h0 : t.2.1 i = 0
    · rw [q_fz_0 h0]
    · by_cases hb : q_rb t i fr
      · rw [q_fz_1 h0 hb]; exact ih _ _ _
      · rw [q_fz_2 h0 hb]; exact ih _ _ _
theorem q_fr_n (t : q_TB) (e : Nat) : (q_fr t e).1.1 = t.1 := q_fz_n _ _ _ _
theorem q_iv_c {L kc : Nat} {A B : q_TB} {nx : Option Nat} (h : q_IV L A B nx kc) : ∀ c, nx = some c → c < 4096 := by
  intro c hc
  subst hc
  have := q_pw_8 h.1.2.2.2.1
  have := h.2.2.2.2.1
  omega
theorem q_2000 (e : Nat) : nI (2000 + e) - 2000 = nI e := (show nI (2000 + e) - nI 2000 = _ from pk_sub (by omega)).trans (congrArg nI (by omega))
theorem q_neg_lt {e : Nat} (he : e < 2 ^ 30) : (-1 - nI e) < 2000 := by
  have := q_neg1 he
  rw [Int32.lt_iff_toInt_lt, show (0 : Int32).toInt = 0 from by decide] at this
  rw [Int32.lt_iff_toInt_lt, show (2000 : Int32).toInt = 2000 from by decide]
  omega
theorem q_neg_ge {e : Nat} (he : e < 2 ^ 30) : ¬ 0 ≤ (-1 - nI e) := by
  have := q_neg1 he
  rw [Int32.lt_iff_toInt_lt] at this
  rw [Int32.le_iff_toInt_le]
  omega
theorem q_hit_kc {L kc : Nat} {A B : q_TB} {nx : Option Nat} {k : Int32} (h : q_IV L A B nx kc) (hA : q_hit A k) : 1 ≤ kc := by
  have h8 := q_pw_8 h.1.2.1
  have h1 := q_NK_pos hA.1 A.1 (q_lkE_lt k (by omega))
  have h2 := (q_iv_kc h).1
  omega
theorem q_hitB_kc {L kc : Nat} {A B : q_TB} {nx : Option Nat} {k : Int32} (h : q_IV L A B nx kc) (hB : q_hitB B nx k) : 1 ≤ kc := by
  obtain ⟨hx, hB⟩ := hB
  have h8 := q_pw_8 h.1.2.2.2.1
  have h1 := q_NK_pos hB.1 B.1 (q_lkE_lt k (by omega))
  cases nx with
  | none => cases hx
  | some c =>
    have := h.2.2.1
    omega
/-- the map's invariant behind each call -/
theorem q_put_iv {L kc : Nat} {A B : q_TB} {nx : Option Nat} {k v : Int32} (h : q_IV L A B nx kc) : q_iv L (q_put L A B nx kc k v).2 := by
  by_cases hA : q_hit A k
  · rw [q_put_A hA]; exact q_iv_vA h
  · by_cases hB : q_hitB B nx k
    · rw [q_put_B hA hB]; exact q_iv_vB h
    · by_cases hf : q_full L A B nx kc
      · rw [q_put_F hA hB hf]; exact h
      · rw [q_put_N hA hB hf]; exact q_on_iv (q_iw_put h hA hB hf)
theorem q_iw_rmB' {L kc : Nat} {A B : q_TB} {nx : Option Nat} {k : Int32} (h : q_IV L A B nx kc) (hB : q_hitB B nx k) : q_IW L A (q_tk B (q_lkE B k)) nx (kc - 1) := by
  obtain ⟨hx, hB⟩ := hB
  have h8 := q_pw_8 h.1.2.2.2.1
  cases nx with
  | none => cases hx
  | some c => exact q_iw_rmB h (q_lkE_lt k (by omega)) hB.1
theorem q_rem_iv {L kc : Nat} {A B : q_TB} {nx : Option Nat} {k : Int32} (h : q_IV L A B nx kc) : q_iv L (q_rem A B nx kc k).2 := by
  by_cases hA : q_hit A k
  · rw [q_rem_A hA]; exact q_on_iv (q_iw_rmA h hA)
  · by_cases hB : q_hitB B nx k
    · rw [q_rem_B hA hB]; exact q_on_iv (q_iw_rmB' h hB)
    · rw [q_rem_N hA hB]; exact h
theorem q_iw_kc {L kc : Nat} {A B : q_TB} {nx : Option Nat} (h : q_IW L A B nx kc) : kc ≤ 1024 := by
  obtain ⟨hS, h⟩ := h
  have := q_pw_8 hS.2.1
  cases nx with
  | none =>
    obtain ⟨hN, hP, hU, hk, h1, h2⟩ := h
    omega
  | some c =>
    obtain ⟨hM, hk, h1, h2, h3, h4⟩ := h
    omega
end
section
/-! MAP: lookups and what only reads (laid by gen_map.py) -/
theorem hin_X1_capacity_X1 : ∀ w ∈ wsX10, w ∈ wsX1_capacity := by decide +kernel
theorem hin_X1_capacity_X0 : ∀ w ∈ wsX00, w ∈ wsX1_capacity := by decide +kernel
theorem hin_X1_isCrowdedBy_X1 : ∀ w ∈ wsX10, w ∈ wsX1_isCrowdedBy := by decide +kernel
theorem hin_X1_isCrowdedBy_X0 : ∀ w ∈ wsX00, w ∈ wsX1_isCrowdedBy := by decide +kernel
theorem hin_X1_isSparse_X1 : ∀ w ∈ wsX10, w ∈ wsX1_isSparse := by decide +kernel
theorem hin_X1_isSparse_X0 : ∀ w ∈ wsX00, w ∈ wsX1_isSparse := by decide +kernel
theorem hin_X1_wouldOutgrowHalf_X1 : ∀ w ∈ wsX10, w ∈ wsX1_wouldOutgrowHalf := by decide +kernel
theorem hin_X1_wouldOutgrowHalf_X0 : ∀ w ∈ wsX00, w ∈ wsX1_wouldOutgrowHalf := by decide +kernel
theorem hin_X1_lookFor_X1 : ∀ w ∈ wsX10, w ∈ wsX1_lookFor := by decide +kernel
theorem hin_X1_lookFor_X0 : ∀ w ∈ wsX00, w ∈ wsX1_lookFor := by decide +kernel
theorem hin_X1_lookUp_X1 : ∀ w ∈ wsX10, w ∈ wsX1_lookUp := by decide +kernel
theorem hin_X1_lookUp_X0 : ∀ w ∈ wsX00, w ∈ wsX1_lookUp := by decide +kernel
theorem hin_X1_migrating_X1 : ∀ w ∈ wsX10, w ∈ wsX1_migrating := by decide +kernel
theorem hin_X1_size_X1 : ∀ w ∈ wsX10, w ∈ wsX1_size := by decide +kernel
theorem hin_X1_lastWork_X1 : ∀ w ∈ wsX10, w ∈ wsX1_lastWork := by decide +kernel
theorem hin_X1_cursor_X1 : ∀ w ∈ wsX10, w ∈ wsX1_cursor := by decide +kernel
/-- the greatest power of two not above h, from p on, at most f doublings -/
def q_hf : Nat → Int32 → Nat → Nat
  | 0, _, p => p
  | f + 1, h, p => if nI (p * 2) ≤ h then q_hf f h (p * 2) else p
def q_half (h : Int32) : Nat := q_hf 7 h 8
def q_HI (f p : Nat) : Prop := (f = 0 ∧ p = 1024) ∨ (f = 1 ∧ p = 512) ∨ (f = 2 ∧ p = 256) ∨ (f = 3 ∧ p = 128) ∨ (f = 4 ∧ p = 64) ∨ (f = 5 ∧ p = 32) ∨ (f = 6 ∧ p = 16) ∨ (f = 7 ∧ p = 8)
theorem q_HI_s {f p : Nat} (h : q_HI (f + 1) p) : q_HI f (p * 2) := by unfold q_HI at h ⊢; omega
theorem q_HI_b {f p : Nat} (h : q_HI f p) : 8 ≤ p ∧ p ≤ 1024 := by unfold q_HI at h; omega
theorem q_HI_1 {f p : Nat} (h : q_HI (f + 1) p) : p < 1024 := by unfold q_HI at h; omega
theorem q_HI_0 {p : Nat} (h : q_HI 0 p) : p = 1024 := by unfold q_HI at h; omega
theorem q_hf_1 {f p : Nat} {h : Int32} (c : nI (p * 2) ≤ h) : q_hf (f + 1) h p = q_hf f h (p * 2) := if_pos c
theorem q_hf_0 {f p : Nat} {h : Int32} (c : ¬ nI (p * 2) ≤ h) : q_hf (f + 1) h p = p := if_neg c
theorem q_hf_pw {h : Int32} : ∀ (f p : Nat), q_HI f p → q_pw (q_hf f h p) := by
  intro f
  induction f with
  | zero => intro p hp; exact q_pw_of (show p = 8 ∨ p = 16 ∨ p = 32 ∨ p = 64 ∨ p = 128 ∨ p = 256 ∨ p = 512 ∨ p = 1024 by unfold q_HI at hp; omega)
  | succ f ih =>
    intro p hp
    by_cases c : nI (p * 2) ≤ h
    · rw [q_hf_1 c]; exact ih _ (q_HI_s hp)
    · rw [q_hf_0 c]; exact q_pw_of (by unfold q_HI at hp; omega)
theorem q_half_pw (h : Int32) : q_pw (q_half h) := q_hf_pw 7 8 (by unfold q_HI; omega)
theorem q_mig {nx : Option Nat} (hc : ∀ c, nx = some c → c < 2 ^ 31) : ¬ q_nx nx = -1 ↔ nx.isSome = true := ⟨fun z => Classical.byContradiction fun y => z ((q_nx_m1 hc).mpr y), fun z y => (q_nx_m1 hc).mp y z⟩
set_option maxHeartbeats 4000000 in
set_option maxRecDepth 100000 in
theorem c_X1_migrating (l : Launch) (dC : Nat → ClassId) (dI : Nat → Nat → Nat) (cI : ClassId) (h0 : Nat) (x0 : Int32) (t1 t2 : Nat) (nx : Option Nat) (x4 x5 : Int32) (hc : ∀ c, nx = some c → c < 2 ^ 31) : Met l yX1_migrating wsX1_migrating ({ frames := 0, cells := 0, slots := 0, locals := 0 }) (r_Pc (dC, dI) vwCl [(cI, .int)] [(h0, .inr (1, [.int x0, .ref t1, .ref t2, .int (q_nx nx), .int x4, .int x5]))] [.ref h0]) (vp_Si (fun r => r = q_b (nx.isSome = true))) 0 0 (fun _ => False) := by
  refine Met.ofW (cc := cX1_migrating) (maxL := 1) (ret := (some .boolean)) (by decide) rfl ?_
  intro p e s m args below meth c s₁ Bd hml hv
  obtain ⟨rfl, hP, hK⟩ := hv
  have hx := Bd.exec
  have hb := Bd.bytes
  have hr := Bd.returns
  have hts := atoms_spec (ws := wsX1_migrating) Bd.pre
  have hown : s.vm.findClass RX1 = some m.cls := findClass_of_methodNamed Bd.named
  have hlocks := Bd.notSynchronized
  have S0 : CallFix p m c cX1_migrating 1 s _ wsX1_migrating RX1 := ⟨hx, hb, hml, hown, hts⟩
  have hP : va_P (dC, dI) vwCl [(h0, .inr (1, [.int x0, .ref t1, .ref t2, .int (q_nx nx), .int x4, .int x5]))] s.heap := hP
  have hl := lv_entry ([.ref h0]) (n := 1) (Nat.le_of_ble_eq_true rfl)
  rw [lg_entry_eq]
  generalize (lg_sl ([.ref h0]) ++ List.replicate (1 - (lg_sl ([.ref h0])).length) Slot.unset).toArray = ls at hl ⊢
  have hl : lv_has ls 1 [(0, .ref h0)] := hl
  refine lv_aload_n hx hb dX1_migrating_0 rfl (lv_at hl 0 rfl) ?_
  refine va_get (D := (dC, dI)) (ci := 1) (v := .int (q_nx nx)) (C := RX1) (T := TX1) (N := 6) hx hb hts hin_X1_migrating_X1 hown hK hP 0 rfl rfl 3 (by decide) (hts (.fieldLink RX1 32 "StepMap" "nextToMove" "I") (by decide +kernel)) (fun _ h9 => h9) rfl dX1_migrating_1 ?_
  refine lv_iconst (v := -1) hx hb dX1_migrating_4 (by decide) ?_
  refine lv_icmp_eq (tgt := 12) hx hb dX1_migrating_5 (by decide) (fun c_5 => ?_) (fun c_5 => ?_)
  · refine lv_iconst (v := 0) hx hb dX1_migrating_12 (by decide) ?_
    exact W.zret (v := 0) hx hb hr (rfl) (fun t ht hW => ⟨_, rfl, (q_b_f ((q_nx_m1 hc).mp c_5)).symm, ht⟩) (fun _ h => by cases h) dX1_migrating_13
  · refine lv_iconst (v := 1) hx hb dX1_migrating_8 (by decide) ?_
    refine lv_goto (tgt := 13) hx hb dX1_migrating_9 (by decide) ?_
    exact W.zret (v := 1) hx hb hr (rfl) (fun t ht hW => ⟨_, rfl, (q_b_t ((q_mig hc).mp c_5)).symm, ht⟩) (fun _ h => by cases h) dX1_migrating_13
set_option maxHeartbeats 4000000 in
set_option maxRecDepth 100000 in
theorem c_X1_size (l : Launch) (dC : Nat → ClassId) (dI : Nat → Nat → Nat) (cI : ClassId) (h0 t1 t2 : Nat) (x0 x3 x4 x5 : Int32)  : Met l yX1_size wsX1_size ({ frames := 0, cells := 0, slots := 0, locals := 0 }) (r_Pc (dC, dI) vwCl [(cI, .int)] [(h0, .inr (1, [.int x0, .ref t1, .ref t2, .int x3, .int x4, .int x5]))] [.ref h0]) (vp_Si (fun r => r = x4)) 0 0 (fun _ => False) := by
  refine Met.ofW (cc := cX1_size) (maxL := 1) (ret := (some .int)) (by decide) rfl ?_
  intro p e s m args below meth c s₁ Bd hml hv
  obtain ⟨rfl, hP, hK⟩ := hv
  have hx := Bd.exec
  have hb := Bd.bytes
  have hr := Bd.returns
  have hts := atoms_spec (ws := wsX1_size) Bd.pre
  have hown : s.vm.findClass RX1 = some m.cls := findClass_of_methodNamed Bd.named
  have hlocks := Bd.notSynchronized
  have S0 : CallFix p m c cX1_size 1 s _ wsX1_size RX1 := ⟨hx, hb, hml, hown, hts⟩
  have hP : va_P (dC, dI) vwCl [(h0, .inr (1, [.int x0, .ref t1, .ref t2, .int x3, .int x4, .int x5]))] s.heap := hP
  have hl := lv_entry ([.ref h0]) (n := 1) (Nat.le_of_ble_eq_true rfl)
  rw [lg_entry_eq]
  generalize (lg_sl ([.ref h0]) ++ List.replicate (1 - (lg_sl ([.ref h0])).length) Slot.unset).toArray = ls at hl ⊢
  have hl : lv_has ls 1 [(0, .ref h0)] := hl
  refine lv_aload_n hx hb dX1_size_0 rfl (lv_at hl 0 rfl) ?_
  refine va_get (D := (dC, dI)) (ci := 1) (v := .int x4) (C := RX1) (T := TX1) (N := 6) hx hb hts hin_X1_size_X1 hown hK hP 0 rfl rfl 4 (by decide) (hts (.fieldLink RX1 57 "StepMap" "keyCount" "I") (by decide +kernel)) (fun _ h9 => h9) rfl dX1_size_1 ?_
  exact W.iret (v := x4) hx hb hr (fun t ht hW => ⟨_, rfl, rfl, ht⟩) (fun _ h => by cases h) dX1_size_4
set_option maxHeartbeats 4000000 in
set_option maxRecDepth 100000 in
theorem c_X1_lastWork (l : Launch) (dC : Nat → ClassId) (dI : Nat → Nat → Nat) (cI : ClassId) (h0 t1 t2 : Nat) (x0 x3 x4 x5 : Int32)  : Met l yX1_lastWork wsX1_lastWork ({ frames := 0, cells := 0, slots := 0, locals := 0 }) (r_Pc (dC, dI) vwCl [(cI, .int)] [(h0, .inr (1, [.int x0, .ref t1, .ref t2, .int x3, .int x4, .int x5]))] [.ref h0]) (vp_Si (fun r => r = x5)) 0 0 (fun _ => False) := by
  refine Met.ofW (cc := cX1_lastWork) (maxL := 1) (ret := (some .int)) (by decide) rfl ?_
  intro p e s m args below meth c s₁ Bd hml hv
  obtain ⟨rfl, hP, hK⟩ := hv
  have hx := Bd.exec
  have hb := Bd.bytes
  have hr := Bd.returns
  have hts := atoms_spec (ws := wsX1_lastWork) Bd.pre
  have hown : s.vm.findClass RX1 = some m.cls := findClass_of_methodNamed Bd.named
  have hlocks := Bd.notSynchronized
  have S0 : CallFix p m c cX1_lastWork 1 s _ wsX1_lastWork RX1 := ⟨hx, hb, hml, hown, hts⟩
  have hP : va_P (dC, dI) vwCl [(h0, .inr (1, [.int x0, .ref t1, .ref t2, .int x3, .int x4, .int x5]))] s.heap := hP
  have hl := lv_entry ([.ref h0]) (n := 1) (Nat.le_of_ble_eq_true rfl)
  rw [lg_entry_eq]
  generalize (lg_sl ([.ref h0]) ++ List.replicate (1 - (lg_sl ([.ref h0])).length) Slot.unset).toArray = ls at hl ⊢
  have hl : lv_has ls 1 [(0, .ref h0)] := hl
  refine lv_aload_n hx hb dX1_lastWork_0 rfl (lv_at hl 0 rfl) ?_
  refine va_get (D := (dC, dI)) (ci := 1) (v := .int x5) (C := RX1) (T := TX1) (N := 6) hx hb hts hin_X1_lastWork_X1 hown hK hP 0 rfl rfl 5 (by decide) (hts (.fieldLink RX1 35 "StepMap" "work" "I") (by decide +kernel)) (fun _ h9 => h9) rfl dX1_lastWork_1 ?_
  exact W.iret (v := x5) hx hb hr (fun t ht hW => ⟨_, rfl, rfl, ht⟩) (fun _ h => by cases h) dX1_lastWork_4
set_option maxHeartbeats 4000000 in
set_option maxRecDepth 100000 in
theorem c_X1_cursor (l : Launch) (dC : Nat → ClassId) (dI : Nat → Nat → Nat) (cI : ClassId) (h0 t1 t2 : Nat) (x0 x3 x4 x5 : Int32)  : Met l yX1_cursor wsX1_cursor ({ frames := 0, cells := 0, slots := 0, locals := 0 }) (r_Pc (dC, dI) vwCl [(cI, .int)] [(h0, .inr (1, [.int x0, .ref t1, .ref t2, .int x3, .int x4, .int x5]))] [.ref h0]) (vp_Si (fun r => r = x3)) 0 0 (fun _ => False) := by
  refine Met.ofW (cc := cX1_cursor) (maxL := 1) (ret := (some .int)) (by decide) rfl ?_
  intro p e s m args below meth c s₁ Bd hml hv
  obtain ⟨rfl, hP, hK⟩ := hv
  have hx := Bd.exec
  have hb := Bd.bytes
  have hr := Bd.returns
  have hts := atoms_spec (ws := wsX1_cursor) Bd.pre
  have hown : s.vm.findClass RX1 = some m.cls := findClass_of_methodNamed Bd.named
  have hlocks := Bd.notSynchronized
  have S0 : CallFix p m c cX1_cursor 1 s _ wsX1_cursor RX1 := ⟨hx, hb, hml, hown, hts⟩
  have hP : va_P (dC, dI) vwCl [(h0, .inr (1, [.int x0, .ref t1, .ref t2, .int x3, .int x4, .int x5]))] s.heap := hP
  have hl := lv_entry ([.ref h0]) (n := 1) (Nat.le_of_ble_eq_true rfl)
  rw [lg_entry_eq]
  generalize (lg_sl ([.ref h0]) ++ List.replicate (1 - (lg_sl ([.ref h0])).length) Slot.unset).toArray = ls at hl ⊢
  have hl : lv_has ls 1 [(0, .ref h0)] := hl
  refine lv_aload_n hx hb dX1_cursor_0 rfl (lv_at hl 0 rfl) ?_
  refine va_get (D := (dC, dI)) (ci := 1) (v := .int x3) (C := RX1) (T := TX1) (N := 6) hx hb hts hin_X1_cursor_X1 hown hK hP 0 rfl rfl 3 (by decide) (hts (.fieldLink RX1 32 "StepMap" "nextToMove" "I") (by decide +kernel)) (fun _ h9 => h9) rfl dX1_cursor_1 ?_
  exact W.iret (v := x3) hx hb hr (fun t ht hW => ⟨_, rfl, rfl, ht⟩) (fun _ h => by cases h) dX1_cursor_4
set_option maxHeartbeats 4000000 in
set_option maxRecDepth 100000 in
theorem c_X1_capacity (l : Launch) (dC : Nat → ClassId) (dI : Nat → Nat → Nat) (cI : ClassId) (h0 t1 t2 : Nat) (x0 x3 x4 x5 : Int32) (m1 k1 v1 n : Nat)  : Met l yX1_capacity wsX1_capacity ({ frames := 0, cells := 0, slots := 0, locals := 0 }) (r_Pc (dC, dI) vwCl [(cI, .int)] [(h0, .inr (1, [.int x0, .ref t1, .ref t2, .int x3, .int x4, .int x5])), (t1, .inr (0, [.ref m1, .ref k1, .ref v1, .int (nI n)]))] [.ref h0]) (vp_Si (fun r => r = nI n)) 0 0 (fun _ => False) := by
  refine Met.ofW (cc := cX1_capacity) (maxL := 1) (ret := (some .int)) (by decide) rfl ?_
  intro p e s m args below meth c s₁ Bd hml hv
  obtain ⟨rfl, hP, hK⟩ := hv
  have hx := Bd.exec
  have hb := Bd.bytes
  have hr := Bd.returns
  have hts := atoms_spec (ws := wsX1_capacity) Bd.pre
  have hown : s.vm.findClass RX1 = some m.cls := findClass_of_methodNamed Bd.named
  have hlocks := Bd.notSynchronized
  have S0 : CallFix p m c cX1_capacity 1 s _ wsX1_capacity RX1 := ⟨hx, hb, hml, hown, hts⟩
  have hP : va_P (dC, dI) vwCl [(h0, .inr (1, [.int x0, .ref t1, .ref t2, .int x3, .int x4, .int x5])), (t1, .inr (0, [.ref m1, .ref k1, .ref v1, .int (nI n)]))] s.heap := hP
  have hl := lv_entry ([.ref h0]) (n := 1) (Nat.le_of_ble_eq_true rfl)
  rw [lg_entry_eq]
  generalize (lg_sl ([.ref h0]) ++ List.replicate (1 - (lg_sl ([.ref h0])).length) Slot.unset).toArray = ls at hl ⊢
  have hl : lv_has ls 1 [(0, .ref h0)] := hl
  refine lv_aload_n hx hb dX1_capacity_0 rfl (lv_at hl 0 rfl) ?_
  refine va_get (D := (dC, dI)) (ci := 1) (v := .ref t1) (C := RX1) (T := TX1) (N := 6) hx hb hts hin_X1_capacity_X1 hown hK hP 0 rfl rfl 1 (by decide) (hts (.fieldLink RX1 22 "StepMap" "newTable" "LStepMap$Table;") (by decide +kernel)) (fun _ h9 => h9) rfl dX1_capacity_1 ?_
  refine va_get (D := (dC, dI)) (ci := 0) (v := .int (nI n)) (C := RX0) (T := TX0) (N := 4) hx hb hts hin_X1_capacity_X0 hown hK hP 1 rfl rfl 3 (by decide) (hts (.fieldLink RX1 69 "StepMap$Table" "slots" "I") (by decide +kernel)) (fun _ h9 => h9) rfl dX1_capacity_4 ?_
  exact W.iret (v := nI n) hx hb hr (fun t ht hW => ⟨_, rfl, rfl, ht⟩) (fun _ h => by cases h) dX1_capacity_7
set_option maxHeartbeats 4000000 in
set_option maxRecDepth 100000 in
theorem c_X1_isCrowdedBy (l : Launch) (dC : Nat → ClassId) (dI : Nat → Nat → Nat) (cI : ClassId) (h0 t1 : Nat) (x0 : Int32) (t2 : Nat) (x3 x4 x5 : Int32) (m1 k1 v1 n q : Nat) (hn : n ≤ 4096) (hq : q ≤ 8192) : Met l yX1_isCrowdedBy wsX1_isCrowdedBy ({ frames := 0, cells := 0, slots := 0, locals := 0 }) (r_Pc (dC, dI) vwCl [(cI, .int)] [(h0, .inr (1, [.int x0, .ref t1, .ref t2, .int x3, .int x4, .int x5])), (t1, .inr (0, [.ref m1, .ref k1, .ref v1, .int (nI n)]))] [.ref h0, .int (nI q)]) (vp_Si (fun r => r = q_b (3 * n ≤ 4 * q))) 0 0 (fun _ => False) := by
  refine Met.ofW (cc := cX1_isCrowdedBy) (maxL := 2) (ret := (some .boolean)) (by decide) rfl ?_
  intro p e s m args below meth c s₁ Bd hml hv
  obtain ⟨rfl, hP, hK⟩ := hv
  have hx := Bd.exec
  have hb := Bd.bytes
  have hr := Bd.returns
  have hts := atoms_spec (ws := wsX1_isCrowdedBy) Bd.pre
  have hown : s.vm.findClass RX1 = some m.cls := findClass_of_methodNamed Bd.named
  have hlocks := Bd.notSynchronized
  have S0 : CallFix p m c cX1_isCrowdedBy 2 s _ wsX1_isCrowdedBy RX1 := ⟨hx, hb, hml, hown, hts⟩
  have hP : va_P (dC, dI) vwCl [(h0, .inr (1, [.int x0, .ref t1, .ref t2, .int x3, .int x4, .int x5])), (t1, .inr (0, [.ref m1, .ref k1, .ref v1, .int (nI n)]))] s.heap := hP
  have hl := lv_entry ([.ref h0, .int (nI q)]) (n := 2) (Nat.le_of_ble_eq_true rfl)
  rw [lg_entry_eq]
  generalize (lg_sl ([.ref h0, .int (nI q)]) ++ List.replicate (2 - (lg_sl ([.ref h0, .int (nI q)])).length) Slot.unset).toArray = ls at hl ⊢
  have hl : lv_has ls 2 [(0, .ref h0), (1, .int (nI q))] := hl
  refine lv_iload_n hx hb dX1_isCrowdedBy_0 rfl (lv_at hl 1 rfl) ?_
  refine lv_iconst (v := 4) hx hb dX1_isCrowdedBy_1 (by decide) ?_
  refine lv_imul hx hb dX1_isCrowdedBy_2 ?_
  refine r_eq (z := nI (q * 4)) (pk_mul q 4) ?_
  refine lv_aload_n hx hb dX1_isCrowdedBy_3 rfl (lv_at hl 0 rfl) ?_
  refine va_get (D := (dC, dI)) (ci := 1) (v := .ref t1) (C := RX1) (T := TX1) (N := 6) hx hb hts hin_X1_isCrowdedBy_X1 hown hK hP 0 rfl rfl 1 (by decide) (hts (.fieldLink RX1 22 "StepMap" "newTable" "LStepMap$Table;") (by decide +kernel)) (fun _ h9 => h9) rfl dX1_isCrowdedBy_4 ?_
  refine va_get (D := (dC, dI)) (ci := 0) (v := .int (nI n)) (C := RX0) (T := TX0) (N := 4) hx hb hts hin_X1_isCrowdedBy_X0 hown hK hP 1 rfl rfl 3 (by decide) (hts (.fieldLink RX1 69 "StepMap$Table" "slots" "I") (by decide +kernel)) (fun _ h9 => h9) rfl dX1_isCrowdedBy_7 ?_
  refine lv_iconst (v := 3) hx hb dX1_isCrowdedBy_10 (by decide) ?_
  refine lv_imul hx hb dX1_isCrowdedBy_11 ?_
  refine r_eq (z := nI (n * 3)) (pk_mul n 3) ?_
  refine lv_icmp_lt (tgt := 19) hx hb dX1_isCrowdedBy_12 (by decide) (fun c_12 => ?_) (fun c_12 => ?_)
  · have h_12 := q_lt_t (a := q * 4) (b := n * 3) (by omega) (by omega) c_12
    refine lv_iconst (v := 0) hx hb dX1_isCrowdedBy_19 (by decide) ?_
    exact W.zret (v := 0) hx hb hr (rfl) (fun t ht hW => ⟨_, rfl, (q_b_f (by omega)).symm, ht⟩) (fun _ h => by cases h) dX1_isCrowdedBy_20
  · have h_12 := q_lt_f (a := q * 4) (b := n * 3) (by omega) (by omega) c_12
    refine lv_iconst (v := 1) hx hb dX1_isCrowdedBy_15 (by decide) ?_
    refine lv_goto (tgt := 20) hx hb dX1_isCrowdedBy_16 (by decide) ?_
    exact W.zret (v := 1) hx hb hr (rfl) (fun t ht hW => ⟨_, rfl, (q_b_t (by omega)).symm, ht⟩) (fun _ h => by cases h) dX1_isCrowdedBy_20
set_option maxHeartbeats 4000000 in
set_option maxRecDepth 100000 in
theorem c_X1_isSparse (l : Launch) (dC : Nat → ClassId) (dI : Nat → Nat → Nat) (cI : ClassId) (h0 t1 : Nat) (x0 : Int32) (t2 : Nat) (x3 x5 : Int32) (m1 k1 v1 n q : Nat) (hn : n ≤ 4096) (hq : q ≤ 8192) : Met l yX1_isSparse wsX1_isSparse ({ frames := 0, cells := 0, slots := 0, locals := 0 }) (r_Pc (dC, dI) vwCl [(cI, .int)] [(h0, .inr (1, [.int x0, .ref t1, .ref t2, .int x3, .int (nI q), .int x5])), (t1, .inr (0, [.ref m1, .ref k1, .ref v1, .int (nI n)]))] [.ref h0]) (vp_Si (fun r => r = q_b (8 * q ≤ n ∧ 8 < n))) 0 0 (fun _ => False) := by
  refine Met.ofW (cc := cX1_isSparse) (maxL := 1) (ret := (some .boolean)) (by decide) rfl ?_
  intro p e s m args below meth c s₁ Bd hml hv
  obtain ⟨rfl, hP, hK⟩ := hv
  have hx := Bd.exec
  have hb := Bd.bytes
  have hr := Bd.returns
  have hts := atoms_spec (ws := wsX1_isSparse) Bd.pre
  have hown : s.vm.findClass RX1 = some m.cls := findClass_of_methodNamed Bd.named
  have hlocks := Bd.notSynchronized
  have S0 : CallFix p m c cX1_isSparse 1 s _ wsX1_isSparse RX1 := ⟨hx, hb, hml, hown, hts⟩
  have hP : va_P (dC, dI) vwCl [(h0, .inr (1, [.int x0, .ref t1, .ref t2, .int x3, .int (nI q), .int x5])), (t1, .inr (0, [.ref m1, .ref k1, .ref v1, .int (nI n)]))] s.heap := hP
  have hl := lv_entry ([.ref h0]) (n := 1) (Nat.le_of_ble_eq_true rfl)
  rw [lg_entry_eq]
  generalize (lg_sl ([.ref h0]) ++ List.replicate (1 - (lg_sl ([.ref h0])).length) Slot.unset).toArray = ls at hl ⊢
  have hl : lv_has ls 1 [(0, .ref h0)] := hl
  refine lv_aload_n hx hb dX1_isSparse_0 rfl (lv_at hl 0 rfl) ?_
  refine va_get (D := (dC, dI)) (ci := 1) (v := .int (nI q)) (C := RX1) (T := TX1) (N := 6) hx hb hts hin_X1_isSparse_X1 hown hK hP 0 rfl rfl 4 (by decide) (hts (.fieldLink RX1 57 "StepMap" "keyCount" "I") (by decide +kernel)) (fun _ h9 => h9) rfl dX1_isSparse_1 ?_
  refine lv_bipush (v := 8) hx hb dX1_isSparse_4 (by decide) ?_
  refine lv_imul hx hb dX1_isSparse_6 ?_
  refine r_eq (z := nI (q * 8)) (pk_mul q 8) ?_
  refine lv_aload_n hx hb dX1_isSparse_7 rfl (lv_at hl 0 rfl) ?_
  refine va_get (D := (dC, dI)) (ci := 1) (v := .ref t1) (C := RX1) (T := TX1) (N := 6) hx hb hts hin_X1_isSparse_X1 hown hK hP 0 rfl rfl 1 (by decide) (hts (.fieldLink RX1 22 "StepMap" "newTable" "LStepMap$Table;") (by decide +kernel)) (fun _ h9 => h9) rfl dX1_isSparse_8 ?_
  refine va_get (D := (dC, dI)) (ci := 0) (v := .int (nI n)) (C := RX0) (T := TX0) (N := 4) hx hb hts hin_X1_isSparse_X0 hown hK hP 1 rfl rfl 3 (by decide) (hts (.fieldLink RX1 69 "StepMap$Table" "slots" "I") (by decide +kernel)) (fun _ h9 => h9) rfl dX1_isSparse_11 ?_
  refine lv_icmp_gt (tgt := 33) hx hb dX1_isSparse_14 (by decide) (fun c_14 => ?_) (fun c_14 => ?_)
  · have h_14 := q_lt_t (a := n) (b := q * 8) (by omega) (by omega) c_14
    refine lv_iconst (v := 0) hx hb dX1_isSparse_33 (by decide) ?_
    exact W.zret (v := 0) hx hb hr (rfl) (fun t ht hW => ⟨_, rfl, (q_b_f (by omega)).symm, ht⟩) (fun _ h => by cases h) dX1_isSparse_34
  · have h_14 := q_lt_f (a := n) (b := q * 8) (by omega) (by omega) c_14
    refine lv_aload_n hx hb dX1_isSparse_17 rfl (lv_at hl 0 rfl) ?_
    refine va_get (D := (dC, dI)) (ci := 1) (v := .ref t1) (C := RX1) (T := TX1) (N := 6) hx hb hts hin_X1_isSparse_X1 hown hK hP 0 rfl rfl 1 (by decide) (hts (.fieldLink RX1 22 "StepMap" "newTable" "LStepMap$Table;") (by decide +kernel)) (fun _ h9 => h9) rfl dX1_isSparse_18 ?_
    refine va_get (D := (dC, dI)) (ci := 0) (v := .int (nI n)) (C := RX0) (T := TX0) (N := 4) hx hb hts hin_X1_isSparse_X0 hown hK hP 1 rfl rfl 3 (by decide) (hts (.fieldLink RX1 69 "StepMap$Table" "slots" "I") (by decide +kernel)) (fun _ h9 => h9) rfl dX1_isSparse_21 ?_
    refine lv_bipush (v := 8) hx hb dX1_isSparse_24 (by decide) ?_
    refine lv_icmp_le (tgt := 33) hx hb dX1_isSparse_26 (by decide) (fun c_26 => ?_) (fun c_26 => ?_)
    · have h_26 := q_le_t (a := n) (b := 8) (by omega) (by omega) c_26
      refine lv_iconst (v := 0) hx hb dX1_isSparse_33 (by decide) ?_
      exact W.zret (v := 0) hx hb hr (rfl) (fun t ht hW => ⟨_, rfl, (q_b_f (by omega)).symm, ht⟩) (fun _ h => by cases h) dX1_isSparse_34
    · have h_26 := q_le_f (a := n) (b := 8) (by omega) (by omega) c_26
      refine lv_iconst (v := 1) hx hb dX1_isSparse_29 (by decide) ?_
      refine lv_goto (tgt := 34) hx hb dX1_isSparse_30 (by decide) ?_
      exact W.zret (v := 1) hx hb hr (rfl) (fun t ht hW => ⟨_, rfl, (q_b_t (by omega)).symm, ht⟩) (fun _ h => by cases h) dX1_isSparse_34
set_option maxHeartbeats 4000000 in
set_option maxRecDepth 100000 in
theorem c_X1_emptySlot (l : Launch) (dC : Nat → ClassId) (dI : Nat → Nat → Nat) (cI : ClassId) (x : Int32)  : Met l yX1_emptySlot wsX1_emptySlot ({ frames := 0, cells := 0, slots := 0, locals := 0 }) (r_Pc (dC, dI) vwCl [(cI, .int)] [] [.int x]) (vp_Si (fun r => r = (-1) - x)) 0 0 (fun _ => False) := by
  refine Met.ofW (cc := cX1_emptySlot) (maxL := 1) (ret := (some .int)) (by decide) rfl ?_
  intro p e s m args below meth c s₁ Bd hml hv
  obtain ⟨rfl, hP, hK⟩ := hv
  have hx := Bd.exec
  have hb := Bd.bytes
  have hr := Bd.returns
  have hts := atoms_spec (ws := wsX1_emptySlot) Bd.pre
  have hown : s.vm.findClass RX1 = some m.cls := findClass_of_methodNamed Bd.named
  have hlocks := Bd.notSynchronized
  have S0 : CallFix p m c cX1_emptySlot 1 s _ wsX1_emptySlot RX1 := ⟨hx, hb, hml, hown, hts⟩
  have hP : va_P (dC, dI) vwCl [] s.heap := hP
  have hl := lv_entry ([.int x]) (n := 1) (Nat.le_of_ble_eq_true rfl)
  rw [lg_entry_eq]
  generalize (lg_sl ([.int x]) ++ List.replicate (1 - (lg_sl ([.int x])).length) Slot.unset).toArray = ls at hl ⊢
  have hl : lv_has ls 1 [(0, .int x)] := hl
  refine lv_iconst (v := -1) hx hb dX1_emptySlot_0 (by decide) ?_
  refine lv_iload_n hx hb dX1_emptySlot_1 rfl (lv_at hl 0 rfl) ?_
  refine lv_isub hx hb dX1_emptySlot_2 ?_
  exact W.iret (v := (-1) - x) hx hb hr (fun t ht hW => ⟨_, rfl, rfl, ht⟩) (fun _ h => by cases h) dX1_emptySlot_3
theorem q_lt_of {x y : Int32} (h : ¬ x ≤ y) : y < x := by rw [Int32.lt_iff_toInt_lt]; rw [Int32.le_iff_toInt_le] at h; omega
theorem q_ge_of {x y : Int32} (h : y < x) : ¬ x ≤ y := by rw [Int32.lt_iff_toInt_lt] at h; rw [Int32.le_iff_toInt_le]; omega
set_option maxHeartbeats 4000000 in
set_option maxRecDepth 100000 in
theorem lp_X1_powerWithin {p : Program} {l : Launch} {e : Env} {s : State} {m : MethodId} {args : Array Value} {below : List Frame} {meth : Method} {c : Code} {Q : State → Prop} {dC : Nat → ClassId} {dI : Nat → Nat → Nat} {cI : ClassId} {Aq : Nat → Prop} {H0 : Heap} (S0 : CallFix p m c cX1_powerWithin 2 s args wsX1_powerWithin RX1) (hK : va_K (dC, dI) vwCl [(cI, .int)] s) (hA : ∀ q : Nat, H0.size ≤ q → Aq q) (h : Int32) (R : Nat)  {H : Heap} {locs : List Loc} (hP : va_P (dC, dI) vwCl [] H)
    (kk : ∀ (ls : Array Slot), lv_has ls 2 [(0, .int h), (1, .int (nI R))] → W p l e ({ frames := 0, cells := 0, slots := 0, locals := 0 }) s m args below meth c H locs 0 0 Q (F0 m 24 ls [])) :
    ∀ (f : Nat) (p2 : Nat), q_HI f p2 ∧ q_hf f h p2 = R → ∀ (ls : Array Slot), lv_has ls 2 [(0, .int h), (1, .int (nI p2))] → W p l e ({ frames := 0, cells := 0, slots := 0, locals := 0 }) s m args below meth c H locs 0 0 Q (F0 m 3 ls []) := by
  obtain ⟨hx, hb, hml, hown, hts⟩ := id S0
  intro f
  induction f with
  | zero =>
    intro p2 hi ls hl
    have hpb := q_HI_b hi.1
    have hp := q_HI_0 hi.1
    refine lv_iload_n hx hb dX1_powerWithin_3 rfl (lv_at hl 1 rfl) ?_
    refine lv_sipush (v := 1024) hx hb dX1_powerWithin_4 (by decide) ?_
    refine lv_icmp_ge (tgt := 24) hx hb dX1_powerWithin_7 (by decide) (fun c_7 => ?_) (fun c_7 => ?_)
    · have h_7 := q_le_t (a := 1024) (b := p2) (by omega) (by omega) c_7
      have e1 : p2 = R := by rw [← hi.2]; exact rfl
      subst e1
      exact kk ls (lv_sub hl [0, 1] rfl)
    · have h_7 := q_le_f (a := 1024) (b := p2) (by omega) (by omega) c_7
      omega
  | succ f ih =>
    intro p2 hi ls hl
    have hpb := q_HI_b hi.1
    have hp := q_HI_1 hi.1
    refine lv_iload_n hx hb dX1_powerWithin_3 rfl (lv_at hl 1 rfl) ?_
    refine lv_sipush (v := 1024) hx hb dX1_powerWithin_4 (by decide) ?_
    refine lv_icmp_ge (tgt := 24) hx hb dX1_powerWithin_7 (by decide) (fun c_7 => ?_) (fun c_7 => ?_)
    · have h_7 := q_le_t (a := 1024) (b := p2) (by omega) (by omega) c_7
      omega
    · have h_7 := q_le_f (a := 1024) (b := p2) (by omega) (by omega) c_7
      refine lv_iload_n hx hb dX1_powerWithin_10 rfl (lv_at hl 1 rfl) ?_
      refine lv_iconst (v := 2) hx hb dX1_powerWithin_11 (by decide) ?_
      refine lv_imul hx hb dX1_powerWithin_12 ?_
      refine r_eq (z := nI (p2 * 2)) (pk_mul p2 2) ?_
      refine lv_iload_n hx hb dX1_powerWithin_13 rfl (lv_at hl 0 rfl) ?_
      refine lv_icmp_gt (tgt := 24) hx hb dX1_powerWithin_14 (by decide) (fun c_14 => ?_) (fun c_14 => ?_)
      · have c_14 := q_ge_of c_14
        have e1 : p2 = R := by rw [← hi.2, q_hf_0 c_14]
        subst e1
        exact kk ls (lv_sub hl [0, 1] rfl)
      · refine lv_iload_n hx hb dX1_powerWithin_17 rfl (lv_at hl 1 rfl) ?_
        refine lv_iconst (v := 2) hx hb dX1_powerWithin_18 (by decide) ?_
        refine lv_imul hx hb dX1_powerWithin_19 ?_
        refine r_eq (z := nI (p2 * 2)) (pk_mul p2 2) ?_
        refine lv_istore_n (lv' := [(1, .int (nI (p2 * 2))), (0, .int h)]) hx hb dX1_powerWithin_20 rfl hl (by decide) rfl (fun ls hl => ?_)
        refine lv_goto (tgt := 3) hx hb dX1_powerWithin_21 (by decide) ?_
        exact ih (p2 * 2) ⟨q_HI_s hi.1, by rw [← hi.2, q_hf_1 (Classical.byContradiction fun z => c_14 (q_lt_of z))]⟩ ls (lv_sub hl [1, 0] rfl)
set_option maxHeartbeats 4000000 in
set_option maxRecDepth 100000 in
theorem c_X1_powerWithin (l : Launch) (dC : Nat → ClassId) (dI : Nat → Nat → Nat) (cI : ClassId) (h : Int32)  : Met l yX1_powerWithin wsX1_powerWithin ({ frames := 0, cells := 0, slots := 0, locals := 0 }) (r_Pc (dC, dI) vwCl [(cI, .int)] [] [.int h]) (vp_Si (fun r => r = nI (q_half h))) 0 0 (fun _ => False) := by
  refine Met.ofW (cc := cX1_powerWithin) (maxL := 2) (ret := (some .int)) (by decide) rfl ?_
  intro p e s m args below meth c s₁ Bd hml hv
  obtain ⟨rfl, hP, hK⟩ := hv
  have hx := Bd.exec
  have hb := Bd.bytes
  have hr := Bd.returns
  have hts := atoms_spec (ws := wsX1_powerWithin) Bd.pre
  have hown : s.vm.findClass RX1 = some m.cls := findClass_of_methodNamed Bd.named
  have hlocks := Bd.notSynchronized
  have S0 : CallFix p m c cX1_powerWithin 2 s _ wsX1_powerWithin RX1 := ⟨hx, hb, hml, hown, hts⟩
  have hP : va_P (dC, dI) vwCl [] s.heap := hP
  have hl := lv_entry ([.int h]) (n := 2) (Nat.le_of_ble_eq_true rfl)
  rw [lg_entry_eq]
  generalize (lg_sl ([.int h]) ++ List.replicate (2 - (lg_sl ([.int h])).length) Slot.unset).toArray = ls at hl ⊢
  have hl : lv_has ls 2 [(0, .int h)] := hl
  refine lv_bipush (v := 8) hx hb dX1_powerWithin_0 (by decide) ?_
  refine lv_istore_n (lv' := [(1, .int 8), (0, .int h)]) hx hb dX1_powerWithin_2 rfl hl (by decide) rfl (fun ls hl => ?_)
  refine lp_X1_powerWithin (Aq := fun _ => True) (H0 := s.heap) S0 hK (fun _ _ => trivial) h (q_half h) hP (fun ls hl => ?_) 7 8 ⟨by unfold q_HI; omega, rfl⟩ ls (lv_sub hl [1, 0] rfl)
  refine lv_iload_n hx hb dX1_powerWithin_24 rfl (lv_at hl 1 rfl) ?_
  exact W.iret (v := nI (q_half h)) hx hb hr (fun t ht hW => ⟨_, rfl, rfl, ht⟩) (fun _ h => by cases h) dX1_powerWithin_25
end
section
/-! MAP: looking for a key (laid by gen_map.py) -/
set_option maxHeartbeats 4000000 in
set_option maxRecDepth 100000 in
theorem lp_X1_lookFor {p : Program} {l : Launch} {e : Env} {s : State} {m : MethodId} {args : Array Value} {below : List Frame} {meth : Method} {c : Code} {Q : State → Prop} {dC : Nat → ClassId} {dI : Nat → Nat → Nat} {cI : ClassId} {Aq : Nat → Prop} {H0 : Heap} (S0 : CallFix p m c cX1_lookFor 5 s args wsX1_lookFor RX1) (hK : va_K (dC, dI) vwCl [(cI, .int)] s) (hA : ∀ q : Nat, H0.size ≤ q → Aq q) (h0 ra rb ta ma ka va L : Nat) (x0 x3 x4 : Int32) (T : q_TB) (k : Int32) (E W2 : Nat) (hn : q_pw T.1) (hnL : T.1 ≤ L) (hL : L ≤ 1024)
    (kk : ∀ (H : Heap) (locs : List Loc) (ls : Array Slot), va_P (dC, dI) vwCl [(h0, .inr (1, [.int x0, .ref ra, .ref rb, .int x3, .int x4, .int (nI W2)])), (ta, .inr (0, [.ref ma, .ref ka, .ref va, .int (nI T.1)])), (ma, .inl (cI, L, .inl T.2.1)), (ka, .inl (cI, L, .inl T.2.2.1)), (va, .inl (cI, L, .inl T.2.2.2))] H → va_D Aq [(h0, .inr (1, [.int x0, .ref ra, .ref rb, .int x3, .int x4, .int (nI W2)])), (ta, .inr (0, [.ref ma, .ref ka, .ref va, .int (nI T.1)])), (ma, .inl (cI, L, .inl T.2.1)), (ka, .inl (cI, L, .inl T.2.2.1)), (va, .inl (cI, L, .inl T.2.2.2))] → va_S Aq H0 H locs → lv_has ls 5 [(0, .ref h0), (1, .ref ta), (2, .int k), (3, .int (nI E))] → W p l e ({ frames := 2, cells := 0, slots := 0, locals := 44 }) s m args below meth c H locs 0 0 Q (F0 m 59 ls [])) :
    ∀ (f : Nat) (i s2 w : Nat), s2 + f = T.1 ∧ i < T.1 ∧ q_ad T.1 i (q_lkS T.2.1 T.2.2.1 T.1 k f i) = E ∧ w + q_lkS T.2.1 T.2.2.1 T.1 k f i = W2 → ∀ (H : Heap) (locs : List Loc) (ls : Array Slot), va_P (dC, dI) vwCl [(h0, .inr (1, [.int x0, .ref ra, .ref rb, .int x3, .int x4, .int (nI w)])), (ta, .inr (0, [.ref ma, .ref ka, .ref va, .int (nI T.1)])), (ma, .inl (cI, L, .inl T.2.1)), (ka, .inl (cI, L, .inl T.2.2.1)), (va, .inl (cI, L, .inl T.2.2.2))] H → va_D Aq [(h0, .inr (1, [.int x0, .ref ra, .ref rb, .int x3, .int x4, .int (nI w)])), (ta, .inr (0, [.ref ma, .ref ka, .ref va, .int (nI T.1)])), (ma, .inl (cI, L, .inl T.2.1)), (ka, .inl (cI, L, .inl T.2.2.1)), (va, .inl (cI, L, .inl T.2.2.2))] → va_S Aq H0 H locs → lv_has ls 5 [(0, .ref h0), (1, .ref ta), (2, .int k), (3, .int (nI i)), (4, .int (nI s2))] → W p l e ({ frames := 2, cells := 0, slots := 0, locals := 44 }) s m args below meth c H locs 0 0 Q (F0 m 19 ls []) := by
  obtain ⟨hx, hb, hml, hown, hts⟩ := id S0
  intro f
  induction f with
  | zero =>
    intro i s2 w hi H locs ls hP hD hS hl
    have hn8 := q_pw_8 hn
    obtain ⟨h1, h2, h3, h4⟩ := hi
    refine lv_iload hx hb dX1_lookFor_19 (lv_at hl 4 rfl) ?_
    refine lv_aload_n hx hb dX1_lookFor_21 rfl (lv_at hl 1 rfl) ?_
    refine va_get (D := (dC, dI)) (ci := 0) (v := .int (nI T.1)) (C := RX0) (T := TX0) (N := 4) hx hb hts hin_X1_lookFor_X0 hown hK hP 1 rfl rfl 3 (by decide) (hts (.fieldLink RX1 69 "StepMap$Table" "slots" "I") (by decide +kernel)) (fun _ h9 => h9) rfl dX1_lookFor_22 ?_
    refine lv_icmp_ge (tgt := 59) hx hb dX1_lookFor_25 (by decide) (fun c_25 => ?_) (fun c_25 => ?_)
    · have h_25 := q_le_t (a := T.1) (b := s2) (by omega) (by omega) c_25
      have e3 : i = E := by rw [← h3]; exact (q_ad_0 h2).symm
      have e4 : w = W2 := h4
      subst e3
      subst e4
      exact kk H locs ls hP hD hS (lv_sub hl [0, 1, 2, 3] rfl)
    · have h_25 := q_le_f (a := T.1) (b := s2) (by omega) (by omega) c_25
      omega
  | succ f ih =>
    intro i s2 w hi H locs ls hP hD hS hl
    have hn8 := q_pw_8 hn
    obtain ⟨h1, h2, h3, h4⟩ := hi
    refine lv_iload hx hb dX1_lookFor_19 (lv_at hl 4 rfl) ?_
    refine lv_aload_n hx hb dX1_lookFor_21 rfl (lv_at hl 1 rfl) ?_
    refine va_get (D := (dC, dI)) (ci := 0) (v := .int (nI T.1)) (C := RX0) (T := TX0) (N := 4) hx hb hts hin_X1_lookFor_X0 hown hK hP 1 rfl rfl 3 (by decide) (hts (.fieldLink RX1 69 "StepMap$Table" "slots" "I") (by decide +kernel)) (fun _ h9 => h9) rfl dX1_lookFor_22 ?_
    refine lv_icmp_ge (tgt := 59) hx hb dX1_lookFor_25 (by decide) (fun c_25 => ?_) (fun c_25 => ?_)
    · have h_25 := q_le_t (a := T.1) (b := s2) (by omega) (by omega) c_25
      omega
    · have h_25 := q_le_f (a := T.1) (b := s2) (by omega) (by omega) c_25
      refine lv_aload_n hx hb dX1_lookFor_28 rfl (lv_at hl 1 rfl) ?_
      refine lv_iload_n hx hb dX1_lookFor_29 rfl (lv_at hl 3 rfl) ?_
      refine lv_iload_n hx hb dX1_lookFor_30 rfl (lv_at hl 2 rfl) ?_
      refine r_roV (rest := []) S0 (c_X0_endsSearch l dC dI cI ta ma ka va L T.1 T.2.1 T.2.2.1 T.2.2.2 i k (by assumption) (by omega) (by omega) (by omega)) (cwV 2 hts gX1_lookFor_X0_endsSearch rfl rfl rfl (by decide +kernel) ⟨Nat.le_of_ble_eq_true rfl, Nat.le_of_ble_eq_true rfl⟩) hK hP [1, 2, 3, 4] rfl (ci := 0) (q0 := 0) rfl rfl rfl rfl hl.1 rfl (Nat.le_of_ble_eq_true rfl) dX1_lookFor_31 ⟨Nat.zero_le _, Nat.zero_le _⟩ ?_
      refine lv_if_ne (tgt := 59) hx hb dX1_lookFor_34 (by decide) (fun c_34 => ?_) (fun c_34 => ?_)
      · have h_34 : (q_stp T.2.1 T.2.2.1 k i) := q_b_n0 c_34
        rw [q_lkS_z _ _ h_34] at h3 h4
        have e3 : i = E := by rw [← h3]; exact (q_ad_0 h2).symm
        have e4 : w = W2 := h4
        subst e3
        subst e4
        exact kk H locs ls hP hD hS (lv_sub hl [0, 1, 2, 3] rfl)
      · have h_34 : ¬ (q_stp T.2.1 T.2.2.1 k i) := q_b_0.mp c_34
        refine lv_aload_n hx hb dX1_lookFor_37 rfl (lv_at hl 1 rfl) ?_
        refine lv_iload_n hx hb dX1_lookFor_38 rfl (lv_at hl 3 rfl) ?_
        refine r_roV (rest := []) S0 (c_X0_next l dC dI cI ta ma ka va L T.1 T.2.1 T.2.2.1 T.2.2.2 i (by assumption) (by omega) (by omega) (by omega)) (cwV 1 hts gX1_lookFor_X0_next rfl rfl rfl (by decide +kernel) ⟨Nat.le_of_ble_eq_true rfl, Nat.le_of_ble_eq_true rfl⟩) hK hP [1, 2, 3, 4] rfl (ci := 0) (q0 := 0) rfl rfl rfl rfl hl.1 rfl (Nat.le_of_ble_eq_true rfl) dX1_lookFor_39 ⟨Nat.zero_le _, Nat.zero_le _⟩ ?_
        refine lv_istore_n (lv' := [(3, .int (nI (q_ad T.1 i 1))), (0, .ref h0), (1, .ref ta), (2, .int k), (4, .int (nI s2))]) hx hb dX1_lookFor_42 rfl hl (by decide) rfl (fun ls hl => ?_)
        refine lv_aload_n hx hb dX1_lookFor_43 rfl (lv_at hl 1 rfl) ?_
        refine lv_dup hx hb dX1_lookFor_44 rfl ?_
        refine va_get (D := (dC, dI)) (ci := 1) (v := .int (nI w)) (C := RX1) (T := TX1) (N := 6) hx hb hts hin_X1_lookFor_X1 hown hK hP 0 rfl rfl 5 (by decide) (hts (.fieldLink RX1 35 "StepMap" "work" "I") (by decide +kernel)) (fun _ h9 => h9) rfl dX1_lookFor_45 ?_
        refine lv_iconst (v := 1) hx hb dX1_lookFor_48 (by decide) ?_
        refine lv_iadd hx hb dX1_lookFor_49 ?_
        refine r_eq (z := nI (w + 1)) (nI_add w 1) ?_
        refine va_put (D := (dC, dI)) (ci := 1) (v := .int (nI (w + 1))) (ty := .int) (C := RX1) (T := TX1) (N := 6) hx hb hts hin_X1_lookFor_X1 tyX1 tyX1_ok nmX1 hown hK hP hD hS 0 rfl rfl 5 (by decide) (hts (.fieldLink RX1 35 "StepMap" "work" "I") (by decide +kernel)) (fun _ h9 => h9) rfl (by decide +kernel) (rfl) (rfl) (Nat.le_of_ble_eq_true rfl) dX1_lookFor_50 (fun H locs hP hD hS => ?_)
        have hP : va_P (dC, dI) vwCl [(h0, .inr (1, [.int x0, .ref ra, .ref rb, .int x3, .int x4, .int (nI (w + 1))])), (ta, .inr (0, [.ref ma, .ref ka, .ref va, .int (nI T.1)])), (ma, .inl (cI, L, .inl T.2.1)), (ka, .inl (cI, L, .inl T.2.2.1)), (va, .inl (cI, L, .inl T.2.2.2))] H := hP
        have hD : va_D Aq [(h0, .inr (1, [.int x0, .ref ra, .ref rb, .int x3, .int x4, .int (nI (w + 1))])), (ta, .inr (0, [.ref ma, .ref ka, .ref va, .int (nI T.1)])), (ma, .inl (cI, L, .inl T.2.1)), (ka, .inl (cI, L, .inl T.2.2.1)), (va, .inl (cI, L, .inl T.2.2.2))] := hD
        refine lv_iinc (v := nI (s2 + 1)) (lv' := [(4, .int (nI (s2 + 1))), (3, .int (nI (q_ad T.1 i 1))), (0, .ref h0), (1, .ref ta), (2, .int k)]) hx hb dX1_lookFor_53 hl (k := 4) rfl (nI_1 _) (by decide) rfl (fun ls hl => ?_)
        refine lv_goto (tgt := 19) hx hb dX1_lookFor_56 (by decide) ?_
        rw [q_lkS_s _ _ h_34] at h3 h4
        have hle := q_lkS_le (M := T.2.1) (K := T.2.2.1) (n := T.1) (k := k) f (q_ad T.1 i 1)
        exact ih (q_ad T.1 i 1) (s2 + 1) (w + 1) ⟨by omega, q_ad_lt h2 (by omega), by rw [q_ad_ad h2 (by omega), Nat.add_comm 1 _]; exact h3, by omega⟩ H locs ls hP hD hS (lv_sub hl [2, 3, 4, 1, 0] rfl)
set_option maxHeartbeats 4000000 in
set_option maxRecDepth 100000 in
theorem c_X1_lookFor (l : Launch) (dC : Nat → ClassId) (dI : Nat → Nat → Nat) (cI : ClassId) (h0 ra rb ta ma ka va L : Nat) (x0 x3 x4 : Int32) (w : Nat) (T : q_TB) (k : Int32) (sz : Nat) (hn : q_pw T.1) (hnL : T.1 ≤ L) (hL : L ≤ 1024) : Met l yX1_lookFor wsX1_lookFor ({ frames := 2, cells := 0, slots := 0, locals := 44 }) (r_Mc (dC, dI) vwCl [(cI, .int)] [(h0, .inr (1, [.int x0, .ref ra, .ref rb, .int x3, .int x4, .int (nI w)])), (ta, .inr (0, [.ref ma, .ref ka, .ref va, .int (nI T.1)])), (ma, .inl (cI, L, .inl T.2.1)), (ka, .inl (cI, L, .inl T.2.2.1)), (va, .inl (cI, L, .inl T.2.2.2))] sz [.ref h0, .ref ta, .int k]) (va_Qi (fun (r : Int32) (_ : Unit) => r = nI (q_lkE T k)) (fun u t => r_B (dC, dI) vwCl [(cI, .int)] (va_A [(h0, .inr (1, [.int x0, .ref ra, .ref rb, .int x3, .int x4, .int (nI w)])), (ta, .inr (0, [.ref ma, .ref ka, .ref va, .int (nI T.1)])), (ma, .inl (cI, L, .inl T.2.1)), (ka, .inl (cI, L, .inl T.2.2.1)), (va, .inl (cI, L, .inl T.2.2.2))] sz) ((fun _ => [(h0, .inr (1, [.int x0, .ref ra, .ref rb, .int x3, .int x4, .int (nI (w + (q_lkD T k + 1)))])), (ta, .inr (0, [.ref ma, .ref ka, .ref va, .int (nI T.1)])), (ma, .inl (cI, L, .inl T.2.1)), (ka, .inl (cI, L, .inl T.2.2.1)), (va, .inl (cI, L, .inl T.2.2.2))]) u) t) (va_A [(h0, .inr (1, [.int x0, .ref ra, .ref rb, .int x3, .int x4, .int (nI w)])), (ta, .inr (0, [.ref ma, .ref ka, .ref va, .int (nI T.1)])), (ma, .inl (cI, L, .inl T.2.1)), (ka, .inl (cI, L, .inl T.2.2.1)), (va, .inl (cI, L, .inl T.2.2.2))] sz)) 0 0 (va_A [(h0, .inr (1, [.int x0, .ref ra, .ref rb, .int x3, .int x4, .int (nI w)])), (ta, .inr (0, [.ref ma, .ref ka, .ref va, .int (nI T.1)])), (ma, .inl (cI, L, .inl T.2.1)), (ka, .inl (cI, L, .inl T.2.2.1)), (va, .inl (cI, L, .inl T.2.2.2))] sz) := by
  refine Met.ofW (cc := cX1_lookFor) (maxL := 5) (ret := (some .int)) (by decide) rfl ?_
  intro p e s m args below meth c s₁ Bd hml hv
  obtain ⟨rfl, hsz, hP, hK, hD0⟩ := hv
  have hx := Bd.exec
  have hb := Bd.bytes
  have hr := Bd.returns
  have hts := atoms_spec (ws := wsX1_lookFor) Bd.pre
  have hown : s.vm.findClass RX1 = some m.cls := findClass_of_methodNamed Bd.named
  have hlocks := Bd.notSynchronized
  have S0 : CallFix p m c cX1_lookFor 5 s _ wsX1_lookFor RX1 := ⟨hx, hb, hml, hown, hts⟩
  subst hsz
  have hD := hD0.self (sz := s.heap.size)
  generalize hAe : va_A [(h0, .inr (1, [.int x0, .ref ra, .ref rb, .int x3, .int x4, .int (nI w)])), (ta, .inr (0, [.ref ma, .ref ka, .ref va, .int (nI T.1)])), (ma, .inl (cI, L, .inl T.2.1)), (ka, .inl (cI, L, .inl T.2.2.1)), (va, .inl (cI, L, .inl T.2.2.2))] s.heap.size = Aq at hD ⊢
  have hA : ∀ q : Nat, s.heap.size ≤ q → Aq q := fun q h => by rw [← hAe]; exact Or.inr h
  have hS : va_S Aq s.heap s.heap [] := va_S.rf
  have hD : va_D Aq [(h0, .inr (1, [.int x0, .ref ra, .ref rb, .int x3, .int x4, .int (nI w)])), (ta, .inr (0, [.ref ma, .ref ka, .ref va, .int (nI T.1)])), (ma, .inl (cI, L, .inl T.2.1)), (ka, .inl (cI, L, .inl T.2.2.1)), (va, .inl (cI, L, .inl T.2.2.2))] := hD
  have hP : va_P (dC, dI) vwCl [(h0, .inr (1, [.int x0, .ref ra, .ref rb, .int x3, .int x4, .int (nI w)])), (ta, .inr (0, [.ref ma, .ref ka, .ref va, .int (nI T.1)])), (ma, .inl (cI, L, .inl T.2.1)), (ka, .inl (cI, L, .inl T.2.2.1)), (va, .inl (cI, L, .inl T.2.2.2))] s.heap := hP
  have hl := lv_entry ([.ref h0, .ref ta, .int k]) (n := 5) (Nat.le_of_ble_eq_true rfl)
  rw [lg_entry_eq]
  generalize (lg_sl ([.ref h0, .ref ta, .int k]) ++ List.replicate (5 - (lg_sl ([.ref h0, .ref ta, .int k])).length) Slot.unset).toArray = ls at hl ⊢
  have hl : lv_has ls 5 [(0, .ref h0), (1, .ref ta), (2, .int k)] := hl
  have hn8 := q_pw_8 hn
  refine lv_aload_n hx hb dX1_lookFor_0 rfl (lv_at hl 1 rfl) ?_
  refine lv_iload_n hx hb dX1_lookFor_1 rfl (lv_at hl 2 rfl) ?_
  refine r_roV (rest := []) S0 (c_X0_home l dC dI cI ta ma ka va L T.1 T.2.1 T.2.2.1 T.2.2.2 k (by assumption) (by omega) (by omega)) (cwV 1 hts gX1_lookFor_X0_home rfl rfl rfl (by decide +kernel) ⟨Nat.le_of_ble_eq_true rfl, Nat.le_of_ble_eq_true rfl⟩) hK hP [1, 2, 3, 4] rfl (ci := 0) (q0 := 0) rfl rfl rfl rfl hl.1 rfl (Nat.le_of_ble_eq_true rfl) dX1_lookFor_2 ⟨Nat.zero_le _, Nat.zero_le _⟩ ?_
  refine lv_istore_n (lv' := [(3, .int (nI (q_hm T.1 k))), (0, .ref h0), (1, .ref ta), (2, .int k)]) hx hb dX1_lookFor_5 rfl hl (by decide) rfl (fun ls hl => ?_)
  refine lv_aload_n hx hb dX1_lookFor_6 rfl (lv_at hl 1 rfl) ?_
  refine lv_dup hx hb dX1_lookFor_7 rfl ?_
  refine va_get (D := (dC, dI)) (ci := 1) (v := .int (nI w)) (C := RX1) (T := TX1) (N := 6) hx hb hts hin_X1_lookFor_X1 hown hK hP 0 rfl rfl 5 (by decide) (hts (.fieldLink RX1 35 "StepMap" "work" "I") (by decide +kernel)) (fun _ h9 => h9) rfl dX1_lookFor_8 ?_
  refine lv_iconst (v := 1) hx hb dX1_lookFor_11 (by decide) ?_
  refine lv_iadd hx hb dX1_lookFor_12 ?_
  refine r_eq (z := nI (w + 1)) (nI_add w 1) ?_
  refine va_put (D := (dC, dI)) (ci := 1) (v := .int (nI (w + 1))) (ty := .int) (C := RX1) (T := TX1) (N := 6) hx hb hts hin_X1_lookFor_X1 tyX1 tyX1_ok nmX1 hown hK hP hD hS 0 rfl rfl 5 (by decide) (hts (.fieldLink RX1 35 "StepMap" "work" "I") (by decide +kernel)) (fun _ h9 => h9) rfl (by decide +kernel) (rfl) (rfl) (Nat.le_of_ble_eq_true rfl) dX1_lookFor_13 (fun H locs hP hD hS => ?_)
  have hP : va_P (dC, dI) vwCl [(h0, .inr (1, [.int x0, .ref ra, .ref rb, .int x3, .int x4, .int (nI (w + 1))])), (ta, .inr (0, [.ref ma, .ref ka, .ref va, .int (nI T.1)])), (ma, .inl (cI, L, .inl T.2.1)), (ka, .inl (cI, L, .inl T.2.2.1)), (va, .inl (cI, L, .inl T.2.2.2))] H := hP
  have hD : va_D Aq [(h0, .inr (1, [.int x0, .ref ra, .ref rb, .int x3, .int x4, .int (nI (w + 1))])), (ta, .inr (0, [.ref ma, .ref ka, .ref va, .int (nI T.1)])), (ma, .inl (cI, L, .inl T.2.1)), (ka, .inl (cI, L, .inl T.2.2.1)), (va, .inl (cI, L, .inl T.2.2.2))] := hD
  refine lv_iconst (v := 1) hx hb dX1_lookFor_16 (by decide) ?_
  refine lv_istore (lv' := [(4, .int 1), (3, .int (nI (q_hm T.1 k))), (0, .ref h0), (1, .ref ta), (2, .int k)]) hx hb dX1_lookFor_17 hl (by decide) rfl (fun ls hl => ?_)
  refine lp_X1_lookFor S0 hK hA h0 ra rb ta ma ka va L x0 x3 x4 T k (q_lkE T k) (w + (q_lkD T k + 1)) hn hnL hL (fun H locs ls hP hD hS hl => ?_) (T.1 - 1) (q_hm T.1 k) 1 (w + 1) ⟨by omega, q_hm_lt k (by omega), rfl, by show w + 1 + q_lkD T k = _; omega⟩ H locs ls hP hD hS (lv_sub hl [2, 3, 4, 1, 0] rfl)
  refine lv_iload_n hx hb dX1_lookFor_59 rfl (lv_at hl 3 rfl) ?_
  exact W.iret (v := nI (q_lkE T k)) hx hb hr (fun t ht hW => ⟨⟨_, (), rfl, rfl, by rw [ht]; exact hP, va_K.moved hW.alike hK, hD⟩, hS.F ht⟩) hS.2.2 dX1_lookFor_60
set_option maxHeartbeats 4000000 in
set_option maxRecDepth 100000 in
theorem c_X1_lookUp (l : Launch) (dC : Nat → ClassId) (dI : Nat → Nat → Nat) (cI : ClassId) (h0 t1 m1 k1 v1 t2 m2 k2 v2 L : Nat) (A B : q_TB) (nx : Option Nat) (kc w : Nat) (k : Int32) (sz : Nat) (hSZ : q_SZ L A B) (hkc : kc ≤ 4096) (hc : ∀ c, nx = some c → c < 4096) : Met l yX1_lookUp wsX1_lookUp ({ frames := 3, cells := 0, slots := 0, locals := 68 }) (r_Mc (dC, dI) vwCl [(cI, .int)] [(h0, .inr (1, [.int (nI L), .ref t1, .ref t2, .int (q_nx nx), .int (nI kc), .int (nI w)])), (t1, .inr (0, [.ref m1, .ref k1, .ref v1, .int (nI A.1)])), (m1, .inl (cI, L, .inl A.2.1)), (k1, .inl (cI, L, .inl A.2.2.1)), (v1, .inl (cI, L, .inl A.2.2.2)), (t2, .inr (0, [.ref m2, .ref k2, .ref v2, .int (nI B.1)])), (m2, .inl (cI, L, .inl B.2.1)), (k2, .inl (cI, L, .inl B.2.2.1)), (v2, .inl (cI, L, .inl B.2.2.2))] sz [.ref h0, .int k]) (va_Qi (fun (r : Int32) (_ : Unit) => r = q_place A B nx k) (fun u t => r_B (dC, dI) vwCl [(cI, .int)] (va_A [(h0, .inr (1, [.int (nI L), .ref t1, .ref t2, .int (q_nx nx), .int (nI kc), .int (nI w)])), (t1, .inr (0, [.ref m1, .ref k1, .ref v1, .int (nI A.1)])), (m1, .inl (cI, L, .inl A.2.1)), (k1, .inl (cI, L, .inl A.2.2.1)), (v1, .inl (cI, L, .inl A.2.2.2)), (t2, .inr (0, [.ref m2, .ref k2, .ref v2, .int (nI B.1)])), (m2, .inl (cI, L, .inl B.2.1)), (k2, .inl (cI, L, .inl B.2.2.1)), (v2, .inl (cI, L, .inl B.2.2.2))] sz) ((fun _ => [(h0, .inr (1, [.int (nI L), .ref t1, .ref t2, .int (q_nx nx), .int (nI kc), .int (nI (w + q_lw A B nx k))])), (t1, .inr (0, [.ref m1, .ref k1, .ref v1, .int (nI A.1)])), (m1, .inl (cI, L, .inl A.2.1)), (k1, .inl (cI, L, .inl A.2.2.1)), (v1, .inl (cI, L, .inl A.2.2.2)), (t2, .inr (0, [.ref m2, .ref k2, .ref v2, .int (nI B.1)])), (m2, .inl (cI, L, .inl B.2.1)), (k2, .inl (cI, L, .inl B.2.2.1)), (v2, .inl (cI, L, .inl B.2.2.2))]) u) t) (va_A [(h0, .inr (1, [.int (nI L), .ref t1, .ref t2, .int (q_nx nx), .int (nI kc), .int (nI w)])), (t1, .inr (0, [.ref m1, .ref k1, .ref v1, .int (nI A.1)])), (m1, .inl (cI, L, .inl A.2.1)), (k1, .inl (cI, L, .inl A.2.2.1)), (v1, .inl (cI, L, .inl A.2.2.2)), (t2, .inr (0, [.ref m2, .ref k2, .ref v2, .int (nI B.1)])), (m2, .inl (cI, L, .inl B.2.1)), (k2, .inl (cI, L, .inl B.2.2.1)), (v2, .inl (cI, L, .inl B.2.2.2))] sz)) 0 0 (va_A [(h0, .inr (1, [.int (nI L), .ref t1, .ref t2, .int (q_nx nx), .int (nI kc), .int (nI w)])), (t1, .inr (0, [.ref m1, .ref k1, .ref v1, .int (nI A.1)])), (m1, .inl (cI, L, .inl A.2.1)), (k1, .inl (cI, L, .inl A.2.2.1)), (v1, .inl (cI, L, .inl A.2.2.2)), (t2, .inr (0, [.ref m2, .ref k2, .ref v2, .int (nI B.1)])), (m2, .inl (cI, L, .inl B.2.1)), (k2, .inl (cI, L, .inl B.2.2.1)), (v2, .inl (cI, L, .inl B.2.2.2))] sz) := by
  refine Met.ofW (cc := cX1_lookUp) (maxL := 4) (ret := (some .int)) (by decide) rfl ?_
  intro p e s m args below meth c s₁ Bd hml hv
  obtain ⟨rfl, hsz, hP, hK, hD0⟩ := hv
  have hx := Bd.exec
  have hb := Bd.bytes
  have hr := Bd.returns
  have hts := atoms_spec (ws := wsX1_lookUp) Bd.pre
  have hown : s.vm.findClass RX1 = some m.cls := findClass_of_methodNamed Bd.named
  have hlocks := Bd.notSynchronized
  have S0 : CallFix p m c cX1_lookUp 4 s _ wsX1_lookUp RX1 := ⟨hx, hb, hml, hown, hts⟩
  subst hsz
  have hD := hD0.self (sz := s.heap.size)
  generalize hAe : va_A [(h0, .inr (1, [.int (nI L), .ref t1, .ref t2, .int (q_nx nx), .int (nI kc), .int (nI w)])), (t1, .inr (0, [.ref m1, .ref k1, .ref v1, .int (nI A.1)])), (m1, .inl (cI, L, .inl A.2.1)), (k1, .inl (cI, L, .inl A.2.2.1)), (v1, .inl (cI, L, .inl A.2.2.2)), (t2, .inr (0, [.ref m2, .ref k2, .ref v2, .int (nI B.1)])), (m2, .inl (cI, L, .inl B.2.1)), (k2, .inl (cI, L, .inl B.2.2.1)), (v2, .inl (cI, L, .inl B.2.2.2))] s.heap.size = Aq at hD ⊢
  have hA : ∀ q : Nat, s.heap.size ≤ q → Aq q := fun q h => by rw [← hAe]; exact Or.inr h
  have hS : va_S Aq s.heap s.heap [] := va_S.rf
  have hD : va_D Aq [(h0, .inr (1, [.int (nI L), .ref t1, .ref t2, .int (q_nx nx), .int (nI kc), .int (nI w)])), (t1, .inr (0, [.ref m1, .ref k1, .ref v1, .int (nI A.1)])), (m1, .inl (cI, L, .inl A.2.1)), (k1, .inl (cI, L, .inl A.2.2.1)), (v1, .inl (cI, L, .inl A.2.2.2)), (t2, .inr (0, [.ref m2, .ref k2, .ref v2, .int (nI B.1)])), (m2, .inl (cI, L, .inl B.2.1)), (k2, .inl (cI, L, .inl B.2.2.1)), (v2, .inl (cI, L, .inl B.2.2.2))] := hD
  have hP : va_P (dC, dI) vwCl [(h0, .inr (1, [.int (nI L), .ref t1, .ref t2, .int (q_nx nx), .int (nI kc), .int (nI w)])), (t1, .inr (0, [.ref m1, .ref k1, .ref v1, .int (nI A.1)])), (m1, .inl (cI, L, .inl A.2.1)), (k1, .inl (cI, L, .inl A.2.2.1)), (v1, .inl (cI, L, .inl A.2.2.2)), (t2, .inr (0, [.ref m2, .ref k2, .ref v2, .int (nI B.1)])), (m2, .inl (cI, L, .inl B.2.1)), (k2, .inl (cI, L, .inl B.2.2.1)), (v2, .inl (cI, L, .inl B.2.2.2))] s.heap := hP
  have hl := lv_entry ([.ref h0, .int k]) (n := 4) (Nat.le_of_ble_eq_true rfl)
  rw [lg_entry_eq]
  generalize (lg_sl ([.ref h0, .int k]) ++ List.replicate (4 - (lg_sl ([.ref h0, .int k])).length) Slot.unset).toArray = ls at hl ⊢
  have hl : lv_has ls 4 [(0, .ref h0), (1, .int k)] := hl
  obtain ⟨hLp, hpA, hAL, hpB, hBL⟩ := id hSZ
  have hL := (q_pw_8 hLp).2
  have hA8 := q_pw_8 hpA
  have hB8 := q_pw_8 hpB
  refine lv_aload_n hx hb dX1_lookUp_0 rfl (lv_at hl 0 rfl) ?_
  refine lv_aload_n hx hb dX1_lookUp_1 rfl (lv_at hl 0 rfl) ?_
  refine va_get (D := (dC, dI)) (ci := 1) (v := .ref t1) (C := RX1) (T := TX1) (N := 6) hx hb hts hin_X1_lookUp_X1 hown hK hP 0 rfl rfl 1 (by decide) (hts (.fieldLink RX1 22 "StepMap" "newTable" "LStepMap$Table;") (by decide +kernel)) (fun _ h9 => h9) rfl dX1_lookUp_2 ?_
  refine lv_iload_n hx hb dX1_lookUp_5 rfl (lv_at hl 1 rfl) ?_
  refine r_muI (wr := [(t2, .inr (0, [.ref m2, .ref k2, .ref v2, .int (nI B.1)])), (m2, .inl (cI, L, .inl B.2.1)), (k2, .inl (cI, L, .inl B.2.2.1)), (v2, .inl (cI, L, .inl B.2.2.2))]) (rest := []) S0 (c_X1_lookFor l dC dI cI h0 t1 t2 t1 m1 k1 v1 L (nI L) (q_nx nx) (nI kc) w A k s.heap.size (by assumption) (by omega) (by omega)) (cwV 2 hts gX1_lookUp_X1_lookFor rfl rfl rfl (by decide +kernel) ⟨Nat.le_of_ble_eq_true rfl, Nat.le_of_ble_eq_true rfl⟩) hK hP hD hS hA [0, 1, 2, 3, 4] [5, 6, 7, 8] rfl rfl (by decide) (by decide) (by decide) (ci := 1) (q0 := 0) rfl rfl rfl rfl hl.1 rfl (Nat.le_of_ble_eq_true rfl) dX1_lookUp_6 ⟨Nat.zero_le _, Nat.zero_le _⟩ (fun r_6 _ H locs hu hP hD hS => ?_)
  have hP : va_P (dC, dI) vwCl [(h0, .inr (1, [.int (nI L), .ref t1, .ref t2, .int (q_nx nx), .int (nI kc), .int (nI (w + (q_lkD A k + 1)))])), (t1, .inr (0, [.ref m1, .ref k1, .ref v1, .int (nI A.1)])), (m1, .inl (cI, L, .inl A.2.1)), (k1, .inl (cI, L, .inl A.2.2.1)), (v1, .inl (cI, L, .inl A.2.2.2)), (t2, .inr (0, [.ref m2, .ref k2, .ref v2, .int (nI B.1)])), (m2, .inl (cI, L, .inl B.2.1)), (k2, .inl (cI, L, .inl B.2.2.1)), (v2, .inl (cI, L, .inl B.2.2.2))] H := hP.sub [4, 5, 6, 7, 8, 0, 1, 2, 3] rfl
  have hD : va_D Aq [(h0, .inr (1, [.int (nI L), .ref t1, .ref t2, .int (q_nx nx), .int (nI kc), .int (nI (w + (q_lkD A k + 1)))])), (t1, .inr (0, [.ref m1, .ref k1, .ref v1, .int (nI A.1)])), (m1, .inl (cI, L, .inl A.2.1)), (k1, .inl (cI, L, .inl A.2.2.1)), (v1, .inl (cI, L, .inl A.2.2.2)), (t2, .inr (0, [.ref m2, .ref k2, .ref v2, .int (nI B.1)])), (m2, .inl (cI, L, .inl B.2.1)), (k2, .inl (cI, L, .inl B.2.2.1)), (v2, .inl (cI, L, .inl B.2.2.2))] := hD.sub [4, 5, 6, 7, 8, 0, 1, 2, 3] (by decide) rfl
  have hu : r_6 = nI (q_lkE A k) := hu
  subst hu
  refine lv_istore_n (lv' := [(2, .int (nI (q_lkE A k))), (0, .ref h0), (1, .int k)]) hx hb dX1_lookUp_9 rfl hl (by decide) rfl (fun ls hl => ?_)
  have heA := q_lkE_lt (t := A) k (by omega)
  refine lv_aload_n hx hb dX1_lookUp_10 rfl (lv_at hl 1 rfl) ?_
  refine va_get (D := (dC, dI)) (ci := 1) (v := .ref t1) (C := RX1) (T := TX1) (N := 6) hx hb hts hin_X1_lookUp_X1 hown hK hP 0 rfl rfl 1 (by decide) (hts (.fieldLink RX1 22 "StepMap" "newTable" "LStepMap$Table;") (by decide +kernel)) (fun _ h9 => h9) rfl dX1_lookUp_11 ?_
  refine lv_iload_n hx hb dX1_lookUp_14 rfl (lv_at hl 0 rfl) ?_
  refine lv_iload_n hx hb dX1_lookUp_15 rfl (lv_at hl 2 rfl) ?_
  refine r_roV (rest := []) S0 (c_X0_holds l dC dI cI t1 m1 k1 v1 L A.1 A.2.1 A.2.2.1 A.2.2.2 (q_lkE A k) k (by assumption) (by omega) (by omega) (by omega)) (cwV 2 hts gX1_lookUp_X0_holds rfl rfl rfl (by decide +kernel) ⟨Nat.le_of_ble_eq_true rfl, Nat.le_of_ble_eq_true rfl⟩) hK hP [1, 2, 3, 4] rfl (ci := 0) (q0 := 0) rfl rfl rfl rfl hl.1 rfl (Nat.le_of_ble_eq_true rfl) dX1_lookUp_16 ⟨Nat.zero_le _, Nat.zero_le _⟩ ?_
  refine lv_if_eq (tgt := 24) hx hb dX1_lookUp_19 (by decide) (fun c_19 => ?_) (fun c_19 => ?_)
  · have h_19 : ¬ (A.2.1 (q_lkE A k) = 2 ∧ A.2.2.1 (q_lkE A k) = k) := q_b_0.mp c_19
    refine lv_aload_n hx hb dX1_lookUp_24 rfl (lv_at hl 1 rfl) ?_
    refine r_roV (rest := []) S0 (c_X1_migrating l dC dI cI h0 (nI L) t1 t2 nx (nI kc) (nI (w + (q_lkD A k + 1))) (fun c h => Nat.lt_trans (hc c h) (by decide))) (cwV 0 hts gX1_lookUp_X1_migrating rfl rfl rfl (by decide +kernel) ⟨Nat.le_of_ble_eq_true rfl, Nat.le_of_ble_eq_true rfl⟩) hK hP [0] rfl (ci := 1) (q0 := 0) rfl rfl rfl rfl hl.1 rfl (Nat.le_of_ble_eq_true rfl) dX1_lookUp_25 ⟨Nat.zero_le _, Nat.zero_le _⟩ ?_
    refine lv_if_eq (tgt := 59) hx hb dX1_lookUp_28 (by decide) (fun c_28 => ?_) (fun c_28 => ?_)
    · have h_28 : ¬ (nx.isSome = true) := q_b_0.mp c_28
      refine lv_iconst (v := -1) hx hb dX1_lookUp_59 (by decide) ?_
      refine lv_iload_n hx hb dX1_lookUp_60 rfl (lv_at hl 0 rfl) ?_
      refine lv_isub hx hb dX1_lookUp_61 ?_
      have e_0_5 : nI (w + (q_lkD A k + 1)) = nI (w + q_lw A B nx k) := by rw [q_lw_N h_19 h_28]
      have hP : va_P (dC, dI) vwCl [(h0, .inr (1, [.int (nI L), .ref t1, .ref t2, .int (q_nx nx), .int (nI kc), .int (nI (w + q_lw A B nx k))])), (t1, .inr (0, [.ref m1, .ref k1, .ref v1, .int (nI A.1)])), (m1, .inl (cI, L, .inl A.2.1)), (k1, .inl (cI, L, .inl A.2.2.1)), (v1, .inl (cI, L, .inl A.2.2.2)), (t2, .inr (0, [.ref m2, .ref k2, .ref v2, .int (nI B.1)])), (m2, .inl (cI, L, .inl B.2.1)), (k2, .inl (cI, L, .inl B.2.2.1)), (v2, .inl (cI, L, .inl B.2.2.2))] H := by rw [← e_0_5]; exact hP
      have hD : va_D Aq [(h0, .inr (1, [.int (nI L), .ref t1, .ref t2, .int (q_nx nx), .int (nI kc), .int (nI (w + q_lw A B nx k))])), (t1, .inr (0, [.ref m1, .ref k1, .ref v1, .int (nI A.1)])), (m1, .inl (cI, L, .inl A.2.1)), (k1, .inl (cI, L, .inl A.2.2.1)), (v1, .inl (cI, L, .inl A.2.2.2)), (t2, .inr (0, [.ref m2, .ref k2, .ref v2, .int (nI B.1)])), (m2, .inl (cI, L, .inl B.2.1)), (k2, .inl (cI, L, .inl B.2.2.1)), (v2, .inl (cI, L, .inl B.2.2.2))] := by rw [← e_0_5]; exact hD
      exact W.iret (v := (-1) - (nI (q_lkE A k))) hx hb hr (fun t ht hW => ⟨⟨_, (), rfl, (q_place_N h_19 (fun z => h_28 z.1)).symm, by rw [ht]; exact hP, va_K.moved hW.alike hK, hD⟩, hS.F ht⟩) hS.2.2 dX1_lookUp_62
    · have h_28 : (nx.isSome = true) := q_b_n0 c_28
      refine lv_aload_n hx hb dX1_lookUp_31 rfl (lv_at hl 1 rfl) ?_
      refine lv_aload_n hx hb dX1_lookUp_32 rfl (lv_at hl 1 rfl) ?_
      refine va_get (D := (dC, dI)) (ci := 1) (v := .ref t2) (C := RX1) (T := TX1) (N := 6) hx hb hts hin_X1_lookUp_X1 hown hK hP 0 rfl rfl 2 (by decide) (hts (.fieldLink RX1 26 "StepMap" "oldTable" "LStepMap$Table;") (by decide +kernel)) (fun _ h9 => h9) rfl dX1_lookUp_33 ?_
      refine lv_iload_n hx hb dX1_lookUp_36 rfl (lv_at hl 2 rfl) ?_
      refine r_muI (wr := [(t1, .inr (0, [.ref m1, .ref k1, .ref v1, .int (nI A.1)])), (m1, .inl (cI, L, .inl A.2.1)), (k1, .inl (cI, L, .inl A.2.2.1)), (v1, .inl (cI, L, .inl A.2.2.2))]) (rest := []) S0 (c_X1_lookFor l dC dI cI h0 t1 t2 t2 m2 k2 v2 L (nI L) (q_nx nx) (nI kc) (w + (q_lkD A k + 1)) B k H.size (by assumption) (by omega) (by omega)) (cwV 2 hts gX1_lookUp_X1_lookFor rfl rfl rfl (by decide +kernel) ⟨Nat.le_of_ble_eq_true rfl, Nat.le_of_ble_eq_true rfl⟩) hK hP hD hS hA [0, 5, 6, 7, 8] [1, 2, 3, 4] rfl rfl (by decide) (by decide) (by decide) (ci := 1) (q0 := 0) rfl rfl rfl rfl hl.1 rfl (Nat.le_of_ble_eq_true rfl) dX1_lookUp_37 ⟨Nat.zero_le _, Nat.zero_le _⟩ (fun r_37 _ H locs hu hP hD hS => ?_)
      have hP : va_P (dC, dI) vwCl [(h0, .inr (1, [.int (nI L), .ref t1, .ref t2, .int (q_nx nx), .int (nI kc), .int (nI ((w + (q_lkD A k + 1)) + (q_lkD B k + 1)))])), (t1, .inr (0, [.ref m1, .ref k1, .ref v1, .int (nI A.1)])), (m1, .inl (cI, L, .inl A.2.1)), (k1, .inl (cI, L, .inl A.2.2.1)), (v1, .inl (cI, L, .inl A.2.2.2)), (t2, .inr (0, [.ref m2, .ref k2, .ref v2, .int (nI B.1)])), (m2, .inl (cI, L, .inl B.2.1)), (k2, .inl (cI, L, .inl B.2.2.1)), (v2, .inl (cI, L, .inl B.2.2.2))] H := hP.sub [4, 0, 1, 2, 3, 5, 6, 7, 8] rfl
      have hD : va_D Aq [(h0, .inr (1, [.int (nI L), .ref t1, .ref t2, .int (q_nx nx), .int (nI kc), .int (nI ((w + (q_lkD A k + 1)) + (q_lkD B k + 1)))])), (t1, .inr (0, [.ref m1, .ref k1, .ref v1, .int (nI A.1)])), (m1, .inl (cI, L, .inl A.2.1)), (k1, .inl (cI, L, .inl A.2.2.1)), (v1, .inl (cI, L, .inl A.2.2.2)), (t2, .inr (0, [.ref m2, .ref k2, .ref v2, .int (nI B.1)])), (m2, .inl (cI, L, .inl B.2.1)), (k2, .inl (cI, L, .inl B.2.2.1)), (v2, .inl (cI, L, .inl B.2.2.2))] := hD.sub [4, 0, 1, 2, 3, 5, 6, 7, 8] (by decide) rfl
      have hu : r_37 = nI (q_lkE B k) := hu
      subst hu
      refine lv_istore_n (lv' := [(3, .int (nI (q_lkE B k))), (2, .int (nI (q_lkE A k))), (0, .ref h0), (1, .int k)]) hx hb dX1_lookUp_40 rfl hl (by decide) rfl (fun ls hl => ?_)
      have heB := q_lkE_lt (t := B) k (by omega)
      refine lv_aload_n hx hb dX1_lookUp_41 rfl (lv_at hl 2 rfl) ?_
      refine va_get (D := (dC, dI)) (ci := 1) (v := .ref t2) (C := RX1) (T := TX1) (N := 6) hx hb hts hin_X1_lookUp_X1 hown hK hP 0 rfl rfl 2 (by decide) (hts (.fieldLink RX1 26 "StepMap" "oldTable" "LStepMap$Table;") (by decide +kernel)) (fun _ h9 => h9) rfl dX1_lookUp_42 ?_
      refine lv_iload_n hx hb dX1_lookUp_45 rfl (lv_at hl 0 rfl) ?_
      refine lv_iload_n hx hb dX1_lookUp_46 rfl (lv_at hl 3 rfl) ?_
      refine r_roV (rest := []) S0 (c_X0_holds l dC dI cI t2 m2 k2 v2 L B.1 B.2.1 B.2.2.1 B.2.2.2 (q_lkE B k) k (by assumption) (by omega) (by omega) (by omega)) (cwV 2 hts gX1_lookUp_X0_holds rfl rfl rfl (by decide +kernel) ⟨Nat.le_of_ble_eq_true rfl, Nat.le_of_ble_eq_true rfl⟩) hK hP [5, 6, 7, 8] rfl (ci := 0) (q0 := 0) rfl rfl rfl rfl hl.1 rfl (Nat.le_of_ble_eq_true rfl) dX1_lookUp_47 ⟨Nat.zero_le _, Nat.zero_le _⟩ ?_
      refine lv_if_eq (tgt := 59) hx hb dX1_lookUp_50 (by decide) (fun c_50 => ?_) (fun c_50 => ?_)
      · have h_50 : ¬ (B.2.1 (q_lkE B k) = 2 ∧ B.2.2.1 (q_lkE B k) = k) := q_b_0.mp c_50
        refine lv_iconst (v := -1) hx hb dX1_lookUp_59 (by decide) ?_
        refine lv_iload_n hx hb dX1_lookUp_60 rfl (lv_at hl 1 rfl) ?_
        refine lv_isub hx hb dX1_lookUp_61 ?_
        have e_0_5 : nI ((w + (q_lkD A k + 1)) + (q_lkD B k + 1)) = nI (w + q_lw A B nx k) := by rw [q_lw_B h_19 h_28]; exact congrArg nI (by omega)
        have hP : va_P (dC, dI) vwCl [(h0, .inr (1, [.int (nI L), .ref t1, .ref t2, .int (q_nx nx), .int (nI kc), .int (nI (w + q_lw A B nx k))])), (t1, .inr (0, [.ref m1, .ref k1, .ref v1, .int (nI A.1)])), (m1, .inl (cI, L, .inl A.2.1)), (k1, .inl (cI, L, .inl A.2.2.1)), (v1, .inl (cI, L, .inl A.2.2.2)), (t2, .inr (0, [.ref m2, .ref k2, .ref v2, .int (nI B.1)])), (m2, .inl (cI, L, .inl B.2.1)), (k2, .inl (cI, L, .inl B.2.2.1)), (v2, .inl (cI, L, .inl B.2.2.2))] H := by rw [← e_0_5]; exact hP
        have hD : va_D Aq [(h0, .inr (1, [.int (nI L), .ref t1, .ref t2, .int (q_nx nx), .int (nI kc), .int (nI (w + q_lw A B nx k))])), (t1, .inr (0, [.ref m1, .ref k1, .ref v1, .int (nI A.1)])), (m1, .inl (cI, L, .inl A.2.1)), (k1, .inl (cI, L, .inl A.2.2.1)), (v1, .inl (cI, L, .inl A.2.2.2)), (t2, .inr (0, [.ref m2, .ref k2, .ref v2, .int (nI B.1)])), (m2, .inl (cI, L, .inl B.2.1)), (k2, .inl (cI, L, .inl B.2.2.1)), (v2, .inl (cI, L, .inl B.2.2.2))] := by rw [← e_0_5]; exact hD
        exact W.iret (v := (-1) - (nI (q_lkE A k))) hx hb hr (fun t ht hW => ⟨⟨_, (), rfl, (q_place_N h_19 (fun z => h_50 z.2)).symm, by rw [ht]; exact hP, va_K.moved hW.alike hK, hD⟩, hS.F ht⟩) hS.2.2 dX1_lookUp_62
      · have h_50 : (B.2.1 (q_lkE B k) = 2 ∧ B.2.2.1 (q_lkE B k) = k) := q_b_n0 c_50
        refine lv_sipush (v := 2000) hx hb dX1_lookUp_53 (by decide) ?_
        refine lv_iload_n hx hb dX1_lookUp_56 rfl (lv_at hl 0 rfl) ?_
        refine lv_iadd hx hb dX1_lookUp_57 ?_
        refine r_eq (z := nI (2000 + (q_lkE B k))) (nI_add 2000 (q_lkE B k)) ?_
        have e_0_5 : nI ((w + (q_lkD A k + 1)) + (q_lkD B k + 1)) = nI (w + q_lw A B nx k) := by rw [q_lw_B h_19 h_28]; exact congrArg nI (by omega)
        have hP : va_P (dC, dI) vwCl [(h0, .inr (1, [.int (nI L), .ref t1, .ref t2, .int (q_nx nx), .int (nI kc), .int (nI (w + q_lw A B nx k))])), (t1, .inr (0, [.ref m1, .ref k1, .ref v1, .int (nI A.1)])), (m1, .inl (cI, L, .inl A.2.1)), (k1, .inl (cI, L, .inl A.2.2.1)), (v1, .inl (cI, L, .inl A.2.2.2)), (t2, .inr (0, [.ref m2, .ref k2, .ref v2, .int (nI B.1)])), (m2, .inl (cI, L, .inl B.2.1)), (k2, .inl (cI, L, .inl B.2.2.1)), (v2, .inl (cI, L, .inl B.2.2.2))] H := by rw [← e_0_5]; exact hP
        have hD : va_D Aq [(h0, .inr (1, [.int (nI L), .ref t1, .ref t2, .int (q_nx nx), .int (nI kc), .int (nI (w + q_lw A B nx k))])), (t1, .inr (0, [.ref m1, .ref k1, .ref v1, .int (nI A.1)])), (m1, .inl (cI, L, .inl A.2.1)), (k1, .inl (cI, L, .inl A.2.2.1)), (v1, .inl (cI, L, .inl A.2.2.2)), (t2, .inr (0, [.ref m2, .ref k2, .ref v2, .int (nI B.1)])), (m2, .inl (cI, L, .inl B.2.1)), (k2, .inl (cI, L, .inl B.2.2.1)), (v2, .inl (cI, L, .inl B.2.2.2))] := by rw [← e_0_5]; exact hD
        exact W.iret (v := nI (2000 + (q_lkE B k))) hx hb hr (fun t ht hW => ⟨⟨_, (), rfl, (q_place_B h_19 ⟨h_28, h_50⟩).symm, by rw [ht]; exact hP, va_K.moved hW.alike hK, hD⟩, hS.F ht⟩) hS.2.2 dX1_lookUp_58
  · have h_19 : (A.2.1 (q_lkE A k) = 2 ∧ A.2.2.1 (q_lkE A k) = k) := q_b_n0 c_19
    refine lv_iload_n hx hb dX1_lookUp_22 rfl (lv_at hl 0 rfl) ?_
    have e_0_5 : nI (w + (q_lkD A k + 1)) = nI (w + q_lw A B nx k) := by rw [q_lw_A h_19]
    have hP : va_P (dC, dI) vwCl [(h0, .inr (1, [.int (nI L), .ref t1, .ref t2, .int (q_nx nx), .int (nI kc), .int (nI (w + q_lw A B nx k))])), (t1, .inr (0, [.ref m1, .ref k1, .ref v1, .int (nI A.1)])), (m1, .inl (cI, L, .inl A.2.1)), (k1, .inl (cI, L, .inl A.2.2.1)), (v1, .inl (cI, L, .inl A.2.2.2)), (t2, .inr (0, [.ref m2, .ref k2, .ref v2, .int (nI B.1)])), (m2, .inl (cI, L, .inl B.2.1)), (k2, .inl (cI, L, .inl B.2.2.1)), (v2, .inl (cI, L, .inl B.2.2.2))] H := by rw [← e_0_5]; exact hP
    have hD : va_D Aq [(h0, .inr (1, [.int (nI L), .ref t1, .ref t2, .int (q_nx nx), .int (nI kc), .int (nI (w + q_lw A B nx k))])), (t1, .inr (0, [.ref m1, .ref k1, .ref v1, .int (nI A.1)])), (m1, .inl (cI, L, .inl A.2.1)), (k1, .inl (cI, L, .inl A.2.2.1)), (v1, .inl (cI, L, .inl A.2.2.2)), (t2, .inr (0, [.ref m2, .ref k2, .ref v2, .int (nI B.1)])), (m2, .inl (cI, L, .inl B.2.1)), (k2, .inl (cI, L, .inl B.2.2.1)), (v2, .inl (cI, L, .inl B.2.2.2))] := by rw [← e_0_5]; exact hD
    exact W.iret (v := nI (q_lkE A k)) hx hb hr (fun t ht hW => ⟨⟨_, (), rfl, (q_place_A h_19).symm, by rw [ht]; exact hP, va_K.moved hW.alike hK, hD⟩, hS.F ht⟩) hS.2.2 dX1_lookUp_23
set_option maxHeartbeats 4000000 in
set_option maxRecDepth 100000 in
theorem c_X1_wouldOutgrowHalf (l : Launch) (dC : Nat → ClassId) (dI : Nat → Nat → Nat) (cI : ClassId) (h0 t1 m1 k1 v1 t2 m2 k2 v2 L : Nat) (A B : q_TB) (nx : Option Nat) (kc w : Nat) (hSZ : q_SZ L A B) (hkc : kc ≤ 4096) (hc : ∀ c, nx = some c → c < 4096) : Met l yX1_wouldOutgrowHalf wsX1_wouldOutgrowHalf ({ frames := 1, cells := 0, slots := 0, locals := 21 }) (r_Pc (dC, dI) vwCl [(cI, .int)] [(h0, .inr (1, [.int (nI L), .ref t1, .ref t2, .int (q_nx nx), .int (nI kc), .int (nI w)])), (t1, .inr (0, [.ref m1, .ref k1, .ref v1, .int (nI A.1)])), (m1, .inl (cI, L, .inl A.2.1)), (k1, .inl (cI, L, .inl A.2.2.1)), (v1, .inl (cI, L, .inl A.2.2.2)), (t2, .inr (0, [.ref m2, .ref k2, .ref v2, .int (nI B.1)])), (m2, .inl (cI, L, .inl B.2.1)), (k2, .inl (cI, L, .inl B.2.2.1)), (v2, .inl (cI, L, .inl B.2.2.2))] [.ref h0]) (vp_Si (fun r => r = q_b (q_full L A B nx kc))) 0 0 (fun _ => False) := by
  refine Met.ofW (cc := cX1_wouldOutgrowHalf) (maxL := 2) (ret := (some .boolean)) (by decide) rfl ?_
  intro p e s m args below meth c s₁ Bd hml hv
  obtain ⟨rfl, hP, hK⟩ := hv
  have hx := Bd.exec
  have hb := Bd.bytes
  have hr := Bd.returns
  have hts := atoms_spec (ws := wsX1_wouldOutgrowHalf) Bd.pre
  have hown : s.vm.findClass RX1 = some m.cls := findClass_of_methodNamed Bd.named
  have hlocks := Bd.notSynchronized
  have S0 : CallFix p m c cX1_wouldOutgrowHalf 2 s _ wsX1_wouldOutgrowHalf RX1 := ⟨hx, hb, hml, hown, hts⟩
  have hP : va_P (dC, dI) vwCl [(h0, .inr (1, [.int (nI L), .ref t1, .ref t2, .int (q_nx nx), .int (nI kc), .int (nI w)])), (t1, .inr (0, [.ref m1, .ref k1, .ref v1, .int (nI A.1)])), (m1, .inl (cI, L, .inl A.2.1)), (k1, .inl (cI, L, .inl A.2.2.1)), (v1, .inl (cI, L, .inl A.2.2.2)), (t2, .inr (0, [.ref m2, .ref k2, .ref v2, .int (nI B.1)])), (m2, .inl (cI, L, .inl B.2.1)), (k2, .inl (cI, L, .inl B.2.2.1)), (v2, .inl (cI, L, .inl B.2.2.2))] s.heap := hP
  have hl := lv_entry ([.ref h0]) (n := 2) (Nat.le_of_ble_eq_true rfl)
  rw [lg_entry_eq]
  generalize (lg_sl ([.ref h0]) ++ List.replicate (2 - (lg_sl ([.ref h0])).length) Slot.unset).toArray = ls at hl ⊢
  have hl : lv_has ls 2 [(0, .ref h0)] := hl
  obtain ⟨hLp, hpA, hAL, hpB, hBL⟩ := id hSZ
  have hL := (q_pw_8 hLp).2
  have hA8 := q_pw_8 hpA
  have hB8 := q_pw_8 hpB
  refine lv_aload_n hx hb dX1_wouldOutgrowHalf_0 rfl (lv_at hl 0 rfl) ?_
  refine r_roV (rest := []) S0 (c_X1_migrating l dC dI cI h0 (nI L) t1 t2 nx (nI kc) (nI w) (fun c h => Nat.lt_trans (hc c h) (by decide))) (cwV 0 hts gX1_wouldOutgrowHalf_X1_migrating rfl rfl rfl (by decide +kernel) ⟨Nat.le_of_ble_eq_true rfl, Nat.le_of_ble_eq_true rfl⟩) hK hP [0] rfl (ci := 1) (q0 := 0) rfl rfl rfl rfl hl.1 rfl (Nat.le_of_ble_eq_true rfl) dX1_wouldOutgrowHalf_1 ⟨Nat.zero_le _, Nat.zero_le _⟩ ?_
  refine lv_if_eq (tgt := 27) hx hb dX1_wouldOutgrowHalf_4 (by decide) (fun c_4 => ?_) (fun c_4 => ?_)
  · have h_4 : ¬ (nx.isSome = true) := q_b_0.mp c_4
    refine lv_iconst (v := 0) hx hb dX1_wouldOutgrowHalf_27 (by decide) ?_
    refine lv_istore_n (lv' := [(1, .int 0), (0, .ref h0)]) hx hb dX1_wouldOutgrowHalf_28 rfl hl (by decide) rfl (fun ls hl => ?_)
    refine lv_iload_n hx hb dX1_wouldOutgrowHalf_29 rfl (lv_at hl 0 rfl) ?_
    refine lv_if_ne (tgt := 66) hx hb dX1_wouldOutgrowHalf_30 (by decide) (fun c_30 => ?_) (fun c_30 => ?_)
    · have h_30 := q_eq_f (a := 0) (b := 0) (by omega) (by omega) c_30
      omega
    · have h_30 := q_eq_t (a := 0) (b := 0) (by omega) (by omega) c_30
      refine lv_aload_n hx hb dX1_wouldOutgrowHalf_33 rfl (lv_at hl 1 rfl) ?_
      refine lv_aload_n hx hb dX1_wouldOutgrowHalf_34 rfl (lv_at hl 1 rfl) ?_
      refine va_get (D := (dC, dI)) (ci := 1) (v := .int (nI kc)) (C := RX1) (T := TX1) (N := 6) hx hb hts hin_X1_wouldOutgrowHalf_X1 hown hK hP 0 rfl rfl 4 (by decide) (hts (.fieldLink RX1 57 "StepMap" "keyCount" "I") (by decide +kernel)) (fun _ h9 => h9) rfl dX1_wouldOutgrowHalf_35 ?_
      refine lv_iconst (v := 1) hx hb dX1_wouldOutgrowHalf_38 (by decide) ?_
      refine lv_iadd hx hb dX1_wouldOutgrowHalf_39 ?_
      refine r_eq (z := nI (kc + 1)) (nI_add kc 1) ?_
      refine r_roV (rest := []) S0 (c_X1_isCrowdedBy l dC dI cI h0 t1 (nI L) t2 (q_nx nx) (nI kc) (nI w) m1 k1 v1 A.1 (kc + 1) (by omega) (by omega)) (cwV 1 hts gX1_wouldOutgrowHalf_X1_isCrowdedBy rfl rfl rfl (by decide +kernel) ⟨Nat.le_of_ble_eq_true rfl, Nat.le_of_ble_eq_true rfl⟩) hK hP [0, 1] rfl (ci := 1) (q0 := 0) rfl rfl rfl rfl hl.1 rfl (Nat.le_of_ble_eq_true rfl) dX1_wouldOutgrowHalf_40 ⟨Nat.zero_le _, Nat.zero_le _⟩ ?_
      refine lv_if_eq (tgt := 66) hx hb dX1_wouldOutgrowHalf_43 (by decide) (fun c_43 => ?_) (fun c_43 => ?_)
      · have h_43 : ¬ (3 * A.1 ≤ 4 * (kc + 1)) := q_b_0.mp c_43
        refine lv_iconst (v := 0) hx hb dX1_wouldOutgrowHalf_66 (by decide) ?_
        exact W.zret (v := 0) hx hb hr (rfl) (fun t ht hW => ⟨_, rfl, (q_b_f (fun z => h_43 z.2.1)).symm, ht⟩) (fun _ h => by cases h) dX1_wouldOutgrowHalf_67
      · have h_43 : (3 * A.1 ≤ 4 * (kc + 1)) := q_b_n0 c_43
        refine lv_aload_n hx hb dX1_wouldOutgrowHalf_46 rfl (lv_at hl 1 rfl) ?_
        refine va_get (D := (dC, dI)) (ci := 1) (v := .ref t1) (C := RX1) (T := TX1) (N := 6) hx hb hts hin_X1_wouldOutgrowHalf_X1 hown hK hP 0 rfl rfl 1 (by decide) (hts (.fieldLink RX1 22 "StepMap" "newTable" "LStepMap$Table;") (by decide +kernel)) (fun _ h9 => h9) rfl dX1_wouldOutgrowHalf_47 ?_
        refine va_get (D := (dC, dI)) (ci := 0) (v := .int (nI A.1)) (C := RX0) (T := TX0) (N := 4) hx hb hts hin_X1_wouldOutgrowHalf_X0 hown hK hP 1 rfl rfl 3 (by decide) (hts (.fieldLink RX1 69 "StepMap$Table" "slots" "I") (by decide +kernel)) (fun _ h9 => h9) rfl dX1_wouldOutgrowHalf_50 ?_
        refine lv_iconst (v := 2) hx hb dX1_wouldOutgrowHalf_53 (by decide) ?_
        refine lv_imul hx hb dX1_wouldOutgrowHalf_54 ?_
        refine r_eq (z := nI (A.1 * 2)) (pk_mul A.1 2) ?_
        refine lv_aload_n hx hb dX1_wouldOutgrowHalf_55 rfl (lv_at hl 1 rfl) ?_
        refine va_get (D := (dC, dI)) (ci := 1) (v := .int (nI L)) (C := RX1) (T := TX1) (N := 6) hx hb hts hin_X1_wouldOutgrowHalf_X1 hown hK hP 0 rfl rfl 0 (by decide) (hts (.fieldLink RX1 13 "StepMap" "half" "I") (by decide +kernel)) (fun _ h9 => h9) rfl dX1_wouldOutgrowHalf_56 ?_
        refine lv_icmp_le (tgt := 66) hx hb dX1_wouldOutgrowHalf_59 (by decide) (fun c_59 => ?_) (fun c_59 => ?_)
        · have h_59 := q_le_t (a := A.1 * 2) (b := L) (by omega) (by omega) c_59
          refine lv_iconst (v := 0) hx hb dX1_wouldOutgrowHalf_66 (by decide) ?_
          exact W.zret (v := 0) hx hb hr (rfl) (fun t ht hW => ⟨_, rfl, (q_b_f (fun z => by have := z.2.2; omega)).symm, ht⟩) (fun _ h => by cases h) dX1_wouldOutgrowHalf_67
        · have h_59 := q_le_f (a := A.1 * 2) (b := L) (by omega) (by omega) c_59
          refine lv_iconst (v := 1) hx hb dX1_wouldOutgrowHalf_62 (by decide) ?_
          refine lv_goto (tgt := 67) hx hb dX1_wouldOutgrowHalf_63 (by decide) ?_
          exact W.zret (v := 1) hx hb hr (rfl) (fun t ht hW => ⟨_, rfl, (q_b_t ⟨fun y => Exists.elim y fun c z => h_4 (by rw [z.1]; rfl), h_43, by omega⟩).symm, ht⟩) (fun _ h => by cases h) dX1_wouldOutgrowHalf_67
  · have h_4 : (nx.isSome = true) := q_b_n0 c_4
    obtain ⟨c, hcc⟩ := Option.isSome_iff_exists.mp h_4
    subst hcc
    have hcb := hc c rfl
    have hP : va_P (dC, dI) vwCl [(h0, .inr (1, [.int (nI L), .ref t1, .ref t2, .int (nI c), .int (nI kc), .int (nI w)])), (t1, .inr (0, [.ref m1, .ref k1, .ref v1, .int (nI A.1)])), (m1, .inl (cI, L, .inl A.2.1)), (k1, .inl (cI, L, .inl A.2.2.1)), (v1, .inl (cI, L, .inl A.2.2.2)), (t2, .inr (0, [.ref m2, .ref k2, .ref v2, .int (nI B.1)])), (m2, .inl (cI, L, .inl B.2.1)), (k2, .inl (cI, L, .inl B.2.2.1)), (v2, .inl (cI, L, .inl B.2.2.2))] s.heap := hP
    refine lv_aload_n hx hb dX1_wouldOutgrowHalf_7 rfl (lv_at hl 0 rfl) ?_
    refine va_get (D := (dC, dI)) (ci := 1) (v := .int (nI c)) (C := RX1) (T := TX1) (N := 6) hx hb hts hin_X1_wouldOutgrowHalf_X1 hown hK hP 0 rfl rfl 3 (by decide) (hts (.fieldLink RX1 32 "StepMap" "nextToMove" "I") (by decide +kernel)) (fun _ h9 => h9) rfl dX1_wouldOutgrowHalf_8 ?_
    refine lv_iconst (v := 4) hx hb dX1_wouldOutgrowHalf_11 (by decide) ?_
    refine lv_iadd hx hb dX1_wouldOutgrowHalf_12 ?_
    refine r_eq (z := nI (c + 4)) (nI_add c 4) ?_
    refine lv_aload_n hx hb dX1_wouldOutgrowHalf_13 rfl (lv_at hl 0 rfl) ?_
    refine va_get (D := (dC, dI)) (ci := 1) (v := .ref t2) (C := RX1) (T := TX1) (N := 6) hx hb hts hin_X1_wouldOutgrowHalf_X1 hown hK hP 0 rfl rfl 2 (by decide) (hts (.fieldLink RX1 26 "StepMap" "oldTable" "LStepMap$Table;") (by decide +kernel)) (fun _ h9 => h9) rfl dX1_wouldOutgrowHalf_14 ?_
    refine va_get (D := (dC, dI)) (ci := 0) (v := .int (nI B.1)) (C := RX0) (T := TX0) (N := 4) hx hb hts hin_X1_wouldOutgrowHalf_X0 hown hK hP 5 rfl rfl 3 (by decide) (hts (.fieldLink RX1 69 "StepMap$Table" "slots" "I") (by decide +kernel)) (fun _ h9 => h9) rfl dX1_wouldOutgrowHalf_17 ?_
    refine lv_icmp_ge (tgt := 27) hx hb dX1_wouldOutgrowHalf_20 (by decide) (fun c_20 => ?_) (fun c_20 => ?_)
    · have h_20 := q_le_t (a := B.1) (b := c + 4) (by omega) (by omega) c_20
      refine lv_iconst (v := 0) hx hb dX1_wouldOutgrowHalf_27 (by decide) ?_
      refine lv_istore_n (lv' := [(1, .int 0), (0, .ref h0)]) hx hb dX1_wouldOutgrowHalf_28 rfl hl (by decide) rfl (fun ls hl => ?_)
      refine lv_iload_n hx hb dX1_wouldOutgrowHalf_29 rfl (lv_at hl 0 rfl) ?_
      refine lv_if_ne (tgt := 66) hx hb dX1_wouldOutgrowHalf_30 (by decide) (fun c_30 => ?_) (fun c_30 => ?_)
      · have h_30 := q_eq_f (a := 0) (b := 0) (by omega) (by omega) c_30
        omega
      · have h_30 := q_eq_t (a := 0) (b := 0) (by omega) (by omega) c_30
        refine lv_aload_n hx hb dX1_wouldOutgrowHalf_33 rfl (lv_at hl 1 rfl) ?_
        refine lv_aload_n hx hb dX1_wouldOutgrowHalf_34 rfl (lv_at hl 1 rfl) ?_
        refine va_get (D := (dC, dI)) (ci := 1) (v := .int (nI kc)) (C := RX1) (T := TX1) (N := 6) hx hb hts hin_X1_wouldOutgrowHalf_X1 hown hK hP 0 rfl rfl 4 (by decide) (hts (.fieldLink RX1 57 "StepMap" "keyCount" "I") (by decide +kernel)) (fun _ h9 => h9) rfl dX1_wouldOutgrowHalf_35 ?_
        refine lv_iconst (v := 1) hx hb dX1_wouldOutgrowHalf_38 (by decide) ?_
        refine lv_iadd hx hb dX1_wouldOutgrowHalf_39 ?_
        refine r_eq (z := nI (kc + 1)) (nI_add kc 1) ?_
        refine r_roV (rest := []) S0 (c_X1_isCrowdedBy l dC dI cI h0 t1 (nI L) t2 (nI c) (nI kc) (nI w) m1 k1 v1 A.1 (kc + 1) (by omega) (by omega)) (cwV 1 hts gX1_wouldOutgrowHalf_X1_isCrowdedBy rfl rfl rfl (by decide +kernel) ⟨Nat.le_of_ble_eq_true rfl, Nat.le_of_ble_eq_true rfl⟩) hK hP [0, 1] rfl (ci := 1) (q0 := 0) rfl rfl rfl rfl hl.1 rfl (Nat.le_of_ble_eq_true rfl) dX1_wouldOutgrowHalf_40 ⟨Nat.zero_le _, Nat.zero_le _⟩ ?_
        refine lv_if_eq (tgt := 66) hx hb dX1_wouldOutgrowHalf_43 (by decide) (fun c_43 => ?_) (fun c_43 => ?_)
        · have h_43 : ¬ (3 * A.1 ≤ 4 * (kc + 1)) := q_b_0.mp c_43
          refine lv_iconst (v := 0) hx hb dX1_wouldOutgrowHalf_66 (by decide) ?_
          exact W.zret (v := 0) hx hb hr (rfl) (fun t ht hW => ⟨_, rfl, (q_b_f (fun z => h_43 z.2.1)).symm, ht⟩) (fun _ h => by cases h) dX1_wouldOutgrowHalf_67
        · have h_43 : (3 * A.1 ≤ 4 * (kc + 1)) := q_b_n0 c_43
          refine lv_aload_n hx hb dX1_wouldOutgrowHalf_46 rfl (lv_at hl 1 rfl) ?_
          refine va_get (D := (dC, dI)) (ci := 1) (v := .ref t1) (C := RX1) (T := TX1) (N := 6) hx hb hts hin_X1_wouldOutgrowHalf_X1 hown hK hP 0 rfl rfl 1 (by decide) (hts (.fieldLink RX1 22 "StepMap" "newTable" "LStepMap$Table;") (by decide +kernel)) (fun _ h9 => h9) rfl dX1_wouldOutgrowHalf_47 ?_
          refine va_get (D := (dC, dI)) (ci := 0) (v := .int (nI A.1)) (C := RX0) (T := TX0) (N := 4) hx hb hts hin_X1_wouldOutgrowHalf_X0 hown hK hP 1 rfl rfl 3 (by decide) (hts (.fieldLink RX1 69 "StepMap$Table" "slots" "I") (by decide +kernel)) (fun _ h9 => h9) rfl dX1_wouldOutgrowHalf_50 ?_
          refine lv_iconst (v := 2) hx hb dX1_wouldOutgrowHalf_53 (by decide) ?_
          refine lv_imul hx hb dX1_wouldOutgrowHalf_54 ?_
          refine r_eq (z := nI (A.1 * 2)) (pk_mul A.1 2) ?_
          refine lv_aload_n hx hb dX1_wouldOutgrowHalf_55 rfl (lv_at hl 1 rfl) ?_
          refine va_get (D := (dC, dI)) (ci := 1) (v := .int (nI L)) (C := RX1) (T := TX1) (N := 6) hx hb hts hin_X1_wouldOutgrowHalf_X1 hown hK hP 0 rfl rfl 0 (by decide) (hts (.fieldLink RX1 13 "StepMap" "half" "I") (by decide +kernel)) (fun _ h9 => h9) rfl dX1_wouldOutgrowHalf_56 ?_
          refine lv_icmp_le (tgt := 66) hx hb dX1_wouldOutgrowHalf_59 (by decide) (fun c_59 => ?_) (fun c_59 => ?_)
          · have h_59 := q_le_t (a := A.1 * 2) (b := L) (by omega) (by omega) c_59
            refine lv_iconst (v := 0) hx hb dX1_wouldOutgrowHalf_66 (by decide) ?_
            exact W.zret (v := 0) hx hb hr (rfl) (fun t ht hW => ⟨_, rfl, (q_b_f (fun z => by have := z.2.2; omega)).symm, ht⟩) (fun _ h => by cases h) dX1_wouldOutgrowHalf_67
          · have h_59 := q_le_f (a := A.1 * 2) (b := L) (by omega) (by omega) c_59
            refine lv_iconst (v := 1) hx hb dX1_wouldOutgrowHalf_62 (by decide) ?_
            refine lv_goto (tgt := 67) hx hb dX1_wouldOutgrowHalf_63 (by decide) ?_
            exact W.zret (v := 1) hx hb hr (rfl) (fun t ht hW => ⟨_, rfl, (q_b_t ⟨fun y => Exists.elim y fun c2 z => by obtain ⟨z1, z2⟩ := z; cases z1; omega, h_43, by omega⟩).symm, ht⟩) (fun _ h => by cases h) dX1_wouldOutgrowHalf_67
    · have h_20 := q_le_f (a := B.1) (b := c + 4) (by omega) (by omega) c_20
      refine lv_iconst (v := 1) hx hb dX1_wouldOutgrowHalf_23 (by decide) ?_
      refine lv_goto (tgt := 28) hx hb dX1_wouldOutgrowHalf_24 (by decide) ?_
      refine lv_istore_n (lv' := [(1, .int 1), (0, .ref h0)]) hx hb dX1_wouldOutgrowHalf_28 rfl hl (by decide) rfl (fun ls hl => ?_)
      refine lv_iload_n hx hb dX1_wouldOutgrowHalf_29 rfl (lv_at hl 0 rfl) ?_
      refine lv_if_ne (tgt := 66) hx hb dX1_wouldOutgrowHalf_30 (by decide) (fun c_30 => ?_) (fun c_30 => ?_)
      · have h_30 := q_eq_f (a := 1) (b := 0) (by omega) (by omega) c_30
        have hnf : ¬ q_full L A B (some c) kc := fun z => z.1 ⟨c, rfl, h_20⟩
        refine lv_iconst (v := 0) hx hb dX1_wouldOutgrowHalf_66 (by decide) ?_
        exact W.zret (v := 0) hx hb hr (rfl) (fun t ht hW => ⟨_, rfl, (q_b_f hnf).symm, ht⟩) (fun _ h => by cases h) dX1_wouldOutgrowHalf_67
      · have h_30 := q_eq_t (a := 1) (b := 0) (by omega) (by omega) c_30
        omega
end
section
/-! MAP: moving, freeing (laid by gen_move.py) -/
theorem hin_X1_moveToNew_X1 : ∀ w ∈ wsX10, w ∈ wsX1_moveToNew := by decide +kernel
theorem hin_X1_moveToNew_X0 : ∀ w ∈ wsX00, w ∈ wsX1_moveToNew := by decide +kernel
theorem hin_X1_moveNextSlots_X1 : ∀ w ∈ wsX10, w ∈ wsX1_moveNextSlots := by decide +kernel
theorem hin_X1_moveNextSlots_X0 : ∀ w ∈ wsX00, w ∈ wsX1_moveNextSlots := by decide +kernel
theorem hin_X1_startMigration_X1 : ∀ w ∈ wsX10, w ∈ wsX1_startMigration := by decide +kernel
theorem hin_X1_startMigration_X0 : ∀ w ∈ wsX00, w ∈ wsX1_startMigration := by decide +kernel
theorem hin_X1_freeInNew_X1 : ∀ w ∈ wsX10, w ∈ wsX1_freeInNew := by decide +kernel
theorem hin_X1_freeInNew_X0 : ∀ w ∈ wsX00, w ∈ wsX1_freeInNew := by decide +kernel
theorem hin_X1_moveOn_X1 : ∀ w ∈ wsX10, w ∈ wsX1_moveOn := by decide +kernel
theorem hin_X1_moveOn_X0 : ∀ w ∈ wsX00, w ∈ wsX1_moveOn := by decide +kernel
theorem hin_X1_put_X1 : ∀ w ∈ wsX10, w ∈ wsX1_put := by decide +kernel
theorem hin_X1_put_X0 : ∀ w ∈ wsX00, w ∈ wsX1_put := by decide +kernel
theorem hin_X1_get_X1 : ∀ w ∈ wsX10, w ∈ wsX1_get := by decide +kernel
theorem hin_X1_get_X0 : ∀ w ∈ wsX00, w ∈ wsX1_get := by decide +kernel
theorem hin_X1_remove_X1 : ∀ w ∈ wsX10, w ∈ wsX1_remove := by decide +kernel
theorem hin_X1_remove_X0 : ∀ w ∈ wsX00, w ∈ wsX1_remove := by decide +kernel
theorem hin_X1_slot_X1 : ∀ w ∈ wsX10, w ∈ wsX1_slot := by decide +kernel
theorem hin_X1_slot_X0 : ∀ w ∈ wsX00, w ∈ wsX1_slot := by decide +kernel
theorem hin_X1_has_X1 : ∀ w ∈ wsX10, w ∈ wsX1_has := by decide +kernel
theorem hin_X1_has_X0 : ∀ w ∈ wsX00, w ∈ wsX1_has := by decide +kernel
set_option maxHeartbeats 4000000 in
set_option maxRecDepth 100000 in
theorem c_X1_moveToNew (l : Launch) (dC : Nat → ClassId) (dI : Nat → Nat → Nat) (cI : ClassId) (h0 t1 m1 k1 v1 t2 m2 k2 v2 L : Nat) (X Y : q_TB) (x3 x4 : Int32) (w i : Nat) (sz : Nat) (hX : q_pw X.1) (hXL : X.1 ≤ L) (hY : q_pw Y.1) (hYL : Y.1 ≤ L) (hL : L ≤ 1024) (hi : i < Y.1) : Met l yX1_moveToNew wsX1_moveToNew ({ frames := 3, cells := 0, slots := 0, locals := 68 }) (r_Mc (dC, dI) vwCl [(cI, .int)] [(h0, .inr (1, [.int (nI L), .ref t1, .ref t2, .int x3, .int x4, .int (nI w)])), (t1, .inr (0, [.ref m1, .ref k1, .ref v1, .int (nI X.1)])), (m1, .inl (cI, L, .inl X.2.1)), (k1, .inl (cI, L, .inl X.2.2.1)), (v1, .inl (cI, L, .inl X.2.2.2)), (t2, .inr (0, [.ref m2, .ref k2, .ref v2, .int (nI Y.1)])), (m2, .inl (cI, L, .inl Y.2.1)), (k2, .inl (cI, L, .inl Y.2.2.1)), (v2, .inl (cI, L, .inl Y.2.2.2))] sz [.ref h0, .int (nI i)]) (va_Qv (fun (_ : Unit) => True) (fun u t => r_B (dC, dI) vwCl [(cI, .int)] (va_A [(h0, .inr (1, [.int (nI L), .ref t1, .ref t2, .int x3, .int x4, .int (nI w)])), (t1, .inr (0, [.ref m1, .ref k1, .ref v1, .int (nI X.1)])), (m1, .inl (cI, L, .inl X.2.1)), (k1, .inl (cI, L, .inl X.2.2.1)), (v1, .inl (cI, L, .inl X.2.2.2)), (t2, .inr (0, [.ref m2, .ref k2, .ref v2, .int (nI Y.1)])), (m2, .inl (cI, L, .inl Y.2.1)), (k2, .inl (cI, L, .inl Y.2.2.1)), (v2, .inl (cI, L, .inl Y.2.2.2))] sz) ((fun _ => [(h0, .inr (1, [.int (nI L), .ref t1, .ref t2, .int x3, .int x4, .int (nI (w + (q_lkD X (Y.2.2.1 i) + 1)))])), (t1, .inr (0, [.ref m1, .ref k1, .ref v1, .int (nI X.1)])), (m1, .inl (cI, L, .inl (upd X.2.1 (q_lkE X (Y.2.2.1 i)) 2))), (k1, .inl (cI, L, .inl (upd X.2.2.1 (q_lkE X (Y.2.2.1 i)) (Y.2.2.1 i)))), (v1, .inl (cI, L, .inl (upd X.2.2.2 (q_lkE X (Y.2.2.1 i)) (Y.2.2.2 i)))), (t2, .inr (0, [.ref m2, .ref k2, .ref v2, .int (nI Y.1)])), (m2, .inl (cI, L, .inl (upd Y.2.1 i 1))), (k2, .inl (cI, L, .inl Y.2.2.1)), (v2, .inl (cI, L, .inl Y.2.2.2))]) u) t) (va_A [(h0, .inr (1, [.int (nI L), .ref t1, .ref t2, .int x3, .int x4, .int (nI w)])), (t1, .inr (0, [.ref m1, .ref k1, .ref v1, .int (nI X.1)])), (m1, .inl (cI, L, .inl X.2.1)), (k1, .inl (cI, L, .inl X.2.2.1)), (v1, .inl (cI, L, .inl X.2.2.2)), (t2, .inr (0, [.ref m2, .ref k2, .ref v2, .int (nI Y.1)])), (m2, .inl (cI, L, .inl Y.2.1)), (k2, .inl (cI, L, .inl Y.2.2.1)), (v2, .inl (cI, L, .inl Y.2.2.2))] sz)) 0 0 (va_A [(h0, .inr (1, [.int (nI L), .ref t1, .ref t2, .int x3, .int x4, .int (nI w)])), (t1, .inr (0, [.ref m1, .ref k1, .ref v1, .int (nI X.1)])), (m1, .inl (cI, L, .inl X.2.1)), (k1, .inl (cI, L, .inl X.2.2.1)), (v1, .inl (cI, L, .inl X.2.2.2)), (t2, .inr (0, [.ref m2, .ref k2, .ref v2, .int (nI Y.1)])), (m2, .inl (cI, L, .inl Y.2.1)), (k2, .inl (cI, L, .inl Y.2.2.1)), (v2, .inl (cI, L, .inl Y.2.2.2))] sz) := by
  refine Met.ofW (cc := cX1_moveToNew) (maxL := 3) (ret := none) (by decide) rfl ?_
  intro p e s m args below meth c s₁ Bd hml hv
  obtain ⟨rfl, hsz, hP, hK, hD0⟩ := hv
  have hx := Bd.exec
  have hb := Bd.bytes
  have hr := Bd.returns
  have hts := atoms_spec (ws := wsX1_moveToNew) Bd.pre
  have hown : s.vm.findClass RX1 = some m.cls := findClass_of_methodNamed Bd.named
  have hlocks := Bd.notSynchronized
  have S0 : CallFix p m c cX1_moveToNew 3 s _ wsX1_moveToNew RX1 := ⟨hx, hb, hml, hown, hts⟩
  subst hsz
  have hD := hD0.self (sz := s.heap.size)
  generalize hAe : va_A [(h0, .inr (1, [.int (nI L), .ref t1, .ref t2, .int x3, .int x4, .int (nI w)])), (t1, .inr (0, [.ref m1, .ref k1, .ref v1, .int (nI X.1)])), (m1, .inl (cI, L, .inl X.2.1)), (k1, .inl (cI, L, .inl X.2.2.1)), (v1, .inl (cI, L, .inl X.2.2.2)), (t2, .inr (0, [.ref m2, .ref k2, .ref v2, .int (nI Y.1)])), (m2, .inl (cI, L, .inl Y.2.1)), (k2, .inl (cI, L, .inl Y.2.2.1)), (v2, .inl (cI, L, .inl Y.2.2.2))] s.heap.size = Aq at hD ⊢
  have hA : ∀ q : Nat, s.heap.size ≤ q → Aq q := fun q h => by rw [← hAe]; exact Or.inr h
  have hS : va_S Aq s.heap s.heap [] := va_S.rf
  have hD : va_D Aq [(h0, .inr (1, [.int (nI L), .ref t1, .ref t2, .int x3, .int x4, .int (nI w)])), (t1, .inr (0, [.ref m1, .ref k1, .ref v1, .int (nI X.1)])), (m1, .inl (cI, L, .inl X.2.1)), (k1, .inl (cI, L, .inl X.2.2.1)), (v1, .inl (cI, L, .inl X.2.2.2)), (t2, .inr (0, [.ref m2, .ref k2, .ref v2, .int (nI Y.1)])), (m2, .inl (cI, L, .inl Y.2.1)), (k2, .inl (cI, L, .inl Y.2.2.1)), (v2, .inl (cI, L, .inl Y.2.2.2))] := hD
  have hP : va_P (dC, dI) vwCl [(h0, .inr (1, [.int (nI L), .ref t1, .ref t2, .int x3, .int x4, .int (nI w)])), (t1, .inr (0, [.ref m1, .ref k1, .ref v1, .int (nI X.1)])), (m1, .inl (cI, L, .inl X.2.1)), (k1, .inl (cI, L, .inl X.2.2.1)), (v1, .inl (cI, L, .inl X.2.2.2)), (t2, .inr (0, [.ref m2, .ref k2, .ref v2, .int (nI Y.1)])), (m2, .inl (cI, L, .inl Y.2.1)), (k2, .inl (cI, L, .inl Y.2.2.1)), (v2, .inl (cI, L, .inl Y.2.2.2))] s.heap := hP
  have hl := lv_entry ([.ref h0, .int (nI i)]) (n := 3) (Nat.le_of_ble_eq_true rfl)
  rw [lg_entry_eq]
  generalize (lg_sl ([.ref h0, .int (nI i)]) ++ List.replicate (3 - (lg_sl ([.ref h0, .int (nI i)])).length) Slot.unset).toArray = ls at hl ⊢
  have hl : lv_has ls 3 [(0, .ref h0), (1, .int (nI i))] := hl
  have hX8 := q_pw_8 hX
  have hY8 := q_pw_8 hY
  refine lv_aload_n hx hb dX1_moveToNew_0 rfl (lv_at hl 0 rfl) ?_
  refine va_get (D := (dC, dI)) (ci := 1) (v := .ref t2) (C := RX1) (T := TX1) (N := 6) hx hb hts hin_X1_moveToNew_X1 hown hK hP 0 rfl rfl 2 (by decide) (hts (.fieldLink RX1 26 "StepMap" "oldTable" "LStepMap$Table;") (by decide +kernel)) (fun _ h9 => h9) rfl dX1_moveToNew_1 ?_
  refine va_get (D := (dC, dI)) (ci := 0) (v := .ref k2) (C := RX0) (T := TX0) (N := 4) hx hb hts hin_X1_moveToNew_X0 hown hK hP 5 rfl rfl 1 (by decide) (hts (.fieldLink RX1 121 "StepMap$Table" "keys" "[I") (by decide +kernel)) (fun _ h9 => h9) rfl dX1_moveToNew_4 ?_
  refine lv_iload_n hx hb dX1_moveToNew_7 rfl (lv_at hl 1 rfl) ?_
  refine r_ld (i := i) hx hb hK hP 7 0 rfl rfl (by omega) (by omega) dX1_moveToNew_8 ?_
  refine lv_istore_n (lv' := [(2, .int (Y.2.2.1 i)), (0, .ref h0), (1, .int (nI i))]) hx hb dX1_moveToNew_9 rfl hl (by decide) rfl (fun ls hl => ?_)
  refine lv_aload_n hx hb dX1_moveToNew_10 rfl (lv_at hl 1 rfl) ?_
  refine va_get (D := (dC, dI)) (ci := 1) (v := .ref t1) (C := RX1) (T := TX1) (N := 6) hx hb hts hin_X1_moveToNew_X1 hown hK hP 0 rfl rfl 1 (by decide) (hts (.fieldLink RX1 22 "StepMap" "newTable" "LStepMap$Table;") (by decide +kernel)) (fun _ h9 => h9) rfl dX1_moveToNew_11 ?_
  refine lv_aload_n hx hb dX1_moveToNew_14 rfl (lv_at hl 1 rfl) ?_
  refine lv_aload_n hx hb dX1_moveToNew_15 rfl (lv_at hl 1 rfl) ?_
  refine va_get (D := (dC, dI)) (ci := 1) (v := .ref t1) (C := RX1) (T := TX1) (N := 6) hx hb hts hin_X1_moveToNew_X1 hown hK hP 0 rfl rfl 1 (by decide) (hts (.fieldLink RX1 22 "StepMap" "newTable" "LStepMap$Table;") (by decide +kernel)) (fun _ h9 => h9) rfl dX1_moveToNew_16 ?_
  refine lv_iload_n hx hb dX1_moveToNew_19 rfl (lv_at hl 0 rfl) ?_
  refine r_muI (wr := [(t2, .inr (0, [.ref m2, .ref k2, .ref v2, .int (nI Y.1)])), (m2, .inl (cI, L, .inl Y.2.1)), (k2, .inl (cI, L, .inl Y.2.2.1)), (v2, .inl (cI, L, .inl Y.2.2.2))]) (rest := [.ref t1]) S0 (c_X1_lookFor l dC dI cI h0 t1 t2 t1 m1 k1 v1 L (nI L) x3 x4 w X (Y.2.2.1 i) s.heap.size (by assumption) (by omega) (by omega)) (cwV 2 hts gX1_moveToNew_X1_lookFor rfl rfl rfl (by decide +kernel) ⟨Nat.le_of_ble_eq_true rfl, Nat.le_of_ble_eq_true rfl⟩) hK hP hD hS hA [0, 1, 2, 3, 4] [5, 6, 7, 8] rfl rfl (by decide) (by decide) (by decide) (ci := 1) (q0 := 0) rfl rfl rfl rfl hl.1 rfl (Nat.le_of_ble_eq_true rfl) dX1_moveToNew_20 ⟨Nat.zero_le _, Nat.zero_le _⟩ (fun r_20 _ H locs hu hP hD hS => ?_)
  have hP : va_P (dC, dI) vwCl [(h0, .inr (1, [.int (nI L), .ref t1, .ref t2, .int x3, .int x4, .int (nI (w + (q_lkD X (Y.2.2.1 i) + 1)))])), (t1, .inr (0, [.ref m1, .ref k1, .ref v1, .int (nI X.1)])), (m1, .inl (cI, L, .inl X.2.1)), (k1, .inl (cI, L, .inl X.2.2.1)), (v1, .inl (cI, L, .inl X.2.2.2)), (t2, .inr (0, [.ref m2, .ref k2, .ref v2, .int (nI Y.1)])), (m2, .inl (cI, L, .inl Y.2.1)), (k2, .inl (cI, L, .inl Y.2.2.1)), (v2, .inl (cI, L, .inl Y.2.2.2))] H := hP.sub [4, 5, 6, 7, 8, 0, 1, 2, 3] rfl
  have hD : va_D Aq [(h0, .inr (1, [.int (nI L), .ref t1, .ref t2, .int x3, .int x4, .int (nI (w + (q_lkD X (Y.2.2.1 i) + 1)))])), (t1, .inr (0, [.ref m1, .ref k1, .ref v1, .int (nI X.1)])), (m1, .inl (cI, L, .inl X.2.1)), (k1, .inl (cI, L, .inl X.2.2.1)), (v1, .inl (cI, L, .inl X.2.2.2)), (t2, .inr (0, [.ref m2, .ref k2, .ref v2, .int (nI Y.1)])), (m2, .inl (cI, L, .inl Y.2.1)), (k2, .inl (cI, L, .inl Y.2.2.1)), (v2, .inl (cI, L, .inl Y.2.2.2))] := hD.sub [4, 5, 6, 7, 8, 0, 1, 2, 3] (by decide) rfl
  have hu : r_20 = nI (q_lkE X (Y.2.2.1 i)) := hu
  subst hu
  have he := q_lkE_lt (t := X) (Y.2.2.1 i) (by omega)
  refine lv_iload_n hx hb dX1_moveToNew_23 rfl (lv_at hl 0 rfl) ?_
  refine lv_aload_n hx hb dX1_moveToNew_24 rfl (lv_at hl 1 rfl) ?_
  refine va_get (D := (dC, dI)) (ci := 1) (v := .ref t2) (C := RX1) (T := TX1) (N := 6) hx hb hts hin_X1_moveToNew_X1 hown hK hP 0 rfl rfl 2 (by decide) (hts (.fieldLink RX1 26 "StepMap" "oldTable" "LStepMap$Table;") (by decide +kernel)) (fun _ h9 => h9) rfl dX1_moveToNew_25 ?_
  refine va_get (D := (dC, dI)) (ci := 0) (v := .ref v2) (C := RX0) (T := TX0) (N := 4) hx hb hts hin_X1_moveToNew_X0 hown hK hP 5 rfl rfl 2 (by decide) (hts (.fieldLink RX1 41 "StepMap$Table" "values" "[I") (by decide +kernel)) (fun _ h9 => h9) rfl dX1_moveToNew_28 ?_
  refine lv_iload_n hx hb dX1_moveToNew_31 rfl (lv_at hl 2 rfl) ?_
  refine r_ld (i := i) hx hb hK hP 8 0 rfl rfl (by omega) (by omega) dX1_moveToNew_32 ?_
  refine r_muV (wr := [(h0, .inr (1, [.int (nI L), .ref t1, .ref t2, .int x3, .int x4, .int (nI (w + (q_lkD X (Y.2.2.1 i) + 1)))])), (t2, .inr (0, [.ref m2, .ref k2, .ref v2, .int (nI Y.1)])), (m2, .inl (cI, L, .inl Y.2.1)), (k2, .inl (cI, L, .inl Y.2.2.1)), (v2, .inl (cI, L, .inl Y.2.2.2))]) (rest := []) S0 (c_X0_fill l dC dI cI t1 m1 k1 v1 L X.1 X.2.1 X.2.2.1 X.2.2.2 (q_lkE X (Y.2.2.1 i)) (Y.2.2.1 i) (Y.2.2.2 i) H.size (by assumption) (by omega) (by omega) (by omega)) (cwV 3 hts gX1_moveToNew_X0_fill rfl rfl rfl (by decide +kernel) ⟨Nat.le_of_ble_eq_true rfl, Nat.le_of_ble_eq_true rfl⟩) hK hP hD hS hA [1, 2, 3, 4] [0, 5, 6, 7, 8] rfl rfl (by decide) (by decide) (by decide) (ci := 0) (q0 := 0) rfl rfl rfl rfl hl.1 rfl (Nat.le_of_ble_eq_true rfl) dX1_moveToNew_33 ⟨Nat.zero_le _, Nat.zero_le _⟩ (fun _ H locs hu hP hD hS => ?_)
  have hP : va_P (dC, dI) vwCl [(h0, .inr (1, [.int (nI L), .ref t1, .ref t2, .int x3, .int x4, .int (nI (w + (q_lkD X (Y.2.2.1 i) + 1)))])), (t1, .inr (0, [.ref m1, .ref k1, .ref v1, .int (nI X.1)])), (m1, .inl (cI, L, .inl (upd X.2.1 (q_lkE X (Y.2.2.1 i)) 2))), (k1, .inl (cI, L, .inl (upd X.2.2.1 (q_lkE X (Y.2.2.1 i)) (Y.2.2.1 i)))), (v1, .inl (cI, L, .inl (upd X.2.2.2 (q_lkE X (Y.2.2.1 i)) (Y.2.2.2 i)))), (t2, .inr (0, [.ref m2, .ref k2, .ref v2, .int (nI Y.1)])), (m2, .inl (cI, L, .inl Y.2.1)), (k2, .inl (cI, L, .inl Y.2.2.1)), (v2, .inl (cI, L, .inl Y.2.2.2))] H := hP.sub [0, 5, 6, 7, 8, 1, 2, 3, 4] rfl
  have hD : va_D Aq [(h0, .inr (1, [.int (nI L), .ref t1, .ref t2, .int x3, .int x4, .int (nI (w + (q_lkD X (Y.2.2.1 i) + 1)))])), (t1, .inr (0, [.ref m1, .ref k1, .ref v1, .int (nI X.1)])), (m1, .inl (cI, L, .inl (upd X.2.1 (q_lkE X (Y.2.2.1 i)) 2))), (k1, .inl (cI, L, .inl (upd X.2.2.1 (q_lkE X (Y.2.2.1 i)) (Y.2.2.1 i)))), (v1, .inl (cI, L, .inl (upd X.2.2.2 (q_lkE X (Y.2.2.1 i)) (Y.2.2.2 i)))), (t2, .inr (0, [.ref m2, .ref k2, .ref v2, .int (nI Y.1)])), (m2, .inl (cI, L, .inl Y.2.1)), (k2, .inl (cI, L, .inl Y.2.2.1)), (v2, .inl (cI, L, .inl Y.2.2.2))] := hD.sub [0, 5, 6, 7, 8, 1, 2, 3, 4] (by decide) rfl
  refine lv_aload_n hx hb dX1_moveToNew_36 rfl (lv_at hl 1 rfl) ?_
  refine va_get (D := (dC, dI)) (ci := 1) (v := .ref t2) (C := RX1) (T := TX1) (N := 6) hx hb hts hin_X1_moveToNew_X1 hown hK hP 0 rfl rfl 2 (by decide) (hts (.fieldLink RX1 26 "StepMap" "oldTable" "LStepMap$Table;") (by decide +kernel)) (fun _ h9 => h9) rfl dX1_moveToNew_37 ?_
  refine va_get (D := (dC, dI)) (ci := 0) (v := .ref m2) (C := RX0) (T := TX0) (N := 4) hx hb hts hin_X1_moveToNew_X0 hown hK hP 5 rfl rfl 0 (by decide) (hts (.fieldLink RX1 63 "StepMap$Table" "marks" "[I") (by decide +kernel)) (fun _ h9 => h9) rfl dX1_moveToNew_40 ?_
  refine lv_iload_n hx hb dX1_moveToNew_43 rfl (lv_at hl 2 rfl) ?_
  refine lv_iconst (v := 1) hx hb dX1_moveToNew_44 (by decide) ?_
  refine r_st (i := i) hx hb hK hP hD hS 6 0 rfl rfl (by omega) (by omega) dX1_moveToNew_45 (fun H locs hP hD hS => ?_)
  have hP : va_P (dC, dI) vwCl [(h0, .inr (1, [.int (nI L), .ref t1, .ref t2, .int x3, .int x4, .int (nI (w + (q_lkD X (Y.2.2.1 i) + 1)))])), (t1, .inr (0, [.ref m1, .ref k1, .ref v1, .int (nI X.1)])), (m1, .inl (cI, L, .inl (upd X.2.1 (q_lkE X (Y.2.2.1 i)) 2))), (k1, .inl (cI, L, .inl (upd X.2.2.1 (q_lkE X (Y.2.2.1 i)) (Y.2.2.1 i)))), (v1, .inl (cI, L, .inl (upd X.2.2.2 (q_lkE X (Y.2.2.1 i)) (Y.2.2.2 i)))), (t2, .inr (0, [.ref m2, .ref k2, .ref v2, .int (nI Y.1)])), (m2, .inl (cI, L, .inl (upd Y.2.1 i 1))), (k2, .inl (cI, L, .inl Y.2.2.1)), (v2, .inl (cI, L, .inl Y.2.2.2))] H := hP
  have hD : va_D Aq [(h0, .inr (1, [.int (nI L), .ref t1, .ref t2, .int x3, .int x4, .int (nI (w + (q_lkD X (Y.2.2.1 i) + 1)))])), (t1, .inr (0, [.ref m1, .ref k1, .ref v1, .int (nI X.1)])), (m1, .inl (cI, L, .inl (upd X.2.1 (q_lkE X (Y.2.2.1 i)) 2))), (k1, .inl (cI, L, .inl (upd X.2.2.1 (q_lkE X (Y.2.2.1 i)) (Y.2.2.1 i)))), (v1, .inl (cI, L, .inl (upd X.2.2.2 (q_lkE X (Y.2.2.1 i)) (Y.2.2.2 i)))), (t2, .inr (0, [.ref m2, .ref k2, .ref v2, .int (nI Y.1)])), (m2, .inl (cI, L, .inl (upd Y.2.1 i 1))), (k2, .inl (cI, L, .inl Y.2.2.1)), (v2, .inl (cI, L, .inl Y.2.2.2))] := hD
  exact W.vret hx hb hr (fun t ht hW => ⟨⟨(), rfl, trivial, by rw [ht]; exact hP, va_K.moved hW.alike hK, hD⟩, hS.F ht⟩) hS.2.2 dX1_moveToNew_46
set_option maxHeartbeats 4000000 in
set_option maxRecDepth 100000 in
theorem lp_X1_moveNextSlots {p : Program} {l : Launch} {e : Env} {s : State} {m : MethodId} {args : Array Value} {below : List Frame} {meth : Method} {c : Code} {Q : State → Prop} {dC : Nat → ClassId} {dI : Nat → Nat → Nat} {cI : ClassId} {Aq : Nat → Prop} {H0 : Heap} (S0 : CallFix p m c cX1_moveNextSlots 3 s args wsX1_moveNextSlots RX1) (hK : va_K (dC, dI) vwCl [(cI, .int)] s) (hA : ∀ q : Nat, H0.size ≤ q → Aq q) (h0 t1 m1 k1 v1 t2 m2 k2 v2 L e9 : Nat) (x3 x4 : Int32) (RA RB : q_TB) (RW : Nat) (hL : L ≤ 1024)
    (kk : ∀ (H : Heap) (locs : List Loc) (ls : Array Slot), va_P (dC, dI) vwCl [(h0, .inr (1, [.int (nI L), .ref t1, .ref t2, .int x3, .int x4, .int (nI RW)])), (t1, .inr (0, [.ref m1, .ref k1, .ref v1, .int (nI RA.1)])), (m1, .inl (cI, L, .inl RA.2.1)), (k1, .inl (cI, L, .inl RA.2.2.1)), (v1, .inl (cI, L, .inl RA.2.2.2)), (t2, .inr (0, [.ref m2, .ref k2, .ref v2, .int (nI RB.1)])), (m2, .inl (cI, L, .inl RB.2.1)), (k2, .inl (cI, L, .inl RB.2.2.1)), (v2, .inl (cI, L, .inl RB.2.2.2))] H → va_D Aq [(h0, .inr (1, [.int (nI L), .ref t1, .ref t2, .int x3, .int x4, .int (nI RW)])), (t1, .inr (0, [.ref m1, .ref k1, .ref v1, .int (nI RA.1)])), (m1, .inl (cI, L, .inl RA.2.1)), (k1, .inl (cI, L, .inl RA.2.2.1)), (v1, .inl (cI, L, .inl RA.2.2.2)), (t2, .inr (0, [.ref m2, .ref k2, .ref v2, .int (nI RB.1)])), (m2, .inl (cI, L, .inl RB.2.1)), (k2, .inl (cI, L, .inl RB.2.2.1)), (v2, .inl (cI, L, .inl RB.2.2.2))] → va_S Aq H0 H locs → lv_has ls 3 [(0, .ref h0), (1, .int (nI e9))] → W p l e ({ frames := 4, cells := 0, slots := 0, locals := 90 }) s m args below meth c H locs 0 0 Q (F0 m 61 ls [])) :
    ∀ (f : Nat) (i w : Nat) (X Y : q_TB), i + f = e9 ∧ e9 ≤ Y.1 ∧ q_pw X.1 ∧ X.1 ≤ L ∧ q_pw Y.1 ∧ Y.1 ≤ L ∧ (q_mvs f X Y i).1 = RA ∧ (q_mvs f X Y i).2.1 = RB ∧ w + (q_mvs f X Y i).2.2 = RW → ∀ (H : Heap) (locs : List Loc) (ls : Array Slot), va_P (dC, dI) vwCl [(h0, .inr (1, [.int (nI L), .ref t1, .ref t2, .int x3, .int x4, .int (nI w)])), (t1, .inr (0, [.ref m1, .ref k1, .ref v1, .int (nI X.1)])), (m1, .inl (cI, L, .inl X.2.1)), (k1, .inl (cI, L, .inl X.2.2.1)), (v1, .inl (cI, L, .inl X.2.2.2)), (t2, .inr (0, [.ref m2, .ref k2, .ref v2, .int (nI Y.1)])), (m2, .inl (cI, L, .inl Y.2.1)), (k2, .inl (cI, L, .inl Y.2.2.1)), (v2, .inl (cI, L, .inl Y.2.2.2))] H → va_D Aq [(h0, .inr (1, [.int (nI L), .ref t1, .ref t2, .int x3, .int x4, .int (nI w)])), (t1, .inr (0, [.ref m1, .ref k1, .ref v1, .int (nI X.1)])), (m1, .inl (cI, L, .inl X.2.1)), (k1, .inl (cI, L, .inl X.2.2.1)), (v1, .inl (cI, L, .inl X.2.2.2)), (t2, .inr (0, [.ref m2, .ref k2, .ref v2, .int (nI Y.1)])), (m2, .inl (cI, L, .inl Y.2.1)), (k2, .inl (cI, L, .inl Y.2.2.1)), (v2, .inl (cI, L, .inl Y.2.2.2))] → va_S Aq H0 H locs → lv_has ls 3 [(0, .ref h0), (1, .int (nI e9)), (2, .int (nI i))] → W p l e ({ frames := 4, cells := 0, slots := 0, locals := 90 }) s m args below meth c H locs 0 0 Q (F0 m 22 ls []) := by
  obtain ⟨hx, hb, hml, hown, hts⟩ := id S0
  intro f
  induction f with
  | zero =>
    intro i w X Y hi H locs ls hP hD hS hl
    obtain ⟨h1, h2, h3, h4, h5, h6, h7, h8, h9⟩ := hi
    have hX8 := q_pw_8 h3
    have hY8 := q_pw_8 h5
    refine lv_iload_n hx hb dX1_moveNextSlots_22 rfl (lv_at hl 2 rfl) ?_
    refine lv_iload_n hx hb dX1_moveNextSlots_23 rfl (lv_at hl 1 rfl) ?_
    refine lv_icmp_ge (tgt := 61) hx hb dX1_moveNextSlots_24 (by decide) (fun c_24 => ?_) (fun c_24 => ?_)
    · have h_24 := q_le_t (a := e9) (b := i) (by omega) (by omega) c_24
      have e1 : X = RA := h7
      have e2 : Y = RB := h8
      have e3 : w = RW := h9
      subst e1
      subst e2
      subst e3
      exact kk H locs ls hP hD hS (lv_sub hl [0, 1] rfl)
    · have h_24 := q_le_f (a := e9) (b := i) (by omega) (by omega) c_24
      omega
  | succ f ih =>
    intro i w X Y hi H locs ls hP hD hS hl
    obtain ⟨h1, h2, h3, h4, h5, h6, h7, h8, h9⟩ := hi
    have hX8 := q_pw_8 h3
    have hY8 := q_pw_8 h5
    refine lv_iload_n hx hb dX1_moveNextSlots_22 rfl (lv_at hl 2 rfl) ?_
    refine lv_iload_n hx hb dX1_moveNextSlots_23 rfl (lv_at hl 1 rfl) ?_
    refine lv_icmp_ge (tgt := 61) hx hb dX1_moveNextSlots_24 (by decide) (fun c_24 => ?_) (fun c_24 => ?_)
    · have h_24 := q_le_t (a := e9) (b := i) (by omega) (by omega) c_24
      omega
    · have h_24 := q_le_f (a := e9) (b := i) (by omega) (by omega) c_24
      refine lv_aload_n hx hb dX1_moveNextSlots_27 rfl (lv_at hl 0 rfl) ?_
      refine lv_dup hx hb dX1_moveNextSlots_28 rfl ?_
      refine va_get (D := (dC, dI)) (ci := 1) (v := .int (nI w)) (C := RX1) (T := TX1) (N := 6) hx hb hts hin_X1_moveNextSlots_X1 hown hK hP 0 rfl rfl 5 (by decide) (hts (.fieldLink RX1 35 "StepMap" "work" "I") (by decide +kernel)) (fun _ h9 => h9) rfl dX1_moveNextSlots_29 ?_
      refine lv_iconst (v := 1) hx hb dX1_moveNextSlots_32 (by decide) ?_
      refine lv_iadd hx hb dX1_moveNextSlots_33 ?_
      refine r_eq (z := nI (w + 1)) (nI_add w 1) ?_
      refine va_put (D := (dC, dI)) (ci := 1) (v := .int (nI (w + 1))) (ty := .int) (C := RX1) (T := TX1) (N := 6) hx hb hts hin_X1_moveNextSlots_X1 tyX1 tyX1_ok nmX1 hown hK hP hD hS 0 rfl rfl 5 (by decide) (hts (.fieldLink RX1 35 "StepMap" "work" "I") (by decide +kernel)) (fun _ h9 => h9) rfl (by decide +kernel) (rfl) (rfl) (Nat.le_of_ble_eq_true rfl) dX1_moveNextSlots_34 (fun H locs hP hD hS => ?_)
      have hP : va_P (dC, dI) vwCl [(h0, .inr (1, [.int (nI L), .ref t1, .ref t2, .int x3, .int x4, .int (nI (w + 1))])), (t1, .inr (0, [.ref m1, .ref k1, .ref v1, .int (nI X.1)])), (m1, .inl (cI, L, .inl X.2.1)), (k1, .inl (cI, L, .inl X.2.2.1)), (v1, .inl (cI, L, .inl X.2.2.2)), (t2, .inr (0, [.ref m2, .ref k2, .ref v2, .int (nI Y.1)])), (m2, .inl (cI, L, .inl Y.2.1)), (k2, .inl (cI, L, .inl Y.2.2.1)), (v2, .inl (cI, L, .inl Y.2.2.2))] H := hP
      have hD : va_D Aq [(h0, .inr (1, [.int (nI L), .ref t1, .ref t2, .int x3, .int x4, .int (nI (w + 1))])), (t1, .inr (0, [.ref m1, .ref k1, .ref v1, .int (nI X.1)])), (m1, .inl (cI, L, .inl X.2.1)), (k1, .inl (cI, L, .inl X.2.2.1)), (v1, .inl (cI, L, .inl X.2.2.2)), (t2, .inr (0, [.ref m2, .ref k2, .ref v2, .int (nI Y.1)])), (m2, .inl (cI, L, .inl Y.2.1)), (k2, .inl (cI, L, .inl Y.2.2.1)), (v2, .inl (cI, L, .inl Y.2.2.2))] := hD
      refine lv_aload_n hx hb dX1_moveNextSlots_37 rfl (lv_at hl 0 rfl) ?_
      refine va_get (D := (dC, dI)) (ci := 1) (v := .ref t2) (C := RX1) (T := TX1) (N := 6) hx hb hts hin_X1_moveNextSlots_X1 hown hK hP 0 rfl rfl 2 (by decide) (hts (.fieldLink RX1 26 "StepMap" "oldTable" "LStepMap$Table;") (by decide +kernel)) (fun _ h9 => h9) rfl dX1_moveNextSlots_38 ?_
      refine va_get (D := (dC, dI)) (ci := 0) (v := .ref m2) (C := RX0) (T := TX0) (N := 4) hx hb hts hin_X1_moveNextSlots_X0 hown hK hP 5 rfl rfl 0 (by decide) (hts (.fieldLink RX1 63 "StepMap$Table" "marks" "[I") (by decide +kernel)) (fun _ h9 => h9) rfl dX1_moveNextSlots_41 ?_
      refine lv_iload_n hx hb dX1_moveNextSlots_44 rfl (lv_at hl 2 rfl) ?_
      refine r_ld (i := i) hx hb hK hP 6 0 rfl rfl (by omega) (by omega) dX1_moveNextSlots_45 ?_
      refine lv_iconst (v := 2) hx hb dX1_moveNextSlots_46 (by decide) ?_
      refine lv_icmp_ne (tgt := 55) hx hb dX1_moveNextSlots_47 (by decide) (fun c_47 => ?_) (fun c_47 => ?_)
      · refine lv_iinc (v := nI (i + 1)) (lv' := [(2, .int (nI (i + 1))), (0, .ref h0), (1, .int (nI e9))]) hx hb dX1_moveNextSlots_55 hl (k := 2) rfl (nI_1 _) (by decide) rfl (fun ls hl => ?_)
        refine lv_goto (tgt := 22) hx hb dX1_moveNextSlots_58 (by decide) ?_
        have h7 : (q_mvs f X Y (i + 1)).1 = RA := by rw [q_mvs_0 c_47] at h7; exact h7
        have h8 : (q_mvs f X Y (i + 1)).2.1 = RB := by rw [q_mvs_0 c_47] at h8; exact h8
        have h9 : w + (1 + (q_mvs f X Y (i + 1)).2.2) = RW := by rw [q_mvs_0 c_47] at h9; exact h9
        exact ih (i + 1) (w + 1) X Y ⟨by omega, h2, h3, h4, h5, h6, h7, h8, by omega⟩ H locs ls hP hD hS (lv_sub hl [1, 2, 0] rfl)
      · refine lv_aload_n hx hb dX1_moveNextSlots_50 rfl (lv_at hl 0 rfl) ?_
        refine lv_iload_n hx hb dX1_moveNextSlots_51 rfl (lv_at hl 2 rfl) ?_
        refine r_muV (wr := []) (rest := []) S0 (c_X1_moveToNew l dC dI cI h0 t1 m1 k1 v1 t2 m2 k2 v2 L X Y x3 x4 (w + 1) i H.size h3 h4 h5 h6 hL (by omega)) (cwV 1 hts gX1_moveNextSlots_X1_moveToNew rfl rfl rfl (by decide +kernel) ⟨Nat.le_of_ble_eq_true rfl, Nat.le_of_ble_eq_true rfl⟩) hK hP hD hS hA [0, 1, 2, 3, 4, 5, 6, 7, 8] [] rfl rfl (by decide) (by decide) (by decide) (ci := 1) (q0 := 0) rfl rfl rfl rfl hl.1 rfl (Nat.le_of_ble_eq_true rfl) dX1_moveNextSlots_52 ⟨Nat.zero_le _, Nat.zero_le _⟩ (fun _ H locs hu hP hD hS => ?_)
        have hP : va_P (dC, dI) vwCl [(h0, .inr (1, [.int (nI L), .ref t1, .ref t2, .int x3, .int x4, .int (nI (w + 1 + (q_lkD X (Y.2.2.1 i) + 1)))])), (t1, .inr (0, [.ref m1, .ref k1, .ref v1, .int (nI X.1)])), (m1, .inl (cI, L, .inl (upd X.2.1 (q_lkE X (Y.2.2.1 i)) 2))), (k1, .inl (cI, L, .inl (upd X.2.2.1 (q_lkE X (Y.2.2.1 i)) (Y.2.2.1 i)))), (v1, .inl (cI, L, .inl (upd X.2.2.2 (q_lkE X (Y.2.2.1 i)) (Y.2.2.2 i)))), (t2, .inr (0, [.ref m2, .ref k2, .ref v2, .int (nI Y.1)])), (m2, .inl (cI, L, .inl (upd Y.2.1 i 1))), (k2, .inl (cI, L, .inl Y.2.2.1)), (v2, .inl (cI, L, .inl Y.2.2.2))] H := hP.sub [0, 1, 2, 3, 4, 5, 6, 7, 8] rfl
        have hD : va_D Aq [(h0, .inr (1, [.int (nI L), .ref t1, .ref t2, .int x3, .int x4, .int (nI (w + 1 + (q_lkD X (Y.2.2.1 i) + 1)))])), (t1, .inr (0, [.ref m1, .ref k1, .ref v1, .int (nI X.1)])), (m1, .inl (cI, L, .inl (upd X.2.1 (q_lkE X (Y.2.2.1 i)) 2))), (k1, .inl (cI, L, .inl (upd X.2.2.1 (q_lkE X (Y.2.2.1 i)) (Y.2.2.1 i)))), (v1, .inl (cI, L, .inl (upd X.2.2.2 (q_lkE X (Y.2.2.1 i)) (Y.2.2.2 i)))), (t2, .inr (0, [.ref m2, .ref k2, .ref v2, .int (nI Y.1)])), (m2, .inl (cI, L, .inl (upd Y.2.1 i 1))), (k2, .inl (cI, L, .inl Y.2.2.1)), (v2, .inl (cI, L, .inl Y.2.2.2))] := hD.sub [0, 1, 2, 3, 4, 5, 6, 7, 8] (by decide) rfl
        refine lv_iinc (v := nI (i + 1)) (lv' := [(2, .int (nI (i + 1))), (0, .ref h0), (1, .int (nI e9))]) hx hb dX1_moveNextSlots_55 hl (k := 2) rfl (nI_1 _) (by decide) rfl (fun ls hl => ?_)
        refine lv_goto (tgt := 22) hx hb dX1_moveNextSlots_58 (by decide) ?_
        have h7 : (q_mvs f (q_fl X (q_lkE X (Y.2.2.1 i)) (Y.2.2.1 i) (Y.2.2.2 i)) (q_tk Y i) (i + 1)).1 = RA := by rw [q_mvs_1 c_47] at h7; exact h7
        have h8 : (q_mvs f (q_fl X (q_lkE X (Y.2.2.1 i)) (Y.2.2.1 i) (Y.2.2.2 i)) (q_tk Y i) (i + 1)).2.1 = RB := by rw [q_mvs_1 c_47] at h8; exact h8
        have h9 : w + (q_lkD X (Y.2.2.1 i) + 2 + (q_mvs f (q_fl X (q_lkE X (Y.2.2.1 i)) (Y.2.2.1 i) (Y.2.2.2 i)) (q_tk Y i) (i + 1)).2.2) = RW := by rw [q_mvs_1 c_47] at h9; exact h9
        exact ih (i + 1) (w + 1 + (q_lkD X (Y.2.2.1 i) + 1)) (q_fl X (q_lkE X (Y.2.2.1 i)) (Y.2.2.1 i) (Y.2.2.2 i)) (q_tk Y i) ⟨by omega, h2, h3, h4, h5, h6, h7, h8, by omega⟩ H locs ls hP hD hS (lv_sub hl [1, 2, 0] rfl)
set_option maxHeartbeats 4000000 in
set_option maxRecDepth 100000 in
theorem c_X1_moveNextSlots (l : Launch) (dC : Nat → ClassId) (dI : Nat → Nat → Nat) (cI : ClassId) (h0 t1 m1 k1 v1 t2 m2 k2 v2 L : Nat) (A B : q_TB) (x4 : Int32) (cu w : Nat) (sz : Nat) (hSZ : q_SZ L A B) (hc4 : cu + 4 ≤ B.1) : Met l yX1_moveNextSlots wsX1_moveNextSlots ({ frames := 4, cells := 0, slots := 0, locals := 90 }) (r_Mc (dC, dI) vwCl [(cI, .int)] [(h0, .inr (1, [.int (nI L), .ref t1, .ref t2, .int (nI cu), .int x4, .int (nI w)])), (t1, .inr (0, [.ref m1, .ref k1, .ref v1, .int (nI A.1)])), (m1, .inl (cI, L, .inl A.2.1)), (k1, .inl (cI, L, .inl A.2.2.1)), (v1, .inl (cI, L, .inl A.2.2.2)), (t2, .inr (0, [.ref m2, .ref k2, .ref v2, .int (nI B.1)])), (m2, .inl (cI, L, .inl B.2.1)), (k2, .inl (cI, L, .inl B.2.2.1)), (v2, .inl (cI, L, .inl B.2.2.2))] sz [.ref h0]) (va_Qv (fun (_ : Unit) => True) (fun u t => r_B (dC, dI) vwCl [(cI, .int)] (va_A [(h0, .inr (1, [.int (nI L), .ref t1, .ref t2, .int (nI cu), .int x4, .int (nI w)])), (t1, .inr (0, [.ref m1, .ref k1, .ref v1, .int (nI A.1)])), (m1, .inl (cI, L, .inl A.2.1)), (k1, .inl (cI, L, .inl A.2.2.1)), (v1, .inl (cI, L, .inl A.2.2.2)), (t2, .inr (0, [.ref m2, .ref k2, .ref v2, .int (nI B.1)])), (m2, .inl (cI, L, .inl B.2.1)), (k2, .inl (cI, L, .inl B.2.2.1)), (v2, .inl (cI, L, .inl B.2.2.2))] sz) ((fun _ => [(h0, .inr (1, [.int (nI L), .ref t1, .ref t2, .int (q_nx (if cu + 4 < B.1 then some (cu + 4) else none)), .int x4, .int (nI (w + (q_mvs 4 A B cu).2.2))])), (t1, .inr (0, [.ref m1, .ref k1, .ref v1, .int (nI ((q_mvs 4 A B cu).1.1))])), (m1, .inl (cI, L, .inl ((q_mvs 4 A B cu).1.2.1))), (k1, .inl (cI, L, .inl ((q_mvs 4 A B cu).1.2.2.1))), (v1, .inl (cI, L, .inl ((q_mvs 4 A B cu).1.2.2.2))), (t2, .inr (0, [.ref m2, .ref k2, .ref v2, .int (nI ((q_mvs 4 A B cu).2.1.1))])), (m2, .inl (cI, L, .inl ((q_mvs 4 A B cu).2.1.2.1))), (k2, .inl (cI, L, .inl ((q_mvs 4 A B cu).2.1.2.2.1))), (v2, .inl (cI, L, .inl ((q_mvs 4 A B cu).2.1.2.2.2)))]) u) t) (va_A [(h0, .inr (1, [.int (nI L), .ref t1, .ref t2, .int (nI cu), .int x4, .int (nI w)])), (t1, .inr (0, [.ref m1, .ref k1, .ref v1, .int (nI A.1)])), (m1, .inl (cI, L, .inl A.2.1)), (k1, .inl (cI, L, .inl A.2.2.1)), (v1, .inl (cI, L, .inl A.2.2.2)), (t2, .inr (0, [.ref m2, .ref k2, .ref v2, .int (nI B.1)])), (m2, .inl (cI, L, .inl B.2.1)), (k2, .inl (cI, L, .inl B.2.2.1)), (v2, .inl (cI, L, .inl B.2.2.2))] sz)) 0 0 (va_A [(h0, .inr (1, [.int (nI L), .ref t1, .ref t2, .int (nI cu), .int x4, .int (nI w)])), (t1, .inr (0, [.ref m1, .ref k1, .ref v1, .int (nI A.1)])), (m1, .inl (cI, L, .inl A.2.1)), (k1, .inl (cI, L, .inl A.2.2.1)), (v1, .inl (cI, L, .inl A.2.2.2)), (t2, .inr (0, [.ref m2, .ref k2, .ref v2, .int (nI B.1)])), (m2, .inl (cI, L, .inl B.2.1)), (k2, .inl (cI, L, .inl B.2.2.1)), (v2, .inl (cI, L, .inl B.2.2.2))] sz) := by
  refine Met.ofW (cc := cX1_moveNextSlots) (maxL := 3) (ret := none) (by decide) rfl ?_
  intro p e s m args below meth c s₁ Bd hml hv
  obtain ⟨rfl, hsz, hP, hK, hD0⟩ := hv
  have hx := Bd.exec
  have hb := Bd.bytes
  have hr := Bd.returns
  have hts := atoms_spec (ws := wsX1_moveNextSlots) Bd.pre
  have hown : s.vm.findClass RX1 = some m.cls := findClass_of_methodNamed Bd.named
  have hlocks := Bd.notSynchronized
  have S0 : CallFix p m c cX1_moveNextSlots 3 s _ wsX1_moveNextSlots RX1 := ⟨hx, hb, hml, hown, hts⟩
  subst hsz
  have hD := hD0.self (sz := s.heap.size)
  generalize hAe : va_A [(h0, .inr (1, [.int (nI L), .ref t1, .ref t2, .int (nI cu), .int x4, .int (nI w)])), (t1, .inr (0, [.ref m1, .ref k1, .ref v1, .int (nI A.1)])), (m1, .inl (cI, L, .inl A.2.1)), (k1, .inl (cI, L, .inl A.2.2.1)), (v1, .inl (cI, L, .inl A.2.2.2)), (t2, .inr (0, [.ref m2, .ref k2, .ref v2, .int (nI B.1)])), (m2, .inl (cI, L, .inl B.2.1)), (k2, .inl (cI, L, .inl B.2.2.1)), (v2, .inl (cI, L, .inl B.2.2.2))] s.heap.size = Aq at hD ⊢
  have hA : ∀ q : Nat, s.heap.size ≤ q → Aq q := fun q h => by rw [← hAe]; exact Or.inr h
  have hS : va_S Aq s.heap s.heap [] := va_S.rf
  have hD : va_D Aq [(h0, .inr (1, [.int (nI L), .ref t1, .ref t2, .int (nI cu), .int x4, .int (nI w)])), (t1, .inr (0, [.ref m1, .ref k1, .ref v1, .int (nI A.1)])), (m1, .inl (cI, L, .inl A.2.1)), (k1, .inl (cI, L, .inl A.2.2.1)), (v1, .inl (cI, L, .inl A.2.2.2)), (t2, .inr (0, [.ref m2, .ref k2, .ref v2, .int (nI B.1)])), (m2, .inl (cI, L, .inl B.2.1)), (k2, .inl (cI, L, .inl B.2.2.1)), (v2, .inl (cI, L, .inl B.2.2.2))] := hD
  have hP : va_P (dC, dI) vwCl [(h0, .inr (1, [.int (nI L), .ref t1, .ref t2, .int (nI cu), .int x4, .int (nI w)])), (t1, .inr (0, [.ref m1, .ref k1, .ref v1, .int (nI A.1)])), (m1, .inl (cI, L, .inl A.2.1)), (k1, .inl (cI, L, .inl A.2.2.1)), (v1, .inl (cI, L, .inl A.2.2.2)), (t2, .inr (0, [.ref m2, .ref k2, .ref v2, .int (nI B.1)])), (m2, .inl (cI, L, .inl B.2.1)), (k2, .inl (cI, L, .inl B.2.2.1)), (v2, .inl (cI, L, .inl B.2.2.2))] s.heap := hP
  have hl := lv_entry ([.ref h0]) (n := 3) (Nat.le_of_ble_eq_true rfl)
  rw [lg_entry_eq]
  generalize (lg_sl ([.ref h0]) ++ List.replicate (3 - (lg_sl ([.ref h0])).length) Slot.unset).toArray = ls at hl ⊢
  have hl : lv_has ls 3 [(0, .ref h0)] := hl
  obtain ⟨hLp, hpA, hAL, hpB, hBL⟩ := id hSZ
  have hL := (q_pw_8 hLp).2
  have hA8 := q_pw_8 hpA
  have hB8 := q_pw_8 hpB
  refine lv_aload_n hx hb dX1_moveNextSlots_0 rfl (lv_at hl 0 rfl) ?_
  refine va_get (D := (dC, dI)) (ci := 1) (v := .int (nI cu)) (C := RX1) (T := TX1) (N := 6) hx hb hts hin_X1_moveNextSlots_X1 hown hK hP 0 rfl rfl 3 (by decide) (hts (.fieldLink RX1 32 "StepMap" "nextToMove" "I") (by decide +kernel)) (fun _ h9 => h9) rfl dX1_moveNextSlots_1 ?_
  refine lv_iconst (v := 4) hx hb dX1_moveNextSlots_4 (by decide) ?_
  refine lv_iadd hx hb dX1_moveNextSlots_5 ?_
  refine r_eq (z := nI (cu + 4)) (nI_add cu 4) ?_
  refine lv_aload_n hx hb dX1_moveNextSlots_6 rfl (lv_at hl 0 rfl) ?_
  refine va_get (D := (dC, dI)) (ci := 1) (v := .ref t2) (C := RX1) (T := TX1) (N := 6) hx hb hts hin_X1_moveNextSlots_X1 hown hK hP 0 rfl rfl 2 (by decide) (hts (.fieldLink RX1 26 "StepMap" "oldTable" "LStepMap$Table;") (by decide +kernel)) (fun _ h9 => h9) rfl dX1_moveNextSlots_7 ?_
  refine va_get (D := (dC, dI)) (ci := 0) (v := .int (nI B.1)) (C := RX0) (T := TX0) (N := 4) hx hb hts hin_X1_moveNextSlots_X0 hown hK hP 5 rfl rfl 3 (by decide) (hts (.fieldLink RX1 69 "StepMap$Table" "slots" "I") (by decide +kernel)) (fun _ h9 => h9) rfl dX1_moveNextSlots_10 ?_
  refine va_mmin hx hb (by rw [hml]; exact hl.1.symm) hown (hts (.methodLink RX1 112 Lib.Math.min.name) (by decide +kernel)) (hts (.static Lib.Math.min.name) (by decide +kernel)) (hts (.initialized "java/lang/Math") (by decide +kernel)) (hts (.code Lib.Math.min.name Lib.Math.min.code 2 (some .int)) (by decide +kernel)) (Nat.le_of_ble_eq_true rfl) (Nat.le_of_ble_eq_true rfl) (Nat.zero_le _) (Nat.zero_le _) dX1_moveNextSlots_13 ?_
  refine r_eq (z := nI (cu + 4)) (if_neg (nI_nlt (by omega) (by omega))) ?_
  refine lv_istore_n (lv' := [(1, .int (nI (cu + 4))), (0, .ref h0)]) hx hb dX1_moveNextSlots_16 rfl hl (by decide) rfl (fun ls hl => ?_)
  refine lv_aload_n hx hb dX1_moveNextSlots_17 rfl (lv_at hl 1 rfl) ?_
  refine va_get (D := (dC, dI)) (ci := 1) (v := .int (nI cu)) (C := RX1) (T := TX1) (N := 6) hx hb hts hin_X1_moveNextSlots_X1 hown hK hP 0 rfl rfl 3 (by decide) (hts (.fieldLink RX1 32 "StepMap" "nextToMove" "I") (by decide +kernel)) (fun _ h9 => h9) rfl dX1_moveNextSlots_18 ?_
  refine lv_istore_n (lv' := [(2, .int (nI cu)), (1, .int (nI (cu + 4))), (0, .ref h0)]) hx hb dX1_moveNextSlots_21 rfl hl (by decide) rfl (fun ls hl => ?_)
  obtain ⟨RA, hRA⟩ : ∃ z, (q_mvs 4 A B cu).1 = z := ⟨_, rfl⟩
  obtain ⟨RB, hRB⟩ : ∃ z, (q_mvs 4 A B cu).2.1 = z := ⟨_, rfl⟩
  obtain ⟨RW, hRW⟩ : ∃ z, w + (q_mvs 4 A B cu).2.2 = z := ⟨_, rfl⟩
  have hRn : RB.1 = B.1 := by rw [← hRB]; exact (q_mvs_n 4 A B cu).2
  refine lp_X1_moveNextSlots S0 hK hA h0 t1 m1 k1 v1 t2 m2 k2 v2 L (cu + 4) (nI cu) x4 RA RB RW hL (fun H locs ls hP hD hS hl => ?_) 4 cu w A B ⟨rfl, hc4, hpA, hAL, hpB, hBL, hRA, hRB, hRW⟩ s.heap [] ls hP hD hS (lv_sub hl [2, 1, 0] rfl)
  refine lv_aload_n hx hb dX1_moveNextSlots_61 rfl (lv_at hl 0 rfl) ?_
  refine lv_iload_n hx hb dX1_moveNextSlots_62 rfl (lv_at hl 1 rfl) ?_
  refine lv_aload_n hx hb dX1_moveNextSlots_63 rfl (lv_at hl 0 rfl) ?_
  refine va_get (D := (dC, dI)) (ci := 1) (v := .ref t2) (C := RX1) (T := TX1) (N := 6) hx hb hts hin_X1_moveNextSlots_X1 hown hK hP 0 rfl rfl 2 (by decide) (hts (.fieldLink RX1 26 "StepMap" "oldTable" "LStepMap$Table;") (by decide +kernel)) (fun _ h9 => h9) rfl dX1_moveNextSlots_64 ?_
  refine va_get (D := (dC, dI)) (ci := 0) (v := .int (nI RB.1)) (C := RX0) (T := TX0) (N := 4) hx hb hts hin_X1_moveNextSlots_X0 hown hK hP 5 rfl rfl 3 (by decide) (hts (.fieldLink RX1 69 "StepMap$Table" "slots" "I") (by decide +kernel)) (fun _ h9 => h9) rfl dX1_moveNextSlots_67 ?_
  refine lv_icmp_ge (tgt := 77) hx hb dX1_moveNextSlots_70 (by decide) (fun c_70 => ?_) (fun c_70 => ?_)
  · have h_70 := q_le_t (a := RB.1) (b := cu + 4) (by omega) (by omega) c_70
    refine lv_iconst (v := -1) hx hb dX1_moveNextSlots_77 (by decide) ?_
    refine va_put (D := (dC, dI)) (ci := 1) (v := .int (-1)) (ty := .int) (C := RX1) (T := TX1) (N := 6) hx hb hts hin_X1_moveNextSlots_X1 tyX1 tyX1_ok nmX1 hown hK hP hD hS 0 rfl rfl 3 (by decide) (hts (.fieldLink RX1 32 "StepMap" "nextToMove" "I") (by decide +kernel)) (fun _ h9 => h9) rfl (by decide +kernel) (rfl) (rfl) (Nat.le_of_ble_eq_true rfl) dX1_moveNextSlots_78 (fun H locs hP hD hS => ?_)
    have hP : va_P (dC, dI) vwCl [(h0, .inr (1, [.int (nI L), .ref t1, .ref t2, .int (-1), .int x4, .int (nI RW)])), (t1, .inr (0, [.ref m1, .ref k1, .ref v1, .int (nI RA.1)])), (m1, .inl (cI, L, .inl RA.2.1)), (k1, .inl (cI, L, .inl RA.2.2.1)), (v1, .inl (cI, L, .inl RA.2.2.2)), (t2, .inr (0, [.ref m2, .ref k2, .ref v2, .int (nI RB.1)])), (m2, .inl (cI, L, .inl RB.2.1)), (k2, .inl (cI, L, .inl RB.2.2.1)), (v2, .inl (cI, L, .inl RB.2.2.2))] H := hP
    have hD : va_D Aq [(h0, .inr (1, [.int (nI L), .ref t1, .ref t2, .int (-1), .int x4, .int (nI RW)])), (t1, .inr (0, [.ref m1, .ref k1, .ref v1, .int (nI RA.1)])), (m1, .inl (cI, L, .inl RA.2.1)), (k1, .inl (cI, L, .inl RA.2.2.1)), (v1, .inl (cI, L, .inl RA.2.2.2)), (t2, .inr (0, [.ref m2, .ref k2, .ref v2, .int (nI RB.1)])), (m2, .inl (cI, L, .inl RB.2.1)), (k2, .inl (cI, L, .inl RB.2.2.1)), (v2, .inl (cI, L, .inl RB.2.2.2))] := hD
    have e_0_3 : -1 = q_nx (if cu + 4 < B.1 then some (cu + 4) else none) := by rw [if_neg (by omega)]; rfl
    have hP : va_P (dC, dI) vwCl [(h0, .inr (1, [.int (nI L), .ref t1, .ref t2, .int (q_nx (if cu + 4 < B.1 then some (cu + 4) else none)), .int x4, .int (nI RW)])), (t1, .inr (0, [.ref m1, .ref k1, .ref v1, .int (nI RA.1)])), (m1, .inl (cI, L, .inl RA.2.1)), (k1, .inl (cI, L, .inl RA.2.2.1)), (v1, .inl (cI, L, .inl RA.2.2.2)), (t2, .inr (0, [.ref m2, .ref k2, .ref v2, .int (nI RB.1)])), (m2, .inl (cI, L, .inl RB.2.1)), (k2, .inl (cI, L, .inl RB.2.2.1)), (v2, .inl (cI, L, .inl RB.2.2.2))] H := by rw [← e_0_3]; exact hP
    have hD : va_D Aq [(h0, .inr (1, [.int (nI L), .ref t1, .ref t2, .int (q_nx (if cu + 4 < B.1 then some (cu + 4) else none)), .int x4, .int (nI RW)])), (t1, .inr (0, [.ref m1, .ref k1, .ref v1, .int (nI RA.1)])), (m1, .inl (cI, L, .inl RA.2.1)), (k1, .inl (cI, L, .inl RA.2.2.1)), (v1, .inl (cI, L, .inl RA.2.2.2)), (t2, .inr (0, [.ref m2, .ref k2, .ref v2, .int (nI RB.1)])), (m2, .inl (cI, L, .inl RB.2.1)), (k2, .inl (cI, L, .inl RB.2.2.1)), (v2, .inl (cI, L, .inl RB.2.2.2))] := by rw [← e_0_3]; exact hD
    subst hRA
    subst hRB
    subst hRW
    exact W.vret hx hb hr (fun t ht hW => ⟨⟨(), rfl, trivial, by rw [ht]; exact hP, va_K.moved hW.alike hK, hD⟩, hS.F ht⟩) hS.2.2 dX1_moveNextSlots_81
  · have h_70 := q_le_f (a := RB.1) (b := cu + 4) (by omega) (by omega) c_70
    refine lv_iload_n hx hb dX1_moveNextSlots_73 rfl (lv_at hl 1 rfl) ?_
    refine lv_goto (tgt := 78) hx hb dX1_moveNextSlots_74 (by decide) ?_
    refine va_put (D := (dC, dI)) (ci := 1) (v := .int (nI (cu + 4))) (ty := .int) (C := RX1) (T := TX1) (N := 6) hx hb hts hin_X1_moveNextSlots_X1 tyX1 tyX1_ok nmX1 hown hK hP hD hS 0 rfl rfl 3 (by decide) (hts (.fieldLink RX1 32 "StepMap" "nextToMove" "I") (by decide +kernel)) (fun _ h9 => h9) rfl (by decide +kernel) (rfl) (rfl) (Nat.le_of_ble_eq_true rfl) dX1_moveNextSlots_78 (fun H locs hP hD hS => ?_)
    have hP : va_P (dC, dI) vwCl [(h0, .inr (1, [.int (nI L), .ref t1, .ref t2, .int (nI (cu + 4)), .int x4, .int (nI RW)])), (t1, .inr (0, [.ref m1, .ref k1, .ref v1, .int (nI RA.1)])), (m1, .inl (cI, L, .inl RA.2.1)), (k1, .inl (cI, L, .inl RA.2.2.1)), (v1, .inl (cI, L, .inl RA.2.2.2)), (t2, .inr (0, [.ref m2, .ref k2, .ref v2, .int (nI RB.1)])), (m2, .inl (cI, L, .inl RB.2.1)), (k2, .inl (cI, L, .inl RB.2.2.1)), (v2, .inl (cI, L, .inl RB.2.2.2))] H := hP
    have hD : va_D Aq [(h0, .inr (1, [.int (nI L), .ref t1, .ref t2, .int (nI (cu + 4)), .int x4, .int (nI RW)])), (t1, .inr (0, [.ref m1, .ref k1, .ref v1, .int (nI RA.1)])), (m1, .inl (cI, L, .inl RA.2.1)), (k1, .inl (cI, L, .inl RA.2.2.1)), (v1, .inl (cI, L, .inl RA.2.2.2)), (t2, .inr (0, [.ref m2, .ref k2, .ref v2, .int (nI RB.1)])), (m2, .inl (cI, L, .inl RB.2.1)), (k2, .inl (cI, L, .inl RB.2.2.1)), (v2, .inl (cI, L, .inl RB.2.2.2))] := hD
    have e_0_3 : nI (cu + 4) = q_nx (if cu + 4 < B.1 then some (cu + 4) else none) := by rw [if_pos (by omega)]; rfl
    have hP : va_P (dC, dI) vwCl [(h0, .inr (1, [.int (nI L), .ref t1, .ref t2, .int (q_nx (if cu + 4 < B.1 then some (cu + 4) else none)), .int x4, .int (nI RW)])), (t1, .inr (0, [.ref m1, .ref k1, .ref v1, .int (nI RA.1)])), (m1, .inl (cI, L, .inl RA.2.1)), (k1, .inl (cI, L, .inl RA.2.2.1)), (v1, .inl (cI, L, .inl RA.2.2.2)), (t2, .inr (0, [.ref m2, .ref k2, .ref v2, .int (nI RB.1)])), (m2, .inl (cI, L, .inl RB.2.1)), (k2, .inl (cI, L, .inl RB.2.2.1)), (v2, .inl (cI, L, .inl RB.2.2.2))] H := by rw [← e_0_3]; exact hP
    have hD : va_D Aq [(h0, .inr (1, [.int (nI L), .ref t1, .ref t2, .int (q_nx (if cu + 4 < B.1 then some (cu + 4) else none)), .int x4, .int (nI RW)])), (t1, .inr (0, [.ref m1, .ref k1, .ref v1, .int (nI RA.1)])), (m1, .inl (cI, L, .inl RA.2.1)), (k1, .inl (cI, L, .inl RA.2.2.1)), (v1, .inl (cI, L, .inl RA.2.2.2)), (t2, .inr (0, [.ref m2, .ref k2, .ref v2, .int (nI RB.1)])), (m2, .inl (cI, L, .inl RB.2.1)), (k2, .inl (cI, L, .inl RB.2.2.1)), (v2, .inl (cI, L, .inl RB.2.2.2))] := by rw [← e_0_3]; exact hD
    subst hRA
    subst hRB
    subst hRW
    exact W.vret hx hb hr (fun t ht hW => ⟨⟨(), rfl, trivial, by rw [ht]; exact hP, va_K.moved hW.alike hK, hD⟩, hS.F ht⟩) hS.2.2 dX1_moveNextSlots_81
set_option maxHeartbeats 4000000 in
set_option maxRecDepth 100000 in
theorem c_X1_startMigration (l : Launch) (dC : Nat → ClassId) (dI : Nat → Nat → Nat) (cI : ClassId) (h0 t1 m1 k1 v1 t2 m2 k2 v2 L : Nat) (A B : q_TB) (x3 x4 x5 : Int32) (q : Nat) (sz : Nat) (hpB : q_pw B.1) (hBL : B.1 ≤ L) (hL : L ≤ 1024) (hq : q ≤ L) : Met l yX1_startMigration wsX1_startMigration ({ frames := 2, cells := 0, slots := 0, locals := 43 }) (r_Mc (dC, dI) vwCl [(cI, .int)] [(h0, .inr (1, [.int (nI L), .ref t1, .ref t2, .int x3, .int x4, .int x5])), (t1, .inr (0, [.ref m1, .ref k1, .ref v1, .int (nI A.1)])), (m1, .inl (cI, L, .inl A.2.1)), (k1, .inl (cI, L, .inl A.2.2.1)), (v1, .inl (cI, L, .inl A.2.2.2)), (t2, .inr (0, [.ref m2, .ref k2, .ref v2, .int (nI B.1)])), (m2, .inl (cI, L, .inl B.2.1)), (k2, .inl (cI, L, .inl B.2.2.1)), (v2, .inl (cI, L, .inl B.2.2.2))] sz [.ref h0, .int (nI q)]) (va_Qv (fun (_ : Unit) => True) (fun u t => r_B (dC, dI) vwCl [(cI, .int)] (va_A [(h0, .inr (1, [.int (nI L), .ref t1, .ref t2, .int x3, .int x4, .int x5])), (t1, .inr (0, [.ref m1, .ref k1, .ref v1, .int (nI A.1)])), (m1, .inl (cI, L, .inl A.2.1)), (k1, .inl (cI, L, .inl A.2.2.1)), (v1, .inl (cI, L, .inl A.2.2.2)), (t2, .inr (0, [.ref m2, .ref k2, .ref v2, .int (nI B.1)])), (m2, .inl (cI, L, .inl B.2.1)), (k2, .inl (cI, L, .inl B.2.2.1)), (v2, .inl (cI, L, .inl B.2.2.2))] sz) ((fun _ => [(h0, .inr (1, [.int (nI L), .ref t2, .ref t1, .int (nI 0), .int x4, .int x5])), (t1, .inr (0, [.ref m1, .ref k1, .ref v1, .int (nI A.1)])), (m1, .inl (cI, L, .inl A.2.1)), (k1, .inl (cI, L, .inl A.2.2.1)), (v1, .inl (cI, L, .inl A.2.2.2)), (t2, .inr (0, [.ref m2, .ref k2, .ref v2, .int (nI q)])), (m2, .inl (cI, L, .inl (q_cl B.2.1 q))), (k2, .inl (cI, L, .inl B.2.2.1)), (v2, .inl (cI, L, .inl B.2.2.2))]) u) t) (va_A [(h0, .inr (1, [.int (nI L), .ref t1, .ref t2, .int x3, .int x4, .int x5])), (t1, .inr (0, [.ref m1, .ref k1, .ref v1, .int (nI A.1)])), (m1, .inl (cI, L, .inl A.2.1)), (k1, .inl (cI, L, .inl A.2.2.1)), (v1, .inl (cI, L, .inl A.2.2.2)), (t2, .inr (0, [.ref m2, .ref k2, .ref v2, .int (nI B.1)])), (m2, .inl (cI, L, .inl B.2.1)), (k2, .inl (cI, L, .inl B.2.2.1)), (v2, .inl (cI, L, .inl B.2.2.2))] sz)) 0 0 (va_A [(h0, .inr (1, [.int (nI L), .ref t1, .ref t2, .int x3, .int x4, .int x5])), (t1, .inr (0, [.ref m1, .ref k1, .ref v1, .int (nI A.1)])), (m1, .inl (cI, L, .inl A.2.1)), (k1, .inl (cI, L, .inl A.2.2.1)), (v1, .inl (cI, L, .inl A.2.2.2)), (t2, .inr (0, [.ref m2, .ref k2, .ref v2, .int (nI B.1)])), (m2, .inl (cI, L, .inl B.2.1)), (k2, .inl (cI, L, .inl B.2.2.1)), (v2, .inl (cI, L, .inl B.2.2.2))] sz) := by
  refine Met.ofW (cc := cX1_startMigration) (maxL := 3) (ret := none) (by decide) rfl ?_
  intro p e s m args below meth c s₁ Bd hml hv
  obtain ⟨rfl, hsz, hP, hK, hD0⟩ := hv
  have hx := Bd.exec
  have hb := Bd.bytes
  have hr := Bd.returns
  have hts := atoms_spec (ws := wsX1_startMigration) Bd.pre
  have hown : s.vm.findClass RX1 = some m.cls := findClass_of_methodNamed Bd.named
  have hlocks := Bd.notSynchronized
  have S0 : CallFix p m c cX1_startMigration 3 s _ wsX1_startMigration RX1 := ⟨hx, hb, hml, hown, hts⟩
  subst hsz
  have hD := hD0.self (sz := s.heap.size)
  generalize hAe : va_A [(h0, .inr (1, [.int (nI L), .ref t1, .ref t2, .int x3, .int x4, .int x5])), (t1, .inr (0, [.ref m1, .ref k1, .ref v1, .int (nI A.1)])), (m1, .inl (cI, L, .inl A.2.1)), (k1, .inl (cI, L, .inl A.2.2.1)), (v1, .inl (cI, L, .inl A.2.2.2)), (t2, .inr (0, [.ref m2, .ref k2, .ref v2, .int (nI B.1)])), (m2, .inl (cI, L, .inl B.2.1)), (k2, .inl (cI, L, .inl B.2.2.1)), (v2, .inl (cI, L, .inl B.2.2.2))] s.heap.size = Aq at hD ⊢
  have hA : ∀ q : Nat, s.heap.size ≤ q → Aq q := fun q h => by rw [← hAe]; exact Or.inr h
  have hS : va_S Aq s.heap s.heap [] := va_S.rf
  have hD : va_D Aq [(h0, .inr (1, [.int (nI L), .ref t1, .ref t2, .int x3, .int x4, .int x5])), (t1, .inr (0, [.ref m1, .ref k1, .ref v1, .int (nI A.1)])), (m1, .inl (cI, L, .inl A.2.1)), (k1, .inl (cI, L, .inl A.2.2.1)), (v1, .inl (cI, L, .inl A.2.2.2)), (t2, .inr (0, [.ref m2, .ref k2, .ref v2, .int (nI B.1)])), (m2, .inl (cI, L, .inl B.2.1)), (k2, .inl (cI, L, .inl B.2.2.1)), (v2, .inl (cI, L, .inl B.2.2.2))] := hD
  have hP : va_P (dC, dI) vwCl [(h0, .inr (1, [.int (nI L), .ref t1, .ref t2, .int x3, .int x4, .int x5])), (t1, .inr (0, [.ref m1, .ref k1, .ref v1, .int (nI A.1)])), (m1, .inl (cI, L, .inl A.2.1)), (k1, .inl (cI, L, .inl A.2.2.1)), (v1, .inl (cI, L, .inl A.2.2.2)), (t2, .inr (0, [.ref m2, .ref k2, .ref v2, .int (nI B.1)])), (m2, .inl (cI, L, .inl B.2.1)), (k2, .inl (cI, L, .inl B.2.2.1)), (v2, .inl (cI, L, .inl B.2.2.2))] s.heap := hP
  have hl := lv_entry ([.ref h0, .int (nI q)]) (n := 3) (Nat.le_of_ble_eq_true rfl)
  rw [lg_entry_eq]
  generalize (lg_sl ([.ref h0, .int (nI q)]) ++ List.replicate (3 - (lg_sl ([.ref h0, .int (nI q)])).length) Slot.unset).toArray = ls at hl ⊢
  have hl : lv_has ls 3 [(0, .ref h0), (1, .int (nI q))] := hl
  have hB8 := q_pw_8 hpB
  refine lv_aload_n hx hb dX1_startMigration_0 rfl (lv_at hl 0 rfl) ?_
  refine va_get (D := (dC, dI)) (ci := 1) (v := .ref t2) (C := RX1) (T := TX1) (N := 6) hx hb hts hin_X1_startMigration_X1 hown hK hP 0 rfl rfl 2 (by decide) (hts (.fieldLink RX1 26 "StepMap" "oldTable" "LStepMap$Table;") (by decide +kernel)) (fun _ h9 => h9) rfl dX1_startMigration_1 ?_
  refine lv_astore_n (lv' := [(2, .ref t2), (0, .ref h0), (1, .int (nI q))]) hx hb dX1_startMigration_4 rfl hl (by decide) rfl (fun ls hl => ?_)
  refine lv_aload_n hx hb dX1_startMigration_5 rfl (lv_at hl 1 rfl) ?_
  refine lv_aload_n hx hb dX1_startMigration_6 rfl (lv_at hl 1 rfl) ?_
  refine va_get (D := (dC, dI)) (ci := 1) (v := .ref t1) (C := RX1) (T := TX1) (N := 6) hx hb hts hin_X1_startMigration_X1 hown hK hP 0 rfl rfl 1 (by decide) (hts (.fieldLink RX1 22 "StepMap" "newTable" "LStepMap$Table;") (by decide +kernel)) (fun _ h9 => h9) rfl dX1_startMigration_7 ?_
  refine va_put (D := (dC, dI)) (ci := 1) (v := .ref t1) (ty := (.object "StepMap$Table")) (C := RX1) (T := TX1) (N := 6) hx hb hts hin_X1_startMigration_X1 tyX1 tyX1_ok nmX1 hown hK hP hD hS 0 rfl rfl 2 (by decide) (hts (.fieldLink RX1 26 "StepMap" "oldTable" "LStepMap$Table;") (by decide +kernel)) (fun _ h9 => h9) rfl (by decide +kernel) (rfl) (rfl) (Nat.le_of_ble_eq_true rfl) dX1_startMigration_10 (fun H locs hP hD hS => ?_)
  have hP : va_P (dC, dI) vwCl [(h0, .inr (1, [.int (nI L), .ref t1, .ref t1, .int x3, .int x4, .int x5])), (t1, .inr (0, [.ref m1, .ref k1, .ref v1, .int (nI A.1)])), (m1, .inl (cI, L, .inl A.2.1)), (k1, .inl (cI, L, .inl A.2.2.1)), (v1, .inl (cI, L, .inl A.2.2.2)), (t2, .inr (0, [.ref m2, .ref k2, .ref v2, .int (nI B.1)])), (m2, .inl (cI, L, .inl B.2.1)), (k2, .inl (cI, L, .inl B.2.2.1)), (v2, .inl (cI, L, .inl B.2.2.2))] H := hP
  have hD : va_D Aq [(h0, .inr (1, [.int (nI L), .ref t1, .ref t1, .int x3, .int x4, .int x5])), (t1, .inr (0, [.ref m1, .ref k1, .ref v1, .int (nI A.1)])), (m1, .inl (cI, L, .inl A.2.1)), (k1, .inl (cI, L, .inl A.2.2.1)), (v1, .inl (cI, L, .inl A.2.2.2)), (t2, .inr (0, [.ref m2, .ref k2, .ref v2, .int (nI B.1)])), (m2, .inl (cI, L, .inl B.2.1)), (k2, .inl (cI, L, .inl B.2.2.1)), (v2, .inl (cI, L, .inl B.2.2.2))] := hD
  refine lv_aload_n hx hb dX1_startMigration_13 rfl (lv_at hl 1 rfl) ?_
  refine lv_aload_n hx hb dX1_startMigration_14 rfl (lv_at hl 0 rfl) ?_
  refine va_put (D := (dC, dI)) (ci := 1) (v := .ref t2) (ty := (.object "StepMap$Table")) (C := RX1) (T := TX1) (N := 6) hx hb hts hin_X1_startMigration_X1 tyX1 tyX1_ok nmX1 hown hK hP hD hS 0 rfl rfl 1 (by decide) (hts (.fieldLink RX1 22 "StepMap" "newTable" "LStepMap$Table;") (by decide +kernel)) (fun _ h9 => h9) rfl (by decide +kernel) (rfl) (rfl) (Nat.le_of_ble_eq_true rfl) dX1_startMigration_15 (fun H locs hP hD hS => ?_)
  have hP : va_P (dC, dI) vwCl [(h0, .inr (1, [.int (nI L), .ref t2, .ref t1, .int x3, .int x4, .int x5])), (t1, .inr (0, [.ref m1, .ref k1, .ref v1, .int (nI A.1)])), (m1, .inl (cI, L, .inl A.2.1)), (k1, .inl (cI, L, .inl A.2.2.1)), (v1, .inl (cI, L, .inl A.2.2.2)), (t2, .inr (0, [.ref m2, .ref k2, .ref v2, .int (nI B.1)])), (m2, .inl (cI, L, .inl B.2.1)), (k2, .inl (cI, L, .inl B.2.2.1)), (v2, .inl (cI, L, .inl B.2.2.2))] H := hP
  have hD : va_D Aq [(h0, .inr (1, [.int (nI L), .ref t2, .ref t1, .int x3, .int x4, .int x5])), (t1, .inr (0, [.ref m1, .ref k1, .ref v1, .int (nI A.1)])), (m1, .inl (cI, L, .inl A.2.1)), (k1, .inl (cI, L, .inl A.2.2.1)), (v1, .inl (cI, L, .inl A.2.2.2)), (t2, .inr (0, [.ref m2, .ref k2, .ref v2, .int (nI B.1)])), (m2, .inl (cI, L, .inl B.2.1)), (k2, .inl (cI, L, .inl B.2.2.1)), (v2, .inl (cI, L, .inl B.2.2.2))] := hD
  refine lv_aload_n hx hb dX1_startMigration_18 rfl (lv_at hl 1 rfl) ?_
  refine va_get (D := (dC, dI)) (ci := 1) (v := .ref t2) (C := RX1) (T := TX1) (N := 6) hx hb hts hin_X1_startMigration_X1 hown hK hP 0 rfl rfl 1 (by decide) (hts (.fieldLink RX1 22 "StepMap" "newTable" "LStepMap$Table;") (by decide +kernel)) (fun _ h9 => h9) rfl dX1_startMigration_19 ?_
  refine lv_iload_n hx hb dX1_startMigration_22 rfl (lv_at hl 2 rfl) ?_
  refine r_muV (wr := [(h0, .inr (1, [.int (nI L), .ref t2, .ref t1, .int x3, .int x4, .int x5])), (t1, .inr (0, [.ref m1, .ref k1, .ref v1, .int (nI A.1)])), (m1, .inl (cI, L, .inl A.2.1)), (k1, .inl (cI, L, .inl A.2.2.1)), (v1, .inl (cI, L, .inl A.2.2.2))]) (rest := []) S0 (c_X0_clear l dC dI cI t2 m2 k2 v2 L B.1 B.2.1 B.2.2.1 B.2.2.2 q H.size (by assumption) (by omega) (by omega) (by omega)) (cwV 1 hts gX1_startMigration_X0_clear rfl rfl rfl (by decide +kernel) ⟨Nat.le_of_ble_eq_true rfl, Nat.le_of_ble_eq_true rfl⟩) hK hP hD hS hA [5, 6, 7, 8] [0, 1, 2, 3, 4] rfl rfl (by decide) (by decide) (by decide) (ci := 0) (q0 := 0) rfl rfl rfl rfl hl.1 rfl (Nat.le_of_ble_eq_true rfl) dX1_startMigration_23 ⟨Nat.zero_le _, Nat.zero_le _⟩ (fun _ H locs hu hP hD hS => ?_)
  have hP : va_P (dC, dI) vwCl [(h0, .inr (1, [.int (nI L), .ref t2, .ref t1, .int x3, .int x4, .int x5])), (t1, .inr (0, [.ref m1, .ref k1, .ref v1, .int (nI A.1)])), (m1, .inl (cI, L, .inl A.2.1)), (k1, .inl (cI, L, .inl A.2.2.1)), (v1, .inl (cI, L, .inl A.2.2.2)), (t2, .inr (0, [.ref m2, .ref k2, .ref v2, .int (nI q)])), (m2, .inl (cI, L, .inl (q_cl B.2.1 q))), (k2, .inl (cI, L, .inl B.2.2.1)), (v2, .inl (cI, L, .inl B.2.2.2))] H := hP.sub [0, 1, 2, 3, 4, 5, 6, 7, 8] rfl
  have hD : va_D Aq [(h0, .inr (1, [.int (nI L), .ref t2, .ref t1, .int x3, .int x4, .int x5])), (t1, .inr (0, [.ref m1, .ref k1, .ref v1, .int (nI A.1)])), (m1, .inl (cI, L, .inl A.2.1)), (k1, .inl (cI, L, .inl A.2.2.1)), (v1, .inl (cI, L, .inl A.2.2.2)), (t2, .inr (0, [.ref m2, .ref k2, .ref v2, .int (nI q)])), (m2, .inl (cI, L, .inl (q_cl B.2.1 q))), (k2, .inl (cI, L, .inl B.2.2.1)), (v2, .inl (cI, L, .inl B.2.2.2))] := hD.sub [0, 1, 2, 3, 4, 5, 6, 7, 8] (by decide) rfl
  refine lv_aload_n hx hb dX1_startMigration_26 rfl (lv_at hl 1 rfl) ?_
  refine lv_iconst (v := 0) hx hb dX1_startMigration_27 (by decide) ?_
  refine va_put (D := (dC, dI)) (ci := 1) (v := .int 0) (ty := .int) (C := RX1) (T := TX1) (N := 6) hx hb hts hin_X1_startMigration_X1 tyX1 tyX1_ok nmX1 hown hK hP hD hS 0 rfl rfl 3 (by decide) (hts (.fieldLink RX1 32 "StepMap" "nextToMove" "I") (by decide +kernel)) (fun _ h9 => h9) rfl (by decide +kernel) (rfl) (rfl) (Nat.le_of_ble_eq_true rfl) dX1_startMigration_28 (fun H locs hP hD hS => ?_)
  have hP : va_P (dC, dI) vwCl [(h0, .inr (1, [.int (nI L), .ref t2, .ref t1, .int 0, .int x4, .int x5])), (t1, .inr (0, [.ref m1, .ref k1, .ref v1, .int (nI A.1)])), (m1, .inl (cI, L, .inl A.2.1)), (k1, .inl (cI, L, .inl A.2.2.1)), (v1, .inl (cI, L, .inl A.2.2.2)), (t2, .inr (0, [.ref m2, .ref k2, .ref v2, .int (nI q)])), (m2, .inl (cI, L, .inl (q_cl B.2.1 q))), (k2, .inl (cI, L, .inl B.2.2.1)), (v2, .inl (cI, L, .inl B.2.2.2))] H := hP
  have hD : va_D Aq [(h0, .inr (1, [.int (nI L), .ref t2, .ref t1, .int 0, .int x4, .int x5])), (t1, .inr (0, [.ref m1, .ref k1, .ref v1, .int (nI A.1)])), (m1, .inl (cI, L, .inl A.2.1)), (k1, .inl (cI, L, .inl A.2.2.1)), (v1, .inl (cI, L, .inl A.2.2.2)), (t2, .inr (0, [.ref m2, .ref k2, .ref v2, .int (nI q)])), (m2, .inl (cI, L, .inl (q_cl B.2.1 q))), (k2, .inl (cI, L, .inl B.2.2.1)), (v2, .inl (cI, L, .inl B.2.2.2))] := hD
  have e_0_3 : 0 = nI 0 := nI_0.symm
  have hP : va_P (dC, dI) vwCl [(h0, .inr (1, [.int (nI L), .ref t2, .ref t1, .int (nI 0), .int x4, .int x5])), (t1, .inr (0, [.ref m1, .ref k1, .ref v1, .int (nI A.1)])), (m1, .inl (cI, L, .inl A.2.1)), (k1, .inl (cI, L, .inl A.2.2.1)), (v1, .inl (cI, L, .inl A.2.2.2)), (t2, .inr (0, [.ref m2, .ref k2, .ref v2, .int (nI q)])), (m2, .inl (cI, L, .inl (q_cl B.2.1 q))), (k2, .inl (cI, L, .inl B.2.2.1)), (v2, .inl (cI, L, .inl B.2.2.2))] H := by rw [← e_0_3]; exact hP
  have hD : va_D Aq [(h0, .inr (1, [.int (nI L), .ref t2, .ref t1, .int (nI 0), .int x4, .int x5])), (t1, .inr (0, [.ref m1, .ref k1, .ref v1, .int (nI A.1)])), (m1, .inl (cI, L, .inl A.2.1)), (k1, .inl (cI, L, .inl A.2.2.1)), (v1, .inl (cI, L, .inl A.2.2.2)), (t2, .inr (0, [.ref m2, .ref k2, .ref v2, .int (nI q)])), (m2, .inl (cI, L, .inl (q_cl B.2.1 q))), (k2, .inl (cI, L, .inl B.2.2.1)), (v2, .inl (cI, L, .inl B.2.2.2))] := by rw [← e_0_3]; exact hD
  exact W.vret hx hb hr (fun t ht hW => ⟨⟨(), rfl, trivial, by rw [ht]; exact hP, va_K.moved hW.alike hK, hD⟩, hS.F ht⟩) hS.2.2 dX1_startMigration_31
set_option maxHeartbeats 4000000 in
set_option maxRecDepth 100000 in
theorem lp_X1_freeInNew {p : Program} {l : Launch} {e : Env} {s : State} {m : MethodId} {args : Array Value} {below : List Frame} {meth : Method} {c : Code} {Q : State → Prop} {dC : Nat → ClassId} {dI : Nat → Nat → Nat} {cI : ClassId} {Aq : Nat → Prop} {H0 : Heap} (S0 : CallFix p m c cX1_freeInNew 5 s args wsX1_freeInNew RX1) (hK : va_K (dC, dI) vwCl [(cI, .int)] s) (hA : ∀ q : Nat, H0.size ≤ q → Aq q) (h0 t1 m1 k1 v1 t2 L : Nat) (x0 x3 x4 : Int32) (RT : q_TB) (RW : Nat) (hL : L ≤ 1024)
    (kk : ∀ (H : Heap) (locs : List Loc) (ls : Array Slot), va_P (dC, dI) vwCl [(h0, .inr (1, [.int x0, .ref t1, .ref t2, .int x3, .int x4, .int (nI RW)])), (t1, .inr (0, [.ref m1, .ref k1, .ref v1, .int (nI RT.1)])), (m1, .inl (cI, L, .inl RT.2.1)), (k1, .inl (cI, L, .inl RT.2.2.1)), (v1, .inl (cI, L, .inl RT.2.2.2))] H → va_D Aq [(h0, .inr (1, [.int x0, .ref t1, .ref t2, .int x3, .int x4, .int (nI RW)])), (t1, .inr (0, [.ref m1, .ref k1, .ref v1, .int (nI RT.1)])), (m1, .inl (cI, L, .inl RT.2.1)), (k1, .inl (cI, L, .inl RT.2.2.1)), (v1, .inl (cI, L, .inl RT.2.2.2))] → va_S Aq H0 H locs → lv_has ls 5 [(0, .ref h0)] → W p l e ({ frames := 2, cells := 0, slots := 0, locals := 45 }) s m args below meth c H locs 0 0 Q (F0 m 106 ls [])) :
    ∀ (f : Nat) (fr i s2 w : Nat) (X : q_TB), s2 + f = X.1 ∧ q_pw X.1 ∧ X.1 ≤ L ∧ fr < X.1 ∧ i < X.1 ∧ (q_fz f X fr i).1 = RT ∧ w + (q_fz f X fr i).2 = RW → ∀ (H : Heap) (locs : List Loc) (ls : Array Slot), va_P (dC, dI) vwCl [(h0, .inr (1, [.int x0, .ref t1, .ref t2, .int x3, .int x4, .int (nI w)])), (t1, .inr (0, [.ref m1, .ref k1, .ref v1, .int (nI X.1)])), (m1, .inl (cI, L, .inl X.2.1)), (k1, .inl (cI, L, .inl X.2.2.1)), (v1, .inl (cI, L, .inl X.2.2.2))] H → va_D Aq [(h0, .inr (1, [.int x0, .ref t1, .ref t2, .int x3, .int x4, .int (nI w)])), (t1, .inr (0, [.ref m1, .ref k1, .ref v1, .int (nI X.1)])), (m1, .inl (cI, L, .inl X.2.1)), (k1, .inl (cI, L, .inl X.2.2.1)), (v1, .inl (cI, L, .inl X.2.2.2))] → va_S Aq H0 H locs → lv_has ls 5 [(0, .ref h0), (2, .int (nI fr)), (3, .int (nI i)), (4, .int (nI s2))] → W p l e ({ frames := 2, cells := 0, slots := 0, locals := 45 }) s m args below meth c H locs 0 0 Q (F0 m 34 ls []) := by
  obtain ⟨hx, hb, hml, hown, hts⟩ := id S0
  intro f
  induction f with
  | zero =>
    intro fr i s2 w X hi H locs ls hP hD hS hl
    obtain ⟨h1, h2, h3, h4, h5, h6, h7⟩ := hi
    have hX8 := q_pw_8 h2
    refine lv_iload hx hb dX1_freeInNew_34 (lv_at hl 3 rfl) ?_
    refine lv_aload_n hx hb dX1_freeInNew_36 rfl (lv_at hl 0 rfl) ?_
    refine va_get (D := (dC, dI)) (ci := 1) (v := .ref t1) (C := RX1) (T := TX1) (N := 6) hx hb hts hin_X1_freeInNew_X1 hown hK hP 0 rfl rfl 1 (by decide) (hts (.fieldLink RX1 22 "StepMap" "newTable" "LStepMap$Table;") (by decide +kernel)) (fun _ h9 => h9) rfl dX1_freeInNew_37 ?_
    refine va_get (D := (dC, dI)) (ci := 0) (v := .int (nI X.1)) (C := RX0) (T := TX0) (N := 4) hx hb hts hin_X1_freeInNew_X0 hown hK hP 1 rfl rfl 3 (by decide) (hts (.fieldLink RX1 69 "StepMap$Table" "slots" "I") (by decide +kernel)) (fun _ h9 => h9) rfl dX1_freeInNew_40 ?_
    refine lv_icmp_ge (tgt := 106) hx hb dX1_freeInNew_43 (by decide) (fun c_43 => ?_) (fun c_43 => ?_)
    · have h_43 := q_le_t (a := X.1) (b := s2) (by omega) (by omega) c_43
      have e1 : X = RT := h6
      have e2 : w = RW := h7
      subst e1
      subst e2
      exact kk H locs ls hP hD hS (lv_sub hl [0] rfl)
    · have h_43 := q_le_f (a := X.1) (b := s2) (by omega) (by omega) c_43
      omega
  | succ f ih =>
    intro fr i s2 w X hi H locs ls hP hD hS hl
    obtain ⟨h1, h2, h3, h4, h5, h6, h7⟩ := hi
    have hX8 := q_pw_8 h2
    refine lv_iload hx hb dX1_freeInNew_34 (lv_at hl 3 rfl) ?_
    refine lv_aload_n hx hb dX1_freeInNew_36 rfl (lv_at hl 0 rfl) ?_
    refine va_get (D := (dC, dI)) (ci := 1) (v := .ref t1) (C := RX1) (T := TX1) (N := 6) hx hb hts hin_X1_freeInNew_X1 hown hK hP 0 rfl rfl 1 (by decide) (hts (.fieldLink RX1 22 "StepMap" "newTable" "LStepMap$Table;") (by decide +kernel)) (fun _ h9 => h9) rfl dX1_freeInNew_37 ?_
    refine va_get (D := (dC, dI)) (ci := 0) (v := .int (nI X.1)) (C := RX0) (T := TX0) (N := 4) hx hb hts hin_X1_freeInNew_X0 hown hK hP 1 rfl rfl 3 (by decide) (hts (.fieldLink RX1 69 "StepMap$Table" "slots" "I") (by decide +kernel)) (fun _ h9 => h9) rfl dX1_freeInNew_40 ?_
    refine lv_icmp_ge (tgt := 106) hx hb dX1_freeInNew_43 (by decide) (fun c_43 => ?_) (fun c_43 => ?_)
    · have h_43 := q_le_t (a := X.1) (b := s2) (by omega) (by omega) c_43
      omega
    · have h_43 := q_le_f (a := X.1) (b := s2) (by omega) (by omega) c_43
      refine lv_aload_n hx hb dX1_freeInNew_46 rfl (lv_at hl 0 rfl) ?_
      refine va_get (D := (dC, dI)) (ci := 1) (v := .ref t1) (C := RX1) (T := TX1) (N := 6) hx hb hts hin_X1_freeInNew_X1 hown hK hP 0 rfl rfl 1 (by decide) (hts (.fieldLink RX1 22 "StepMap" "newTable" "LStepMap$Table;") (by decide +kernel)) (fun _ h9 => h9) rfl dX1_freeInNew_47 ?_
      refine va_get (D := (dC, dI)) (ci := 0) (v := .ref m1) (C := RX0) (T := TX0) (N := 4) hx hb hts hin_X1_freeInNew_X0 hown hK hP 1 rfl rfl 0 (by decide) (hts (.fieldLink RX1 63 "StepMap$Table" "marks" "[I") (by decide +kernel)) (fun _ h9 => h9) rfl dX1_freeInNew_50 ?_
      refine lv_iload_n hx hb dX1_freeInNew_53 rfl (lv_at hl 2 rfl) ?_
      refine r_ld (i := i) hx hb hK hP 2 0 rfl rfl (by omega) (by omega) dX1_freeInNew_54 ?_
      refine lv_if_eq (tgt := 106) hx hb dX1_freeInNew_55 (by decide) (fun c_55 => ?_) (fun c_55 => ?_)
      · rw [q_fz_0 c_55] at h6 h7
        have e1 : X = RT := h6
        have e2 : w = RW := h7
        subst e1
        subst e2
        exact kk H locs ls hP hD hS (lv_sub hl [0] rfl)
      · refine lv_aload_n hx hb dX1_freeInNew_58 rfl (lv_at hl 0 rfl) ?_
        refine va_get (D := (dC, dI)) (ci := 1) (v := .ref t1) (C := RX1) (T := TX1) (N := 6) hx hb hts hin_X1_freeInNew_X1 hown hK hP 0 rfl rfl 1 (by decide) (hts (.fieldLink RX1 22 "StepMap" "newTable" "LStepMap$Table;") (by decide +kernel)) (fun _ h9 => h9) rfl dX1_freeInNew_59 ?_
        refine lv_iload_n hx hb dX1_freeInNew_62 rfl (lv_at hl 2 rfl) ?_
        refine lv_iload_n hx hb dX1_freeInNew_63 rfl (lv_at hl 1 rfl) ?_
        refine r_roV (rest := []) S0 (c_X0_reachesBack l dC dI cI t1 m1 k1 v1 L X.1 X.2.1 X.2.2.1 X.2.2.2 i fr (by assumption) (by omega) (by omega) (by omega) (by omega)) (cwV 2 hts gX1_freeInNew_X0_reachesBack rfl rfl rfl (by decide +kernel) ⟨Nat.le_of_ble_eq_true rfl, Nat.le_of_ble_eq_true rfl⟩) hK hP [1, 2, 3, 4] rfl (ci := 0) (q0 := 0) rfl rfl rfl rfl hl.1 rfl (Nat.le_of_ble_eq_true rfl) dX1_freeInNew_64 ⟨Nat.zero_le _, Nat.zero_le _⟩ ?_
        refine lv_if_eq (tgt := 81) hx hb dX1_freeInNew_67 (by decide) (fun c_67 => ?_) (fun c_67 => ?_)
        · have h_67 : ¬ (q_rd X.1 fr i ≤ q_rd X.1 (q_hm X.1 (X.2.2.1 i)) i) := q_b_0.mp c_67
          refine lv_aload_n hx hb dX1_freeInNew_81 rfl (lv_at hl 0 rfl) ?_
          refine va_get (D := (dC, dI)) (ci := 1) (v := .ref t1) (C := RX1) (T := TX1) (N := 6) hx hb hts hin_X1_freeInNew_X1 hown hK hP 0 rfl rfl 1 (by decide) (hts (.fieldLink RX1 22 "StepMap" "newTable" "LStepMap$Table;") (by decide +kernel)) (fun _ h9 => h9) rfl dX1_freeInNew_82 ?_
          refine lv_iload_n hx hb dX1_freeInNew_85 rfl (lv_at hl 2 rfl) ?_
          refine r_roV (rest := []) S0 (c_X0_next l dC dI cI t1 m1 k1 v1 L X.1 X.2.1 X.2.2.1 X.2.2.2 i (by assumption) (by omega) (by omega) (by omega)) (cwV 1 hts gX1_freeInNew_X0_next rfl rfl rfl (by decide +kernel) ⟨Nat.le_of_ble_eq_true rfl, Nat.le_of_ble_eq_true rfl⟩) hK hP [1, 2, 3, 4] rfl (ci := 0) (q0 := 0) rfl rfl rfl rfl hl.1 rfl (Nat.le_of_ble_eq_true rfl) dX1_freeInNew_86 ⟨Nat.zero_le _, Nat.zero_le _⟩ ?_
          refine lv_istore_n (lv' := [(3, .int (nI (q_ad X.1 i 1))), (0, .ref h0), (2, .int (nI fr)), (4, .int (nI s2))]) hx hb dX1_freeInNew_89 rfl hl (by decide) rfl (fun ls hl => ?_)
          refine lv_aload_n hx hb dX1_freeInNew_90 rfl (lv_at hl 1 rfl) ?_
          refine lv_dup hx hb dX1_freeInNew_91 rfl ?_
          refine va_get (D := (dC, dI)) (ci := 1) (v := .int (nI w)) (C := RX1) (T := TX1) (N := 6) hx hb hts hin_X1_freeInNew_X1 hown hK hP 0 rfl rfl 5 (by decide) (hts (.fieldLink RX1 35 "StepMap" "work" "I") (by decide +kernel)) (fun _ h9 => h9) rfl dX1_freeInNew_92 ?_
          refine lv_iconst (v := 1) hx hb dX1_freeInNew_95 (by decide) ?_
          refine lv_iadd hx hb dX1_freeInNew_96 ?_
          refine r_eq (z := nI (w + 1)) (nI_add w 1) ?_
          refine va_put (D := (dC, dI)) (ci := 1) (v := .int (nI (w + 1))) (ty := .int) (C := RX1) (T := TX1) (N := 6) hx hb hts hin_X1_freeInNew_X1 tyX1 tyX1_ok nmX1 hown hK hP hD hS 0 rfl rfl 5 (by decide) (hts (.fieldLink RX1 35 "StepMap" "work" "I") (by decide +kernel)) (fun _ h9 => h9) rfl (by decide +kernel) (rfl) (rfl) (Nat.le_of_ble_eq_true rfl) dX1_freeInNew_97 (fun H locs hP hD hS => ?_)
          have hP : va_P (dC, dI) vwCl [(h0, .inr (1, [.int x0, .ref t1, .ref t2, .int x3, .int x4, .int (nI (w + 1))])), (t1, .inr (0, [.ref m1, .ref k1, .ref v1, .int (nI X.1)])), (m1, .inl (cI, L, .inl X.2.1)), (k1, .inl (cI, L, .inl X.2.2.1)), (v1, .inl (cI, L, .inl X.2.2.2))] H := hP
          have hD : va_D Aq [(h0, .inr (1, [.int x0, .ref t1, .ref t2, .int x3, .int x4, .int (nI (w + 1))])), (t1, .inr (0, [.ref m1, .ref k1, .ref v1, .int (nI X.1)])), (m1, .inl (cI, L, .inl X.2.1)), (k1, .inl (cI, L, .inl X.2.2.1)), (v1, .inl (cI, L, .inl X.2.2.2))] := hD
          refine lv_iinc (v := nI (s2 + 1)) (lv' := [(4, .int (nI (s2 + 1))), (3, .int (nI (q_ad X.1 i 1))), (0, .ref h0), (2, .int (nI fr))]) hx hb dX1_freeInNew_100 hl (k := 3) rfl (nI_1 _) (by decide) rfl (fun ls hl => ?_)
          refine lv_goto (tgt := 34) hx hb dX1_freeInNew_103 (by decide) ?_
          have h6 : (q_fz f X fr (q_ad X.1 i 1)).1 = RT := by rw [q_fz_2 c_55 h_67] at h6; exact h6
          have h7 : w + ((q_fz f X fr (q_ad X.1 i 1)).2 + 1) = RW := by rw [q_fz_2 c_55 h_67] at h7; exact h7
          exact ih fr (q_ad X.1 i 1) (s2 + 1) (w + 1) X ⟨(show s2 + 1 + f = X.1 by omega), h2, h3, h4, q_ad_lt h5 (by omega), h6, by omega⟩ H locs ls hP hD hS (lv_sub hl [2, 3, 1, 0] rfl)
        · have h_67 : (q_rd X.1 fr i ≤ q_rd X.1 (q_hm X.1 (X.2.2.1 i)) i) := q_b_n0 c_67
          refine lv_aload_n hx hb dX1_freeInNew_70 rfl (lv_at hl 0 rfl) ?_
          refine va_get (D := (dC, dI)) (ci := 1) (v := .ref t1) (C := RX1) (T := TX1) (N := 6) hx hb hts hin_X1_freeInNew_X1 hown hK hP 0 rfl rfl 1 (by decide) (hts (.fieldLink RX1 22 "StepMap" "newTable" "LStepMap$Table;") (by decide +kernel)) (fun _ h9 => h9) rfl dX1_freeInNew_71 ?_
          refine lv_iload_n hx hb dX1_freeInNew_74 rfl (lv_at hl 2 rfl) ?_
          refine lv_iload_n hx hb dX1_freeInNew_75 rfl (lv_at hl 1 rfl) ?_
          refine r_muV (wr := [(h0, .inr (1, [.int x0, .ref t1, .ref t2, .int x3, .int x4, .int (nI w)]))]) (rest := []) S0 (c_X0_shift l dC dI cI t1 m1 k1 v1 L X.1 X.2.1 X.2.2.1 X.2.2.2 i fr H.size (by assumption) (by omega) (by omega) (by omega) (by omega)) (cwV 2 hts gX1_freeInNew_X0_shift rfl rfl rfl (by decide +kernel) ⟨Nat.le_of_ble_eq_true rfl, Nat.le_of_ble_eq_true rfl⟩) hK hP hD hS hA [1, 2, 3, 4] [0] rfl rfl (by decide) (by decide) (by decide) (ci := 0) (q0 := 0) rfl rfl rfl rfl hl.1 rfl (Nat.le_of_ble_eq_true rfl) dX1_freeInNew_76 ⟨Nat.zero_le _, Nat.zero_le _⟩ (fun _ H locs hu hP hD hS => ?_)
          have hP : va_P (dC, dI) vwCl [(h0, .inr (1, [.int x0, .ref t1, .ref t2, .int x3, .int x4, .int (nI w)])), (t1, .inr (0, [.ref m1, .ref k1, .ref v1, .int (nI X.1)])), (m1, .inl (cI, L, .inl (upd (upd X.2.1 fr 2) i 0))), (k1, .inl (cI, L, .inl (upd X.2.2.1 fr (X.2.2.1 i)))), (v1, .inl (cI, L, .inl (upd X.2.2.2 fr (X.2.2.2 i))))] H := hP.sub [0, 1, 2, 3, 4] rfl
          have hD : va_D Aq [(h0, .inr (1, [.int x0, .ref t1, .ref t2, .int x3, .int x4, .int (nI w)])), (t1, .inr (0, [.ref m1, .ref k1, .ref v1, .int (nI X.1)])), (m1, .inl (cI, L, .inl (upd (upd X.2.1 fr 2) i 0))), (k1, .inl (cI, L, .inl (upd X.2.2.1 fr (X.2.2.1 i)))), (v1, .inl (cI, L, .inl (upd X.2.2.2 fr (X.2.2.2 i))))] := hD.sub [0, 1, 2, 3, 4] (by decide) rfl
          refine lv_iload_n hx hb dX1_freeInNew_79 rfl (lv_at hl 2 rfl) ?_
          refine lv_istore_n (lv' := [(2, .int (nI i)), (0, .ref h0), (3, .int (nI i)), (4, .int (nI s2))]) hx hb dX1_freeInNew_80 rfl hl (by decide) rfl (fun ls hl => ?_)
          refine lv_aload_n hx hb dX1_freeInNew_81 rfl (lv_at hl 1 rfl) ?_
          refine va_get (D := (dC, dI)) (ci := 1) (v := .ref t1) (C := RX1) (T := TX1) (N := 6) hx hb hts hin_X1_freeInNew_X1 hown hK hP 0 rfl rfl 1 (by decide) (hts (.fieldLink RX1 22 "StepMap" "newTable" "LStepMap$Table;") (by decide +kernel)) (fun _ h9 => h9) rfl dX1_freeInNew_82 ?_
          refine lv_iload_n hx hb dX1_freeInNew_85 rfl (lv_at hl 2 rfl) ?_
          refine r_roV (rest := []) S0 (c_X0_next l dC dI cI t1 m1 k1 v1 L X.1 (upd (upd X.2.1 fr 2) i 0) (upd X.2.2.1 fr (X.2.2.1 i)) (upd X.2.2.2 fr (X.2.2.2 i)) i (by assumption) (by omega) (by omega) (by omega)) (cwV 1 hts gX1_freeInNew_X0_next rfl rfl rfl (by decide +kernel) ⟨Nat.le_of_ble_eq_true rfl, Nat.le_of_ble_eq_true rfl⟩) hK hP [1, 2, 3, 4] rfl (ci := 0) (q0 := 0) rfl rfl rfl rfl hl.1 rfl (Nat.le_of_ble_eq_true rfl) dX1_freeInNew_86 ⟨Nat.zero_le _, Nat.zero_le _⟩ ?_
          refine lv_istore_n (lv' := [(3, .int (nI (q_ad X.1 i 1))), (2, .int (nI i)), (0, .ref h0), (4, .int (nI s2))]) hx hb dX1_freeInNew_89 rfl hl (by decide) rfl (fun ls hl => ?_)
          refine lv_aload_n hx hb dX1_freeInNew_90 rfl (lv_at hl 2 rfl) ?_
          refine lv_dup hx hb dX1_freeInNew_91 rfl ?_
          refine va_get (D := (dC, dI)) (ci := 1) (v := .int (nI w)) (C := RX1) (T := TX1) (N := 6) hx hb hts hin_X1_freeInNew_X1 hown hK hP 0 rfl rfl 5 (by decide) (hts (.fieldLink RX1 35 "StepMap" "work" "I") (by decide +kernel)) (fun _ h9 => h9) rfl dX1_freeInNew_92 ?_
          refine lv_iconst (v := 1) hx hb dX1_freeInNew_95 (by decide) ?_
          refine lv_iadd hx hb dX1_freeInNew_96 ?_
          refine r_eq (z := nI (w + 1)) (nI_add w 1) ?_
          refine va_put (D := (dC, dI)) (ci := 1) (v := .int (nI (w + 1))) (ty := .int) (C := RX1) (T := TX1) (N := 6) hx hb hts hin_X1_freeInNew_X1 tyX1 tyX1_ok nmX1 hown hK hP hD hS 0 rfl rfl 5 (by decide) (hts (.fieldLink RX1 35 "StepMap" "work" "I") (by decide +kernel)) (fun _ h9 => h9) rfl (by decide +kernel) (rfl) (rfl) (Nat.le_of_ble_eq_true rfl) dX1_freeInNew_97 (fun H locs hP hD hS => ?_)
          have hP : va_P (dC, dI) vwCl [(h0, .inr (1, [.int x0, .ref t1, .ref t2, .int x3, .int x4, .int (nI (w + 1))])), (t1, .inr (0, [.ref m1, .ref k1, .ref v1, .int (nI X.1)])), (m1, .inl (cI, L, .inl (upd (upd X.2.1 fr 2) i 0))), (k1, .inl (cI, L, .inl (upd X.2.2.1 fr (X.2.2.1 i)))), (v1, .inl (cI, L, .inl (upd X.2.2.2 fr (X.2.2.2 i))))] H := hP
          have hD : va_D Aq [(h0, .inr (1, [.int x0, .ref t1, .ref t2, .int x3, .int x4, .int (nI (w + 1))])), (t1, .inr (0, [.ref m1, .ref k1, .ref v1, .int (nI X.1)])), (m1, .inl (cI, L, .inl (upd (upd X.2.1 fr 2) i 0))), (k1, .inl (cI, L, .inl (upd X.2.2.1 fr (X.2.2.1 i)))), (v1, .inl (cI, L, .inl (upd X.2.2.2 fr (X.2.2.2 i))))] := hD
          refine lv_iinc (v := nI (s2 + 1)) (lv' := [(4, .int (nI (s2 + 1))), (3, .int (nI (q_ad X.1 i 1))), (2, .int (nI i)), (0, .ref h0)]) hx hb dX1_freeInNew_100 hl (k := 3) rfl (nI_1 _) (by decide) rfl (fun ls hl => ?_)
          refine lv_goto (tgt := 34) hx hb dX1_freeInNew_103 (by decide) ?_
          have h6 : (q_fz f (q_sh X i fr) i (q_ad X.1 i 1)).1 = RT := by rw [q_fz_1 c_55 h_67] at h6; exact h6
          have h7 : w + ((q_fz f (q_sh X i fr) i (q_ad X.1 i 1)).2 + 1) = RW := by rw [q_fz_1 c_55 h_67] at h7; exact h7
          exact ih i (q_ad X.1 i 1) (s2 + 1) (w + 1) (q_sh X i fr) ⟨(show s2 + 1 + f = X.1 by omega), h2, h3, h5, q_ad_lt h5 (by omega), h6, by omega⟩ H locs ls hP hD hS (lv_sub hl [3, 2, 1, 0] rfl)
set_option maxHeartbeats 4000000 in
set_option maxRecDepth 100000 in
theorem c_X1_freeInNew (l : Launch) (dC : Nat → ClassId) (dI : Nat → Nat → Nat) (cI : ClassId) (h0 t1 m1 k1 v1 t2 L : Nat) (x0 x3 x4 : Int32) (w : Nat) (A : q_TB) (e9 : Nat) (sz : Nat) (hpA : q_pw A.1) (hAL : A.1 ≤ L) (hL : L ≤ 1024) (he9 : e9 < A.1) : Met l yX1_freeInNew wsX1_freeInNew ({ frames := 2, cells := 0, slots := 0, locals := 45 }) (r_Mc (dC, dI) vwCl [(cI, .int)] [(h0, .inr (1, [.int x0, .ref t1, .ref t2, .int x3, .int x4, .int (nI w)])), (t1, .inr (0, [.ref m1, .ref k1, .ref v1, .int (nI A.1)])), (m1, .inl (cI, L, .inl A.2.1)), (k1, .inl (cI, L, .inl A.2.2.1)), (v1, .inl (cI, L, .inl A.2.2.2))] sz [.ref h0, .int (nI e9)]) (va_Qv (fun (_ : Unit) => True) (fun u t => r_B (dC, dI) vwCl [(cI, .int)] (va_A [(h0, .inr (1, [.int x0, .ref t1, .ref t2, .int x3, .int x4, .int (nI w)])), (t1, .inr (0, [.ref m1, .ref k1, .ref v1, .int (nI A.1)])), (m1, .inl (cI, L, .inl A.2.1)), (k1, .inl (cI, L, .inl A.2.2.1)), (v1, .inl (cI, L, .inl A.2.2.2))] sz) ((fun _ => [(h0, .inr (1, [.int x0, .ref t1, .ref t2, .int x3, .int x4, .int (nI (w + ((q_fr A e9).2 + 1)))])), (t1, .inr (0, [.ref m1, .ref k1, .ref v1, .int (nI ((q_fr A e9).1.1))])), (m1, .inl (cI, L, .inl ((q_fr A e9).1.2.1))), (k1, .inl (cI, L, .inl ((q_fr A e9).1.2.2.1))), (v1, .inl (cI, L, .inl ((q_fr A e9).1.2.2.2)))]) u) t) (va_A [(h0, .inr (1, [.int x0, .ref t1, .ref t2, .int x3, .int x4, .int (nI w)])), (t1, .inr (0, [.ref m1, .ref k1, .ref v1, .int (nI A.1)])), (m1, .inl (cI, L, .inl A.2.1)), (k1, .inl (cI, L, .inl A.2.2.1)), (v1, .inl (cI, L, .inl A.2.2.2))] sz)) 0 0 (va_A [(h0, .inr (1, [.int x0, .ref t1, .ref t2, .int x3, .int x4, .int (nI w)])), (t1, .inr (0, [.ref m1, .ref k1, .ref v1, .int (nI A.1)])), (m1, .inl (cI, L, .inl A.2.1)), (k1, .inl (cI, L, .inl A.2.2.1)), (v1, .inl (cI, L, .inl A.2.2.2))] sz) := by
  refine Met.ofW (cc := cX1_freeInNew) (maxL := 5) (ret := none) (by decide) rfl ?_
  intro p e s m args below meth c s₁ Bd hml hv
  obtain ⟨rfl, hsz, hP, hK, hD0⟩ := hv
  have hx := Bd.exec
  have hb := Bd.bytes
  have hr := Bd.returns
  have hts := atoms_spec (ws := wsX1_freeInNew) Bd.pre
  have hown : s.vm.findClass RX1 = some m.cls := findClass_of_methodNamed Bd.named
  have hlocks := Bd.notSynchronized
  have S0 : CallFix p m c cX1_freeInNew 5 s _ wsX1_freeInNew RX1 := ⟨hx, hb, hml, hown, hts⟩
  subst hsz
  have hD := hD0.self (sz := s.heap.size)
  generalize hAe : va_A [(h0, .inr (1, [.int x0, .ref t1, .ref t2, .int x3, .int x4, .int (nI w)])), (t1, .inr (0, [.ref m1, .ref k1, .ref v1, .int (nI A.1)])), (m1, .inl (cI, L, .inl A.2.1)), (k1, .inl (cI, L, .inl A.2.2.1)), (v1, .inl (cI, L, .inl A.2.2.2))] s.heap.size = Aq at hD ⊢
  have hA : ∀ q : Nat, s.heap.size ≤ q → Aq q := fun q h => by rw [← hAe]; exact Or.inr h
  have hS : va_S Aq s.heap s.heap [] := va_S.rf
  have hD : va_D Aq [(h0, .inr (1, [.int x0, .ref t1, .ref t2, .int x3, .int x4, .int (nI w)])), (t1, .inr (0, [.ref m1, .ref k1, .ref v1, .int (nI A.1)])), (m1, .inl (cI, L, .inl A.2.1)), (k1, .inl (cI, L, .inl A.2.2.1)), (v1, .inl (cI, L, .inl A.2.2.2))] := hD
  have hP : va_P (dC, dI) vwCl [(h0, .inr (1, [.int x0, .ref t1, .ref t2, .int x3, .int x4, .int (nI w)])), (t1, .inr (0, [.ref m1, .ref k1, .ref v1, .int (nI A.1)])), (m1, .inl (cI, L, .inl A.2.1)), (k1, .inl (cI, L, .inl A.2.2.1)), (v1, .inl (cI, L, .inl A.2.2.2))] s.heap := hP
  have hl := lv_entry ([.ref h0, .int (nI e9)]) (n := 5) (Nat.le_of_ble_eq_true rfl)
  rw [lg_entry_eq]
  generalize (lg_sl ([.ref h0, .int (nI e9)]) ++ List.replicate (5 - (lg_sl ([.ref h0, .int (nI e9)])).length) Slot.unset).toArray = ls at hl ⊢
  have hl : lv_has ls 5 [(0, .ref h0), (1, .int (nI e9))] := hl
  have hA8 := q_pw_8 hpA
  refine lv_iload_n hx hb dX1_freeInNew_0 rfl (lv_at hl 1 rfl) ?_
  refine lv_istore_n (lv' := [(2, .int (nI e9)), (0, .ref h0), (1, .int (nI e9))]) hx hb dX1_freeInNew_1 rfl hl (by decide) rfl (fun ls hl => ?_)
  refine lv_aload_n hx hb dX1_freeInNew_2 rfl (lv_at hl 1 rfl) ?_
  refine va_get (D := (dC, dI)) (ci := 1) (v := .ref t1) (C := RX1) (T := TX1) (N := 6) hx hb hts hin_X1_freeInNew_X1 hown hK hP 0 rfl rfl 1 (by decide) (hts (.fieldLink RX1 22 "StepMap" "newTable" "LStepMap$Table;") (by decide +kernel)) (fun _ h9 => h9) rfl dX1_freeInNew_3 ?_
  refine va_get (D := (dC, dI)) (ci := 0) (v := .ref m1) (C := RX0) (T := TX0) (N := 4) hx hb hts hin_X1_freeInNew_X0 hown hK hP 1 rfl rfl 0 (by decide) (hts (.fieldLink RX1 63 "StepMap$Table" "marks" "[I") (by decide +kernel)) (fun _ h9 => h9) rfl dX1_freeInNew_6 ?_
  refine lv_iload_n hx hb dX1_freeInNew_9 rfl (lv_at hl 0 rfl) ?_
  refine lv_iconst (v := 0) hx hb dX1_freeInNew_10 (by decide) ?_
  refine r_st (i := e9) hx hb hK hP hD hS 2 0 rfl rfl (by omega) (by omega) dX1_freeInNew_11 (fun H locs hP hD hS => ?_)
  have hP : va_P (dC, dI) vwCl [(h0, .inr (1, [.int x0, .ref t1, .ref t2, .int x3, .int x4, .int (nI w)])), (t1, .inr (0, [.ref m1, .ref k1, .ref v1, .int (nI A.1)])), (m1, .inl (cI, L, .inl (upd A.2.1 e9 0))), (k1, .inl (cI, L, .inl A.2.2.1)), (v1, .inl (cI, L, .inl A.2.2.2))] H := hP
  have hD : va_D Aq [(h0, .inr (1, [.int x0, .ref t1, .ref t2, .int x3, .int x4, .int (nI w)])), (t1, .inr (0, [.ref m1, .ref k1, .ref v1, .int (nI A.1)])), (m1, .inl (cI, L, .inl (upd A.2.1 e9 0))), (k1, .inl (cI, L, .inl A.2.2.1)), (v1, .inl (cI, L, .inl A.2.2.2))] := hD
  refine lv_aload_n hx hb dX1_freeInNew_12 rfl (lv_at hl 1 rfl) ?_
  refine va_get (D := (dC, dI)) (ci := 1) (v := .ref t1) (C := RX1) (T := TX1) (N := 6) hx hb hts hin_X1_freeInNew_X1 hown hK hP 0 rfl rfl 1 (by decide) (hts (.fieldLink RX1 22 "StepMap" "newTable" "LStepMap$Table;") (by decide +kernel)) (fun _ h9 => h9) rfl dX1_freeInNew_13 ?_
  refine lv_iload_n hx hb dX1_freeInNew_16 rfl (lv_at hl 0 rfl) ?_
  refine r_roV (rest := []) S0 (c_X0_next l dC dI cI t1 m1 k1 v1 L A.1 (upd A.2.1 e9 0) A.2.2.1 A.2.2.2 e9 (by assumption) (by omega) (by omega) (by omega)) (cwV 1 hts gX1_freeInNew_X0_next rfl rfl rfl (by decide +kernel) ⟨Nat.le_of_ble_eq_true rfl, Nat.le_of_ble_eq_true rfl⟩) hK hP [1, 2, 3, 4] rfl (ci := 0) (q0 := 0) rfl rfl rfl rfl hl.1 rfl (Nat.le_of_ble_eq_true rfl) dX1_freeInNew_17 ⟨Nat.zero_le _, Nat.zero_le _⟩ ?_
  refine lv_istore_n (lv' := [(3, .int (nI (q_ad A.1 e9 1))), (2, .int (nI e9)), (0, .ref h0), (1, .int (nI e9))]) hx hb dX1_freeInNew_20 rfl hl (by decide) rfl (fun ls hl => ?_)
  refine lv_aload_n hx hb dX1_freeInNew_21 rfl (lv_at hl 2 rfl) ?_
  refine lv_dup hx hb dX1_freeInNew_22 rfl ?_
  refine va_get (D := (dC, dI)) (ci := 1) (v := .int (nI w)) (C := RX1) (T := TX1) (N := 6) hx hb hts hin_X1_freeInNew_X1 hown hK hP 0 rfl rfl 5 (by decide) (hts (.fieldLink RX1 35 "StepMap" "work" "I") (by decide +kernel)) (fun _ h9 => h9) rfl dX1_freeInNew_23 ?_
  refine lv_iconst (v := 1) hx hb dX1_freeInNew_26 (by decide) ?_
  refine lv_iadd hx hb dX1_freeInNew_27 ?_
  refine r_eq (z := nI (w + 1)) (nI_add w 1) ?_
  refine va_put (D := (dC, dI)) (ci := 1) (v := .int (nI (w + 1))) (ty := .int) (C := RX1) (T := TX1) (N := 6) hx hb hts hin_X1_freeInNew_X1 tyX1 tyX1_ok nmX1 hown hK hP hD hS 0 rfl rfl 5 (by decide) (hts (.fieldLink RX1 35 "StepMap" "work" "I") (by decide +kernel)) (fun _ h9 => h9) rfl (by decide +kernel) (rfl) (rfl) (Nat.le_of_ble_eq_true rfl) dX1_freeInNew_28 (fun H locs hP hD hS => ?_)
  have hP : va_P (dC, dI) vwCl [(h0, .inr (1, [.int x0, .ref t1, .ref t2, .int x3, .int x4, .int (nI (w + 1))])), (t1, .inr (0, [.ref m1, .ref k1, .ref v1, .int (nI A.1)])), (m1, .inl (cI, L, .inl (upd A.2.1 e9 0))), (k1, .inl (cI, L, .inl A.2.2.1)), (v1, .inl (cI, L, .inl A.2.2.2))] H := hP
  have hD : va_D Aq [(h0, .inr (1, [.int x0, .ref t1, .ref t2, .int x3, .int x4, .int (nI (w + 1))])), (t1, .inr (0, [.ref m1, .ref k1, .ref v1, .int (nI A.1)])), (m1, .inl (cI, L, .inl (upd A.2.1 e9 0))), (k1, .inl (cI, L, .inl A.2.2.1)), (v1, .inl (cI, L, .inl A.2.2.2))] := hD
  refine lv_iconst (v := 1) hx hb dX1_freeInNew_31 (by decide) ?_
  refine lv_istore (lv' := [(4, .int 1), (3, .int (nI (q_ad A.1 e9 1))), (2, .int (nI e9)), (0, .ref h0), (1, .int (nI e9))]) hx hb dX1_freeInNew_32 hl (by decide) rfl (fun ls hl => ?_)
  obtain ⟨RT, hRT⟩ : ∃ z, (q_fr A e9).1 = z := ⟨_, rfl⟩
  obtain ⟨RW, hRW⟩ : ∃ z, w + 1 + (q_fr A e9).2 = z := ⟨_, rfl⟩
  refine lp_X1_freeInNew S0 hK hA h0 t1 m1 k1 v1 t2 L x0 x3 x4 RT RW hL (fun H locs ls hP hD hS hl => ?_) (A.1 - 1) e9 (q_ad A.1 e9 1) 1 (w + 1) (A.1, upd A.2.1 e9 0, A.2.2.1, A.2.2.2) ⟨(show 1 + (A.1 - 1) = A.1 by omega), hpA, hAL, he9, q_ad_lt he9 (show 1 ≤ A.1 by omega), hRT, hRW⟩ H locs ls hP hD hS (lv_sub hl [3, 2, 1, 0] rfl)
  have e_0_5 : nI RW = nI (w + ((q_fr A e9).2 + 1)) := by rw [← hRW]; exact congrArg nI (by omega)
  have hP : va_P (dC, dI) vwCl [(h0, .inr (1, [.int x0, .ref t1, .ref t2, .int x3, .int x4, .int (nI (w + ((q_fr A e9).2 + 1)))])), (t1, .inr (0, [.ref m1, .ref k1, .ref v1, .int (nI RT.1)])), (m1, .inl (cI, L, .inl RT.2.1)), (k1, .inl (cI, L, .inl RT.2.2.1)), (v1, .inl (cI, L, .inl RT.2.2.2))] H := by rw [← e_0_5]; exact hP
  have hD : va_D Aq [(h0, .inr (1, [.int x0, .ref t1, .ref t2, .int x3, .int x4, .int (nI (w + ((q_fr A e9).2 + 1)))])), (t1, .inr (0, [.ref m1, .ref k1, .ref v1, .int (nI RT.1)])), (m1, .inl (cI, L, .inl RT.2.1)), (k1, .inl (cI, L, .inl RT.2.2.1)), (v1, .inl (cI, L, .inl RT.2.2.2))] := by rw [← e_0_5]; exact hD
  subst hRT
  exact W.vret hx hb hr (fun t ht hW => ⟨⟨(), rfl, trivial, by rw [ht]; exact hP, va_K.moved hW.alike hK, hD⟩, hS.F ht⟩) hS.2.2 dX1_freeInNew_106
end
section
/-! MAP: what is done behind a put or a remove; the public calls (laid by gen_pub.py) -/
set_option maxHeartbeats 4000000 in
set_option maxRecDepth 100000 in
theorem c_X1_moveOn (l : Launch) (dC : Nat → ClassId) (dI : Nat → Nat → Nat) (cI : ClassId) (h0 t1 m1 k1 v1 t2 m2 k2 v2 L : Nat) (A B : q_TB) (nx : Option Nat) (kc w : Nat) (sz : Nat) (hW : q_IW L A B nx kc) : Met l yX1_moveOn wsX1_moveOn ({ frames := 5, cells := 0, slots := 0, locals := 112 }) (r_Mc (dC, dI) vwCl [(cI, .int)] [(h0, .inr (1, [.int (nI L), .ref t1, .ref t2, .int (q_nx nx), .int (nI kc), .int (nI w)])), (t1, .inr (0, [.ref m1, .ref k1, .ref v1, .int (nI A.1)])), (m1, .inl (cI, L, .inl A.2.1)), (k1, .inl (cI, L, .inl A.2.2.1)), (v1, .inl (cI, L, .inl A.2.2.2)), (t2, .inr (0, [.ref m2, .ref k2, .ref v2, .int (nI B.1)])), (m2, .inl (cI, L, .inl B.2.1)), (k2, .inl (cI, L, .inl B.2.2.1)), (v2, .inl (cI, L, .inl B.2.2.2))] sz [.ref h0]) (va_Qv (fun (_ : q_AD) => True) (fun u t => r_B (dC, dI) vwCl [(cI, .int)] (va_A [(h0, .inr (1, [.int (nI L), .ref t1, .ref t2, .int (q_nx nx), .int (nI kc), .int (nI w)])), (t1, .inr (0, [.ref m1, .ref k1, .ref v1, .int (nI A.1)])), (m1, .inl (cI, L, .inl A.2.1)), (k1, .inl (cI, L, .inl A.2.2.1)), (v1, .inl (cI, L, .inl A.2.2.2)), (t2, .inr (0, [.ref m2, .ref k2, .ref v2, .int (nI B.1)])), (m2, .inl (cI, L, .inl B.2.1)), (k2, .inl (cI, L, .inl B.2.2.1)), (v2, .inl (cI, L, .inl B.2.2.2))] sz) ((fun u => q_WS cI L h0 u (q_on A B nx kc w)) u) t) (va_A [(h0, .inr (1, [.int (nI L), .ref t1, .ref t2, .int (q_nx nx), .int (nI kc), .int (nI w)])), (t1, .inr (0, [.ref m1, .ref k1, .ref v1, .int (nI A.1)])), (m1, .inl (cI, L, .inl A.2.1)), (k1, .inl (cI, L, .inl A.2.2.1)), (v1, .inl (cI, L, .inl A.2.2.2)), (t2, .inr (0, [.ref m2, .ref k2, .ref v2, .int (nI B.1)])), (m2, .inl (cI, L, .inl B.2.1)), (k2, .inl (cI, L, .inl B.2.2.1)), (v2, .inl (cI, L, .inl B.2.2.2))] sz)) 0 0 (va_A [(h0, .inr (1, [.int (nI L), .ref t1, .ref t2, .int (q_nx nx), .int (nI kc), .int (nI w)])), (t1, .inr (0, [.ref m1, .ref k1, .ref v1, .int (nI A.1)])), (m1, .inl (cI, L, .inl A.2.1)), (k1, .inl (cI, L, .inl A.2.2.1)), (v1, .inl (cI, L, .inl A.2.2.2)), (t2, .inr (0, [.ref m2, .ref k2, .ref v2, .int (nI B.1)])), (m2, .inl (cI, L, .inl B.2.1)), (k2, .inl (cI, L, .inl B.2.2.1)), (v2, .inl (cI, L, .inl B.2.2.2))] sz) := by
  refine Met.ofW (cc := cX1_moveOn) (maxL := 1) (ret := none) (by decide) rfl ?_
  intro p e s m args below meth c s₁ Bd hml hv
  obtain ⟨rfl, hsz, hP, hK, hD0⟩ := hv
  have hx := Bd.exec
  have hb := Bd.bytes
  have hr := Bd.returns
  have hts := atoms_spec (ws := wsX1_moveOn) Bd.pre
  have hown : s.vm.findClass RX1 = some m.cls := findClass_of_methodNamed Bd.named
  have hlocks := Bd.notSynchronized
  have S0 : CallFix p m c cX1_moveOn 1 s _ wsX1_moveOn RX1 := ⟨hx, hb, hml, hown, hts⟩
  subst hsz
  have hD := hD0.self (sz := s.heap.size)
  generalize hAe : va_A [(h0, .inr (1, [.int (nI L), .ref t1, .ref t2, .int (q_nx nx), .int (nI kc), .int (nI w)])), (t1, .inr (0, [.ref m1, .ref k1, .ref v1, .int (nI A.1)])), (m1, .inl (cI, L, .inl A.2.1)), (k1, .inl (cI, L, .inl A.2.2.1)), (v1, .inl (cI, L, .inl A.2.2.2)), (t2, .inr (0, [.ref m2, .ref k2, .ref v2, .int (nI B.1)])), (m2, .inl (cI, L, .inl B.2.1)), (k2, .inl (cI, L, .inl B.2.2.1)), (v2, .inl (cI, L, .inl B.2.2.2))] s.heap.size = Aq at hD ⊢
  have hA : ∀ q : Nat, s.heap.size ≤ q → Aq q := fun q h => by rw [← hAe]; exact Or.inr h
  have hS : va_S Aq s.heap s.heap [] := va_S.rf
  have hD : va_D Aq [(h0, .inr (1, [.int (nI L), .ref t1, .ref t2, .int (q_nx nx), .int (nI kc), .int (nI w)])), (t1, .inr (0, [.ref m1, .ref k1, .ref v1, .int (nI A.1)])), (m1, .inl (cI, L, .inl A.2.1)), (k1, .inl (cI, L, .inl A.2.2.1)), (v1, .inl (cI, L, .inl A.2.2.2)), (t2, .inr (0, [.ref m2, .ref k2, .ref v2, .int (nI B.1)])), (m2, .inl (cI, L, .inl B.2.1)), (k2, .inl (cI, L, .inl B.2.2.1)), (v2, .inl (cI, L, .inl B.2.2.2))] := hD
  have hP : va_P (dC, dI) vwCl [(h0, .inr (1, [.int (nI L), .ref t1, .ref t2, .int (q_nx nx), .int (nI kc), .int (nI w)])), (t1, .inr (0, [.ref m1, .ref k1, .ref v1, .int (nI A.1)])), (m1, .inl (cI, L, .inl A.2.1)), (k1, .inl (cI, L, .inl A.2.2.1)), (v1, .inl (cI, L, .inl A.2.2.2)), (t2, .inr (0, [.ref m2, .ref k2, .ref v2, .int (nI B.1)])), (m2, .inl (cI, L, .inl B.2.1)), (k2, .inl (cI, L, .inl B.2.2.1)), (v2, .inl (cI, L, .inl B.2.2.2))] s.heap := hP
  have hl := lv_entry ([.ref h0]) (n := 1) (Nat.le_of_ble_eq_true rfl)
  rw [lg_entry_eq]
  generalize (lg_sl ([.ref h0]) ++ List.replicate (1 - (lg_sl ([.ref h0])).length) Slot.unset).toArray = ls at hl ⊢
  have hl : lv_has ls 1 [(0, .ref h0)] := hl
  obtain ⟨hSZ, hW2⟩ := id hW
  have hkc := q_iw_kc hW
  obtain ⟨hLp, hpA, hAL, hpB, hBL⟩ := id hSZ
  have hL := (q_pw_8 hLp).2
  have hA8 := q_pw_8 hpA
  have hB8 := q_pw_8 hpB
  rcases nx with _ | cu
  · obtain ⟨hN, hP9, hU9, hk9, h49, h29⟩ := hW2
    refine lv_aload_n hx hb dX1_moveOn_0 rfl (lv_at hl 0 rfl) ?_
    refine r_roV (rest := []) S0 (c_X1_migrating l dC dI cI h0 (nI L) t1 t2 ((none : Option Nat)) (nI kc) (nI w) (fun c2 h => by cases h)) (cwV 0 hts gX1_moveOn_X1_migrating rfl rfl rfl (by decide +kernel) ⟨Nat.le_of_ble_eq_true rfl, Nat.le_of_ble_eq_true rfl⟩) hK hP [0] rfl (ci := 1) (q0 := 0) rfl rfl rfl rfl hl.1 rfl (Nat.le_of_ble_eq_true rfl) dX1_moveOn_1 ⟨Nat.zero_le _, Nat.zero_le _⟩ ?_
    refine lv_if_eq (tgt := 11) hx hb dX1_moveOn_4 (by decide) (fun c_4 => ?_) (fun c_4 => ?_)
    · have h_4 : ¬ ((none : Option Nat).isSome = true) := q_b_0.mp c_4
      refine lv_aload_n hx hb dX1_moveOn_11 rfl (lv_at hl 0 rfl) ?_
      refine r_roV (rest := []) S0 (c_X1_migrating l dC dI cI h0 (nI L) t1 t2 ((none : Option Nat)) (nI kc) (nI w) (fun c2 h => by cases h)) (cwV 0 hts gX1_moveOn_X1_migrating rfl rfl rfl (by decide +kernel) ⟨Nat.le_of_ble_eq_true rfl, Nat.le_of_ble_eq_true rfl⟩) hK hP [0] rfl (ci := 1) (q0 := 0) rfl rfl rfl rfl hl.1 rfl (Nat.le_of_ble_eq_true rfl) dX1_moveOn_12 ⟨Nat.zero_le _, Nat.zero_le _⟩ ?_
      refine lv_if_eq (tgt := 19) hx hb dX1_moveOn_15 (by decide) (fun c_15 => ?_) (fun c_15 => ?_)
      · have h_15 : ¬ ((none : Option Nat).isSome = true) := q_b_0.mp c_15
        refine lv_aload_n hx hb dX1_moveOn_19 rfl (lv_at hl 0 rfl) ?_
        refine lv_aload_n hx hb dX1_moveOn_20 rfl (lv_at hl 0 rfl) ?_
        refine va_get (D := (dC, dI)) (ci := 1) (v := .int (nI kc)) (C := RX1) (T := TX1) (N := 6) hx hb hts hin_X1_moveOn_X1 hown hK hP 0 rfl rfl 4 (by decide) (hts (.fieldLink RX1 57 "StepMap" "keyCount" "I") (by decide +kernel)) (fun _ h9 => h9) rfl dX1_moveOn_21 ?_
        refine r_roV (rest := []) S0 (c_X1_isCrowdedBy l dC dI cI h0 t1 (nI L) t2 (q_nx (none : Option Nat)) (nI kc) (nI w) m1 k1 v1 A.1 kc (by omega) (by omega)) (cwV 1 hts gX1_moveOn_X1_isCrowdedBy rfl rfl rfl (by decide +kernel) ⟨Nat.le_of_ble_eq_true rfl, Nat.le_of_ble_eq_true rfl⟩) hK hP [0, 1] rfl (ci := 1) (q0 := 0) rfl rfl rfl rfl hl.1 rfl (Nat.le_of_ble_eq_true rfl) dX1_moveOn_24 ⟨Nat.zero_le _, Nat.zero_le _⟩ ?_
        refine lv_if_eq (tgt := 46) hx hb dX1_moveOn_27 (by decide) (fun c_27 => ?_) (fun c_27 => ?_)
        · have h_27 : ¬ (3 * A.1 ≤ 4 * kc) := q_b_0.mp c_27
          refine lv_aload_n hx hb dX1_moveOn_46 rfl (lv_at hl 0 rfl) ?_
          refine r_roV (rest := []) S0 (c_X1_isSparse l dC dI cI h0 t1 (nI L) t2 (q_nx (none : Option Nat)) (nI w) m1 k1 v1 A.1 kc (by omega) (by omega)) (cwV 0 hts gX1_moveOn_X1_isSparse rfl rfl rfl (by decide +kernel) ⟨Nat.le_of_ble_eq_true rfl, Nat.le_of_ble_eq_true rfl⟩) hK hP [0, 1] rfl (ci := 1) (q0 := 0) rfl rfl rfl rfl hl.1 rfl (Nat.le_of_ble_eq_true rfl) dX1_moveOn_47 ⟨Nat.zero_le _, Nat.zero_le _⟩ ?_
          refine lv_if_eq (tgt := 66) hx hb dX1_moveOn_50 (by decide) (fun c_50 => ?_) (fun c_50 => ?_)
          · have h_50 : ¬ (8 * kc ≤ A.1 ∧ 8 < A.1) := q_b_0.mp c_50
            have eq : q_on A B none kc w = _ := (q_on_n _ _ _ _).trans (q_set0_3 h_27 h_50)
            have hP : va_P (dC, dI) vwCl (q_WS cI L h0 (t1, m1, k1, v1, t2, m2, k2, v2) (q_on A B none kc w)) s.heap := by rw [eq]; exact hP
            have hD : va_D Aq (q_WS cI L h0 (t1, m1, k1, v1, t2, m2, k2, v2) (q_on A B none kc w)) := by rw [eq]; exact hD
            exact W.vret hx hb hr (fun t ht hW => ⟨⟨(t1, m1, k1, v1, t2, m2, k2, v2), rfl, trivial, by rw [ht]; exact hP, va_K.moved hW.alike hK, hD⟩, hS.F ht⟩) hS.2.2 dX1_moveOn_66
          · have h_50 : (8 * kc ≤ A.1 ∧ 8 < A.1) := q_b_n0 c_50
            refine lv_aload_n hx hb dX1_moveOn_53 rfl (lv_at hl 0 rfl) ?_
            refine lv_aload_n hx hb dX1_moveOn_54 rfl (lv_at hl 0 rfl) ?_
            refine va_get (D := (dC, dI)) (ci := 1) (v := .ref t1) (C := RX1) (T := TX1) (N := 6) hx hb hts hin_X1_moveOn_X1 hown hK hP 0 rfl rfl 1 (by decide) (hts (.fieldLink RX1 22 "StepMap" "newTable" "LStepMap$Table;") (by decide +kernel)) (fun _ h9 => h9) rfl dX1_moveOn_55 ?_
            refine va_get (D := (dC, dI)) (ci := 0) (v := .int (nI A.1)) (C := RX0) (T := TX0) (N := 4) hx hb hts hin_X1_moveOn_X0 hown hK hP 1 rfl rfl 3 (by decide) (hts (.fieldLink RX1 69 "StepMap$Table" "slots" "I") (by decide +kernel)) (fun _ h9 => h9) rfl dX1_moveOn_58 ?_
            refine lv_iconst (v := 2) hx hb dX1_moveOn_61 (by decide) ?_
            refine lv_idiv hx hb dX1_moveOn_62 (by decide) ?_
            refine r_eq (z := nI (A.1 / 2)) (pk_div (d := 2) (by omega) (by omega) (by omega)) ?_
            refine r_muV (wr := []) (rest := []) S0 (c_X1_startMigration l dC dI cI h0 t1 m1 k1 v1 t2 m2 k2 v2 L A B (q_nx (none : Option Nat)) (nI kc) (nI w) (A.1 / 2) s.heap.size hpB hBL hL (by omega)) (cwV 1 hts gX1_moveOn_X1_startMigration rfl rfl rfl (by decide +kernel) ⟨Nat.le_of_ble_eq_true rfl, Nat.le_of_ble_eq_true rfl⟩) hK hP hD hS hA [0, 1, 2, 3, 4, 5, 6, 7, 8] [] rfl rfl (by decide) (by decide) (by decide) (ci := 1) (q0 := 0) rfl rfl rfl rfl hl.1 rfl (Nat.le_of_ble_eq_true rfl) dX1_moveOn_63 ⟨Nat.zero_le _, Nat.zero_le _⟩ (fun _ H locs hu hP hD hS => ?_)
            have hP : va_P (dC, dI) vwCl [(h0, .inr (1, [.int (nI L), .ref t2, .ref t1, .int (nI 0), .int (nI kc), .int (nI w)])), (t1, .inr (0, [.ref m1, .ref k1, .ref v1, .int (nI A.1)])), (m1, .inl (cI, L, .inl A.2.1)), (k1, .inl (cI, L, .inl A.2.2.1)), (v1, .inl (cI, L, .inl A.2.2.2)), (t2, .inr (0, [.ref m2, .ref k2, .ref v2, .int (nI (A.1 / 2))])), (m2, .inl (cI, L, .inl (q_cl B.2.1 (A.1 / 2)))), (k2, .inl (cI, L, .inl B.2.2.1)), (v2, .inl (cI, L, .inl B.2.2.2))] H := hP.sub [0, 1, 2, 3, 4, 5, 6, 7, 8] rfl
            have hD : va_D Aq [(h0, .inr (1, [.int (nI L), .ref t2, .ref t1, .int (nI 0), .int (nI kc), .int (nI w)])), (t1, .inr (0, [.ref m1, .ref k1, .ref v1, .int (nI A.1)])), (m1, .inl (cI, L, .inl A.2.1)), (k1, .inl (cI, L, .inl A.2.2.1)), (v1, .inl (cI, L, .inl A.2.2.2)), (t2, .inr (0, [.ref m2, .ref k2, .ref v2, .int (nI (A.1 / 2))])), (m2, .inl (cI, L, .inl (q_cl B.2.1 (A.1 / 2)))), (k2, .inl (cI, L, .inl B.2.2.1)), (v2, .inl (cI, L, .inl B.2.2.2))] := hD.sub [0, 1, 2, 3, 4, 5, 6, 7, 8] (by decide) rfl
            have eq : q_on A B none kc w = _ := (q_on_n _ _ _ _).trans (q_set0_2 h_27 h_50)
            have hP : va_P (dC, dI) vwCl (q_WS cI L h0 (t2, m2, k2, v2, t1, m1, k1, v1) (q_on A B none kc w)) H := by rw [eq]; exact hP.sub [0, 5, 6, 7, 8, 1, 2, 3, 4] rfl
            have hD : va_D Aq (q_WS cI L h0 (t2, m2, k2, v2, t1, m1, k1, v1) (q_on A B none kc w)) := by rw [eq]; exact hD.sub [0, 5, 6, 7, 8, 1, 2, 3, 4] (by decide) rfl
            exact W.vret hx hb hr (fun t ht hW => ⟨⟨(t2, m2, k2, v2, t1, m1, k1, v1), rfl, trivial, by rw [ht]; exact hP, va_K.moved hW.alike hK, hD⟩, hS.F ht⟩) hS.2.2 dX1_moveOn_66
        · have h_27 : (3 * A.1 ≤ 4 * kc) := q_b_n0 c_27
          refine lv_aload_n hx hb dX1_moveOn_30 rfl (lv_at hl 0 rfl) ?_
          refine lv_aload_n hx hb dX1_moveOn_31 rfl (lv_at hl 0 rfl) ?_
          refine va_get (D := (dC, dI)) (ci := 1) (v := .ref t1) (C := RX1) (T := TX1) (N := 6) hx hb hts hin_X1_moveOn_X1 hown hK hP 0 rfl rfl 1 (by decide) (hts (.fieldLink RX1 22 "StepMap" "newTable" "LStepMap$Table;") (by decide +kernel)) (fun _ h9 => h9) rfl dX1_moveOn_32 ?_
          refine va_get (D := (dC, dI)) (ci := 0) (v := .int (nI A.1)) (C := RX0) (T := TX0) (N := 4) hx hb hts hin_X1_moveOn_X0 hown hK hP 1 rfl rfl 3 (by decide) (hts (.fieldLink RX1 69 "StepMap$Table" "slots" "I") (by decide +kernel)) (fun _ h9 => h9) rfl dX1_moveOn_35 ?_
          refine lv_iconst (v := 2) hx hb dX1_moveOn_38 (by decide) ?_
          refine lv_imul hx hb dX1_moveOn_39 ?_
          refine r_eq (z := nI (A.1 * 2)) (pk_mul A.1 2) ?_
          refine r_eq (z := nI (2 * A.1)) (congrArg nI (Nat.mul_comm _ _)) ?_
          refine r_muV (wr := []) (rest := []) S0 (c_X1_startMigration l dC dI cI h0 t1 m1 k1 v1 t2 m2 k2 v2 L A B (q_nx (none : Option Nat)) (nI kc) (nI w) (2 * A.1) s.heap.size hpB hBL hL (h29 (by omega))) (cwV 1 hts gX1_moveOn_X1_startMigration rfl rfl rfl (by decide +kernel) ⟨Nat.le_of_ble_eq_true rfl, Nat.le_of_ble_eq_true rfl⟩) hK hP hD hS hA [0, 1, 2, 3, 4, 5, 6, 7, 8] [] rfl rfl (by decide) (by decide) (by decide) (ci := 1) (q0 := 0) rfl rfl rfl rfl hl.1 rfl (Nat.le_of_ble_eq_true rfl) dX1_moveOn_40 ⟨Nat.zero_le _, Nat.zero_le _⟩ (fun _ H locs hu hP hD hS => ?_)
          have hP : va_P (dC, dI) vwCl [(h0, .inr (1, [.int (nI L), .ref t2, .ref t1, .int (nI 0), .int (nI kc), .int (nI w)])), (t1, .inr (0, [.ref m1, .ref k1, .ref v1, .int (nI A.1)])), (m1, .inl (cI, L, .inl A.2.1)), (k1, .inl (cI, L, .inl A.2.2.1)), (v1, .inl (cI, L, .inl A.2.2.2)), (t2, .inr (0, [.ref m2, .ref k2, .ref v2, .int (nI (2 * A.1))])), (m2, .inl (cI, L, .inl (q_cl B.2.1 (2 * A.1)))), (k2, .inl (cI, L, .inl B.2.2.1)), (v2, .inl (cI, L, .inl B.2.2.2))] H := hP.sub [0, 1, 2, 3, 4, 5, 6, 7, 8] rfl
          have hD : va_D Aq [(h0, .inr (1, [.int (nI L), .ref t2, .ref t1, .int (nI 0), .int (nI kc), .int (nI w)])), (t1, .inr (0, [.ref m1, .ref k1, .ref v1, .int (nI A.1)])), (m1, .inl (cI, L, .inl A.2.1)), (k1, .inl (cI, L, .inl A.2.2.1)), (v1, .inl (cI, L, .inl A.2.2.2)), (t2, .inr (0, [.ref m2, .ref k2, .ref v2, .int (nI (2 * A.1))])), (m2, .inl (cI, L, .inl (q_cl B.2.1 (2 * A.1)))), (k2, .inl (cI, L, .inl B.2.2.1)), (v2, .inl (cI, L, .inl B.2.2.2))] := hD.sub [0, 1, 2, 3, 4, 5, 6, 7, 8] (by decide) rfl
          refine lv_goto (tgt := 66) hx hb dX1_moveOn_43 (by decide) ?_
          have eq : q_on A B none kc w = _ := (q_on_n _ _ _ _).trans (q_set0_1 h_27)
          have hP : va_P (dC, dI) vwCl (q_WS cI L h0 (t2, m2, k2, v2, t1, m1, k1, v1) (q_on A B none kc w)) H := by rw [eq]; exact hP.sub [0, 5, 6, 7, 8, 1, 2, 3, 4] rfl
          have hD : va_D Aq (q_WS cI L h0 (t2, m2, k2, v2, t1, m1, k1, v1) (q_on A B none kc w)) := by rw [eq]; exact hD.sub [0, 5, 6, 7, 8, 1, 2, 3, 4] (by decide) rfl
          exact W.vret hx hb hr (fun t ht hW => ⟨⟨(t2, m2, k2, v2, t1, m1, k1, v1), rfl, trivial, by rw [ht]; exact hP, va_K.moved hW.alike hK, hD⟩, hS.F ht⟩) hS.2.2 dX1_moveOn_66
      · have h_15 : ((none : Option Nat).isSome = true) := q_b_n0 c_15
        exact absurd h_15 (by decide)
    · have h_4 : ((none : Option Nat).isSome = true) := q_b_n0 c_4
      exact absurd h_4 (by decide)
  · obtain ⟨hM, hk9, hc4, hcB, h49, h29⟩ := hW2
    have hB4 := q_pw_4 hpB
    have hcb : cu + 4 ≤ B.1 := by omega
    obtain ⟨hn1, hn2⟩ := q_mvs_n 4 A B cu
    obtain ⟨Z9, hZ⟩ : ∃ z, q_mvs 4 A B cu = z := ⟨_, rfl⟩
    rw [hZ] at hn1 hn2
    refine lv_aload_n hx hb dX1_moveOn_0 rfl (lv_at hl 0 rfl) ?_
    refine r_roV (rest := []) S0 (c_X1_migrating l dC dI cI h0 (nI L) t1 t2 ((some cu)) (nI kc) (nI w) (fun c2 h => by cases h; omega)) (cwV 0 hts gX1_moveOn_X1_migrating rfl rfl rfl (by decide +kernel) ⟨Nat.le_of_ble_eq_true rfl, Nat.le_of_ble_eq_true rfl⟩) hK hP [0] rfl (ci := 1) (q0 := 0) rfl rfl rfl rfl hl.1 rfl (Nat.le_of_ble_eq_true rfl) dX1_moveOn_1 ⟨Nat.zero_le _, Nat.zero_le _⟩ ?_
    refine lv_if_eq (tgt := 11) hx hb dX1_moveOn_4 (by decide) (fun c_4 => ?_) (fun c_4 => ?_)
    · have h_4 : ¬ ((some cu).isSome = true) := q_b_0.mp c_4
      exact absurd rfl h_4
    · have h_4 : ((some cu).isSome = true) := q_b_n0 c_4
      refine lv_aload_n hx hb dX1_moveOn_7 rfl (lv_at hl 0 rfl) ?_
      refine r_muV (wr := []) (rest := []) S0 (c_X1_moveNextSlots l dC dI cI h0 t1 m1 k1 v1 t2 m2 k2 v2 L A B (nI kc) cu w s.heap.size hSZ (by omega)) (cwV 0 hts gX1_moveOn_X1_moveNextSlots rfl rfl rfl (by decide +kernel) ⟨Nat.le_of_ble_eq_true rfl, Nat.le_of_ble_eq_true rfl⟩) hK hP hD hS hA [0, 1, 2, 3, 4, 5, 6, 7, 8] [] rfl rfl (by decide) (by decide) (by decide) (ci := 1) (q0 := 0) rfl rfl rfl rfl hl.1 rfl (Nat.le_of_ble_eq_true rfl) dX1_moveOn_8 ⟨Nat.zero_le _, Nat.zero_le _⟩ (fun _ H locs hu hP hD hS => ?_)
      have hP : va_P (dC, dI) vwCl [(h0, .inr (1, [.int (nI L), .ref t1, .ref t2, .int (q_nx (if cu + 4 < B.1 then some (cu + 4) else none)), .int (nI kc), .int (nI (w + (q_mvs 4 A B cu).2.2))])), (t1, .inr (0, [.ref m1, .ref k1, .ref v1, .int (nI ((q_mvs 4 A B cu).1.1))])), (m1, .inl (cI, L, .inl ((q_mvs 4 A B cu).1.2.1))), (k1, .inl (cI, L, .inl ((q_mvs 4 A B cu).1.2.2.1))), (v1, .inl (cI, L, .inl ((q_mvs 4 A B cu).1.2.2.2))), (t2, .inr (0, [.ref m2, .ref k2, .ref v2, .int (nI ((q_mvs 4 A B cu).2.1.1))])), (m2, .inl (cI, L, .inl ((q_mvs 4 A B cu).2.1.2.1))), (k2, .inl (cI, L, .inl ((q_mvs 4 A B cu).2.1.2.2.1))), (v2, .inl (cI, L, .inl ((q_mvs 4 A B cu).2.1.2.2.2)))] H := hP.sub [0, 1, 2, 3, 4, 5, 6, 7, 8] rfl
      have hD : va_D Aq [(h0, .inr (1, [.int (nI L), .ref t1, .ref t2, .int (q_nx (if cu + 4 < B.1 then some (cu + 4) else none)), .int (nI kc), .int (nI (w + (q_mvs 4 A B cu).2.2))])), (t1, .inr (0, [.ref m1, .ref k1, .ref v1, .int (nI ((q_mvs 4 A B cu).1.1))])), (m1, .inl (cI, L, .inl ((q_mvs 4 A B cu).1.2.1))), (k1, .inl (cI, L, .inl ((q_mvs 4 A B cu).1.2.2.1))), (v1, .inl (cI, L, .inl ((q_mvs 4 A B cu).1.2.2.2))), (t2, .inr (0, [.ref m2, .ref k2, .ref v2, .int (nI ((q_mvs 4 A B cu).2.1.1))])), (m2, .inl (cI, L, .inl ((q_mvs 4 A B cu).2.1.2.1))), (k2, .inl (cI, L, .inl ((q_mvs 4 A B cu).2.1.2.2.1))), (v2, .inl (cI, L, .inl ((q_mvs 4 A B cu).2.1.2.2.2)))] := hD.sub [0, 1, 2, 3, 4, 5, 6, 7, 8] (by decide) rfl
      rw [hZ] at hP hD
      have hP : va_P (dC, dI) vwCl [(h0, .inr (1, [.int (nI L), .ref t1, .ref t2, .int (q_nx (if cu + 4 < B.1 then some (cu + 4) else none)), .int (nI kc), .int (nI (w + Z9.2.2))])), (t1, .inr (0, [.ref m1, .ref k1, .ref v1, .int (nI Z9.1.1)])), (m1, .inl (cI, L, .inl Z9.1.2.1)), (k1, .inl (cI, L, .inl Z9.1.2.2.1)), (v1, .inl (cI, L, .inl Z9.1.2.2.2)), (t2, .inr (0, [.ref m2, .ref k2, .ref v2, .int (nI Z9.2.1.1)])), (m2, .inl (cI, L, .inl Z9.2.1.2.1)), (k2, .inl (cI, L, .inl Z9.2.1.2.2.1)), (v2, .inl (cI, L, .inl Z9.2.1.2.2.2))] H := hP
      have hD : va_D Aq [(h0, .inr (1, [.int (nI L), .ref t1, .ref t2, .int (q_nx (if cu + 4 < B.1 then some (cu + 4) else none)), .int (nI kc), .int (nI (w + Z9.2.2))])), (t1, .inr (0, [.ref m1, .ref k1, .ref v1, .int (nI Z9.1.1)])), (m1, .inl (cI, L, .inl Z9.1.2.1)), (k1, .inl (cI, L, .inl Z9.1.2.2.1)), (v1, .inl (cI, L, .inl Z9.1.2.2.2)), (t2, .inr (0, [.ref m2, .ref k2, .ref v2, .int (nI Z9.2.1.1)])), (m2, .inl (cI, L, .inl Z9.2.1.2.1)), (k2, .inl (cI, L, .inl Z9.2.1.2.2.1)), (v2, .inl (cI, L, .inl Z9.2.1.2.2.2))] := hD
      by_cases hlt : cu + 4 < B.1
      · have e_0_3 : q_nx (if cu + 4 < B.1 then some (cu + 4) else none) = q_nx (some (cu + 4)) := by rw [if_pos hlt]
        have hP : va_P (dC, dI) vwCl [(h0, .inr (1, [.int (nI L), .ref t1, .ref t2, .int (q_nx (some (cu + 4))), .int (nI kc), .int (nI (w + Z9.2.2))])), (t1, .inr (0, [.ref m1, .ref k1, .ref v1, .int (nI Z9.1.1)])), (m1, .inl (cI, L, .inl Z9.1.2.1)), (k1, .inl (cI, L, .inl Z9.1.2.2.1)), (v1, .inl (cI, L, .inl Z9.1.2.2.2)), (t2, .inr (0, [.ref m2, .ref k2, .ref v2, .int (nI Z9.2.1.1)])), (m2, .inl (cI, L, .inl Z9.2.1.2.1)), (k2, .inl (cI, L, .inl Z9.2.1.2.2.1)), (v2, .inl (cI, L, .inl Z9.2.1.2.2.2))] H := by rw [← e_0_3]; exact hP
        have hD : va_D Aq [(h0, .inr (1, [.int (nI L), .ref t1, .ref t2, .int (q_nx (some (cu + 4))), .int (nI kc), .int (nI (w + Z9.2.2))])), (t1, .inr (0, [.ref m1, .ref k1, .ref v1, .int (nI Z9.1.1)])), (m1, .inl (cI, L, .inl Z9.1.2.1)), (k1, .inl (cI, L, .inl Z9.1.2.2.1)), (v1, .inl (cI, L, .inl Z9.1.2.2.2)), (t2, .inr (0, [.ref m2, .ref k2, .ref v2, .int (nI Z9.2.1.1)])), (m2, .inl (cI, L, .inl Z9.2.1.2.1)), (k2, .inl (cI, L, .inl Z9.2.1.2.2.1)), (v2, .inl (cI, L, .inl Z9.2.1.2.2.2))] := by rw [← e_0_3]; exact hD
        refine lv_aload_n hx hb dX1_moveOn_11 rfl (lv_at hl 0 rfl) ?_
        refine r_roV (rest := []) S0 (c_X1_migrating l dC dI cI h0 (nI L) t1 t2 ((some (cu + 4))) (nI kc) (nI (w + Z9.2.2)) (fun c2 h => by cases h; omega)) (cwV 0 hts gX1_moveOn_X1_migrating rfl rfl rfl (by decide +kernel) ⟨Nat.le_of_ble_eq_true rfl, Nat.le_of_ble_eq_true rfl⟩) hK hP [0] rfl (ci := 1) (q0 := 0) rfl rfl rfl rfl hl.1 rfl (Nat.le_of_ble_eq_true rfl) dX1_moveOn_12 ⟨Nat.zero_le _, Nat.zero_le _⟩ ?_
        refine lv_if_eq (tgt := 19) hx hb dX1_moveOn_15 (by decide) (fun c_15 => ?_) (fun c_15 => ?_)
        · have h_15 : ¬ ((some (cu + 4)).isSome = true) := q_b_0.mp c_15
          exact absurd rfl h_15
        · have h_15 : ((some (cu + 4)).isSome = true) := q_b_n0 c_15
          have eq : q_on A B (some cu) kc w = (Z9.1, Z9.2.1, some (cu + 4), kc, w + Z9.2.2) := (q_on_c hlt).trans (by rw [hZ])
          have hP : va_P (dC, dI) vwCl (q_WS cI L h0 (t1, m1, k1, v1, t2, m2, k2, v2) (q_on A B (some cu) kc w)) H := by rw [eq]; exact hP
          have hD : va_D Aq (q_WS cI L h0 (t1, m1, k1, v1, t2, m2, k2, v2) (q_on A B (some cu) kc w)) := by rw [eq]; exact hD
          exact W.vret hx hb hr (fun t ht hW => ⟨⟨(t1, m1, k1, v1, t2, m2, k2, v2), rfl, trivial, by rw [ht]; exact hP, va_K.moved hW.alike hK, hD⟩, hS.F ht⟩) hS.2.2 dX1_moveOn_18
      · have e_0_3 : q_nx (if cu + 4 < B.1 then some (cu + 4) else none) = q_nx (none : Option Nat) := by rw [if_neg hlt]
        have hP : va_P (dC, dI) vwCl [(h0, .inr (1, [.int (nI L), .ref t1, .ref t2, .int (q_nx (none : Option Nat)), .int (nI kc), .int (nI (w + Z9.2.2))])), (t1, .inr (0, [.ref m1, .ref k1, .ref v1, .int (nI Z9.1.1)])), (m1, .inl (cI, L, .inl Z9.1.2.1)), (k1, .inl (cI, L, .inl Z9.1.2.2.1)), (v1, .inl (cI, L, .inl Z9.1.2.2.2)), (t2, .inr (0, [.ref m2, .ref k2, .ref v2, .int (nI Z9.2.1.1)])), (m2, .inl (cI, L, .inl Z9.2.1.2.1)), (k2, .inl (cI, L, .inl Z9.2.1.2.2.1)), (v2, .inl (cI, L, .inl Z9.2.1.2.2.2))] H := by rw [← e_0_3]; exact hP
        have hD : va_D Aq [(h0, .inr (1, [.int (nI L), .ref t1, .ref t2, .int (q_nx (none : Option Nat)), .int (nI kc), .int (nI (w + Z9.2.2))])), (t1, .inr (0, [.ref m1, .ref k1, .ref v1, .int (nI Z9.1.1)])), (m1, .inl (cI, L, .inl Z9.1.2.1)), (k1, .inl (cI, L, .inl Z9.1.2.2.1)), (v1, .inl (cI, L, .inl Z9.1.2.2.2)), (t2, .inr (0, [.ref m2, .ref k2, .ref v2, .int (nI Z9.2.1.1)])), (m2, .inl (cI, L, .inl Z9.2.1.2.1)), (k2, .inl (cI, L, .inl Z9.2.1.2.2.1)), (v2, .inl (cI, L, .inl Z9.2.1.2.2.2))] := by rw [← e_0_3]; exact hD
        refine lv_aload_n hx hb dX1_moveOn_11 rfl (lv_at hl 0 rfl) ?_
        refine r_roV (rest := []) S0 (c_X1_migrating l dC dI cI h0 (nI L) t1 t2 ((none : Option Nat)) (nI kc) (nI (w + Z9.2.2)) (fun c2 h => by cases h)) (cwV 0 hts gX1_moveOn_X1_migrating rfl rfl rfl (by decide +kernel) ⟨Nat.le_of_ble_eq_true rfl, Nat.le_of_ble_eq_true rfl⟩) hK hP [0] rfl (ci := 1) (q0 := 0) rfl rfl rfl rfl hl.1 rfl (Nat.le_of_ble_eq_true rfl) dX1_moveOn_12 ⟨Nat.zero_le _, Nat.zero_le _⟩ ?_
        refine lv_if_eq (tgt := 19) hx hb dX1_moveOn_15 (by decide) (fun c_15 => ?_) (fun c_15 => ?_)
        · have h_15 : ¬ ((none : Option Nat).isSome = true) := q_b_0.mp c_15
          refine lv_aload_n hx hb dX1_moveOn_19 rfl (lv_at hl 0 rfl) ?_
          refine lv_aload_n hx hb dX1_moveOn_20 rfl (lv_at hl 0 rfl) ?_
          refine va_get (D := (dC, dI)) (ci := 1) (v := .int (nI kc)) (C := RX1) (T := TX1) (N := 6) hx hb hts hin_X1_moveOn_X1 hown hK hP 0 rfl rfl 4 (by decide) (hts (.fieldLink RX1 57 "StepMap" "keyCount" "I") (by decide +kernel)) (fun _ h9 => h9) rfl dX1_moveOn_21 ?_
          refine r_roV (rest := []) S0 (c_X1_isCrowdedBy l dC dI cI h0 t1 (nI L) t2 (q_nx (none : Option Nat)) (nI kc) (nI (w + Z9.2.2)) m1 k1 v1 Z9.1.1 kc (by omega) (by omega)) (cwV 1 hts gX1_moveOn_X1_isCrowdedBy rfl rfl rfl (by decide +kernel) ⟨Nat.le_of_ble_eq_true rfl, Nat.le_of_ble_eq_true rfl⟩) hK hP [0, 1] rfl (ci := 1) (q0 := 0) rfl rfl rfl rfl hl.1 rfl (Nat.le_of_ble_eq_true rfl) dX1_moveOn_24 ⟨Nat.zero_le _, Nat.zero_le _⟩ ?_
          refine lv_if_eq (tgt := 46) hx hb dX1_moveOn_27 (by decide) (fun c_27 => ?_) (fun c_27 => ?_)
          · have h_27 : ¬ (3 * Z9.1.1 ≤ 4 * kc) := q_b_0.mp c_27
            refine lv_aload_n hx hb dX1_moveOn_46 rfl (lv_at hl 0 rfl) ?_
            refine r_roV (rest := []) S0 (c_X1_isSparse l dC dI cI h0 t1 (nI L) t2 (q_nx (none : Option Nat)) (nI (w + Z9.2.2)) m1 k1 v1 Z9.1.1 kc (by omega) (by omega)) (cwV 0 hts gX1_moveOn_X1_isSparse rfl rfl rfl (by decide +kernel) ⟨Nat.le_of_ble_eq_true rfl, Nat.le_of_ble_eq_true rfl⟩) hK hP [0, 1] rfl (ci := 1) (q0 := 0) rfl rfl rfl rfl hl.1 rfl (Nat.le_of_ble_eq_true rfl) dX1_moveOn_47 ⟨Nat.zero_le _, Nat.zero_le _⟩ ?_
            refine lv_if_eq (tgt := 66) hx hb dX1_moveOn_50 (by decide) (fun c_50 => ?_) (fun c_50 => ?_)
            · have h_50 : ¬ (8 * kc ≤ Z9.1.1 ∧ 8 < Z9.1.1) := q_b_0.mp c_50
              have eq : q_on A B (some cu) kc w = _ := (show q_on A B (some cu) kc w = q_set0 Z9.1 Z9.2.1 kc (w + Z9.2.2) by rw [q_on_e hlt, hZ]).trans (q_set0_3 h_27 h_50)
              have hP : va_P (dC, dI) vwCl (q_WS cI L h0 (t1, m1, k1, v1, t2, m2, k2, v2) (q_on A B (some cu) kc w)) H := by rw [eq]; exact hP
              have hD : va_D Aq (q_WS cI L h0 (t1, m1, k1, v1, t2, m2, k2, v2) (q_on A B (some cu) kc w)) := by rw [eq]; exact hD
              exact W.vret hx hb hr (fun t ht hW => ⟨⟨(t1, m1, k1, v1, t2, m2, k2, v2), rfl, trivial, by rw [ht]; exact hP, va_K.moved hW.alike hK, hD⟩, hS.F ht⟩) hS.2.2 dX1_moveOn_66
            · have h_50 : (8 * kc ≤ Z9.1.1 ∧ 8 < Z9.1.1) := q_b_n0 c_50
              refine lv_aload_n hx hb dX1_moveOn_53 rfl (lv_at hl 0 rfl) ?_
              refine lv_aload_n hx hb dX1_moveOn_54 rfl (lv_at hl 0 rfl) ?_
              refine va_get (D := (dC, dI)) (ci := 1) (v := .ref t1) (C := RX1) (T := TX1) (N := 6) hx hb hts hin_X1_moveOn_X1 hown hK hP 0 rfl rfl 1 (by decide) (hts (.fieldLink RX1 22 "StepMap" "newTable" "LStepMap$Table;") (by decide +kernel)) (fun _ h9 => h9) rfl dX1_moveOn_55 ?_
              refine va_get (D := (dC, dI)) (ci := 0) (v := .int (nI Z9.1.1)) (C := RX0) (T := TX0) (N := 4) hx hb hts hin_X1_moveOn_X0 hown hK hP 1 rfl rfl 3 (by decide) (hts (.fieldLink RX1 69 "StepMap$Table" "slots" "I") (by decide +kernel)) (fun _ h9 => h9) rfl dX1_moveOn_58 ?_
              refine lv_iconst (v := 2) hx hb dX1_moveOn_61 (by decide) ?_
              refine lv_idiv hx hb dX1_moveOn_62 (by decide) ?_
              refine r_eq (z := nI (Z9.1.1 / 2)) (pk_div (d := 2) (by omega) (by omega) (by omega)) ?_
              refine r_muV (wr := []) (rest := []) S0 (c_X1_startMigration l dC dI cI h0 t1 m1 k1 v1 t2 m2 k2 v2 L Z9.1 Z9.2.1 (q_nx (none : Option Nat)) (nI kc) (nI (w + Z9.2.2)) (Z9.1.1 / 2) H.size (by rw [hn2]; exact hpB) (by rw [hn2]; exact hBL) hL (by omega)) (cwV 1 hts gX1_moveOn_X1_startMigration rfl rfl rfl (by decide +kernel) ⟨Nat.le_of_ble_eq_true rfl, Nat.le_of_ble_eq_true rfl⟩) hK hP hD hS hA [0, 1, 2, 3, 4, 5, 6, 7, 8] [] rfl rfl (by decide) (by decide) (by decide) (ci := 1) (q0 := 0) rfl rfl rfl rfl hl.1 rfl (Nat.le_of_ble_eq_true rfl) dX1_moveOn_63 ⟨Nat.zero_le _, Nat.zero_le _⟩ (fun _ H locs hu hP hD hS => ?_)
              have hP : va_P (dC, dI) vwCl [(h0, .inr (1, [.int (nI L), .ref t2, .ref t1, .int (nI 0), .int (nI kc), .int (nI (w + Z9.2.2))])), (t1, .inr (0, [.ref m1, .ref k1, .ref v1, .int (nI Z9.1.1)])), (m1, .inl (cI, L, .inl Z9.1.2.1)), (k1, .inl (cI, L, .inl Z9.1.2.2.1)), (v1, .inl (cI, L, .inl Z9.1.2.2.2)), (t2, .inr (0, [.ref m2, .ref k2, .ref v2, .int (nI (Z9.1.1 / 2))])), (m2, .inl (cI, L, .inl (q_cl Z9.2.1.2.1 (Z9.1.1 / 2)))), (k2, .inl (cI, L, .inl Z9.2.1.2.2.1)), (v2, .inl (cI, L, .inl Z9.2.1.2.2.2))] H := hP.sub [0, 1, 2, 3, 4, 5, 6, 7, 8] rfl
              have hD : va_D Aq [(h0, .inr (1, [.int (nI L), .ref t2, .ref t1, .int (nI 0), .int (nI kc), .int (nI (w + Z9.2.2))])), (t1, .inr (0, [.ref m1, .ref k1, .ref v1, .int (nI Z9.1.1)])), (m1, .inl (cI, L, .inl Z9.1.2.1)), (k1, .inl (cI, L, .inl Z9.1.2.2.1)), (v1, .inl (cI, L, .inl Z9.1.2.2.2)), (t2, .inr (0, [.ref m2, .ref k2, .ref v2, .int (nI (Z9.1.1 / 2))])), (m2, .inl (cI, L, .inl (q_cl Z9.2.1.2.1 (Z9.1.1 / 2)))), (k2, .inl (cI, L, .inl Z9.2.1.2.2.1)), (v2, .inl (cI, L, .inl Z9.2.1.2.2.2))] := hD.sub [0, 1, 2, 3, 4, 5, 6, 7, 8] (by decide) rfl
              have eq : q_on A B (some cu) kc w = _ := (show q_on A B (some cu) kc w = q_set0 Z9.1 Z9.2.1 kc (w + Z9.2.2) by rw [q_on_e hlt, hZ]).trans (q_set0_2 h_27 h_50)
              have hP : va_P (dC, dI) vwCl (q_WS cI L h0 (t2, m2, k2, v2, t1, m1, k1, v1) (q_on A B (some cu) kc w)) H := by rw [eq]; exact hP.sub [0, 5, 6, 7, 8, 1, 2, 3, 4] rfl
              have hD : va_D Aq (q_WS cI L h0 (t2, m2, k2, v2, t1, m1, k1, v1) (q_on A B (some cu) kc w)) := by rw [eq]; exact hD.sub [0, 5, 6, 7, 8, 1, 2, 3, 4] (by decide) rfl
              exact W.vret hx hb hr (fun t ht hW => ⟨⟨(t2, m2, k2, v2, t1, m1, k1, v1), rfl, trivial, by rw [ht]; exact hP, va_K.moved hW.alike hK, hD⟩, hS.F ht⟩) hS.2.2 dX1_moveOn_66
          · have h_27 : (3 * Z9.1.1 ≤ 4 * kc) := q_b_n0 c_27
            refine lv_aload_n hx hb dX1_moveOn_30 rfl (lv_at hl 0 rfl) ?_
            refine lv_aload_n hx hb dX1_moveOn_31 rfl (lv_at hl 0 rfl) ?_
            refine va_get (D := (dC, dI)) (ci := 1) (v := .ref t1) (C := RX1) (T := TX1) (N := 6) hx hb hts hin_X1_moveOn_X1 hown hK hP 0 rfl rfl 1 (by decide) (hts (.fieldLink RX1 22 "StepMap" "newTable" "LStepMap$Table;") (by decide +kernel)) (fun _ h9 => h9) rfl dX1_moveOn_32 ?_
            refine va_get (D := (dC, dI)) (ci := 0) (v := .int (nI Z9.1.1)) (C := RX0) (T := TX0) (N := 4) hx hb hts hin_X1_moveOn_X0 hown hK hP 1 rfl rfl 3 (by decide) (hts (.fieldLink RX1 69 "StepMap$Table" "slots" "I") (by decide +kernel)) (fun _ h9 => h9) rfl dX1_moveOn_35 ?_
            refine lv_iconst (v := 2) hx hb dX1_moveOn_38 (by decide) ?_
            refine lv_imul hx hb dX1_moveOn_39 ?_
            refine r_eq (z := nI (Z9.1.1 * 2)) (pk_mul Z9.1.1 2) ?_
            refine r_eq (z := nI (2 * Z9.1.1)) (congrArg nI (Nat.mul_comm _ _)) ?_
            refine r_muV (wr := []) (rest := []) S0 (c_X1_startMigration l dC dI cI h0 t1 m1 k1 v1 t2 m2 k2 v2 L Z9.1 Z9.2.1 (q_nx (none : Option Nat)) (nI kc) (nI (w + Z9.2.2)) (2 * Z9.1.1) H.size (by rw [hn2]; exact hpB) (by rw [hn2]; exact hBL) hL (by rw [hn1]; exact h29 (by omega) (by omega))) (cwV 1 hts gX1_moveOn_X1_startMigration rfl rfl rfl (by decide +kernel) ⟨Nat.le_of_ble_eq_true rfl, Nat.le_of_ble_eq_true rfl⟩) hK hP hD hS hA [0, 1, 2, 3, 4, 5, 6, 7, 8] [] rfl rfl (by decide) (by decide) (by decide) (ci := 1) (q0 := 0) rfl rfl rfl rfl hl.1 rfl (Nat.le_of_ble_eq_true rfl) dX1_moveOn_40 ⟨Nat.zero_le _, Nat.zero_le _⟩ (fun _ H locs hu hP hD hS => ?_)
            have hP : va_P (dC, dI) vwCl [(h0, .inr (1, [.int (nI L), .ref t2, .ref t1, .int (nI 0), .int (nI kc), .int (nI (w + Z9.2.2))])), (t1, .inr (0, [.ref m1, .ref k1, .ref v1, .int (nI Z9.1.1)])), (m1, .inl (cI, L, .inl Z9.1.2.1)), (k1, .inl (cI, L, .inl Z9.1.2.2.1)), (v1, .inl (cI, L, .inl Z9.1.2.2.2)), (t2, .inr (0, [.ref m2, .ref k2, .ref v2, .int (nI (2 * Z9.1.1))])), (m2, .inl (cI, L, .inl (q_cl Z9.2.1.2.1 (2 * Z9.1.1)))), (k2, .inl (cI, L, .inl Z9.2.1.2.2.1)), (v2, .inl (cI, L, .inl Z9.2.1.2.2.2))] H := hP.sub [0, 1, 2, 3, 4, 5, 6, 7, 8] rfl
            have hD : va_D Aq [(h0, .inr (1, [.int (nI L), .ref t2, .ref t1, .int (nI 0), .int (nI kc), .int (nI (w + Z9.2.2))])), (t1, .inr (0, [.ref m1, .ref k1, .ref v1, .int (nI Z9.1.1)])), (m1, .inl (cI, L, .inl Z9.1.2.1)), (k1, .inl (cI, L, .inl Z9.1.2.2.1)), (v1, .inl (cI, L, .inl Z9.1.2.2.2)), (t2, .inr (0, [.ref m2, .ref k2, .ref v2, .int (nI (2 * Z9.1.1))])), (m2, .inl (cI, L, .inl (q_cl Z9.2.1.2.1 (2 * Z9.1.1)))), (k2, .inl (cI, L, .inl Z9.2.1.2.2.1)), (v2, .inl (cI, L, .inl Z9.2.1.2.2.2))] := hD.sub [0, 1, 2, 3, 4, 5, 6, 7, 8] (by decide) rfl
            refine lv_goto (tgt := 66) hx hb dX1_moveOn_43 (by decide) ?_
            have eq : q_on A B (some cu) kc w = _ := (show q_on A B (some cu) kc w = q_set0 Z9.1 Z9.2.1 kc (w + Z9.2.2) by rw [q_on_e hlt, hZ]).trans (q_set0_1 h_27)
            have hP : va_P (dC, dI) vwCl (q_WS cI L h0 (t2, m2, k2, v2, t1, m1, k1, v1) (q_on A B (some cu) kc w)) H := by rw [eq]; exact hP.sub [0, 5, 6, 7, 8, 1, 2, 3, 4] rfl
            have hD : va_D Aq (q_WS cI L h0 (t2, m2, k2, v2, t1, m1, k1, v1) (q_on A B (some cu) kc w)) := by rw [eq]; exact hD.sub [0, 5, 6, 7, 8, 1, 2, 3, 4] (by decide) rfl
            exact W.vret hx hb hr (fun t ht hW => ⟨⟨(t2, m2, k2, v2, t1, m1, k1, v1), rfl, trivial, by rw [ht]; exact hP, va_K.moved hW.alike hK, hD⟩, hS.F ht⟩) hS.2.2 dX1_moveOn_66
        · have h_15 : ((none : Option Nat).isSome = true) := q_b_n0 c_15
          exact absurd h_15 (by decide)
set_option maxHeartbeats 4000000 in
set_option maxRecDepth 100000 in
theorem c_X1_get (l : Launch) (dC : Nat → ClassId) (dI : Nat → Nat → Nat) (cI : ClassId) (h0 t1 m1 k1 v1 t2 m2 k2 v2 L : Nat) (A B : q_TB) (nx : Option Nat) (kc w : Nat) (k : Int32) (sz : Nat) (hIV : q_IV L A B nx kc) : Met l yX1_get wsX1_get ({ frames := 4, cells := 0, slots := 0, locals := 91 }) (r_Mc (dC, dI) vwCl [(cI, .int)] [(h0, .inr (1, [.int (nI L), .ref t1, .ref t2, .int (q_nx nx), .int (nI kc), .int (nI w)])), (t1, .inr (0, [.ref m1, .ref k1, .ref v1, .int (nI A.1)])), (m1, .inl (cI, L, .inl A.2.1)), (k1, .inl (cI, L, .inl A.2.2.1)), (v1, .inl (cI, L, .inl A.2.2.2)), (t2, .inr (0, [.ref m2, .ref k2, .ref v2, .int (nI B.1)])), (m2, .inl (cI, L, .inl B.2.1)), (k2, .inl (cI, L, .inl B.2.2.1)), (v2, .inl (cI, L, .inl B.2.2.2))] sz [.ref h0, .int k]) (va_Qi (fun (r : Int32) (_ : Unit) => r = q_get A B nx k) (fun u t => r_B (dC, dI) vwCl [(cI, .int)] (va_A [(h0, .inr (1, [.int (nI L), .ref t1, .ref t2, .int (q_nx nx), .int (nI kc), .int (nI w)])), (t1, .inr (0, [.ref m1, .ref k1, .ref v1, .int (nI A.1)])), (m1, .inl (cI, L, .inl A.2.1)), (k1, .inl (cI, L, .inl A.2.2.1)), (v1, .inl (cI, L, .inl A.2.2.2)), (t2, .inr (0, [.ref m2, .ref k2, .ref v2, .int (nI B.1)])), (m2, .inl (cI, L, .inl B.2.1)), (k2, .inl (cI, L, .inl B.2.2.1)), (v2, .inl (cI, L, .inl B.2.2.2))] sz) ((fun _ => [(h0, .inr (1, [.int (nI L), .ref t1, .ref t2, .int (q_nx nx), .int (nI kc), .int (nI (q_lw A B nx k))])), (t1, .inr (0, [.ref m1, .ref k1, .ref v1, .int (nI A.1)])), (m1, .inl (cI, L, .inl A.2.1)), (k1, .inl (cI, L, .inl A.2.2.1)), (v1, .inl (cI, L, .inl A.2.2.2)), (t2, .inr (0, [.ref m2, .ref k2, .ref v2, .int (nI B.1)])), (m2, .inl (cI, L, .inl B.2.1)), (k2, .inl (cI, L, .inl B.2.2.1)), (v2, .inl (cI, L, .inl B.2.2.2))]) u) t) (va_A [(h0, .inr (1, [.int (nI L), .ref t1, .ref t2, .int (q_nx nx), .int (nI kc), .int (nI w)])), (t1, .inr (0, [.ref m1, .ref k1, .ref v1, .int (nI A.1)])), (m1, .inl (cI, L, .inl A.2.1)), (k1, .inl (cI, L, .inl A.2.2.1)), (v1, .inl (cI, L, .inl A.2.2.2)), (t2, .inr (0, [.ref m2, .ref k2, .ref v2, .int (nI B.1)])), (m2, .inl (cI, L, .inl B.2.1)), (k2, .inl (cI, L, .inl B.2.2.1)), (v2, .inl (cI, L, .inl B.2.2.2))] sz)) 0 0 (va_A [(h0, .inr (1, [.int (nI L), .ref t1, .ref t2, .int (q_nx nx), .int (nI kc), .int (nI w)])), (t1, .inr (0, [.ref m1, .ref k1, .ref v1, .int (nI A.1)])), (m1, .inl (cI, L, .inl A.2.1)), (k1, .inl (cI, L, .inl A.2.2.1)), (v1, .inl (cI, L, .inl A.2.2.2)), (t2, .inr (0, [.ref m2, .ref k2, .ref v2, .int (nI B.1)])), (m2, .inl (cI, L, .inl B.2.1)), (k2, .inl (cI, L, .inl B.2.2.1)), (v2, .inl (cI, L, .inl B.2.2.2))] sz) := by
  refine Met.ofW (cc := cX1_get) (maxL := 3) (ret := (some .int)) (by decide) rfl ?_
  intro p e s m args below meth c s₁ Bd hml hv
  obtain ⟨rfl, hsz, hP, hK, hD0⟩ := hv
  have hx := Bd.exec
  have hb := Bd.bytes
  have hr := Bd.returns
  have hts := atoms_spec (ws := wsX1_get) Bd.pre
  have hown : s.vm.findClass RX1 = some m.cls := findClass_of_methodNamed Bd.named
  have hlocks := Bd.notSynchronized
  have S0 : CallFix p m c cX1_get 3 s _ wsX1_get RX1 := ⟨hx, hb, hml, hown, hts⟩
  subst hsz
  have hD := hD0.self (sz := s.heap.size)
  generalize hAe : va_A [(h0, .inr (1, [.int (nI L), .ref t1, .ref t2, .int (q_nx nx), .int (nI kc), .int (nI w)])), (t1, .inr (0, [.ref m1, .ref k1, .ref v1, .int (nI A.1)])), (m1, .inl (cI, L, .inl A.2.1)), (k1, .inl (cI, L, .inl A.2.2.1)), (v1, .inl (cI, L, .inl A.2.2.2)), (t2, .inr (0, [.ref m2, .ref k2, .ref v2, .int (nI B.1)])), (m2, .inl (cI, L, .inl B.2.1)), (k2, .inl (cI, L, .inl B.2.2.1)), (v2, .inl (cI, L, .inl B.2.2.2))] s.heap.size = Aq at hD ⊢
  have hA : ∀ q : Nat, s.heap.size ≤ q → Aq q := fun q h => by rw [← hAe]; exact Or.inr h
  have hS : va_S Aq s.heap s.heap [] := va_S.rf
  have hD : va_D Aq [(h0, .inr (1, [.int (nI L), .ref t1, .ref t2, .int (q_nx nx), .int (nI kc), .int (nI w)])), (t1, .inr (0, [.ref m1, .ref k1, .ref v1, .int (nI A.1)])), (m1, .inl (cI, L, .inl A.2.1)), (k1, .inl (cI, L, .inl A.2.2.1)), (v1, .inl (cI, L, .inl A.2.2.2)), (t2, .inr (0, [.ref m2, .ref k2, .ref v2, .int (nI B.1)])), (m2, .inl (cI, L, .inl B.2.1)), (k2, .inl (cI, L, .inl B.2.2.1)), (v2, .inl (cI, L, .inl B.2.2.2))] := hD
  have hP : va_P (dC, dI) vwCl [(h0, .inr (1, [.int (nI L), .ref t1, .ref t2, .int (q_nx nx), .int (nI kc), .int (nI w)])), (t1, .inr (0, [.ref m1, .ref k1, .ref v1, .int (nI A.1)])), (m1, .inl (cI, L, .inl A.2.1)), (k1, .inl (cI, L, .inl A.2.2.1)), (v1, .inl (cI, L, .inl A.2.2.2)), (t2, .inr (0, [.ref m2, .ref k2, .ref v2, .int (nI B.1)])), (m2, .inl (cI, L, .inl B.2.1)), (k2, .inl (cI, L, .inl B.2.2.1)), (v2, .inl (cI, L, .inl B.2.2.2))] s.heap := hP
  have hl := lv_entry ([.ref h0, .int k]) (n := 3) (Nat.le_of_ble_eq_true rfl)
  rw [lg_entry_eq]
  generalize (lg_sl ([.ref h0, .int k]) ++ List.replicate (3 - (lg_sl ([.ref h0, .int k])).length) Slot.unset).toArray = ls at hl ⊢
  have hl : lv_has ls 3 [(0, .ref h0), (1, .int k)] := hl
  have hSZ := hIV.1
  have hkc : kc ≤ 4096 := by have := q_iv_kc hIV; omega
  have hc := q_iv_c hIV
  obtain ⟨hLp, hpA, hAL, hpB, hBL⟩ := id hSZ
  have hL := (q_pw_8 hLp).2
  have hA8 := q_pw_8 hpA
  have hB8 := q_pw_8 hpB
  have heA := q_lkE_lt (t := A) k (by omega)
  have heB := q_lkE_lt (t := B) k (by omega)
  refine lv_aload_n hx hb dX1_get_0 rfl (lv_at hl 0 rfl) ?_
  refine lv_iconst (v := 0) hx hb dX1_get_1 (by decide) ?_
  refine va_put (D := (dC, dI)) (ci := 1) (v := .int 0) (ty := .int) (C := RX1) (T := TX1) (N := 6) hx hb hts hin_X1_get_X1 tyX1 tyX1_ok nmX1 hown hK hP hD hS 0 rfl rfl 5 (by decide) (hts (.fieldLink RX1 35 "StepMap" "work" "I") (by decide +kernel)) (fun _ h9 => h9) rfl (by decide +kernel) (rfl) (rfl) (Nat.le_of_ble_eq_true rfl) dX1_get_2 (fun H locs hP hD hS => ?_)
  have hP : va_P (dC, dI) vwCl [(h0, .inr (1, [.int (nI L), .ref t1, .ref t2, .int (q_nx nx), .int (nI kc), .int 0])), (t1, .inr (0, [.ref m1, .ref k1, .ref v1, .int (nI A.1)])), (m1, .inl (cI, L, .inl A.2.1)), (k1, .inl (cI, L, .inl A.2.2.1)), (v1, .inl (cI, L, .inl A.2.2.2)), (t2, .inr (0, [.ref m2, .ref k2, .ref v2, .int (nI B.1)])), (m2, .inl (cI, L, .inl B.2.1)), (k2, .inl (cI, L, .inl B.2.2.1)), (v2, .inl (cI, L, .inl B.2.2.2))] H := hP
  have hD : va_D Aq [(h0, .inr (1, [.int (nI L), .ref t1, .ref t2, .int (q_nx nx), .int (nI kc), .int 0])), (t1, .inr (0, [.ref m1, .ref k1, .ref v1, .int (nI A.1)])), (m1, .inl (cI, L, .inl A.2.1)), (k1, .inl (cI, L, .inl A.2.2.1)), (v1, .inl (cI, L, .inl A.2.2.2)), (t2, .inr (0, [.ref m2, .ref k2, .ref v2, .int (nI B.1)])), (m2, .inl (cI, L, .inl B.2.1)), (k2, .inl (cI, L, .inl B.2.2.1)), (v2, .inl (cI, L, .inl B.2.2.2))] := hD
  have e_0_5 : 0 = nI 0 := nI_0.symm
  have hP : va_P (dC, dI) vwCl [(h0, .inr (1, [.int (nI L), .ref t1, .ref t2, .int (q_nx nx), .int (nI kc), .int (nI 0)])), (t1, .inr (0, [.ref m1, .ref k1, .ref v1, .int (nI A.1)])), (m1, .inl (cI, L, .inl A.2.1)), (k1, .inl (cI, L, .inl A.2.2.1)), (v1, .inl (cI, L, .inl A.2.2.2)), (t2, .inr (0, [.ref m2, .ref k2, .ref v2, .int (nI B.1)])), (m2, .inl (cI, L, .inl B.2.1)), (k2, .inl (cI, L, .inl B.2.2.1)), (v2, .inl (cI, L, .inl B.2.2.2))] H := by rw [← e_0_5]; exact hP
  have hD : va_D Aq [(h0, .inr (1, [.int (nI L), .ref t1, .ref t2, .int (q_nx nx), .int (nI kc), .int (nI 0)])), (t1, .inr (0, [.ref m1, .ref k1, .ref v1, .int (nI A.1)])), (m1, .inl (cI, L, .inl A.2.1)), (k1, .inl (cI, L, .inl A.2.2.1)), (v1, .inl (cI, L, .inl A.2.2.2)), (t2, .inr (0, [.ref m2, .ref k2, .ref v2, .int (nI B.1)])), (m2, .inl (cI, L, .inl B.2.1)), (k2, .inl (cI, L, .inl B.2.2.1)), (v2, .inl (cI, L, .inl B.2.2.2))] := by rw [← e_0_5]; exact hD
  refine lv_aload_n hx hb dX1_get_5 rfl (lv_at hl 0 rfl) ?_
  refine lv_iload_n hx hb dX1_get_6 rfl (lv_at hl 1 rfl) ?_
  refine r_muI (wr := []) (rest := []) S0 (c_X1_lookUp l dC dI cI h0 t1 m1 k1 v1 t2 m2 k2 v2 L A B nx kc 0 k H.size hSZ hkc hc) (cwV 1 hts gX1_get_X1_lookUp rfl rfl rfl (by decide +kernel) ⟨Nat.le_of_ble_eq_true rfl, Nat.le_of_ble_eq_true rfl⟩) hK hP hD hS hA [0, 1, 2, 3, 4, 5, 6, 7, 8] [] rfl rfl (by decide) (by decide) (by decide) (ci := 1) (q0 := 0) rfl rfl rfl rfl hl.1 rfl (Nat.le_of_ble_eq_true rfl) dX1_get_7 ⟨Nat.zero_le _, Nat.zero_le _⟩ (fun r_7 _ H locs hu hP hD hS => ?_)
  have hP : va_P (dC, dI) vwCl [(h0, .inr (1, [.int (nI L), .ref t1, .ref t2, .int (q_nx nx), .int (nI kc), .int (nI (0 + q_lw A B nx k))])), (t1, .inr (0, [.ref m1, .ref k1, .ref v1, .int (nI A.1)])), (m1, .inl (cI, L, .inl A.2.1)), (k1, .inl (cI, L, .inl A.2.2.1)), (v1, .inl (cI, L, .inl A.2.2.2)), (t2, .inr (0, [.ref m2, .ref k2, .ref v2, .int (nI B.1)])), (m2, .inl (cI, L, .inl B.2.1)), (k2, .inl (cI, L, .inl B.2.2.1)), (v2, .inl (cI, L, .inl B.2.2.2))] H := hP.sub [0, 1, 2, 3, 4, 5, 6, 7, 8] rfl
  have hD : va_D Aq [(h0, .inr (1, [.int (nI L), .ref t1, .ref t2, .int (q_nx nx), .int (nI kc), .int (nI (0 + q_lw A B nx k))])), (t1, .inr (0, [.ref m1, .ref k1, .ref v1, .int (nI A.1)])), (m1, .inl (cI, L, .inl A.2.1)), (k1, .inl (cI, L, .inl A.2.2.1)), (v1, .inl (cI, L, .inl A.2.2.2)), (t2, .inr (0, [.ref m2, .ref k2, .ref v2, .int (nI B.1)])), (m2, .inl (cI, L, .inl B.2.1)), (k2, .inl (cI, L, .inl B.2.2.1)), (v2, .inl (cI, L, .inl B.2.2.2))] := hD.sub [0, 1, 2, 3, 4, 5, 6, 7, 8] (by decide) rfl
  have hu : r_7 = q_place A B nx k := hu
  subst hu
  have e_0_5 : nI (0 + q_lw A B nx k) = nI (q_lw A B nx k) := congrArg nI (Nat.zero_add _)
  have hP : va_P (dC, dI) vwCl [(h0, .inr (1, [.int (nI L), .ref t1, .ref t2, .int (q_nx nx), .int (nI kc), .int (nI (q_lw A B nx k))])), (t1, .inr (0, [.ref m1, .ref k1, .ref v1, .int (nI A.1)])), (m1, .inl (cI, L, .inl A.2.1)), (k1, .inl (cI, L, .inl A.2.2.1)), (v1, .inl (cI, L, .inl A.2.2.2)), (t2, .inr (0, [.ref m2, .ref k2, .ref v2, .int (nI B.1)])), (m2, .inl (cI, L, .inl B.2.1)), (k2, .inl (cI, L, .inl B.2.2.1)), (v2, .inl (cI, L, .inl B.2.2.2))] H := by rw [← e_0_5]; exact hP
  have hD : va_D Aq [(h0, .inr (1, [.int (nI L), .ref t1, .ref t2, .int (q_nx nx), .int (nI kc), .int (nI (q_lw A B nx k))])), (t1, .inr (0, [.ref m1, .ref k1, .ref v1, .int (nI A.1)])), (m1, .inl (cI, L, .inl A.2.1)), (k1, .inl (cI, L, .inl A.2.2.1)), (v1, .inl (cI, L, .inl A.2.2.2)), (t2, .inr (0, [.ref m2, .ref k2, .ref v2, .int (nI B.1)])), (m2, .inl (cI, L, .inl B.2.1)), (k2, .inl (cI, L, .inl B.2.2.1)), (v2, .inl (cI, L, .inl B.2.2.2))] := by rw [← e_0_5]; exact hD
  rcases q_place_c A B nx k with ⟨ha, ep⟩ | ⟨ha, hbt, ep⟩ | ⟨ha, hbt, ep⟩
  · refine r_eq (z := nI (q_lkE A k)) (ep) ?_
    refine lv_istore_n (lv' := [(2, .int (nI (q_lkE A k))), (0, .ref h0), (1, .int k)]) hx hb dX1_get_10 rfl hl (by decide) rfl (fun ls hl => ?_)
    refine lv_iload_n hx hb dX1_get_11 rfl (lv_at hl 0 rfl) ?_
    refine lv_sipush (v := 2000) hx hb dX1_get_12 (by decide) ?_
    refine lv_icmp_lt (tgt := 32) hx hb dX1_get_15 (by decide) (fun c_15 => ?_) (fun c_15 => ?_)
    · have h_15 := q_lt_t (a := q_lkE A k) (b := 2000) (by omega) (by omega) c_15
      refine lv_iload_n hx hb dX1_get_32 rfl (lv_at hl 0 rfl) ?_
      refine lv_if_lt (tgt := 48) hx hb dX1_get_33 (by decide) (fun c_33 => ?_) (fun c_33 => ?_)
      · have h_33 := q_lt_t (a := q_lkE A k) (b := 0) (by omega) (by omega) c_33
        omega
      · have h_33 := q_lt_f (a := q_lkE A k) (b := 0) (by omega) (by omega) c_33
        refine lv_aload_n hx hb dX1_get_36 rfl (lv_at hl 1 rfl) ?_
        refine va_get (D := (dC, dI)) (ci := 1) (v := .ref t1) (C := RX1) (T := TX1) (N := 6) hx hb hts hin_X1_get_X1 hown hK hP 0 rfl rfl 1 (by decide) (hts (.fieldLink RX1 22 "StepMap" "newTable" "LStepMap$Table;") (by decide +kernel)) (fun _ h9 => h9) rfl dX1_get_37 ?_
        refine va_get (D := (dC, dI)) (ci := 0) (v := .ref v1) (C := RX0) (T := TX0) (N := 4) hx hb hts hin_X1_get_X0 hown hK hP 1 rfl rfl 2 (by decide) (hts (.fieldLink RX1 41 "StepMap$Table" "values" "[I") (by decide +kernel)) (fun _ h9 => h9) rfl dX1_get_40 ?_
        refine lv_iload_n hx hb dX1_get_43 rfl (lv_at hl 0 rfl) ?_
        refine r_ld (i := q_lkE A k) hx hb hK hP 4 0 rfl rfl (by omega) (by omega) dX1_get_44 ?_
        refine lv_goto (tgt := 49) hx hb dX1_get_45 (by decide) ?_
        exact W.iret (v := A.2.2.2 (q_lkE A k)) hx hb hr (fun t ht hW => ⟨⟨_, (), rfl, (q_get_A ha).symm, by rw [ht]; exact hP, va_K.moved hW.alike hK, hD⟩, hS.F ht⟩) hS.2.2 dX1_get_49
    · have h_15 := q_lt_f (a := q_lkE A k) (b := 2000) (by omega) (by omega) c_15
      omega
  · refine r_eq (z := nI (2000 + q_lkE B k)) (ep) ?_
    refine lv_istore_n (lv' := [(2, .int (nI (2000 + q_lkE B k))), (0, .ref h0), (1, .int k)]) hx hb dX1_get_10 rfl hl (by decide) rfl (fun ls hl => ?_)
    refine lv_iload_n hx hb dX1_get_11 rfl (lv_at hl 0 rfl) ?_
    refine lv_sipush (v := 2000) hx hb dX1_get_12 (by decide) ?_
    refine lv_icmp_lt (tgt := 32) hx hb dX1_get_15 (by decide) (fun c_15 => ?_) (fun c_15 => ?_)
    · have h_15 := q_lt_t (a := 2000 + q_lkE B k) (b := 2000) (by omega) (by omega) c_15
      omega
    · have h_15 := q_lt_f (a := 2000 + q_lkE B k) (b := 2000) (by omega) (by omega) c_15
      refine lv_aload_n hx hb dX1_get_18 rfl (lv_at hl 1 rfl) ?_
      refine va_get (D := (dC, dI)) (ci := 1) (v := .ref t2) (C := RX1) (T := TX1) (N := 6) hx hb hts hin_X1_get_X1 hown hK hP 0 rfl rfl 2 (by decide) (hts (.fieldLink RX1 26 "StepMap" "oldTable" "LStepMap$Table;") (by decide +kernel)) (fun _ h9 => h9) rfl dX1_get_19 ?_
      refine va_get (D := (dC, dI)) (ci := 0) (v := .ref v2) (C := RX0) (T := TX0) (N := 4) hx hb hts hin_X1_get_X0 hown hK hP 5 rfl rfl 2 (by decide) (hts (.fieldLink RX1 41 "StepMap$Table" "values" "[I") (by decide +kernel)) (fun _ h9 => h9) rfl dX1_get_22 ?_
      refine lv_iload_n hx hb dX1_get_25 rfl (lv_at hl 0 rfl) ?_
      refine lv_sipush (v := 2000) hx hb dX1_get_26 (by decide) ?_
      refine lv_isub hx hb dX1_get_29 ?_
      refine r_eq (z := nI (q_lkE B k)) (q_2000 _) ?_
      refine r_ld (i := q_lkE B k) hx hb hK hP 8 0 rfl rfl (by omega) (by omega) dX1_get_30 ?_
      exact W.iret (v := B.2.2.2 (q_lkE B k)) hx hb hr (fun t ht hW => ⟨⟨_, (), rfl, (q_get_B ha hbt).symm, by rw [ht]; exact hP, va_K.moved hW.alike hK, hD⟩, hS.F ht⟩) hS.2.2 dX1_get_31
  · refine r_eq (z := -1 - nI (q_lkE A k)) (ep) ?_
    refine lv_istore_n (lv' := [(2, .int (-1 - nI (q_lkE A k))), (0, .ref h0), (1, .int k)]) hx hb dX1_get_10 rfl hl (by decide) rfl (fun ls hl => ?_)
    refine lv_iload_n hx hb dX1_get_11 rfl (lv_at hl 0 rfl) ?_
    refine lv_sipush (v := 2000) hx hb dX1_get_12 (by decide) ?_
    refine lv_icmp_lt (tgt := 32) hx hb dX1_get_15 (by decide) (fun c_15 => ?_) (fun c_15 => ?_)
    · refine lv_iload_n hx hb dX1_get_32 rfl (lv_at hl 0 rfl) ?_
      refine lv_if_lt (tgt := 48) hx hb dX1_get_33 (by decide) (fun c_33 => ?_) (fun c_33 => ?_)
      · refine lv_iconst (v := 0) hx hb dX1_get_48 (by decide) ?_
        exact W.iret (v := 0) hx hb hr (fun t ht hW => ⟨⟨_, (), rfl, (q_get_N ha hbt).symm, by rw [ht]; exact hP, va_K.moved hW.alike hK, hD⟩, hS.F ht⟩) hS.2.2 dX1_get_49
      · exact absurd (q_neg1 (by omega)) c_33
    · exact absurd (q_neg_lt (by omega)) c_15
set_option maxHeartbeats 4000000 in
set_option maxRecDepth 100000 in
theorem c_X1_has (l : Launch) (dC : Nat → ClassId) (dI : Nat → Nat → Nat) (cI : ClassId) (h0 t1 m1 k1 v1 t2 m2 k2 v2 L : Nat) (A B : q_TB) (nx : Option Nat) (kc w : Nat) (k : Int32) (sz : Nat) (hIV : q_IV L A B nx kc) : Met l yX1_has wsX1_has ({ frames := 4, cells := 0, slots := 0, locals := 91 }) (r_Mc (dC, dI) vwCl [(cI, .int)] [(h0, .inr (1, [.int (nI L), .ref t1, .ref t2, .int (q_nx nx), .int (nI kc), .int (nI w)])), (t1, .inr (0, [.ref m1, .ref k1, .ref v1, .int (nI A.1)])), (m1, .inl (cI, L, .inl A.2.1)), (k1, .inl (cI, L, .inl A.2.2.1)), (v1, .inl (cI, L, .inl A.2.2.2)), (t2, .inr (0, [.ref m2, .ref k2, .ref v2, .int (nI B.1)])), (m2, .inl (cI, L, .inl B.2.1)), (k2, .inl (cI, L, .inl B.2.2.1)), (v2, .inl (cI, L, .inl B.2.2.2))] sz [.ref h0, .int k]) (va_Qi (fun (r : Int32) (_ : Unit) => r = q_b (q_has A B nx k)) (fun u t => r_B (dC, dI) vwCl [(cI, .int)] (va_A [(h0, .inr (1, [.int (nI L), .ref t1, .ref t2, .int (q_nx nx), .int (nI kc), .int (nI w)])), (t1, .inr (0, [.ref m1, .ref k1, .ref v1, .int (nI A.1)])), (m1, .inl (cI, L, .inl A.2.1)), (k1, .inl (cI, L, .inl A.2.2.1)), (v1, .inl (cI, L, .inl A.2.2.2)), (t2, .inr (0, [.ref m2, .ref k2, .ref v2, .int (nI B.1)])), (m2, .inl (cI, L, .inl B.2.1)), (k2, .inl (cI, L, .inl B.2.2.1)), (v2, .inl (cI, L, .inl B.2.2.2))] sz) ((fun _ => [(h0, .inr (1, [.int (nI L), .ref t1, .ref t2, .int (q_nx nx), .int (nI kc), .int (nI (q_lw A B nx k))])), (t1, .inr (0, [.ref m1, .ref k1, .ref v1, .int (nI A.1)])), (m1, .inl (cI, L, .inl A.2.1)), (k1, .inl (cI, L, .inl A.2.2.1)), (v1, .inl (cI, L, .inl A.2.2.2)), (t2, .inr (0, [.ref m2, .ref k2, .ref v2, .int (nI B.1)])), (m2, .inl (cI, L, .inl B.2.1)), (k2, .inl (cI, L, .inl B.2.2.1)), (v2, .inl (cI, L, .inl B.2.2.2))]) u) t) (va_A [(h0, .inr (1, [.int (nI L), .ref t1, .ref t2, .int (q_nx nx), .int (nI kc), .int (nI w)])), (t1, .inr (0, [.ref m1, .ref k1, .ref v1, .int (nI A.1)])), (m1, .inl (cI, L, .inl A.2.1)), (k1, .inl (cI, L, .inl A.2.2.1)), (v1, .inl (cI, L, .inl A.2.2.2)), (t2, .inr (0, [.ref m2, .ref k2, .ref v2, .int (nI B.1)])), (m2, .inl (cI, L, .inl B.2.1)), (k2, .inl (cI, L, .inl B.2.2.1)), (v2, .inl (cI, L, .inl B.2.2.2))] sz)) 0 0 (va_A [(h0, .inr (1, [.int (nI L), .ref t1, .ref t2, .int (q_nx nx), .int (nI kc), .int (nI w)])), (t1, .inr (0, [.ref m1, .ref k1, .ref v1, .int (nI A.1)])), (m1, .inl (cI, L, .inl A.2.1)), (k1, .inl (cI, L, .inl A.2.2.1)), (v1, .inl (cI, L, .inl A.2.2.2)), (t2, .inr (0, [.ref m2, .ref k2, .ref v2, .int (nI B.1)])), (m2, .inl (cI, L, .inl B.2.1)), (k2, .inl (cI, L, .inl B.2.2.1)), (v2, .inl (cI, L, .inl B.2.2.2))] sz) := by
  refine Met.ofW (cc := cX1_has) (maxL := 2) (ret := (some .boolean)) (by decide) rfl ?_
  intro p e s m args below meth c s₁ Bd hml hv
  obtain ⟨rfl, hsz, hP, hK, hD0⟩ := hv
  have hx := Bd.exec
  have hb := Bd.bytes
  have hr := Bd.returns
  have hts := atoms_spec (ws := wsX1_has) Bd.pre
  have hown : s.vm.findClass RX1 = some m.cls := findClass_of_methodNamed Bd.named
  have hlocks := Bd.notSynchronized
  have S0 : CallFix p m c cX1_has 2 s _ wsX1_has RX1 := ⟨hx, hb, hml, hown, hts⟩
  subst hsz
  have hD := hD0.self (sz := s.heap.size)
  generalize hAe : va_A [(h0, .inr (1, [.int (nI L), .ref t1, .ref t2, .int (q_nx nx), .int (nI kc), .int (nI w)])), (t1, .inr (0, [.ref m1, .ref k1, .ref v1, .int (nI A.1)])), (m1, .inl (cI, L, .inl A.2.1)), (k1, .inl (cI, L, .inl A.2.2.1)), (v1, .inl (cI, L, .inl A.2.2.2)), (t2, .inr (0, [.ref m2, .ref k2, .ref v2, .int (nI B.1)])), (m2, .inl (cI, L, .inl B.2.1)), (k2, .inl (cI, L, .inl B.2.2.1)), (v2, .inl (cI, L, .inl B.2.2.2))] s.heap.size = Aq at hD ⊢
  have hA : ∀ q : Nat, s.heap.size ≤ q → Aq q := fun q h => by rw [← hAe]; exact Or.inr h
  have hS : va_S Aq s.heap s.heap [] := va_S.rf
  have hD : va_D Aq [(h0, .inr (1, [.int (nI L), .ref t1, .ref t2, .int (q_nx nx), .int (nI kc), .int (nI w)])), (t1, .inr (0, [.ref m1, .ref k1, .ref v1, .int (nI A.1)])), (m1, .inl (cI, L, .inl A.2.1)), (k1, .inl (cI, L, .inl A.2.2.1)), (v1, .inl (cI, L, .inl A.2.2.2)), (t2, .inr (0, [.ref m2, .ref k2, .ref v2, .int (nI B.1)])), (m2, .inl (cI, L, .inl B.2.1)), (k2, .inl (cI, L, .inl B.2.2.1)), (v2, .inl (cI, L, .inl B.2.2.2))] := hD
  have hP : va_P (dC, dI) vwCl [(h0, .inr (1, [.int (nI L), .ref t1, .ref t2, .int (q_nx nx), .int (nI kc), .int (nI w)])), (t1, .inr (0, [.ref m1, .ref k1, .ref v1, .int (nI A.1)])), (m1, .inl (cI, L, .inl A.2.1)), (k1, .inl (cI, L, .inl A.2.2.1)), (v1, .inl (cI, L, .inl A.2.2.2)), (t2, .inr (0, [.ref m2, .ref k2, .ref v2, .int (nI B.1)])), (m2, .inl (cI, L, .inl B.2.1)), (k2, .inl (cI, L, .inl B.2.2.1)), (v2, .inl (cI, L, .inl B.2.2.2))] s.heap := hP
  have hl := lv_entry ([.ref h0, .int k]) (n := 2) (Nat.le_of_ble_eq_true rfl)
  rw [lg_entry_eq]
  generalize (lg_sl ([.ref h0, .int k]) ++ List.replicate (2 - (lg_sl ([.ref h0, .int k])).length) Slot.unset).toArray = ls at hl ⊢
  have hl : lv_has ls 2 [(0, .ref h0), (1, .int k)] := hl
  have hSZ := hIV.1
  have hkc : kc ≤ 4096 := by have := q_iv_kc hIV; omega
  have hc := q_iv_c hIV
  obtain ⟨hLp, hpA, hAL, hpB, hBL⟩ := id hSZ
  have hL := (q_pw_8 hLp).2
  have hA8 := q_pw_8 hpA
  have hB8 := q_pw_8 hpB
  have heA := q_lkE_lt (t := A) k (by omega)
  have heB := q_lkE_lt (t := B) k (by omega)
  refine lv_aload_n hx hb dX1_has_0 rfl (lv_at hl 0 rfl) ?_
  refine lv_iconst (v := 0) hx hb dX1_has_1 (by decide) ?_
  refine va_put (D := (dC, dI)) (ci := 1) (v := .int 0) (ty := .int) (C := RX1) (T := TX1) (N := 6) hx hb hts hin_X1_has_X1 tyX1 tyX1_ok nmX1 hown hK hP hD hS 0 rfl rfl 5 (by decide) (hts (.fieldLink RX1 35 "StepMap" "work" "I") (by decide +kernel)) (fun _ h9 => h9) rfl (by decide +kernel) (rfl) (rfl) (Nat.le_of_ble_eq_true rfl) dX1_has_2 (fun H locs hP hD hS => ?_)
  have hP : va_P (dC, dI) vwCl [(h0, .inr (1, [.int (nI L), .ref t1, .ref t2, .int (q_nx nx), .int (nI kc), .int 0])), (t1, .inr (0, [.ref m1, .ref k1, .ref v1, .int (nI A.1)])), (m1, .inl (cI, L, .inl A.2.1)), (k1, .inl (cI, L, .inl A.2.2.1)), (v1, .inl (cI, L, .inl A.2.2.2)), (t2, .inr (0, [.ref m2, .ref k2, .ref v2, .int (nI B.1)])), (m2, .inl (cI, L, .inl B.2.1)), (k2, .inl (cI, L, .inl B.2.2.1)), (v2, .inl (cI, L, .inl B.2.2.2))] H := hP
  have hD : va_D Aq [(h0, .inr (1, [.int (nI L), .ref t1, .ref t2, .int (q_nx nx), .int (nI kc), .int 0])), (t1, .inr (0, [.ref m1, .ref k1, .ref v1, .int (nI A.1)])), (m1, .inl (cI, L, .inl A.2.1)), (k1, .inl (cI, L, .inl A.2.2.1)), (v1, .inl (cI, L, .inl A.2.2.2)), (t2, .inr (0, [.ref m2, .ref k2, .ref v2, .int (nI B.1)])), (m2, .inl (cI, L, .inl B.2.1)), (k2, .inl (cI, L, .inl B.2.2.1)), (v2, .inl (cI, L, .inl B.2.2.2))] := hD
  have e_0_5 : 0 = nI 0 := nI_0.symm
  have hP : va_P (dC, dI) vwCl [(h0, .inr (1, [.int (nI L), .ref t1, .ref t2, .int (q_nx nx), .int (nI kc), .int (nI 0)])), (t1, .inr (0, [.ref m1, .ref k1, .ref v1, .int (nI A.1)])), (m1, .inl (cI, L, .inl A.2.1)), (k1, .inl (cI, L, .inl A.2.2.1)), (v1, .inl (cI, L, .inl A.2.2.2)), (t2, .inr (0, [.ref m2, .ref k2, .ref v2, .int (nI B.1)])), (m2, .inl (cI, L, .inl B.2.1)), (k2, .inl (cI, L, .inl B.2.2.1)), (v2, .inl (cI, L, .inl B.2.2.2))] H := by rw [← e_0_5]; exact hP
  have hD : va_D Aq [(h0, .inr (1, [.int (nI L), .ref t1, .ref t2, .int (q_nx nx), .int (nI kc), .int (nI 0)])), (t1, .inr (0, [.ref m1, .ref k1, .ref v1, .int (nI A.1)])), (m1, .inl (cI, L, .inl A.2.1)), (k1, .inl (cI, L, .inl A.2.2.1)), (v1, .inl (cI, L, .inl A.2.2.2)), (t2, .inr (0, [.ref m2, .ref k2, .ref v2, .int (nI B.1)])), (m2, .inl (cI, L, .inl B.2.1)), (k2, .inl (cI, L, .inl B.2.2.1)), (v2, .inl (cI, L, .inl B.2.2.2))] := by rw [← e_0_5]; exact hD
  refine lv_aload_n hx hb dX1_has_5 rfl (lv_at hl 0 rfl) ?_
  refine lv_iload_n hx hb dX1_has_6 rfl (lv_at hl 1 rfl) ?_
  refine r_muI (wr := []) (rest := []) S0 (c_X1_lookUp l dC dI cI h0 t1 m1 k1 v1 t2 m2 k2 v2 L A B nx kc 0 k H.size hSZ hkc hc) (cwV 1 hts gX1_has_X1_lookUp rfl rfl rfl (by decide +kernel) ⟨Nat.le_of_ble_eq_true rfl, Nat.le_of_ble_eq_true rfl⟩) hK hP hD hS hA [0, 1, 2, 3, 4, 5, 6, 7, 8] [] rfl rfl (by decide) (by decide) (by decide) (ci := 1) (q0 := 0) rfl rfl rfl rfl hl.1 rfl (Nat.le_of_ble_eq_true rfl) dX1_has_7 ⟨Nat.zero_le _, Nat.zero_le _⟩ (fun r_7 _ H locs hu hP hD hS => ?_)
  have hP : va_P (dC, dI) vwCl [(h0, .inr (1, [.int (nI L), .ref t1, .ref t2, .int (q_nx nx), .int (nI kc), .int (nI (0 + q_lw A B nx k))])), (t1, .inr (0, [.ref m1, .ref k1, .ref v1, .int (nI A.1)])), (m1, .inl (cI, L, .inl A.2.1)), (k1, .inl (cI, L, .inl A.2.2.1)), (v1, .inl (cI, L, .inl A.2.2.2)), (t2, .inr (0, [.ref m2, .ref k2, .ref v2, .int (nI B.1)])), (m2, .inl (cI, L, .inl B.2.1)), (k2, .inl (cI, L, .inl B.2.2.1)), (v2, .inl (cI, L, .inl B.2.2.2))] H := hP.sub [0, 1, 2, 3, 4, 5, 6, 7, 8] rfl
  have hD : va_D Aq [(h0, .inr (1, [.int (nI L), .ref t1, .ref t2, .int (q_nx nx), .int (nI kc), .int (nI (0 + q_lw A B nx k))])), (t1, .inr (0, [.ref m1, .ref k1, .ref v1, .int (nI A.1)])), (m1, .inl (cI, L, .inl A.2.1)), (k1, .inl (cI, L, .inl A.2.2.1)), (v1, .inl (cI, L, .inl A.2.2.2)), (t2, .inr (0, [.ref m2, .ref k2, .ref v2, .int (nI B.1)])), (m2, .inl (cI, L, .inl B.2.1)), (k2, .inl (cI, L, .inl B.2.2.1)), (v2, .inl (cI, L, .inl B.2.2.2))] := hD.sub [0, 1, 2, 3, 4, 5, 6, 7, 8] (by decide) rfl
  have hu : r_7 = q_place A B nx k := hu
  subst hu
  have e_0_5 : nI (0 + q_lw A B nx k) = nI (q_lw A B nx k) := congrArg nI (Nat.zero_add _)
  have hP : va_P (dC, dI) vwCl [(h0, .inr (1, [.int (nI L), .ref t1, .ref t2, .int (q_nx nx), .int (nI kc), .int (nI (q_lw A B nx k))])), (t1, .inr (0, [.ref m1, .ref k1, .ref v1, .int (nI A.1)])), (m1, .inl (cI, L, .inl A.2.1)), (k1, .inl (cI, L, .inl A.2.2.1)), (v1, .inl (cI, L, .inl A.2.2.2)), (t2, .inr (0, [.ref m2, .ref k2, .ref v2, .int (nI B.1)])), (m2, .inl (cI, L, .inl B.2.1)), (k2, .inl (cI, L, .inl B.2.2.1)), (v2, .inl (cI, L, .inl B.2.2.2))] H := by rw [← e_0_5]; exact hP
  have hD : va_D Aq [(h0, .inr (1, [.int (nI L), .ref t1, .ref t2, .int (q_nx nx), .int (nI kc), .int (nI (q_lw A B nx k))])), (t1, .inr (0, [.ref m1, .ref k1, .ref v1, .int (nI A.1)])), (m1, .inl (cI, L, .inl A.2.1)), (k1, .inl (cI, L, .inl A.2.2.1)), (v1, .inl (cI, L, .inl A.2.2.2)), (t2, .inr (0, [.ref m2, .ref k2, .ref v2, .int (nI B.1)])), (m2, .inl (cI, L, .inl B.2.1)), (k2, .inl (cI, L, .inl B.2.2.1)), (v2, .inl (cI, L, .inl B.2.2.2))] := by rw [← e_0_5]; exact hD
  rcases q_place_c A B nx k with ⟨ha, ep⟩ | ⟨ha, hbt, ep⟩ | ⟨ha, hbt, ep⟩
  · refine r_eq (z := nI (q_lkE A k)) (ep) ?_
    refine lv_if_lt (tgt := 17) hx hb dX1_has_10 (by decide) (fun c_10 => ?_) (fun c_10 => ?_)
    · have h_10 := q_lt_t (a := q_lkE A k) (b := 0) (by omega) (by omega) c_10
      omega
    · have h_10 := q_lt_f (a := q_lkE A k) (b := 0) (by omega) (by omega) c_10
      refine lv_iconst (v := 1) hx hb dX1_has_13 (by decide) ?_
      refine lv_goto (tgt := 18) hx hb dX1_has_14 (by decide) ?_
      exact W.zret (v := 1) hx hb hr (rfl) (fun t ht hW => ⟨⟨_, (), rfl, (q_b_t (Or.inl ha)).symm, by rw [ht]; exact hP, va_K.moved hW.alike hK, hD⟩, hS.F ht⟩) hS.2.2 dX1_has_18
  · refine r_eq (z := nI (2000 + q_lkE B k)) (ep) ?_
    refine lv_if_lt (tgt := 17) hx hb dX1_has_10 (by decide) (fun c_10 => ?_) (fun c_10 => ?_)
    · have h_10 := q_lt_t (a := 2000 + q_lkE B k) (b := 0) (by omega) (by omega) c_10
      omega
    · have h_10 := q_lt_f (a := 2000 + q_lkE B k) (b := 0) (by omega) (by omega) c_10
      refine lv_iconst (v := 1) hx hb dX1_has_13 (by decide) ?_
      refine lv_goto (tgt := 18) hx hb dX1_has_14 (by decide) ?_
      exact W.zret (v := 1) hx hb hr (rfl) (fun t ht hW => ⟨⟨_, (), rfl, (q_b_t (Or.inr hbt)).symm, by rw [ht]; exact hP, va_K.moved hW.alike hK, hD⟩, hS.F ht⟩) hS.2.2 dX1_has_18
  · refine r_eq (z := -1 - nI (q_lkE A k)) (ep) ?_
    refine lv_if_lt (tgt := 17) hx hb dX1_has_10 (by decide) (fun c_10 => ?_) (fun c_10 => ?_)
    · refine lv_iconst (v := 0) hx hb dX1_has_17 (by decide) ?_
      exact W.zret (v := 0) hx hb hr (rfl) (fun t ht hW => ⟨⟨_, (), rfl, (q_b_f (fun z => z.elim ha hbt)).symm, by rw [ht]; exact hP, va_K.moved hW.alike hK, hD⟩, hS.F ht⟩) hS.2.2 dX1_has_18
    · exact absurd (q_neg1 (by omega)) c_10
set_option maxHeartbeats 4000000 in
set_option maxRecDepth 100000 in
theorem c_X1_slot (l : Launch) (dC : Nat → ClassId) (dI : Nat → Nat → Nat) (cI : ClassId) (h0 t1 m1 k1 v1 t2 m2 k2 v2 L : Nat) (A B : q_TB) (nx : Option Nat) (kc w : Nat) (k : Int32) (sz : Nat) (hIV : q_IV L A B nx kc) : Met l yX1_slot wsX1_slot ({ frames := 4, cells := 0, slots := 0, locals := 91 }) (r_Mc (dC, dI) vwCl [(cI, .int)] [(h0, .inr (1, [.int (nI L), .ref t1, .ref t2, .int (q_nx nx), .int (nI kc), .int (nI w)])), (t1, .inr (0, [.ref m1, .ref k1, .ref v1, .int (nI A.1)])), (m1, .inl (cI, L, .inl A.2.1)), (k1, .inl (cI, L, .inl A.2.2.1)), (v1, .inl (cI, L, .inl A.2.2.2)), (t2, .inr (0, [.ref m2, .ref k2, .ref v2, .int (nI B.1)])), (m2, .inl (cI, L, .inl B.2.1)), (k2, .inl (cI, L, .inl B.2.2.1)), (v2, .inl (cI, L, .inl B.2.2.2))] sz [.ref h0, .int k]) (va_Qi (fun (r : Int32) (_ : Unit) => r = q_slot A B nx k) (fun u t => r_B (dC, dI) vwCl [(cI, .int)] (va_A [(h0, .inr (1, [.int (nI L), .ref t1, .ref t2, .int (q_nx nx), .int (nI kc), .int (nI w)])), (t1, .inr (0, [.ref m1, .ref k1, .ref v1, .int (nI A.1)])), (m1, .inl (cI, L, .inl A.2.1)), (k1, .inl (cI, L, .inl A.2.2.1)), (v1, .inl (cI, L, .inl A.2.2.2)), (t2, .inr (0, [.ref m2, .ref k2, .ref v2, .int (nI B.1)])), (m2, .inl (cI, L, .inl B.2.1)), (k2, .inl (cI, L, .inl B.2.2.1)), (v2, .inl (cI, L, .inl B.2.2.2))] sz) ((fun _ => [(h0, .inr (1, [.int (nI L), .ref t1, .ref t2, .int (q_nx nx), .int (nI kc), .int (nI w)])), (t1, .inr (0, [.ref m1, .ref k1, .ref v1, .int (nI A.1)])), (m1, .inl (cI, L, .inl A.2.1)), (k1, .inl (cI, L, .inl A.2.2.1)), (v1, .inl (cI, L, .inl A.2.2.2)), (t2, .inr (0, [.ref m2, .ref k2, .ref v2, .int (nI B.1)])), (m2, .inl (cI, L, .inl B.2.1)), (k2, .inl (cI, L, .inl B.2.2.1)), (v2, .inl (cI, L, .inl B.2.2.2))]) u) t) (va_A [(h0, .inr (1, [.int (nI L), .ref t1, .ref t2, .int (q_nx nx), .int (nI kc), .int (nI w)])), (t1, .inr (0, [.ref m1, .ref k1, .ref v1, .int (nI A.1)])), (m1, .inl (cI, L, .inl A.2.1)), (k1, .inl (cI, L, .inl A.2.2.1)), (v1, .inl (cI, L, .inl A.2.2.2)), (t2, .inr (0, [.ref m2, .ref k2, .ref v2, .int (nI B.1)])), (m2, .inl (cI, L, .inl B.2.1)), (k2, .inl (cI, L, .inl B.2.2.1)), (v2, .inl (cI, L, .inl B.2.2.2))] sz)) 0 0 (va_A [(h0, .inr (1, [.int (nI L), .ref t1, .ref t2, .int (q_nx nx), .int (nI kc), .int (nI w)])), (t1, .inr (0, [.ref m1, .ref k1, .ref v1, .int (nI A.1)])), (m1, .inl (cI, L, .inl A.2.1)), (k1, .inl (cI, L, .inl A.2.2.1)), (v1, .inl (cI, L, .inl A.2.2.2)), (t2, .inr (0, [.ref m2, .ref k2, .ref v2, .int (nI B.1)])), (m2, .inl (cI, L, .inl B.2.1)), (k2, .inl (cI, L, .inl B.2.2.1)), (v2, .inl (cI, L, .inl B.2.2.2))] sz) := by
  refine Met.ofW (cc := cX1_slot) (maxL := 4) (ret := (some .int)) (by decide) rfl ?_
  intro p e s m args below meth c s₁ Bd hml hv
  obtain ⟨rfl, hsz, hP, hK, hD0⟩ := hv
  have hx := Bd.exec
  have hb := Bd.bytes
  have hr := Bd.returns
  have hts := atoms_spec (ws := wsX1_slot) Bd.pre
  have hown : s.vm.findClass RX1 = some m.cls := findClass_of_methodNamed Bd.named
  have hlocks := Bd.notSynchronized
  have S0 : CallFix p m c cX1_slot 4 s _ wsX1_slot RX1 := ⟨hx, hb, hml, hown, hts⟩
  subst hsz
  have hD := hD0.self (sz := s.heap.size)
  generalize hAe : va_A [(h0, .inr (1, [.int (nI L), .ref t1, .ref t2, .int (q_nx nx), .int (nI kc), .int (nI w)])), (t1, .inr (0, [.ref m1, .ref k1, .ref v1, .int (nI A.1)])), (m1, .inl (cI, L, .inl A.2.1)), (k1, .inl (cI, L, .inl A.2.2.1)), (v1, .inl (cI, L, .inl A.2.2.2)), (t2, .inr (0, [.ref m2, .ref k2, .ref v2, .int (nI B.1)])), (m2, .inl (cI, L, .inl B.2.1)), (k2, .inl (cI, L, .inl B.2.2.1)), (v2, .inl (cI, L, .inl B.2.2.2))] s.heap.size = Aq at hD ⊢
  have hA : ∀ q : Nat, s.heap.size ≤ q → Aq q := fun q h => by rw [← hAe]; exact Or.inr h
  have hS : va_S Aq s.heap s.heap [] := va_S.rf
  have hD : va_D Aq [(h0, .inr (1, [.int (nI L), .ref t1, .ref t2, .int (q_nx nx), .int (nI kc), .int (nI w)])), (t1, .inr (0, [.ref m1, .ref k1, .ref v1, .int (nI A.1)])), (m1, .inl (cI, L, .inl A.2.1)), (k1, .inl (cI, L, .inl A.2.2.1)), (v1, .inl (cI, L, .inl A.2.2.2)), (t2, .inr (0, [.ref m2, .ref k2, .ref v2, .int (nI B.1)])), (m2, .inl (cI, L, .inl B.2.1)), (k2, .inl (cI, L, .inl B.2.2.1)), (v2, .inl (cI, L, .inl B.2.2.2))] := hD
  have hP : va_P (dC, dI) vwCl [(h0, .inr (1, [.int (nI L), .ref t1, .ref t2, .int (q_nx nx), .int (nI kc), .int (nI w)])), (t1, .inr (0, [.ref m1, .ref k1, .ref v1, .int (nI A.1)])), (m1, .inl (cI, L, .inl A.2.1)), (k1, .inl (cI, L, .inl A.2.2.1)), (v1, .inl (cI, L, .inl A.2.2.2)), (t2, .inr (0, [.ref m2, .ref k2, .ref v2, .int (nI B.1)])), (m2, .inl (cI, L, .inl B.2.1)), (k2, .inl (cI, L, .inl B.2.2.1)), (v2, .inl (cI, L, .inl B.2.2.2))] s.heap := hP
  have hl := lv_entry ([.ref h0, .int k]) (n := 4) (Nat.le_of_ble_eq_true rfl)
  rw [lg_entry_eq]
  generalize (lg_sl ([.ref h0, .int k]) ++ List.replicate (4 - (lg_sl ([.ref h0, .int k])).length) Slot.unset).toArray = ls at hl ⊢
  have hl : lv_has ls 4 [(0, .ref h0), (1, .int k)] := hl
  have hSZ := hIV.1
  have hkc : kc ≤ 4096 := by have := q_iv_kc hIV; omega
  have hc := q_iv_c hIV
  obtain ⟨hLp, hpA, hAL, hpB, hBL⟩ := id hSZ
  have hL := (q_pw_8 hLp).2
  have hA8 := q_pw_8 hpA
  have hB8 := q_pw_8 hpB
  have heA := q_lkE_lt (t := A) k (by omega)
  have heB := q_lkE_lt (t := B) k (by omega)
  refine lv_aload_n hx hb dX1_slot_0 rfl (lv_at hl 0 rfl) ?_
  refine va_get (D := (dC, dI)) (ci := 1) (v := .int (nI w)) (C := RX1) (T := TX1) (N := 6) hx hb hts hin_X1_slot_X1 hown hK hP 0 rfl rfl 5 (by decide) (hts (.fieldLink RX1 35 "StepMap" "work" "I") (by decide +kernel)) (fun _ h9 => h9) rfl dX1_slot_1 ?_
  refine lv_istore_n (lv' := [(2, .int (nI w)), (0, .ref h0), (1, .int k)]) hx hb dX1_slot_4 rfl hl (by decide) rfl (fun ls hl => ?_)
  refine lv_aload_n hx hb dX1_slot_5 rfl (lv_at hl 1 rfl) ?_
  refine lv_iload_n hx hb dX1_slot_6 rfl (lv_at hl 2 rfl) ?_
  refine r_muI (wr := []) (rest := []) S0 (c_X1_lookUp l dC dI cI h0 t1 m1 k1 v1 t2 m2 k2 v2 L A B nx kc w k s.heap.size hSZ hkc hc) (cwV 1 hts gX1_slot_X1_lookUp rfl rfl rfl (by decide +kernel) ⟨Nat.le_of_ble_eq_true rfl, Nat.le_of_ble_eq_true rfl⟩) hK hP hD hS hA [0, 1, 2, 3, 4, 5, 6, 7, 8] [] rfl rfl (by decide) (by decide) (by decide) (ci := 1) (q0 := 0) rfl rfl rfl rfl hl.1 rfl (Nat.le_of_ble_eq_true rfl) dX1_slot_7 ⟨Nat.zero_le _, Nat.zero_le _⟩ (fun r_7 _ H locs hu hP hD hS => ?_)
  have hP : va_P (dC, dI) vwCl [(h0, .inr (1, [.int (nI L), .ref t1, .ref t2, .int (q_nx nx), .int (nI kc), .int (nI (w + q_lw A B nx k))])), (t1, .inr (0, [.ref m1, .ref k1, .ref v1, .int (nI A.1)])), (m1, .inl (cI, L, .inl A.2.1)), (k1, .inl (cI, L, .inl A.2.2.1)), (v1, .inl (cI, L, .inl A.2.2.2)), (t2, .inr (0, [.ref m2, .ref k2, .ref v2, .int (nI B.1)])), (m2, .inl (cI, L, .inl B.2.1)), (k2, .inl (cI, L, .inl B.2.2.1)), (v2, .inl (cI, L, .inl B.2.2.2))] H := hP.sub [0, 1, 2, 3, 4, 5, 6, 7, 8] rfl
  have hD : va_D Aq [(h0, .inr (1, [.int (nI L), .ref t1, .ref t2, .int (q_nx nx), .int (nI kc), .int (nI (w + q_lw A B nx k))])), (t1, .inr (0, [.ref m1, .ref k1, .ref v1, .int (nI A.1)])), (m1, .inl (cI, L, .inl A.2.1)), (k1, .inl (cI, L, .inl A.2.2.1)), (v1, .inl (cI, L, .inl A.2.2.2)), (t2, .inr (0, [.ref m2, .ref k2, .ref v2, .int (nI B.1)])), (m2, .inl (cI, L, .inl B.2.1)), (k2, .inl (cI, L, .inl B.2.2.1)), (v2, .inl (cI, L, .inl B.2.2.2))] := hD.sub [0, 1, 2, 3, 4, 5, 6, 7, 8] (by decide) rfl
  have hu : r_7 = q_place A B nx k := hu
  subst hu
  rcases q_place_c A B nx k with ⟨ha, ep⟩ | ⟨ha, hbt, ep⟩ | ⟨ha, hbt, ep⟩
  · refine r_eq (z := nI (q_lkE A k)) (ep) ?_
    refine lv_istore_n (lv' := [(3, .int (nI (q_lkE A k))), (2, .int (nI w)), (0, .ref h0), (1, .int k)]) hx hb dX1_slot_10 rfl hl (by decide) rfl (fun ls hl => ?_)
    refine lv_aload_n hx hb dX1_slot_11 rfl (lv_at hl 2 rfl) ?_
    refine lv_iload_n hx hb dX1_slot_12 rfl (lv_at hl 1 rfl) ?_
    refine va_put (D := (dC, dI)) (ci := 1) (v := .int (nI w)) (ty := .int) (C := RX1) (T := TX1) (N := 6) hx hb hts hin_X1_slot_X1 tyX1 tyX1_ok nmX1 hown hK hP hD hS 0 rfl rfl 5 (by decide) (hts (.fieldLink RX1 35 "StepMap" "work" "I") (by decide +kernel)) (fun _ h9 => h9) rfl (by decide +kernel) (rfl) (rfl) (Nat.le_of_ble_eq_true rfl) dX1_slot_13 (fun H locs hP hD hS => ?_)
    have hP : va_P (dC, dI) vwCl [(h0, .inr (1, [.int (nI L), .ref t1, .ref t2, .int (q_nx nx), .int (nI kc), .int (nI w)])), (t1, .inr (0, [.ref m1, .ref k1, .ref v1, .int (nI A.1)])), (m1, .inl (cI, L, .inl A.2.1)), (k1, .inl (cI, L, .inl A.2.2.1)), (v1, .inl (cI, L, .inl A.2.2.2)), (t2, .inr (0, [.ref m2, .ref k2, .ref v2, .int (nI B.1)])), (m2, .inl (cI, L, .inl B.2.1)), (k2, .inl (cI, L, .inl B.2.2.1)), (v2, .inl (cI, L, .inl B.2.2.2))] H := hP
    have hD : va_D Aq [(h0, .inr (1, [.int (nI L), .ref t1, .ref t2, .int (q_nx nx), .int (nI kc), .int (nI w)])), (t1, .inr (0, [.ref m1, .ref k1, .ref v1, .int (nI A.1)])), (m1, .inl (cI, L, .inl A.2.1)), (k1, .inl (cI, L, .inl A.2.2.1)), (v1, .inl (cI, L, .inl A.2.2.2)), (t2, .inr (0, [.ref m2, .ref k2, .ref v2, .int (nI B.1)])), (m2, .inl (cI, L, .inl B.2.1)), (k2, .inl (cI, L, .inl B.2.2.1)), (v2, .inl (cI, L, .inl B.2.2.2))] := hD
    refine lv_iload_n hx hb dX1_slot_16 rfl (lv_at hl 0 rfl) ?_
    refine lv_if_lt (tgt := 24) hx hb dX1_slot_17 (by decide) (fun c_17 => ?_) (fun c_17 => ?_)
    · have h_17 := q_lt_t (a := q_lkE A k) (b := 0) (by omega) (by omega) c_17
      omega
    · have h_17 := q_lt_f (a := q_lkE A k) (b := 0) (by omega) (by omega) c_17
      refine lv_iload_n hx hb dX1_slot_20 rfl (lv_at hl 0 rfl) ?_
      refine lv_goto (tgt := 25) hx hb dX1_slot_21 (by decide) ?_
      exact W.iret (v := nI (q_lkE A k)) hx hb hr (fun t ht hW => ⟨⟨_, (), rfl, (q_slot_A ha).symm, by rw [ht]; exact hP, va_K.moved hW.alike hK, hD⟩, hS.F ht⟩) hS.2.2 dX1_slot_25
  · refine r_eq (z := nI (2000 + q_lkE B k)) (ep) ?_
    refine lv_istore_n (lv' := [(3, .int (nI (2000 + q_lkE B k))), (2, .int (nI w)), (0, .ref h0), (1, .int k)]) hx hb dX1_slot_10 rfl hl (by decide) rfl (fun ls hl => ?_)
    refine lv_aload_n hx hb dX1_slot_11 rfl (lv_at hl 2 rfl) ?_
    refine lv_iload_n hx hb dX1_slot_12 rfl (lv_at hl 1 rfl) ?_
    refine va_put (D := (dC, dI)) (ci := 1) (v := .int (nI w)) (ty := .int) (C := RX1) (T := TX1) (N := 6) hx hb hts hin_X1_slot_X1 tyX1 tyX1_ok nmX1 hown hK hP hD hS 0 rfl rfl 5 (by decide) (hts (.fieldLink RX1 35 "StepMap" "work" "I") (by decide +kernel)) (fun _ h9 => h9) rfl (by decide +kernel) (rfl) (rfl) (Nat.le_of_ble_eq_true rfl) dX1_slot_13 (fun H locs hP hD hS => ?_)
    have hP : va_P (dC, dI) vwCl [(h0, .inr (1, [.int (nI L), .ref t1, .ref t2, .int (q_nx nx), .int (nI kc), .int (nI w)])), (t1, .inr (0, [.ref m1, .ref k1, .ref v1, .int (nI A.1)])), (m1, .inl (cI, L, .inl A.2.1)), (k1, .inl (cI, L, .inl A.2.2.1)), (v1, .inl (cI, L, .inl A.2.2.2)), (t2, .inr (0, [.ref m2, .ref k2, .ref v2, .int (nI B.1)])), (m2, .inl (cI, L, .inl B.2.1)), (k2, .inl (cI, L, .inl B.2.2.1)), (v2, .inl (cI, L, .inl B.2.2.2))] H := hP
    have hD : va_D Aq [(h0, .inr (1, [.int (nI L), .ref t1, .ref t2, .int (q_nx nx), .int (nI kc), .int (nI w)])), (t1, .inr (0, [.ref m1, .ref k1, .ref v1, .int (nI A.1)])), (m1, .inl (cI, L, .inl A.2.1)), (k1, .inl (cI, L, .inl A.2.2.1)), (v1, .inl (cI, L, .inl A.2.2.2)), (t2, .inr (0, [.ref m2, .ref k2, .ref v2, .int (nI B.1)])), (m2, .inl (cI, L, .inl B.2.1)), (k2, .inl (cI, L, .inl B.2.2.1)), (v2, .inl (cI, L, .inl B.2.2.2))] := hD
    refine lv_iload_n hx hb dX1_slot_16 rfl (lv_at hl 0 rfl) ?_
    refine lv_if_lt (tgt := 24) hx hb dX1_slot_17 (by decide) (fun c_17 => ?_) (fun c_17 => ?_)
    · have h_17 := q_lt_t (a := 2000 + q_lkE B k) (b := 0) (by omega) (by omega) c_17
      omega
    · have h_17 := q_lt_f (a := 2000 + q_lkE B k) (b := 0) (by omega) (by omega) c_17
      refine lv_iload_n hx hb dX1_slot_20 rfl (lv_at hl 0 rfl) ?_
      refine lv_goto (tgt := 25) hx hb dX1_slot_21 (by decide) ?_
      exact W.iret (v := nI (2000 + q_lkE B k)) hx hb hr (fun t ht hW => ⟨⟨_, (), rfl, (q_slot_B ha hbt).symm, by rw [ht]; exact hP, va_K.moved hW.alike hK, hD⟩, hS.F ht⟩) hS.2.2 dX1_slot_25
  · refine r_eq (z := -1 - nI (q_lkE A k)) (ep) ?_
    refine lv_istore_n (lv' := [(3, .int (-1 - nI (q_lkE A k))), (2, .int (nI w)), (0, .ref h0), (1, .int k)]) hx hb dX1_slot_10 rfl hl (by decide) rfl (fun ls hl => ?_)
    refine lv_aload_n hx hb dX1_slot_11 rfl (lv_at hl 2 rfl) ?_
    refine lv_iload_n hx hb dX1_slot_12 rfl (lv_at hl 1 rfl) ?_
    refine va_put (D := (dC, dI)) (ci := 1) (v := .int (nI w)) (ty := .int) (C := RX1) (T := TX1) (N := 6) hx hb hts hin_X1_slot_X1 tyX1 tyX1_ok nmX1 hown hK hP hD hS 0 rfl rfl 5 (by decide) (hts (.fieldLink RX1 35 "StepMap" "work" "I") (by decide +kernel)) (fun _ h9 => h9) rfl (by decide +kernel) (rfl) (rfl) (Nat.le_of_ble_eq_true rfl) dX1_slot_13 (fun H locs hP hD hS => ?_)
    have hP : va_P (dC, dI) vwCl [(h0, .inr (1, [.int (nI L), .ref t1, .ref t2, .int (q_nx nx), .int (nI kc), .int (nI w)])), (t1, .inr (0, [.ref m1, .ref k1, .ref v1, .int (nI A.1)])), (m1, .inl (cI, L, .inl A.2.1)), (k1, .inl (cI, L, .inl A.2.2.1)), (v1, .inl (cI, L, .inl A.2.2.2)), (t2, .inr (0, [.ref m2, .ref k2, .ref v2, .int (nI B.1)])), (m2, .inl (cI, L, .inl B.2.1)), (k2, .inl (cI, L, .inl B.2.2.1)), (v2, .inl (cI, L, .inl B.2.2.2))] H := hP
    have hD : va_D Aq [(h0, .inr (1, [.int (nI L), .ref t1, .ref t2, .int (q_nx nx), .int (nI kc), .int (nI w)])), (t1, .inr (0, [.ref m1, .ref k1, .ref v1, .int (nI A.1)])), (m1, .inl (cI, L, .inl A.2.1)), (k1, .inl (cI, L, .inl A.2.2.1)), (v1, .inl (cI, L, .inl A.2.2.2)), (t2, .inr (0, [.ref m2, .ref k2, .ref v2, .int (nI B.1)])), (m2, .inl (cI, L, .inl B.2.1)), (k2, .inl (cI, L, .inl B.2.2.1)), (v2, .inl (cI, L, .inl B.2.2.2))] := hD
    refine lv_iload_n hx hb dX1_slot_16 rfl (lv_at hl 0 rfl) ?_
    refine lv_if_lt (tgt := 24) hx hb dX1_slot_17 (by decide) (fun c_17 => ?_) (fun c_17 => ?_)
    · refine lv_iconst (v := -1) hx hb dX1_slot_24 (by decide) ?_
      exact W.iret (v := -1) hx hb hr (fun t ht hW => ⟨⟨_, (), rfl, (q_slot_N ha hbt).symm, by rw [ht]; exact hP, va_K.moved hW.alike hK, hD⟩, hS.F ht⟩) hS.2.2 dX1_slot_25
    · exact absurd (q_neg1 (by omega)) c_17
set_option maxHeartbeats 4000000 in
set_option maxRecDepth 100000 in
theorem c_X1_put (l : Launch) (dC : Nat → ClassId) (dI : Nat → Nat → Nat) (cI : ClassId) (h0 t1 m1 k1 v1 t2 m2 k2 v2 L : Nat) (A B : q_TB) (nx : Option Nat) (kc w : Nat) (k v : Int32) (sz : Nat) (hIV : q_IV L A B nx kc) : Met l yX1_put wsX1_put ({ frames := 6, cells := 0, slots := 0, locals := 132 }) (r_Mc (dC, dI) vwCl [(cI, .int)] [(h0, .inr (1, [.int (nI L), .ref t1, .ref t2, .int (q_nx nx), .int (nI kc), .int (nI w)])), (t1, .inr (0, [.ref m1, .ref k1, .ref v1, .int (nI A.1)])), (m1, .inl (cI, L, .inl A.2.1)), (k1, .inl (cI, L, .inl A.2.2.1)), (v1, .inl (cI, L, .inl A.2.2.2)), (t2, .inr (0, [.ref m2, .ref k2, .ref v2, .int (nI B.1)])), (m2, .inl (cI, L, .inl B.2.1)), (k2, .inl (cI, L, .inl B.2.2.1)), (v2, .inl (cI, L, .inl B.2.2.2))] sz [.ref h0, .int k, .int v]) (va_Qi (fun (r : Int32) (_ : q_AD) => r = (q_put L A B nx kc k v).1) (fun u t => r_B (dC, dI) vwCl [(cI, .int)] (va_A [(h0, .inr (1, [.int (nI L), .ref t1, .ref t2, .int (q_nx nx), .int (nI kc), .int (nI w)])), (t1, .inr (0, [.ref m1, .ref k1, .ref v1, .int (nI A.1)])), (m1, .inl (cI, L, .inl A.2.1)), (k1, .inl (cI, L, .inl A.2.2.1)), (v1, .inl (cI, L, .inl A.2.2.2)), (t2, .inr (0, [.ref m2, .ref k2, .ref v2, .int (nI B.1)])), (m2, .inl (cI, L, .inl B.2.1)), (k2, .inl (cI, L, .inl B.2.2.1)), (v2, .inl (cI, L, .inl B.2.2.2))] sz) ((fun u => q_WS cI L h0 u (q_put L A B nx kc k v).2) u) t) (va_A [(h0, .inr (1, [.int (nI L), .ref t1, .ref t2, .int (q_nx nx), .int (nI kc), .int (nI w)])), (t1, .inr (0, [.ref m1, .ref k1, .ref v1, .int (nI A.1)])), (m1, .inl (cI, L, .inl A.2.1)), (k1, .inl (cI, L, .inl A.2.2.1)), (v1, .inl (cI, L, .inl A.2.2.2)), (t2, .inr (0, [.ref m2, .ref k2, .ref v2, .int (nI B.1)])), (m2, .inl (cI, L, .inl B.2.1)), (k2, .inl (cI, L, .inl B.2.2.1)), (v2, .inl (cI, L, .inl B.2.2.2))] sz)) 0 0 (va_A [(h0, .inr (1, [.int (nI L), .ref t1, .ref t2, .int (q_nx nx), .int (nI kc), .int (nI w)])), (t1, .inr (0, [.ref m1, .ref k1, .ref v1, .int (nI A.1)])), (m1, .inl (cI, L, .inl A.2.1)), (k1, .inl (cI, L, .inl A.2.2.1)), (v1, .inl (cI, L, .inl A.2.2.2)), (t2, .inr (0, [.ref m2, .ref k2, .ref v2, .int (nI B.1)])), (m2, .inl (cI, L, .inl B.2.1)), (k2, .inl (cI, L, .inl B.2.2.1)), (v2, .inl (cI, L, .inl B.2.2.2))] sz) := by
  refine Met.ofW (cc := cX1_put) (maxL := 4) (ret := (some .int)) (by decide) rfl ?_
  intro p e s m args below meth c s₁ Bd hml hv
  obtain ⟨rfl, hsz, hP, hK, hD0⟩ := hv
  have hx := Bd.exec
  have hb := Bd.bytes
  have hr := Bd.returns
  have hts := atoms_spec (ws := wsX1_put) Bd.pre
  have hown : s.vm.findClass RX1 = some m.cls := findClass_of_methodNamed Bd.named
  have hlocks := Bd.notSynchronized
  have S0 : CallFix p m c cX1_put 4 s _ wsX1_put RX1 := ⟨hx, hb, hml, hown, hts⟩
  subst hsz
  have hD := hD0.self (sz := s.heap.size)
  generalize hAe : va_A [(h0, .inr (1, [.int (nI L), .ref t1, .ref t2, .int (q_nx nx), .int (nI kc), .int (nI w)])), (t1, .inr (0, [.ref m1, .ref k1, .ref v1, .int (nI A.1)])), (m1, .inl (cI, L, .inl A.2.1)), (k1, .inl (cI, L, .inl A.2.2.1)), (v1, .inl (cI, L, .inl A.2.2.2)), (t2, .inr (0, [.ref m2, .ref k2, .ref v2, .int (nI B.1)])), (m2, .inl (cI, L, .inl B.2.1)), (k2, .inl (cI, L, .inl B.2.2.1)), (v2, .inl (cI, L, .inl B.2.2.2))] s.heap.size = Aq at hD ⊢
  have hA : ∀ q : Nat, s.heap.size ≤ q → Aq q := fun q h => by rw [← hAe]; exact Or.inr h
  have hS : va_S Aq s.heap s.heap [] := va_S.rf
  have hD : va_D Aq [(h0, .inr (1, [.int (nI L), .ref t1, .ref t2, .int (q_nx nx), .int (nI kc), .int (nI w)])), (t1, .inr (0, [.ref m1, .ref k1, .ref v1, .int (nI A.1)])), (m1, .inl (cI, L, .inl A.2.1)), (k1, .inl (cI, L, .inl A.2.2.1)), (v1, .inl (cI, L, .inl A.2.2.2)), (t2, .inr (0, [.ref m2, .ref k2, .ref v2, .int (nI B.1)])), (m2, .inl (cI, L, .inl B.2.1)), (k2, .inl (cI, L, .inl B.2.2.1)), (v2, .inl (cI, L, .inl B.2.2.2))] := hD
  have hP : va_P (dC, dI) vwCl [(h0, .inr (1, [.int (nI L), .ref t1, .ref t2, .int (q_nx nx), .int (nI kc), .int (nI w)])), (t1, .inr (0, [.ref m1, .ref k1, .ref v1, .int (nI A.1)])), (m1, .inl (cI, L, .inl A.2.1)), (k1, .inl (cI, L, .inl A.2.2.1)), (v1, .inl (cI, L, .inl A.2.2.2)), (t2, .inr (0, [.ref m2, .ref k2, .ref v2, .int (nI B.1)])), (m2, .inl (cI, L, .inl B.2.1)), (k2, .inl (cI, L, .inl B.2.2.1)), (v2, .inl (cI, L, .inl B.2.2.2))] s.heap := hP
  have hl := lv_entry ([.ref h0, .int k, .int v]) (n := 4) (Nat.le_of_ble_eq_true rfl)
  rw [lg_entry_eq]
  generalize (lg_sl ([.ref h0, .int k, .int v]) ++ List.replicate (4 - (lg_sl ([.ref h0, .int k, .int v])).length) Slot.unset).toArray = ls at hl ⊢
  have hl : lv_has ls 4 [(0, .ref h0), (1, .int k), (2, .int v)] := hl
  have hSZ := hIV.1
  have hkc : kc ≤ 4096 := by have := q_iv_kc hIV; omega
  have hc := q_iv_c hIV
  obtain ⟨hLp, hpA, hAL, hpB, hBL⟩ := id hSZ
  have hL := (q_pw_8 hLp).2
  have hA8 := q_pw_8 hpA
  have hB8 := q_pw_8 hpB
  have heA := q_lkE_lt (t := A) k (by omega)
  have heB := q_lkE_lt (t := B) k (by omega)
  refine lv_aload_n hx hb dX1_put_0 rfl (lv_at hl 0 rfl) ?_
  refine lv_iconst (v := 0) hx hb dX1_put_1 (by decide) ?_
  refine va_put (D := (dC, dI)) (ci := 1) (v := .int 0) (ty := .int) (C := RX1) (T := TX1) (N := 6) hx hb hts hin_X1_put_X1 tyX1 tyX1_ok nmX1 hown hK hP hD hS 0 rfl rfl 5 (by decide) (hts (.fieldLink RX1 35 "StepMap" "work" "I") (by decide +kernel)) (fun _ h9 => h9) rfl (by decide +kernel) (rfl) (rfl) (Nat.le_of_ble_eq_true rfl) dX1_put_2 (fun H locs hP hD hS => ?_)
  have hP : va_P (dC, dI) vwCl [(h0, .inr (1, [.int (nI L), .ref t1, .ref t2, .int (q_nx nx), .int (nI kc), .int 0])), (t1, .inr (0, [.ref m1, .ref k1, .ref v1, .int (nI A.1)])), (m1, .inl (cI, L, .inl A.2.1)), (k1, .inl (cI, L, .inl A.2.2.1)), (v1, .inl (cI, L, .inl A.2.2.2)), (t2, .inr (0, [.ref m2, .ref k2, .ref v2, .int (nI B.1)])), (m2, .inl (cI, L, .inl B.2.1)), (k2, .inl (cI, L, .inl B.2.2.1)), (v2, .inl (cI, L, .inl B.2.2.2))] H := hP
  have hD : va_D Aq [(h0, .inr (1, [.int (nI L), .ref t1, .ref t2, .int (q_nx nx), .int (nI kc), .int 0])), (t1, .inr (0, [.ref m1, .ref k1, .ref v1, .int (nI A.1)])), (m1, .inl (cI, L, .inl A.2.1)), (k1, .inl (cI, L, .inl A.2.2.1)), (v1, .inl (cI, L, .inl A.2.2.2)), (t2, .inr (0, [.ref m2, .ref k2, .ref v2, .int (nI B.1)])), (m2, .inl (cI, L, .inl B.2.1)), (k2, .inl (cI, L, .inl B.2.2.1)), (v2, .inl (cI, L, .inl B.2.2.2))] := hD
  have e_0_5 : 0 = nI 0 := nI_0.symm
  have hP : va_P (dC, dI) vwCl [(h0, .inr (1, [.int (nI L), .ref t1, .ref t2, .int (q_nx nx), .int (nI kc), .int (nI 0)])), (t1, .inr (0, [.ref m1, .ref k1, .ref v1, .int (nI A.1)])), (m1, .inl (cI, L, .inl A.2.1)), (k1, .inl (cI, L, .inl A.2.2.1)), (v1, .inl (cI, L, .inl A.2.2.2)), (t2, .inr (0, [.ref m2, .ref k2, .ref v2, .int (nI B.1)])), (m2, .inl (cI, L, .inl B.2.1)), (k2, .inl (cI, L, .inl B.2.2.1)), (v2, .inl (cI, L, .inl B.2.2.2))] H := by rw [← e_0_5]; exact hP
  have hD : va_D Aq [(h0, .inr (1, [.int (nI L), .ref t1, .ref t2, .int (q_nx nx), .int (nI kc), .int (nI 0)])), (t1, .inr (0, [.ref m1, .ref k1, .ref v1, .int (nI A.1)])), (m1, .inl (cI, L, .inl A.2.1)), (k1, .inl (cI, L, .inl A.2.2.1)), (v1, .inl (cI, L, .inl A.2.2.2)), (t2, .inr (0, [.ref m2, .ref k2, .ref v2, .int (nI B.1)])), (m2, .inl (cI, L, .inl B.2.1)), (k2, .inl (cI, L, .inl B.2.2.1)), (v2, .inl (cI, L, .inl B.2.2.2))] := by rw [← e_0_5]; exact hD
  refine lv_aload_n hx hb dX1_put_5 rfl (lv_at hl 0 rfl) ?_
  refine lv_iload_n hx hb dX1_put_6 rfl (lv_at hl 1 rfl) ?_
  refine r_muI (wr := []) (rest := []) S0 (c_X1_lookUp l dC dI cI h0 t1 m1 k1 v1 t2 m2 k2 v2 L A B nx kc 0 k H.size hSZ hkc hc) (cwV 1 hts gX1_put_X1_lookUp rfl rfl rfl (by decide +kernel) ⟨Nat.le_of_ble_eq_true rfl, Nat.le_of_ble_eq_true rfl⟩) hK hP hD hS hA [0, 1, 2, 3, 4, 5, 6, 7, 8] [] rfl rfl (by decide) (by decide) (by decide) (ci := 1) (q0 := 0) rfl rfl rfl rfl hl.1 rfl (Nat.le_of_ble_eq_true rfl) dX1_put_7 ⟨Nat.zero_le _, Nat.zero_le _⟩ (fun r_7 _ H locs hu hP hD hS => ?_)
  have hP : va_P (dC, dI) vwCl [(h0, .inr (1, [.int (nI L), .ref t1, .ref t2, .int (q_nx nx), .int (nI kc), .int (nI (0 + q_lw A B nx k))])), (t1, .inr (0, [.ref m1, .ref k1, .ref v1, .int (nI A.1)])), (m1, .inl (cI, L, .inl A.2.1)), (k1, .inl (cI, L, .inl A.2.2.1)), (v1, .inl (cI, L, .inl A.2.2.2)), (t2, .inr (0, [.ref m2, .ref k2, .ref v2, .int (nI B.1)])), (m2, .inl (cI, L, .inl B.2.1)), (k2, .inl (cI, L, .inl B.2.2.1)), (v2, .inl (cI, L, .inl B.2.2.2))] H := hP.sub [0, 1, 2, 3, 4, 5, 6, 7, 8] rfl
  have hD : va_D Aq [(h0, .inr (1, [.int (nI L), .ref t1, .ref t2, .int (q_nx nx), .int (nI kc), .int (nI (0 + q_lw A B nx k))])), (t1, .inr (0, [.ref m1, .ref k1, .ref v1, .int (nI A.1)])), (m1, .inl (cI, L, .inl A.2.1)), (k1, .inl (cI, L, .inl A.2.2.1)), (v1, .inl (cI, L, .inl A.2.2.2)), (t2, .inr (0, [.ref m2, .ref k2, .ref v2, .int (nI B.1)])), (m2, .inl (cI, L, .inl B.2.1)), (k2, .inl (cI, L, .inl B.2.2.1)), (v2, .inl (cI, L, .inl B.2.2.2))] := hD.sub [0, 1, 2, 3, 4, 5, 6, 7, 8] (by decide) rfl
  have hu : r_7 = q_place A B nx k := hu
  subst hu
  have e_0_5 : nI (0 + q_lw A B nx k) = nI (q_lw A B nx k) := congrArg nI (Nat.zero_add _)
  have hP : va_P (dC, dI) vwCl [(h0, .inr (1, [.int (nI L), .ref t1, .ref t2, .int (q_nx nx), .int (nI kc), .int (nI (q_lw A B nx k))])), (t1, .inr (0, [.ref m1, .ref k1, .ref v1, .int (nI A.1)])), (m1, .inl (cI, L, .inl A.2.1)), (k1, .inl (cI, L, .inl A.2.2.1)), (v1, .inl (cI, L, .inl A.2.2.2)), (t2, .inr (0, [.ref m2, .ref k2, .ref v2, .int (nI B.1)])), (m2, .inl (cI, L, .inl B.2.1)), (k2, .inl (cI, L, .inl B.2.2.1)), (v2, .inl (cI, L, .inl B.2.2.2))] H := by rw [← e_0_5]; exact hP
  have hD : va_D Aq [(h0, .inr (1, [.int (nI L), .ref t1, .ref t2, .int (q_nx nx), .int (nI kc), .int (nI (q_lw A B nx k))])), (t1, .inr (0, [.ref m1, .ref k1, .ref v1, .int (nI A.1)])), (m1, .inl (cI, L, .inl A.2.1)), (k1, .inl (cI, L, .inl A.2.2.1)), (v1, .inl (cI, L, .inl A.2.2.2)), (t2, .inr (0, [.ref m2, .ref k2, .ref v2, .int (nI B.1)])), (m2, .inl (cI, L, .inl B.2.1)), (k2, .inl (cI, L, .inl B.2.2.1)), (v2, .inl (cI, L, .inl B.2.2.2))] := by rw [← e_0_5]; exact hD
  rcases q_place_c A B nx k with ⟨ha, ep⟩ | ⟨ha, hbt, ep⟩ | ⟨ha, hbt, ep⟩
  · refine r_eq (z := nI (q_lkE A k)) (ep) ?_
    refine lv_istore_n (lv' := [(3, .int (nI (q_lkE A k))), (0, .ref h0), (1, .int k), (2, .int v)]) hx hb dX1_put_10 rfl hl (by decide) rfl (fun ls hl => ?_)
    refine lv_iload_n hx hb dX1_put_11 rfl (lv_at hl 0 rfl) ?_
    refine lv_sipush (v := 2000) hx hb dX1_put_12 (by decide) ?_
    refine lv_icmp_lt (tgt := 34) hx hb dX1_put_15 (by decide) (fun c_15 => ?_) (fun c_15 => ?_)
    · have h_15 := q_lt_t (a := q_lkE A k) (b := 2000) (by omega) (by omega) c_15
      refine lv_iload_n hx hb dX1_put_34 rfl (lv_at hl 0 rfl) ?_
      refine lv_if_lt (tgt := 50) hx hb dX1_put_35 (by decide) (fun c_35 => ?_) (fun c_35 => ?_)
      · have h_35 := q_lt_t (a := q_lkE A k) (b := 0) (by omega) (by omega) c_35
        omega
      · have h_35 := q_lt_f (a := q_lkE A k) (b := 0) (by omega) (by omega) c_35
        refine lv_aload_n hx hb dX1_put_38 rfl (lv_at hl 1 rfl) ?_
        refine va_get (D := (dC, dI)) (ci := 1) (v := .ref t1) (C := RX1) (T := TX1) (N := 6) hx hb hts hin_X1_put_X1 hown hK hP 0 rfl rfl 1 (by decide) (hts (.fieldLink RX1 22 "StepMap" "newTable" "LStepMap$Table;") (by decide +kernel)) (fun _ h9 => h9) rfl dX1_put_39 ?_
        refine va_get (D := (dC, dI)) (ci := 0) (v := .ref v1) (C := RX0) (T := TX0) (N := 4) hx hb hts hin_X1_put_X0 hown hK hP 1 rfl rfl 2 (by decide) (hts (.fieldLink RX1 41 "StepMap$Table" "values" "[I") (by decide +kernel)) (fun _ h9 => h9) rfl dX1_put_42 ?_
        refine lv_iload_n hx hb dX1_put_45 rfl (lv_at hl 0 rfl) ?_
        refine lv_iload_n hx hb dX1_put_46 rfl (lv_at hl 3 rfl) ?_
        refine r_st (i := q_lkE A k) hx hb hK hP hD hS 4 0 rfl rfl (by omega) (by omega) dX1_put_47 (fun H locs hP hD hS => ?_)
        have hP : va_P (dC, dI) vwCl [(h0, .inr (1, [.int (nI L), .ref t1, .ref t2, .int (q_nx nx), .int (nI kc), .int (nI (q_lw A B nx k))])), (t1, .inr (0, [.ref m1, .ref k1, .ref v1, .int (nI A.1)])), (m1, .inl (cI, L, .inl A.2.1)), (k1, .inl (cI, L, .inl A.2.2.1)), (v1, .inl (cI, L, .inl (upd A.2.2.2 (q_lkE A k) v))), (t2, .inr (0, [.ref m2, .ref k2, .ref v2, .int (nI B.1)])), (m2, .inl (cI, L, .inl B.2.1)), (k2, .inl (cI, L, .inl B.2.2.1)), (v2, .inl (cI, L, .inl B.2.2.2))] H := hP
        have hD : va_D Aq [(h0, .inr (1, [.int (nI L), .ref t1, .ref t2, .int (q_nx nx), .int (nI kc), .int (nI (q_lw A B nx k))])), (t1, .inr (0, [.ref m1, .ref k1, .ref v1, .int (nI A.1)])), (m1, .inl (cI, L, .inl A.2.1)), (k1, .inl (cI, L, .inl A.2.2.1)), (v1, .inl (cI, L, .inl (upd A.2.2.2 (q_lkE A k) v))), (t2, .inr (0, [.ref m2, .ref k2, .ref v2, .int (nI B.1)])), (m2, .inl (cI, L, .inl B.2.1)), (k2, .inl (cI, L, .inl B.2.2.1)), (v2, .inl (cI, L, .inl B.2.2.2))] := hD
        refine lv_iconst (v := 0) hx hb dX1_put_48 (by decide) ?_
        have eq := q_put_A (B := B) (nx := nx) (L := L) (kc := kc) (v := v) ha
        have hP : va_P (dC, dI) vwCl (q_WS cI L h0 (t1, m1, k1, v1, t2, m2, k2, v2) (q_put L A B nx kc k v).2) H := by rw [eq]; exact hP
        have hD : va_D Aq (q_WS cI L h0 (t1, m1, k1, v1, t2, m2, k2, v2) (q_put L A B nx kc k v).2) := by rw [eq]; exact hD
        exact W.iret (v := 0) hx hb hr (fun t ht hW => ⟨⟨_, (t1, m1, k1, v1, t2, m2, k2, v2), rfl, by rw [eq], by rw [ht]; exact hP, va_K.moved hW.alike hK, hD⟩, hS.F ht⟩) hS.2.2 dX1_put_49
    · have h_15 := q_lt_f (a := q_lkE A k) (b := 2000) (by omega) (by omega) c_15
      omega
  · refine r_eq (z := nI (2000 + q_lkE B k)) (ep) ?_
    refine lv_istore_n (lv' := [(3, .int (nI (2000 + q_lkE B k))), (0, .ref h0), (1, .int k), (2, .int v)]) hx hb dX1_put_10 rfl hl (by decide) rfl (fun ls hl => ?_)
    refine lv_iload_n hx hb dX1_put_11 rfl (lv_at hl 0 rfl) ?_
    refine lv_sipush (v := 2000) hx hb dX1_put_12 (by decide) ?_
    refine lv_icmp_lt (tgt := 34) hx hb dX1_put_15 (by decide) (fun c_15 => ?_) (fun c_15 => ?_)
    · have h_15 := q_lt_t (a := 2000 + q_lkE B k) (b := 2000) (by omega) (by omega) c_15
      omega
    · have h_15 := q_lt_f (a := 2000 + q_lkE B k) (b := 2000) (by omega) (by omega) c_15
      refine lv_aload_n hx hb dX1_put_18 rfl (lv_at hl 1 rfl) ?_
      refine va_get (D := (dC, dI)) (ci := 1) (v := .ref t2) (C := RX1) (T := TX1) (N := 6) hx hb hts hin_X1_put_X1 hown hK hP 0 rfl rfl 2 (by decide) (hts (.fieldLink RX1 26 "StepMap" "oldTable" "LStepMap$Table;") (by decide +kernel)) (fun _ h9 => h9) rfl dX1_put_19 ?_
      refine va_get (D := (dC, dI)) (ci := 0) (v := .ref v2) (C := RX0) (T := TX0) (N := 4) hx hb hts hin_X1_put_X0 hown hK hP 5 rfl rfl 2 (by decide) (hts (.fieldLink RX1 41 "StepMap$Table" "values" "[I") (by decide +kernel)) (fun _ h9 => h9) rfl dX1_put_22 ?_
      refine lv_iload_n hx hb dX1_put_25 rfl (lv_at hl 0 rfl) ?_
      refine lv_sipush (v := 2000) hx hb dX1_put_26 (by decide) ?_
      refine lv_isub hx hb dX1_put_29 ?_
      refine r_eq (z := nI (q_lkE B k)) (q_2000 _) ?_
      refine lv_iload_n hx hb dX1_put_30 rfl (lv_at hl 3 rfl) ?_
      refine r_st (i := q_lkE B k) hx hb hK hP hD hS 8 0 rfl rfl (by omega) (by omega) dX1_put_31 (fun H locs hP hD hS => ?_)
      have hP : va_P (dC, dI) vwCl [(h0, .inr (1, [.int (nI L), .ref t1, .ref t2, .int (q_nx nx), .int (nI kc), .int (nI (q_lw A B nx k))])), (t1, .inr (0, [.ref m1, .ref k1, .ref v1, .int (nI A.1)])), (m1, .inl (cI, L, .inl A.2.1)), (k1, .inl (cI, L, .inl A.2.2.1)), (v1, .inl (cI, L, .inl A.2.2.2)), (t2, .inr (0, [.ref m2, .ref k2, .ref v2, .int (nI B.1)])), (m2, .inl (cI, L, .inl B.2.1)), (k2, .inl (cI, L, .inl B.2.2.1)), (v2, .inl (cI, L, .inl (upd B.2.2.2 (q_lkE B k) v)))] H := hP
      have hD : va_D Aq [(h0, .inr (1, [.int (nI L), .ref t1, .ref t2, .int (q_nx nx), .int (nI kc), .int (nI (q_lw A B nx k))])), (t1, .inr (0, [.ref m1, .ref k1, .ref v1, .int (nI A.1)])), (m1, .inl (cI, L, .inl A.2.1)), (k1, .inl (cI, L, .inl A.2.2.1)), (v1, .inl (cI, L, .inl A.2.2.2)), (t2, .inr (0, [.ref m2, .ref k2, .ref v2, .int (nI B.1)])), (m2, .inl (cI, L, .inl B.2.1)), (k2, .inl (cI, L, .inl B.2.2.1)), (v2, .inl (cI, L, .inl (upd B.2.2.2 (q_lkE B k) v)))] := hD
      refine lv_iconst (v := 0) hx hb dX1_put_32 (by decide) ?_
      have eq := q_put_B (L := L) (kc := kc) (v := v) ha hbt
      have hP : va_P (dC, dI) vwCl (q_WS cI L h0 (t1, m1, k1, v1, t2, m2, k2, v2) (q_put L A B nx kc k v).2) H := by rw [eq]; exact hP
      have hD : va_D Aq (q_WS cI L h0 (t1, m1, k1, v1, t2, m2, k2, v2) (q_put L A B nx kc k v).2) := by rw [eq]; exact hD
      exact W.iret (v := 0) hx hb hr (fun t ht hW => ⟨⟨_, (t1, m1, k1, v1, t2, m2, k2, v2), rfl, by rw [eq], by rw [ht]; exact hP, va_K.moved hW.alike hK, hD⟩, hS.F ht⟩) hS.2.2 dX1_put_33
  · refine r_eq (z := -1 - nI (q_lkE A k)) (ep) ?_
    refine lv_istore_n (lv' := [(3, .int (-1 - nI (q_lkE A k))), (0, .ref h0), (1, .int k), (2, .int v)]) hx hb dX1_put_10 rfl hl (by decide) rfl (fun ls hl => ?_)
    refine lv_iload_n hx hb dX1_put_11 rfl (lv_at hl 0 rfl) ?_
    refine lv_sipush (v := 2000) hx hb dX1_put_12 (by decide) ?_
    refine lv_icmp_lt (tgt := 34) hx hb dX1_put_15 (by decide) (fun c_15 => ?_) (fun c_15 => ?_)
    · refine lv_iload_n hx hb dX1_put_34 rfl (lv_at hl 0 rfl) ?_
      refine lv_if_lt (tgt := 50) hx hb dX1_put_35 (by decide) (fun c_35 => ?_) (fun c_35 => ?_)
      · refine lv_aload_n hx hb dX1_put_50 rfl (lv_at hl 1 rfl) ?_
        refine r_roV (rest := []) S0 (c_X1_wouldOutgrowHalf l dC dI cI h0 t1 m1 k1 v1 t2 m2 k2 v2 L A B nx kc (q_lw A B nx k) hSZ hkc hc) (cwV 0 hts gX1_put_X1_wouldOutgrowHalf rfl rfl rfl (by decide +kernel) ⟨Nat.le_of_ble_eq_true rfl, Nat.le_of_ble_eq_true rfl⟩) hK hP [0, 1, 2, 3, 4, 5, 6, 7, 8] rfl (ci := 1) (q0 := 0) rfl rfl rfl rfl hl.1 rfl (Nat.le_of_ble_eq_true rfl) dX1_put_51 ⟨Nat.zero_le _, Nat.zero_le _⟩ ?_
        refine lv_if_eq (tgt := 60) hx hb dX1_put_54 (by decide) (fun c_54 => ?_) (fun c_54 => ?_)
        · have h_54 : ¬ (q_full L A B nx kc) := q_b_0.mp c_54
          refine lv_aload_n hx hb dX1_put_60 rfl (lv_at hl 1 rfl) ?_
          refine va_get (D := (dC, dI)) (ci := 1) (v := .ref t1) (C := RX1) (T := TX1) (N := 6) hx hb hts hin_X1_put_X1 hown hK hP 0 rfl rfl 1 (by decide) (hts (.fieldLink RX1 22 "StepMap" "newTable" "LStepMap$Table;") (by decide +kernel)) (fun _ h9 => h9) rfl dX1_put_61 ?_
          refine lv_iload_n hx hb dX1_put_64 rfl (lv_at hl 0 rfl) ?_
          refine r_roS (rest := [.ref t1]) S0 (c_X1_emptySlot l dC dI cI (-1 - nI (q_lkE A k))) (va_cwS 1 hts gX1_put_X1_emptySlot rfl rfl rfl (by decide +kernel) ⟨Nat.le_of_ble_eq_true rfl, Nat.le_of_ble_eq_true rfl⟩) hK hP [] rfl rfl hl.1 rfl (Nat.le_of_ble_eq_true rfl) dX1_put_65 ⟨Nat.zero_le _, Nat.zero_le _⟩ ?_
          refine r_eq (z := nI (q_lkE A k)) (q_neg1' _) ?_
          refine lv_iload_n hx hb dX1_put_68 rfl (lv_at hl 2 rfl) ?_
          refine lv_iload_n hx hb dX1_put_69 rfl (lv_at hl 3 rfl) ?_
          refine r_muV (wr := [(h0, .inr (1, [.int (nI L), .ref t1, .ref t2, .int (q_nx nx), .int (nI kc), .int (nI (q_lw A B nx k))])), (t2, .inr (0, [.ref m2, .ref k2, .ref v2, .int (nI B.1)])), (m2, .inl (cI, L, .inl B.2.1)), (k2, .inl (cI, L, .inl B.2.2.1)), (v2, .inl (cI, L, .inl B.2.2.2))]) (rest := []) S0 (c_X0_fill l dC dI cI t1 m1 k1 v1 L A.1 A.2.1 A.2.2.1 A.2.2.2 (q_lkE A k) k v H.size (by assumption) (by omega) (by omega) (by omega)) (cwV 3 hts gX1_put_X0_fill rfl rfl rfl (by decide +kernel) ⟨Nat.le_of_ble_eq_true rfl, Nat.le_of_ble_eq_true rfl⟩) hK hP hD hS hA [1, 2, 3, 4] [0, 5, 6, 7, 8] rfl rfl (by decide) (by decide) (by decide) (ci := 0) (q0 := 0) rfl rfl rfl rfl hl.1 rfl (Nat.le_of_ble_eq_true rfl) dX1_put_70 ⟨Nat.zero_le _, Nat.zero_le _⟩ (fun _ H locs hu hP hD hS => ?_)
          have hP : va_P (dC, dI) vwCl [(h0, .inr (1, [.int (nI L), .ref t1, .ref t2, .int (q_nx nx), .int (nI kc), .int (nI (q_lw A B nx k))])), (t1, .inr (0, [.ref m1, .ref k1, .ref v1, .int (nI A.1)])), (m1, .inl (cI, L, .inl (upd A.2.1 (q_lkE A k) 2))), (k1, .inl (cI, L, .inl (upd A.2.2.1 (q_lkE A k) k))), (v1, .inl (cI, L, .inl (upd A.2.2.2 (q_lkE A k) v))), (t2, .inr (0, [.ref m2, .ref k2, .ref v2, .int (nI B.1)])), (m2, .inl (cI, L, .inl B.2.1)), (k2, .inl (cI, L, .inl B.2.2.1)), (v2, .inl (cI, L, .inl B.2.2.2))] H := hP.sub [0, 5, 6, 7, 8, 1, 2, 3, 4] rfl
          have hD : va_D Aq [(h0, .inr (1, [.int (nI L), .ref t1, .ref t2, .int (q_nx nx), .int (nI kc), .int (nI (q_lw A B nx k))])), (t1, .inr (0, [.ref m1, .ref k1, .ref v1, .int (nI A.1)])), (m1, .inl (cI, L, .inl (upd A.2.1 (q_lkE A k) 2))), (k1, .inl (cI, L, .inl (upd A.2.2.1 (q_lkE A k) k))), (v1, .inl (cI, L, .inl (upd A.2.2.2 (q_lkE A k) v))), (t2, .inr (0, [.ref m2, .ref k2, .ref v2, .int (nI B.1)])), (m2, .inl (cI, L, .inl B.2.1)), (k2, .inl (cI, L, .inl B.2.2.1)), (v2, .inl (cI, L, .inl B.2.2.2))] := hD.sub [0, 5, 6, 7, 8, 1, 2, 3, 4] (by decide) rfl
          refine lv_aload_n hx hb dX1_put_73 rfl (lv_at hl 1 rfl) ?_
          refine lv_dup hx hb dX1_put_74 rfl ?_
          refine va_get (D := (dC, dI)) (ci := 1) (v := .int (nI kc)) (C := RX1) (T := TX1) (N := 6) hx hb hts hin_X1_put_X1 hown hK hP 0 rfl rfl 4 (by decide) (hts (.fieldLink RX1 57 "StepMap" "keyCount" "I") (by decide +kernel)) (fun _ h9 => h9) rfl dX1_put_75 ?_
          refine lv_iconst (v := 1) hx hb dX1_put_78 (by decide) ?_
          refine lv_iadd hx hb dX1_put_79 ?_
          refine r_eq (z := nI (kc + 1)) (nI_add kc 1) ?_
          refine va_put (D := (dC, dI)) (ci := 1) (v := .int (nI (kc + 1))) (ty := .int) (C := RX1) (T := TX1) (N := 6) hx hb hts hin_X1_put_X1 tyX1 tyX1_ok nmX1 hown hK hP hD hS 0 rfl rfl 4 (by decide) (hts (.fieldLink RX1 57 "StepMap" "keyCount" "I") (by decide +kernel)) (fun _ h9 => h9) rfl (by decide +kernel) (rfl) (rfl) (Nat.le_of_ble_eq_true rfl) dX1_put_80 (fun H locs hP hD hS => ?_)
          have hP : va_P (dC, dI) vwCl [(h0, .inr (1, [.int (nI L), .ref t1, .ref t2, .int (q_nx nx), .int (nI (kc + 1)), .int (nI (q_lw A B nx k))])), (t1, .inr (0, [.ref m1, .ref k1, .ref v1, .int (nI A.1)])), (m1, .inl (cI, L, .inl (upd A.2.1 (q_lkE A k) 2))), (k1, .inl (cI, L, .inl (upd A.2.2.1 (q_lkE A k) k))), (v1, .inl (cI, L, .inl (upd A.2.2.2 (q_lkE A k) v))), (t2, .inr (0, [.ref m2, .ref k2, .ref v2, .int (nI B.1)])), (m2, .inl (cI, L, .inl B.2.1)), (k2, .inl (cI, L, .inl B.2.2.1)), (v2, .inl (cI, L, .inl B.2.2.2))] H := hP
          have hD : va_D Aq [(h0, .inr (1, [.int (nI L), .ref t1, .ref t2, .int (q_nx nx), .int (nI (kc + 1)), .int (nI (q_lw A B nx k))])), (t1, .inr (0, [.ref m1, .ref k1, .ref v1, .int (nI A.1)])), (m1, .inl (cI, L, .inl (upd A.2.1 (q_lkE A k) 2))), (k1, .inl (cI, L, .inl (upd A.2.2.1 (q_lkE A k) k))), (v1, .inl (cI, L, .inl (upd A.2.2.2 (q_lkE A k) v))), (t2, .inr (0, [.ref m2, .ref k2, .ref v2, .int (nI B.1)])), (m2, .inl (cI, L, .inl B.2.1)), (k2, .inl (cI, L, .inl B.2.2.1)), (v2, .inl (cI, L, .inl B.2.2.2))] := hD
          refine lv_aload_n hx hb dX1_put_83 rfl (lv_at hl 1 rfl) ?_
          refine r_muV (wr := []) (rest := []) S0 (c_X1_moveOn l dC dI cI h0 t1 m1 k1 v1 t2 m2 k2 v2 L (A.1, upd A.2.1 (q_lkE A k) 2, upd A.2.2.1 (q_lkE A k) k, upd A.2.2.2 (q_lkE A k) v) B nx (kc + 1) (q_lw A B nx k) H.size (q_iw_put hIV ha hbt h_54)) (cwV 0 hts gX1_put_X1_moveOn rfl rfl rfl (by decide +kernel) ⟨Nat.le_of_ble_eq_true rfl, Nat.le_of_ble_eq_true rfl⟩) hK hP hD hS hA [0, 1, 2, 3, 4, 5, 6, 7, 8] [] rfl rfl (by decide) (by decide) (by decide) (ci := 1) (q0 := 0) rfl rfl rfl rfl hl.1 rfl (Nat.le_of_ble_eq_true rfl) dX1_put_84 ⟨Nat.zero_le _, Nat.zero_le _⟩ (fun u H locs hu hP hD hS => ?_)
          have hP : va_P (dC, dI) vwCl [(h0, .inr (1, [.int (nI L), .ref u.1, .ref u.2.2.2.2.1, .int (q_nx (q_on (A.1, upd A.2.1 (q_lkE A k) 2, upd A.2.2.1 (q_lkE A k) k, upd A.2.2.2 (q_lkE A k) v) B nx (kc + 1) (q_lw A B nx k)).2.2.1), .int (nI (q_on (A.1, upd A.2.1 (q_lkE A k) 2, upd A.2.2.1 (q_lkE A k) k, upd A.2.2.2 (q_lkE A k) v) B nx (kc + 1) (q_lw A B nx k)).2.2.2.1), .int (nI (q_on (A.1, upd A.2.1 (q_lkE A k) 2, upd A.2.2.1 (q_lkE A k) k, upd A.2.2.2 (q_lkE A k) v) B nx (kc + 1) (q_lw A B nx k)).2.2.2.2)])), (u.1, .inr (0, [.ref u.2.1, .ref u.2.2.1, .ref u.2.2.2.1, .int (nI ((q_on (A.1, upd A.2.1 (q_lkE A k) 2, upd A.2.2.1 (q_lkE A k) k, upd A.2.2.2 (q_lkE A k) v) B nx (kc + 1) (q_lw A B nx k)).1.1))])), (u.2.1, .inl (cI, L, .inl ((q_on (A.1, upd A.2.1 (q_lkE A k) 2, upd A.2.2.1 (q_lkE A k) k, upd A.2.2.2 (q_lkE A k) v) B nx (kc + 1) (q_lw A B nx k)).1.2.1))), (u.2.2.1, .inl (cI, L, .inl ((q_on (A.1, upd A.2.1 (q_lkE A k) 2, upd A.2.2.1 (q_lkE A k) k, upd A.2.2.2 (q_lkE A k) v) B nx (kc + 1) (q_lw A B nx k)).1.2.2.1))), (u.2.2.2.1, .inl (cI, L, .inl ((q_on (A.1, upd A.2.1 (q_lkE A k) 2, upd A.2.2.1 (q_lkE A k) k, upd A.2.2.2 (q_lkE A k) v) B nx (kc + 1) (q_lw A B nx k)).1.2.2.2))), (u.2.2.2.2.1, .inr (0, [.ref u.2.2.2.2.2.1, .ref u.2.2.2.2.2.2.1, .ref u.2.2.2.2.2.2.2, .int (nI ((q_on (A.1, upd A.2.1 (q_lkE A k) 2, upd A.2.2.1 (q_lkE A k) k, upd A.2.2.2 (q_lkE A k) v) B nx (kc + 1) (q_lw A B nx k)).2.1.1))])), (u.2.2.2.2.2.1, .inl (cI, L, .inl ((q_on (A.1, upd A.2.1 (q_lkE A k) 2, upd A.2.2.1 (q_lkE A k) k, upd A.2.2.2 (q_lkE A k) v) B nx (kc + 1) (q_lw A B nx k)).2.1.2.1))), (u.2.2.2.2.2.2.1, .inl (cI, L, .inl ((q_on (A.1, upd A.2.1 (q_lkE A k) 2, upd A.2.2.1 (q_lkE A k) k, upd A.2.2.2 (q_lkE A k) v) B nx (kc + 1) (q_lw A B nx k)).2.1.2.2.1))), (u.2.2.2.2.2.2.2, .inl (cI, L, .inl ((q_on (A.1, upd A.2.1 (q_lkE A k) 2, upd A.2.2.1 (q_lkE A k) k, upd A.2.2.2 (q_lkE A k) v) B nx (kc + 1) (q_lw A B nx k)).2.1.2.2.2)))] H := hP.sub [0, 1, 2, 3, 4, 5, 6, 7, 8] rfl
          have hD : va_D Aq [(h0, .inr (1, [.int (nI L), .ref u.1, .ref u.2.2.2.2.1, .int (q_nx (q_on (A.1, upd A.2.1 (q_lkE A k) 2, upd A.2.2.1 (q_lkE A k) k, upd A.2.2.2 (q_lkE A k) v) B nx (kc + 1) (q_lw A B nx k)).2.2.1), .int (nI (q_on (A.1, upd A.2.1 (q_lkE A k) 2, upd A.2.2.1 (q_lkE A k) k, upd A.2.2.2 (q_lkE A k) v) B nx (kc + 1) (q_lw A B nx k)).2.2.2.1), .int (nI (q_on (A.1, upd A.2.1 (q_lkE A k) 2, upd A.2.2.1 (q_lkE A k) k, upd A.2.2.2 (q_lkE A k) v) B nx (kc + 1) (q_lw A B nx k)).2.2.2.2)])), (u.1, .inr (0, [.ref u.2.1, .ref u.2.2.1, .ref u.2.2.2.1, .int (nI ((q_on (A.1, upd A.2.1 (q_lkE A k) 2, upd A.2.2.1 (q_lkE A k) k, upd A.2.2.2 (q_lkE A k) v) B nx (kc + 1) (q_lw A B nx k)).1.1))])), (u.2.1, .inl (cI, L, .inl ((q_on (A.1, upd A.2.1 (q_lkE A k) 2, upd A.2.2.1 (q_lkE A k) k, upd A.2.2.2 (q_lkE A k) v) B nx (kc + 1) (q_lw A B nx k)).1.2.1))), (u.2.2.1, .inl (cI, L, .inl ((q_on (A.1, upd A.2.1 (q_lkE A k) 2, upd A.2.2.1 (q_lkE A k) k, upd A.2.2.2 (q_lkE A k) v) B nx (kc + 1) (q_lw A B nx k)).1.2.2.1))), (u.2.2.2.1, .inl (cI, L, .inl ((q_on (A.1, upd A.2.1 (q_lkE A k) 2, upd A.2.2.1 (q_lkE A k) k, upd A.2.2.2 (q_lkE A k) v) B nx (kc + 1) (q_lw A B nx k)).1.2.2.2))), (u.2.2.2.2.1, .inr (0, [.ref u.2.2.2.2.2.1, .ref u.2.2.2.2.2.2.1, .ref u.2.2.2.2.2.2.2, .int (nI ((q_on (A.1, upd A.2.1 (q_lkE A k) 2, upd A.2.2.1 (q_lkE A k) k, upd A.2.2.2 (q_lkE A k) v) B nx (kc + 1) (q_lw A B nx k)).2.1.1))])), (u.2.2.2.2.2.1, .inl (cI, L, .inl ((q_on (A.1, upd A.2.1 (q_lkE A k) 2, upd A.2.2.1 (q_lkE A k) k, upd A.2.2.2 (q_lkE A k) v) B nx (kc + 1) (q_lw A B nx k)).2.1.2.1))), (u.2.2.2.2.2.2.1, .inl (cI, L, .inl ((q_on (A.1, upd A.2.1 (q_lkE A k) 2, upd A.2.2.1 (q_lkE A k) k, upd A.2.2.2 (q_lkE A k) v) B nx (kc + 1) (q_lw A B nx k)).2.1.2.2.1))), (u.2.2.2.2.2.2.2, .inl (cI, L, .inl ((q_on (A.1, upd A.2.1 (q_lkE A k) 2, upd A.2.2.1 (q_lkE A k) k, upd A.2.2.2 (q_lkE A k) v) B nx (kc + 1) (q_lw A B nx k)).2.1.2.2.2)))] := hD.sub [0, 1, 2, 3, 4, 5, 6, 7, 8] (by decide) rfl
          refine lv_iconst (v := 0) hx hb dX1_put_87 (by decide) ?_
          have eq := q_put_N (v := v) ha hbt h_54
          have hP : va_P (dC, dI) vwCl (q_WS cI L h0 u (q_put L A B nx kc k v).2) H := by rw [eq]; exact hP
          have hD : va_D Aq (q_WS cI L h0 u (q_put L A B nx kc k v).2) := by rw [eq]; exact hD
          exact W.iret (v := 0) hx hb hr (fun t ht hW => ⟨⟨_, u, rfl, by rw [eq], by rw [ht]; exact hP, va_K.moved hW.alike hK, hD⟩, hS.F ht⟩) hS.2.2 dX1_put_88
        · have h_54 : (q_full L A B nx kc) := q_b_n0 c_54
          refine lv_ldc (v := -2000000001) hx hb hown (hts (.constant RX1 49 (-2000000001)) (by decide +kernel)) dX1_put_57 ?_
          have eq := q_put_F (v := v) ha hbt h_54
          have hP : va_P (dC, dI) vwCl (q_WS cI L h0 (t1, m1, k1, v1, t2, m2, k2, v2) (q_put L A B nx kc k v).2) H := by rw [eq]; exact hP
          have hD : va_D Aq (q_WS cI L h0 (t1, m1, k1, v1, t2, m2, k2, v2) (q_put L A B nx kc k v).2) := by rw [eq]; exact hD
          exact W.iret (v := -2000000001) hx hb hr (fun t ht hW => ⟨⟨_, (t1, m1, k1, v1, t2, m2, k2, v2), rfl, by rw [eq], by rw [ht]; exact hP, va_K.moved hW.alike hK, hD⟩, hS.F ht⟩) hS.2.2 dX1_put_59
      · exact absurd (q_neg1 (by omega)) c_35
    · exact absurd (q_neg_lt (by omega)) c_15
set_option maxHeartbeats 4000000 in
set_option maxRecDepth 100000 in
theorem c_X1_remove (l : Launch) (dC : Nat → ClassId) (dI : Nat → Nat → Nat) (cI : ClassId) (h0 t1 m1 k1 v1 t2 m2 k2 v2 L : Nat) (A B : q_TB) (nx : Option Nat) (kc w : Nat) (k : Int32) (sz : Nat) (hIV : q_IV L A B nx kc) : Met l yX1_remove wsX1_remove ({ frames := 6, cells := 0, slots := 0, locals := 132 }) (r_Mc (dC, dI) vwCl [(cI, .int)] [(h0, .inr (1, [.int (nI L), .ref t1, .ref t2, .int (q_nx nx), .int (nI kc), .int (nI w)])), (t1, .inr (0, [.ref m1, .ref k1, .ref v1, .int (nI A.1)])), (m1, .inl (cI, L, .inl A.2.1)), (k1, .inl (cI, L, .inl A.2.2.1)), (v1, .inl (cI, L, .inl A.2.2.2)), (t2, .inr (0, [.ref m2, .ref k2, .ref v2, .int (nI B.1)])), (m2, .inl (cI, L, .inl B.2.1)), (k2, .inl (cI, L, .inl B.2.2.1)), (v2, .inl (cI, L, .inl B.2.2.2))] sz [.ref h0, .int k]) (va_Qi (fun (r : Int32) (_ : q_AD) => r = (q_rem A B nx kc k).1) (fun u t => r_B (dC, dI) vwCl [(cI, .int)] (va_A [(h0, .inr (1, [.int (nI L), .ref t1, .ref t2, .int (q_nx nx), .int (nI kc), .int (nI w)])), (t1, .inr (0, [.ref m1, .ref k1, .ref v1, .int (nI A.1)])), (m1, .inl (cI, L, .inl A.2.1)), (k1, .inl (cI, L, .inl A.2.2.1)), (v1, .inl (cI, L, .inl A.2.2.2)), (t2, .inr (0, [.ref m2, .ref k2, .ref v2, .int (nI B.1)])), (m2, .inl (cI, L, .inl B.2.1)), (k2, .inl (cI, L, .inl B.2.2.1)), (v2, .inl (cI, L, .inl B.2.2.2))] sz) ((fun u => q_WS cI L h0 u (q_rem A B nx kc k).2) u) t) (va_A [(h0, .inr (1, [.int (nI L), .ref t1, .ref t2, .int (q_nx nx), .int (nI kc), .int (nI w)])), (t1, .inr (0, [.ref m1, .ref k1, .ref v1, .int (nI A.1)])), (m1, .inl (cI, L, .inl A.2.1)), (k1, .inl (cI, L, .inl A.2.2.1)), (v1, .inl (cI, L, .inl A.2.2.2)), (t2, .inr (0, [.ref m2, .ref k2, .ref v2, .int (nI B.1)])), (m2, .inl (cI, L, .inl B.2.1)), (k2, .inl (cI, L, .inl B.2.2.1)), (v2, .inl (cI, L, .inl B.2.2.2))] sz)) 0 0 (va_A [(h0, .inr (1, [.int (nI L), .ref t1, .ref t2, .int (q_nx nx), .int (nI kc), .int (nI w)])), (t1, .inr (0, [.ref m1, .ref k1, .ref v1, .int (nI A.1)])), (m1, .inl (cI, L, .inl A.2.1)), (k1, .inl (cI, L, .inl A.2.2.1)), (v1, .inl (cI, L, .inl A.2.2.2)), (t2, .inr (0, [.ref m2, .ref k2, .ref v2, .int (nI B.1)])), (m2, .inl (cI, L, .inl B.2.1)), (k2, .inl (cI, L, .inl B.2.2.1)), (v2, .inl (cI, L, .inl B.2.2.2))] sz) := by
  refine Met.ofW (cc := cX1_remove) (maxL := 3) (ret := (some .boolean)) (by decide) rfl ?_
  intro p e s m args below meth c s₁ Bd hml hv
  obtain ⟨rfl, hsz, hP, hK, hD0⟩ := hv
  have hx := Bd.exec
  have hb := Bd.bytes
  have hr := Bd.returns
  have hts := atoms_spec (ws := wsX1_remove) Bd.pre
  have hown : s.vm.findClass RX1 = some m.cls := findClass_of_methodNamed Bd.named
  have hlocks := Bd.notSynchronized
  have S0 : CallFix p m c cX1_remove 3 s _ wsX1_remove RX1 := ⟨hx, hb, hml, hown, hts⟩
  subst hsz
  have hD := hD0.self (sz := s.heap.size)
  generalize hAe : va_A [(h0, .inr (1, [.int (nI L), .ref t1, .ref t2, .int (q_nx nx), .int (nI kc), .int (nI w)])), (t1, .inr (0, [.ref m1, .ref k1, .ref v1, .int (nI A.1)])), (m1, .inl (cI, L, .inl A.2.1)), (k1, .inl (cI, L, .inl A.2.2.1)), (v1, .inl (cI, L, .inl A.2.2.2)), (t2, .inr (0, [.ref m2, .ref k2, .ref v2, .int (nI B.1)])), (m2, .inl (cI, L, .inl B.2.1)), (k2, .inl (cI, L, .inl B.2.2.1)), (v2, .inl (cI, L, .inl B.2.2.2))] s.heap.size = Aq at hD ⊢
  have hA : ∀ q : Nat, s.heap.size ≤ q → Aq q := fun q h => by rw [← hAe]; exact Or.inr h
  have hS : va_S Aq s.heap s.heap [] := va_S.rf
  have hD : va_D Aq [(h0, .inr (1, [.int (nI L), .ref t1, .ref t2, .int (q_nx nx), .int (nI kc), .int (nI w)])), (t1, .inr (0, [.ref m1, .ref k1, .ref v1, .int (nI A.1)])), (m1, .inl (cI, L, .inl A.2.1)), (k1, .inl (cI, L, .inl A.2.2.1)), (v1, .inl (cI, L, .inl A.2.2.2)), (t2, .inr (0, [.ref m2, .ref k2, .ref v2, .int (nI B.1)])), (m2, .inl (cI, L, .inl B.2.1)), (k2, .inl (cI, L, .inl B.2.2.1)), (v2, .inl (cI, L, .inl B.2.2.2))] := hD
  have hP : va_P (dC, dI) vwCl [(h0, .inr (1, [.int (nI L), .ref t1, .ref t2, .int (q_nx nx), .int (nI kc), .int (nI w)])), (t1, .inr (0, [.ref m1, .ref k1, .ref v1, .int (nI A.1)])), (m1, .inl (cI, L, .inl A.2.1)), (k1, .inl (cI, L, .inl A.2.2.1)), (v1, .inl (cI, L, .inl A.2.2.2)), (t2, .inr (0, [.ref m2, .ref k2, .ref v2, .int (nI B.1)])), (m2, .inl (cI, L, .inl B.2.1)), (k2, .inl (cI, L, .inl B.2.2.1)), (v2, .inl (cI, L, .inl B.2.2.2))] s.heap := hP
  have hl := lv_entry ([.ref h0, .int k]) (n := 3) (Nat.le_of_ble_eq_true rfl)
  rw [lg_entry_eq]
  generalize (lg_sl ([.ref h0, .int k]) ++ List.replicate (3 - (lg_sl ([.ref h0, .int k])).length) Slot.unset).toArray = ls at hl ⊢
  have hl : lv_has ls 3 [(0, .ref h0), (1, .int k)] := hl
  have hSZ := hIV.1
  have hkc : kc ≤ 4096 := by have := q_iv_kc hIV; omega
  have hc := q_iv_c hIV
  obtain ⟨hLp, hpA, hAL, hpB, hBL⟩ := id hSZ
  have hL := (q_pw_8 hLp).2
  have hA8 := q_pw_8 hpA
  have hB8 := q_pw_8 hpB
  have heA := q_lkE_lt (t := A) k (by omega)
  have heB := q_lkE_lt (t := B) k (by omega)
  refine lv_aload_n hx hb dX1_remove_0 rfl (lv_at hl 0 rfl) ?_
  refine lv_iconst (v := 0) hx hb dX1_remove_1 (by decide) ?_
  refine va_put (D := (dC, dI)) (ci := 1) (v := .int 0) (ty := .int) (C := RX1) (T := TX1) (N := 6) hx hb hts hin_X1_remove_X1 tyX1 tyX1_ok nmX1 hown hK hP hD hS 0 rfl rfl 5 (by decide) (hts (.fieldLink RX1 35 "StepMap" "work" "I") (by decide +kernel)) (fun _ h9 => h9) rfl (by decide +kernel) (rfl) (rfl) (Nat.le_of_ble_eq_true rfl) dX1_remove_2 (fun H locs hP hD hS => ?_)
  have hP : va_P (dC, dI) vwCl [(h0, .inr (1, [.int (nI L), .ref t1, .ref t2, .int (q_nx nx), .int (nI kc), .int 0])), (t1, .inr (0, [.ref m1, .ref k1, .ref v1, .int (nI A.1)])), (m1, .inl (cI, L, .inl A.2.1)), (k1, .inl (cI, L, .inl A.2.2.1)), (v1, .inl (cI, L, .inl A.2.2.2)), (t2, .inr (0, [.ref m2, .ref k2, .ref v2, .int (nI B.1)])), (m2, .inl (cI, L, .inl B.2.1)), (k2, .inl (cI, L, .inl B.2.2.1)), (v2, .inl (cI, L, .inl B.2.2.2))] H := hP
  have hD : va_D Aq [(h0, .inr (1, [.int (nI L), .ref t1, .ref t2, .int (q_nx nx), .int (nI kc), .int 0])), (t1, .inr (0, [.ref m1, .ref k1, .ref v1, .int (nI A.1)])), (m1, .inl (cI, L, .inl A.2.1)), (k1, .inl (cI, L, .inl A.2.2.1)), (v1, .inl (cI, L, .inl A.2.2.2)), (t2, .inr (0, [.ref m2, .ref k2, .ref v2, .int (nI B.1)])), (m2, .inl (cI, L, .inl B.2.1)), (k2, .inl (cI, L, .inl B.2.2.1)), (v2, .inl (cI, L, .inl B.2.2.2))] := hD
  have e_0_5 : 0 = nI 0 := nI_0.symm
  have hP : va_P (dC, dI) vwCl [(h0, .inr (1, [.int (nI L), .ref t1, .ref t2, .int (q_nx nx), .int (nI kc), .int (nI 0)])), (t1, .inr (0, [.ref m1, .ref k1, .ref v1, .int (nI A.1)])), (m1, .inl (cI, L, .inl A.2.1)), (k1, .inl (cI, L, .inl A.2.2.1)), (v1, .inl (cI, L, .inl A.2.2.2)), (t2, .inr (0, [.ref m2, .ref k2, .ref v2, .int (nI B.1)])), (m2, .inl (cI, L, .inl B.2.1)), (k2, .inl (cI, L, .inl B.2.2.1)), (v2, .inl (cI, L, .inl B.2.2.2))] H := by rw [← e_0_5]; exact hP
  have hD : va_D Aq [(h0, .inr (1, [.int (nI L), .ref t1, .ref t2, .int (q_nx nx), .int (nI kc), .int (nI 0)])), (t1, .inr (0, [.ref m1, .ref k1, .ref v1, .int (nI A.1)])), (m1, .inl (cI, L, .inl A.2.1)), (k1, .inl (cI, L, .inl A.2.2.1)), (v1, .inl (cI, L, .inl A.2.2.2)), (t2, .inr (0, [.ref m2, .ref k2, .ref v2, .int (nI B.1)])), (m2, .inl (cI, L, .inl B.2.1)), (k2, .inl (cI, L, .inl B.2.2.1)), (v2, .inl (cI, L, .inl B.2.2.2))] := by rw [← e_0_5]; exact hD
  refine lv_aload_n hx hb dX1_remove_5 rfl (lv_at hl 0 rfl) ?_
  refine lv_iload_n hx hb dX1_remove_6 rfl (lv_at hl 1 rfl) ?_
  refine r_muI (wr := []) (rest := []) S0 (c_X1_lookUp l dC dI cI h0 t1 m1 k1 v1 t2 m2 k2 v2 L A B nx kc 0 k H.size hSZ hkc hc) (cwV 1 hts gX1_remove_X1_lookUp rfl rfl rfl (by decide +kernel) ⟨Nat.le_of_ble_eq_true rfl, Nat.le_of_ble_eq_true rfl⟩) hK hP hD hS hA [0, 1, 2, 3, 4, 5, 6, 7, 8] [] rfl rfl (by decide) (by decide) (by decide) (ci := 1) (q0 := 0) rfl rfl rfl rfl hl.1 rfl (Nat.le_of_ble_eq_true rfl) dX1_remove_7 ⟨Nat.zero_le _, Nat.zero_le _⟩ (fun r_7 _ H locs hu hP hD hS => ?_)
  have hP : va_P (dC, dI) vwCl [(h0, .inr (1, [.int (nI L), .ref t1, .ref t2, .int (q_nx nx), .int (nI kc), .int (nI (0 + q_lw A B nx k))])), (t1, .inr (0, [.ref m1, .ref k1, .ref v1, .int (nI A.1)])), (m1, .inl (cI, L, .inl A.2.1)), (k1, .inl (cI, L, .inl A.2.2.1)), (v1, .inl (cI, L, .inl A.2.2.2)), (t2, .inr (0, [.ref m2, .ref k2, .ref v2, .int (nI B.1)])), (m2, .inl (cI, L, .inl B.2.1)), (k2, .inl (cI, L, .inl B.2.2.1)), (v2, .inl (cI, L, .inl B.2.2.2))] H := hP.sub [0, 1, 2, 3, 4, 5, 6, 7, 8] rfl
  have hD : va_D Aq [(h0, .inr (1, [.int (nI L), .ref t1, .ref t2, .int (q_nx nx), .int (nI kc), .int (nI (0 + q_lw A B nx k))])), (t1, .inr (0, [.ref m1, .ref k1, .ref v1, .int (nI A.1)])), (m1, .inl (cI, L, .inl A.2.1)), (k1, .inl (cI, L, .inl A.2.2.1)), (v1, .inl (cI, L, .inl A.2.2.2)), (t2, .inr (0, [.ref m2, .ref k2, .ref v2, .int (nI B.1)])), (m2, .inl (cI, L, .inl B.2.1)), (k2, .inl (cI, L, .inl B.2.2.1)), (v2, .inl (cI, L, .inl B.2.2.2))] := hD.sub [0, 1, 2, 3, 4, 5, 6, 7, 8] (by decide) rfl
  have hu : r_7 = q_place A B nx k := hu
  subst hu
  have e_0_5 : nI (0 + q_lw A B nx k) = nI (q_lw A B nx k) := congrArg nI (Nat.zero_add _)
  have hP : va_P (dC, dI) vwCl [(h0, .inr (1, [.int (nI L), .ref t1, .ref t2, .int (q_nx nx), .int (nI kc), .int (nI (q_lw A B nx k))])), (t1, .inr (0, [.ref m1, .ref k1, .ref v1, .int (nI A.1)])), (m1, .inl (cI, L, .inl A.2.1)), (k1, .inl (cI, L, .inl A.2.2.1)), (v1, .inl (cI, L, .inl A.2.2.2)), (t2, .inr (0, [.ref m2, .ref k2, .ref v2, .int (nI B.1)])), (m2, .inl (cI, L, .inl B.2.1)), (k2, .inl (cI, L, .inl B.2.2.1)), (v2, .inl (cI, L, .inl B.2.2.2))] H := by rw [← e_0_5]; exact hP
  have hD : va_D Aq [(h0, .inr (1, [.int (nI L), .ref t1, .ref t2, .int (q_nx nx), .int (nI kc), .int (nI (q_lw A B nx k))])), (t1, .inr (0, [.ref m1, .ref k1, .ref v1, .int (nI A.1)])), (m1, .inl (cI, L, .inl A.2.1)), (k1, .inl (cI, L, .inl A.2.2.1)), (v1, .inl (cI, L, .inl A.2.2.2)), (t2, .inr (0, [.ref m2, .ref k2, .ref v2, .int (nI B.1)])), (m2, .inl (cI, L, .inl B.2.1)), (k2, .inl (cI, L, .inl B.2.2.1)), (v2, .inl (cI, L, .inl B.2.2.2))] := by rw [← e_0_5]; exact hD
  rcases q_place_c A B nx k with ⟨ha, ep⟩ | ⟨ha, hbt, ep⟩ | ⟨ha, hbt, ep⟩
  · refine r_eq (z := nI (q_lkE A k)) (ep) ?_
    refine lv_istore_n (lv' := [(2, .int (nI (q_lkE A k))), (0, .ref h0), (1, .int k)]) hx hb dX1_remove_10 rfl hl (by decide) rfl (fun ls hl => ?_)
    refine lv_iload_n hx hb dX1_remove_11 rfl (lv_at hl 0 rfl) ?_
    refine lv_if_ge (tgt := 17) hx hb dX1_remove_12 (by decide) (fun c_12 => ?_) (fun c_12 => ?_)
    · have h_12 := q_le_t (a := 0) (b := q_lkE A k) (by omega) (by omega) c_12
      refine lv_iload_n hx hb dX1_remove_17 rfl (lv_at hl 0 rfl) ?_
      refine lv_sipush (v := 2000) hx hb dX1_remove_18 (by decide) ?_
      refine lv_icmp_lt (tgt := 41) hx hb dX1_remove_21 (by decide) (fun c_21 => ?_) (fun c_21 => ?_)
      · have h_21 := q_lt_t (a := q_lkE A k) (b := 2000) (by omega) (by omega) c_21
        refine lv_aload_n hx hb dX1_remove_41 rfl (lv_at hl 1 rfl) ?_
        refine lv_iload_n hx hb dX1_remove_42 rfl (lv_at hl 0 rfl) ?_
        refine r_muV (wr := [(t2, .inr (0, [.ref m2, .ref k2, .ref v2, .int (nI B.1)])), (m2, .inl (cI, L, .inl B.2.1)), (k2, .inl (cI, L, .inl B.2.2.1)), (v2, .inl (cI, L, .inl B.2.2.2))]) (rest := []) S0 (c_X1_freeInNew l dC dI cI h0 t1 m1 k1 v1 t2 L (nI L) (q_nx nx) (nI kc) (q_lw A B nx k) A (q_lkE A k) H.size (by assumption) (by omega) (by omega) (by omega)) (cwV 1 hts gX1_remove_X1_freeInNew rfl rfl rfl (by decide +kernel) ⟨Nat.le_of_ble_eq_true rfl, Nat.le_of_ble_eq_true rfl⟩) hK hP hD hS hA [0, 1, 2, 3, 4] [5, 6, 7, 8] rfl rfl (by decide) (by decide) (by decide) (ci := 1) (q0 := 0) rfl rfl rfl rfl hl.1 rfl (Nat.le_of_ble_eq_true rfl) dX1_remove_43 ⟨Nat.zero_le _, Nat.zero_le _⟩ (fun _ H locs hu hP hD hS => ?_)
        have hP : va_P (dC, dI) vwCl [(h0, .inr (1, [.int (nI L), .ref t1, .ref t2, .int (q_nx nx), .int (nI kc), .int (nI (q_lw A B nx k + ((q_fr A (q_lkE A k)).2 + 1)))])), (t1, .inr (0, [.ref m1, .ref k1, .ref v1, .int (nI ((q_fr A (q_lkE A k)).1.1))])), (m1, .inl (cI, L, .inl ((q_fr A (q_lkE A k)).1.2.1))), (k1, .inl (cI, L, .inl ((q_fr A (q_lkE A k)).1.2.2.1))), (v1, .inl (cI, L, .inl ((q_fr A (q_lkE A k)).1.2.2.2))), (t2, .inr (0, [.ref m2, .ref k2, .ref v2, .int (nI B.1)])), (m2, .inl (cI, L, .inl B.2.1)), (k2, .inl (cI, L, .inl B.2.2.1)), (v2, .inl (cI, L, .inl B.2.2.2))] H := hP.sub [4, 5, 6, 7, 8, 0, 1, 2, 3] rfl
        have hD : va_D Aq [(h0, .inr (1, [.int (nI L), .ref t1, .ref t2, .int (q_nx nx), .int (nI kc), .int (nI (q_lw A B nx k + ((q_fr A (q_lkE A k)).2 + 1)))])), (t1, .inr (0, [.ref m1, .ref k1, .ref v1, .int (nI ((q_fr A (q_lkE A k)).1.1))])), (m1, .inl (cI, L, .inl ((q_fr A (q_lkE A k)).1.2.1))), (k1, .inl (cI, L, .inl ((q_fr A (q_lkE A k)).1.2.2.1))), (v1, .inl (cI, L, .inl ((q_fr A (q_lkE A k)).1.2.2.2))), (t2, .inr (0, [.ref m2, .ref k2, .ref v2, .int (nI B.1)])), (m2, .inl (cI, L, .inl B.2.1)), (k2, .inl (cI, L, .inl B.2.2.1)), (v2, .inl (cI, L, .inl B.2.2.2))] := hD.sub [4, 5, 6, 7, 8, 0, 1, 2, 3] (by decide) rfl
        refine lv_aload_n hx hb dX1_remove_46 rfl (lv_at hl 1 rfl) ?_
        refine lv_dup hx hb dX1_remove_47 rfl ?_
        refine va_get (D := (dC, dI)) (ci := 1) (v := .int (nI kc)) (C := RX1) (T := TX1) (N := 6) hx hb hts hin_X1_remove_X1 hown hK hP 0 rfl rfl 4 (by decide) (hts (.fieldLink RX1 57 "StepMap" "keyCount" "I") (by decide +kernel)) (fun _ h9 => h9) rfl dX1_remove_48 ?_
        refine lv_iconst (v := 1) hx hb dX1_remove_51 (by decide) ?_
        refine lv_isub hx hb dX1_remove_52 ?_
        have hk1 := q_hit_kc hIV ha
        refine r_eq (z := nI (kc - 1)) (pk_sub (b := 1) hk1) ?_
        refine va_put (D := (dC, dI)) (ci := 1) (v := .int (nI (kc - 1))) (ty := .int) (C := RX1) (T := TX1) (N := 6) hx hb hts hin_X1_remove_X1 tyX1 tyX1_ok nmX1 hown hK hP hD hS 0 rfl rfl 4 (by decide) (hts (.fieldLink RX1 57 "StepMap" "keyCount" "I") (by decide +kernel)) (fun _ h9 => h9) rfl (by decide +kernel) (rfl) (rfl) (Nat.le_of_ble_eq_true rfl) dX1_remove_53 (fun H locs hP hD hS => ?_)
        have hP : va_P (dC, dI) vwCl [(h0, .inr (1, [.int (nI L), .ref t1, .ref t2, .int (q_nx nx), .int (nI (kc - 1)), .int (nI (q_lw A B nx k + ((q_fr A (q_lkE A k)).2 + 1)))])), (t1, .inr (0, [.ref m1, .ref k1, .ref v1, .int (nI ((q_fr A (q_lkE A k)).1.1))])), (m1, .inl (cI, L, .inl ((q_fr A (q_lkE A k)).1.2.1))), (k1, .inl (cI, L, .inl ((q_fr A (q_lkE A k)).1.2.2.1))), (v1, .inl (cI, L, .inl ((q_fr A (q_lkE A k)).1.2.2.2))), (t2, .inr (0, [.ref m2, .ref k2, .ref v2, .int (nI B.1)])), (m2, .inl (cI, L, .inl B.2.1)), (k2, .inl (cI, L, .inl B.2.2.1)), (v2, .inl (cI, L, .inl B.2.2.2))] H := hP
        have hD : va_D Aq [(h0, .inr (1, [.int (nI L), .ref t1, .ref t2, .int (q_nx nx), .int (nI (kc - 1)), .int (nI (q_lw A B nx k + ((q_fr A (q_lkE A k)).2 + 1)))])), (t1, .inr (0, [.ref m1, .ref k1, .ref v1, .int (nI ((q_fr A (q_lkE A k)).1.1))])), (m1, .inl (cI, L, .inl ((q_fr A (q_lkE A k)).1.2.1))), (k1, .inl (cI, L, .inl ((q_fr A (q_lkE A k)).1.2.2.1))), (v1, .inl (cI, L, .inl ((q_fr A (q_lkE A k)).1.2.2.2))), (t2, .inr (0, [.ref m2, .ref k2, .ref v2, .int (nI B.1)])), (m2, .inl (cI, L, .inl B.2.1)), (k2, .inl (cI, L, .inl B.2.2.1)), (v2, .inl (cI, L, .inl B.2.2.2))] := hD
        refine lv_aload_n hx hb dX1_remove_56 rfl (lv_at hl 1 rfl) ?_
        refine r_muV (wr := []) (rest := []) S0 (c_X1_moveOn l dC dI cI h0 t1 m1 k1 v1 t2 m2 k2 v2 L ((q_fr A (q_lkE A k)).1) B nx (kc - 1) (q_lw A B nx k + ((q_fr A (q_lkE A k)).2 + 1)) H.size (q_iw_rmA hIV ha)) (cwV 0 hts gX1_remove_X1_moveOn rfl rfl rfl (by decide +kernel) ⟨Nat.le_of_ble_eq_true rfl, Nat.le_of_ble_eq_true rfl⟩) hK hP hD hS hA [0, 1, 2, 3, 4, 5, 6, 7, 8] [] rfl rfl (by decide) (by decide) (by decide) (ci := 1) (q0 := 0) rfl rfl rfl rfl hl.1 rfl (Nat.le_of_ble_eq_true rfl) dX1_remove_57 ⟨Nat.zero_le _, Nat.zero_le _⟩ (fun u H locs hu hP hD hS => ?_)
        have hP : va_P (dC, dI) vwCl [(h0, .inr (1, [.int (nI L), .ref u.1, .ref u.2.2.2.2.1, .int (q_nx (q_on ((q_fr A (q_lkE A k)).1) B nx (kc - 1) (q_lw A B nx k + ((q_fr A (q_lkE A k)).2 + 1))).2.2.1), .int (nI (q_on ((q_fr A (q_lkE A k)).1) B nx (kc - 1) (q_lw A B nx k + ((q_fr A (q_lkE A k)).2 + 1))).2.2.2.1), .int (nI (q_on ((q_fr A (q_lkE A k)).1) B nx (kc - 1) (q_lw A B nx k + ((q_fr A (q_lkE A k)).2 + 1))).2.2.2.2)])), (u.1, .inr (0, [.ref u.2.1, .ref u.2.2.1, .ref u.2.2.2.1, .int (nI ((q_on ((q_fr A (q_lkE A k)).1) B nx (kc - 1) (q_lw A B nx k + ((q_fr A (q_lkE A k)).2 + 1))).1.1))])), (u.2.1, .inl (cI, L, .inl ((q_on ((q_fr A (q_lkE A k)).1) B nx (kc - 1) (q_lw A B nx k + ((q_fr A (q_lkE A k)).2 + 1))).1.2.1))), (u.2.2.1, .inl (cI, L, .inl ((q_on ((q_fr A (q_lkE A k)).1) B nx (kc - 1) (q_lw A B nx k + ((q_fr A (q_lkE A k)).2 + 1))).1.2.2.1))), (u.2.2.2.1, .inl (cI, L, .inl ((q_on ((q_fr A (q_lkE A k)).1) B nx (kc - 1) (q_lw A B nx k + ((q_fr A (q_lkE A k)).2 + 1))).1.2.2.2))), (u.2.2.2.2.1, .inr (0, [.ref u.2.2.2.2.2.1, .ref u.2.2.2.2.2.2.1, .ref u.2.2.2.2.2.2.2, .int (nI ((q_on ((q_fr A (q_lkE A k)).1) B nx (kc - 1) (q_lw A B nx k + ((q_fr A (q_lkE A k)).2 + 1))).2.1.1))])), (u.2.2.2.2.2.1, .inl (cI, L, .inl ((q_on ((q_fr A (q_lkE A k)).1) B nx (kc - 1) (q_lw A B nx k + ((q_fr A (q_lkE A k)).2 + 1))).2.1.2.1))), (u.2.2.2.2.2.2.1, .inl (cI, L, .inl ((q_on ((q_fr A (q_lkE A k)).1) B nx (kc - 1) (q_lw A B nx k + ((q_fr A (q_lkE A k)).2 + 1))).2.1.2.2.1))), (u.2.2.2.2.2.2.2, .inl (cI, L, .inl ((q_on ((q_fr A (q_lkE A k)).1) B nx (kc - 1) (q_lw A B nx k + ((q_fr A (q_lkE A k)).2 + 1))).2.1.2.2.2)))] H := hP.sub [0, 1, 2, 3, 4, 5, 6, 7, 8] rfl
        have hD : va_D Aq [(h0, .inr (1, [.int (nI L), .ref u.1, .ref u.2.2.2.2.1, .int (q_nx (q_on ((q_fr A (q_lkE A k)).1) B nx (kc - 1) (q_lw A B nx k + ((q_fr A (q_lkE A k)).2 + 1))).2.2.1), .int (nI (q_on ((q_fr A (q_lkE A k)).1) B nx (kc - 1) (q_lw A B nx k + ((q_fr A (q_lkE A k)).2 + 1))).2.2.2.1), .int (nI (q_on ((q_fr A (q_lkE A k)).1) B nx (kc - 1) (q_lw A B nx k + ((q_fr A (q_lkE A k)).2 + 1))).2.2.2.2)])), (u.1, .inr (0, [.ref u.2.1, .ref u.2.2.1, .ref u.2.2.2.1, .int (nI ((q_on ((q_fr A (q_lkE A k)).1) B nx (kc - 1) (q_lw A B nx k + ((q_fr A (q_lkE A k)).2 + 1))).1.1))])), (u.2.1, .inl (cI, L, .inl ((q_on ((q_fr A (q_lkE A k)).1) B nx (kc - 1) (q_lw A B nx k + ((q_fr A (q_lkE A k)).2 + 1))).1.2.1))), (u.2.2.1, .inl (cI, L, .inl ((q_on ((q_fr A (q_lkE A k)).1) B nx (kc - 1) (q_lw A B nx k + ((q_fr A (q_lkE A k)).2 + 1))).1.2.2.1))), (u.2.2.2.1, .inl (cI, L, .inl ((q_on ((q_fr A (q_lkE A k)).1) B nx (kc - 1) (q_lw A B nx k + ((q_fr A (q_lkE A k)).2 + 1))).1.2.2.2))), (u.2.2.2.2.1, .inr (0, [.ref u.2.2.2.2.2.1, .ref u.2.2.2.2.2.2.1, .ref u.2.2.2.2.2.2.2, .int (nI ((q_on ((q_fr A (q_lkE A k)).1) B nx (kc - 1) (q_lw A B nx k + ((q_fr A (q_lkE A k)).2 + 1))).2.1.1))])), (u.2.2.2.2.2.1, .inl (cI, L, .inl ((q_on ((q_fr A (q_lkE A k)).1) B nx (kc - 1) (q_lw A B nx k + ((q_fr A (q_lkE A k)).2 + 1))).2.1.2.1))), (u.2.2.2.2.2.2.1, .inl (cI, L, .inl ((q_on ((q_fr A (q_lkE A k)).1) B nx (kc - 1) (q_lw A B nx k + ((q_fr A (q_lkE A k)).2 + 1))).2.1.2.2.1))), (u.2.2.2.2.2.2.2, .inl (cI, L, .inl ((q_on ((q_fr A (q_lkE A k)).1) B nx (kc - 1) (q_lw A B nx k + ((q_fr A (q_lkE A k)).2 + 1))).2.1.2.2.2)))] := hD.sub [0, 1, 2, 3, 4, 5, 6, 7, 8] (by decide) rfl
        refine lv_iconst (v := 1) hx hb dX1_remove_60 (by decide) ?_
        have eq := q_rem_A (B := B) (nx := nx) (kc := kc) ha
        have hP : va_P (dC, dI) vwCl (q_WS cI L h0 u (q_rem A B nx kc k).2) H := by rw [eq]; exact hP
        have hD : va_D Aq (q_WS cI L h0 u (q_rem A B nx kc k).2) := by rw [eq]; exact hD
        exact W.zret (v := 1) hx hb hr (rfl) (fun t ht hW => ⟨⟨_, u, rfl, by rw [eq], by rw [ht]; exact hP, va_K.moved hW.alike hK, hD⟩, hS.F ht⟩) hS.2.2 dX1_remove_61
      · have h_21 := q_lt_f (a := q_lkE A k) (b := 2000) (by omega) (by omega) c_21
        omega
    · have h_12 := q_le_f (a := 0) (b := q_lkE A k) (by omega) (by omega) c_12
      omega
  · refine r_eq (z := nI (2000 + q_lkE B k)) (ep) ?_
    refine lv_istore_n (lv' := [(2, .int (nI (2000 + q_lkE B k))), (0, .ref h0), (1, .int k)]) hx hb dX1_remove_10 rfl hl (by decide) rfl (fun ls hl => ?_)
    refine lv_iload_n hx hb dX1_remove_11 rfl (lv_at hl 0 rfl) ?_
    refine lv_if_ge (tgt := 17) hx hb dX1_remove_12 (by decide) (fun c_12 => ?_) (fun c_12 => ?_)
    · have h_12 := q_le_t (a := 0) (b := 2000 + q_lkE B k) (by omega) (by omega) c_12
      refine lv_iload_n hx hb dX1_remove_17 rfl (lv_at hl 0 rfl) ?_
      refine lv_sipush (v := 2000) hx hb dX1_remove_18 (by decide) ?_
      refine lv_icmp_lt (tgt := 41) hx hb dX1_remove_21 (by decide) (fun c_21 => ?_) (fun c_21 => ?_)
      · have h_21 := q_lt_t (a := 2000 + q_lkE B k) (b := 2000) (by omega) (by omega) c_21
        omega
      · have h_21 := q_lt_f (a := 2000 + q_lkE B k) (b := 2000) (by omega) (by omega) c_21
        refine lv_aload_n hx hb dX1_remove_24 rfl (lv_at hl 1 rfl) ?_
        refine va_get (D := (dC, dI)) (ci := 1) (v := .ref t2) (C := RX1) (T := TX1) (N := 6) hx hb hts hin_X1_remove_X1 hown hK hP 0 rfl rfl 2 (by decide) (hts (.fieldLink RX1 26 "StepMap" "oldTable" "LStepMap$Table;") (by decide +kernel)) (fun _ h9 => h9) rfl dX1_remove_25 ?_
        refine va_get (D := (dC, dI)) (ci := 0) (v := .ref m2) (C := RX0) (T := TX0) (N := 4) hx hb hts hin_X1_remove_X0 hown hK hP 5 rfl rfl 0 (by decide) (hts (.fieldLink RX1 63 "StepMap$Table" "marks" "[I") (by decide +kernel)) (fun _ h9 => h9) rfl dX1_remove_28 ?_
        refine lv_iload_n hx hb dX1_remove_31 rfl (lv_at hl 0 rfl) ?_
        refine lv_sipush (v := 2000) hx hb dX1_remove_32 (by decide) ?_
        refine lv_isub hx hb dX1_remove_35 ?_
        refine r_eq (z := nI (q_lkE B k)) (q_2000 _) ?_
        refine lv_iconst (v := 1) hx hb dX1_remove_36 (by decide) ?_
        refine r_st (i := q_lkE B k) hx hb hK hP hD hS 6 0 rfl rfl (by omega) (by omega) dX1_remove_37 (fun H locs hP hD hS => ?_)
        have hP : va_P (dC, dI) vwCl [(h0, .inr (1, [.int (nI L), .ref t1, .ref t2, .int (q_nx nx), .int (nI kc), .int (nI (q_lw A B nx k))])), (t1, .inr (0, [.ref m1, .ref k1, .ref v1, .int (nI A.1)])), (m1, .inl (cI, L, .inl A.2.1)), (k1, .inl (cI, L, .inl A.2.2.1)), (v1, .inl (cI, L, .inl A.2.2.2)), (t2, .inr (0, [.ref m2, .ref k2, .ref v2, .int (nI B.1)])), (m2, .inl (cI, L, .inl (upd B.2.1 (q_lkE B k) 1))), (k2, .inl (cI, L, .inl B.2.2.1)), (v2, .inl (cI, L, .inl B.2.2.2))] H := hP
        have hD : va_D Aq [(h0, .inr (1, [.int (nI L), .ref t1, .ref t2, .int (q_nx nx), .int (nI kc), .int (nI (q_lw A B nx k))])), (t1, .inr (0, [.ref m1, .ref k1, .ref v1, .int (nI A.1)])), (m1, .inl (cI, L, .inl A.2.1)), (k1, .inl (cI, L, .inl A.2.2.1)), (v1, .inl (cI, L, .inl A.2.2.2)), (t2, .inr (0, [.ref m2, .ref k2, .ref v2, .int (nI B.1)])), (m2, .inl (cI, L, .inl (upd B.2.1 (q_lkE B k) 1))), (k2, .inl (cI, L, .inl B.2.2.1)), (v2, .inl (cI, L, .inl B.2.2.2))] := hD
        refine lv_goto (tgt := 46) hx hb dX1_remove_38 (by decide) ?_
        refine lv_aload_n hx hb dX1_remove_46 rfl (lv_at hl 1 rfl) ?_
        refine lv_dup hx hb dX1_remove_47 rfl ?_
        refine va_get (D := (dC, dI)) (ci := 1) (v := .int (nI kc)) (C := RX1) (T := TX1) (N := 6) hx hb hts hin_X1_remove_X1 hown hK hP 0 rfl rfl 4 (by decide) (hts (.fieldLink RX1 57 "StepMap" "keyCount" "I") (by decide +kernel)) (fun _ h9 => h9) rfl dX1_remove_48 ?_
        refine lv_iconst (v := 1) hx hb dX1_remove_51 (by decide) ?_
        refine lv_isub hx hb dX1_remove_52 ?_
        have hk1 := q_hitB_kc hIV hbt
        refine r_eq (z := nI (kc - 1)) (pk_sub (b := 1) hk1) ?_
        refine va_put (D := (dC, dI)) (ci := 1) (v := .int (nI (kc - 1))) (ty := .int) (C := RX1) (T := TX1) (N := 6) hx hb hts hin_X1_remove_X1 tyX1 tyX1_ok nmX1 hown hK hP hD hS 0 rfl rfl 4 (by decide) (hts (.fieldLink RX1 57 "StepMap" "keyCount" "I") (by decide +kernel)) (fun _ h9 => h9) rfl (by decide +kernel) (rfl) (rfl) (Nat.le_of_ble_eq_true rfl) dX1_remove_53 (fun H locs hP hD hS => ?_)
        have hP : va_P (dC, dI) vwCl [(h0, .inr (1, [.int (nI L), .ref t1, .ref t2, .int (q_nx nx), .int (nI (kc - 1)), .int (nI (q_lw A B nx k))])), (t1, .inr (0, [.ref m1, .ref k1, .ref v1, .int (nI A.1)])), (m1, .inl (cI, L, .inl A.2.1)), (k1, .inl (cI, L, .inl A.2.2.1)), (v1, .inl (cI, L, .inl A.2.2.2)), (t2, .inr (0, [.ref m2, .ref k2, .ref v2, .int (nI B.1)])), (m2, .inl (cI, L, .inl (upd B.2.1 (q_lkE B k) 1))), (k2, .inl (cI, L, .inl B.2.2.1)), (v2, .inl (cI, L, .inl B.2.2.2))] H := hP
        have hD : va_D Aq [(h0, .inr (1, [.int (nI L), .ref t1, .ref t2, .int (q_nx nx), .int (nI (kc - 1)), .int (nI (q_lw A B nx k))])), (t1, .inr (0, [.ref m1, .ref k1, .ref v1, .int (nI A.1)])), (m1, .inl (cI, L, .inl A.2.1)), (k1, .inl (cI, L, .inl A.2.2.1)), (v1, .inl (cI, L, .inl A.2.2.2)), (t2, .inr (0, [.ref m2, .ref k2, .ref v2, .int (nI B.1)])), (m2, .inl (cI, L, .inl (upd B.2.1 (q_lkE B k) 1))), (k2, .inl (cI, L, .inl B.2.2.1)), (v2, .inl (cI, L, .inl B.2.2.2))] := hD
        refine lv_aload_n hx hb dX1_remove_56 rfl (lv_at hl 1 rfl) ?_
        refine r_muV (wr := []) (rest := []) S0 (c_X1_moveOn l dC dI cI h0 t1 m1 k1 v1 t2 m2 k2 v2 L A (B.1, upd B.2.1 (q_lkE B k) 1, B.2.2.1, B.2.2.2) nx (kc - 1) (q_lw A B nx k) H.size (q_iw_rmB' hIV hbt)) (cwV 0 hts gX1_remove_X1_moveOn rfl rfl rfl (by decide +kernel) ⟨Nat.le_of_ble_eq_true rfl, Nat.le_of_ble_eq_true rfl⟩) hK hP hD hS hA [0, 1, 2, 3, 4, 5, 6, 7, 8] [] rfl rfl (by decide) (by decide) (by decide) (ci := 1) (q0 := 0) rfl rfl rfl rfl hl.1 rfl (Nat.le_of_ble_eq_true rfl) dX1_remove_57 ⟨Nat.zero_le _, Nat.zero_le _⟩ (fun u H locs hu hP hD hS => ?_)
        have hP : va_P (dC, dI) vwCl [(h0, .inr (1, [.int (nI L), .ref u.1, .ref u.2.2.2.2.1, .int (q_nx (q_on A (B.1, upd B.2.1 (q_lkE B k) 1, B.2.2.1, B.2.2.2) nx (kc - 1) (q_lw A B nx k)).2.2.1), .int (nI (q_on A (B.1, upd B.2.1 (q_lkE B k) 1, B.2.2.1, B.2.2.2) nx (kc - 1) (q_lw A B nx k)).2.2.2.1), .int (nI (q_on A (B.1, upd B.2.1 (q_lkE B k) 1, B.2.2.1, B.2.2.2) nx (kc - 1) (q_lw A B nx k)).2.2.2.2)])), (u.1, .inr (0, [.ref u.2.1, .ref u.2.2.1, .ref u.2.2.2.1, .int (nI ((q_on A (B.1, upd B.2.1 (q_lkE B k) 1, B.2.2.1, B.2.2.2) nx (kc - 1) (q_lw A B nx k)).1.1))])), (u.2.1, .inl (cI, L, .inl ((q_on A (B.1, upd B.2.1 (q_lkE B k) 1, B.2.2.1, B.2.2.2) nx (kc - 1) (q_lw A B nx k)).1.2.1))), (u.2.2.1, .inl (cI, L, .inl ((q_on A (B.1, upd B.2.1 (q_lkE B k) 1, B.2.2.1, B.2.2.2) nx (kc - 1) (q_lw A B nx k)).1.2.2.1))), (u.2.2.2.1, .inl (cI, L, .inl ((q_on A (B.1, upd B.2.1 (q_lkE B k) 1, B.2.2.1, B.2.2.2) nx (kc - 1) (q_lw A B nx k)).1.2.2.2))), (u.2.2.2.2.1, .inr (0, [.ref u.2.2.2.2.2.1, .ref u.2.2.2.2.2.2.1, .ref u.2.2.2.2.2.2.2, .int (nI ((q_on A (B.1, upd B.2.1 (q_lkE B k) 1, B.2.2.1, B.2.2.2) nx (kc - 1) (q_lw A B nx k)).2.1.1))])), (u.2.2.2.2.2.1, .inl (cI, L, .inl ((q_on A (B.1, upd B.2.1 (q_lkE B k) 1, B.2.2.1, B.2.2.2) nx (kc - 1) (q_lw A B nx k)).2.1.2.1))), (u.2.2.2.2.2.2.1, .inl (cI, L, .inl ((q_on A (B.1, upd B.2.1 (q_lkE B k) 1, B.2.2.1, B.2.2.2) nx (kc - 1) (q_lw A B nx k)).2.1.2.2.1))), (u.2.2.2.2.2.2.2, .inl (cI, L, .inl ((q_on A (B.1, upd B.2.1 (q_lkE B k) 1, B.2.2.1, B.2.2.2) nx (kc - 1) (q_lw A B nx k)).2.1.2.2.2)))] H := hP.sub [0, 1, 2, 3, 4, 5, 6, 7, 8] rfl
        have hD : va_D Aq [(h0, .inr (1, [.int (nI L), .ref u.1, .ref u.2.2.2.2.1, .int (q_nx (q_on A (B.1, upd B.2.1 (q_lkE B k) 1, B.2.2.1, B.2.2.2) nx (kc - 1) (q_lw A B nx k)).2.2.1), .int (nI (q_on A (B.1, upd B.2.1 (q_lkE B k) 1, B.2.2.1, B.2.2.2) nx (kc - 1) (q_lw A B nx k)).2.2.2.1), .int (nI (q_on A (B.1, upd B.2.1 (q_lkE B k) 1, B.2.2.1, B.2.2.2) nx (kc - 1) (q_lw A B nx k)).2.2.2.2)])), (u.1, .inr (0, [.ref u.2.1, .ref u.2.2.1, .ref u.2.2.2.1, .int (nI ((q_on A (B.1, upd B.2.1 (q_lkE B k) 1, B.2.2.1, B.2.2.2) nx (kc - 1) (q_lw A B nx k)).1.1))])), (u.2.1, .inl (cI, L, .inl ((q_on A (B.1, upd B.2.1 (q_lkE B k) 1, B.2.2.1, B.2.2.2) nx (kc - 1) (q_lw A B nx k)).1.2.1))), (u.2.2.1, .inl (cI, L, .inl ((q_on A (B.1, upd B.2.1 (q_lkE B k) 1, B.2.2.1, B.2.2.2) nx (kc - 1) (q_lw A B nx k)).1.2.2.1))), (u.2.2.2.1, .inl (cI, L, .inl ((q_on A (B.1, upd B.2.1 (q_lkE B k) 1, B.2.2.1, B.2.2.2) nx (kc - 1) (q_lw A B nx k)).1.2.2.2))), (u.2.2.2.2.1, .inr (0, [.ref u.2.2.2.2.2.1, .ref u.2.2.2.2.2.2.1, .ref u.2.2.2.2.2.2.2, .int (nI ((q_on A (B.1, upd B.2.1 (q_lkE B k) 1, B.2.2.1, B.2.2.2) nx (kc - 1) (q_lw A B nx k)).2.1.1))])), (u.2.2.2.2.2.1, .inl (cI, L, .inl ((q_on A (B.1, upd B.2.1 (q_lkE B k) 1, B.2.2.1, B.2.2.2) nx (kc - 1) (q_lw A B nx k)).2.1.2.1))), (u.2.2.2.2.2.2.1, .inl (cI, L, .inl ((q_on A (B.1, upd B.2.1 (q_lkE B k) 1, B.2.2.1, B.2.2.2) nx (kc - 1) (q_lw A B nx k)).2.1.2.2.1))), (u.2.2.2.2.2.2.2, .inl (cI, L, .inl ((q_on A (B.1, upd B.2.1 (q_lkE B k) 1, B.2.2.1, B.2.2.2) nx (kc - 1) (q_lw A B nx k)).2.1.2.2.2)))] := hD.sub [0, 1, 2, 3, 4, 5, 6, 7, 8] (by decide) rfl
        refine lv_iconst (v := 1) hx hb dX1_remove_60 (by decide) ?_
        have eq := q_rem_B (kc := kc) ha hbt
        have hP : va_P (dC, dI) vwCl (q_WS cI L h0 u (q_rem A B nx kc k).2) H := by rw [eq]; exact hP
        have hD : va_D Aq (q_WS cI L h0 u (q_rem A B nx kc k).2) := by rw [eq]; exact hD
        exact W.zret (v := 1) hx hb hr (rfl) (fun t ht hW => ⟨⟨_, u, rfl, by rw [eq], by rw [ht]; exact hP, va_K.moved hW.alike hK, hD⟩, hS.F ht⟩) hS.2.2 dX1_remove_61
    · have h_12 := q_le_f (a := 0) (b := 2000 + q_lkE B k) (by omega) (by omega) c_12
      omega
  · refine r_eq (z := -1 - nI (q_lkE A k)) (ep) ?_
    refine lv_istore_n (lv' := [(2, .int (-1 - nI (q_lkE A k))), (0, .ref h0), (1, .int k)]) hx hb dX1_remove_10 rfl hl (by decide) rfl (fun ls hl => ?_)
    refine lv_iload_n hx hb dX1_remove_11 rfl (lv_at hl 0 rfl) ?_
    refine lv_if_ge (tgt := 17) hx hb dX1_remove_12 (by decide) (fun c_12 => ?_) (fun c_12 => ?_)
    · exact absurd c_12 (q_neg_ge (by omega))
    · refine lv_iconst (v := 0) hx hb dX1_remove_15 (by decide) ?_
      have eq := q_rem_N (kc := kc) ha hbt
      have hP : va_P (dC, dI) vwCl (q_WS cI L h0 (t1, m1, k1, v1, t2, m2, k2, v2) (q_rem A B nx kc k).2) H := by rw [eq]; exact hP
      have hD : va_D Aq (q_WS cI L h0 (t1, m1, k1, v1, t2, m2, k2, v2) (q_rem A B nx kc k).2) := by rw [eq]; exact hD
      exact W.zret (v := 0) hx hb hr (rfl) (fun t ht hW => ⟨⟨_, (t1, m1, k1, v1, t2, m2, k2, v2), rfl, by rw [eq], by rw [ht]; exact hP, va_K.moved hW.alike hK, hD⟩, hS.F ht⟩) hS.2.2 dX1_remove_16
end
section
/-! REL: how the reference's rows hold a table -/
def q_sw (m : Int32) : Int32 := if m = 0 then 0 else if m = 2 then 1 else 2
theorem q_sw_0 {m : Int32} : q_sw m = 0 ↔ m = 0 := by
  unfold q_sw
  by_cases h : m = 0
  · rw [if_pos h]; exact ⟨fun _ => h, fun _ => rfl⟩
  · rw [if_neg h]
    by_cases h2 : m = 2
    · rw [if_pos h2]; exact ⟨fun z => absurd z (by decide), fun z => absurd z h⟩
    · rw [if_neg h2]; exact ⟨fun z => absurd z (by decide), fun z => absurd z h⟩
theorem q_sw_1 {m : Int32} : q_sw m = 1 ↔ m = 2 := by
  unfold q_sw
  by_cases h : m = 0
  · rw [if_pos h]; exact ⟨fun z => absurd z (by decide), fun z => by rw [z] at h; exact absurd h (by decide)⟩
  · rw [if_neg h]
    by_cases h2 : m = 2
    · rw [if_pos h2]; exact ⟨fun _ => h2, fun _ => rfl⟩
    · rw [if_neg h2]; exact ⟨fun z => absurd z (by decide), fun z => absurd z h2⟩
/-- table t lies at place ci of the reference's rows -/
def q_RT (S K V : Nat → Int32) (ci : Nat) (t : q_TB) : Prop := ∀ i, i < t.1 → S (1024 * ci + i) = q_sw (t.2.1 i) ∧ (t.2.1 i = 2 → K (1024 * ci + i) = t.2.2.1 i ∧ V (1024 * ci + i) = t.2.2.2 i)
theorem q_RT_s {S K V : Nat → Int32} {ci i : Nat} {t : q_TB} (h : q_RT S K V ci t) (hi : i < t.1) : S (1024 * ci + i) = q_sw (t.2.1 i) := (h i hi).1
theorem q_RT_k {S K V : Nat → Int32} {ci i : Nat} {t : q_TB} (h : q_RT S K V ci t) (hi : i < t.1) (h2 : t.2.1 i = 2) : K (1024 * ci + i) = t.2.2.1 i := ((h i hi).2 h2).1
theorem q_RT_v {S K V : Nat → Int32} {ci i : Nat} {t : q_TB} (h : q_RT S K V ci t) (hi : i < t.1) (h2 : t.2.1 i = 2) : V (1024 * ci + i) = t.2.2.2 i := ((h i hi).2 h2).2
/-- what lies elsewhere doesn't matter -/
theorem q_RT_eq {S K V S' K' V' : Nat → Int32} {ci : Nat} {t : q_TB} (h : q_RT S K V ci t) (hs : ∀ i, i < t.1 → S' (1024 * ci + i) = S (1024 * ci + i) ∧ K' (1024 * ci + i) = K (1024 * ci + i) ∧ V' (1024 * ci + i) = V (1024 * ci + i)) : q_RT S' K' V' ci t := by
  intro i hi
  obtain ⟨a, b, c⟩ := hs i hi
  obtain ⟨d, e⟩ := h i hi
  exact ⟨by rw [a, d], fun z => ⟨by rw [b, (e z).1], by rw [c, (e z).2]⟩⟩
theorem q_RT_o {S K V : Nat → Int32} {ci p : Nat} {t : q_TB} {x y z : Int32} (h : q_RT S K V ci t) (hp : ∀ i, i < t.1 → 1024 * ci + i ≠ p) : q_RT (upd S p x) (upd K p y) (upd V p z) ci t := q_RT_eq h fun i hi => ⟨pk_un (hp i hi), pk_un (hp i hi), pk_un (hp i hi)⟩
theorem q_RT_oS {S K V : Nat → Int32} {ci p : Nat} {t : q_TB} {x : Int32} (h : q_RT S K V ci t) (hp : ∀ i, i < t.1 → 1024 * ci + i ≠ p) : q_RT (upd S p x) K V ci t := q_RT_eq h fun i hi => ⟨pk_un (hp i hi), rfl, rfl⟩
theorem q_RT_oV {S K V : Nat → Int32} {ci p : Nat} {t : q_TB} {x : Int32} (h : q_RT S K V ci t) (hp : ∀ i, i < t.1 → 1024 * ci + i ≠ p) : q_RT S K (upd V p x) ci t := q_RT_eq h fun i hi => ⟨rfl, rfl, pk_un (hp i hi)⟩
theorem q_RT_fl {S K V : Nat → Int32} {ci e : Nat} {t : q_TB} {k v : Int32} (h : q_RT S K V ci t) : q_RT (upd S (1024 * ci + e) 1) (upd K (1024 * ci + e) k) (upd V (1024 * ci + e) v) ci (q_fl t e k v) := by
  intro i hi
  show upd S (1024 * ci + e) 1 (1024 * ci + i) = q_sw (upd t.2.1 e 2 i) ∧ (upd t.2.1 e 2 i = 2 → upd K (1024 * ci + e) k (1024 * ci + i) = upd t.2.2.1 e k i ∧ upd V (1024 * ci + e) v (1024 * ci + i) = upd t.2.2.2 e v i)
  by_cases z : i = e
  · subst z
    rw [pk_us, pk_us, pk_us, pk_us, pk_us, pk_us]
    exact ⟨rfl, fun _ => ⟨rfl, rfl⟩⟩
  · have n : 1024 * ci + i ≠ 1024 * ci + e := by omega
    rw [pk_un n, pk_un n, pk_un n, pk_un z, pk_un z, pk_un z]
    exact h i hi
theorem q_RT_tk {S K V : Nat → Int32} {ci e : Nat} {t : q_TB} (h : q_RT S K V ci t) : q_RT (upd S (1024 * ci + e) 2) K V ci (q_tk t e) := by
  intro i hi
  show upd S (1024 * ci + e) 2 (1024 * ci + i) = q_sw (upd t.2.1 e 1 i) ∧ (upd t.2.1 e 1 i = 2 → K (1024 * ci + i) = t.2.2.1 i ∧ V (1024 * ci + i) = t.2.2.2 i)
  by_cases z : i = e
  · subst z
    rw [pk_us, pk_us]
    exact ⟨rfl, fun z => absurd z (by decide)⟩
  · have n : 1024 * ci + i ≠ 1024 * ci + e := by omega
    rw [pk_un n, pk_un z]
    exact h i hi
theorem q_RT_v1 {S K V : Nat → Int32} {ci e : Nat} {t : q_TB} {v : Int32} (h : q_RT S K V ci t) : q_RT S K (upd V (1024 * ci + e) v) ci (t.1, t.2.1, t.2.2.1, upd t.2.2.2 e v) := by
  intro i hi
  show S (1024 * ci + i) = q_sw (t.2.1 i) ∧ (t.2.1 i = 2 → K (1024 * ci + i) = t.2.2.1 i ∧ upd V (1024 * ci + e) v (1024 * ci + i) = upd t.2.2.2 e v i)
  by_cases z : i = e
  · subst z
    rw [pk_us, pk_us]
    exact ⟨(h i hi).1, fun y => ⟨((h i hi).2 y).1, rfl⟩⟩
  · have n : 1024 * ci + i ≠ 1024 * ci + e := by omega
    rw [pk_un n, pk_un z]
    exact h i hi
/-- the first q places from b on emptied -/
def q_clr (S : Nat → Int32) (b q : Nat) : Nat → Int32 := fun p => if b ≤ p ∧ p < b + q then 0 else S p
theorem q_clr_0 (S : Nat → Int32) (b : Nat) : q_clr S b 0 = S := funext fun p => if_neg (by omega)
theorem q_clr_s (S : Nat → Int32) (b q : Nat) : upd (q_clr S b q) (b + q) 0 = q_clr S b (q + 1) := by
  funext p
  show (if p = b + q then (0 : Int32) else if b ≤ p ∧ p < b + q then 0 else S p) = if b ≤ p ∧ p < b + (q + 1) then 0 else S p
  by_cases h : p = b + q
  · rw [if_pos h, if_pos (by omega)]
  · rw [if_neg h]
    by_cases h2 : b ≤ p ∧ p < b + q
    · rw [if_pos h2, if_pos (by omega)]
    · rw [if_neg h2, if_neg (by omega)]
theorem q_clr_o {S K V : Nat → Int32} {ci b q : Nat} {t : q_TB} (h : q_RT S K V ci t) (hp : ∀ i, i < t.1 → ¬ (b ≤ 1024 * ci + i ∧ 1024 * ci + i < b + q)) : q_RT (q_clr S b q) K V ci t := q_RT_eq h fun i hi => ⟨if_neg (hp i hi), rfl, rfl⟩
theorem q_clr_new {S K V : Nat → Int32} {ci q : Nat} {M Kt Vt : Nat → Int32} : q_RT (q_clr S (1024 * ci) q) K V ci (q, (fun i => if i < q then 0 else M i), Kt, Vt) := by
  intro i hi
  have hi : i < q := hi
  show q_clr S (1024 * ci) q (1024 * ci + i) = q_sw (if i < q then 0 else M i) ∧ ((if i < q then (0 : Int32) else M i) = 2 → _)
  rw [if_pos hi]
  exact ⟨if_pos ⟨by omega, by omega⟩, fun z => absurd z (by decide)⟩
def q_lkR (t : q_TB) (k : Int32) : Int32 := if q_hit t k then nI (q_lkE t k) else -1 - nI (q_lkE t k)
theorem q_lkR_t {t : q_TB} {k : Int32} (h : q_hit t k) : q_lkR t k = nI (q_lkE t k) := if_pos h
theorem q_lkR_f {t : q_TB} {k : Int32} (h : ¬ q_hit t k) : q_lkR t k = -1 - nI (q_lkE t k) := if_neg h
theorem q_rd_next {n i b f : Nat} (hi : i < n) (hb : b < n) (h : q_rd n i b = f + 1) : q_rd n (q_ad n i 1) b = f := by
  have := q_rd_split (d := 1) hi hb (by omega)
  omega
theorem q_rd_z {n i b : Nat} (hi : i < n) (hb : b < n) (h : q_rd n i b = 0) : i = b := by
  have := q_ad_rd hi hb
  rw [h, q_ad_0 hi] at this
  exact this
theorem q_nge {x : Int32} (h : x < 0) : ¬ 0 ≤ x := by
  rw [Int32.lt_iff_toInt_lt] at h
  rw [Int32.le_iff_toInt_le]
  omega
theorem q_ge0 {x : Int32} (h : ¬ x < 0) : 0 ≤ x := by
  rw [Int32.lt_iff_toInt_lt] at h
  rw [Int32.le_iff_toInt_le]
  omega
/-- the reference's cells for a state of the map -/
def q_RL (s : q_ST) (ci : Nat) (S K V Z : Nat → Int32) (mv cr : Int32) : Prop := ci < 2 ∧ Z ci = nI s.1.1 ∧ q_RT S K V ci s.1 ∧ mv = q_b (s.2.2.1.isSome = true) ∧ ∀ c, s.2.2.1 = some c → cr = nI c ∧ Z (1 - ci) = nI s.2.1.1 ∧ q_RT S K V (1 - ci) s.2.1
/-- the reference while a gap is closed: all but the gap as the table has it, the gap still held, nothing else changed -/
def q_RF (S K V S0 K0 V0 : Nat → Int32) (ci fr : Nat) (t : q_TB) : Prop := S (1024 * ci + fr) = 1 ∧ (∀ i, i < t.1 → i ≠ fr → S (1024 * ci + i) = q_sw (t.2.1 i) ∧ (t.2.1 i = 2 → K (1024 * ci + i) = t.2.2.1 i ∧ V (1024 * ci + i) = t.2.2.2 i)) ∧ ∀ p, ¬ (1024 * ci ≤ p ∧ p < 1024 * ci + t.1) → S p = S0 p ∧ K p = K0 p ∧ V p = V0 p
theorem q_RF_1 {S K V S0 K0 V0 : Nat → Int32} {ci fr i : Nat} {t : q_TB} (h : q_RF S K V S0 K0 V0 ci fr t) (hi : i < t.1) (hf : fr < t.1) (hn : i ≠ fr) (h2 : t.2.1 i = 2) : q_RF (upd S (1024 * ci + fr) 1) (upd K (1024 * ci + fr) (t.2.2.1 i)) (upd V (1024 * ci + fr) (t.2.2.2 i)) S0 K0 V0 ci i (q_sh t i fr) := by
  obtain ⟨a, b, c⟩ := h
  refine ⟨?_, ?_, ?_⟩
  · rw [pk_un (by omega), (b i hi hn).1, h2]; rfl
  · intro j hj hji
    have hj : j < t.1 := hj
    show upd S (1024 * ci + fr) 1 (1024 * ci + j) = q_sw (upd (upd t.2.1 fr 2) i 0 j) ∧ (upd (upd t.2.1 fr 2) i 0 j = 2 → upd K (1024 * ci + fr) (t.2.2.1 i) (1024 * ci + j) = upd t.2.2.1 fr (t.2.2.1 i) j ∧ upd V (1024 * ci + fr) (t.2.2.2 i) (1024 * ci + j) = upd t.2.2.2 fr (t.2.2.2 i) j)
    rw [pk_un hji]
    by_cases z : j = fr
    · subst z
      rw [pk_us, pk_us, pk_us, pk_us, pk_us, pk_us]
      exact ⟨rfl, fun _ => ⟨rfl, rfl⟩⟩
    · have n : 1024 * ci + j ≠ 1024 * ci + fr := by omega
      rw [pk_un n, pk_un n, pk_un n, pk_un z, pk_un z, pk_un z]
      exact b j hj z
  · intro p hp
    have hp : ¬ (1024 * ci ≤ p ∧ p < 1024 * ci + t.1) := hp
    have n : p ≠ 1024 * ci + fr := fun z => hp (by omega)
    rw [pk_un n, pk_un n, pk_un n]
    exact c p hp
/-- the gap emptied at the end -/
theorem q_RF_end {S K V S0 K0 V0 : Nat → Int32} {ci fr : Nat} {t : q_TB} (h : q_RF S K V S0 K0 V0 ci fr t) (hf : fr < t.1) (h0 : t.2.1 fr = 0) : q_RT (upd S (1024 * ci + fr) 0) K V ci t ∧ ∀ p, ¬ (1024 * ci ≤ p ∧ p < 1024 * ci + t.1) → upd S (1024 * ci + fr) 0 p = S0 p ∧ K p = K0 p ∧ V p = V0 p := by
  obtain ⟨a, b, c⟩ := h
  refine ⟨fun i hi => ?_, fun p hp => ?_⟩
  · by_cases z : i = fr
    · subst z
      rw [pk_us, h0]
      exact ⟨rfl, fun z => absurd z (by decide)⟩
    · rw [pk_un (by omega)]; exact b i hi z
  · rw [pk_un (fun z => hp (by omega))]; exact c p hp
theorem q_RF_0 {S K V : Nat → Int32} {ci e : Nat} {t : q_TB} (h : q_RT S K V ci t) (he : e < t.1) (h2 : t.2.1 e = 2) : q_RF S K V S K V ci e (t.1, upd t.2.1 e 0, t.2.2.1, t.2.2.2) := by
  refine ⟨by rw [q_RT_s h he, h2]; rfl, fun i hi hne => ?_, fun p _ => ⟨rfl, rfl, rfl⟩⟩
  show S (1024 * ci + i) = q_sw (upd t.2.1 e 0 i) ∧ (upd t.2.1 e 0 i = 2 → _)
  rw [pk_un hne]
  exact h i hi
abbrev q_A3 : Type := (Nat → Int32) × (Nat → Int32) × (Nat → Int32)
theorem q_RL_start {S K V Z : Nat → Int32} {ci q kc w : Nat} {A B : q_TB} (hci : ci < 2) (hz : Z ci = nI A.1) (hA : q_RT S K V ci A) (hA9 : A.1 ≤ 1024) (hq : q ≤ 1024) : q_RL (q_start A B q kc w) (1 - ci) (q_clr S (1024 * (1 - ci)) q) K V (upd Z (1 - ci) (nI q)) 1 (nI 0) := by
  have e : 1 - (1 - ci) = ci := by omega
  refine ⟨by omega, pk_us, q_clr_new, (q_b_t rfl).symm, fun c hc => ?_⟩
  cases hc
  refine ⟨rfl, ?_, ?_⟩
  · rw [e, pk_un (by omega)]; exact hz
  · rw [e]
    refine q_clr_o hA fun i hi => ?_
    have hi : i < A.1 := hi
    omega
theorem q_RL_none {S K V Z : Nat → Int32} {ci kc w : Nat} {A B : q_TB} {cr : Int32} (hci : ci < 2) (hz : Z ci = nI A.1) (hA : q_RT S K V ci A) : q_RL (A, B, none, kc, w) ci S K V Z 0 cr := ⟨hci, hz, hA, (q_b_f (fun y => by cases y)).symm, fun c hc => by cases hc⟩
theorem q_RL_some {S K V Z : Nat → Int32} {ci cu kc w : Nat} {A B : q_TB} (hci : ci < 2) (hz : Z ci = nI A.1) (hA : q_RT S K V ci A) (hzB : Z (1 - ci) = nI B.1) (hB : q_RT S K V (1 - ci) B) : q_RL (A, B, some cu, kc, w) ci S K V Z 1 (nI cu) := ⟨hci, hz, hA, (q_b_t rfl).symm, fun c hc => by cases hc; exact ⟨rfl, hzB, hB⟩⟩
end
section
/-! MODEL: the reference, what only reads, look, lay (laid by gen_model.py) -/
theorem hin_X2_home_X2 : ∀ w ∈ wsX20, w ∈ wsX2_home := by decide +kernel
theorem hin_X2_behind_X2 : ∀ w ∈ wsX20, w ∈ wsX2_behind := by decide +kernel
theorem hin_X2_look_X2 : ∀ w ∈ wsX20, w ∈ wsX2_look := by decide +kernel
theorem hin_X2_lay_X2 : ∀ w ∈ wsX20, w ∈ wsX2_lay := by decide +kernel
theorem hin_X2_isFull_X2 : ∀ w ∈ wsX20, w ∈ wsX2_isFull := by decide +kernel
theorem hin_X2_steps_X2 : ∀ w ∈ wsX20, w ∈ wsX2_steps := by decide +kernel
set_option maxHeartbeats 4000000 in
set_option maxRecDepth 100000 in
theorem c_X2_at (l : Launch) (dC : Nat → ClassId) (dI : Nat → Nat → Nat) (cI : ClassId) (g0 gs gk gv gz L : Nat) (Sx Kx Vx Zx : Nat → Int32) (x0 x6 x7 x8 x9 x10 x11 : Int32) (ti i : Nat)  : Met l yX2_at wsX2_at ({ frames := 0, cells := 0, slots := 0, locals := 0 }) (r_Pc (dC, dI) vwCl [(cI, .int)] [(g0, .inr (2, [.int x0, .int (nI L), .ref gs, .ref gk, .ref gv, .ref gz, .int x6, .int x7, .int x8, .int x9, .int x10, .int x11])), (gs, .inl (cI, 2048, .inl Sx)), (gk, .inl (cI, 2048, .inl Kx)), (gv, .inl (cI, 2048, .inl Vx)), (gz, .inl (cI, 2, .inl Zx))] [.ref g0, .int (nI ti), .int (nI i)]) (vp_Si (fun r => r = nI (1024 * ti + i))) 0 0 (fun _ => False) := by
  refine Met.ofW (cc := cX2_at) (maxL := 3) (ret := (some .int)) (by decide) rfl ?_
  intro p e s m args below meth c s₁ Bd hml hv
  obtain ⟨rfl, hP, hK⟩ := hv
  have hx := Bd.exec
  have hb := Bd.bytes
  have hr := Bd.returns
  have hts := atoms_spec (ws := wsX2_at) Bd.pre
  have hown : s.vm.findClass RX2 = some m.cls := findClass_of_methodNamed Bd.named
  have hlocks := Bd.notSynchronized
  have S0 : CallFix p m c cX2_at 3 s _ wsX2_at RX2 := ⟨hx, hb, hml, hown, hts⟩
  have hP : va_P (dC, dI) vwCl [(g0, .inr (2, [.int x0, .int (nI L), .ref gs, .ref gk, .ref gv, .ref gz, .int x6, .int x7, .int x8, .int x9, .int x10, .int x11])), (gs, .inl (cI, 2048, .inl Sx)), (gk, .inl (cI, 2048, .inl Kx)), (gv, .inl (cI, 2048, .inl Vx)), (gz, .inl (cI, 2, .inl Zx))] s.heap := hP
  have hl := lv_entry ([.ref g0, .int (nI ti), .int (nI i)]) (n := 3) (Nat.le_of_ble_eq_true rfl)
  rw [lg_entry_eq]
  generalize (lg_sl ([.ref g0, .int (nI ti), .int (nI i)]) ++ List.replicate (3 - (lg_sl ([.ref g0, .int (nI ti), .int (nI i)])).length) Slot.unset).toArray = ls at hl ⊢
  have hl : lv_has ls 3 [(0, .ref g0), (1, .int (nI ti)), (2, .int (nI i))] := hl
  refine lv_sipush (v := 1024) hx hb dX2_at_0 (by decide) ?_
  refine lv_iload_n hx hb dX2_at_3 rfl (lv_at hl 1 rfl) ?_
  refine lv_imul hx hb dX2_at_4 ?_
  refine r_eq (z := nI (1024 * ti)) (pk_mul 1024 ti) ?_
  refine lv_iload_n hx hb dX2_at_5 rfl (lv_at hl 2 rfl) ?_
  refine lv_iadd hx hb dX2_at_6 ?_
  refine r_eq (z := nI ((1024 * ti) + i)) (nI_add (1024 * ti) i) ?_
  exact W.iret (v := nI ((1024 * ti) + i)) hx hb hr (fun t ht hW => ⟨_, rfl, rfl, ht⟩) (fun _ h => by cases h) dX2_at_7
set_option maxHeartbeats 4000000 in
set_option maxRecDepth 100000 in
theorem c_X2_behind (l : Launch) (dC : Nat → ClassId) (dI : Nat → Nat → Nat) (cI : ClassId) (g0 gs gk gv gz L : Nat) (Sx Kx Vx Zx : Nat → Int32) (x0 x6 x7 x8 x9 x10 x11 : Int32) (i ti n : Nat) (ht : ti < 2) (hz : Zx ti = nI n) (hn : q_pw n) (hi : i < n) : Met l yX2_behind wsX2_behind ({ frames := 0, cells := 0, slots := 0, locals := 0 }) (r_Pc (dC, dI) vwCl [(cI, .int)] [(g0, .inr (2, [.int x0, .int (nI L), .ref gs, .ref gk, .ref gv, .ref gz, .int x6, .int x7, .int x8, .int x9, .int x10, .int x11])), (gs, .inl (cI, 2048, .inl Sx)), (gk, .inl (cI, 2048, .inl Kx)), (gv, .inl (cI, 2048, .inl Vx)), (gz, .inl (cI, 2, .inl Zx))] [.ref g0, .int (nI i), .int (nI ti)]) (vp_Si (fun r => r = nI (q_ad n i 1))) 0 0 (fun _ => False) := by
  refine Met.ofW (cc := cX2_behind) (maxL := 3) (ret := (some .int)) (by decide) rfl ?_
  intro p e s m args below meth c s₁ Bd hml hv
  obtain ⟨rfl, hP, hK⟩ := hv
  have hx := Bd.exec
  have hb := Bd.bytes
  have hr := Bd.returns
  have hts := atoms_spec (ws := wsX2_behind) Bd.pre
  have hown : s.vm.findClass RX2 = some m.cls := findClass_of_methodNamed Bd.named
  have hlocks := Bd.notSynchronized
  have S0 : CallFix p m c cX2_behind 3 s _ wsX2_behind RX2 := ⟨hx, hb, hml, hown, hts⟩
  have hP : va_P (dC, dI) vwCl [(g0, .inr (2, [.int x0, .int (nI L), .ref gs, .ref gk, .ref gv, .ref gz, .int x6, .int x7, .int x8, .int x9, .int x10, .int x11])), (gs, .inl (cI, 2048, .inl Sx)), (gk, .inl (cI, 2048, .inl Kx)), (gv, .inl (cI, 2048, .inl Vx)), (gz, .inl (cI, 2, .inl Zx))] s.heap := hP
  have hl := lv_entry ([.ref g0, .int (nI i), .int (nI ti)]) (n := 3) (Nat.le_of_ble_eq_true rfl)
  rw [lg_entry_eq]
  generalize (lg_sl ([.ref g0, .int (nI i), .int (nI ti)]) ++ List.replicate (3 - (lg_sl ([.ref g0, .int (nI i), .int (nI ti)])).length) Slot.unset).toArray = ls at hl ⊢
  have hl : lv_has ls 3 [(0, .ref g0), (1, .int (nI i)), (2, .int (nI ti))] := hl
  have hn8 := q_pw_8 hn
  refine lv_iload_n hx hb dX2_behind_0 rfl (lv_at hl 1 rfl) ?_
  refine lv_iconst (v := 1) hx hb dX2_behind_1 (by decide) ?_
  refine lv_iadd hx hb dX2_behind_2 ?_
  refine lv_aload_n hx hb dX2_behind_3 rfl (lv_at hl 0 rfl) ?_
  refine va_get (D := (dC, dI)) (ci := 2) (v := .ref gz) (C := RX2) (T := TX2) (N := 12) hx hb hts hin_X2_behind_X2 hown hK hP 0 rfl rfl 5 (by decide) (hts (.fieldLink RX2 19 "StepMapModel" "sizes" "[I") (by decide +kernel)) (fun _ h9 => h9) rfl dX2_behind_4 ?_
  refine lv_iload_n hx hb dX2_behind_7 rfl (lv_at hl 2 rfl) ?_
  refine r_ld (i := ti) hx hb hK hP 4 0 rfl rfl (by omega) (by omega) dX2_behind_8 ?_
  refine r_eq (z := nI n) (hz) ?_
  refine lv_irem hx hb dX2_behind_9 (nI_ne0 (by omega) (by omega)) ?_
  exact W.iret (v := ((nI i) + 1) - ((nI i) + 1) / (nI n) * (nI n)) hx hb hr (fun t ht hW => ⟨_, rfl, q_behind_eq hn hi, ht⟩) (fun _ h => by cases h) dX2_behind_10
set_option maxHeartbeats 4000000 in
set_option maxRecDepth 100000 in
theorem c_X2_home (l : Launch) (dC : Nat → ClassId) (dI : Nat → Nat → Nat) (cI : ClassId) (g0 gs gk gv gz L : Nat) (Sx Kx Vx Zx : Nat → Int32) (x0 x6 x7 x8 x9 x10 x11 : Int32) (k : Int32) (ti n : Nat) (ht : ti < 2) (hz : Zx ti = nI n) (hn : q_pw n) : Met l yX2_home wsX2_home ({ frames := 0, cells := 0, slots := 0, locals := 0 }) (r_Pc (dC, dI) vwCl [(cI, .int)] [(g0, .inr (2, [.int x0, .int (nI L), .ref gs, .ref gk, .ref gv, .ref gz, .int x6, .int x7, .int x8, .int x9, .int x10, .int x11])), (gs, .inl (cI, 2048, .inl Sx)), (gk, .inl (cI, 2048, .inl Kx)), (gv, .inl (cI, 2048, .inl Vx)), (gz, .inl (cI, 2, .inl Zx))] [.ref g0, .int k, .int (nI ti)]) (vp_Si (fun r => r = nI (q_hm n k))) 0 0 (fun _ => False) := by
  refine Met.ofW (cc := cX2_home) (maxL := 5) (ret := (some .int)) (by decide) rfl ?_
  intro p e s m args below meth c s₁ Bd hml hv
  obtain ⟨rfl, hP, hK⟩ := hv
  have hx := Bd.exec
  have hb := Bd.bytes
  have hr := Bd.returns
  have hts := atoms_spec (ws := wsX2_home) Bd.pre
  have hown : s.vm.findClass RX2 = some m.cls := findClass_of_methodNamed Bd.named
  have hlocks := Bd.notSynchronized
  have S0 : CallFix p m c cX2_home 5 s _ wsX2_home RX2 := ⟨hx, hb, hml, hown, hts⟩
  have hP : va_P (dC, dI) vwCl [(g0, .inr (2, [.int x0, .int (nI L), .ref gs, .ref gk, .ref gv, .ref gz, .int x6, .int x7, .int x8, .int x9, .int x10, .int x11])), (gs, .inl (cI, 2048, .inl Sx)), (gk, .inl (cI, 2048, .inl Kx)), (gv, .inl (cI, 2048, .inl Vx)), (gz, .inl (cI, 2, .inl Zx))] s.heap := hP
  have hl := lv_entry ([.ref g0, .int k, .int (nI ti)]) (n := 5) (Nat.le_of_ble_eq_true rfl)
  rw [lg_entry_eq]
  generalize (lg_sl ([.ref g0, .int k, .int (nI ti)]) ++ List.replicate (5 - (lg_sl ([.ref g0, .int k, .int (nI ti)])).length) Slot.unset).toArray = ls at hl ⊢
  have hl : lv_has ls 5 [(0, .ref g0), (1, .int k), (2, .int (nI ti))] := hl
  have hn8 := q_pw_8 hn
  refine lv_iload_n hx hb dX2_home_0 rfl (lv_at hl 1 rfl) ?_
  refine lv_ldc (v := -1640531535) hx hb hown (hts (.constant RX2 29 (-1640531535)) (by decide +kernel)) dX2_home_1 ?_
  refine lv_imul hx hb dX2_home_3 ?_
  refine lv_istore_n (lv' := [(3, .int (k * (-1640531535))), (0, .ref g0), (1, .int k), (2, .int (nI ti))]) hx hb dX2_home_4 rfl hl (by decide) rfl (fun ls hl => ?_)
  refine lv_iload_n hx hb dX2_home_5 rfl (lv_at hl 0 rfl) ?_
  refine lv_iload_n hx hb dX2_home_6 rfl (lv_at hl 0 rfl) ?_
  refine lv_bipush (v := 15) hx hb dX2_home_7 (by decide) ?_
  refine lv_iushr (v := ((k * (-1640531535)).toUInt32 >>> ((15 : Int32).toUInt32 &&& Int32.toUInt32 31)).toInt32) hx hb dX2_home_9 rfl ?_
  refine lv_ixor hx hb dX2_home_10 ?_
  refine lv_istore_n (lv' := [(3, .int ((k * (-1640531535)) ^^^ (((k * (-1640531535)).toUInt32 >>> ((15 : Int32).toUInt32 &&& Int32.toUInt32 31)).toInt32))), (0, .ref g0), (1, .int k), (2, .int (nI ti))]) hx hb dX2_home_11 rfl hl (by decide) rfl (fun ls hl => ?_)
  refine lv_iload_n hx hb dX2_home_12 rfl (lv_at hl 0 rfl) ?_
  refine lv_aload_n hx hb dX2_home_13 rfl (lv_at hl 1 rfl) ?_
  refine va_get (D := (dC, dI)) (ci := 2) (v := .ref gz) (C := RX2) (T := TX2) (N := 12) hx hb hts hin_X2_home_X2 hown hK hP 0 rfl rfl 5 (by decide) (hts (.fieldLink RX2 19 "StepMapModel" "sizes" "[I") (by decide +kernel)) (fun _ h9 => h9) rfl dX2_home_14 ?_
  refine lv_iload_n hx hb dX2_home_17 rfl (lv_at hl 3 rfl) ?_
  refine r_ld (i := ti) hx hb hK hP 4 0 rfl rfl (by omega) (by omega) dX2_home_18 ?_
  refine r_eq (z := nI n) (hz) ?_
  refine lv_irem hx hb dX2_home_19 (nI_ne0 (by omega) (by omega)) ?_
  refine lv_topi (fun rr err => ?_)
  have err : rr = q_hsh k - q_hsh k / nI n * nI n := err
  rcases q_rem_c hn (q_hsh k) with ⟨r1, r2⟩ | ⟨r1, r2⟩
  · rw [← err] at r1 r2
    refine lv_istore (lv' := [(4, .int rr), (3, .int ((k * (-1640531535)) ^^^ (((k * (-1640531535)).toUInt32 >>> ((15 : Int32).toUInt32 &&& Int32.toUInt32 31)).toInt32))), (0, .ref g0), (1, .int k), (2, .int (nI ti))]) hx hb dX2_home_20 hl (by decide) rfl (fun ls hl => ?_)
    refine lv_iload hx hb dX2_home_22 (lv_at hl 0 rfl) ?_
    refine lv_if_ge (tgt := 39) hx hb dX2_home_24 (by decide) (fun c_24 => ?_) (fun c_24 => ?_)
    · exact absurd c_24 (q_nge r1)
    · refine lv_iload hx hb dX2_home_27 (lv_at hl 0 rfl) ?_
      refine lv_aload_n hx hb dX2_home_29 rfl (lv_at hl 2 rfl) ?_
      refine va_get (D := (dC, dI)) (ci := 2) (v := .ref gz) (C := RX2) (T := TX2) (N := 12) hx hb hts hin_X2_home_X2 hown hK hP 0 rfl rfl 5 (by decide) (hts (.fieldLink RX2 19 "StepMapModel" "sizes" "[I") (by decide +kernel)) (fun _ h9 => h9) rfl dX2_home_30 ?_
      refine lv_iload_n hx hb dX2_home_33 rfl (lv_at hl 4 rfl) ?_
      refine r_ld (i := ti) hx hb hK hP 4 0 rfl rfl (by omega) (by omega) dX2_home_34 ?_
      refine r_eq (z := nI n) (hz) ?_
      refine lv_iadd hx hb dX2_home_35 ?_
      refine lv_goto (tgt := 41) hx hb dX2_home_36 (by decide) ?_
      exact W.iret (v := rr + (nI n)) hx hb hr (fun t ht hW => ⟨_, rfl, r2, ht⟩) (fun _ h => by cases h) dX2_home_41
  · rw [← err] at r1 r2
    refine lv_istore (lv' := [(4, .int rr), (3, .int ((k * (-1640531535)) ^^^ (((k * (-1640531535)).toUInt32 >>> ((15 : Int32).toUInt32 &&& Int32.toUInt32 31)).toInt32))), (0, .ref g0), (1, .int k), (2, .int (nI ti))]) hx hb dX2_home_20 hl (by decide) rfl (fun ls hl => ?_)
    refine lv_iload hx hb dX2_home_22 (lv_at hl 0 rfl) ?_
    refine lv_if_ge (tgt := 39) hx hb dX2_home_24 (by decide) (fun c_24 => ?_) (fun c_24 => ?_)
    · refine lv_iload hx hb dX2_home_39 (lv_at hl 0 rfl) ?_
      exact W.iret (v := rr) hx hb hr (fun t ht hW => ⟨_, rfl, r2, ht⟩) (fun _ h => by cases h) dX2_home_41
    · exact absurd (q_ge0 r1) c_24
set_option maxHeartbeats 4000000 in
set_option maxRecDepth 100000 in
theorem lp_X2_steps {p : Program} {l : Launch} {e : Env} {s : State} {m : MethodId} {args : Array Value} {below : List Frame} {meth : Method} {c : Code} {Q : State → Prop} {dC : Nat → ClassId} {dI : Nat → Nat → Nat} {cI : ClassId} {Aq : Nat → Prop} {H0 : Heap} (S0 : CallFix p m c cX2_steps 5 s args wsX2_steps RX2) (hK : va_K (dC, dI) vwCl [(cI, .int)] s) (hA : ∀ q : Nat, H0.size ≤ q → Aq q) (g0 gs gk gv gz L : Nat) (Sx Kx Vx Zx : Nat → Int32) (x0 x7 x8 x9 x10 x11 : Int32) (ci n b R : Nat) (hci : ci < 2) (hz : Zx ci = nI n) (hn : q_pw n) (hb2 : b < n) (hR9 : R < 4096) {H : Heap} {locs : List Loc} (hP : va_P (dC, dI) vwCl [(g0, .inr (2, [.int x0, .int (nI L), .ref gs, .ref gk, .ref gv, .ref gz, .int (nI ci), .int x7, .int x8, .int x9, .int x10, .int x11])), (gs, .inl (cI, 2048, .inl Sx)), (gk, .inl (cI, 2048, .inl Kx)), (gv, .inl (cI, 2048, .inl Vx)), (gz, .inl (cI, 2, .inl Zx))] H)
    (kk : ∀ (ls : Array Slot), lv_has ls 5 [(3, .int (nI R))] → W p l e ({ frames := 1, cells := 0, slots := 0, locals := 22 }) s m args below meth c H locs 0 0 Q (F0 m 29 ls [])) :
    ∀ (f : Nat) (j i : Nat), i < n ∧ q_rd n i b = f ∧ j + f = R → ∀ (ls : Array Slot), lv_has ls 5 [(0, .ref g0), (2, .int (nI b)), (3, .int (nI j)), (4, .int (nI i))] → W p l e ({ frames := 1, cells := 0, slots := 0, locals := 22 }) s m args below meth c H locs 0 0 Q (F0 m 5 ls []) := by
  obtain ⟨hx, hb, hml, hown, hts⟩ := id S0
  intro f
  induction f with
  | zero =>
    intro j i hi ls hl
    obtain ⟨h1, h2, h3⟩ := hi
    have hn8 := q_pw_8 hn
    refine lv_iload hx hb dX2_steps_5 (lv_at hl 3 rfl) ?_
    refine lv_iload_n hx hb dX2_steps_7 rfl (lv_at hl 1 rfl) ?_
    refine lv_icmp_eq (tgt := 29) hx hb dX2_steps_8 (by decide) (fun c_8 => ?_) (fun c_8 => ?_)
    · have h_8 := q_eq_t (a := i) (b := b) (by omega) (by omega) c_8
      have e1 : j = R := by omega
      subst e1
      exact kk ls (lv_sub hl [2] rfl)
    · have h_8 := q_eq_f (a := i) (b := b) (by omega) (by omega) c_8
      exact absurd (q_rd_z h1 hb2 h2) h_8
  | succ f ih =>
    intro j i hi ls hl
    obtain ⟨h1, h2, h3⟩ := hi
    have hn8 := q_pw_8 hn
    refine lv_iload hx hb dX2_steps_5 (lv_at hl 3 rfl) ?_
    refine lv_iload_n hx hb dX2_steps_7 rfl (lv_at hl 1 rfl) ?_
    refine lv_icmp_eq (tgt := 29) hx hb dX2_steps_8 (by decide) (fun c_8 => ?_) (fun c_8 => ?_)
    · have h_8 := q_eq_t (a := i) (b := b) (by omega) (by omega) c_8
      rw [h_8, q_rd_0] at h2
      omega
    · have h_8 := q_eq_f (a := i) (b := b) (by omega) (by omega) c_8
      refine lv_aload_n hx hb dX2_steps_11 rfl (lv_at hl 0 rfl) ?_
      refine lv_iload hx hb dX2_steps_12 (lv_at hl 3 rfl) ?_
      refine lv_aload_n hx hb dX2_steps_14 rfl (lv_at hl 0 rfl) ?_
      refine va_get (D := (dC, dI)) (ci := 2) (v := .int (nI ci)) (C := RX2) (T := TX2) (N := 12) hx hb hts hin_X2_steps_X2 hown hK hP 0 rfl rfl 6 (by decide) (hts (.fieldLink RX2 43 "StepMapModel" "current" "I") (by decide +kernel)) (fun _ h9 => h9) rfl dX2_steps_15 ?_
      refine r_roV (rest := []) S0 (c_X2_behind l dC dI cI g0 gs gk gv gz L Sx Kx Vx Zx x0 (nI ci) x7 x8 x9 x10 x11 i ci n (by omega) hz hn (by omega)) (cwV 2 hts gX2_steps_X2_behind rfl rfl rfl (by decide +kernel) ⟨Nat.le_of_ble_eq_true rfl, Nat.le_of_ble_eq_true rfl⟩) hK hP [0, 1, 2, 3, 4] rfl (ci := 2) (q0 := 0) rfl rfl rfl rfl hl.1 rfl (Nat.le_of_ble_eq_true rfl) dX2_steps_18 ⟨Nat.zero_le _, Nat.zero_le _⟩ ?_
      refine lv_istore (lv' := [(4, .int (nI (q_ad n i 1))), (0, .ref g0), (2, .int (nI b)), (3, .int (nI j))]) hx hb dX2_steps_21 hl (by decide) rfl (fun ls hl => ?_)
      refine lv_iinc (v := nI (j + 1)) (lv' := [(3, .int (nI (j + 1))), (4, .int (nI (q_ad n i 1))), (0, .ref g0), (2, .int (nI b))]) hx hb dX2_steps_23 hl (k := 3) rfl (nI_1 _) (by decide) rfl (fun ls hl => ?_)
      refine lv_goto (tgt := 5) hx hb dX2_steps_26 (by decide) ?_
      exact ih (j + 1) (q_ad n i 1) ⟨q_ad_lt h1 (by omega), q_rd_next h1 hb2 h2, by omega⟩ ls (lv_sub hl [2, 3, 0, 1] rfl)
set_option maxHeartbeats 4000000 in
set_option maxRecDepth 100000 in
theorem c_X2_steps (l : Launch) (dC : Nat → ClassId) (dI : Nat → Nat → Nat) (cI : ClassId) (g0 gs gk gv gz L : Nat) (Sx Kx Vx Zx : Nat → Int32) (x0 x7 x8 x9 x10 x11 : Int32) (ci n a b : Nat) (hci : ci < 2) (hz : Zx ci = nI n) (hn : q_pw n) (ha : a < n) (hb2 : b < n) : Met l yX2_steps wsX2_steps ({ frames := 1, cells := 0, slots := 0, locals := 22 }) (r_Pc (dC, dI) vwCl [(cI, .int)] [(g0, .inr (2, [.int x0, .int (nI L), .ref gs, .ref gk, .ref gv, .ref gz, .int (nI ci), .int x7, .int x8, .int x9, .int x10, .int x11])), (gs, .inl (cI, 2048, .inl Sx)), (gk, .inl (cI, 2048, .inl Kx)), (gv, .inl (cI, 2048, .inl Vx)), (gz, .inl (cI, 2, .inl Zx))] [.ref g0, .int (nI a), .int (nI b)]) (vp_Si (fun r => r = nI (q_rd n a b))) 0 0 (fun _ => False) := by
  refine Met.ofW (cc := cX2_steps) (maxL := 5) (ret := (some .int)) (by decide) rfl ?_
  intro p e s m args below meth c s₁ Bd hml hv
  obtain ⟨rfl, hP, hK⟩ := hv
  have hx := Bd.exec
  have hb := Bd.bytes
  have hr := Bd.returns
  have hts := atoms_spec (ws := wsX2_steps) Bd.pre
  have hown : s.vm.findClass RX2 = some m.cls := findClass_of_methodNamed Bd.named
  have hlocks := Bd.notSynchronized
  have S0 : CallFix p m c cX2_steps 5 s _ wsX2_steps RX2 := ⟨hx, hb, hml, hown, hts⟩
  have hP : va_P (dC, dI) vwCl [(g0, .inr (2, [.int x0, .int (nI L), .ref gs, .ref gk, .ref gv, .ref gz, .int (nI ci), .int x7, .int x8, .int x9, .int x10, .int x11])), (gs, .inl (cI, 2048, .inl Sx)), (gk, .inl (cI, 2048, .inl Kx)), (gv, .inl (cI, 2048, .inl Vx)), (gz, .inl (cI, 2, .inl Zx))] s.heap := hP
  have hl := lv_entry ([.ref g0, .int (nI a), .int (nI b)]) (n := 5) (Nat.le_of_ble_eq_true rfl)
  rw [lg_entry_eq]
  generalize (lg_sl ([.ref g0, .int (nI a), .int (nI b)]) ++ List.replicate (5 - (lg_sl ([.ref g0, .int (nI a), .int (nI b)])).length) Slot.unset).toArray = ls at hl ⊢
  have hl : lv_has ls 5 [(0, .ref g0), (1, .int (nI a)), (2, .int (nI b))] := hl
  have hn8 := q_pw_8 hn
  refine lv_iconst (v := 0) hx hb dX2_steps_0 (by decide) ?_
  refine lv_istore_n (lv' := [(3, .int 0), (0, .ref g0), (1, .int (nI a)), (2, .int (nI b))]) hx hb dX2_steps_1 rfl hl (by decide) rfl (fun ls hl => ?_)
  refine lv_iload_n hx hb dX2_steps_2 rfl (lv_at hl 2 rfl) ?_
  refine lv_istore (lv' := [(4, .int (nI a)), (3, .int 0), (0, .ref g0), (1, .int (nI a)), (2, .int (nI b))]) hx hb dX2_steps_3 hl (by decide) rfl (fun ls hl => ?_)
  have hr9 := q_rd_lt ha hb2
  refine lp_X2_steps (Aq := fun _ => True) (H0 := s.heap) S0 hK (fun _ _ => trivial) g0 gs gk gv gz L Sx Kx Vx Zx x0 x7 x8 x9 x10 x11 ci n b (q_rd n a b) hci hz hn hb2 (by omega) hP (fun ls hl => ?_) (q_rd n a b) 0 a ⟨ha, rfl, by omega⟩ ls (lv_sub hl [2, 4, 1, 0] rfl)
  refine lv_iload_n hx hb dX2_steps_29 rfl (lv_at hl 0 rfl) ?_
  exact W.iret (v := nI (q_rd n a b)) hx hb hr (fun t ht hW => ⟨_, rfl, rfl, ht⟩) (fun _ h => by cases h) dX2_steps_30
set_option maxHeartbeats 4000000 in
set_option maxRecDepth 100000 in
theorem c_X2_isFull (l : Launch) (dC : Nat → ClassId) (dI : Nat → Nat → Nat) (cI : ClassId) (g0 gs gk gv gz L : Nat) (Sx Kx Vx Zx : Nat → Int32) (x0 x8 x10 x11 : Int32) (ci : Nat) (A B : q_TB) (nx : Option Nat) (kc : Nat) (hci : ci < 2) (hzA : Zx ci = nI A.1) (hA9 : A.1 ≤ 1024) (hB9 : B.1 ≤ 1024) (hL : L ≤ 1024) (hkc : kc ≤ 4096) (hcur : ∀ c, nx = some c → x8 = nI c ∧ Zx (1 - ci) = nI B.1 ∧ c ≤ B.1) : Met l yX2_isFull wsX2_isFull ({ frames := 0, cells := 0, slots := 0, locals := 0 }) (r_Pc (dC, dI) vwCl [(cI, .int)] [(g0, .inr (2, [.int x0, .int (nI L), .ref gs, .ref gk, .ref gv, .ref gz, .int (nI ci), .int (q_b (nx.isSome = true)), .int x8, .int (nI kc), .int x10, .int x11])), (gs, .inl (cI, 2048, .inl Sx)), (gk, .inl (cI, 2048, .inl Kx)), (gv, .inl (cI, 2048, .inl Vx)), (gz, .inl (cI, 2, .inl Zx))] [.ref g0]) (vp_Si (fun r => r = q_b (q_full L A B nx kc))) 0 0 (fun _ => False) := by
  refine Met.ofW (cc := cX2_isFull) (maxL := 2) (ret := (some .boolean)) (by decide) rfl ?_
  intro p e s m args below meth c s₁ Bd hml hv
  obtain ⟨rfl, hP, hK⟩ := hv
  have hx := Bd.exec
  have hb := Bd.bytes
  have hr := Bd.returns
  have hts := atoms_spec (ws := wsX2_isFull) Bd.pre
  have hown : s.vm.findClass RX2 = some m.cls := findClass_of_methodNamed Bd.named
  have hlocks := Bd.notSynchronized
  have S0 : CallFix p m c cX2_isFull 2 s _ wsX2_isFull RX2 := ⟨hx, hb, hml, hown, hts⟩
  have hP : va_P (dC, dI) vwCl [(g0, .inr (2, [.int x0, .int (nI L), .ref gs, .ref gk, .ref gv, .ref gz, .int (nI ci), .int (q_b (nx.isSome = true)), .int x8, .int (nI kc), .int x10, .int x11])), (gs, .inl (cI, 2048, .inl Sx)), (gk, .inl (cI, 2048, .inl Kx)), (gv, .inl (cI, 2048, .inl Vx)), (gz, .inl (cI, 2, .inl Zx))] s.heap := hP
  have hl := lv_entry ([.ref g0]) (n := 2) (Nat.le_of_ble_eq_true rfl)
  rw [lg_entry_eq]
  generalize (lg_sl ([.ref g0]) ++ List.replicate (2 - (lg_sl ([.ref g0])).length) Slot.unset).toArray = ls at hl ⊢
  have hl : lv_has ls 2 [(0, .ref g0)] := hl
  refine lv_aload_n hx hb dX2_isFull_0 rfl (lv_at hl 0 rfl) ?_
  refine va_get (D := (dC, dI)) (ci := 2) (v := .int (q_b (nx.isSome = true))) (C := RX2) (T := TX2) (N := 12) hx hb hts hin_X2_isFull_X2 hown hK hP 0 rfl rfl 7 (by decide) (hts (.fieldLink RX2 56 "StepMapModel" "moving" "Z") (by decide +kernel)) (fun _ h9 => h9) rfl dX2_isFull_1 ?_
  refine lv_if_eq (tgt := 31) hx hb dX2_isFull_4 (by decide) (fun c_4 => ?_) (fun c_4 => ?_)
  · have h_4 : ¬ (nx.isSome = true) := q_b_0.mp c_4
    refine lv_iconst (v := 0) hx hb dX2_isFull_31 (by decide) ?_
    refine lv_istore_n (lv' := [(1, .int 0), (0, .ref g0)]) hx hb dX2_isFull_32 rfl hl (by decide) rfl (fun ls hl => ?_)
    refine lv_iload_n hx hb dX2_isFull_33 rfl (lv_at hl 0 rfl) ?_
    refine lv_if_ne (tgt := 81) hx hb dX2_isFull_34 (by decide) (fun c_34 => ?_) (fun c_34 => ?_)
    · have h_34 := q_eq_f (a := 0) (b := 0) (by omega) (by omega) c_34
      omega
    · have h_34 := q_eq_t (a := 0) (b := 0) (by omega) (by omega) c_34
      refine lv_iconst (v := 4) hx hb dX2_isFull_37 (by decide) ?_
      refine lv_aload_n hx hb dX2_isFull_38 rfl (lv_at hl 1 rfl) ?_
      refine va_get (D := (dC, dI)) (ci := 2) (v := .int (nI kc)) (C := RX2) (T := TX2) (N := 12) hx hb hts hin_X2_isFull_X2 hown hK hP 0 rfl rfl 9 (by decide) (hts (.fieldLink RX2 63 "StepMapModel" "count" "I") (by decide +kernel)) (fun _ h9 => h9) rfl dX2_isFull_39 ?_
      refine lv_imul hx hb dX2_isFull_42 ?_
      refine r_eq (z := nI (4 * kc)) (pk_mul 4 kc) ?_
      refine lv_iconst (v := 4) hx hb dX2_isFull_43 (by decide) ?_
      refine lv_iadd hx hb dX2_isFull_44 ?_
      refine r_eq (z := nI ((4 * kc) + 4)) (nI_add (4 * kc) 4) ?_
      refine lv_iconst (v := 3) hx hb dX2_isFull_45 (by decide) ?_
      refine lv_aload_n hx hb dX2_isFull_46 rfl (lv_at hl 1 rfl) ?_
      refine va_get (D := (dC, dI)) (ci := 2) (v := .ref gz) (C := RX2) (T := TX2) (N := 12) hx hb hts hin_X2_isFull_X2 hown hK hP 0 rfl rfl 5 (by decide) (hts (.fieldLink RX2 19 "StepMapModel" "sizes" "[I") (by decide +kernel)) (fun _ h9 => h9) rfl dX2_isFull_47 ?_
      refine lv_aload_n hx hb dX2_isFull_50 rfl (lv_at hl 1 rfl) ?_
      refine va_get (D := (dC, dI)) (ci := 2) (v := .int (nI ci)) (C := RX2) (T := TX2) (N := 12) hx hb hts hin_X2_isFull_X2 hown hK hP 0 rfl rfl 6 (by decide) (hts (.fieldLink RX2 43 "StepMapModel" "current" "I") (by decide +kernel)) (fun _ h9 => h9) rfl dX2_isFull_51 ?_
      refine r_ld (i := ci) hx hb hK hP 4 0 rfl rfl (by omega) (by omega) dX2_isFull_54 ?_
      refine r_eq (z := nI A.1) (hzA) ?_
      refine lv_imul hx hb dX2_isFull_55 ?_
      refine r_eq (z := nI (3 * A.1)) (pk_mul 3 A.1) ?_
      refine lv_icmp_lt (tgt := 81) hx hb dX2_isFull_56 (by decide) (fun c_56 => ?_) (fun c_56 => ?_)
      · have h_56 := q_lt_t (a := (4 * kc) + 4) (b := 3 * A.1) (by omega) (by omega) c_56
        refine lv_iconst (v := 0) hx hb dX2_isFull_81 (by decide) ?_
        exact W.zret (v := 0) hx hb hr (rfl) (fun t ht hW => ⟨_, rfl, (q_b_f (fun z => by have := z.2.1; omega)).symm, ht⟩) (fun _ h => by cases h) dX2_isFull_82
      · have h_56 := q_lt_f (a := (4 * kc) + 4) (b := 3 * A.1) (by omega) (by omega) c_56
        refine lv_iconst (v := 2) hx hb dX2_isFull_59 (by decide) ?_
        refine lv_aload_n hx hb dX2_isFull_60 rfl (lv_at hl 1 rfl) ?_
        refine va_get (D := (dC, dI)) (ci := 2) (v := .ref gz) (C := RX2) (T := TX2) (N := 12) hx hb hts hin_X2_isFull_X2 hown hK hP 0 rfl rfl 5 (by decide) (hts (.fieldLink RX2 19 "StepMapModel" "sizes" "[I") (by decide +kernel)) (fun _ h9 => h9) rfl dX2_isFull_61 ?_
        refine lv_aload_n hx hb dX2_isFull_64 rfl (lv_at hl 1 rfl) ?_
        refine va_get (D := (dC, dI)) (ci := 2) (v := .int (nI ci)) (C := RX2) (T := TX2) (N := 12) hx hb hts hin_X2_isFull_X2 hown hK hP 0 rfl rfl 6 (by decide) (hts (.fieldLink RX2 43 "StepMapModel" "current" "I") (by decide +kernel)) (fun _ h9 => h9) rfl dX2_isFull_65 ?_
        refine r_ld (i := ci) hx hb hK hP 4 0 rfl rfl (by omega) (by omega) dX2_isFull_68 ?_
        refine r_eq (z := nI A.1) (hzA) ?_
        refine lv_imul hx hb dX2_isFull_69 ?_
        refine r_eq (z := nI (2 * A.1)) (pk_mul 2 A.1) ?_
        refine lv_aload_n hx hb dX2_isFull_70 rfl (lv_at hl 1 rfl) ?_
        refine va_get (D := (dC, dI)) (ci := 2) (v := .int (nI L)) (C := RX2) (T := TX2) (N := 12) hx hb hts hin_X2_isFull_X2 hown hK hP 0 rfl rfl 1 (by decide) (hts (.fieldLink RX2 22 "StepMapModel" "half" "I") (by decide +kernel)) (fun _ h9 => h9) rfl dX2_isFull_71 ?_
        refine lv_icmp_le (tgt := 81) hx hb dX2_isFull_74 (by decide) (fun c_74 => ?_) (fun c_74 => ?_)
        · have h_74 := q_le_t (a := 2 * A.1) (b := L) (by omega) (by omega) c_74
          refine lv_iconst (v := 0) hx hb dX2_isFull_81 (by decide) ?_
          exact W.zret (v := 0) hx hb hr (rfl) (fun t ht hW => ⟨_, rfl, (q_b_f (fun z => by have := z.2.2; omega)).symm, ht⟩) (fun _ h => by cases h) dX2_isFull_82
        · have h_74 := q_le_f (a := 2 * A.1) (b := L) (by omega) (by omega) c_74
          refine lv_iconst (v := 1) hx hb dX2_isFull_77 (by decide) ?_
          refine lv_goto (tgt := 82) hx hb dX2_isFull_78 (by decide) ?_
          exact W.zret (v := 1) hx hb hr (rfl) (fun t ht hW => ⟨_, rfl, (q_b_t ⟨fun y => Exists.elim y fun c z => h_4 (by rw [z.1]; rfl), by omega, by omega⟩).symm, ht⟩) (fun _ h => by cases h) dX2_isFull_82
  · have h_4 : (nx.isSome = true) := q_b_n0 c_4
    obtain ⟨cu, hcc⟩ := Option.isSome_iff_exists.mp h_4
    subst hcc
    obtain ⟨hcr, hzB, hcu⟩ := hcur cu rfl
    refine lv_aload_n hx hb dX2_isFull_7 rfl (lv_at hl 0 rfl) ?_
    refine va_get (D := (dC, dI)) (ci := 2) (v := .ref gz) (C := RX2) (T := TX2) (N := 12) hx hb hts hin_X2_isFull_X2 hown hK hP 0 rfl rfl 5 (by decide) (hts (.fieldLink RX2 19 "StepMapModel" "sizes" "[I") (by decide +kernel)) (fun _ h9 => h9) rfl dX2_isFull_8 ?_
    refine lv_iconst (v := 1) hx hb dX2_isFull_11 (by decide) ?_
    refine lv_aload_n hx hb dX2_isFull_12 rfl (lv_at hl 0 rfl) ?_
    refine va_get (D := (dC, dI)) (ci := 2) (v := .int (nI ci)) (C := RX2) (T := TX2) (N := 12) hx hb hts hin_X2_isFull_X2 hown hK hP 0 rfl rfl 6 (by decide) (hts (.fieldLink RX2 43 "StepMapModel" "current" "I") (by decide +kernel)) (fun _ h9 => h9) rfl dX2_isFull_13 ?_
    refine lv_isub hx hb dX2_isFull_16 ?_
    refine r_eq (z := nI (1 - ci)) (pk_sub (a := 1) (by omega)) ?_
    refine r_ld (i := 1 - ci) hx hb hK hP 4 0 rfl rfl (by omega) (by omega) dX2_isFull_17 ?_
    refine r_eq (z := nI B.1) (hzB) ?_
    refine lv_aload_n hx hb dX2_isFull_18 rfl (lv_at hl 0 rfl) ?_
    refine va_get (D := (dC, dI)) (ci := 2) (v := .int x8) (C := RX2) (T := TX2) (N := 12) hx hb hts hin_X2_isFull_X2 hown hK hP 0 rfl rfl 8 (by decide) (hts (.fieldLink RX2 46 "StepMapModel" "cursor" "I") (by decide +kernel)) (fun _ h9 => h9) rfl dX2_isFull_19 ?_
    refine r_eq (z := nI cu) (hcr) ?_
    refine lv_isub hx hb dX2_isFull_22 ?_
    refine r_eq (z := nI (B.1 - cu)) (pk_sub hcu) ?_
    refine lv_iconst (v := 4) hx hb dX2_isFull_23 (by decide) ?_
    refine lv_icmp_le (tgt := 31) hx hb dX2_isFull_24 (by decide) (fun c_24 => ?_) (fun c_24 => ?_)
    · have h_24 := q_le_t (a := B.1 - cu) (b := 4) (by omega) (by omega) c_24
      refine lv_iconst (v := 0) hx hb dX2_isFull_31 (by decide) ?_
      refine lv_istore_n (lv' := [(1, .int 0), (0, .ref g0)]) hx hb dX2_isFull_32 rfl hl (by decide) rfl (fun ls hl => ?_)
      refine lv_iload_n hx hb dX2_isFull_33 rfl (lv_at hl 0 rfl) ?_
      refine lv_if_ne (tgt := 81) hx hb dX2_isFull_34 (by decide) (fun c_34 => ?_) (fun c_34 => ?_)
      · have h_34 := q_eq_f (a := 0) (b := 0) (by omega) (by omega) c_34
        omega
      · have h_34 := q_eq_t (a := 0) (b := 0) (by omega) (by omega) c_34
        refine lv_iconst (v := 4) hx hb dX2_isFull_37 (by decide) ?_
        refine lv_aload_n hx hb dX2_isFull_38 rfl (lv_at hl 1 rfl) ?_
        refine va_get (D := (dC, dI)) (ci := 2) (v := .int (nI kc)) (C := RX2) (T := TX2) (N := 12) hx hb hts hin_X2_isFull_X2 hown hK hP 0 rfl rfl 9 (by decide) (hts (.fieldLink RX2 63 "StepMapModel" "count" "I") (by decide +kernel)) (fun _ h9 => h9) rfl dX2_isFull_39 ?_
        refine lv_imul hx hb dX2_isFull_42 ?_
        refine r_eq (z := nI (4 * kc)) (pk_mul 4 kc) ?_
        refine lv_iconst (v := 4) hx hb dX2_isFull_43 (by decide) ?_
        refine lv_iadd hx hb dX2_isFull_44 ?_
        refine r_eq (z := nI ((4 * kc) + 4)) (nI_add (4 * kc) 4) ?_
        refine lv_iconst (v := 3) hx hb dX2_isFull_45 (by decide) ?_
        refine lv_aload_n hx hb dX2_isFull_46 rfl (lv_at hl 1 rfl) ?_
        refine va_get (D := (dC, dI)) (ci := 2) (v := .ref gz) (C := RX2) (T := TX2) (N := 12) hx hb hts hin_X2_isFull_X2 hown hK hP 0 rfl rfl 5 (by decide) (hts (.fieldLink RX2 19 "StepMapModel" "sizes" "[I") (by decide +kernel)) (fun _ h9 => h9) rfl dX2_isFull_47 ?_
        refine lv_aload_n hx hb dX2_isFull_50 rfl (lv_at hl 1 rfl) ?_
        refine va_get (D := (dC, dI)) (ci := 2) (v := .int (nI ci)) (C := RX2) (T := TX2) (N := 12) hx hb hts hin_X2_isFull_X2 hown hK hP 0 rfl rfl 6 (by decide) (hts (.fieldLink RX2 43 "StepMapModel" "current" "I") (by decide +kernel)) (fun _ h9 => h9) rfl dX2_isFull_51 ?_
        refine r_ld (i := ci) hx hb hK hP 4 0 rfl rfl (by omega) (by omega) dX2_isFull_54 ?_
        refine r_eq (z := nI A.1) (hzA) ?_
        refine lv_imul hx hb dX2_isFull_55 ?_
        refine r_eq (z := nI (3 * A.1)) (pk_mul 3 A.1) ?_
        refine lv_icmp_lt (tgt := 81) hx hb dX2_isFull_56 (by decide) (fun c_56 => ?_) (fun c_56 => ?_)
        · have h_56 := q_lt_t (a := (4 * kc) + 4) (b := 3 * A.1) (by omega) (by omega) c_56
          refine lv_iconst (v := 0) hx hb dX2_isFull_81 (by decide) ?_
          exact W.zret (v := 0) hx hb hr (rfl) (fun t ht hW => ⟨_, rfl, (q_b_f (fun z => by have := z.2.1; omega)).symm, ht⟩) (fun _ h => by cases h) dX2_isFull_82
        · have h_56 := q_lt_f (a := (4 * kc) + 4) (b := 3 * A.1) (by omega) (by omega) c_56
          refine lv_iconst (v := 2) hx hb dX2_isFull_59 (by decide) ?_
          refine lv_aload_n hx hb dX2_isFull_60 rfl (lv_at hl 1 rfl) ?_
          refine va_get (D := (dC, dI)) (ci := 2) (v := .ref gz) (C := RX2) (T := TX2) (N := 12) hx hb hts hin_X2_isFull_X2 hown hK hP 0 rfl rfl 5 (by decide) (hts (.fieldLink RX2 19 "StepMapModel" "sizes" "[I") (by decide +kernel)) (fun _ h9 => h9) rfl dX2_isFull_61 ?_
          refine lv_aload_n hx hb dX2_isFull_64 rfl (lv_at hl 1 rfl) ?_
          refine va_get (D := (dC, dI)) (ci := 2) (v := .int (nI ci)) (C := RX2) (T := TX2) (N := 12) hx hb hts hin_X2_isFull_X2 hown hK hP 0 rfl rfl 6 (by decide) (hts (.fieldLink RX2 43 "StepMapModel" "current" "I") (by decide +kernel)) (fun _ h9 => h9) rfl dX2_isFull_65 ?_
          refine r_ld (i := ci) hx hb hK hP 4 0 rfl rfl (by omega) (by omega) dX2_isFull_68 ?_
          refine r_eq (z := nI A.1) (hzA) ?_
          refine lv_imul hx hb dX2_isFull_69 ?_
          refine r_eq (z := nI (2 * A.1)) (pk_mul 2 A.1) ?_
          refine lv_aload_n hx hb dX2_isFull_70 rfl (lv_at hl 1 rfl) ?_
          refine va_get (D := (dC, dI)) (ci := 2) (v := .int (nI L)) (C := RX2) (T := TX2) (N := 12) hx hb hts hin_X2_isFull_X2 hown hK hP 0 rfl rfl 1 (by decide) (hts (.fieldLink RX2 22 "StepMapModel" "half" "I") (by decide +kernel)) (fun _ h9 => h9) rfl dX2_isFull_71 ?_
          refine lv_icmp_le (tgt := 81) hx hb dX2_isFull_74 (by decide) (fun c_74 => ?_) (fun c_74 => ?_)
          · have h_74 := q_le_t (a := 2 * A.1) (b := L) (by omega) (by omega) c_74
            refine lv_iconst (v := 0) hx hb dX2_isFull_81 (by decide) ?_
            exact W.zret (v := 0) hx hb hr (rfl) (fun t ht hW => ⟨_, rfl, (q_b_f (fun z => by have := z.2.2; omega)).symm, ht⟩) (fun _ h => by cases h) dX2_isFull_82
          · have h_74 := q_le_f (a := 2 * A.1) (b := L) (by omega) (by omega) c_74
            refine lv_iconst (v := 1) hx hb dX2_isFull_77 (by decide) ?_
            refine lv_goto (tgt := 82) hx hb dX2_isFull_78 (by decide) ?_
            exact W.zret (v := 1) hx hb hr (rfl) (fun t ht hW => ⟨_, rfl, (q_b_t ⟨fun y => Exists.elim y fun c2 z => by obtain ⟨z1, z2⟩ := z; cases z1; omega, by omega, by omega⟩).symm, ht⟩) (fun _ h => by cases h) dX2_isFull_82
    · have h_24 := q_le_f (a := B.1 - cu) (b := 4) (by omega) (by omega) c_24
      refine lv_iconst (v := 1) hx hb dX2_isFull_27 (by decide) ?_
      refine lv_goto (tgt := 32) hx hb dX2_isFull_28 (by decide) ?_
      refine lv_istore_n (lv' := [(1, .int 1), (0, .ref g0)]) hx hb dX2_isFull_32 rfl hl (by decide) rfl (fun ls hl => ?_)
      refine lv_iload_n hx hb dX2_isFull_33 rfl (lv_at hl 0 rfl) ?_
      refine lv_if_ne (tgt := 81) hx hb dX2_isFull_34 (by decide) (fun c_34 => ?_) (fun c_34 => ?_)
      · have h_34 := q_eq_f (a := 1) (b := 0) (by omega) (by omega) c_34
        have hnf : ¬ q_full L A B (some cu) kc := fun z => z.1 ⟨cu, rfl, by omega⟩
        refine lv_iconst (v := 0) hx hb dX2_isFull_81 (by decide) ?_
        exact W.zret (v := 0) hx hb hr (rfl) (fun t ht hW => ⟨_, rfl, (q_b_f hnf).symm, ht⟩) (fun _ h => by cases h) dX2_isFull_82
      · have h_34 := q_eq_t (a := 1) (b := 0) (by omega) (by omega) c_34
        omega
set_option maxHeartbeats 4000000 in
set_option maxRecDepth 100000 in
theorem c_X2_lay (l : Launch) (dC : Nat → ClassId) (dI : Nat → Nat → Nat) (cI : ClassId) (g0 gs gk gv gz L : Nat) (Sx Kx Vx Zx : Nat → Int32) (x0 x6 x7 x8 x9 x10 x11 : Int32) (ti i : Nat) (k v : Int32) (sz : Nat) (hi : 1024 * ti + i < 2048) : Met l yX2_lay wsX2_lay ({ frames := 1, cells := 0, slots := 0, locals := 22 }) (r_Mc (dC, dI) vwCl [(cI, .int)] [(g0, .inr (2, [.int x0, .int (nI L), .ref gs, .ref gk, .ref gv, .ref gz, .int x6, .int x7, .int x8, .int x9, .int x10, .int x11])), (gs, .inl (cI, 2048, .inl Sx)), (gk, .inl (cI, 2048, .inl Kx)), (gv, .inl (cI, 2048, .inl Vx)), (gz, .inl (cI, 2, .inl Zx))] sz [.ref g0, .int (nI ti), .int (nI i), .int k, .int v]) (va_Qv (fun (_ : Unit) => True) (fun u t => r_B (dC, dI) vwCl [(cI, .int)] (va_A [(g0, .inr (2, [.int x0, .int (nI L), .ref gs, .ref gk, .ref gv, .ref gz, .int x6, .int x7, .int x8, .int x9, .int x10, .int x11])), (gs, .inl (cI, 2048, .inl Sx)), (gk, .inl (cI, 2048, .inl Kx)), (gv, .inl (cI, 2048, .inl Vx)), (gz, .inl (cI, 2, .inl Zx))] sz) ((fun _ => [(g0, .inr (2, [.int x0, .int (nI L), .ref gs, .ref gk, .ref gv, .ref gz, .int x6, .int x7, .int x8, .int x9, .int x10, .int x11])), (gs, .inl (cI, 2048, .inl (upd Sx (1024 * ti + i) 1))), (gk, .inl (cI, 2048, .inl (upd Kx (1024 * ti + i) k))), (gv, .inl (cI, 2048, .inl (upd Vx (1024 * ti + i) v))), (gz, .inl (cI, 2, .inl Zx))]) u) t) (va_A [(g0, .inr (2, [.int x0, .int (nI L), .ref gs, .ref gk, .ref gv, .ref gz, .int x6, .int x7, .int x8, .int x9, .int x10, .int x11])), (gs, .inl (cI, 2048, .inl Sx)), (gk, .inl (cI, 2048, .inl Kx)), (gv, .inl (cI, 2048, .inl Vx)), (gz, .inl (cI, 2, .inl Zx))] sz)) 0 0 (va_A [(g0, .inr (2, [.int x0, .int (nI L), .ref gs, .ref gk, .ref gv, .ref gz, .int x6, .int x7, .int x8, .int x9, .int x10, .int x11])), (gs, .inl (cI, 2048, .inl Sx)), (gk, .inl (cI, 2048, .inl Kx)), (gv, .inl (cI, 2048, .inl Vx)), (gz, .inl (cI, 2, .inl Zx))] sz) := by
  refine Met.ofW (cc := cX2_lay) (maxL := 5) (ret := none) (by decide) rfl ?_
  intro p e s m args below meth c s₁ Bd hml hv
  obtain ⟨rfl, hsz, hP, hK, hD0⟩ := hv
  have hx := Bd.exec
  have hb := Bd.bytes
  have hr := Bd.returns
  have hts := atoms_spec (ws := wsX2_lay) Bd.pre
  have hown : s.vm.findClass RX2 = some m.cls := findClass_of_methodNamed Bd.named
  have hlocks := Bd.notSynchronized
  have S0 : CallFix p m c cX2_lay 5 s _ wsX2_lay RX2 := ⟨hx, hb, hml, hown, hts⟩
  subst hsz
  have hD := hD0.self (sz := s.heap.size)
  generalize hAe : va_A [(g0, .inr (2, [.int x0, .int (nI L), .ref gs, .ref gk, .ref gv, .ref gz, .int x6, .int x7, .int x8, .int x9, .int x10, .int x11])), (gs, .inl (cI, 2048, .inl Sx)), (gk, .inl (cI, 2048, .inl Kx)), (gv, .inl (cI, 2048, .inl Vx)), (gz, .inl (cI, 2, .inl Zx))] s.heap.size = Aq at hD ⊢
  have hA : ∀ q : Nat, s.heap.size ≤ q → Aq q := fun q h => by rw [← hAe]; exact Or.inr h
  have hS : va_S Aq s.heap s.heap [] := va_S.rf
  have hD : va_D Aq [(g0, .inr (2, [.int x0, .int (nI L), .ref gs, .ref gk, .ref gv, .ref gz, .int x6, .int x7, .int x8, .int x9, .int x10, .int x11])), (gs, .inl (cI, 2048, .inl Sx)), (gk, .inl (cI, 2048, .inl Kx)), (gv, .inl (cI, 2048, .inl Vx)), (gz, .inl (cI, 2, .inl Zx))] := hD
  have hP : va_P (dC, dI) vwCl [(g0, .inr (2, [.int x0, .int (nI L), .ref gs, .ref gk, .ref gv, .ref gz, .int x6, .int x7, .int x8, .int x9, .int x10, .int x11])), (gs, .inl (cI, 2048, .inl Sx)), (gk, .inl (cI, 2048, .inl Kx)), (gv, .inl (cI, 2048, .inl Vx)), (gz, .inl (cI, 2, .inl Zx))] s.heap := hP
  have hl := lv_entry ([.ref g0, .int (nI ti), .int (nI i), .int k, .int v]) (n := 5) (Nat.le_of_ble_eq_true rfl)
  rw [lg_entry_eq]
  generalize (lg_sl ([.ref g0, .int (nI ti), .int (nI i), .int k, .int v]) ++ List.replicate (5 - (lg_sl ([.ref g0, .int (nI ti), .int (nI i), .int k, .int v])).length) Slot.unset).toArray = ls at hl ⊢
  have hl : lv_has ls 5 [(0, .ref g0), (1, .int (nI ti)), (2, .int (nI i)), (3, .int k), (4, .int v)] := hl
  refine lv_aload_n hx hb dX2_lay_0 rfl (lv_at hl 0 rfl) ?_
  refine va_get (D := (dC, dI)) (ci := 2) (v := .ref gs) (C := RX2) (T := TX2) (N := 12) hx hb hts hin_X2_lay_X2 hown hK hP 0 rfl rfl 2 (by decide) (hts (.fieldLink RX2 7 "StepMapModel" "states" "[I") (by decide +kernel)) (fun _ h9 => h9) rfl dX2_lay_1 ?_
  refine lv_aload_n hx hb dX2_lay_4 rfl (lv_at hl 0 rfl) ?_
  refine lv_iload_n hx hb dX2_lay_5 rfl (lv_at hl 1 rfl) ?_
  refine lv_iload_n hx hb dX2_lay_6 rfl (lv_at hl 2 rfl) ?_
  refine r_roV (rest := [.ref gs]) S0 (c_X2_at l dC dI cI g0 gs gk gv gz L Sx Kx Vx Zx x0 x6 x7 x8 x9 x10 x11 ti i) (cwV 2 hts gX2_lay_X2_at rfl rfl rfl (by decide +kernel) ⟨Nat.le_of_ble_eq_true rfl, Nat.le_of_ble_eq_true rfl⟩) hK hP [0, 1, 2, 3, 4] rfl (ci := 2) (q0 := 0) rfl rfl rfl rfl hl.1 rfl (Nat.le_of_ble_eq_true rfl) dX2_lay_7 ⟨Nat.zero_le _, Nat.zero_le _⟩ ?_
  refine lv_iconst (v := 1) hx hb dX2_lay_10 (by decide) ?_
  refine r_st (i := 1024 * ti + i) hx hb hK hP hD hS 1 0 rfl rfl (by omega) (by omega) dX2_lay_11 (fun H locs hP hD hS => ?_)
  have hP : va_P (dC, dI) vwCl [(g0, .inr (2, [.int x0, .int (nI L), .ref gs, .ref gk, .ref gv, .ref gz, .int x6, .int x7, .int x8, .int x9, .int x10, .int x11])), (gs, .inl (cI, 2048, .inl (upd Sx (1024 * ti + i) 1))), (gk, .inl (cI, 2048, .inl Kx)), (gv, .inl (cI, 2048, .inl Vx)), (gz, .inl (cI, 2, .inl Zx))] H := hP
  have hD : va_D Aq [(g0, .inr (2, [.int x0, .int (nI L), .ref gs, .ref gk, .ref gv, .ref gz, .int x6, .int x7, .int x8, .int x9, .int x10, .int x11])), (gs, .inl (cI, 2048, .inl (upd Sx (1024 * ti + i) 1))), (gk, .inl (cI, 2048, .inl Kx)), (gv, .inl (cI, 2048, .inl Vx)), (gz, .inl (cI, 2, .inl Zx))] := hD
  refine lv_aload_n hx hb dX2_lay_12 rfl (lv_at hl 0 rfl) ?_
  refine va_get (D := (dC, dI)) (ci := 2) (v := .ref gk) (C := RX2) (T := TX2) (N := 12) hx hb hts hin_X2_lay_X2 hown hK hP 0 rfl rfl 3 (by decide) (hts (.fieldLink RX2 13 "StepMapModel" "keys" "[I") (by decide +kernel)) (fun _ h9 => h9) rfl dX2_lay_13 ?_
  refine lv_aload_n hx hb dX2_lay_16 rfl (lv_at hl 0 rfl) ?_
  refine lv_iload_n hx hb dX2_lay_17 rfl (lv_at hl 1 rfl) ?_
  refine lv_iload_n hx hb dX2_lay_18 rfl (lv_at hl 2 rfl) ?_
  refine r_roV (rest := [.ref gk]) S0 (c_X2_at l dC dI cI g0 gs gk gv gz L (upd Sx (1024 * ti + i) 1) Kx Vx Zx x0 x6 x7 x8 x9 x10 x11 ti i) (cwV 2 hts gX2_lay_X2_at rfl rfl rfl (by decide +kernel) ⟨Nat.le_of_ble_eq_true rfl, Nat.le_of_ble_eq_true rfl⟩) hK hP [0, 1, 2, 3, 4] rfl (ci := 2) (q0 := 0) rfl rfl rfl rfl hl.1 rfl (Nat.le_of_ble_eq_true rfl) dX2_lay_19 ⟨Nat.zero_le _, Nat.zero_le _⟩ ?_
  refine lv_iload_n hx hb dX2_lay_22 rfl (lv_at hl 3 rfl) ?_
  refine r_st (i := 1024 * ti + i) hx hb hK hP hD hS 2 0 rfl rfl (by omega) (by omega) dX2_lay_23 (fun H locs hP hD hS => ?_)
  have hP : va_P (dC, dI) vwCl [(g0, .inr (2, [.int x0, .int (nI L), .ref gs, .ref gk, .ref gv, .ref gz, .int x6, .int x7, .int x8, .int x9, .int x10, .int x11])), (gs, .inl (cI, 2048, .inl (upd Sx (1024 * ti + i) 1))), (gk, .inl (cI, 2048, .inl (upd Kx (1024 * ti + i) k))), (gv, .inl (cI, 2048, .inl Vx)), (gz, .inl (cI, 2, .inl Zx))] H := hP
  have hD : va_D Aq [(g0, .inr (2, [.int x0, .int (nI L), .ref gs, .ref gk, .ref gv, .ref gz, .int x6, .int x7, .int x8, .int x9, .int x10, .int x11])), (gs, .inl (cI, 2048, .inl (upd Sx (1024 * ti + i) 1))), (gk, .inl (cI, 2048, .inl (upd Kx (1024 * ti + i) k))), (gv, .inl (cI, 2048, .inl Vx)), (gz, .inl (cI, 2, .inl Zx))] := hD
  refine lv_aload_n hx hb dX2_lay_24 rfl (lv_at hl 0 rfl) ?_
  refine va_get (D := (dC, dI)) (ci := 2) (v := .ref gv) (C := RX2) (T := TX2) (N := 12) hx hb hts hin_X2_lay_X2 hown hK hP 0 rfl rfl 4 (by decide) (hts (.fieldLink RX2 16 "StepMapModel" "values" "[I") (by decide +kernel)) (fun _ h9 => h9) rfl dX2_lay_25 ?_
  refine lv_aload_n hx hb dX2_lay_28 rfl (lv_at hl 0 rfl) ?_
  refine lv_iload_n hx hb dX2_lay_29 rfl (lv_at hl 1 rfl) ?_
  refine lv_iload_n hx hb dX2_lay_30 rfl (lv_at hl 2 rfl) ?_
  refine r_roV (rest := [.ref gv]) S0 (c_X2_at l dC dI cI g0 gs gk gv gz L (upd Sx (1024 * ti + i) 1) (upd Kx (1024 * ti + i) k) Vx Zx x0 x6 x7 x8 x9 x10 x11 ti i) (cwV 2 hts gX2_lay_X2_at rfl rfl rfl (by decide +kernel) ⟨Nat.le_of_ble_eq_true rfl, Nat.le_of_ble_eq_true rfl⟩) hK hP [0, 1, 2, 3, 4] rfl (ci := 2) (q0 := 0) rfl rfl rfl rfl hl.1 rfl (Nat.le_of_ble_eq_true rfl) dX2_lay_31 ⟨Nat.zero_le _, Nat.zero_le _⟩ ?_
  refine lv_iload hx hb dX2_lay_34 (lv_at hl 4 rfl) ?_
  refine r_st (i := 1024 * ti + i) hx hb hK hP hD hS 3 0 rfl rfl (by omega) (by omega) dX2_lay_36 (fun H locs hP hD hS => ?_)
  have hP : va_P (dC, dI) vwCl [(g0, .inr (2, [.int x0, .int (nI L), .ref gs, .ref gk, .ref gv, .ref gz, .int x6, .int x7, .int x8, .int x9, .int x10, .int x11])), (gs, .inl (cI, 2048, .inl (upd Sx (1024 * ti + i) 1))), (gk, .inl (cI, 2048, .inl (upd Kx (1024 * ti + i) k))), (gv, .inl (cI, 2048, .inl (upd Vx (1024 * ti + i) v))), (gz, .inl (cI, 2, .inl Zx))] H := hP
  have hD : va_D Aq [(g0, .inr (2, [.int x0, .int (nI L), .ref gs, .ref gk, .ref gv, .ref gz, .int x6, .int x7, .int x8, .int x9, .int x10, .int x11])), (gs, .inl (cI, 2048, .inl (upd Sx (1024 * ti + i) 1))), (gk, .inl (cI, 2048, .inl (upd Kx (1024 * ti + i) k))), (gv, .inl (cI, 2048, .inl (upd Vx (1024 * ti + i) v))), (gz, .inl (cI, 2, .inl Zx))] := hD
  exact W.vret hx hb hr (fun t ht hW => ⟨⟨(), rfl, trivial, by rw [ht]; exact hP, va_K.moved hW.alike hK, hD⟩, hS.F ht⟩) hS.2.2 dX2_lay_37
set_option maxHeartbeats 4000000 in
set_option maxRecDepth 100000 in
theorem lp_X2_look {p : Program} {l : Launch} {e : Env} {s : State} {m : MethodId} {args : Array Value} {below : List Frame} {meth : Method} {c : Code} {Q : State → Prop} {dC : Nat → ClassId} {dI : Nat → Nat → Nat} {cI : ClassId} {Aq : Nat → Prop} {H0 : Heap} (S0 : CallFix p m c cX2_look 4 s args wsX2_look RX2) (hK : va_K (dC, dI) vwCl [(cI, .int)] s) (hA : ∀ q : Nat, H0.size ≤ q → Aq q) (g0 gs gk gv gz L : Nat) (Sx Kx Vx Zx : Nat → Int32) (x0 x6 x7 x8 x9 x11 : Int32) (ti : Nat) (T : q_TB) (k : Int32) (E W2 : Nat) (ht : ti < 2) (hz : Zx ti = nI T.1) (hn : q_pw T.1) (hRT : q_RT Sx Kx Vx ti T)
    (kk1 : ∀ (_ : T.2.1 E = 0) (H : Heap) (locs : List Loc) (ls : Array Slot), va_P (dC, dI) vwCl [(g0, .inr (2, [.int x0, .int (nI L), .ref gs, .ref gk, .ref gv, .ref gz, .int x6, .int x7, .int x8, .int x9, .int (nI W2), .int x11])), (gs, .inl (cI, 2048, .inl Sx)), (gk, .inl (cI, 2048, .inl Kx)), (gv, .inl (cI, 2048, .inl Vx)), (gz, .inl (cI, 2, .inl Zx))] H → va_D Aq [(g0, .inr (2, [.int x0, .int (nI L), .ref gs, .ref gk, .ref gv, .ref gz, .int x6, .int x7, .int x8, .int x9, .int (nI W2), .int x11])), (gs, .inl (cI, 2048, .inl Sx)), (gk, .inl (cI, 2048, .inl Kx)), (gv, .inl (cI, 2048, .inl Vx)), (gz, .inl (cI, 2, .inl Zx))] → va_S Aq H0 H locs → lv_has ls 4 [(0, .ref g0), (1, .int k), (2, .int (nI ti)), (3, .int (nI E))] → W p l e ({ frames := 1, cells := 0, slots := 0, locals := 24 }) s m args below meth c H locs 0 0 Q (F0 m 83 ls []))
    (kk2 : ∀ (_ : T.2.1 E = 2 ∧ T.2.2.1 E = k) (H : Heap) (locs : List Loc) (ls : Array Slot), va_P (dC, dI) vwCl [(g0, .inr (2, [.int x0, .int (nI L), .ref gs, .ref gk, .ref gv, .ref gz, .int x6, .int x7, .int x8, .int x9, .int (nI W2), .int x11])), (gs, .inl (cI, 2048, .inl Sx)), (gk, .inl (cI, 2048, .inl Kx)), (gv, .inl (cI, 2048, .inl Vx)), (gz, .inl (cI, 2, .inl Zx))] H → va_D Aq [(g0, .inr (2, [.int x0, .int (nI L), .ref gs, .ref gk, .ref gv, .ref gz, .int x6, .int x7, .int x8, .int x9, .int (nI W2), .int x11])), (gs, .inl (cI, 2048, .inl Sx)), (gk, .inl (cI, 2048, .inl Kx)), (gv, .inl (cI, 2048, .inl Vx)), (gz, .inl (cI, 2, .inl Zx))] → va_S Aq H0 H locs → lv_has ls 4 [(0, .ref g0), (1, .int k), (2, .int (nI ti)), (3, .int (nI E))] → W p l e ({ frames := 1, cells := 0, slots := 0, locals := 24 }) s m args below meth c H locs 0 0 Q (F0 m 61 ls [])) :
    ∀ (f : Nat) (i v2 : Nat), i < T.1 ∧ q_stp T.2.1 T.2.2.1 k (q_ad T.1 i (q_lkS T.2.1 T.2.2.1 T.1 k f i)) ∧ f < T.1 ∧ (q_ad T.1 i (q_lkS T.2.1 T.2.2.1 T.1 k f i)) = E ∧ v2 + q_lkS T.2.1 T.2.2.1 T.1 k f i = W2 → ∀ (H : Heap) (locs : List Loc) (ls : Array Slot), va_P (dC, dI) vwCl [(g0, .inr (2, [.int x0, .int (nI L), .ref gs, .ref gk, .ref gv, .ref gz, .int x6, .int x7, .int x8, .int x9, .int (nI v2), .int x11])), (gs, .inl (cI, 2048, .inl Sx)), (gk, .inl (cI, 2048, .inl Kx)), (gv, .inl (cI, 2048, .inl Vx)), (gz, .inl (cI, 2, .inl Zx))] H → va_D Aq [(g0, .inr (2, [.int x0, .int (nI L), .ref gs, .ref gk, .ref gv, .ref gz, .int x6, .int x7, .int x8, .int x9, .int (nI v2), .int x11])), (gs, .inl (cI, 2048, .inl Sx)), (gk, .inl (cI, 2048, .inl Kx)), (gv, .inl (cI, 2048, .inl Vx)), (gz, .inl (cI, 2, .inl Zx))] → va_S Aq H0 H locs → lv_has ls 4 [(0, .ref g0), (1, .int k), (2, .int (nI ti)), (3, .int (nI i))] → W p l e ({ frames := 1, cells := 0, slots := 0, locals := 24 }) s m args below meth c H locs 0 0 Q (F0 m 17 ls []) := by
  obtain ⟨hx, hb, hml, hown, hts⟩ := id S0
  intro f
  induction f with
  | zero =>
    intro i v2 hi H locs ls hP hD hS hl
    obtain ⟨h1, h2, h3, h4, h5⟩ := hi
    have hn8 := q_pw_8 hn
    have hst0 : q_stp T.2.1 T.2.2.1 k (q_ad T.1 i 0) := h2
    rw [q_ad_0 h1] at hst0
    refine lv_aload_n hx hb dX2_look_17 rfl (lv_at hl 0 rfl) ?_
    refine va_get (D := (dC, dI)) (ci := 2) (v := .ref gs) (C := RX2) (T := TX2) (N := 12) hx hb hts hin_X2_look_X2 hown hK hP 0 rfl rfl 2 (by decide) (hts (.fieldLink RX2 7 "StepMapModel" "states" "[I") (by decide +kernel)) (fun _ h9 => h9) rfl dX2_look_18 ?_
    refine lv_aload_n hx hb dX2_look_21 rfl (lv_at hl 0 rfl) ?_
    refine lv_iload_n hx hb dX2_look_22 rfl (lv_at hl 2 rfl) ?_
    refine lv_iload_n hx hb dX2_look_23 rfl (lv_at hl 3 rfl) ?_
    refine r_roV (rest := [.ref gs]) S0 (c_X2_at l dC dI cI g0 gs gk gv gz L Sx Kx Vx Zx x0 x6 x7 x8 x9 (nI v2) x11 ti i) (cwV 2 hts gX2_look_X2_at rfl rfl rfl (by decide +kernel) ⟨Nat.le_of_ble_eq_true rfl, Nat.le_of_ble_eq_true rfl⟩) hK hP [0, 1, 2, 3, 4] rfl (ci := 2) (q0 := 0) rfl rfl rfl rfl hl.1 rfl (Nat.le_of_ble_eq_true rfl) dX2_look_24 ⟨Nat.zero_le _, Nat.zero_le _⟩ ?_
    refine r_ld (i := 1024 * ti + i) hx hb hK hP 1 0 rfl rfl (by omega) (by omega) dX2_look_27 ?_
    refine r_eq (z := q_sw (T.2.1 i)) (q_RT_s hRT h1) ?_
    refine lv_if_eq (tgt := 83) hx hb dX2_look_28 (by decide) (fun c_28 => ?_) (fun c_28 => ?_)
    · have m0 := q_sw_0.mp c_28
      have hst : q_stp T.2.1 T.2.2.1 k i := Or.inl m0
      rw [q_lkS_z _ _ hst] at h2 h4 h5
      have e3 : i = E := by rw [← h4]; exact (q_ad_0 h1).symm
      have e4 : v2 = W2 := h5
      subst e3
      subst e4
      exact kk1 m0 H locs ls hP hD hS (lv_sub hl [0, 1, 2, 3] rfl)
    · have n0 : ¬ T.2.1 i = 0 := fun z => c_28 (q_sw_0.mpr z)
      refine lv_aload_n hx hb dX2_look_31 rfl (lv_at hl 0 rfl) ?_
      refine va_get (D := (dC, dI)) (ci := 2) (v := .ref gs) (C := RX2) (T := TX2) (N := 12) hx hb hts hin_X2_look_X2 hown hK hP 0 rfl rfl 2 (by decide) (hts (.fieldLink RX2 7 "StepMapModel" "states" "[I") (by decide +kernel)) (fun _ h9 => h9) rfl dX2_look_32 ?_
      refine lv_aload_n hx hb dX2_look_35 rfl (lv_at hl 0 rfl) ?_
      refine lv_iload_n hx hb dX2_look_36 rfl (lv_at hl 2 rfl) ?_
      refine lv_iload_n hx hb dX2_look_37 rfl (lv_at hl 3 rfl) ?_
      refine r_roV (rest := [.ref gs]) S0 (c_X2_at l dC dI cI g0 gs gk gv gz L Sx Kx Vx Zx x0 x6 x7 x8 x9 (nI v2) x11 ti i) (cwV 2 hts gX2_look_X2_at rfl rfl rfl (by decide +kernel) ⟨Nat.le_of_ble_eq_true rfl, Nat.le_of_ble_eq_true rfl⟩) hK hP [0, 1, 2, 3, 4] rfl (ci := 2) (q0 := 0) rfl rfl rfl rfl hl.1 rfl (Nat.le_of_ble_eq_true rfl) dX2_look_38 ⟨Nat.zero_le _, Nat.zero_le _⟩ ?_
      refine r_ld (i := 1024 * ti + i) hx hb hK hP 1 0 rfl rfl (by omega) (by omega) dX2_look_41 ?_
      refine r_eq (z := q_sw (T.2.1 i)) (q_RT_s hRT h1) ?_
      refine lv_iconst (v := 1) hx hb dX2_look_42 (by decide) ?_
      refine lv_icmp_ne (tgt := 63) hx hb dX2_look_43 (by decide) (fun c_43 => ?_) (fun c_43 => ?_)
      · have ns : ¬ q_stp T.2.1 T.2.2.1 k i := fun z => z.elim n0 (fun y => c_43 (q_sw_1.mpr y.1))
        exact absurd hst0 ns
      · have m2 := q_sw_1.mp c_43
        refine lv_aload_n hx hb dX2_look_46 rfl (lv_at hl 0 rfl) ?_
        refine va_get (D := (dC, dI)) (ci := 2) (v := .ref gk) (C := RX2) (T := TX2) (N := 12) hx hb hts hin_X2_look_X2 hown hK hP 0 rfl rfl 3 (by decide) (hts (.fieldLink RX2 13 "StepMapModel" "keys" "[I") (by decide +kernel)) (fun _ h9 => h9) rfl dX2_look_47 ?_
        refine lv_aload_n hx hb dX2_look_50 rfl (lv_at hl 0 rfl) ?_
        refine lv_iload_n hx hb dX2_look_51 rfl (lv_at hl 2 rfl) ?_
        refine lv_iload_n hx hb dX2_look_52 rfl (lv_at hl 3 rfl) ?_
        refine r_roV (rest := [.ref gk]) S0 (c_X2_at l dC dI cI g0 gs gk gv gz L Sx Kx Vx Zx x0 x6 x7 x8 x9 (nI v2) x11 ti i) (cwV 2 hts gX2_look_X2_at rfl rfl rfl (by decide +kernel) ⟨Nat.le_of_ble_eq_true rfl, Nat.le_of_ble_eq_true rfl⟩) hK hP [0, 1, 2, 3, 4] rfl (ci := 2) (q0 := 0) rfl rfl rfl rfl hl.1 rfl (Nat.le_of_ble_eq_true rfl) dX2_look_53 ⟨Nat.zero_le _, Nat.zero_le _⟩ ?_
        refine r_ld (i := 1024 * ti + i) hx hb hK hP 2 0 rfl rfl (by omega) (by omega) dX2_look_56 ?_
        refine r_eq (z := T.2.2.1 i) (q_RT_k hRT h1 m2) ?_
        refine lv_iload_n hx hb dX2_look_57 rfl (lv_at hl 1 rfl) ?_
        refine lv_icmp_ne (tgt := 63) hx hb dX2_look_58 (by decide) (fun c_58 => ?_) (fun c_58 => ?_)
        · have ns : ¬ q_stp T.2.1 T.2.2.1 k i := fun z => z.elim n0 (fun y => c_58 y.2)
          exact absurd hst0 ns
        · have hst : q_stp T.2.1 T.2.2.1 k i := Or.inr ⟨m2, c_58⟩
          rw [q_lkS_z _ _ hst] at h2 h4 h5
          have e3 : i = E := by rw [← h4]; exact (q_ad_0 h1).symm
          have e4 : v2 = W2 := h5
          subst e3
          subst e4
          exact kk2 ⟨m2, c_58⟩ H locs ls hP hD hS (lv_sub hl [0, 1, 2, 3] rfl)
  | succ f ih =>
    intro i v2 hi H locs ls hP hD hS hl
    obtain ⟨h1, h2, h3, h4, h5⟩ := hi
    have hn8 := q_pw_8 hn
    refine lv_aload_n hx hb dX2_look_17 rfl (lv_at hl 0 rfl) ?_
    refine va_get (D := (dC, dI)) (ci := 2) (v := .ref gs) (C := RX2) (T := TX2) (N := 12) hx hb hts hin_X2_look_X2 hown hK hP 0 rfl rfl 2 (by decide) (hts (.fieldLink RX2 7 "StepMapModel" "states" "[I") (by decide +kernel)) (fun _ h9 => h9) rfl dX2_look_18 ?_
    refine lv_aload_n hx hb dX2_look_21 rfl (lv_at hl 0 rfl) ?_
    refine lv_iload_n hx hb dX2_look_22 rfl (lv_at hl 2 rfl) ?_
    refine lv_iload_n hx hb dX2_look_23 rfl (lv_at hl 3 rfl) ?_
    refine r_roV (rest := [.ref gs]) S0 (c_X2_at l dC dI cI g0 gs gk gv gz L Sx Kx Vx Zx x0 x6 x7 x8 x9 (nI v2) x11 ti i) (cwV 2 hts gX2_look_X2_at rfl rfl rfl (by decide +kernel) ⟨Nat.le_of_ble_eq_true rfl, Nat.le_of_ble_eq_true rfl⟩) hK hP [0, 1, 2, 3, 4] rfl (ci := 2) (q0 := 0) rfl rfl rfl rfl hl.1 rfl (Nat.le_of_ble_eq_true rfl) dX2_look_24 ⟨Nat.zero_le _, Nat.zero_le _⟩ ?_
    refine r_ld (i := 1024 * ti + i) hx hb hK hP 1 0 rfl rfl (by omega) (by omega) dX2_look_27 ?_
    refine r_eq (z := q_sw (T.2.1 i)) (q_RT_s hRT h1) ?_
    refine lv_if_eq (tgt := 83) hx hb dX2_look_28 (by decide) (fun c_28 => ?_) (fun c_28 => ?_)
    · have m0 := q_sw_0.mp c_28
      have hst : q_stp T.2.1 T.2.2.1 k i := Or.inl m0
      rw [q_lkS_z _ _ hst] at h2 h4 h5
      have e3 : i = E := by rw [← h4]; exact (q_ad_0 h1).symm
      have e4 : v2 = W2 := h5
      subst e3
      subst e4
      exact kk1 m0 H locs ls hP hD hS (lv_sub hl [0, 1, 2, 3] rfl)
    · have n0 : ¬ T.2.1 i = 0 := fun z => c_28 (q_sw_0.mpr z)
      refine lv_aload_n hx hb dX2_look_31 rfl (lv_at hl 0 rfl) ?_
      refine va_get (D := (dC, dI)) (ci := 2) (v := .ref gs) (C := RX2) (T := TX2) (N := 12) hx hb hts hin_X2_look_X2 hown hK hP 0 rfl rfl 2 (by decide) (hts (.fieldLink RX2 7 "StepMapModel" "states" "[I") (by decide +kernel)) (fun _ h9 => h9) rfl dX2_look_32 ?_
      refine lv_aload_n hx hb dX2_look_35 rfl (lv_at hl 0 rfl) ?_
      refine lv_iload_n hx hb dX2_look_36 rfl (lv_at hl 2 rfl) ?_
      refine lv_iload_n hx hb dX2_look_37 rfl (lv_at hl 3 rfl) ?_
      refine r_roV (rest := [.ref gs]) S0 (c_X2_at l dC dI cI g0 gs gk gv gz L Sx Kx Vx Zx x0 x6 x7 x8 x9 (nI v2) x11 ti i) (cwV 2 hts gX2_look_X2_at rfl rfl rfl (by decide +kernel) ⟨Nat.le_of_ble_eq_true rfl, Nat.le_of_ble_eq_true rfl⟩) hK hP [0, 1, 2, 3, 4] rfl (ci := 2) (q0 := 0) rfl rfl rfl rfl hl.1 rfl (Nat.le_of_ble_eq_true rfl) dX2_look_38 ⟨Nat.zero_le _, Nat.zero_le _⟩ ?_
      refine r_ld (i := 1024 * ti + i) hx hb hK hP 1 0 rfl rfl (by omega) (by omega) dX2_look_41 ?_
      refine r_eq (z := q_sw (T.2.1 i)) (q_RT_s hRT h1) ?_
      refine lv_iconst (v := 1) hx hb dX2_look_42 (by decide) ?_
      refine lv_icmp_ne (tgt := 63) hx hb dX2_look_43 (by decide) (fun c_43 => ?_) (fun c_43 => ?_)
      · have ns : ¬ q_stp T.2.1 T.2.2.1 k i := fun z => z.elim n0 (fun y => c_43 (q_sw_1.mpr y.1))
        refine lv_aload_n hx hb dX2_look_63 rfl (lv_at hl 0 rfl) ?_
        refine lv_iload_n hx hb dX2_look_64 rfl (lv_at hl 3 rfl) ?_
        refine lv_iload_n hx hb dX2_look_65 rfl (lv_at hl 2 rfl) ?_
        refine r_roV (rest := []) S0 (c_X2_behind l dC dI cI g0 gs gk gv gz L Sx Kx Vx Zx x0 x6 x7 x8 x9 (nI v2) x11 i ti T.1 (by omega) hz hn (by omega)) (cwV 2 hts gX2_look_X2_behind rfl rfl rfl (by decide +kernel) ⟨Nat.le_of_ble_eq_true rfl, Nat.le_of_ble_eq_true rfl⟩) hK hP [0, 1, 2, 3, 4] rfl (ci := 2) (q0 := 0) rfl rfl rfl rfl hl.1 rfl (Nat.le_of_ble_eq_true rfl) dX2_look_66 ⟨Nat.zero_le _, Nat.zero_le _⟩ ?_
        refine lv_istore_n (lv' := [(3, .int (nI (q_ad T.1 i 1))), (0, .ref g0), (1, .int k), (2, .int (nI ti))]) hx hb dX2_look_69 rfl hl (by decide) rfl (fun ls hl => ?_)
        refine lv_aload_n hx hb dX2_look_70 rfl (lv_at hl 1 rfl) ?_
        refine lv_dup hx hb dX2_look_71 rfl ?_
        refine va_get (D := (dC, dI)) (ci := 2) (v := .int (nI v2)) (C := RX2) (T := TX2) (N := 12) hx hb hts hin_X2_look_X2 hown hK hP 0 rfl rfl 10 (by decide) (hts (.fieldLink RX2 34 "StepMapModel" "visits" "I") (by decide +kernel)) (fun _ h9 => h9) rfl dX2_look_72 ?_
        refine lv_iconst (v := 1) hx hb dX2_look_75 (by decide) ?_
        refine lv_iadd hx hb dX2_look_76 ?_
        refine r_eq (z := nI (v2 + 1)) (nI_add v2 1) ?_
        refine va_put (D := (dC, dI)) (ci := 2) (v := .int (nI (v2 + 1))) (ty := .int) (C := RX2) (T := TX2) (N := 12) hx hb hts hin_X2_look_X2 tyX2 tyX2_ok nmX2 hown hK hP hD hS 0 rfl rfl 10 (by decide) (hts (.fieldLink RX2 34 "StepMapModel" "visits" "I") (by decide +kernel)) (fun _ h9 => h9) rfl (by decide +kernel) (rfl) (rfl) (Nat.le_of_ble_eq_true rfl) dX2_look_77 (fun H locs hP hD hS => ?_)
        have hP : va_P (dC, dI) vwCl [(g0, .inr (2, [.int x0, .int (nI L), .ref gs, .ref gk, .ref gv, .ref gz, .int x6, .int x7, .int x8, .int x9, .int (nI (v2 + 1)), .int x11])), (gs, .inl (cI, 2048, .inl Sx)), (gk, .inl (cI, 2048, .inl Kx)), (gv, .inl (cI, 2048, .inl Vx)), (gz, .inl (cI, 2, .inl Zx))] H := hP
        have hD : va_D Aq [(g0, .inr (2, [.int x0, .int (nI L), .ref gs, .ref gk, .ref gv, .ref gz, .int x6, .int x7, .int x8, .int x9, .int (nI (v2 + 1)), .int x11])), (gs, .inl (cI, 2048, .inl Sx)), (gk, .inl (cI, 2048, .inl Kx)), (gv, .inl (cI, 2048, .inl Vx)), (gz, .inl (cI, 2, .inl Zx))] := hD
        refine lv_goto (tgt := 17) hx hb dX2_look_80 (by decide) ?_
        rw [q_lkS_s _ _ ns] at h2 h4 h5
        have hle := q_lkS_le (M := T.2.1) (K := T.2.2.1) (n := T.1) (k := k) f (q_ad T.1 i 1)
        have ea : q_ad T.1 (q_ad T.1 i 1) (q_lkS T.2.1 T.2.2.1 T.1 k f (q_ad T.1 i 1)) = q_ad T.1 i (q_lkS T.2.1 T.2.2.1 T.1 k f (q_ad T.1 i 1) + 1) := by rw [q_ad_ad h1 (by omega), Nat.add_comm 1 _]
        exact ih (q_ad T.1 i 1) (v2 + 1) ⟨q_ad_lt h1 (by omega), by rw [ea]; exact h2, by omega, by rw [ea]; exact h4, by omega⟩ H locs ls hP hD hS (lv_sub hl [1, 2, 3, 0] rfl)
      · have m2 := q_sw_1.mp c_43
        refine lv_aload_n hx hb dX2_look_46 rfl (lv_at hl 0 rfl) ?_
        refine va_get (D := (dC, dI)) (ci := 2) (v := .ref gk) (C := RX2) (T := TX2) (N := 12) hx hb hts hin_X2_look_X2 hown hK hP 0 rfl rfl 3 (by decide) (hts (.fieldLink RX2 13 "StepMapModel" "keys" "[I") (by decide +kernel)) (fun _ h9 => h9) rfl dX2_look_47 ?_
        refine lv_aload_n hx hb dX2_look_50 rfl (lv_at hl 0 rfl) ?_
        refine lv_iload_n hx hb dX2_look_51 rfl (lv_at hl 2 rfl) ?_
        refine lv_iload_n hx hb dX2_look_52 rfl (lv_at hl 3 rfl) ?_
        refine r_roV (rest := [.ref gk]) S0 (c_X2_at l dC dI cI g0 gs gk gv gz L Sx Kx Vx Zx x0 x6 x7 x8 x9 (nI v2) x11 ti i) (cwV 2 hts gX2_look_X2_at rfl rfl rfl (by decide +kernel) ⟨Nat.le_of_ble_eq_true rfl, Nat.le_of_ble_eq_true rfl⟩) hK hP [0, 1, 2, 3, 4] rfl (ci := 2) (q0 := 0) rfl rfl rfl rfl hl.1 rfl (Nat.le_of_ble_eq_true rfl) dX2_look_53 ⟨Nat.zero_le _, Nat.zero_le _⟩ ?_
        refine r_ld (i := 1024 * ti + i) hx hb hK hP 2 0 rfl rfl (by omega) (by omega) dX2_look_56 ?_
        refine r_eq (z := T.2.2.1 i) (q_RT_k hRT h1 m2) ?_
        refine lv_iload_n hx hb dX2_look_57 rfl (lv_at hl 1 rfl) ?_
        refine lv_icmp_ne (tgt := 63) hx hb dX2_look_58 (by decide) (fun c_58 => ?_) (fun c_58 => ?_)
        · have ns : ¬ q_stp T.2.1 T.2.2.1 k i := fun z => z.elim n0 (fun y => c_58 y.2)
          refine lv_aload_n hx hb dX2_look_63 rfl (lv_at hl 0 rfl) ?_
          refine lv_iload_n hx hb dX2_look_64 rfl (lv_at hl 3 rfl) ?_
          refine lv_iload_n hx hb dX2_look_65 rfl (lv_at hl 2 rfl) ?_
          refine r_roV (rest := []) S0 (c_X2_behind l dC dI cI g0 gs gk gv gz L Sx Kx Vx Zx x0 x6 x7 x8 x9 (nI v2) x11 i ti T.1 (by omega) hz hn (by omega)) (cwV 2 hts gX2_look_X2_behind rfl rfl rfl (by decide +kernel) ⟨Nat.le_of_ble_eq_true rfl, Nat.le_of_ble_eq_true rfl⟩) hK hP [0, 1, 2, 3, 4] rfl (ci := 2) (q0 := 0) rfl rfl rfl rfl hl.1 rfl (Nat.le_of_ble_eq_true rfl) dX2_look_66 ⟨Nat.zero_le _, Nat.zero_le _⟩ ?_
          refine lv_istore_n (lv' := [(3, .int (nI (q_ad T.1 i 1))), (0, .ref g0), (1, .int k), (2, .int (nI ti))]) hx hb dX2_look_69 rfl hl (by decide) rfl (fun ls hl => ?_)
          refine lv_aload_n hx hb dX2_look_70 rfl (lv_at hl 1 rfl) ?_
          refine lv_dup hx hb dX2_look_71 rfl ?_
          refine va_get (D := (dC, dI)) (ci := 2) (v := .int (nI v2)) (C := RX2) (T := TX2) (N := 12) hx hb hts hin_X2_look_X2 hown hK hP 0 rfl rfl 10 (by decide) (hts (.fieldLink RX2 34 "StepMapModel" "visits" "I") (by decide +kernel)) (fun _ h9 => h9) rfl dX2_look_72 ?_
          refine lv_iconst (v := 1) hx hb dX2_look_75 (by decide) ?_
          refine lv_iadd hx hb dX2_look_76 ?_
          refine r_eq (z := nI (v2 + 1)) (nI_add v2 1) ?_
          refine va_put (D := (dC, dI)) (ci := 2) (v := .int (nI (v2 + 1))) (ty := .int) (C := RX2) (T := TX2) (N := 12) hx hb hts hin_X2_look_X2 tyX2 tyX2_ok nmX2 hown hK hP hD hS 0 rfl rfl 10 (by decide) (hts (.fieldLink RX2 34 "StepMapModel" "visits" "I") (by decide +kernel)) (fun _ h9 => h9) rfl (by decide +kernel) (rfl) (rfl) (Nat.le_of_ble_eq_true rfl) dX2_look_77 (fun H locs hP hD hS => ?_)
          have hP : va_P (dC, dI) vwCl [(g0, .inr (2, [.int x0, .int (nI L), .ref gs, .ref gk, .ref gv, .ref gz, .int x6, .int x7, .int x8, .int x9, .int (nI (v2 + 1)), .int x11])), (gs, .inl (cI, 2048, .inl Sx)), (gk, .inl (cI, 2048, .inl Kx)), (gv, .inl (cI, 2048, .inl Vx)), (gz, .inl (cI, 2, .inl Zx))] H := hP
          have hD : va_D Aq [(g0, .inr (2, [.int x0, .int (nI L), .ref gs, .ref gk, .ref gv, .ref gz, .int x6, .int x7, .int x8, .int x9, .int (nI (v2 + 1)), .int x11])), (gs, .inl (cI, 2048, .inl Sx)), (gk, .inl (cI, 2048, .inl Kx)), (gv, .inl (cI, 2048, .inl Vx)), (gz, .inl (cI, 2, .inl Zx))] := hD
          refine lv_goto (tgt := 17) hx hb dX2_look_80 (by decide) ?_
          rw [q_lkS_s _ _ ns] at h2 h4 h5
          have hle := q_lkS_le (M := T.2.1) (K := T.2.2.1) (n := T.1) (k := k) f (q_ad T.1 i 1)
          have ea : q_ad T.1 (q_ad T.1 i 1) (q_lkS T.2.1 T.2.2.1 T.1 k f (q_ad T.1 i 1)) = q_ad T.1 i (q_lkS T.2.1 T.2.2.1 T.1 k f (q_ad T.1 i 1) + 1) := by rw [q_ad_ad h1 (by omega), Nat.add_comm 1 _]
          exact ih (q_ad T.1 i 1) (v2 + 1) ⟨q_ad_lt h1 (by omega), by rw [ea]; exact h2, by omega, by rw [ea]; exact h4, by omega⟩ H locs ls hP hD hS (lv_sub hl [1, 2, 3, 0] rfl)
        · have hst : q_stp T.2.1 T.2.2.1 k i := Or.inr ⟨m2, c_58⟩
          rw [q_lkS_z _ _ hst] at h2 h4 h5
          have e3 : i = E := by rw [← h4]; exact (q_ad_0 h1).symm
          have e4 : v2 = W2 := h5
          subst e3
          subst e4
          exact kk2 ⟨m2, c_58⟩ H locs ls hP hD hS (lv_sub hl [0, 1, 2, 3] rfl)
set_option maxHeartbeats 4000000 in
set_option maxRecDepth 100000 in
theorem c_X2_look (l : Launch) (dC : Nat → ClassId) (dI : Nat → Nat → Nat) (cI : ClassId) (g0 gs gk gv gz L : Nat) (Sx Kx Vx Zx : Nat → Int32) (x0 x6 x7 x8 x9 x11 : Int32) (vi ti : Nat) (T : q_TB) (k : Int32) (sz : Nat) (ht : ti < 2) (hz : Zx ti = nI T.1) (hn : q_pw T.1) (hRT : q_RT Sx Kx Vx ti T) (hEM : q_EM T) : Met l yX2_look wsX2_look ({ frames := 1, cells := 0, slots := 0, locals := 24 }) (r_Mc (dC, dI) vwCl [(cI, .int)] [(g0, .inr (2, [.int x0, .int (nI L), .ref gs, .ref gk, .ref gv, .ref gz, .int x6, .int x7, .int x8, .int x9, .int (nI vi), .int x11])), (gs, .inl (cI, 2048, .inl Sx)), (gk, .inl (cI, 2048, .inl Kx)), (gv, .inl (cI, 2048, .inl Vx)), (gz, .inl (cI, 2, .inl Zx))] sz [.ref g0, .int k, .int (nI ti)]) (va_Qi (fun (r : Int32) (_ : Unit) => r = q_lkR T k) (fun u t => r_B (dC, dI) vwCl [(cI, .int)] (va_A [(g0, .inr (2, [.int x0, .int (nI L), .ref gs, .ref gk, .ref gv, .ref gz, .int x6, .int x7, .int x8, .int x9, .int (nI vi), .int x11])), (gs, .inl (cI, 2048, .inl Sx)), (gk, .inl (cI, 2048, .inl Kx)), (gv, .inl (cI, 2048, .inl Vx)), (gz, .inl (cI, 2, .inl Zx))] sz) ((fun _ => [(g0, .inr (2, [.int x0, .int (nI L), .ref gs, .ref gk, .ref gv, .ref gz, .int x6, .int x7, .int x8, .int x9, .int (nI (vi + (q_lkD T k + 1))), .int x11])), (gs, .inl (cI, 2048, .inl Sx)), (gk, .inl (cI, 2048, .inl Kx)), (gv, .inl (cI, 2048, .inl Vx)), (gz, .inl (cI, 2, .inl Zx))]) u) t) (va_A [(g0, .inr (2, [.int x0, .int (nI L), .ref gs, .ref gk, .ref gv, .ref gz, .int x6, .int x7, .int x8, .int x9, .int (nI vi), .int x11])), (gs, .inl (cI, 2048, .inl Sx)), (gk, .inl (cI, 2048, .inl Kx)), (gv, .inl (cI, 2048, .inl Vx)), (gz, .inl (cI, 2, .inl Zx))] sz)) 0 0 (va_A [(g0, .inr (2, [.int x0, .int (nI L), .ref gs, .ref gk, .ref gv, .ref gz, .int x6, .int x7, .int x8, .int x9, .int (nI vi), .int x11])), (gs, .inl (cI, 2048, .inl Sx)), (gk, .inl (cI, 2048, .inl Kx)), (gv, .inl (cI, 2048, .inl Vx)), (gz, .inl (cI, 2, .inl Zx))] sz) := by
  refine Met.ofW (cc := cX2_look) (maxL := 4) (ret := (some .int)) (by decide) rfl ?_
  intro p e s m args below meth c s₁ Bd hml hv
  obtain ⟨rfl, hsz, hP, hK, hD0⟩ := hv
  have hx := Bd.exec
  have hb := Bd.bytes
  have hr := Bd.returns
  have hts := atoms_spec (ws := wsX2_look) Bd.pre
  have hown : s.vm.findClass RX2 = some m.cls := findClass_of_methodNamed Bd.named
  have hlocks := Bd.notSynchronized
  have S0 : CallFix p m c cX2_look 4 s _ wsX2_look RX2 := ⟨hx, hb, hml, hown, hts⟩
  subst hsz
  have hD := hD0.self (sz := s.heap.size)
  generalize hAe : va_A [(g0, .inr (2, [.int x0, .int (nI L), .ref gs, .ref gk, .ref gv, .ref gz, .int x6, .int x7, .int x8, .int x9, .int (nI vi), .int x11])), (gs, .inl (cI, 2048, .inl Sx)), (gk, .inl (cI, 2048, .inl Kx)), (gv, .inl (cI, 2048, .inl Vx)), (gz, .inl (cI, 2, .inl Zx))] s.heap.size = Aq at hD ⊢
  have hA : ∀ q : Nat, s.heap.size ≤ q → Aq q := fun q h => by rw [← hAe]; exact Or.inr h
  have hS : va_S Aq s.heap s.heap [] := va_S.rf
  have hD : va_D Aq [(g0, .inr (2, [.int x0, .int (nI L), .ref gs, .ref gk, .ref gv, .ref gz, .int x6, .int x7, .int x8, .int x9, .int (nI vi), .int x11])), (gs, .inl (cI, 2048, .inl Sx)), (gk, .inl (cI, 2048, .inl Kx)), (gv, .inl (cI, 2048, .inl Vx)), (gz, .inl (cI, 2, .inl Zx))] := hD
  have hP : va_P (dC, dI) vwCl [(g0, .inr (2, [.int x0, .int (nI L), .ref gs, .ref gk, .ref gv, .ref gz, .int x6, .int x7, .int x8, .int x9, .int (nI vi), .int x11])), (gs, .inl (cI, 2048, .inl Sx)), (gk, .inl (cI, 2048, .inl Kx)), (gv, .inl (cI, 2048, .inl Vx)), (gz, .inl (cI, 2, .inl Zx))] s.heap := hP
  have hl := lv_entry ([.ref g0, .int k, .int (nI ti)]) (n := 4) (Nat.le_of_ble_eq_true rfl)
  rw [lg_entry_eq]
  generalize (lg_sl ([.ref g0, .int k, .int (nI ti)]) ++ List.replicate (4 - (lg_sl ([.ref g0, .int k, .int (nI ti)])).length) Slot.unset).toArray = ls at hl ⊢
  have hl : lv_has ls 4 [(0, .ref g0), (1, .int k), (2, .int (nI ti))] := hl
  have hn8 := q_pw_8 hn
  refine lv_aload_n hx hb dX2_look_0 rfl (lv_at hl 0 rfl) ?_
  refine lv_iload_n hx hb dX2_look_1 rfl (lv_at hl 1 rfl) ?_
  refine lv_iload_n hx hb dX2_look_2 rfl (lv_at hl 2 rfl) ?_
  refine r_roV (rest := []) S0 (c_X2_home l dC dI cI g0 gs gk gv gz L Sx Kx Vx Zx x0 x6 x7 x8 x9 (nI vi) x11 k ti T.1 (by omega) hz hn) (cwV 2 hts gX2_look_X2_home rfl rfl rfl (by decide +kernel) ⟨Nat.le_of_ble_eq_true rfl, Nat.le_of_ble_eq_true rfl⟩) hK hP [0, 1, 2, 3, 4] rfl (ci := 2) (q0 := 0) rfl rfl rfl rfl hl.1 rfl (Nat.le_of_ble_eq_true rfl) dX2_look_3 ⟨Nat.zero_le _, Nat.zero_le _⟩ ?_
  refine lv_istore_n (lv' := [(3, .int (nI (q_hm T.1 k))), (0, .ref g0), (1, .int k), (2, .int (nI ti))]) hx hb dX2_look_6 rfl hl (by decide) rfl (fun ls hl => ?_)
  refine lv_aload_n hx hb dX2_look_7 rfl (lv_at hl 1 rfl) ?_
  refine lv_dup hx hb dX2_look_8 rfl ?_
  refine va_get (D := (dC, dI)) (ci := 2) (v := .int (nI vi)) (C := RX2) (T := TX2) (N := 12) hx hb hts hin_X2_look_X2 hown hK hP 0 rfl rfl 10 (by decide) (hts (.fieldLink RX2 34 "StepMapModel" "visits" "I") (by decide +kernel)) (fun _ h9 => h9) rfl dX2_look_9 ?_
  refine lv_iconst (v := 1) hx hb dX2_look_12 (by decide) ?_
  refine lv_iadd hx hb dX2_look_13 ?_
  refine r_eq (z := nI (vi + 1)) (nI_add vi 1) ?_
  refine va_put (D := (dC, dI)) (ci := 2) (v := .int (nI (vi + 1))) (ty := .int) (C := RX2) (T := TX2) (N := 12) hx hb hts hin_X2_look_X2 tyX2 tyX2_ok nmX2 hown hK hP hD hS 0 rfl rfl 10 (by decide) (hts (.fieldLink RX2 34 "StepMapModel" "visits" "I") (by decide +kernel)) (fun _ h9 => h9) rfl (by decide +kernel) (rfl) (rfl) (Nat.le_of_ble_eq_true rfl) dX2_look_14 (fun H locs hP hD hS => ?_)
  have hP : va_P (dC, dI) vwCl [(g0, .inr (2, [.int x0, .int (nI L), .ref gs, .ref gk, .ref gv, .ref gz, .int x6, .int x7, .int x8, .int x9, .int (nI (vi + 1)), .int x11])), (gs, .inl (cI, 2048, .inl Sx)), (gk, .inl (cI, 2048, .inl Kx)), (gv, .inl (cI, 2048, .inl Vx)), (gz, .inl (cI, 2, .inl Zx))] H := hP
  have hD : va_D Aq [(g0, .inr (2, [.int x0, .int (nI L), .ref gs, .ref gk, .ref gv, .ref gz, .int x6, .int x7, .int x8, .int x9, .int (nI (vi + 1)), .int x11])), (gs, .inl (cI, 2048, .inl Sx)), (gk, .inl (cI, 2048, .inl Kx)), (gv, .inl (cI, 2048, .inl Vx)), (gz, .inl (cI, 2, .inl Zx))] := hD
  have hst := q_lk_stp (t := T) k (by omega) hEM
  refine lp_X2_look S0 hK hA g0 gs gk gv gz L Sx Kx Vx Zx x0 x6 x7 x8 x9 x11 ti T k (q_lkE T k) (vi + (q_lkD T k + 1)) ht hz hn hRT (fun m0 H locs ls hP hD hS hl => ?_) (fun m2 H locs ls hP hD hS hl => ?_) (T.1 - 1) (q_hm T.1 k) (vi + 1) ⟨q_hm_lt k (by omega), hst, by omega, rfl, by show vi + 1 + q_lkD T k = _; omega⟩ H locs ls hP hD hS (lv_sub hl [1, 2, 3, 0] rfl)
  · refine lv_iconst (v := -1) hx hb dX2_look_83 (by decide) ?_
    refine lv_iload_n hx hb dX2_look_84 rfl (lv_at hl 3 rfl) ?_
    refine lv_isub hx hb dX2_look_85 ?_
    exact W.iret (v := (-1) - (nI (q_lkE T k))) hx hb hr (fun t ht hW => ⟨⟨_, (), rfl, (q_lkR_f (fun z => absurd (m0.symm.trans z.1) (by decide))).symm, by rw [ht]; exact hP, va_K.moved hW.alike hK, hD⟩, hS.F ht⟩) hS.2.2 dX2_look_86
  · refine lv_iload_n hx hb dX2_look_61 rfl (lv_at hl 3 rfl) ?_
    exact W.iret (v := nI (q_lkE T k)) hx hb hr (fun t ht hW => ⟨⟨_, (), rfl, (q_lkR_t m2).symm, by rw [ht]; exact hP, va_K.moved hW.alike hK, hD⟩, hS.F ht⟩) hS.2.2 dX2_look_62
end
section
/-! MODEL: the four slots, the new table, the gap (laid by gen_model2.py) -/
theorem hin_X2_moveSome_X2 : ∀ w ∈ wsX20, w ∈ wsX2_moveSome := by decide +kernel
theorem hin_X2_become_X2 : ∀ w ∈ wsX20, w ∈ wsX2_become := by decide +kernel
theorem hin_X2_settle_X2 : ∀ w ∈ wsX20, w ∈ wsX2_settle := by decide +kernel
theorem hin_X2_free_X2 : ∀ w ∈ wsX20, w ∈ wsX2_free := by decide +kernel
set_option maxHeartbeats 4000000 in
set_option maxRecDepth 100000 in
theorem lp_X2_moveSome {p : Program} {l : Launch} {e : Env} {s : State} {m : MethodId} {args : Array Value} {below : List Frame} {meth : Method} {c : Code} {Q : State → Prop} {dC : Nat → ClassId} {dI : Nat → Nat → Nat} {cI : ClassId} {Aq : Nat → Prop} {H0 : Heap} (S0 : CallFix p m c cX2_moveSome 5 s args wsX2_moveSome RX2) (hK : va_K (dC, dI) vwCl [(cI, .int)] s) (hA : ∀ q : Nat, H0.size ≤ q → Aq q) (g0 gs gk gv gz L : Nat) (Zx : Nat → Int32) (x0 x7 x9 x11 : Int32) (ci cu nA nB RW : Nat) (RA RB : q_TB) (hci : ci < 2) (hzA : Zx ci = nI nA) (hzB : Zx (1 - ci) = nI nB) (hpA : q_pw nA) (hpB : q_pw nB) (hc4 : cu + 4 ≤ nB)
    (kk : ∀ (Sx Kx Vx : Nat → Int32) (_ : q_RT Sx Kx Vx ci RA) (_ : q_RT Sx Kx Vx (1 - ci) RB) (H : Heap) (locs : List Loc) (ls : Array Slot), va_P (dC, dI) vwCl [(g0, .inr (2, [.int x0, .int (nI L), .ref gs, .ref gk, .ref gv, .ref gz, .int (nI ci), .int x7, .int (nI (cu + 4)), .int x9, .int (nI RW), .int x11])), (gs, .inl (cI, 2048, .inl Sx)), (gk, .inl (cI, 2048, .inl Kx)), (gv, .inl (cI, 2048, .inl Vx)), (gz, .inl (cI, 2, .inl Zx))] H → va_D Aq [(g0, .inr (2, [.int x0, .int (nI L), .ref gs, .ref gk, .ref gv, .ref gz, .int (nI ci), .int x7, .int (nI (cu + 4)), .int x9, .int (nI RW), .int x11])), (gs, .inl (cI, 2048, .inl Sx)), (gk, .inl (cI, 2048, .inl Kx)), (gv, .inl (cI, 2048, .inl Vx)), (gz, .inl (cI, 2, .inl Zx))] → va_S Aq H0 H locs → lv_has ls 5 [(0, .ref g0), (1, .int (nI (1 - ci)))] → W p l e ({ frames := 2, cells := 0, slots := 0, locals := 47 }) s m args below meth c H locs 0 0 Q (F0 m 120 ls [])) :
    ∀ (f : Nat) (j w : Nat) (X Y : q_TB) (Sx Kx Vx : Nat → Int32), j + f = 4 ∧ q_MI X Y (cu + j) ∧ X.1 = nA ∧ Y.1 = nB ∧ q_RT Sx Kx Vx ci X ∧ q_RT Sx Kx Vx (1 - ci) Y ∧ (q_mvs f X Y (cu + j)).1 = RA ∧ (q_mvs f X Y (cu + j)).2.1 = RB ∧ w + (q_mvs f X Y (cu + j)).2.2 = RW → ∀ (H : Heap) (locs : List Loc) (ls : Array Slot), va_P (dC, dI) vwCl [(g0, .inr (2, [.int x0, .int (nI L), .ref gs, .ref gk, .ref gv, .ref gz, .int (nI ci), .int x7, .int (nI (cu + j)), .int x9, .int (nI w), .int x11])), (gs, .inl (cI, 2048, .inl Sx)), (gk, .inl (cI, 2048, .inl Kx)), (gv, .inl (cI, 2048, .inl Vx)), (gz, .inl (cI, 2, .inl Zx))] H → va_D Aq [(g0, .inr (2, [.int x0, .int (nI L), .ref gs, .ref gk, .ref gv, .ref gz, .int (nI ci), .int x7, .int (nI (cu + j)), .int x9, .int (nI w), .int x11])), (gs, .inl (cI, 2048, .inl Sx)), (gk, .inl (cI, 2048, .inl Kx)), (gv, .inl (cI, 2048, .inl Vx)), (gz, .inl (cI, 2, .inl Zx))] → va_S Aq H0 H locs → lv_has ls 5 [(0, .ref g0), (1, .int (nI (1 - ci))), (2, .int (nI j))] → W p l e ({ frames := 2, cells := 0, slots := 0, locals := 47 }) s m args below meth c H locs 0 0 Q (F0 m 9 ls []) := by
  obtain ⟨hx, hb, hml, hown, hts⟩ := id S0
  intro f
  induction f with
  | zero =>
    intro j w X Y Sx Kx Vx hi H locs ls hP hD hS hl
    obtain ⟨h1, h2, h3, h4, h5, h6, h7, h8, h9⟩ := hi
    have hA8 := q_pw_8 hpA
    have hB8 := q_pw_8 hpB
    refine lv_iload_n hx hb dX2_moveSome_9 rfl (lv_at hl 2 rfl) ?_
    refine lv_iconst (v := 4) hx hb dX2_moveSome_10 (by decide) ?_
    refine lv_icmp_ge (tgt := 120) hx hb dX2_moveSome_11 (by decide) (fun c_11 => ?_) (fun c_11 => ?_)
    · have h_11 := q_le_t (a := 4) (b := j) (by omega) (by omega) c_11
      have ej : j = 4 := by omega
      subst ej
      have e1 : X = RA := h7
      have e2 : Y = RB := h8
      have e3 : w = RW := h9
      subst e1
      subst e2
      subst e3
      exact kk Sx Kx Vx h5 h6 H locs ls hP hD hS (lv_sub hl [0, 1] rfl)
    · have h_11 := q_le_f (a := 4) (b := j) (by omega) (by omega) c_11
      omega
  | succ f ih =>
    intro j w X Y Sx Kx Vx hi H locs ls hP hD hS hl
    obtain ⟨h1, h2, h3, h4, h5, h6, h7, h8, h9⟩ := hi
    have hA8 := q_pw_8 hpA
    have hB8 := q_pw_8 hpB
    refine lv_iload_n hx hb dX2_moveSome_9 rfl (lv_at hl 2 rfl) ?_
    refine lv_iconst (v := 4) hx hb dX2_moveSome_10 (by decide) ?_
    refine lv_icmp_ge (tgt := 120) hx hb dX2_moveSome_11 (by decide) (fun c_11 => ?_) (fun c_11 => ?_)
    · have h_11 := q_le_t (a := 4) (b := j) (by omega) (by omega) c_11
      omega
    · have h_11 := q_le_f (a := 4) (b := j) (by omega) (by omega) c_11
      refine lv_aload_n hx hb dX2_moveSome_14 rfl (lv_at hl 0 rfl) ?_
      refine va_get (D := (dC, dI)) (ci := 2) (v := .int (nI (cu + j))) (C := RX2) (T := TX2) (N := 12) hx hb hts hin_X2_moveSome_X2 hown hK hP 0 rfl rfl 8 (by decide) (hts (.fieldLink RX2 46 "StepMapModel" "cursor" "I") (by decide +kernel)) (fun _ h9 => h9) rfl dX2_moveSome_15 ?_
      refine lv_aload_n hx hb dX2_moveSome_18 rfl (lv_at hl 0 rfl) ?_
      refine va_get (D := (dC, dI)) (ci := 2) (v := .ref gz) (C := RX2) (T := TX2) (N := 12) hx hb hts hin_X2_moveSome_X2 hown hK hP 0 rfl rfl 5 (by decide) (hts (.fieldLink RX2 19 "StepMapModel" "sizes" "[I") (by decide +kernel)) (fun _ h9 => h9) rfl dX2_moveSome_19 ?_
      refine lv_iload_n hx hb dX2_moveSome_22 rfl (lv_at hl 1 rfl) ?_
      refine r_ld (i := 1 - ci) hx hb hK hP 4 0 rfl rfl (by omega) (by omega) dX2_moveSome_23 ?_
      refine r_eq (z := nI nB) (hzB) ?_
      refine lv_icmp_ge (tgt := 120) hx hb dX2_moveSome_24 (by decide) (fun c_24 => ?_) (fun c_24 => ?_)
      · have h_24 := q_le_t (a := nB) (b := cu + j) (by omega) (by omega) c_24
        omega
      · have h_24 := q_le_f (a := nB) (b := cu + j) (by omega) (by omega) c_24
        refine lv_aload_n hx hb dX2_moveSome_27 rfl (lv_at hl 0 rfl) ?_
        refine lv_dup hx hb dX2_moveSome_28 rfl ?_
        refine va_get (D := (dC, dI)) (ci := 2) (v := .int (nI w)) (C := RX2) (T := TX2) (N := 12) hx hb hts hin_X2_moveSome_X2 hown hK hP 0 rfl rfl 10 (by decide) (hts (.fieldLink RX2 34 "StepMapModel" "visits" "I") (by decide +kernel)) (fun _ h9 => h9) rfl dX2_moveSome_29 ?_
        refine lv_iconst (v := 1) hx hb dX2_moveSome_32 (by decide) ?_
        refine lv_iadd hx hb dX2_moveSome_33 ?_
        refine r_eq (z := nI (w + 1)) (nI_add w 1) ?_
        refine va_put (D := (dC, dI)) (ci := 2) (v := .int (nI (w + 1))) (ty := .int) (C := RX2) (T := TX2) (N := 12) hx hb hts hin_X2_moveSome_X2 tyX2 tyX2_ok nmX2 hown hK hP hD hS 0 rfl rfl 10 (by decide) (hts (.fieldLink RX2 34 "StepMapModel" "visits" "I") (by decide +kernel)) (fun _ h9 => h9) rfl (by decide +kernel) (rfl) (rfl) (Nat.le_of_ble_eq_true rfl) dX2_moveSome_34 (fun H locs hP hD hS => ?_)
        have hP : va_P (dC, dI) vwCl [(g0, .inr (2, [.int x0, .int (nI L), .ref gs, .ref gk, .ref gv, .ref gz, .int (nI ci), .int x7, .int (nI (cu + j)), .int x9, .int (nI (w + 1)), .int x11])), (gs, .inl (cI, 2048, .inl Sx)), (gk, .inl (cI, 2048, .inl Kx)), (gv, .inl (cI, 2048, .inl Vx)), (gz, .inl (cI, 2, .inl Zx))] H := hP
        have hD : va_D Aq [(g0, .inr (2, [.int x0, .int (nI L), .ref gs, .ref gk, .ref gv, .ref gz, .int (nI ci), .int x7, .int (nI (cu + j)), .int x9, .int (nI (w + 1)), .int x11])), (gs, .inl (cI, 2048, .inl Sx)), (gk, .inl (cI, 2048, .inl Kx)), (gv, .inl (cI, 2048, .inl Vx)), (gz, .inl (cI, 2, .inl Zx))] := hD
        refine lv_aload_n hx hb dX2_moveSome_37 rfl (lv_at hl 0 rfl) ?_
        refine lv_iload_n hx hb dX2_moveSome_38 rfl (lv_at hl 1 rfl) ?_
        refine lv_aload_n hx hb dX2_moveSome_39 rfl (lv_at hl 0 rfl) ?_
        refine va_get (D := (dC, dI)) (ci := 2) (v := .int (nI (cu + j))) (C := RX2) (T := TX2) (N := 12) hx hb hts hin_X2_moveSome_X2 hown hK hP 0 rfl rfl 8 (by decide) (hts (.fieldLink RX2 46 "StepMapModel" "cursor" "I") (by decide +kernel)) (fun _ h9 => h9) rfl dX2_moveSome_40 ?_
        refine r_roV (rest := []) S0 (c_X2_at l dC dI cI g0 gs gk gv gz L Sx Kx Vx Zx x0 (nI ci) x7 (nI (cu + j)) x9 (nI (w + 1)) x11 (1 - ci) (cu + j)) (cwV 2 hts gX2_moveSome_X2_at rfl rfl rfl (by decide +kernel) ⟨Nat.le_of_ble_eq_true rfl, Nat.le_of_ble_eq_true rfl⟩) hK hP [0, 1, 2, 3, 4] rfl (ci := 2) (q0 := 0) rfl rfl rfl rfl hl.1 rfl (Nat.le_of_ble_eq_true rfl) dX2_moveSome_43 ⟨Nat.zero_le _, Nat.zero_le _⟩ ?_
        refine lv_istore_n (lv' := [(3, .int (nI (1024 * (1 - ci) + (cu + j)))), (0, .ref g0), (1, .int (nI (1 - ci))), (2, .int (nI j))]) hx hb dX2_moveSome_46 rfl hl (by decide) rfl (fun ls hl => ?_)
        refine lv_aload_n hx hb dX2_moveSome_47 rfl (lv_at hl 1 rfl) ?_
        refine va_get (D := (dC, dI)) (ci := 2) (v := .ref gs) (C := RX2) (T := TX2) (N := 12) hx hb hts hin_X2_moveSome_X2 hown hK hP 0 rfl rfl 2 (by decide) (hts (.fieldLink RX2 7 "StepMapModel" "states" "[I") (by decide +kernel)) (fun _ h9 => h9) rfl dX2_moveSome_48 ?_
        refine lv_iload_n hx hb dX2_moveSome_51 rfl (lv_at hl 0 rfl) ?_
        refine r_ld (i := 1024 * (1 - ci) + (cu + j)) hx hb hK hP 1 0 rfl rfl (by omega) (by omega) dX2_moveSome_52 ?_
        refine r_eq (z := q_sw (Y.2.1 (cu + j))) (q_RT_s h6 (by omega)) ?_
        refine lv_iconst (v := 1) hx hb dX2_moveSome_53 (by decide) ?_
        refine lv_icmp_ne (tgt := 104) hx hb dX2_moveSome_54 (by decide) (fun c_54 => ?_) (fun c_54 => ?_)
        · have n2 : ¬ Y.2.1 (cu + j) = 2 := fun z => c_54 (q_sw_1.mpr z)
          refine lv_aload_n hx hb dX2_moveSome_104 rfl (lv_at hl 1 rfl) ?_
          refine lv_dup hx hb dX2_moveSome_105 rfl ?_
          refine va_get (D := (dC, dI)) (ci := 2) (v := .int (nI (cu + j))) (C := RX2) (T := TX2) (N := 12) hx hb hts hin_X2_moveSome_X2 hown hK hP 0 rfl rfl 8 (by decide) (hts (.fieldLink RX2 46 "StepMapModel" "cursor" "I") (by decide +kernel)) (fun _ h9 => h9) rfl dX2_moveSome_106 ?_
          refine lv_iconst (v := 1) hx hb dX2_moveSome_109 (by decide) ?_
          refine lv_iadd hx hb dX2_moveSome_110 ?_
          refine r_eq (z := nI ((cu + j) + 1)) (nI_add (cu + j) 1) ?_
          refine va_put (D := (dC, dI)) (ci := 2) (v := .int (nI ((cu + j) + 1))) (ty := .int) (C := RX2) (T := TX2) (N := 12) hx hb hts hin_X2_moveSome_X2 tyX2 tyX2_ok nmX2 hown hK hP hD hS 0 rfl rfl 8 (by decide) (hts (.fieldLink RX2 46 "StepMapModel" "cursor" "I") (by decide +kernel)) (fun _ h9 => h9) rfl (by decide +kernel) (rfl) (rfl) (Nat.le_of_ble_eq_true rfl) dX2_moveSome_111 (fun H locs hP hD hS => ?_)
          have hP : va_P (dC, dI) vwCl [(g0, .inr (2, [.int x0, .int (nI L), .ref gs, .ref gk, .ref gv, .ref gz, .int (nI ci), .int x7, .int (nI ((cu + j) + 1)), .int x9, .int (nI (w + 1)), .int x11])), (gs, .inl (cI, 2048, .inl Sx)), (gk, .inl (cI, 2048, .inl Kx)), (gv, .inl (cI, 2048, .inl Vx)), (gz, .inl (cI, 2, .inl Zx))] H := hP
          have hD : va_D Aq [(g0, .inr (2, [.int x0, .int (nI L), .ref gs, .ref gk, .ref gv, .ref gz, .int (nI ci), .int x7, .int (nI ((cu + j) + 1)), .int x9, .int (nI (w + 1)), .int x11])), (gs, .inl (cI, 2048, .inl Sx)), (gk, .inl (cI, 2048, .inl Kx)), (gv, .inl (cI, 2048, .inl Vx)), (gz, .inl (cI, 2, .inl Zx))] := hD
          refine lv_iinc (v := nI (j + 1)) (lv' := [(2, .int (nI (j + 1))), (3, .int (nI (1024 * (1 - ci) + (cu + j)))), (0, .ref g0), (1, .int (nI (1 - ci)))]) hx hb dX2_moveSome_114 hl (k := 3) rfl (nI_1 _) (by decide) rfl (fun ls hl => ?_)
          refine lv_goto (tgt := 9) hx hb dX2_moveSome_117 (by decide) ?_
          have e_0_8 : nI ((cu + j) + 1) = nI (cu + (j + 1)) := congrArg nI (by omega)
          have hP : va_P (dC, dI) vwCl [(g0, .inr (2, [.int x0, .int (nI L), .ref gs, .ref gk, .ref gv, .ref gz, .int (nI ci), .int x7, .int (nI (cu + (j + 1))), .int x9, .int (nI (w + 1)), .int x11])), (gs, .inl (cI, 2048, .inl Sx)), (gk, .inl (cI, 2048, .inl Kx)), (gv, .inl (cI, 2048, .inl Vx)), (gz, .inl (cI, 2, .inl Zx))] H := by rw [← e_0_8]; exact hP
          have hD : va_D Aq [(g0, .inr (2, [.int x0, .int (nI L), .ref gs, .ref gk, .ref gv, .ref gz, .int (nI ci), .int x7, .int (nI (cu + (j + 1))), .int x9, .int (nI (w + 1)), .int x11])), (gs, .inl (cI, 2048, .inl Sx)), (gk, .inl (cI, 2048, .inl Kx)), (gv, .inl (cI, 2048, .inl Vx)), (gz, .inl (cI, 2, .inl Zx))] := by rw [← e_0_8]; exact hD
          have h7 : (q_mvs f X Y (cu + (j + 1))).1 = RA := by rw [q_mvs_0 n2] at h7; exact h7
          have h8 : (q_mvs f X Y (cu + (j + 1))).2.1 = RB := by rw [q_mvs_0 n2] at h8; exact h8
          have h9 : w + (1 + (q_mvs f X Y (cu + (j + 1))).2.2) = RW := by rw [q_mvs_0 n2] at h9; exact h9
          obtain ⟨b1, b2, b3, b4⟩ := q_mv_ok h2 (show cu + j < Y.1 by omega)
          rw [q_mv_0 n2] at b3
          exact ih (j + 1) (w + 1) X Y Sx Kx Vx ⟨by omega, b3, h3, h4, h5, h6, h7, h8, by omega⟩ H locs ls hP hD hS (lv_sub hl [2, 3, 0] rfl)
        · have m2 := q_sw_1.mp c_54
          have he := q_lkE_lt (t := X) (Y.2.2.1 (cu + j)) (by omega)
          refine lv_aload_n hx hb dX2_moveSome_57 rfl (lv_at hl 1 rfl) ?_
          refine lv_aload_n hx hb dX2_moveSome_58 rfl (lv_at hl 1 rfl) ?_
          refine va_get (D := (dC, dI)) (ci := 2) (v := .ref gk) (C := RX2) (T := TX2) (N := 12) hx hb hts hin_X2_moveSome_X2 hown hK hP 0 rfl rfl 3 (by decide) (hts (.fieldLink RX2 13 "StepMapModel" "keys" "[I") (by decide +kernel)) (fun _ h9 => h9) rfl dX2_moveSome_59 ?_
          refine lv_iload_n hx hb dX2_moveSome_62 rfl (lv_at hl 0 rfl) ?_
          refine r_ld (i := 1024 * (1 - ci) + (cu + j)) hx hb hK hP 2 0 rfl rfl (by omega) (by omega) dX2_moveSome_63 ?_
          refine r_eq (z := Y.2.2.1 (cu + j)) (q_RT_k h6 (by omega) m2) ?_
          refine lv_aload_n hx hb dX2_moveSome_64 rfl (lv_at hl 1 rfl) ?_
          refine va_get (D := (dC, dI)) (ci := 2) (v := .int (nI ci)) (C := RX2) (T := TX2) (N := 12) hx hb hts hin_X2_moveSome_X2 hown hK hP 0 rfl rfl 6 (by decide) (hts (.fieldLink RX2 43 "StepMapModel" "current" "I") (by decide +kernel)) (fun _ h9 => h9) rfl dX2_moveSome_65 ?_
          refine r_muI (wr := []) (rest := []) S0 (c_X2_look l dC dI cI g0 gs gk gv gz L Sx Kx Vx Zx x0 (nI ci) x7 (nI (cu + j)) x9 x11 (w + 1) ci X (Y.2.2.1 (cu + j)) H.size (by omega) (by rw [h3]; exact hzA) (by rw [h3]; exact hpA) h5 (q_MI_EM h2)) (cwV 2 hts gX2_moveSome_X2_look rfl rfl rfl (by decide +kernel) ⟨Nat.le_of_ble_eq_true rfl, Nat.le_of_ble_eq_true rfl⟩) hK hP hD hS hA [0, 1, 2, 3, 4] [] rfl rfl (by decide) (by decide) (by decide) (ci := 2) (q0 := 0) rfl rfl rfl rfl hl.1 rfl (Nat.le_of_ble_eq_true rfl) dX2_moveSome_68 ⟨Nat.zero_le _, Nat.zero_le _⟩ (fun r_68 _ H locs hu hP hD hS => ?_)
          have hP : va_P (dC, dI) vwCl [(g0, .inr (2, [.int x0, .int (nI L), .ref gs, .ref gk, .ref gv, .ref gz, .int (nI ci), .int x7, .int (nI (cu + j)), .int x9, .int (nI ((w + 1) + (q_lkD X (Y.2.2.1 (cu + j)) + 1))), .int x11])), (gs, .inl (cI, 2048, .inl Sx)), (gk, .inl (cI, 2048, .inl Kx)), (gv, .inl (cI, 2048, .inl Vx)), (gz, .inl (cI, 2, .inl Zx))] H := hP.sub [0, 1, 2, 3, 4] rfl
          have hD : va_D Aq [(g0, .inr (2, [.int x0, .int (nI L), .ref gs, .ref gk, .ref gv, .ref gz, .int (nI ci), .int x7, .int (nI (cu + j)), .int x9, .int (nI ((w + 1) + (q_lkD X (Y.2.2.1 (cu + j)) + 1))), .int x11])), (gs, .inl (cI, 2048, .inl Sx)), (gk, .inl (cI, 2048, .inl Kx)), (gv, .inl (cI, 2048, .inl Vx)), (gz, .inl (cI, 2, .inl Zx))] := hD.sub [0, 1, 2, 3, 4] (by decide) rfl
          have hu : r_68 = q_lkR X (Y.2.2.1 (cu + j)) := hu
          subst hu
          refine r_eq (z := -1 - nI (q_lkE X (Y.2.2.1 (cu + j)))) (q_lkR_f (q_MI_miss h2 (by omega) m2)) ?_
          refine lv_istore (lv' := [(4, .int (-1 - nI (q_lkE X (Y.2.2.1 (cu + j))))), (3, .int (nI (1024 * (1 - ci) + (cu + j)))), (0, .ref g0), (1, .int (nI (1 - ci))), (2, .int (nI j))]) hx hb dX2_moveSome_71 hl (by decide) rfl (fun ls hl => ?_)
          refine lv_aload_n hx hb dX2_moveSome_73 rfl (lv_at hl 2 rfl) ?_
          refine lv_aload_n hx hb dX2_moveSome_74 rfl (lv_at hl 2 rfl) ?_
          refine va_get (D := (dC, dI)) (ci := 2) (v := .int (nI ci)) (C := RX2) (T := TX2) (N := 12) hx hb hts hin_X2_moveSome_X2 hown hK hP 0 rfl rfl 6 (by decide) (hts (.fieldLink RX2 43 "StepMapModel" "current" "I") (by decide +kernel)) (fun _ h9 => h9) rfl dX2_moveSome_75 ?_
          refine lv_iconst (v := -1) hx hb dX2_moveSome_78 (by decide) ?_
          refine lv_iload hx hb dX2_moveSome_79 (lv_at hl 0 rfl) ?_
          refine lv_isub hx hb dX2_moveSome_81 ?_
          refine r_eq (z := nI (q_lkE X (Y.2.2.1 (cu + j)))) (q_neg1' _) ?_
          refine lv_aload_n hx hb dX2_moveSome_82 rfl (lv_at hl 2 rfl) ?_
          refine va_get (D := (dC, dI)) (ci := 2) (v := .ref gk) (C := RX2) (T := TX2) (N := 12) hx hb hts hin_X2_moveSome_X2 hown hK hP 0 rfl rfl 3 (by decide) (hts (.fieldLink RX2 13 "StepMapModel" "keys" "[I") (by decide +kernel)) (fun _ h9 => h9) rfl dX2_moveSome_83 ?_
          refine lv_iload_n hx hb dX2_moveSome_86 rfl (lv_at hl 1 rfl) ?_
          refine r_ld (i := 1024 * (1 - ci) + (cu + j)) hx hb hK hP 2 0 rfl rfl (by omega) (by omega) dX2_moveSome_87 ?_
          refine r_eq (z := Y.2.2.1 (cu + j)) (q_RT_k h6 (by omega) m2) ?_
          refine lv_aload_n hx hb dX2_moveSome_88 rfl (lv_at hl 2 rfl) ?_
          refine va_get (D := (dC, dI)) (ci := 2) (v := .ref gv) (C := RX2) (T := TX2) (N := 12) hx hb hts hin_X2_moveSome_X2 hown hK hP 0 rfl rfl 4 (by decide) (hts (.fieldLink RX2 16 "StepMapModel" "values" "[I") (by decide +kernel)) (fun _ h9 => h9) rfl dX2_moveSome_89 ?_
          refine lv_iload_n hx hb dX2_moveSome_92 rfl (lv_at hl 1 rfl) ?_
          refine r_ld (i := 1024 * (1 - ci) + (cu + j)) hx hb hK hP 3 0 rfl rfl (by omega) (by omega) dX2_moveSome_93 ?_
          refine r_eq (z := Y.2.2.2 (cu + j)) (q_RT_v h6 (by omega) m2) ?_
          refine r_muV (wr := []) (rest := []) S0 (c_X2_lay l dC dI cI g0 gs gk gv gz L Sx Kx Vx Zx x0 (nI ci) x7 (nI (cu + j)) x9 (nI ((w + 1) + (q_lkD X (Y.2.2.1 (cu + j)) + 1))) x11 ci (q_lkE X (Y.2.2.1 (cu + j))) (Y.2.2.1 (cu + j)) (Y.2.2.2 (cu + j)) H.size (by omega)) (cwV 4 hts gX2_moveSome_X2_lay rfl rfl rfl (by decide +kernel) ⟨Nat.le_of_ble_eq_true rfl, Nat.le_of_ble_eq_true rfl⟩) hK hP hD hS hA [0, 1, 2, 3, 4] [] rfl rfl (by decide) (by decide) (by decide) (ci := 2) (q0 := 0) rfl rfl rfl rfl hl.1 rfl (Nat.le_of_ble_eq_true rfl) dX2_moveSome_94 ⟨Nat.zero_le _, Nat.zero_le _⟩ (fun _ H locs hu hP hD hS => ?_)
          have hP : va_P (dC, dI) vwCl [(g0, .inr (2, [.int x0, .int (nI L), .ref gs, .ref gk, .ref gv, .ref gz, .int (nI ci), .int x7, .int (nI (cu + j)), .int x9, .int (nI ((w + 1) + (q_lkD X (Y.2.2.1 (cu + j)) + 1))), .int x11])), (gs, .inl (cI, 2048, .inl (upd Sx (1024 * ci + (q_lkE X (Y.2.2.1 (cu + j)))) 1))), (gk, .inl (cI, 2048, .inl (upd Kx (1024 * ci + (q_lkE X (Y.2.2.1 (cu + j)))) (Y.2.2.1 (cu + j))))), (gv, .inl (cI, 2048, .inl (upd Vx (1024 * ci + (q_lkE X (Y.2.2.1 (cu + j)))) (Y.2.2.2 (cu + j))))), (gz, .inl (cI, 2, .inl Zx))] H := hP.sub [0, 1, 2, 3, 4] rfl
          have hD : va_D Aq [(g0, .inr (2, [.int x0, .int (nI L), .ref gs, .ref gk, .ref gv, .ref gz, .int (nI ci), .int x7, .int (nI (cu + j)), .int x9, .int (nI ((w + 1) + (q_lkD X (Y.2.2.1 (cu + j)) + 1))), .int x11])), (gs, .inl (cI, 2048, .inl (upd Sx (1024 * ci + (q_lkE X (Y.2.2.1 (cu + j)))) 1))), (gk, .inl (cI, 2048, .inl (upd Kx (1024 * ci + (q_lkE X (Y.2.2.1 (cu + j)))) (Y.2.2.1 (cu + j))))), (gv, .inl (cI, 2048, .inl (upd Vx (1024 * ci + (q_lkE X (Y.2.2.1 (cu + j)))) (Y.2.2.2 (cu + j))))), (gz, .inl (cI, 2, .inl Zx))] := hD.sub [0, 1, 2, 3, 4] (by decide) rfl
          refine lv_aload_n hx hb dX2_moveSome_97 rfl (lv_at hl 2 rfl) ?_
          refine va_get (D := (dC, dI)) (ci := 2) (v := .ref gs) (C := RX2) (T := TX2) (N := 12) hx hb hts hin_X2_moveSome_X2 hown hK hP 0 rfl rfl 2 (by decide) (hts (.fieldLink RX2 7 "StepMapModel" "states" "[I") (by decide +kernel)) (fun _ h9 => h9) rfl dX2_moveSome_98 ?_
          refine lv_iload_n hx hb dX2_moveSome_101 rfl (lv_at hl 1 rfl) ?_
          refine lv_iconst (v := 2) hx hb dX2_moveSome_102 (by decide) ?_
          refine r_st (i := 1024 * (1 - ci) + (cu + j)) hx hb hK hP hD hS 1 0 rfl rfl (by omega) (by omega) dX2_moveSome_103 (fun H locs hP hD hS => ?_)
          have hP : va_P (dC, dI) vwCl [(g0, .inr (2, [.int x0, .int (nI L), .ref gs, .ref gk, .ref gv, .ref gz, .int (nI ci), .int x7, .int (nI (cu + j)), .int x9, .int (nI ((w + 1) + (q_lkD X (Y.2.2.1 (cu + j)) + 1))), .int x11])), (gs, .inl (cI, 2048, .inl (upd (upd Sx (1024 * ci + (q_lkE X (Y.2.2.1 (cu + j)))) 1) (1024 * (1 - ci) + (cu + j)) 2))), (gk, .inl (cI, 2048, .inl (upd Kx (1024 * ci + (q_lkE X (Y.2.2.1 (cu + j)))) (Y.2.2.1 (cu + j))))), (gv, .inl (cI, 2048, .inl (upd Vx (1024 * ci + (q_lkE X (Y.2.2.1 (cu + j)))) (Y.2.2.2 (cu + j))))), (gz, .inl (cI, 2, .inl Zx))] H := hP
          have hD : va_D Aq [(g0, .inr (2, [.int x0, .int (nI L), .ref gs, .ref gk, .ref gv, .ref gz, .int (nI ci), .int x7, .int (nI (cu + j)), .int x9, .int (nI ((w + 1) + (q_lkD X (Y.2.2.1 (cu + j)) + 1))), .int x11])), (gs, .inl (cI, 2048, .inl (upd (upd Sx (1024 * ci + (q_lkE X (Y.2.2.1 (cu + j)))) 1) (1024 * (1 - ci) + (cu + j)) 2))), (gk, .inl (cI, 2048, .inl (upd Kx (1024 * ci + (q_lkE X (Y.2.2.1 (cu + j)))) (Y.2.2.1 (cu + j))))), (gv, .inl (cI, 2048, .inl (upd Vx (1024 * ci + (q_lkE X (Y.2.2.1 (cu + j)))) (Y.2.2.2 (cu + j))))), (gz, .inl (cI, 2, .inl Zx))] := hD
          refine lv_aload_n hx hb dX2_moveSome_104 rfl (lv_at hl 2 rfl) ?_
          refine lv_dup hx hb dX2_moveSome_105 rfl ?_
          refine va_get (D := (dC, dI)) (ci := 2) (v := .int (nI (cu + j))) (C := RX2) (T := TX2) (N := 12) hx hb hts hin_X2_moveSome_X2 hown hK hP 0 rfl rfl 8 (by decide) (hts (.fieldLink RX2 46 "StepMapModel" "cursor" "I") (by decide +kernel)) (fun _ h9 => h9) rfl dX2_moveSome_106 ?_
          refine lv_iconst (v := 1) hx hb dX2_moveSome_109 (by decide) ?_
          refine lv_iadd hx hb dX2_moveSome_110 ?_
          refine r_eq (z := nI ((cu + j) + 1)) (nI_add (cu + j) 1) ?_
          refine va_put (D := (dC, dI)) (ci := 2) (v := .int (nI ((cu + j) + 1))) (ty := .int) (C := RX2) (T := TX2) (N := 12) hx hb hts hin_X2_moveSome_X2 tyX2 tyX2_ok nmX2 hown hK hP hD hS 0 rfl rfl 8 (by decide) (hts (.fieldLink RX2 46 "StepMapModel" "cursor" "I") (by decide +kernel)) (fun _ h9 => h9) rfl (by decide +kernel) (rfl) (rfl) (Nat.le_of_ble_eq_true rfl) dX2_moveSome_111 (fun H locs hP hD hS => ?_)
          have hP : va_P (dC, dI) vwCl [(g0, .inr (2, [.int x0, .int (nI L), .ref gs, .ref gk, .ref gv, .ref gz, .int (nI ci), .int x7, .int (nI ((cu + j) + 1)), .int x9, .int (nI ((w + 1) + (q_lkD X (Y.2.2.1 (cu + j)) + 1))), .int x11])), (gs, .inl (cI, 2048, .inl (upd (upd Sx (1024 * ci + (q_lkE X (Y.2.2.1 (cu + j)))) 1) (1024 * (1 - ci) + (cu + j)) 2))), (gk, .inl (cI, 2048, .inl (upd Kx (1024 * ci + (q_lkE X (Y.2.2.1 (cu + j)))) (Y.2.2.1 (cu + j))))), (gv, .inl (cI, 2048, .inl (upd Vx (1024 * ci + (q_lkE X (Y.2.2.1 (cu + j)))) (Y.2.2.2 (cu + j))))), (gz, .inl (cI, 2, .inl Zx))] H := hP
          have hD : va_D Aq [(g0, .inr (2, [.int x0, .int (nI L), .ref gs, .ref gk, .ref gv, .ref gz, .int (nI ci), .int x7, .int (nI ((cu + j) + 1)), .int x9, .int (nI ((w + 1) + (q_lkD X (Y.2.2.1 (cu + j)) + 1))), .int x11])), (gs, .inl (cI, 2048, .inl (upd (upd Sx (1024 * ci + (q_lkE X (Y.2.2.1 (cu + j)))) 1) (1024 * (1 - ci) + (cu + j)) 2))), (gk, .inl (cI, 2048, .inl (upd Kx (1024 * ci + (q_lkE X (Y.2.2.1 (cu + j)))) (Y.2.2.1 (cu + j))))), (gv, .inl (cI, 2048, .inl (upd Vx (1024 * ci + (q_lkE X (Y.2.2.1 (cu + j)))) (Y.2.2.2 (cu + j))))), (gz, .inl (cI, 2, .inl Zx))] := hD
          refine lv_iinc (v := nI (j + 1)) (lv' := [(2, .int (nI (j + 1))), (4, .int (-1 - nI (q_lkE X (Y.2.2.1 (cu + j))))), (3, .int (nI (1024 * (1 - ci) + (cu + j)))), (0, .ref g0), (1, .int (nI (1 - ci)))]) hx hb dX2_moveSome_114 hl (k := 4) rfl (nI_1 _) (by decide) rfl (fun ls hl => ?_)
          refine lv_goto (tgt := 9) hx hb dX2_moveSome_117 (by decide) ?_
          have e_0_8 : nI ((cu + j) + 1) = nI (cu + (j + 1)) := congrArg nI (by omega)
          have hP : va_P (dC, dI) vwCl [(g0, .inr (2, [.int x0, .int (nI L), .ref gs, .ref gk, .ref gv, .ref gz, .int (nI ci), .int x7, .int (nI (cu + (j + 1))), .int x9, .int (nI ((w + 1) + (q_lkD X (Y.2.2.1 (cu + j)) + 1))), .int x11])), (gs, .inl (cI, 2048, .inl (upd (upd Sx (1024 * ci + (q_lkE X (Y.2.2.1 (cu + j)))) 1) (1024 * (1 - ci) + (cu + j)) 2))), (gk, .inl (cI, 2048, .inl (upd Kx (1024 * ci + (q_lkE X (Y.2.2.1 (cu + j)))) (Y.2.2.1 (cu + j))))), (gv, .inl (cI, 2048, .inl (upd Vx (1024 * ci + (q_lkE X (Y.2.2.1 (cu + j)))) (Y.2.2.2 (cu + j))))), (gz, .inl (cI, 2, .inl Zx))] H := by rw [← e_0_8]; exact hP
          have hD : va_D Aq [(g0, .inr (2, [.int x0, .int (nI L), .ref gs, .ref gk, .ref gv, .ref gz, .int (nI ci), .int x7, .int (nI (cu + (j + 1))), .int x9, .int (nI ((w + 1) + (q_lkD X (Y.2.2.1 (cu + j)) + 1))), .int x11])), (gs, .inl (cI, 2048, .inl (upd (upd Sx (1024 * ci + (q_lkE X (Y.2.2.1 (cu + j)))) 1) (1024 * (1 - ci) + (cu + j)) 2))), (gk, .inl (cI, 2048, .inl (upd Kx (1024 * ci + (q_lkE X (Y.2.2.1 (cu + j)))) (Y.2.2.1 (cu + j))))), (gv, .inl (cI, 2048, .inl (upd Vx (1024 * ci + (q_lkE X (Y.2.2.1 (cu + j)))) (Y.2.2.2 (cu + j))))), (gz, .inl (cI, 2, .inl Zx))] := by rw [← e_0_8]; exact hD
          have h7 : (q_mvs f (q_fl X (q_lkE X (Y.2.2.1 (cu + j))) (Y.2.2.1 (cu + j)) (Y.2.2.2 (cu + j))) (q_tk Y (cu + j)) (cu + (j + 1))).1 = RA := by rw [q_mvs_1 m2] at h7; exact h7
          have h8 : (q_mvs f (q_fl X (q_lkE X (Y.2.2.1 (cu + j))) (Y.2.2.1 (cu + j)) (Y.2.2.2 (cu + j))) (q_tk Y (cu + j)) (cu + (j + 1))).2.1 = RB := by rw [q_mvs_1 m2] at h8; exact h8
          have h9 : w + (q_lkD X (Y.2.2.1 (cu + j)) + 2 + (q_mvs f (q_fl X (q_lkE X (Y.2.2.1 (cu + j))) (Y.2.2.1 (cu + j)) (Y.2.2.2 (cu + j))) (q_tk Y (cu + j)) (cu + (j + 1))).2.2) = RW := by rw [q_mvs_1 m2] at h9; exact h9
          obtain ⟨b1, b2, b3, b4⟩ := q_mv_ok h2 (show cu + j < Y.1 by omega)
          rw [q_mv_1 m2] at b3
          have g5 := q_RT_oS (p := 1024 * (1 - ci) + (cu + j)) (x := 2) (q_RT_fl (e := q_lkE X (Y.2.2.1 (cu + j))) (k := Y.2.2.1 (cu + j)) (v := Y.2.2.2 (cu + j)) h5) (fun i hi => by have hi : i < X.1 := hi; omega)
          have g6 := q_RT_tk (e := cu + j) (q_RT_o (p := 1024 * ci + q_lkE X (Y.2.2.1 (cu + j))) (x := 1) (y := Y.2.2.1 (cu + j)) (z := Y.2.2.2 (cu + j)) h6 (fun i hi => by omega))
          exact ih (j + 1) (w + 1 + (q_lkD X (Y.2.2.1 (cu + j)) + 1)) (q_fl X (q_lkE X (Y.2.2.1 (cu + j))) (Y.2.2.1 (cu + j)) (Y.2.2.2 (cu + j))) (q_tk Y (cu + j)) (upd (upd Sx (1024 * ci + (q_lkE X (Y.2.2.1 (cu + j)))) 1) (1024 * (1 - ci) + (cu + j)) 2) (upd Kx (1024 * ci + (q_lkE X (Y.2.2.1 (cu + j)))) (Y.2.2.1 (cu + j))) (upd Vx (1024 * ci + (q_lkE X (Y.2.2.1 (cu + j)))) (Y.2.2.2 (cu + j))) ⟨by omega, b3, h3, h4, g5, g6, h7, h8, by omega⟩ H locs ls hP hD hS (lv_sub hl [3, 4, 0] rfl)
set_option maxHeartbeats 4000000 in
set_option maxRecDepth 100000 in
theorem c_X2_moveSome (l : Launch) (dC : Nat → ClassId) (dI : Nat → Nat → Nat) (cI : ClassId) (g0 gs gk gv gz L : Nat) (Sx Kx Vx Zx : Nat → Int32) (x0 x7 x9 x11 : Int32) (ci vi cu : Nat) (A B : q_TB) (sz : Nat) (hci : ci < 2) (hzA : Zx ci = nI A.1) (hzB : Zx (1 - ci) = nI B.1) (hpA : q_pw A.1) (hpB : q_pw B.1) (hM : q_MI A B cu) (hc4 : cu + 4 ≤ B.1) (hRTA : q_RT Sx Kx Vx ci A) (hRTB : q_RT Sx Kx Vx (1 - ci) B) : Met l yX2_moveSome wsX2_moveSome ({ frames := 2, cells := 0, slots := 0, locals := 47 }) (r_Mc (dC, dI) vwCl [(cI, .int)] [(g0, .inr (2, [.int x0, .int (nI L), .ref gs, .ref gk, .ref gv, .ref gz, .int (nI ci), .int x7, .int (nI cu), .int x9, .int (nI vi), .int x11])), (gs, .inl (cI, 2048, .inl Sx)), (gk, .inl (cI, 2048, .inl Kx)), (gv, .inl (cI, 2048, .inl Vx)), (gz, .inl (cI, 2, .inl Zx))] sz [.ref g0]) (va_Qv (fun (u : q_A3) => q_RT u.1 u.2.1 u.2.2 ci (q_mvs 4 A B cu).1 ∧ q_RT u.1 u.2.1 u.2.2 (1 - ci) (q_mvs 4 A B cu).2.1) (fun u t => r_B (dC, dI) vwCl [(cI, .int)] (va_A [(g0, .inr (2, [.int x0, .int (nI L), .ref gs, .ref gk, .ref gv, .ref gz, .int (nI ci), .int x7, .int (nI cu), .int x9, .int (nI vi), .int x11])), (gs, .inl (cI, 2048, .inl Sx)), (gk, .inl (cI, 2048, .inl Kx)), (gv, .inl (cI, 2048, .inl Vx)), (gz, .inl (cI, 2, .inl Zx))] sz) ((fun u => [(g0, .inr (2, [.int x0, .int (nI L), .ref gs, .ref gk, .ref gv, .ref gz, .int (nI ci), .int (q_b (cu + 4 < B.1)), .int (nI (cu + 4)), .int x9, .int (nI (vi + (q_mvs 4 A B cu).2.2)), .int x11])), (gs, .inl (cI, 2048, .inl u.1)), (gk, .inl (cI, 2048, .inl u.2.1)), (gv, .inl (cI, 2048, .inl u.2.2)), (gz, .inl (cI, 2, .inl Zx))]) u) t) (va_A [(g0, .inr (2, [.int x0, .int (nI L), .ref gs, .ref gk, .ref gv, .ref gz, .int (nI ci), .int x7, .int (nI cu), .int x9, .int (nI vi), .int x11])), (gs, .inl (cI, 2048, .inl Sx)), (gk, .inl (cI, 2048, .inl Kx)), (gv, .inl (cI, 2048, .inl Vx)), (gz, .inl (cI, 2, .inl Zx))] sz)) 0 0 (va_A [(g0, .inr (2, [.int x0, .int (nI L), .ref gs, .ref gk, .ref gv, .ref gz, .int (nI ci), .int x7, .int (nI cu), .int x9, .int (nI vi), .int x11])), (gs, .inl (cI, 2048, .inl Sx)), (gk, .inl (cI, 2048, .inl Kx)), (gv, .inl (cI, 2048, .inl Vx)), (gz, .inl (cI, 2, .inl Zx))] sz) := by
  refine Met.ofW (cc := cX2_moveSome) (maxL := 5) (ret := none) (by decide) rfl ?_
  intro p e s m args below meth c s₁ Bd hml hv
  obtain ⟨rfl, hsz, hP, hK, hD0⟩ := hv
  have hx := Bd.exec
  have hb := Bd.bytes
  have hr := Bd.returns
  have hts := atoms_spec (ws := wsX2_moveSome) Bd.pre
  have hown : s.vm.findClass RX2 = some m.cls := findClass_of_methodNamed Bd.named
  have hlocks := Bd.notSynchronized
  have S0 : CallFix p m c cX2_moveSome 5 s _ wsX2_moveSome RX2 := ⟨hx, hb, hml, hown, hts⟩
  subst hsz
  have hD := hD0.self (sz := s.heap.size)
  generalize hAe : va_A [(g0, .inr (2, [.int x0, .int (nI L), .ref gs, .ref gk, .ref gv, .ref gz, .int (nI ci), .int x7, .int (nI cu), .int x9, .int (nI vi), .int x11])), (gs, .inl (cI, 2048, .inl Sx)), (gk, .inl (cI, 2048, .inl Kx)), (gv, .inl (cI, 2048, .inl Vx)), (gz, .inl (cI, 2, .inl Zx))] s.heap.size = Aq at hD ⊢
  have hA : ∀ q : Nat, s.heap.size ≤ q → Aq q := fun q h => by rw [← hAe]; exact Or.inr h
  have hS : va_S Aq s.heap s.heap [] := va_S.rf
  have hD : va_D Aq [(g0, .inr (2, [.int x0, .int (nI L), .ref gs, .ref gk, .ref gv, .ref gz, .int (nI ci), .int x7, .int (nI cu), .int x9, .int (nI vi), .int x11])), (gs, .inl (cI, 2048, .inl Sx)), (gk, .inl (cI, 2048, .inl Kx)), (gv, .inl (cI, 2048, .inl Vx)), (gz, .inl (cI, 2, .inl Zx))] := hD
  have hP : va_P (dC, dI) vwCl [(g0, .inr (2, [.int x0, .int (nI L), .ref gs, .ref gk, .ref gv, .ref gz, .int (nI ci), .int x7, .int (nI cu), .int x9, .int (nI vi), .int x11])), (gs, .inl (cI, 2048, .inl Sx)), (gk, .inl (cI, 2048, .inl Kx)), (gv, .inl (cI, 2048, .inl Vx)), (gz, .inl (cI, 2, .inl Zx))] s.heap := hP
  have hl := lv_entry ([.ref g0]) (n := 5) (Nat.le_of_ble_eq_true rfl)
  rw [lg_entry_eq]
  generalize (lg_sl ([.ref g0]) ++ List.replicate (5 - (lg_sl ([.ref g0])).length) Slot.unset).toArray = ls at hl ⊢
  have hl : lv_has ls 5 [(0, .ref g0)] := hl
  have hA8 := q_pw_8 hpA
  have hB8 := q_pw_8 hpB
  refine lv_iconst (v := 1) hx hb dX2_moveSome_0 (by decide) ?_
  refine lv_aload_n hx hb dX2_moveSome_1 rfl (lv_at hl 0 rfl) ?_
  refine va_get (D := (dC, dI)) (ci := 2) (v := .int (nI ci)) (C := RX2) (T := TX2) (N := 12) hx hb hts hin_X2_moveSome_X2 hown hK hP 0 rfl rfl 6 (by decide) (hts (.fieldLink RX2 43 "StepMapModel" "current" "I") (by decide +kernel)) (fun _ h9 => h9) rfl dX2_moveSome_2 ?_
  refine lv_isub hx hb dX2_moveSome_5 ?_
  refine r_eq (z := nI (1 - ci)) (pk_sub (a := 1) (by omega)) ?_
  refine lv_istore_n (lv' := [(1, .int (nI (1 - ci))), (0, .ref g0)]) hx hb dX2_moveSome_6 rfl hl (by decide) rfl (fun ls hl => ?_)
  refine lv_iconst (v := 0) hx hb dX2_moveSome_7 (by decide) ?_
  refine lv_istore_n (lv' := [(2, .int 0), (1, .int (nI (1 - ci))), (0, .ref g0)]) hx hb dX2_moveSome_8 rfl hl (by decide) rfl (fun ls hl => ?_)
  obtain ⟨RA, hRA⟩ : ∃ z, (q_mvs 4 A B cu).1 = z := ⟨_, rfl⟩
  obtain ⟨RB, hRB⟩ : ∃ z, (q_mvs 4 A B cu).2.1 = z := ⟨_, rfl⟩
  obtain ⟨RW, hRW⟩ : ∃ z, vi + (q_mvs 4 A B cu).2.2 = z := ⟨_, rfl⟩
  refine lp_X2_moveSome S0 hK hA g0 gs gk gv gz L Zx x0 x7 x9 x11 ci cu A.1 B.1 RW RA RB hci hzA hzB hpA hpB hc4 (fun Sy Ky Vy g5 g6 H locs ls hP hD hS hl => ?_) 4 0 vi A B Sx Kx Vx ⟨rfl, hM, rfl, rfl, hRTA, hRTB, hRA, hRB, hRW⟩ s.heap [] ls hP hD hS (lv_sub hl [2, 1, 0] rfl)
  refine lv_aload_n hx hb dX2_moveSome_120 rfl (lv_at hl 0 rfl) ?_
  refine lv_aload_n hx hb dX2_moveSome_121 rfl (lv_at hl 0 rfl) ?_
  refine va_get (D := (dC, dI)) (ci := 2) (v := .int (nI (cu + 4))) (C := RX2) (T := TX2) (N := 12) hx hb hts hin_X2_moveSome_X2 hown hK hP 0 rfl rfl 8 (by decide) (hts (.fieldLink RX2 46 "StepMapModel" "cursor" "I") (by decide +kernel)) (fun _ h9 => h9) rfl dX2_moveSome_122 ?_
  refine lv_aload_n hx hb dX2_moveSome_125 rfl (lv_at hl 0 rfl) ?_
  refine va_get (D := (dC, dI)) (ci := 2) (v := .ref gz) (C := RX2) (T := TX2) (N := 12) hx hb hts hin_X2_moveSome_X2 hown hK hP 0 rfl rfl 5 (by decide) (hts (.fieldLink RX2 19 "StepMapModel" "sizes" "[I") (by decide +kernel)) (fun _ h9 => h9) rfl dX2_moveSome_126 ?_
  refine lv_iload_n hx hb dX2_moveSome_129 rfl (lv_at hl 1 rfl) ?_
  refine r_ld (i := 1 - ci) hx hb hK hP 4 0 rfl rfl (by omega) (by omega) dX2_moveSome_130 ?_
  refine r_eq (z := nI B.1) (hzB) ?_
  refine lv_icmp_ge (tgt := 138) hx hb dX2_moveSome_131 (by decide) (fun c_131 => ?_) (fun c_131 => ?_)
  · have h_131 := q_le_t (a := B.1) (b := cu + 4) (by omega) (by omega) c_131
    refine lv_iconst (v := 0) hx hb dX2_moveSome_138 (by decide) ?_
    refine va_put (D := (dC, dI)) (ci := 2) (v := .int 0) (ty := .boolean) (C := RX2) (T := TX2) (N := 12) hx hb hts hin_X2_moveSome_X2 tyX2 tyX2_ok nmX2 hown hK hP hD hS 0 rfl rfl 7 (by decide) (hts (.fieldLink RX2 56 "StepMapModel" "moving" "Z") (by decide +kernel)) (fun _ h9 => h9) rfl (by decide +kernel) (rfl) (rfl) (Nat.le_of_ble_eq_true rfl) dX2_moveSome_139 (fun H locs hP hD hS => ?_)
    have hP : va_P (dC, dI) vwCl [(g0, .inr (2, [.int x0, .int (nI L), .ref gs, .ref gk, .ref gv, .ref gz, .int (nI ci), .int 0, .int (nI (cu + 4)), .int x9, .int (nI RW), .int x11])), (gs, .inl (cI, 2048, .inl Sy)), (gk, .inl (cI, 2048, .inl Ky)), (gv, .inl (cI, 2048, .inl Vy)), (gz, .inl (cI, 2, .inl Zx))] H := hP
    have hD : va_D Aq [(g0, .inr (2, [.int x0, .int (nI L), .ref gs, .ref gk, .ref gv, .ref gz, .int (nI ci), .int 0, .int (nI (cu + 4)), .int x9, .int (nI RW), .int x11])), (gs, .inl (cI, 2048, .inl Sy)), (gk, .inl (cI, 2048, .inl Ky)), (gv, .inl (cI, 2048, .inl Vy)), (gz, .inl (cI, 2, .inl Zx))] := hD
    have e_0_7 : 0 = q_b (cu + 4 < B.1) := (q_b_f (by omega)).symm
    have hP : va_P (dC, dI) vwCl [(g0, .inr (2, [.int x0, .int (nI L), .ref gs, .ref gk, .ref gv, .ref gz, .int (nI ci), .int (q_b (cu + 4 < B.1)), .int (nI (cu + 4)), .int x9, .int (nI RW), .int x11])), (gs, .inl (cI, 2048, .inl Sy)), (gk, .inl (cI, 2048, .inl Ky)), (gv, .inl (cI, 2048, .inl Vy)), (gz, .inl (cI, 2, .inl Zx))] H := by rw [← e_0_7]; exact hP
    have hD : va_D Aq [(g0, .inr (2, [.int x0, .int (nI L), .ref gs, .ref gk, .ref gv, .ref gz, .int (nI ci), .int (q_b (cu + 4 < B.1)), .int (nI (cu + 4)), .int x9, .int (nI RW), .int x11])), (gs, .inl (cI, 2048, .inl Sy)), (gk, .inl (cI, 2048, .inl Ky)), (gv, .inl (cI, 2048, .inl Vy)), (gz, .inl (cI, 2, .inl Zx))] := by rw [← e_0_7]; exact hD
    subst hRA
    subst hRB
    subst hRW
    exact W.vret hx hb hr (fun t ht hW => ⟨⟨(Sy, Ky, Vy), rfl, ⟨g5, g6⟩, by rw [ht]; exact hP, va_K.moved hW.alike hK, hD⟩, hS.F ht⟩) hS.2.2 dX2_moveSome_142
  · have h_131 := q_le_f (a := B.1) (b := cu + 4) (by omega) (by omega) c_131
    refine lv_iconst (v := 1) hx hb dX2_moveSome_134 (by decide) ?_
    refine lv_goto (tgt := 139) hx hb dX2_moveSome_135 (by decide) ?_
    refine va_put (D := (dC, dI)) (ci := 2) (v := .int 1) (ty := .boolean) (C := RX2) (T := TX2) (N := 12) hx hb hts hin_X2_moveSome_X2 tyX2 tyX2_ok nmX2 hown hK hP hD hS 0 rfl rfl 7 (by decide) (hts (.fieldLink RX2 56 "StepMapModel" "moving" "Z") (by decide +kernel)) (fun _ h9 => h9) rfl (by decide +kernel) (rfl) (rfl) (Nat.le_of_ble_eq_true rfl) dX2_moveSome_139 (fun H locs hP hD hS => ?_)
    have hP : va_P (dC, dI) vwCl [(g0, .inr (2, [.int x0, .int (nI L), .ref gs, .ref gk, .ref gv, .ref gz, .int (nI ci), .int 1, .int (nI (cu + 4)), .int x9, .int (nI RW), .int x11])), (gs, .inl (cI, 2048, .inl Sy)), (gk, .inl (cI, 2048, .inl Ky)), (gv, .inl (cI, 2048, .inl Vy)), (gz, .inl (cI, 2, .inl Zx))] H := hP
    have hD : va_D Aq [(g0, .inr (2, [.int x0, .int (nI L), .ref gs, .ref gk, .ref gv, .ref gz, .int (nI ci), .int 1, .int (nI (cu + 4)), .int x9, .int (nI RW), .int x11])), (gs, .inl (cI, 2048, .inl Sy)), (gk, .inl (cI, 2048, .inl Ky)), (gv, .inl (cI, 2048, .inl Vy)), (gz, .inl (cI, 2, .inl Zx))] := hD
    have e_0_7 : 1 = q_b (cu + 4 < B.1) := (q_b_t (by omega)).symm
    have hP : va_P (dC, dI) vwCl [(g0, .inr (2, [.int x0, .int (nI L), .ref gs, .ref gk, .ref gv, .ref gz, .int (nI ci), .int (q_b (cu + 4 < B.1)), .int (nI (cu + 4)), .int x9, .int (nI RW), .int x11])), (gs, .inl (cI, 2048, .inl Sy)), (gk, .inl (cI, 2048, .inl Ky)), (gv, .inl (cI, 2048, .inl Vy)), (gz, .inl (cI, 2, .inl Zx))] H := by rw [← e_0_7]; exact hP
    have hD : va_D Aq [(g0, .inr (2, [.int x0, .int (nI L), .ref gs, .ref gk, .ref gv, .ref gz, .int (nI ci), .int (q_b (cu + 4 < B.1)), .int (nI (cu + 4)), .int x9, .int (nI RW), .int x11])), (gs, .inl (cI, 2048, .inl Sy)), (gk, .inl (cI, 2048, .inl Ky)), (gv, .inl (cI, 2048, .inl Vy)), (gz, .inl (cI, 2, .inl Zx))] := by rw [← e_0_7]; exact hD
    subst hRA
    subst hRB
    subst hRW
    exact W.vret hx hb hr (fun t ht hW => ⟨⟨(Sy, Ky, Vy), rfl, ⟨g5, g6⟩, by rw [ht]; exact hP, va_K.moved hW.alike hK, hD⟩, hS.F ht⟩) hS.2.2 dX2_moveSome_142
set_option maxHeartbeats 4000000 in
set_option maxRecDepth 100000 in
theorem lp_X2_become {p : Program} {l : Launch} {e : Env} {s : State} {m : MethodId} {args : Array Value} {below : List Frame} {meth : Method} {c : Code} {Q : State → Prop} {dC : Nat → ClassId} {dI : Nat → Nat → Nat} {cI : ClassId} {Aq : Nat → Prop} {H0 : Heap} (S0 : CallFix p m c cX2_become 3 s args wsX2_become RX2) (hK : va_K (dC, dI) vwCl [(cI, .int)] s) (hA : ∀ q : Nat, H0.size ≤ q → Aq q) (g0 gs gk gv gz L : Nat) (Sx Kx Vx Zx : Nat → Int32) (x0 x7 x8 x9 x10 x11 : Int32) (ci q : Nat) (hci : ci < 2) (hq : q ≤ 1024)
    (kk : ∀ (H : Heap) (locs : List Loc) (ls : Array Slot), va_P (dC, dI) vwCl [(g0, .inr (2, [.int x0, .int (nI L), .ref gs, .ref gk, .ref gv, .ref gz, .int (nI (1 - ci)), .int x7, .int x8, .int x9, .int x10, .int x11])), (gs, .inl (cI, 2048, .inl (q_clr Sx (1024 * (1 - ci)) q))), (gk, .inl (cI, 2048, .inl Kx)), (gv, .inl (cI, 2048, .inl Vx)), (gz, .inl (cI, 2, .inl (upd Zx (1 - ci) (nI q))))] H → va_D Aq [(g0, .inr (2, [.int x0, .int (nI L), .ref gs, .ref gk, .ref gv, .ref gz, .int (nI (1 - ci)), .int x7, .int x8, .int x9, .int x10, .int x11])), (gs, .inl (cI, 2048, .inl (q_clr Sx (1024 * (1 - ci)) q))), (gk, .inl (cI, 2048, .inl Kx)), (gv, .inl (cI, 2048, .inl Vx)), (gz, .inl (cI, 2, .inl (upd Zx (1 - ci) (nI q))))] → va_S Aq H0 H locs → lv_has ls 3 [(0, .ref g0)] → W p l e ({ frames := 1, cells := 0, slots := 0, locals := 22 }) s m args below meth c H locs 0 0 Q (F0 m 48 ls [])) :
    ∀ (f : Nat) (i : Nat), i + f = q → ∀ (H : Heap) (locs : List Loc) (ls : Array Slot), va_P (dC, dI) vwCl [(g0, .inr (2, [.int x0, .int (nI L), .ref gs, .ref gk, .ref gv, .ref gz, .int (nI (1 - ci)), .int x7, .int x8, .int x9, .int x10, .int x11])), (gs, .inl (cI, 2048, .inl (q_clr Sx (1024 * (1 - ci)) i))), (gk, .inl (cI, 2048, .inl Kx)), (gv, .inl (cI, 2048, .inl Vx)), (gz, .inl (cI, 2, .inl (upd Zx (1 - ci) (nI q))))] H → va_D Aq [(g0, .inr (2, [.int x0, .int (nI L), .ref gs, .ref gk, .ref gv, .ref gz, .int (nI (1 - ci)), .int x7, .int x8, .int x9, .int x10, .int x11])), (gs, .inl (cI, 2048, .inl (q_clr Sx (1024 * (1 - ci)) i))), (gk, .inl (cI, 2048, .inl Kx)), (gv, .inl (cI, 2048, .inl Vx)), (gz, .inl (cI, 2, .inl (upd Zx (1 - ci) (nI q))))] → va_S Aq H0 H locs → lv_has ls 3 [(0, .ref g0), (1, .int (nI q)), (2, .int (nI i))] → W p l e ({ frames := 1, cells := 0, slots := 0, locals := 22 }) s m args below meth c H locs 0 0 Q (F0 m 22 ls []) := by
  obtain ⟨hx, hb, hml, hown, hts⟩ := id S0
  intro f
  induction f with
  | zero =>
    intro i hi H locs ls hP hD hS hl
    refine lv_iload_n hx hb dX2_become_22 rfl (lv_at hl 2 rfl) ?_
    refine lv_iload_n hx hb dX2_become_23 rfl (lv_at hl 1 rfl) ?_
    refine lv_icmp_ge (tgt := 48) hx hb dX2_become_24 (by decide) (fun c_24 => ?_) (fun c_24 => ?_)
    · have h_24 := q_le_t (a := q) (b := i) (by omega) (by omega) c_24
      have ei : i = q := by omega
      subst ei
      exact kk H locs ls hP hD hS (lv_sub hl [0] rfl)
    · have h_24 := q_le_f (a := q) (b := i) (by omega) (by omega) c_24
      omega
  | succ f ih =>
    intro i hi H locs ls hP hD hS hl
    refine lv_iload_n hx hb dX2_become_22 rfl (lv_at hl 2 rfl) ?_
    refine lv_iload_n hx hb dX2_become_23 rfl (lv_at hl 1 rfl) ?_
    refine lv_icmp_ge (tgt := 48) hx hb dX2_become_24 (by decide) (fun c_24 => ?_) (fun c_24 => ?_)
    · have h_24 := q_le_t (a := q) (b := i) (by omega) (by omega) c_24
      omega
    · have h_24 := q_le_f (a := q) (b := i) (by omega) (by omega) c_24
      refine lv_aload_n hx hb dX2_become_27 rfl (lv_at hl 0 rfl) ?_
      refine va_get (D := (dC, dI)) (ci := 2) (v := .ref gs) (C := RX2) (T := TX2) (N := 12) hx hb hts hin_X2_become_X2 hown hK hP 0 rfl rfl 2 (by decide) (hts (.fieldLink RX2 7 "StepMapModel" "states" "[I") (by decide +kernel)) (fun _ h9 => h9) rfl dX2_become_28 ?_
      refine lv_aload_n hx hb dX2_become_31 rfl (lv_at hl 0 rfl) ?_
      refine lv_aload_n hx hb dX2_become_32 rfl (lv_at hl 0 rfl) ?_
      refine va_get (D := (dC, dI)) (ci := 2) (v := .int (nI (1 - ci))) (C := RX2) (T := TX2) (N := 12) hx hb hts hin_X2_become_X2 hown hK hP 0 rfl rfl 6 (by decide) (hts (.fieldLink RX2 43 "StepMapModel" "current" "I") (by decide +kernel)) (fun _ h9 => h9) rfl dX2_become_33 ?_
      refine lv_iload_n hx hb dX2_become_36 rfl (lv_at hl 2 rfl) ?_
      refine r_roV (rest := [.ref gs]) S0 (c_X2_at l dC dI cI g0 gs gk gv gz L (q_clr Sx (1024 * (1 - ci)) i) Kx Vx (upd Zx (1 - ci) (nI q)) x0 (nI (1 - ci)) x7 x8 x9 x10 x11 (1 - ci) i) (cwV 2 hts gX2_become_X2_at rfl rfl rfl (by decide +kernel) ⟨Nat.le_of_ble_eq_true rfl, Nat.le_of_ble_eq_true rfl⟩) hK hP [0, 1, 2, 3, 4] rfl (ci := 2) (q0 := 0) rfl rfl rfl rfl hl.1 rfl (Nat.le_of_ble_eq_true rfl) dX2_become_37 ⟨Nat.zero_le _, Nat.zero_le _⟩ ?_
      refine lv_iconst (v := 0) hx hb dX2_become_40 (by decide) ?_
      refine r_st (i := 1024 * (1 - ci) + i) hx hb hK hP hD hS 1 0 rfl rfl (by omega) (by omega) dX2_become_41 (fun H locs hP hD hS => ?_)
      have hP : va_P (dC, dI) vwCl [(g0, .inr (2, [.int x0, .int (nI L), .ref gs, .ref gk, .ref gv, .ref gz, .int (nI (1 - ci)), .int x7, .int x8, .int x9, .int x10, .int x11])), (gs, .inl (cI, 2048, .inl (upd (q_clr Sx (1024 * (1 - ci)) i) (1024 * (1 - ci) + i) 0))), (gk, .inl (cI, 2048, .inl Kx)), (gv, .inl (cI, 2048, .inl Vx)), (gz, .inl (cI, 2, .inl (upd Zx (1 - ci) (nI q))))] H := hP
      have hD : va_D Aq [(g0, .inr (2, [.int x0, .int (nI L), .ref gs, .ref gk, .ref gv, .ref gz, .int (nI (1 - ci)), .int x7, .int x8, .int x9, .int x10, .int x11])), (gs, .inl (cI, 2048, .inl (upd (q_clr Sx (1024 * (1 - ci)) i) (1024 * (1 - ci) + i) 0))), (gk, .inl (cI, 2048, .inl Kx)), (gv, .inl (cI, 2048, .inl Vx)), (gz, .inl (cI, 2, .inl (upd Zx (1 - ci) (nI q))))] := hD
      refine lv_iinc (v := nI (i + 1)) (lv' := [(2, .int (nI (i + 1))), (0, .ref g0), (1, .int (nI q))]) hx hb dX2_become_42 hl (k := 2) rfl (nI_1 _) (by decide) rfl (fun ls hl => ?_)
      refine lv_goto (tgt := 22) hx hb dX2_become_45 (by decide) ?_
      have hP : va_P (dC, dI) vwCl [(g0, .inr (2, [.int x0, .int (nI L), .ref gs, .ref gk, .ref gv, .ref gz, .int (nI (1 - ci)), .int x7, .int x8, .int x9, .int x10, .int x11])), (gs, .inl (cI, 2048, .inl (q_clr Sx (1024 * (1 - ci)) (i + 1)))), (gk, .inl (cI, 2048, .inl Kx)), (gv, .inl (cI, 2048, .inl Vx)), (gz, .inl (cI, 2, .inl (upd Zx (1 - ci) (nI q))))] H := by rw [← q_clr_s]; exact hP
      have hD : va_D Aq [(g0, .inr (2, [.int x0, .int (nI L), .ref gs, .ref gk, .ref gv, .ref gz, .int (nI (1 - ci)), .int x7, .int x8, .int x9, .int x10, .int x11])), (gs, .inl (cI, 2048, .inl (q_clr Sx (1024 * (1 - ci)) (i + 1)))), (gk, .inl (cI, 2048, .inl Kx)), (gv, .inl (cI, 2048, .inl Vx)), (gz, .inl (cI, 2, .inl (upd Zx (1 - ci) (nI q))))] := by rw [← q_clr_s]; exact hD
      exact ih (i + 1) (by omega) H locs ls hP hD hS (lv_sub hl [1, 2, 0] rfl)
set_option maxHeartbeats 4000000 in
set_option maxRecDepth 100000 in
theorem c_X2_become (l : Launch) (dC : Nat → ClassId) (dI : Nat → Nat → Nat) (cI : ClassId) (g0 gs gk gv gz L : Nat) (Sx Kx Vx Zx : Nat → Int32) (x0 x7 x8 x9 x10 x11 : Int32) (ci q : Nat) (sz : Nat) (hci : ci < 2) (hq : q ≤ 1024) : Met l yX2_become wsX2_become ({ frames := 1, cells := 0, slots := 0, locals := 22 }) (r_Mc (dC, dI) vwCl [(cI, .int)] [(g0, .inr (2, [.int x0, .int (nI L), .ref gs, .ref gk, .ref gv, .ref gz, .int (nI ci), .int x7, .int x8, .int x9, .int x10, .int x11])), (gs, .inl (cI, 2048, .inl Sx)), (gk, .inl (cI, 2048, .inl Kx)), (gv, .inl (cI, 2048, .inl Vx)), (gz, .inl (cI, 2, .inl Zx))] sz [.ref g0, .int (nI q)]) (va_Qv (fun (_ : Unit) => True) (fun u t => r_B (dC, dI) vwCl [(cI, .int)] (va_A [(g0, .inr (2, [.int x0, .int (nI L), .ref gs, .ref gk, .ref gv, .ref gz, .int (nI ci), .int x7, .int x8, .int x9, .int x10, .int x11])), (gs, .inl (cI, 2048, .inl Sx)), (gk, .inl (cI, 2048, .inl Kx)), (gv, .inl (cI, 2048, .inl Vx)), (gz, .inl (cI, 2, .inl Zx))] sz) ((fun _ => [(g0, .inr (2, [.int x0, .int (nI L), .ref gs, .ref gk, .ref gv, .ref gz, .int (nI (1 - ci)), .int 1, .int (nI 0), .int x9, .int x10, .int x11])), (gs, .inl (cI, 2048, .inl (q_clr Sx (1024 * (1 - ci)) q))), (gk, .inl (cI, 2048, .inl Kx)), (gv, .inl (cI, 2048, .inl Vx)), (gz, .inl (cI, 2, .inl (upd Zx (1 - ci) (nI q))))]) u) t) (va_A [(g0, .inr (2, [.int x0, .int (nI L), .ref gs, .ref gk, .ref gv, .ref gz, .int (nI ci), .int x7, .int x8, .int x9, .int x10, .int x11])), (gs, .inl (cI, 2048, .inl Sx)), (gk, .inl (cI, 2048, .inl Kx)), (gv, .inl (cI, 2048, .inl Vx)), (gz, .inl (cI, 2, .inl Zx))] sz)) 0 0 (va_A [(g0, .inr (2, [.int x0, .int (nI L), .ref gs, .ref gk, .ref gv, .ref gz, .int (nI ci), .int x7, .int x8, .int x9, .int x10, .int x11])), (gs, .inl (cI, 2048, .inl Sx)), (gk, .inl (cI, 2048, .inl Kx)), (gv, .inl (cI, 2048, .inl Vx)), (gz, .inl (cI, 2, .inl Zx))] sz) := by
  refine Met.ofW (cc := cX2_become) (maxL := 3) (ret := none) (by decide) rfl ?_
  intro p e s m args below meth c s₁ Bd hml hv
  obtain ⟨rfl, hsz, hP, hK, hD0⟩ := hv
  have hx := Bd.exec
  have hb := Bd.bytes
  have hr := Bd.returns
  have hts := atoms_spec (ws := wsX2_become) Bd.pre
  have hown : s.vm.findClass RX2 = some m.cls := findClass_of_methodNamed Bd.named
  have hlocks := Bd.notSynchronized
  have S0 : CallFix p m c cX2_become 3 s _ wsX2_become RX2 := ⟨hx, hb, hml, hown, hts⟩
  subst hsz
  have hD := hD0.self (sz := s.heap.size)
  generalize hAe : va_A [(g0, .inr (2, [.int x0, .int (nI L), .ref gs, .ref gk, .ref gv, .ref gz, .int (nI ci), .int x7, .int x8, .int x9, .int x10, .int x11])), (gs, .inl (cI, 2048, .inl Sx)), (gk, .inl (cI, 2048, .inl Kx)), (gv, .inl (cI, 2048, .inl Vx)), (gz, .inl (cI, 2, .inl Zx))] s.heap.size = Aq at hD ⊢
  have hA : ∀ q : Nat, s.heap.size ≤ q → Aq q := fun q h => by rw [← hAe]; exact Or.inr h
  have hS : va_S Aq s.heap s.heap [] := va_S.rf
  have hD : va_D Aq [(g0, .inr (2, [.int x0, .int (nI L), .ref gs, .ref gk, .ref gv, .ref gz, .int (nI ci), .int x7, .int x8, .int x9, .int x10, .int x11])), (gs, .inl (cI, 2048, .inl Sx)), (gk, .inl (cI, 2048, .inl Kx)), (gv, .inl (cI, 2048, .inl Vx)), (gz, .inl (cI, 2, .inl Zx))] := hD
  have hP : va_P (dC, dI) vwCl [(g0, .inr (2, [.int x0, .int (nI L), .ref gs, .ref gk, .ref gv, .ref gz, .int (nI ci), .int x7, .int x8, .int x9, .int x10, .int x11])), (gs, .inl (cI, 2048, .inl Sx)), (gk, .inl (cI, 2048, .inl Kx)), (gv, .inl (cI, 2048, .inl Vx)), (gz, .inl (cI, 2, .inl Zx))] s.heap := hP
  have hl := lv_entry ([.ref g0, .int (nI q)]) (n := 3) (Nat.le_of_ble_eq_true rfl)
  rw [lg_entry_eq]
  generalize (lg_sl ([.ref g0, .int (nI q)]) ++ List.replicate (3 - (lg_sl ([.ref g0, .int (nI q)])).length) Slot.unset).toArray = ls at hl ⊢
  have hl : lv_has ls 3 [(0, .ref g0), (1, .int (nI q))] := hl
  refine lv_aload_n hx hb dX2_become_0 rfl (lv_at hl 0 rfl) ?_
  refine lv_iconst (v := 1) hx hb dX2_become_1 (by decide) ?_
  refine lv_aload_n hx hb dX2_become_2 rfl (lv_at hl 0 rfl) ?_
  refine va_get (D := (dC, dI)) (ci := 2) (v := .int (nI ci)) (C := RX2) (T := TX2) (N := 12) hx hb hts hin_X2_become_X2 hown hK hP 0 rfl rfl 6 (by decide) (hts (.fieldLink RX2 43 "StepMapModel" "current" "I") (by decide +kernel)) (fun _ h9 => h9) rfl dX2_become_3 ?_
  refine lv_isub hx hb dX2_become_6 ?_
  refine r_eq (z := nI (1 - ci)) (pk_sub (a := 1) (by omega)) ?_
  refine va_put (D := (dC, dI)) (ci := 2) (v := .int (nI (1 - ci))) (ty := .int) (C := RX2) (T := TX2) (N := 12) hx hb hts hin_X2_become_X2 tyX2 tyX2_ok nmX2 hown hK hP hD hS 0 rfl rfl 6 (by decide) (hts (.fieldLink RX2 43 "StepMapModel" "current" "I") (by decide +kernel)) (fun _ h9 => h9) rfl (by decide +kernel) (rfl) (rfl) (Nat.le_of_ble_eq_true rfl) dX2_become_7 (fun H locs hP hD hS => ?_)
  have hP : va_P (dC, dI) vwCl [(g0, .inr (2, [.int x0, .int (nI L), .ref gs, .ref gk, .ref gv, .ref gz, .int (nI (1 - ci)), .int x7, .int x8, .int x9, .int x10, .int x11])), (gs, .inl (cI, 2048, .inl Sx)), (gk, .inl (cI, 2048, .inl Kx)), (gv, .inl (cI, 2048, .inl Vx)), (gz, .inl (cI, 2, .inl Zx))] H := hP
  have hD : va_D Aq [(g0, .inr (2, [.int x0, .int (nI L), .ref gs, .ref gk, .ref gv, .ref gz, .int (nI (1 - ci)), .int x7, .int x8, .int x9, .int x10, .int x11])), (gs, .inl (cI, 2048, .inl Sx)), (gk, .inl (cI, 2048, .inl Kx)), (gv, .inl (cI, 2048, .inl Vx)), (gz, .inl (cI, 2, .inl Zx))] := hD
  refine lv_aload_n hx hb dX2_become_10 rfl (lv_at hl 0 rfl) ?_
  refine va_get (D := (dC, dI)) (ci := 2) (v := .ref gz) (C := RX2) (T := TX2) (N := 12) hx hb hts hin_X2_become_X2 hown hK hP 0 rfl rfl 5 (by decide) (hts (.fieldLink RX2 19 "StepMapModel" "sizes" "[I") (by decide +kernel)) (fun _ h9 => h9) rfl dX2_become_11 ?_
  refine lv_aload_n hx hb dX2_become_14 rfl (lv_at hl 0 rfl) ?_
  refine va_get (D := (dC, dI)) (ci := 2) (v := .int (nI (1 - ci))) (C := RX2) (T := TX2) (N := 12) hx hb hts hin_X2_become_X2 hown hK hP 0 rfl rfl 6 (by decide) (hts (.fieldLink RX2 43 "StepMapModel" "current" "I") (by decide +kernel)) (fun _ h9 => h9) rfl dX2_become_15 ?_
  refine lv_iload_n hx hb dX2_become_18 rfl (lv_at hl 1 rfl) ?_
  refine r_st (i := 1 - ci) hx hb hK hP hD hS 4 0 rfl rfl (by omega) (by omega) dX2_become_19 (fun H locs hP hD hS => ?_)
  have hP : va_P (dC, dI) vwCl [(g0, .inr (2, [.int x0, .int (nI L), .ref gs, .ref gk, .ref gv, .ref gz, .int (nI (1 - ci)), .int x7, .int x8, .int x9, .int x10, .int x11])), (gs, .inl (cI, 2048, .inl Sx)), (gk, .inl (cI, 2048, .inl Kx)), (gv, .inl (cI, 2048, .inl Vx)), (gz, .inl (cI, 2, .inl (upd Zx (1 - ci) (nI q))))] H := hP
  have hD : va_D Aq [(g0, .inr (2, [.int x0, .int (nI L), .ref gs, .ref gk, .ref gv, .ref gz, .int (nI (1 - ci)), .int x7, .int x8, .int x9, .int x10, .int x11])), (gs, .inl (cI, 2048, .inl Sx)), (gk, .inl (cI, 2048, .inl Kx)), (gv, .inl (cI, 2048, .inl Vx)), (gz, .inl (cI, 2, .inl (upd Zx (1 - ci) (nI q))))] := hD
  refine lv_iconst (v := 0) hx hb dX2_become_20 (by decide) ?_
  refine lv_istore_n (lv' := [(2, .int 0), (0, .ref g0), (1, .int (nI q))]) hx hb dX2_become_21 rfl hl (by decide) rfl (fun ls hl => ?_)
  have hP : va_P (dC, dI) vwCl [(g0, .inr (2, [.int x0, .int (nI L), .ref gs, .ref gk, .ref gv, .ref gz, .int (nI (1 - ci)), .int x7, .int x8, .int x9, .int x10, .int x11])), (gs, .inl (cI, 2048, .inl (q_clr Sx (1024 * (1 - ci)) 0))), (gk, .inl (cI, 2048, .inl Kx)), (gv, .inl (cI, 2048, .inl Vx)), (gz, .inl (cI, 2, .inl (upd Zx (1 - ci) (nI q))))] H := by rw [q_clr_0]; exact hP
  have hD : va_D Aq [(g0, .inr (2, [.int x0, .int (nI L), .ref gs, .ref gk, .ref gv, .ref gz, .int (nI (1 - ci)), .int x7, .int x8, .int x9, .int x10, .int x11])), (gs, .inl (cI, 2048, .inl (q_clr Sx (1024 * (1 - ci)) 0))), (gk, .inl (cI, 2048, .inl Kx)), (gv, .inl (cI, 2048, .inl Vx)), (gz, .inl (cI, 2, .inl (upd Zx (1 - ci) (nI q))))] := by rw [q_clr_0]; exact hD
  refine lp_X2_become S0 hK hA g0 gs gk gv gz L Sx Kx Vx Zx x0 x7 x8 x9 x10 x11 ci q hci hq (fun H locs ls hP hD hS hl => ?_) q 0 (by omega) H locs ls hP hD hS (lv_sub hl [1, 2, 0] rfl)
  refine lv_aload_n hx hb dX2_become_48 rfl (lv_at hl 0 rfl) ?_
  refine lv_iconst (v := 0) hx hb dX2_become_49 (by decide) ?_
  refine va_put (D := (dC, dI)) (ci := 2) (v := .int 0) (ty := .int) (C := RX2) (T := TX2) (N := 12) hx hb hts hin_X2_become_X2 tyX2 tyX2_ok nmX2 hown hK hP hD hS 0 rfl rfl 8 (by decide) (hts (.fieldLink RX2 46 "StepMapModel" "cursor" "I") (by decide +kernel)) (fun _ h9 => h9) rfl (by decide +kernel) (rfl) (rfl) (Nat.le_of_ble_eq_true rfl) dX2_become_50 (fun H locs hP hD hS => ?_)
  have hP : va_P (dC, dI) vwCl [(g0, .inr (2, [.int x0, .int (nI L), .ref gs, .ref gk, .ref gv, .ref gz, .int (nI (1 - ci)), .int x7, .int 0, .int x9, .int x10, .int x11])), (gs, .inl (cI, 2048, .inl (q_clr Sx (1024 * (1 - ci)) q))), (gk, .inl (cI, 2048, .inl Kx)), (gv, .inl (cI, 2048, .inl Vx)), (gz, .inl (cI, 2, .inl (upd Zx (1 - ci) (nI q))))] H := hP
  have hD : va_D Aq [(g0, .inr (2, [.int x0, .int (nI L), .ref gs, .ref gk, .ref gv, .ref gz, .int (nI (1 - ci)), .int x7, .int 0, .int x9, .int x10, .int x11])), (gs, .inl (cI, 2048, .inl (q_clr Sx (1024 * (1 - ci)) q))), (gk, .inl (cI, 2048, .inl Kx)), (gv, .inl (cI, 2048, .inl Vx)), (gz, .inl (cI, 2, .inl (upd Zx (1 - ci) (nI q))))] := hD
  refine lv_aload_n hx hb dX2_become_53 rfl (lv_at hl 0 rfl) ?_
  refine lv_iconst (v := 1) hx hb dX2_become_54 (by decide) ?_
  refine va_put (D := (dC, dI)) (ci := 2) (v := .int 1) (ty := .boolean) (C := RX2) (T := TX2) (N := 12) hx hb hts hin_X2_become_X2 tyX2 tyX2_ok nmX2 hown hK hP hD hS 0 rfl rfl 7 (by decide) (hts (.fieldLink RX2 56 "StepMapModel" "moving" "Z") (by decide +kernel)) (fun _ h9 => h9) rfl (by decide +kernel) (rfl) (rfl) (Nat.le_of_ble_eq_true rfl) dX2_become_55 (fun H locs hP hD hS => ?_)
  have hP : va_P (dC, dI) vwCl [(g0, .inr (2, [.int x0, .int (nI L), .ref gs, .ref gk, .ref gv, .ref gz, .int (nI (1 - ci)), .int 1, .int 0, .int x9, .int x10, .int x11])), (gs, .inl (cI, 2048, .inl (q_clr Sx (1024 * (1 - ci)) q))), (gk, .inl (cI, 2048, .inl Kx)), (gv, .inl (cI, 2048, .inl Vx)), (gz, .inl (cI, 2, .inl (upd Zx (1 - ci) (nI q))))] H := hP
  have hD : va_D Aq [(g0, .inr (2, [.int x0, .int (nI L), .ref gs, .ref gk, .ref gv, .ref gz, .int (nI (1 - ci)), .int 1, .int 0, .int x9, .int x10, .int x11])), (gs, .inl (cI, 2048, .inl (q_clr Sx (1024 * (1 - ci)) q))), (gk, .inl (cI, 2048, .inl Kx)), (gv, .inl (cI, 2048, .inl Vx)), (gz, .inl (cI, 2, .inl (upd Zx (1 - ci) (nI q))))] := hD
  have e_0_8 : 0 = nI 0 := nI_0.symm
  have hP : va_P (dC, dI) vwCl [(g0, .inr (2, [.int x0, .int (nI L), .ref gs, .ref gk, .ref gv, .ref gz, .int (nI (1 - ci)), .int 1, .int (nI 0), .int x9, .int x10, .int x11])), (gs, .inl (cI, 2048, .inl (q_clr Sx (1024 * (1 - ci)) q))), (gk, .inl (cI, 2048, .inl Kx)), (gv, .inl (cI, 2048, .inl Vx)), (gz, .inl (cI, 2, .inl (upd Zx (1 - ci) (nI q))))] H := by rw [← e_0_8]; exact hP
  have hD : va_D Aq [(g0, .inr (2, [.int x0, .int (nI L), .ref gs, .ref gk, .ref gv, .ref gz, .int (nI (1 - ci)), .int 1, .int (nI 0), .int x9, .int x10, .int x11])), (gs, .inl (cI, 2048, .inl (q_clr Sx (1024 * (1 - ci)) q))), (gk, .inl (cI, 2048, .inl Kx)), (gv, .inl (cI, 2048, .inl Vx)), (gz, .inl (cI, 2, .inl (upd Zx (1 - ci) (nI q))))] := by rw [← e_0_8]; exact hD
  exact W.vret hx hb hr (fun t ht hW => ⟨⟨(), rfl, trivial, by rw [ht]; exact hP, va_K.moved hW.alike hK, hD⟩, hS.F ht⟩) hS.2.2 dX2_become_58
set_option maxHeartbeats 4000000 in
set_option maxRecDepth 100000 in
theorem lp_X2_free {p : Program} {l : Launch} {e : Env} {s : State} {m : MethodId} {args : Array Value} {below : List Frame} {meth : Method} {c : Code} {Q : State → Prop} {dC : Nat → ClassId} {dI : Nat → Nat → Nat} {cI : ClassId} {Aq : Nat → Prop} {H0 : Heap} (S0 : CallFix p m c cX2_free 5 s args wsX2_free RX2) (hK : va_K (dC, dI) vwCl [(cI, .int)] s) (hA : ∀ q : Nat, H0.size ≤ q → Aq q) (g0 gs gk gv gz L : Nat) (Zx : Nat → Int32) (x0 x7 x8 x9 x11 : Int32) (ci n9 RW : Nat) (RT : q_TB) (S9 K9 V9 : Nat → Int32) (hci : ci < 2) (hz : Zx ci = nI n9) (hn : q_pw n9)
    (kk : ∀ (Sx Kx Vx : Nat → Int32) (fr : Nat) (_ : RT.1 = n9) (_ : fr < RT.1) (_ : RT.2.1 fr = 0) (_ : q_RF Sx Kx Vx S9 K9 V9 ci fr RT) (H : Heap) (locs : List Loc) (ls : Array Slot), va_P (dC, dI) vwCl [(g0, .inr (2, [.int x0, .int (nI L), .ref gs, .ref gk, .ref gv, .ref gz, .int (nI ci), .int x7, .int x8, .int x9, .int (nI RW), .int x11])), (gs, .inl (cI, 2048, .inl Sx)), (gk, .inl (cI, 2048, .inl Kx)), (gv, .inl (cI, 2048, .inl Vx)), (gz, .inl (cI, 2, .inl Zx))] H → va_D Aq [(g0, .inr (2, [.int x0, .int (nI L), .ref gs, .ref gk, .ref gv, .ref gz, .int (nI ci), .int x7, .int x8, .int x9, .int (nI RW), .int x11])), (gs, .inl (cI, 2048, .inl Sx)), (gk, .inl (cI, 2048, .inl Kx)), (gv, .inl (cI, 2048, .inl Vx)), (gz, .inl (cI, 2, .inl Zx))] → va_S Aq H0 H locs → lv_has ls 5 [(0, .ref g0), (2, .int (nI fr))] → W p l e ({ frames := 2, cells := 0, slots := 0, locals := 46 }) s m args below meth c H locs 0 0 Q (F0 m 149 ls [])) :
    ∀ (f : Nat) (fr i w : Nat) (X : q_TB) (Sx Kx Vx : Nat → Int32), X.1 = n9 ∧ (∃ d, d < f ∧ q_FI X fr i d) ∧ q_RF Sx Kx Vx S9 K9 V9 ci fr X ∧ (q_fz f X fr i).1 = RT ∧ w + (q_fz f X fr i).2 = RW → ∀ (H : Heap) (locs : List Loc) (ls : Array Slot), va_P (dC, dI) vwCl [(g0, .inr (2, [.int x0, .int (nI L), .ref gs, .ref gk, .ref gv, .ref gz, .int (nI ci), .int x7, .int x8, .int x9, .int (nI w), .int x11])), (gs, .inl (cI, 2048, .inl Sx)), (gk, .inl (cI, 2048, .inl Kx)), (gv, .inl (cI, 2048, .inl Vx)), (gz, .inl (cI, 2, .inl Zx))] H → va_D Aq [(g0, .inr (2, [.int x0, .int (nI L), .ref gs, .ref gk, .ref gv, .ref gz, .int (nI ci), .int x7, .int x8, .int x9, .int (nI w), .int x11])), (gs, .inl (cI, 2048, .inl Sx)), (gk, .inl (cI, 2048, .inl Kx)), (gv, .inl (cI, 2048, .inl Vx)), (gz, .inl (cI, 2, .inl Zx))] → va_S Aq H0 H locs → lv_has ls 5 [(0, .ref g0), (2, .int (nI fr)), (3, .int (nI i))] → W p l e ({ frames := 2, cells := 0, slots := 0, locals := 46 }) s m args below meth c H locs 0 0 Q (F0 m 22 ls []) := by
  obtain ⟨hx, hb, hml, hown, hts⟩ := id S0
  intro f
  induction f with
  | zero =>
    intro fr i w X Sx Kx Vx hi H locs ls hP hD hS hl
    obtain ⟨h1, ⟨d, hd, hFI⟩, hF, h4, h5⟩ := hi
    have hn8 := q_pw_8 hn
    exact absurd hd (Nat.not_lt_zero d)
  | succ f ih =>
    intro fr i w X Sx Kx Vx hi H locs ls hP hD hS hl
    obtain ⟨h1, ⟨d, hd, hFI⟩, hF, h4, h5⟩ := hi
    have hn8 := q_pw_8 hn
    have hfr : fr < X.1 := hFI.1
    have hix : i < X.1 := hFI.2.1
    have hne : i ≠ fr := fun z => hFI.2.2.1 z.symm
    have hzX : Zx ci = nI X.1 := by rw [h1]; exact hz
    have hnX : q_pw X.1 := by rw [h1]; exact hn
    have hFi := hF.2.1 i hix hne
    refine lv_aload_n hx hb dX2_free_22 rfl (lv_at hl 0 rfl) ?_
    refine va_get (D := (dC, dI)) (ci := 2) (v := .ref gs) (C := RX2) (T := TX2) (N := 12) hx hb hts hin_X2_free_X2 hown hK hP 0 rfl rfl 2 (by decide) (hts (.fieldLink RX2 7 "StepMapModel" "states" "[I") (by decide +kernel)) (fun _ h9 => h9) rfl dX2_free_23 ?_
    refine lv_aload_n hx hb dX2_free_26 rfl (lv_at hl 0 rfl) ?_
    refine lv_aload_n hx hb dX2_free_27 rfl (lv_at hl 0 rfl) ?_
    refine va_get (D := (dC, dI)) (ci := 2) (v := .int (nI ci)) (C := RX2) (T := TX2) (N := 12) hx hb hts hin_X2_free_X2 hown hK hP 0 rfl rfl 6 (by decide) (hts (.fieldLink RX2 43 "StepMapModel" "current" "I") (by decide +kernel)) (fun _ h9 => h9) rfl dX2_free_28 ?_
    refine lv_iload_n hx hb dX2_free_31 rfl (lv_at hl 2 rfl) ?_
    refine r_roV (rest := [.ref gs]) S0 (c_X2_at l dC dI cI g0 gs gk gv gz L Sx Kx Vx Zx x0 (nI ci) x7 x8 x9 (nI w) x11 ci i) (cwV 2 hts gX2_free_X2_at rfl rfl rfl (by decide +kernel) ⟨Nat.le_of_ble_eq_true rfl, Nat.le_of_ble_eq_true rfl⟩) hK hP [0, 1, 2, 3, 4] rfl (ci := 2) (q0 := 0) rfl rfl rfl rfl hl.1 rfl (Nat.le_of_ble_eq_true rfl) dX2_free_32 ⟨Nat.zero_le _, Nat.zero_le _⟩ ?_
    refine r_ld (i := 1024 * ci + i) hx hb hK hP 1 0 rfl rfl (by omega) (by omega) dX2_free_35 ?_
    refine r_eq (z := q_sw (X.2.1 i)) (hFi.1) ?_
    refine lv_if_eq (tgt := 149) hx hb dX2_free_36 (by decide) (fun c_36 => ?_) (fun c_36 => ?_)
    · have m0 := q_sw_0.mp c_36
      rw [q_fz_0 m0] at h4 h5
      have e1 : X = RT := h4
      have e2 : w = RW := h5
      subst e1
      subst e2
      exact kk Sx Kx Vx fr h1 hfr hFI.2.2.2.1 hF H locs ls hP hD hS (lv_sub hl [0, 1] rfl)
    · have n0 : ¬ X.2.1 i = 0 := fun z => c_36 (q_sw_0.mpr z)
      have m2 : X.2.1 i = 2 := (hFI.2.2.2.2.1 i hix).elim (fun z => absurd z n0) id
      have hdp := q_FI_d hFI n0
      obtain ⟨d2, rfl⟩ : ∃ d2, d = d2 + 1 := ⟨d - 1, by omega⟩
      have hh := q_hm_lt (X.2.2.1 i) (show 0 < X.1 by omega)
      refine lv_aload_n hx hb dX2_free_39 rfl (lv_at hl 0 rfl) ?_
      refine lv_aload_n hx hb dX2_free_40 rfl (lv_at hl 0 rfl) ?_
      refine lv_aload_n hx hb dX2_free_41 rfl (lv_at hl 0 rfl) ?_
      refine va_get (D := (dC, dI)) (ci := 2) (v := .ref gk) (C := RX2) (T := TX2) (N := 12) hx hb hts hin_X2_free_X2 hown hK hP 0 rfl rfl 3 (by decide) (hts (.fieldLink RX2 13 "StepMapModel" "keys" "[I") (by decide +kernel)) (fun _ h9 => h9) rfl dX2_free_42 ?_
      refine lv_aload_n hx hb dX2_free_45 rfl (lv_at hl 0 rfl) ?_
      refine lv_aload_n hx hb dX2_free_46 rfl (lv_at hl 0 rfl) ?_
      refine va_get (D := (dC, dI)) (ci := 2) (v := .int (nI ci)) (C := RX2) (T := TX2) (N := 12) hx hb hts hin_X2_free_X2 hown hK hP 0 rfl rfl 6 (by decide) (hts (.fieldLink RX2 43 "StepMapModel" "current" "I") (by decide +kernel)) (fun _ h9 => h9) rfl dX2_free_47 ?_
      refine lv_iload_n hx hb dX2_free_50 rfl (lv_at hl 2 rfl) ?_
      refine r_roV (rest := [.ref gk, .ref g0, .ref g0]) S0 (c_X2_at l dC dI cI g0 gs gk gv gz L Sx Kx Vx Zx x0 (nI ci) x7 x8 x9 (nI w) x11 ci i) (cwV 2 hts gX2_free_X2_at rfl rfl rfl (by decide +kernel) ⟨Nat.le_of_ble_eq_true rfl, Nat.le_of_ble_eq_true rfl⟩) hK hP [0, 1, 2, 3, 4] rfl (ci := 2) (q0 := 0) rfl rfl rfl rfl hl.1 rfl (Nat.le_of_ble_eq_true rfl) dX2_free_51 ⟨Nat.zero_le _, Nat.zero_le _⟩ ?_
      refine r_ld (i := 1024 * ci + i) hx hb hK hP 2 0 rfl rfl (by omega) (by omega) dX2_free_54 ?_
      refine r_eq (z := X.2.2.1 i) ((hFi.2 m2).1) ?_
      refine lv_aload_n hx hb dX2_free_55 rfl (lv_at hl 0 rfl) ?_
      refine va_get (D := (dC, dI)) (ci := 2) (v := .int (nI ci)) (C := RX2) (T := TX2) (N := 12) hx hb hts hin_X2_free_X2 hown hK hP 0 rfl rfl 6 (by decide) (hts (.fieldLink RX2 43 "StepMapModel" "current" "I") (by decide +kernel)) (fun _ h9 => h9) rfl dX2_free_56 ?_
      refine r_roV (rest := [.ref g0]) S0 (c_X2_home l dC dI cI g0 gs gk gv gz L Sx Kx Vx Zx x0 (nI ci) x7 x8 x9 (nI w) x11 (X.2.2.1 i) ci X.1 (by omega) hzX hnX) (cwV 2 hts gX2_free_X2_home rfl rfl rfl (by decide +kernel) ⟨Nat.le_of_ble_eq_true rfl, Nat.le_of_ble_eq_true rfl⟩) hK hP [0, 1, 2, 3, 4] rfl (ci := 2) (q0 := 0) rfl rfl rfl rfl hl.1 rfl (Nat.le_of_ble_eq_true rfl) dX2_free_59 ⟨Nat.zero_le _, Nat.zero_le _⟩ ?_
      refine lv_iload_n hx hb dX2_free_62 rfl (lv_at hl 2 rfl) ?_
      refine r_roV (rest := []) S0 (c_X2_steps l dC dI cI g0 gs gk gv gz L Sx Kx Vx Zx x0 x7 x8 x9 (nI w) x11 ci X.1 (q_hm X.1 (X.2.2.1 i)) i (by omega) hzX hnX (by omega) (by omega)) (cwV 2 hts gX2_free_X2_steps rfl rfl rfl (by decide +kernel) ⟨Nat.le_of_ble_eq_true rfl, Nat.le_of_ble_eq_true rfl⟩) hK hP [0, 1, 2, 3, 4] rfl (ci := 2) (q0 := 0) rfl rfl rfl rfl hl.1 rfl (Nat.le_of_ble_eq_true rfl) dX2_free_63 ⟨Nat.zero_le _, Nat.zero_le _⟩ ?_
      refine lv_aload_n hx hb dX2_free_66 rfl (lv_at hl 0 rfl) ?_
      refine lv_iload_n hx hb dX2_free_67 rfl (lv_at hl 1 rfl) ?_
      refine lv_iload_n hx hb dX2_free_68 rfl (lv_at hl 2 rfl) ?_
      refine r_roV (rest := [.int (nI (q_rd X.1 (q_hm X.1 (X.2.2.1 i)) i))]) S0 (c_X2_steps l dC dI cI g0 gs gk gv gz L Sx Kx Vx Zx x0 x7 x8 x9 (nI w) x11 ci X.1 fr i (by omega) hzX hnX (by omega) (by omega)) (cwV 2 hts gX2_free_X2_steps rfl rfl rfl (by decide +kernel) ⟨Nat.le_of_ble_eq_true rfl, Nat.le_of_ble_eq_true rfl⟩) hK hP [0, 1, 2, 3, 4] rfl (ci := 2) (q0 := 0) rfl rfl rfl rfl hl.1 rfl (Nat.le_of_ble_eq_true rfl) dX2_free_69 ⟨Nat.zero_le _, Nat.zero_le _⟩ ?_
      have hr1 := q_rd_lt hh hix
      have hr2 := q_rd_lt hfr hix
      refine lv_icmp_ge (tgt := 79) hx hb dX2_free_72 (by decide) (fun c_72 => ?_) (fun c_72 => ?_)
      · have h_72 := q_le_t (a := q_rd X.1 fr i) (b := q_rd X.1 (q_hm X.1 (X.2.2.1 i)) i) (by omega) (by omega) c_72
        refine lv_iconst (v := 0) hx hb dX2_free_79 (by decide) ?_
        refine lv_istore (lv' := [(4, .int 0), (0, .ref g0), (2, .int (nI fr)), (3, .int (nI i))]) hx hb dX2_free_80 hl (by decide) rfl (fun ls hl => ?_)
        refine lv_iload hx hb dX2_free_82 (lv_at hl 0 rfl) ?_
        refine lv_if_ne (tgt := 126) hx hb dX2_free_84 (by decide) (fun c_84 => ?_) (fun c_84 => ?_)
        · have h_84 := q_eq_f (a := 0) (b := 0) (by omega) (by omega) c_84
          omega
        · have h_84 := q_eq_t (a := 0) (b := 0) (by omega) (by omega) c_84
          refine lv_aload_n hx hb dX2_free_87 rfl (lv_at hl 1 rfl) ?_
          refine lv_aload_n hx hb dX2_free_88 rfl (lv_at hl 1 rfl) ?_
          refine va_get (D := (dC, dI)) (ci := 2) (v := .int (nI ci)) (C := RX2) (T := TX2) (N := 12) hx hb hts hin_X2_free_X2 hown hK hP 0 rfl rfl 6 (by decide) (hts (.fieldLink RX2 43 "StepMapModel" "current" "I") (by decide +kernel)) (fun _ h9 => h9) rfl dX2_free_89 ?_
          refine lv_iload_n hx hb dX2_free_92 rfl (lv_at hl 2 rfl) ?_
          refine lv_aload_n hx hb dX2_free_93 rfl (lv_at hl 1 rfl) ?_
          refine va_get (D := (dC, dI)) (ci := 2) (v := .ref gk) (C := RX2) (T := TX2) (N := 12) hx hb hts hin_X2_free_X2 hown hK hP 0 rfl rfl 3 (by decide) (hts (.fieldLink RX2 13 "StepMapModel" "keys" "[I") (by decide +kernel)) (fun _ h9 => h9) rfl dX2_free_94 ?_
          refine lv_aload_n hx hb dX2_free_97 rfl (lv_at hl 1 rfl) ?_
          refine lv_aload_n hx hb dX2_free_98 rfl (lv_at hl 1 rfl) ?_
          refine va_get (D := (dC, dI)) (ci := 2) (v := .int (nI ci)) (C := RX2) (T := TX2) (N := 12) hx hb hts hin_X2_free_X2 hown hK hP 0 rfl rfl 6 (by decide) (hts (.fieldLink RX2 43 "StepMapModel" "current" "I") (by decide +kernel)) (fun _ h9 => h9) rfl dX2_free_99 ?_
          refine lv_iload_n hx hb dX2_free_102 rfl (lv_at hl 3 rfl) ?_
          refine r_roV (rest := [.ref gk, .int (nI fr), .int (nI ci), .ref g0]) S0 (c_X2_at l dC dI cI g0 gs gk gv gz L Sx Kx Vx Zx x0 (nI ci) x7 x8 x9 (nI w) x11 ci i) (cwV 2 hts gX2_free_X2_at rfl rfl rfl (by decide +kernel) ⟨Nat.le_of_ble_eq_true rfl, Nat.le_of_ble_eq_true rfl⟩) hK hP [0, 1, 2, 3, 4] rfl (ci := 2) (q0 := 0) rfl rfl rfl rfl hl.1 rfl (Nat.le_of_ble_eq_true rfl) dX2_free_103 ⟨Nat.zero_le _, Nat.zero_le _⟩ ?_
          refine r_ld (i := 1024 * ci + i) hx hb hK hP 2 0 rfl rfl (by omega) (by omega) dX2_free_106 ?_
          refine r_eq (z := X.2.2.1 i) ((hFi.2 m2).1) ?_
          refine lv_aload_n hx hb dX2_free_107 rfl (lv_at hl 1 rfl) ?_
          refine va_get (D := (dC, dI)) (ci := 2) (v := .ref gv) (C := RX2) (T := TX2) (N := 12) hx hb hts hin_X2_free_X2 hown hK hP 0 rfl rfl 4 (by decide) (hts (.fieldLink RX2 16 "StepMapModel" "values" "[I") (by decide +kernel)) (fun _ h9 => h9) rfl dX2_free_108 ?_
          refine lv_aload_n hx hb dX2_free_111 rfl (lv_at hl 1 rfl) ?_
          refine lv_aload_n hx hb dX2_free_112 rfl (lv_at hl 1 rfl) ?_
          refine va_get (D := (dC, dI)) (ci := 2) (v := .int (nI ci)) (C := RX2) (T := TX2) (N := 12) hx hb hts hin_X2_free_X2 hown hK hP 0 rfl rfl 6 (by decide) (hts (.fieldLink RX2 43 "StepMapModel" "current" "I") (by decide +kernel)) (fun _ h9 => h9) rfl dX2_free_113 ?_
          refine lv_iload_n hx hb dX2_free_116 rfl (lv_at hl 3 rfl) ?_
          refine r_roV (rest := [.ref gv, .int (X.2.2.1 i), .int (nI fr), .int (nI ci), .ref g0]) S0 (c_X2_at l dC dI cI g0 gs gk gv gz L Sx Kx Vx Zx x0 (nI ci) x7 x8 x9 (nI w) x11 ci i) (cwV 2 hts gX2_free_X2_at rfl rfl rfl (by decide +kernel) ⟨Nat.le_of_ble_eq_true rfl, Nat.le_of_ble_eq_true rfl⟩) hK hP [0, 1, 2, 3, 4] rfl (ci := 2) (q0 := 0) rfl rfl rfl rfl hl.1 rfl (Nat.le_of_ble_eq_true rfl) dX2_free_117 ⟨Nat.zero_le _, Nat.zero_le _⟩ ?_
          refine r_ld (i := 1024 * ci + i) hx hb hK hP 3 0 rfl rfl (by omega) (by omega) dX2_free_120 ?_
          refine r_eq (z := X.2.2.2 i) ((hFi.2 m2).2) ?_
          refine r_muV (wr := []) (rest := []) S0 (c_X2_lay l dC dI cI g0 gs gk gv gz L Sx Kx Vx Zx x0 (nI ci) x7 x8 x9 (nI w) x11 ci fr (X.2.2.1 i) (X.2.2.2 i) H.size (by omega)) (cwV 4 hts gX2_free_X2_lay rfl rfl rfl (by decide +kernel) ⟨Nat.le_of_ble_eq_true rfl, Nat.le_of_ble_eq_true rfl⟩) hK hP hD hS hA [0, 1, 2, 3, 4] [] rfl rfl (by decide) (by decide) (by decide) (ci := 2) (q0 := 0) rfl rfl rfl rfl hl.1 rfl (Nat.le_of_ble_eq_true rfl) dX2_free_121 ⟨Nat.zero_le _, Nat.zero_le _⟩ (fun _ H locs hu hP hD hS => ?_)
          have hP : va_P (dC, dI) vwCl [(g0, .inr (2, [.int x0, .int (nI L), .ref gs, .ref gk, .ref gv, .ref gz, .int (nI ci), .int x7, .int x8, .int x9, .int (nI w), .int x11])), (gs, .inl (cI, 2048, .inl (upd Sx (1024 * ci + fr) 1))), (gk, .inl (cI, 2048, .inl (upd Kx (1024 * ci + fr) (X.2.2.1 i)))), (gv, .inl (cI, 2048, .inl (upd Vx (1024 * ci + fr) (X.2.2.2 i)))), (gz, .inl (cI, 2, .inl Zx))] H := hP.sub [0, 1, 2, 3, 4] rfl
          have hD : va_D Aq [(g0, .inr (2, [.int x0, .int (nI L), .ref gs, .ref gk, .ref gv, .ref gz, .int (nI ci), .int x7, .int x8, .int x9, .int (nI w), .int x11])), (gs, .inl (cI, 2048, .inl (upd Sx (1024 * ci + fr) 1))), (gk, .inl (cI, 2048, .inl (upd Kx (1024 * ci + fr) (X.2.2.1 i)))), (gv, .inl (cI, 2048, .inl (upd Vx (1024 * ci + fr) (X.2.2.2 i)))), (gz, .inl (cI, 2, .inl Zx))] := hD.sub [0, 1, 2, 3, 4] (by decide) rfl
          refine lv_iload_n hx hb dX2_free_124 rfl (lv_at hl 3 rfl) ?_
          refine lv_istore_n (lv' := [(2, .int (nI i)), (4, .int 0), (0, .ref g0), (3, .int (nI i))]) hx hb dX2_free_125 rfl hl (by decide) rfl (fun ls hl => ?_)
          refine lv_aload_n hx hb dX2_free_126 rfl (lv_at hl 2 rfl) ?_
          refine lv_iload_n hx hb dX2_free_127 rfl (lv_at hl 3 rfl) ?_
          refine lv_aload_n hx hb dX2_free_128 rfl (lv_at hl 2 rfl) ?_
          refine va_get (D := (dC, dI)) (ci := 2) (v := .int (nI ci)) (C := RX2) (T := TX2) (N := 12) hx hb hts hin_X2_free_X2 hown hK hP 0 rfl rfl 6 (by decide) (hts (.fieldLink RX2 43 "StepMapModel" "current" "I") (by decide +kernel)) (fun _ h9 => h9) rfl dX2_free_129 ?_
          refine r_roV (rest := []) S0 (c_X2_behind l dC dI cI g0 gs gk gv gz L (upd Sx (1024 * ci + fr) 1) (upd Kx (1024 * ci + fr) (X.2.2.1 i)) (upd Vx (1024 * ci + fr) (X.2.2.2 i)) Zx x0 (nI ci) x7 x8 x9 (nI w) x11 i ci X.1 (by omega) hzX hnX (by omega)) (cwV 2 hts gX2_free_X2_behind rfl rfl rfl (by decide +kernel) ⟨Nat.le_of_ble_eq_true rfl, Nat.le_of_ble_eq_true rfl⟩) hK hP [0, 1, 2, 3, 4] rfl (ci := 2) (q0 := 0) rfl rfl rfl rfl hl.1 rfl (Nat.le_of_ble_eq_true rfl) dX2_free_132 ⟨Nat.zero_le _, Nat.zero_le _⟩ ?_
          refine lv_istore_n (lv' := [(3, .int (nI (q_ad X.1 i 1))), (2, .int (nI i)), (4, .int 0), (0, .ref g0)]) hx hb dX2_free_135 rfl hl (by decide) rfl (fun ls hl => ?_)
          refine lv_aload_n hx hb dX2_free_136 rfl (lv_at hl 3 rfl) ?_
          refine lv_dup hx hb dX2_free_137 rfl ?_
          refine va_get (D := (dC, dI)) (ci := 2) (v := .int (nI w)) (C := RX2) (T := TX2) (N := 12) hx hb hts hin_X2_free_X2 hown hK hP 0 rfl rfl 10 (by decide) (hts (.fieldLink RX2 34 "StepMapModel" "visits" "I") (by decide +kernel)) (fun _ h9 => h9) rfl dX2_free_138 ?_
          refine lv_iconst (v := 1) hx hb dX2_free_141 (by decide) ?_
          refine lv_iadd hx hb dX2_free_142 ?_
          refine r_eq (z := nI (w + 1)) (nI_add w 1) ?_
          refine va_put (D := (dC, dI)) (ci := 2) (v := .int (nI (w + 1))) (ty := .int) (C := RX2) (T := TX2) (N := 12) hx hb hts hin_X2_free_X2 tyX2 tyX2_ok nmX2 hown hK hP hD hS 0 rfl rfl 10 (by decide) (hts (.fieldLink RX2 34 "StepMapModel" "visits" "I") (by decide +kernel)) (fun _ h9 => h9) rfl (by decide +kernel) (rfl) (rfl) (Nat.le_of_ble_eq_true rfl) dX2_free_143 (fun H locs hP hD hS => ?_)
          have hP : va_P (dC, dI) vwCl [(g0, .inr (2, [.int x0, .int (nI L), .ref gs, .ref gk, .ref gv, .ref gz, .int (nI ci), .int x7, .int x8, .int x9, .int (nI (w + 1)), .int x11])), (gs, .inl (cI, 2048, .inl (upd Sx (1024 * ci + fr) 1))), (gk, .inl (cI, 2048, .inl (upd Kx (1024 * ci + fr) (X.2.2.1 i)))), (gv, .inl (cI, 2048, .inl (upd Vx (1024 * ci + fr) (X.2.2.2 i)))), (gz, .inl (cI, 2, .inl Zx))] H := hP
          have hD : va_D Aq [(g0, .inr (2, [.int x0, .int (nI L), .ref gs, .ref gk, .ref gv, .ref gz, .int (nI ci), .int x7, .int x8, .int x9, .int (nI (w + 1)), .int x11])), (gs, .inl (cI, 2048, .inl (upd Sx (1024 * ci + fr) 1))), (gk, .inl (cI, 2048, .inl (upd Kx (1024 * ci + fr) (X.2.2.1 i)))), (gv, .inl (cI, 2048, .inl (upd Vx (1024 * ci + fr) (X.2.2.2 i)))), (gz, .inl (cI, 2, .inl Zx))] := hD
          refine lv_goto (tgt := 22) hx hb dX2_free_146 (by decide) ?_
          have h4 : (q_fz f (q_sh X i fr) i (q_ad X.1 i 1)).1 = RT := by rw [q_fz_1 n0 h_72] at h4; exact h4
          have h5 : w + ((q_fz f (q_sh X i fr) i (q_ad X.1 i 1)).2 + 1) = RW := by rw [q_fz_1 n0 h_72] at h5; exact h5
          exact ih i (q_ad X.1 i 1) (w + 1) (q_sh X i fr) (upd Sx (1024 * ci + fr) 1) (upd Kx (1024 * ci + fr) (X.2.2.1 i)) (upd Vx (1024 * ci + fr) (X.2.2.2 i)) ⟨h1, ⟨d2, by omega, q_FI_1 hFI n0 h_72⟩, q_RF_1 hF hix hfr hne m2, h4, by omega⟩ H locs ls hP hD hS (lv_sub hl [3, 1, 0] rfl)
      · have h_72 := q_le_f (a := q_rd X.1 fr i) (b := q_rd X.1 (q_hm X.1 (X.2.2.1 i)) i) (by omega) (by omega) c_72
        refine lv_iconst (v := 1) hx hb dX2_free_75 (by decide) ?_
        refine lv_goto (tgt := 80) hx hb dX2_free_76 (by decide) ?_
        refine lv_istore (lv' := [(4, .int 1), (0, .ref g0), (2, .int (nI fr)), (3, .int (nI i))]) hx hb dX2_free_80 hl (by decide) rfl (fun ls hl => ?_)
        refine lv_iload hx hb dX2_free_82 (lv_at hl 0 rfl) ?_
        refine lv_if_ne (tgt := 126) hx hb dX2_free_84 (by decide) (fun c_84 => ?_) (fun c_84 => ?_)
        · have h_84 := q_eq_f (a := 1) (b := 0) (by omega) (by omega) c_84
          refine lv_aload_n hx hb dX2_free_126 rfl (lv_at hl 1 rfl) ?_
          refine lv_iload_n hx hb dX2_free_127 rfl (lv_at hl 3 rfl) ?_
          refine lv_aload_n hx hb dX2_free_128 rfl (lv_at hl 1 rfl) ?_
          refine va_get (D := (dC, dI)) (ci := 2) (v := .int (nI ci)) (C := RX2) (T := TX2) (N := 12) hx hb hts hin_X2_free_X2 hown hK hP 0 rfl rfl 6 (by decide) (hts (.fieldLink RX2 43 "StepMapModel" "current" "I") (by decide +kernel)) (fun _ h9 => h9) rfl dX2_free_129 ?_
          refine r_roV (rest := []) S0 (c_X2_behind l dC dI cI g0 gs gk gv gz L Sx Kx Vx Zx x0 (nI ci) x7 x8 x9 (nI w) x11 i ci X.1 (by omega) hzX hnX (by omega)) (cwV 2 hts gX2_free_X2_behind rfl rfl rfl (by decide +kernel) ⟨Nat.le_of_ble_eq_true rfl, Nat.le_of_ble_eq_true rfl⟩) hK hP [0, 1, 2, 3, 4] rfl (ci := 2) (q0 := 0) rfl rfl rfl rfl hl.1 rfl (Nat.le_of_ble_eq_true rfl) dX2_free_132 ⟨Nat.zero_le _, Nat.zero_le _⟩ ?_
          refine lv_istore_n (lv' := [(3, .int (nI (q_ad X.1 i 1))), (4, .int 1), (0, .ref g0), (2, .int (nI fr))]) hx hb dX2_free_135 rfl hl (by decide) rfl (fun ls hl => ?_)
          refine lv_aload_n hx hb dX2_free_136 rfl (lv_at hl 2 rfl) ?_
          refine lv_dup hx hb dX2_free_137 rfl ?_
          refine va_get (D := (dC, dI)) (ci := 2) (v := .int (nI w)) (C := RX2) (T := TX2) (N := 12) hx hb hts hin_X2_free_X2 hown hK hP 0 rfl rfl 10 (by decide) (hts (.fieldLink RX2 34 "StepMapModel" "visits" "I") (by decide +kernel)) (fun _ h9 => h9) rfl dX2_free_138 ?_
          refine lv_iconst (v := 1) hx hb dX2_free_141 (by decide) ?_
          refine lv_iadd hx hb dX2_free_142 ?_
          refine r_eq (z := nI (w + 1)) (nI_add w 1) ?_
          refine va_put (D := (dC, dI)) (ci := 2) (v := .int (nI (w + 1))) (ty := .int) (C := RX2) (T := TX2) (N := 12) hx hb hts hin_X2_free_X2 tyX2 tyX2_ok nmX2 hown hK hP hD hS 0 rfl rfl 10 (by decide) (hts (.fieldLink RX2 34 "StepMapModel" "visits" "I") (by decide +kernel)) (fun _ h9 => h9) rfl (by decide +kernel) (rfl) (rfl) (Nat.le_of_ble_eq_true rfl) dX2_free_143 (fun H locs hP hD hS => ?_)
          have hP : va_P (dC, dI) vwCl [(g0, .inr (2, [.int x0, .int (nI L), .ref gs, .ref gk, .ref gv, .ref gz, .int (nI ci), .int x7, .int x8, .int x9, .int (nI (w + 1)), .int x11])), (gs, .inl (cI, 2048, .inl Sx)), (gk, .inl (cI, 2048, .inl Kx)), (gv, .inl (cI, 2048, .inl Vx)), (gz, .inl (cI, 2, .inl Zx))] H := hP
          have hD : va_D Aq [(g0, .inr (2, [.int x0, .int (nI L), .ref gs, .ref gk, .ref gv, .ref gz, .int (nI ci), .int x7, .int x8, .int x9, .int (nI (w + 1)), .int x11])), (gs, .inl (cI, 2048, .inl Sx)), (gk, .inl (cI, 2048, .inl Kx)), (gv, .inl (cI, 2048, .inl Vx)), (gz, .inl (cI, 2, .inl Zx))] := hD
          refine lv_goto (tgt := 22) hx hb dX2_free_146 (by decide) ?_
          have nb : ¬ q_rb X i fr := fun z => by have z : q_rd X.1 fr i ≤ q_rd X.1 (q_hm X.1 (X.2.2.1 i)) i := z; omega
          have h4 : (q_fz f X fr (q_ad X.1 i 1)).1 = RT := by rw [q_fz_2 n0 nb] at h4; exact h4
          have h5 : w + ((q_fz f X fr (q_ad X.1 i 1)).2 + 1) = RW := by rw [q_fz_2 n0 nb] at h5; exact h5
          exact ih fr (q_ad X.1 i 1) (w + 1) X Sx Kx Vx ⟨h1, ⟨d2, by omega, q_FI_2 hFI n0 nb⟩, hF, h4, by omega⟩ H locs ls hP hD hS (lv_sub hl [2, 3, 0] rfl)
        · have h_84 := q_eq_t (a := 1) (b := 0) (by omega) (by omega) c_84
          omega
set_option maxHeartbeats 4000000 in
set_option maxRecDepth 100000 in
theorem c_X2_free (l : Launch) (dC : Nat → ClassId) (dI : Nat → Nat → Nat) (cI : ClassId) (g0 gs gk gv gz L : Nat) (Sx Kx Vx Zx : Nat → Int32) (x0 x7 x8 x9 x11 : Int32) (ci vi e9 : Nat) (A : q_TB) (sz : Nat) (hci : ci < 2) (hz : Zx ci = nI A.1) (hpA : q_pw A.1) (hRT : q_RT Sx Kx Vx ci A) (hN : q_NT A) (hP9 : q_PB A) (hU : q_UQ A) (hE : q_EM A) (he : e9 < A.1) (h2 : A.2.1 e9 = 2) : Met l yX2_free wsX2_free ({ frames := 2, cells := 0, slots := 0, locals := 46 }) (r_Mc (dC, dI) vwCl [(cI, .int)] [(g0, .inr (2, [.int x0, .int (nI L), .ref gs, .ref gk, .ref gv, .ref gz, .int (nI ci), .int x7, .int x8, .int x9, .int (nI vi), .int x11])), (gs, .inl (cI, 2048, .inl Sx)), (gk, .inl (cI, 2048, .inl Kx)), (gv, .inl (cI, 2048, .inl Vx)), (gz, .inl (cI, 2, .inl Zx))] sz [.ref g0, .int (nI e9)]) (va_Qv (fun (u : q_A3) => q_RT u.1 u.2.1 u.2.2 ci (q_fr A e9).1 ∧ ∀ p, ¬ (1024 * ci ≤ p ∧ p < 1024 * ci + A.1) → u.1 p = Sx p ∧ u.2.1 p = Kx p ∧ u.2.2 p = Vx p) (fun u t => r_B (dC, dI) vwCl [(cI, .int)] (va_A [(g0, .inr (2, [.int x0, .int (nI L), .ref gs, .ref gk, .ref gv, .ref gz, .int (nI ci), .int x7, .int x8, .int x9, .int (nI vi), .int x11])), (gs, .inl (cI, 2048, .inl Sx)), (gk, .inl (cI, 2048, .inl Kx)), (gv, .inl (cI, 2048, .inl Vx)), (gz, .inl (cI, 2, .inl Zx))] sz) ((fun u => [(g0, .inr (2, [.int x0, .int (nI L), .ref gs, .ref gk, .ref gv, .ref gz, .int (nI ci), .int x7, .int x8, .int x9, .int (nI (vi + ((q_fr A e9).2 + 1))), .int x11])), (gs, .inl (cI, 2048, .inl u.1)), (gk, .inl (cI, 2048, .inl u.2.1)), (gv, .inl (cI, 2048, .inl u.2.2)), (gz, .inl (cI, 2, .inl Zx))]) u) t) (va_A [(g0, .inr (2, [.int x0, .int (nI L), .ref gs, .ref gk, .ref gv, .ref gz, .int (nI ci), .int x7, .int x8, .int x9, .int (nI vi), .int x11])), (gs, .inl (cI, 2048, .inl Sx)), (gk, .inl (cI, 2048, .inl Kx)), (gv, .inl (cI, 2048, .inl Vx)), (gz, .inl (cI, 2, .inl Zx))] sz)) 0 0 (va_A [(g0, .inr (2, [.int x0, .int (nI L), .ref gs, .ref gk, .ref gv, .ref gz, .int (nI ci), .int x7, .int x8, .int x9, .int (nI vi), .int x11])), (gs, .inl (cI, 2048, .inl Sx)), (gk, .inl (cI, 2048, .inl Kx)), (gv, .inl (cI, 2048, .inl Vx)), (gz, .inl (cI, 2, .inl Zx))] sz) := by
  refine Met.ofW (cc := cX2_free) (maxL := 5) (ret := none) (by decide) rfl ?_
  intro p e s m args below meth c s₁ Bd hml hv
  obtain ⟨rfl, hsz, hP, hK, hD0⟩ := hv
  have hx := Bd.exec
  have hb := Bd.bytes
  have hr := Bd.returns
  have hts := atoms_spec (ws := wsX2_free) Bd.pre
  have hown : s.vm.findClass RX2 = some m.cls := findClass_of_methodNamed Bd.named
  have hlocks := Bd.notSynchronized
  have S0 : CallFix p m c cX2_free 5 s _ wsX2_free RX2 := ⟨hx, hb, hml, hown, hts⟩
  subst hsz
  have hD := hD0.self (sz := s.heap.size)
  generalize hAe : va_A [(g0, .inr (2, [.int x0, .int (nI L), .ref gs, .ref gk, .ref gv, .ref gz, .int (nI ci), .int x7, .int x8, .int x9, .int (nI vi), .int x11])), (gs, .inl (cI, 2048, .inl Sx)), (gk, .inl (cI, 2048, .inl Kx)), (gv, .inl (cI, 2048, .inl Vx)), (gz, .inl (cI, 2, .inl Zx))] s.heap.size = Aq at hD ⊢
  have hA : ∀ q : Nat, s.heap.size ≤ q → Aq q := fun q h => by rw [← hAe]; exact Or.inr h
  have hS : va_S Aq s.heap s.heap [] := va_S.rf
  have hD : va_D Aq [(g0, .inr (2, [.int x0, .int (nI L), .ref gs, .ref gk, .ref gv, .ref gz, .int (nI ci), .int x7, .int x8, .int x9, .int (nI vi), .int x11])), (gs, .inl (cI, 2048, .inl Sx)), (gk, .inl (cI, 2048, .inl Kx)), (gv, .inl (cI, 2048, .inl Vx)), (gz, .inl (cI, 2, .inl Zx))] := hD
  have hP : va_P (dC, dI) vwCl [(g0, .inr (2, [.int x0, .int (nI L), .ref gs, .ref gk, .ref gv, .ref gz, .int (nI ci), .int x7, .int x8, .int x9, .int (nI vi), .int x11])), (gs, .inl (cI, 2048, .inl Sx)), (gk, .inl (cI, 2048, .inl Kx)), (gv, .inl (cI, 2048, .inl Vx)), (gz, .inl (cI, 2, .inl Zx))] s.heap := hP
  have hl := lv_entry ([.ref g0, .int (nI e9)]) (n := 5) (Nat.le_of_ble_eq_true rfl)
  rw [lg_entry_eq]
  generalize (lg_sl ([.ref g0, .int (nI e9)]) ++ List.replicate (5 - (lg_sl ([.ref g0, .int (nI e9)])).length) Slot.unset).toArray = ls at hl ⊢
  have hl : lv_has ls 5 [(0, .ref g0), (1, .int (nI e9))] := hl
  have hn8 := q_pw_8 hpA
  refine lv_iload_n hx hb dX2_free_0 rfl (lv_at hl 1 rfl) ?_
  refine lv_istore_n (lv' := [(2, .int (nI e9)), (0, .ref g0), (1, .int (nI e9))]) hx hb dX2_free_1 rfl hl (by decide) rfl (fun ls hl => ?_)
  refine lv_aload_n hx hb dX2_free_2 rfl (lv_at hl 1 rfl) ?_
  refine lv_iload_n hx hb dX2_free_3 rfl (lv_at hl 2 rfl) ?_
  refine lv_aload_n hx hb dX2_free_4 rfl (lv_at hl 1 rfl) ?_
  refine va_get (D := (dC, dI)) (ci := 2) (v := .int (nI ci)) (C := RX2) (T := TX2) (N := 12) hx hb hts hin_X2_free_X2 hown hK hP 0 rfl rfl 6 (by decide) (hts (.fieldLink RX2 43 "StepMapModel" "current" "I") (by decide +kernel)) (fun _ h9 => h9) rfl dX2_free_5 ?_
  refine r_roV (rest := []) S0 (c_X2_behind l dC dI cI g0 gs gk gv gz L Sx Kx Vx Zx x0 (nI ci) x7 x8 x9 (nI vi) x11 e9 ci A.1 (by omega) hz hpA (by omega)) (cwV 2 hts gX2_free_X2_behind rfl rfl rfl (by decide +kernel) ⟨Nat.le_of_ble_eq_true rfl, Nat.le_of_ble_eq_true rfl⟩) hK hP [0, 1, 2, 3, 4] rfl (ci := 2) (q0 := 0) rfl rfl rfl rfl hl.1 rfl (Nat.le_of_ble_eq_true rfl) dX2_free_8 ⟨Nat.zero_le _, Nat.zero_le _⟩ ?_
  refine lv_istore_n (lv' := [(3, .int (nI (q_ad A.1 e9 1))), (2, .int (nI e9)), (0, .ref g0), (1, .int (nI e9))]) hx hb dX2_free_11 rfl hl (by decide) rfl (fun ls hl => ?_)
  refine lv_aload_n hx hb dX2_free_12 rfl (lv_at hl 2 rfl) ?_
  refine lv_dup hx hb dX2_free_13 rfl ?_
  refine va_get (D := (dC, dI)) (ci := 2) (v := .int (nI vi)) (C := RX2) (T := TX2) (N := 12) hx hb hts hin_X2_free_X2 hown hK hP 0 rfl rfl 10 (by decide) (hts (.fieldLink RX2 34 "StepMapModel" "visits" "I") (by decide +kernel)) (fun _ h9 => h9) rfl dX2_free_14 ?_
  refine lv_iconst (v := 1) hx hb dX2_free_17 (by decide) ?_
  refine lv_iadd hx hb dX2_free_18 ?_
  refine r_eq (z := nI (vi + 1)) (nI_add vi 1) ?_
  refine va_put (D := (dC, dI)) (ci := 2) (v := .int (nI (vi + 1))) (ty := .int) (C := RX2) (T := TX2) (N := 12) hx hb hts hin_X2_free_X2 tyX2 tyX2_ok nmX2 hown hK hP hD hS 0 rfl rfl 10 (by decide) (hts (.fieldLink RX2 34 "StepMapModel" "visits" "I") (by decide +kernel)) (fun _ h9 => h9) rfl (by decide +kernel) (rfl) (rfl) (Nat.le_of_ble_eq_true rfl) dX2_free_19 (fun H locs hP hD hS => ?_)
  have hP : va_P (dC, dI) vwCl [(g0, .inr (2, [.int x0, .int (nI L), .ref gs, .ref gk, .ref gv, .ref gz, .int (nI ci), .int x7, .int x8, .int x9, .int (nI (vi + 1)), .int x11])), (gs, .inl (cI, 2048, .inl Sx)), (gk, .inl (cI, 2048, .inl Kx)), (gv, .inl (cI, 2048, .inl Vx)), (gz, .inl (cI, 2, .inl Zx))] H := hP
  have hD : va_D Aq [(g0, .inr (2, [.int x0, .int (nI L), .ref gs, .ref gk, .ref gv, .ref gz, .int (nI ci), .int x7, .int x8, .int x9, .int (nI (vi + 1)), .int x11])), (gs, .inl (cI, 2048, .inl Sx)), (gk, .inl (cI, 2048, .inl Kx)), (gv, .inl (cI, 2048, .inl Vx)), (gz, .inl (cI, 2, .inl Zx))] := hD
  obtain ⟨RT, hRT9⟩ : ∃ z, (q_fr A e9).1 = z := ⟨_, rfl⟩
  obtain ⟨RW, hRW⟩ : ∃ z, vi + 1 + (q_fr A e9).2 = z := ⟨_, rfl⟩
  refine lp_X2_free S0 hK hA g0 gs gk gv gz L Zx x0 x7 x8 x9 x11 ci A.1 RW RT Sx Kx Vx hci hz hpA (fun Sy Ky Vy fr g1 g2 g3 g4 H locs ls hP hD hS hl => ?_) (A.1 - 1) e9 (q_ad A.1 e9 1) (vi + 1) (A.1, upd A.2.1 e9 0, A.2.2.1, A.2.2.2) Sx Kx Vx ⟨rfl, q_fr_FI hN hP9 hU hE he h2, q_RF_0 hRT he h2, hRT9, hRW⟩ H locs ls hP hD hS (lv_sub hl [2, 1, 0] rfl)
  have hfr9 : fr < 1024 := by omega
  refine lv_aload_n hx hb dX2_free_149 rfl (lv_at hl 0 rfl) ?_
  refine va_get (D := (dC, dI)) (ci := 2) (v := .ref gs) (C := RX2) (T := TX2) (N := 12) hx hb hts hin_X2_free_X2 hown hK hP 0 rfl rfl 2 (by decide) (hts (.fieldLink RX2 7 "StepMapModel" "states" "[I") (by decide +kernel)) (fun _ h9 => h9) rfl dX2_free_150 ?_
  refine lv_aload_n hx hb dX2_free_153 rfl (lv_at hl 0 rfl) ?_
  refine lv_aload_n hx hb dX2_free_154 rfl (lv_at hl 0 rfl) ?_
  refine va_get (D := (dC, dI)) (ci := 2) (v := .int (nI ci)) (C := RX2) (T := TX2) (N := 12) hx hb hts hin_X2_free_X2 hown hK hP 0 rfl rfl 6 (by decide) (hts (.fieldLink RX2 43 "StepMapModel" "current" "I") (by decide +kernel)) (fun _ h9 => h9) rfl dX2_free_155 ?_
  refine lv_iload_n hx hb dX2_free_158 rfl (lv_at hl 1 rfl) ?_
  refine r_roV (rest := [.ref gs]) S0 (c_X2_at l dC dI cI g0 gs gk gv gz L Sy Ky Vy Zx x0 (nI ci) x7 x8 x9 (nI RW) x11 ci fr) (cwV 2 hts gX2_free_X2_at rfl rfl rfl (by decide +kernel) ⟨Nat.le_of_ble_eq_true rfl, Nat.le_of_ble_eq_true rfl⟩) hK hP [0, 1, 2, 3, 4] rfl (ci := 2) (q0 := 0) rfl rfl rfl rfl hl.1 rfl (Nat.le_of_ble_eq_true rfl) dX2_free_159 ⟨Nat.zero_le _, Nat.zero_le _⟩ ?_
  refine lv_iconst (v := 0) hx hb dX2_free_162 (by decide) ?_
  refine r_st (i := 1024 * ci + fr) hx hb hK hP hD hS 1 0 rfl rfl (by omega) (by omega) dX2_free_163 (fun H locs hP hD hS => ?_)
  have hP : va_P (dC, dI) vwCl [(g0, .inr (2, [.int x0, .int (nI L), .ref gs, .ref gk, .ref gv, .ref gz, .int (nI ci), .int x7, .int x8, .int x9, .int (nI RW), .int x11])), (gs, .inl (cI, 2048, .inl (upd Sy (1024 * ci + fr) 0))), (gk, .inl (cI, 2048, .inl Ky)), (gv, .inl (cI, 2048, .inl Vy)), (gz, .inl (cI, 2, .inl Zx))] H := hP
  have hD : va_D Aq [(g0, .inr (2, [.int x0, .int (nI L), .ref gs, .ref gk, .ref gv, .ref gz, .int (nI ci), .int x7, .int x8, .int x9, .int (nI RW), .int x11])), (gs, .inl (cI, 2048, .inl (upd Sy (1024 * ci + fr) 0))), (gk, .inl (cI, 2048, .inl Ky)), (gv, .inl (cI, 2048, .inl Vy)), (gz, .inl (cI, 2, .inl Zx))] := hD
  have e_0_10 : nI RW = nI (vi + ((q_fr A e9).2 + 1)) := by rw [← hRW]; exact congrArg nI (by omega)
  have hP : va_P (dC, dI) vwCl [(g0, .inr (2, [.int x0, .int (nI L), .ref gs, .ref gk, .ref gv, .ref gz, .int (nI ci), .int x7, .int x8, .int x9, .int (nI (vi + ((q_fr A e9).2 + 1))), .int x11])), (gs, .inl (cI, 2048, .inl (upd Sy (1024 * ci + fr) 0))), (gk, .inl (cI, 2048, .inl Ky)), (gv, .inl (cI, 2048, .inl Vy)), (gz, .inl (cI, 2, .inl Zx))] H := by rw [← e_0_10]; exact hP
  have hD : va_D Aq [(g0, .inr (2, [.int x0, .int (nI L), .ref gs, .ref gk, .ref gv, .ref gz, .int (nI ci), .int x7, .int x8, .int x9, .int (nI (vi + ((q_fr A e9).2 + 1))), .int x11])), (gs, .inl (cI, 2048, .inl (upd Sy (1024 * ci + fr) 0))), (gk, .inl (cI, 2048, .inl Ky)), (gv, .inl (cI, 2048, .inl Vy)), (gz, .inl (cI, 2, .inl Zx))] := by rw [← e_0_10]; exact hD
  obtain ⟨r1, r2⟩ := q_RF_end g4 g2 g3
  rw [g1] at r2
  subst hRT9
  exact W.vret hx hb hr (fun t ht hW => ⟨⟨(upd Sy (1024 * ci + fr) 0, Ky, Vy), rfl, ⟨r1, r2⟩, by rw [ht]; exact hP, va_K.moved hW.alike hK, hD⟩, hS.F ht⟩) hS.2.2 dX2_free_164
set_option maxHeartbeats 4000000 in
set_option maxRecDepth 100000 in
theorem c_X2_settle (l : Launch) (dC : Nat → ClassId) (dI : Nat → Nat → Nat) (cI : ClassId) (g0 gs gk gv gz L : Nat) (Sx Kx Vx Zx : Nat → Int32) (x0 x7 x8 x11 : Int32) (ci vi : Nat) (A B : q_TB) (nx : Option Nat) (kc : Nat) (sz : Nat) (hW : q_IW L A B nx kc) (hR : q_RL (A, B, nx, kc, 0) ci Sx Kx Vx Zx x7 x8) : Met l yX2_settle wsX2_settle ({ frames := 3, cells := 0, slots := 0, locals := 71 }) (r_Mc (dC, dI) vwCl [(cI, .int)] [(g0, .inr (2, [.int x0, .int (nI L), .ref gs, .ref gk, .ref gv, .ref gz, .int (nI ci), .int x7, .int x8, .int (nI kc), .int (nI vi), .int x11])), (gs, .inl (cI, 2048, .inl Sx)), (gk, .inl (cI, 2048, .inl Kx)), (gv, .inl (cI, 2048, .inl Vx)), (gz, .inl (cI, 2, .inl Zx))] sz [.ref g0]) (va_Qv (fun (u : Nat × q_A3 × (Nat → Int32) × Int32 × Int32) => q_RL (q_on A B nx kc vi) u.1 u.2.1.1 u.2.1.2.1 u.2.1.2.2 u.2.2.1 u.2.2.2.1 u.2.2.2.2) (fun u t => r_B (dC, dI) vwCl [(cI, .int)] (va_A [(g0, .inr (2, [.int x0, .int (nI L), .ref gs, .ref gk, .ref gv, .ref gz, .int (nI ci), .int x7, .int x8, .int (nI kc), .int (nI vi), .int x11])), (gs, .inl (cI, 2048, .inl Sx)), (gk, .inl (cI, 2048, .inl Kx)), (gv, .inl (cI, 2048, .inl Vx)), (gz, .inl (cI, 2, .inl Zx))] sz) ((fun u => [(g0, .inr (2, [.int x0, .int (nI L), .ref gs, .ref gk, .ref gv, .ref gz, .int (nI u.1), .int u.2.2.2.1, .int u.2.2.2.2, .int (nI kc), .int (nI (q_on A B nx kc vi).2.2.2.2), .int x11])), (gs, .inl (cI, 2048, .inl u.2.1.1)), (gk, .inl (cI, 2048, .inl u.2.1.2.1)), (gv, .inl (cI, 2048, .inl u.2.1.2.2)), (gz, .inl (cI, 2, .inl u.2.2.1))]) u) t) (va_A [(g0, .inr (2, [.int x0, .int (nI L), .ref gs, .ref gk, .ref gv, .ref gz, .int (nI ci), .int x7, .int x8, .int (nI kc), .int (nI vi), .int x11])), (gs, .inl (cI, 2048, .inl Sx)), (gk, .inl (cI, 2048, .inl Kx)), (gv, .inl (cI, 2048, .inl Vx)), (gz, .inl (cI, 2, .inl Zx))] sz)) 0 0 (va_A [(g0, .inr (2, [.int x0, .int (nI L), .ref gs, .ref gk, .ref gv, .ref gz, .int (nI ci), .int x7, .int x8, .int (nI kc), .int (nI vi), .int x11])), (gs, .inl (cI, 2048, .inl Sx)), (gk, .inl (cI, 2048, .inl Kx)), (gv, .inl (cI, 2048, .inl Vx)), (gz, .inl (cI, 2, .inl Zx))] sz) := by
  refine Met.ofW (cc := cX2_settle) (maxL := 2) (ret := none) (by decide) rfl ?_
  intro p e s m args below meth c s₁ Bd hml hv
  obtain ⟨rfl, hsz, hP, hK, hD0⟩ := hv
  have hx := Bd.exec
  have hb := Bd.bytes
  have hr := Bd.returns
  have hts := atoms_spec (ws := wsX2_settle) Bd.pre
  have hown : s.vm.findClass RX2 = some m.cls := findClass_of_methodNamed Bd.named
  have hlocks := Bd.notSynchronized
  have S0 : CallFix p m c cX2_settle 2 s _ wsX2_settle RX2 := ⟨hx, hb, hml, hown, hts⟩
  subst hsz
  have hD := hD0.self (sz := s.heap.size)
  generalize hAe : va_A [(g0, .inr (2, [.int x0, .int (nI L), .ref gs, .ref gk, .ref gv, .ref gz, .int (nI ci), .int x7, .int x8, .int (nI kc), .int (nI vi), .int x11])), (gs, .inl (cI, 2048, .inl Sx)), (gk, .inl (cI, 2048, .inl Kx)), (gv, .inl (cI, 2048, .inl Vx)), (gz, .inl (cI, 2, .inl Zx))] s.heap.size = Aq at hD ⊢
  have hA : ∀ q : Nat, s.heap.size ≤ q → Aq q := fun q h => by rw [← hAe]; exact Or.inr h
  have hS : va_S Aq s.heap s.heap [] := va_S.rf
  have hD : va_D Aq [(g0, .inr (2, [.int x0, .int (nI L), .ref gs, .ref gk, .ref gv, .ref gz, .int (nI ci), .int x7, .int x8, .int (nI kc), .int (nI vi), .int x11])), (gs, .inl (cI, 2048, .inl Sx)), (gk, .inl (cI, 2048, .inl Kx)), (gv, .inl (cI, 2048, .inl Vx)), (gz, .inl (cI, 2, .inl Zx))] := hD
  have hP : va_P (dC, dI) vwCl [(g0, .inr (2, [.int x0, .int (nI L), .ref gs, .ref gk, .ref gv, .ref gz, .int (nI ci), .int x7, .int x8, .int (nI kc), .int (nI vi), .int x11])), (gs, .inl (cI, 2048, .inl Sx)), (gk, .inl (cI, 2048, .inl Kx)), (gv, .inl (cI, 2048, .inl Vx)), (gz, .inl (cI, 2, .inl Zx))] s.heap := hP
  have hl := lv_entry ([.ref g0]) (n := 2) (Nat.le_of_ble_eq_true rfl)
  rw [lg_entry_eq]
  generalize (lg_sl ([.ref g0]) ++ List.replicate (2 - (lg_sl ([.ref g0])).length) Slot.unset).toArray = ls at hl ⊢
  have hl : lv_has ls 2 [(0, .ref g0)] := hl
  obtain ⟨hSZ, hW2⟩ := id hW
  obtain ⟨hLp, hpA, hAL, hpB, hBL⟩ := id hSZ
  have hL := (q_pw_8 hLp).2
  have hA8 := q_pw_8 hpA
  have hB8 := q_pw_8 hpB
  have hkc := q_iw_kc hW
  obtain ⟨hci, hzA, hRTA, hmv, hcr⟩ := hR
  have hzA : Zx ci = nI A.1 := hzA
  have hRTA : q_RT Sx Kx Vx ci A := hRTA
  rcases nx with _ | cu
  · obtain ⟨hN, hP9, hU9, hk9, h49, h29⟩ := hW2
    have e_0_7 : x7 = 0 := hmv.trans (q_b_f (fun y => by cases y))
    have hP : va_P (dC, dI) vwCl [(g0, .inr (2, [.int x0, .int (nI L), .ref gs, .ref gk, .ref gv, .ref gz, .int (nI ci), .int 0, .int x8, .int (nI kc), .int (nI vi), .int x11])), (gs, .inl (cI, 2048, .inl Sx)), (gk, .inl (cI, 2048, .inl Kx)), (gv, .inl (cI, 2048, .inl Vx)), (gz, .inl (cI, 2, .inl Zx))] s.heap := by rw [← e_0_7]; exact hP
    have hD : va_D Aq [(g0, .inr (2, [.int x0, .int (nI L), .ref gs, .ref gk, .ref gv, .ref gz, .int (nI ci), .int 0, .int x8, .int (nI kc), .int (nI vi), .int x11])), (gs, .inl (cI, 2048, .inl Sx)), (gk, .inl (cI, 2048, .inl Kx)), (gv, .inl (cI, 2048, .inl Vx)), (gz, .inl (cI, 2, .inl Zx))] := by rw [← e_0_7]; exact hD
    refine lv_aload_n hx hb dX2_settle_0 rfl (lv_at hl 0 rfl) ?_
    refine va_get (D := (dC, dI)) (ci := 2) (v := .int 0) (C := RX2) (T := TX2) (N := 12) hx hb hts hin_X2_settle_X2 hown hK hP 0 rfl rfl 7 (by decide) (hts (.fieldLink RX2 56 "StepMapModel" "moving" "Z") (by decide +kernel)) (fun _ h9 => h9) rfl dX2_settle_1 ?_
    refine lv_if_eq (tgt := 11) hx hb dX2_settle_4 (by decide) (fun c_4 => ?_) (fun c_4 => ?_)
    · have h_4 := q_eq_t (a := 0) (b := 0) (by omega) (by omega) c_4
      refine lv_aload_n hx hb dX2_settle_11 rfl (lv_at hl 0 rfl) ?_
      refine va_get (D := (dC, dI)) (ci := 2) (v := .ref gz) (C := RX2) (T := TX2) (N := 12) hx hb hts hin_X2_settle_X2 hown hK hP 0 rfl rfl 5 (by decide) (hts (.fieldLink RX2 19 "StepMapModel" "sizes" "[I") (by decide +kernel)) (fun _ h9 => h9) rfl dX2_settle_12 ?_
      refine lv_aload_n hx hb dX2_settle_15 rfl (lv_at hl 0 rfl) ?_
      refine va_get (D := (dC, dI)) (ci := 2) (v := .int (nI ci)) (C := RX2) (T := TX2) (N := 12) hx hb hts hin_X2_settle_X2 hown hK hP 0 rfl rfl 6 (by decide) (hts (.fieldLink RX2 43 "StepMapModel" "current" "I") (by decide +kernel)) (fun _ h9 => h9) rfl dX2_settle_16 ?_
      refine r_ld (i := ci) hx hb hK hP 4 0 rfl rfl (by omega) (by omega) dX2_settle_19 ?_
      refine r_eq (z := nI A.1) (hzA) ?_
      refine lv_istore_n (lv' := [(1, .int (nI A.1)), (0, .ref g0)]) hx hb dX2_settle_20 rfl hl (by decide) rfl (fun ls hl => ?_)
      refine lv_aload_n hx hb dX2_settle_21 rfl (lv_at hl 1 rfl) ?_
      refine va_get (D := (dC, dI)) (ci := 2) (v := .int 0) (C := RX2) (T := TX2) (N := 12) hx hb hts hin_X2_settle_X2 hown hK hP 0 rfl rfl 7 (by decide) (hts (.fieldLink RX2 56 "StepMapModel" "moving" "Z") (by decide +kernel)) (fun _ h9 => h9) rfl dX2_settle_22 ?_
      refine lv_if_ne (tgt := 50) hx hb dX2_settle_25 (by decide) (fun c_25 => ?_) (fun c_25 => ?_)
      · have h_25 := q_eq_f (a := 0) (b := 0) (by omega) (by omega) c_25
        omega
      · have h_25 := q_eq_t (a := 0) (b := 0) (by omega) (by omega) c_25
        refine lv_iconst (v := 4) hx hb dX2_settle_28 (by decide) ?_
        refine lv_aload_n hx hb dX2_settle_29 rfl (lv_at hl 1 rfl) ?_
        refine va_get (D := (dC, dI)) (ci := 2) (v := .int (nI kc)) (C := RX2) (T := TX2) (N := 12) hx hb hts hin_X2_settle_X2 hown hK hP 0 rfl rfl 9 (by decide) (hts (.fieldLink RX2 63 "StepMapModel" "count" "I") (by decide +kernel)) (fun _ h9 => h9) rfl dX2_settle_30 ?_
        refine lv_imul hx hb dX2_settle_33 ?_
        refine r_eq (z := nI (4 * kc)) (pk_mul 4 kc) ?_
        refine lv_iconst (v := 3) hx hb dX2_settle_34 (by decide) ?_
        refine lv_iload_n hx hb dX2_settle_35 rfl (lv_at hl 0 rfl) ?_
        refine lv_imul hx hb dX2_settle_36 ?_
        refine r_eq (z := nI (3 * A.1)) (pk_mul 3 A.1) ?_
        refine lv_icmp_lt (tgt := 50) hx hb dX2_settle_37 (by decide) (fun c_37 => ?_) (fun c_37 => ?_)
        · have h_37 := q_lt_t (a := 4 * kc) (b := 3 * A.1) (by omega) (by omega) c_37
          refine lv_aload_n hx hb dX2_settle_50 rfl (lv_at hl 1 rfl) ?_
          refine va_get (D := (dC, dI)) (ci := 2) (v := .int 0) (C := RX2) (T := TX2) (N := 12) hx hb hts hin_X2_settle_X2 hown hK hP 0 rfl rfl 7 (by decide) (hts (.fieldLink RX2 56 "StepMapModel" "moving" "Z") (by decide +kernel)) (fun _ h9 => h9) rfl dX2_settle_51 ?_
          refine lv_if_ne (tgt := 81) hx hb dX2_settle_54 (by decide) (fun c_54 => ?_) (fun c_54 => ?_)
          · have h_54 := q_eq_f (a := 0) (b := 0) (by omega) (by omega) c_54
            omega
          · have h_54 := q_eq_t (a := 0) (b := 0) (by omega) (by omega) c_54
            refine lv_iload_n hx hb dX2_settle_57 rfl (lv_at hl 0 rfl) ?_
            refine lv_bipush (v := 8) hx hb dX2_settle_58 (by decide) ?_
            refine lv_icmp_le (tgt := 81) hx hb dX2_settle_60 (by decide) (fun c_60 => ?_) (fun c_60 => ?_)
            · have h_60 := q_le_t (a := A.1) (b := 8) (by omega) (by omega) c_60
              have eq : q_on A B none kc vi = (A, B, none, kc, vi) := (q_on_n _ _ _ _).trans (q_set0_3 (by omega) (by omega))
              have hRL : q_RL (q_on A B none kc vi) ci Sx Kx Vx Zx 0 x8 := by rw [eq]; exact q_RL_none hci hzA hRTA
              have hP : va_P (dC, dI) vwCl [(g0, .inr (2, [.int x0, .int (nI L), .ref gs, .ref gk, .ref gv, .ref gz, .int (nI ci), .int 0, .int x8, .int (nI kc), .int (nI (q_on A B none kc vi).2.2.2.2), .int x11])), (gs, .inl (cI, 2048, .inl Sx)), (gk, .inl (cI, 2048, .inl Kx)), (gv, .inl (cI, 2048, .inl Vx)), (gz, .inl (cI, 2, .inl Zx))] s.heap := by rw [eq]; exact hP
              have hD : va_D Aq [(g0, .inr (2, [.int x0, .int (nI L), .ref gs, .ref gk, .ref gv, .ref gz, .int (nI ci), .int 0, .int x8, .int (nI kc), .int (nI (q_on A B none kc vi).2.2.2.2), .int x11])), (gs, .inl (cI, 2048, .inl Sx)), (gk, .inl (cI, 2048, .inl Kx)), (gv, .inl (cI, 2048, .inl Vx)), (gz, .inl (cI, 2, .inl Zx))] := by rw [eq]; exact hD
              exact W.vret hx hb hr (fun t ht hW => ⟨⟨(ci, (Sx, Kx, Vx), Zx, 0, x8), rfl, hRL, by rw [ht]; exact hP, va_K.moved hW.alike hK, hD⟩, hS.F ht⟩) hS.2.2 dX2_settle_81
            · have h_60 := q_le_f (a := A.1) (b := 8) (by omega) (by omega) c_60
              refine lv_bipush (v := 8) hx hb dX2_settle_63 (by decide) ?_
              refine lv_aload_n hx hb dX2_settle_65 rfl (lv_at hl 1 rfl) ?_
              refine va_get (D := (dC, dI)) (ci := 2) (v := .int (nI kc)) (C := RX2) (T := TX2) (N := 12) hx hb hts hin_X2_settle_X2 hown hK hP 0 rfl rfl 9 (by decide) (hts (.fieldLink RX2 63 "StepMapModel" "count" "I") (by decide +kernel)) (fun _ h9 => h9) rfl dX2_settle_66 ?_
              refine lv_imul hx hb dX2_settle_69 ?_
              refine r_eq (z := nI (8 * kc)) (pk_mul 8 kc) ?_
              refine lv_iload_n hx hb dX2_settle_70 rfl (lv_at hl 0 rfl) ?_
              refine lv_icmp_gt (tgt := 81) hx hb dX2_settle_71 (by decide) (fun c_71 => ?_) (fun c_71 => ?_)
              · have h_71 := q_lt_t (a := A.1) (b := 8 * kc) (by omega) (by omega) c_71
                have eq : q_on A B none kc vi = (A, B, none, kc, vi) := (q_on_n _ _ _ _).trans (q_set0_3 (by omega) (by omega))
                have hRL : q_RL (q_on A B none kc vi) ci Sx Kx Vx Zx 0 x8 := by rw [eq]; exact q_RL_none hci hzA hRTA
                have hP : va_P (dC, dI) vwCl [(g0, .inr (2, [.int x0, .int (nI L), .ref gs, .ref gk, .ref gv, .ref gz, .int (nI ci), .int 0, .int x8, .int (nI kc), .int (nI (q_on A B none kc vi).2.2.2.2), .int x11])), (gs, .inl (cI, 2048, .inl Sx)), (gk, .inl (cI, 2048, .inl Kx)), (gv, .inl (cI, 2048, .inl Vx)), (gz, .inl (cI, 2, .inl Zx))] s.heap := by rw [eq]; exact hP
                have hD : va_D Aq [(g0, .inr (2, [.int x0, .int (nI L), .ref gs, .ref gk, .ref gv, .ref gz, .int (nI ci), .int 0, .int x8, .int (nI kc), .int (nI (q_on A B none kc vi).2.2.2.2), .int x11])), (gs, .inl (cI, 2048, .inl Sx)), (gk, .inl (cI, 2048, .inl Kx)), (gv, .inl (cI, 2048, .inl Vx)), (gz, .inl (cI, 2, .inl Zx))] := by rw [eq]; exact hD
                exact W.vret hx hb hr (fun t ht hW => ⟨⟨(ci, (Sx, Kx, Vx), Zx, 0, x8), rfl, hRL, by rw [ht]; exact hP, va_K.moved hW.alike hK, hD⟩, hS.F ht⟩) hS.2.2 dX2_settle_81
              · have h_71 := q_lt_f (a := A.1) (b := 8 * kc) (by omega) (by omega) c_71
                refine lv_aload_n hx hb dX2_settle_74 rfl (lv_at hl 1 rfl) ?_
                refine lv_iload_n hx hb dX2_settle_75 rfl (lv_at hl 0 rfl) ?_
                refine lv_iconst (v := 2) hx hb dX2_settle_76 (by decide) ?_
                refine lv_idiv hx hb dX2_settle_77 (by decide) ?_
                refine r_eq (z := nI (A.1 / 2)) (pk_div (d := 2) (by omega) (by omega) (by omega)) ?_
                refine r_muV (wr := []) (rest := []) S0 (c_X2_become l dC dI cI g0 gs gk gv gz L Sx Kx Vx Zx x0 0 x8 (nI kc) (nI vi) x11 ci (A.1 / 2) s.heap.size hci (by omega)) (cwV 1 hts gX2_settle_X2_become rfl rfl rfl (by decide +kernel) ⟨Nat.le_of_ble_eq_true rfl, Nat.le_of_ble_eq_true rfl⟩) hK hP hD hS hA [0, 1, 2, 3, 4] [] rfl rfl (by decide) (by decide) (by decide) (ci := 2) (q0 := 0) rfl rfl rfl rfl hl.1 rfl (Nat.le_of_ble_eq_true rfl) dX2_settle_78 ⟨Nat.zero_le _, Nat.zero_le _⟩ (fun _ H locs hu hP hD hS => ?_)
                have hP : va_P (dC, dI) vwCl [(g0, .inr (2, [.int x0, .int (nI L), .ref gs, .ref gk, .ref gv, .ref gz, .int (nI (1 - ci)), .int 1, .int (nI 0), .int (nI kc), .int (nI vi), .int x11])), (gs, .inl (cI, 2048, .inl (q_clr Sx (1024 * (1 - ci)) (A.1 / 2)))), (gk, .inl (cI, 2048, .inl Kx)), (gv, .inl (cI, 2048, .inl Vx)), (gz, .inl (cI, 2, .inl (upd Zx (1 - ci) (nI (A.1 / 2)))))] H := hP.sub [0, 1, 2, 3, 4] rfl
                have hD : va_D Aq [(g0, .inr (2, [.int x0, .int (nI L), .ref gs, .ref gk, .ref gv, .ref gz, .int (nI (1 - ci)), .int 1, .int (nI 0), .int (nI kc), .int (nI vi), .int x11])), (gs, .inl (cI, 2048, .inl (q_clr Sx (1024 * (1 - ci)) (A.1 / 2)))), (gk, .inl (cI, 2048, .inl Kx)), (gv, .inl (cI, 2048, .inl Vx)), (gz, .inl (cI, 2, .inl (upd Zx (1 - ci) (nI (A.1 / 2)))))] := hD.sub [0, 1, 2, 3, 4] (by decide) rfl
                have eq : q_on A B none kc vi = q_start A B (A.1 / 2) kc vi := (q_on_n _ _ _ _).trans (q_set0_2 (by omega) (by omega))
                have hRL : q_RL (q_on A B none kc vi) (1 - ci) (q_clr Sx (1024 * (1 - ci)) (A.1 / 2)) Kx Vx (upd Zx (1 - ci) (nI (A.1 / 2))) 1 (nI 0) := by rw [eq]; exact q_RL_start hci hzA hRTA (by omega) (by omega)
                have hP : va_P (dC, dI) vwCl [(g0, .inr (2, [.int x0, .int (nI L), .ref gs, .ref gk, .ref gv, .ref gz, .int (nI (1 - ci)), .int 1, .int (nI 0), .int (nI kc), .int (nI (q_on A B none kc vi).2.2.2.2), .int x11])), (gs, .inl (cI, 2048, .inl (q_clr Sx (1024 * (1 - ci)) (A.1 / 2)))), (gk, .inl (cI, 2048, .inl Kx)), (gv, .inl (cI, 2048, .inl Vx)), (gz, .inl (cI, 2, .inl (upd Zx (1 - ci) (nI (A.1 / 2)))))] H := by rw [eq]; exact hP
                have hD : va_D Aq [(g0, .inr (2, [.int x0, .int (nI L), .ref gs, .ref gk, .ref gv, .ref gz, .int (nI (1 - ci)), .int 1, .int (nI 0), .int (nI kc), .int (nI (q_on A B none kc vi).2.2.2.2), .int x11])), (gs, .inl (cI, 2048, .inl (q_clr Sx (1024 * (1 - ci)) (A.1 / 2)))), (gk, .inl (cI, 2048, .inl Kx)), (gv, .inl (cI, 2048, .inl Vx)), (gz, .inl (cI, 2, .inl (upd Zx (1 - ci) (nI (A.1 / 2)))))] := by rw [eq]; exact hD
                exact W.vret hx hb hr (fun t ht hW => ⟨⟨(1 - ci, (q_clr Sx (1024 * (1 - ci)) (A.1 / 2), Kx, Vx), upd Zx (1 - ci) (nI (A.1 / 2)), 1, nI 0), rfl, hRL, by rw [ht]; exact hP, va_K.moved hW.alike hK, hD⟩, hS.F ht⟩) hS.2.2 dX2_settle_81
        · have h_37 := q_lt_f (a := 4 * kc) (b := 3 * A.1) (by omega) (by omega) c_37
          refine lv_aload_n hx hb dX2_settle_40 rfl (lv_at hl 1 rfl) ?_
          refine lv_iconst (v := 2) hx hb dX2_settle_41 (by decide) ?_
          refine lv_iload_n hx hb dX2_settle_42 rfl (lv_at hl 0 rfl) ?_
          refine lv_imul hx hb dX2_settle_43 ?_
          refine r_eq (z := nI (2 * A.1)) (pk_mul 2 A.1) ?_
          refine r_muV (wr := []) (rest := []) S0 (c_X2_become l dC dI cI g0 gs gk gv gz L Sx Kx Vx Zx x0 0 x8 (nI kc) (nI vi) x11 ci (2 * A.1) s.heap.size hci (by omega)) (cwV 1 hts gX2_settle_X2_become rfl rfl rfl (by decide +kernel) ⟨Nat.le_of_ble_eq_true rfl, Nat.le_of_ble_eq_true rfl⟩) hK hP hD hS hA [0, 1, 2, 3, 4] [] rfl rfl (by decide) (by decide) (by decide) (ci := 2) (q0 := 0) rfl rfl rfl rfl hl.1 rfl (Nat.le_of_ble_eq_true rfl) dX2_settle_44 ⟨Nat.zero_le _, Nat.zero_le _⟩ (fun _ H locs hu hP hD hS => ?_)
          have hP : va_P (dC, dI) vwCl [(g0, .inr (2, [.int x0, .int (nI L), .ref gs, .ref gk, .ref gv, .ref gz, .int (nI (1 - ci)), .int 1, .int (nI 0), .int (nI kc), .int (nI vi), .int x11])), (gs, .inl (cI, 2048, .inl (q_clr Sx (1024 * (1 - ci)) (2 * A.1)))), (gk, .inl (cI, 2048, .inl Kx)), (gv, .inl (cI, 2048, .inl Vx)), (gz, .inl (cI, 2, .inl (upd Zx (1 - ci) (nI (2 * A.1)))))] H := hP.sub [0, 1, 2, 3, 4] rfl
          have hD : va_D Aq [(g0, .inr (2, [.int x0, .int (nI L), .ref gs, .ref gk, .ref gv, .ref gz, .int (nI (1 - ci)), .int 1, .int (nI 0), .int (nI kc), .int (nI vi), .int x11])), (gs, .inl (cI, 2048, .inl (q_clr Sx (1024 * (1 - ci)) (2 * A.1)))), (gk, .inl (cI, 2048, .inl Kx)), (gv, .inl (cI, 2048, .inl Vx)), (gz, .inl (cI, 2, .inl (upd Zx (1 - ci) (nI (2 * A.1)))))] := hD.sub [0, 1, 2, 3, 4] (by decide) rfl
          refine lv_goto (tgt := 81) hx hb dX2_settle_47 (by decide) ?_
          have eq : q_on A B none kc vi = q_start A B (2 * A.1) kc vi := (q_on_n _ _ _ _).trans (q_set0_1 (by omega))
          have hRL : q_RL (q_on A B none kc vi) (1 - ci) (q_clr Sx (1024 * (1 - ci)) (2 * A.1)) Kx Vx (upd Zx (1 - ci) (nI (2 * A.1))) 1 (nI 0) := by rw [eq]; exact q_RL_start hci hzA hRTA (by omega) (by omega)
          have hP : va_P (dC, dI) vwCl [(g0, .inr (2, [.int x0, .int (nI L), .ref gs, .ref gk, .ref gv, .ref gz, .int (nI (1 - ci)), .int 1, .int (nI 0), .int (nI kc), .int (nI (q_on A B none kc vi).2.2.2.2), .int x11])), (gs, .inl (cI, 2048, .inl (q_clr Sx (1024 * (1 - ci)) (2 * A.1)))), (gk, .inl (cI, 2048, .inl Kx)), (gv, .inl (cI, 2048, .inl Vx)), (gz, .inl (cI, 2, .inl (upd Zx (1 - ci) (nI (2 * A.1)))))] H := by rw [eq]; exact hP
          have hD : va_D Aq [(g0, .inr (2, [.int x0, .int (nI L), .ref gs, .ref gk, .ref gv, .ref gz, .int (nI (1 - ci)), .int 1, .int (nI 0), .int (nI kc), .int (nI (q_on A B none kc vi).2.2.2.2), .int x11])), (gs, .inl (cI, 2048, .inl (q_clr Sx (1024 * (1 - ci)) (2 * A.1)))), (gk, .inl (cI, 2048, .inl Kx)), (gv, .inl (cI, 2048, .inl Vx)), (gz, .inl (cI, 2, .inl (upd Zx (1 - ci) (nI (2 * A.1)))))] := by rw [eq]; exact hD
          exact W.vret hx hb hr (fun t ht hW => ⟨⟨(1 - ci, (q_clr Sx (1024 * (1 - ci)) (2 * A.1), Kx, Vx), upd Zx (1 - ci) (nI (2 * A.1)), 1, nI 0), rfl, hRL, by rw [ht]; exact hP, va_K.moved hW.alike hK, hD⟩, hS.F ht⟩) hS.2.2 dX2_settle_81
    · have h_4 := q_eq_f (a := 0) (b := 0) (by omega) (by omega) c_4
      omega
  · obtain ⟨hM, hk9, hc4, hcB, h49, h29⟩ := hW2
    have hB4 := q_pw_4 hpB
    obtain ⟨hcr, hzB, hRTB⟩ := hcr cu rfl
    have hzB : Zx (1 - ci) = nI B.1 := hzB
    have hRTB : q_RT Sx Kx Vx (1 - ci) B := hRTB
    obtain ⟨hn1, hn2⟩ := q_mvs_n 4 A B cu
    obtain ⟨Z9, hZ⟩ : ∃ z, q_mvs 4 A B cu = z := ⟨_, rfl⟩
    rw [hZ] at hn1 hn2
    have e_0_7 : x7 = 1 := hmv.trans (q_b_t rfl)
    have hP : va_P (dC, dI) vwCl [(g0, .inr (2, [.int x0, .int (nI L), .ref gs, .ref gk, .ref gv, .ref gz, .int (nI ci), .int 1, .int x8, .int (nI kc), .int (nI vi), .int x11])), (gs, .inl (cI, 2048, .inl Sx)), (gk, .inl (cI, 2048, .inl Kx)), (gv, .inl (cI, 2048, .inl Vx)), (gz, .inl (cI, 2, .inl Zx))] s.heap := by rw [← e_0_7]; exact hP
    have hD : va_D Aq [(g0, .inr (2, [.int x0, .int (nI L), .ref gs, .ref gk, .ref gv, .ref gz, .int (nI ci), .int 1, .int x8, .int (nI kc), .int (nI vi), .int x11])), (gs, .inl (cI, 2048, .inl Sx)), (gk, .inl (cI, 2048, .inl Kx)), (gv, .inl (cI, 2048, .inl Vx)), (gz, .inl (cI, 2, .inl Zx))] := by rw [← e_0_7]; exact hD
    have e_0_8 : x8 = nI cu := hcr
    have hP : va_P (dC, dI) vwCl [(g0, .inr (2, [.int x0, .int (nI L), .ref gs, .ref gk, .ref gv, .ref gz, .int (nI ci), .int 1, .int (nI cu), .int (nI kc), .int (nI vi), .int x11])), (gs, .inl (cI, 2048, .inl Sx)), (gk, .inl (cI, 2048, .inl Kx)), (gv, .inl (cI, 2048, .inl Vx)), (gz, .inl (cI, 2, .inl Zx))] s.heap := by rw [← e_0_8]; exact hP
    have hD : va_D Aq [(g0, .inr (2, [.int x0, .int (nI L), .ref gs, .ref gk, .ref gv, .ref gz, .int (nI ci), .int 1, .int (nI cu), .int (nI kc), .int (nI vi), .int x11])), (gs, .inl (cI, 2048, .inl Sx)), (gk, .inl (cI, 2048, .inl Kx)), (gv, .inl (cI, 2048, .inl Vx)), (gz, .inl (cI, 2, .inl Zx))] := by rw [← e_0_8]; exact hD
    refine lv_aload_n hx hb dX2_settle_0 rfl (lv_at hl 0 rfl) ?_
    refine va_get (D := (dC, dI)) (ci := 2) (v := .int 1) (C := RX2) (T := TX2) (N := 12) hx hb hts hin_X2_settle_X2 hown hK hP 0 rfl rfl 7 (by decide) (hts (.fieldLink RX2 56 "StepMapModel" "moving" "Z") (by decide +kernel)) (fun _ h9 => h9) rfl dX2_settle_1 ?_
    refine lv_if_eq (tgt := 11) hx hb dX2_settle_4 (by decide) (fun c_4 => ?_) (fun c_4 => ?_)
    · have h_4 := q_eq_t (a := 1) (b := 0) (by omega) (by omega) c_4
      omega
    · have h_4 := q_eq_f (a := 1) (b := 0) (by omega) (by omega) c_4
      refine lv_aload_n hx hb dX2_settle_7 rfl (lv_at hl 0 rfl) ?_
      refine r_muV (wr := []) (rest := []) S0 (c_X2_moveSome l dC dI cI g0 gs gk gv gz L Sx Kx Vx Zx x0 1 (nI kc) x11 ci vi cu A B s.heap.size hci hzA hzB hpA hpB hM (by omega) hRTA hRTB) (cwV 0 hts gX2_settle_X2_moveSome rfl rfl rfl (by decide +kernel) ⟨Nat.le_of_ble_eq_true rfl, Nat.le_of_ble_eq_true rfl⟩) hK hP hD hS hA [0, 1, 2, 3, 4] [] rfl rfl (by decide) (by decide) (by decide) (ci := 2) (q0 := 0) rfl rfl rfl rfl hl.1 rfl (Nat.le_of_ble_eq_true rfl) dX2_settle_8 ⟨Nat.zero_le _, Nat.zero_le _⟩ (fun u H locs hu hP hD hS => ?_)
      have hP : va_P (dC, dI) vwCl [(g0, .inr (2, [.int x0, .int (nI L), .ref gs, .ref gk, .ref gv, .ref gz, .int (nI ci), .int (q_b (cu + 4 < B.1)), .int (nI (cu + 4)), .int (nI kc), .int (nI (vi + (q_mvs 4 A B cu).2.2)), .int x11])), (gs, .inl (cI, 2048, .inl u.1)), (gk, .inl (cI, 2048, .inl u.2.1)), (gv, .inl (cI, 2048, .inl u.2.2)), (gz, .inl (cI, 2, .inl Zx))] H := hP.sub [0, 1, 2, 3, 4] rfl
      have hD : va_D Aq [(g0, .inr (2, [.int x0, .int (nI L), .ref gs, .ref gk, .ref gv, .ref gz, .int (nI ci), .int (q_b (cu + 4 < B.1)), .int (nI (cu + 4)), .int (nI kc), .int (nI (vi + (q_mvs 4 A B cu).2.2)), .int x11])), (gs, .inl (cI, 2048, .inl u.1)), (gk, .inl (cI, 2048, .inl u.2.1)), (gv, .inl (cI, 2048, .inl u.2.2)), (gz, .inl (cI, 2, .inl Zx))] := hD.sub [0, 1, 2, 3, 4] (by decide) rfl
      rw [hZ] at hP hD hu
      have hP : va_P (dC, dI) vwCl [(g0, .inr (2, [.int x0, .int (nI L), .ref gs, .ref gk, .ref gv, .ref gz, .int (nI ci), .int (q_b (cu + 4 < B.1)), .int (nI (cu + 4)), .int (nI kc), .int (nI (vi + Z9.2.2)), .int x11])), (gs, .inl (cI, 2048, .inl u.1)), (gk, .inl (cI, 2048, .inl u.2.1)), (gv, .inl (cI, 2048, .inl u.2.2)), (gz, .inl (cI, 2, .inl Zx))] H := hP
      have hD : va_D Aq [(g0, .inr (2, [.int x0, .int (nI L), .ref gs, .ref gk, .ref gv, .ref gz, .int (nI ci), .int (q_b (cu + 4 < B.1)), .int (nI (cu + 4)), .int (nI kc), .int (nI (vi + Z9.2.2)), .int x11])), (gs, .inl (cI, 2048, .inl u.1)), (gk, .inl (cI, 2048, .inl u.2.1)), (gv, .inl (cI, 2048, .inl u.2.2)), (gz, .inl (cI, 2, .inl Zx))] := hD
      obtain ⟨g5, g6⟩ := hu
      by_cases hlt : cu + 4 < B.1
      · have e_0_7 : q_b (cu + 4 < B.1) = 1 := q_b_t hlt
        have hP : va_P (dC, dI) vwCl [(g0, .inr (2, [.int x0, .int (nI L), .ref gs, .ref gk, .ref gv, .ref gz, .int (nI ci), .int 1, .int (nI (cu + 4)), .int (nI kc), .int (nI (vi + Z9.2.2)), .int x11])), (gs, .inl (cI, 2048, .inl u.1)), (gk, .inl (cI, 2048, .inl u.2.1)), (gv, .inl (cI, 2048, .inl u.2.2)), (gz, .inl (cI, 2, .inl Zx))] H := by rw [← e_0_7]; exact hP
        have hD : va_D Aq [(g0, .inr (2, [.int x0, .int (nI L), .ref gs, .ref gk, .ref gv, .ref gz, .int (nI ci), .int 1, .int (nI (cu + 4)), .int (nI kc), .int (nI (vi + Z9.2.2)), .int x11])), (gs, .inl (cI, 2048, .inl u.1)), (gk, .inl (cI, 2048, .inl u.2.1)), (gv, .inl (cI, 2048, .inl u.2.2)), (gz, .inl (cI, 2, .inl Zx))] := by rw [← e_0_7]; exact hD
        refine lv_aload_n hx hb dX2_settle_11 rfl (lv_at hl 0 rfl) ?_
        refine va_get (D := (dC, dI)) (ci := 2) (v := .ref gz) (C := RX2) (T := TX2) (N := 12) hx hb hts hin_X2_settle_X2 hown hK hP 0 rfl rfl 5 (by decide) (hts (.fieldLink RX2 19 "StepMapModel" "sizes" "[I") (by decide +kernel)) (fun _ h9 => h9) rfl dX2_settle_12 ?_
        refine lv_aload_n hx hb dX2_settle_15 rfl (lv_at hl 0 rfl) ?_
        refine va_get (D := (dC, dI)) (ci := 2) (v := .int (nI ci)) (C := RX2) (T := TX2) (N := 12) hx hb hts hin_X2_settle_X2 hown hK hP 0 rfl rfl 6 (by decide) (hts (.fieldLink RX2 43 "StepMapModel" "current" "I") (by decide +kernel)) (fun _ h9 => h9) rfl dX2_settle_16 ?_
        refine r_ld (i := ci) hx hb hK hP 4 0 rfl rfl (by omega) (by omega) dX2_settle_19 ?_
        refine r_eq (z := nI A.1) (hzA) ?_
        refine lv_istore_n (lv' := [(1, .int (nI A.1)), (0, .ref g0)]) hx hb dX2_settle_20 rfl hl (by decide) rfl (fun ls hl => ?_)
        refine lv_aload_n hx hb dX2_settle_21 rfl (lv_at hl 1 rfl) ?_
        refine va_get (D := (dC, dI)) (ci := 2) (v := .int 1) (C := RX2) (T := TX2) (N := 12) hx hb hts hin_X2_settle_X2 hown hK hP 0 rfl rfl 7 (by decide) (hts (.fieldLink RX2 56 "StepMapModel" "moving" "Z") (by decide +kernel)) (fun _ h9 => h9) rfl dX2_settle_22 ?_
        refine lv_if_ne (tgt := 50) hx hb dX2_settle_25 (by decide) (fun c_25 => ?_) (fun c_25 => ?_)
        · have h_25 := q_eq_f (a := 1) (b := 0) (by omega) (by omega) c_25
          refine lv_aload_n hx hb dX2_settle_50 rfl (lv_at hl 1 rfl) ?_
          refine va_get (D := (dC, dI)) (ci := 2) (v := .int 1) (C := RX2) (T := TX2) (N := 12) hx hb hts hin_X2_settle_X2 hown hK hP 0 rfl rfl 7 (by decide) (hts (.fieldLink RX2 56 "StepMapModel" "moving" "Z") (by decide +kernel)) (fun _ h9 => h9) rfl dX2_settle_51 ?_
          refine lv_if_ne (tgt := 81) hx hb dX2_settle_54 (by decide) (fun c_54 => ?_) (fun c_54 => ?_)
          · have h_54 := q_eq_f (a := 1) (b := 0) (by omega) (by omega) c_54
            have eq : q_on A B (some cu) kc vi = (Z9.1, Z9.2.1, some (cu + 4), kc, vi + Z9.2.2) := (q_on_c hlt).trans (by rw [hZ])
            have hRL : q_RL (q_on A B (some cu) kc vi) ci u.1 u.2.1 u.2.2 Zx 1 (nI (cu + 4)) := by rw [eq]; exact q_RL_some hci (by rw [hn1]; exact hzA) g5 (by rw [hn2]; exact hzB) g6
            have hP : va_P (dC, dI) vwCl [(g0, .inr (2, [.int x0, .int (nI L), .ref gs, .ref gk, .ref gv, .ref gz, .int (nI ci), .int 1, .int (nI (cu + 4)), .int (nI kc), .int (nI (q_on A B (some cu) kc vi).2.2.2.2), .int x11])), (gs, .inl (cI, 2048, .inl u.1)), (gk, .inl (cI, 2048, .inl u.2.1)), (gv, .inl (cI, 2048, .inl u.2.2)), (gz, .inl (cI, 2, .inl Zx))] H := by rw [eq]; exact hP
            have hD : va_D Aq [(g0, .inr (2, [.int x0, .int (nI L), .ref gs, .ref gk, .ref gv, .ref gz, .int (nI ci), .int 1, .int (nI (cu + 4)), .int (nI kc), .int (nI (q_on A B (some cu) kc vi).2.2.2.2), .int x11])), (gs, .inl (cI, 2048, .inl u.1)), (gk, .inl (cI, 2048, .inl u.2.1)), (gv, .inl (cI, 2048, .inl u.2.2)), (gz, .inl (cI, 2, .inl Zx))] := by rw [eq]; exact hD
            exact W.vret hx hb hr (fun t ht hW => ⟨⟨(ci, (u.1, u.2.1, u.2.2), Zx, 1, nI (cu + 4)), rfl, hRL, by rw [ht]; exact hP, va_K.moved hW.alike hK, hD⟩, hS.F ht⟩) hS.2.2 dX2_settle_81
          · have h_54 := q_eq_t (a := 1) (b := 0) (by omega) (by omega) c_54
            omega
        · have h_25 := q_eq_t (a := 1) (b := 0) (by omega) (by omega) c_25
          omega
      · have e_0_7 : q_b (cu + 4 < B.1) = 0 := q_b_f hlt
        have hP : va_P (dC, dI) vwCl [(g0, .inr (2, [.int x0, .int (nI L), .ref gs, .ref gk, .ref gv, .ref gz, .int (nI ci), .int 0, .int (nI (cu + 4)), .int (nI kc), .int (nI (vi + Z9.2.2)), .int x11])), (gs, .inl (cI, 2048, .inl u.1)), (gk, .inl (cI, 2048, .inl u.2.1)), (gv, .inl (cI, 2048, .inl u.2.2)), (gz, .inl (cI, 2, .inl Zx))] H := by rw [← e_0_7]; exact hP
        have hD : va_D Aq [(g0, .inr (2, [.int x0, .int (nI L), .ref gs, .ref gk, .ref gv, .ref gz, .int (nI ci), .int 0, .int (nI (cu + 4)), .int (nI kc), .int (nI (vi + Z9.2.2)), .int x11])), (gs, .inl (cI, 2048, .inl u.1)), (gk, .inl (cI, 2048, .inl u.2.1)), (gv, .inl (cI, 2048, .inl u.2.2)), (gz, .inl (cI, 2, .inl Zx))] := by rw [← e_0_7]; exact hD
        refine lv_aload_n hx hb dX2_settle_11 rfl (lv_at hl 0 rfl) ?_
        refine va_get (D := (dC, dI)) (ci := 2) (v := .ref gz) (C := RX2) (T := TX2) (N := 12) hx hb hts hin_X2_settle_X2 hown hK hP 0 rfl rfl 5 (by decide) (hts (.fieldLink RX2 19 "StepMapModel" "sizes" "[I") (by decide +kernel)) (fun _ h9 => h9) rfl dX2_settle_12 ?_
        refine lv_aload_n hx hb dX2_settle_15 rfl (lv_at hl 0 rfl) ?_
        refine va_get (D := (dC, dI)) (ci := 2) (v := .int (nI ci)) (C := RX2) (T := TX2) (N := 12) hx hb hts hin_X2_settle_X2 hown hK hP 0 rfl rfl 6 (by decide) (hts (.fieldLink RX2 43 "StepMapModel" "current" "I") (by decide +kernel)) (fun _ h9 => h9) rfl dX2_settle_16 ?_
        refine r_ld (i := ci) hx hb hK hP 4 0 rfl rfl (by omega) (by omega) dX2_settle_19 ?_
        refine r_eq (z := nI A.1) (hzA) ?_
        refine lv_istore_n (lv' := [(1, .int (nI A.1)), (0, .ref g0)]) hx hb dX2_settle_20 rfl hl (by decide) rfl (fun ls hl => ?_)
        refine lv_aload_n hx hb dX2_settle_21 rfl (lv_at hl 1 rfl) ?_
        refine va_get (D := (dC, dI)) (ci := 2) (v := .int 0) (C := RX2) (T := TX2) (N := 12) hx hb hts hin_X2_settle_X2 hown hK hP 0 rfl rfl 7 (by decide) (hts (.fieldLink RX2 56 "StepMapModel" "moving" "Z") (by decide +kernel)) (fun _ h9 => h9) rfl dX2_settle_22 ?_
        refine lv_if_ne (tgt := 50) hx hb dX2_settle_25 (by decide) (fun c_25 => ?_) (fun c_25 => ?_)
        · have h_25 := q_eq_f (a := 0) (b := 0) (by omega) (by omega) c_25
          omega
        · have h_25 := q_eq_t (a := 0) (b := 0) (by omega) (by omega) c_25
          refine lv_iconst (v := 4) hx hb dX2_settle_28 (by decide) ?_
          refine lv_aload_n hx hb dX2_settle_29 rfl (lv_at hl 1 rfl) ?_
          refine va_get (D := (dC, dI)) (ci := 2) (v := .int (nI kc)) (C := RX2) (T := TX2) (N := 12) hx hb hts hin_X2_settle_X2 hown hK hP 0 rfl rfl 9 (by decide) (hts (.fieldLink RX2 63 "StepMapModel" "count" "I") (by decide +kernel)) (fun _ h9 => h9) rfl dX2_settle_30 ?_
          refine lv_imul hx hb dX2_settle_33 ?_
          refine r_eq (z := nI (4 * kc)) (pk_mul 4 kc) ?_
          refine lv_iconst (v := 3) hx hb dX2_settle_34 (by decide) ?_
          refine lv_iload_n hx hb dX2_settle_35 rfl (lv_at hl 0 rfl) ?_
          refine lv_imul hx hb dX2_settle_36 ?_
          refine r_eq (z := nI (3 * A.1)) (pk_mul 3 A.1) ?_
          refine lv_icmp_lt (tgt := 50) hx hb dX2_settle_37 (by decide) (fun c_37 => ?_) (fun c_37 => ?_)
          · have h_37 := q_lt_t (a := 4 * kc) (b := 3 * A.1) (by omega) (by omega) c_37
            refine lv_aload_n hx hb dX2_settle_50 rfl (lv_at hl 1 rfl) ?_
            refine va_get (D := (dC, dI)) (ci := 2) (v := .int 0) (C := RX2) (T := TX2) (N := 12) hx hb hts hin_X2_settle_X2 hown hK hP 0 rfl rfl 7 (by decide) (hts (.fieldLink RX2 56 "StepMapModel" "moving" "Z") (by decide +kernel)) (fun _ h9 => h9) rfl dX2_settle_51 ?_
            refine lv_if_ne (tgt := 81) hx hb dX2_settle_54 (by decide) (fun c_54 => ?_) (fun c_54 => ?_)
            · have h_54 := q_eq_f (a := 0) (b := 0) (by omega) (by omega) c_54
              omega
            · have h_54 := q_eq_t (a := 0) (b := 0) (by omega) (by omega) c_54
              refine lv_iload_n hx hb dX2_settle_57 rfl (lv_at hl 0 rfl) ?_
              refine lv_bipush (v := 8) hx hb dX2_settle_58 (by decide) ?_
              refine lv_icmp_le (tgt := 81) hx hb dX2_settle_60 (by decide) (fun c_60 => ?_) (fun c_60 => ?_)
              · have h_60 := q_le_t (a := A.1) (b := 8) (by omega) (by omega) c_60
                have eq : q_on A B (some cu) kc vi = (Z9.1, Z9.2.1, none, kc, (vi + Z9.2.2)) := (show q_on A B (some cu) kc vi = q_set0 Z9.1 Z9.2.1 kc (vi + Z9.2.2) by rw [q_on_e hlt, hZ]).trans (q_set0_3 (by omega) (by omega))
                have hRL : q_RL (q_on A B (some cu) kc vi) ci u.1 u.2.1 u.2.2 Zx 0 (nI (cu + 4)) := by rw [eq]; exact q_RL_none hci (by rw [hn1]; exact hzA) g5
                have hP : va_P (dC, dI) vwCl [(g0, .inr (2, [.int x0, .int (nI L), .ref gs, .ref gk, .ref gv, .ref gz, .int (nI ci), .int 0, .int (nI (cu + 4)), .int (nI kc), .int (nI (q_on A B (some cu) kc vi).2.2.2.2), .int x11])), (gs, .inl (cI, 2048, .inl u.1)), (gk, .inl (cI, 2048, .inl u.2.1)), (gv, .inl (cI, 2048, .inl u.2.2)), (gz, .inl (cI, 2, .inl Zx))] H := by rw [eq]; exact hP
                have hD : va_D Aq [(g0, .inr (2, [.int x0, .int (nI L), .ref gs, .ref gk, .ref gv, .ref gz, .int (nI ci), .int 0, .int (nI (cu + 4)), .int (nI kc), .int (nI (q_on A B (some cu) kc vi).2.2.2.2), .int x11])), (gs, .inl (cI, 2048, .inl u.1)), (gk, .inl (cI, 2048, .inl u.2.1)), (gv, .inl (cI, 2048, .inl u.2.2)), (gz, .inl (cI, 2, .inl Zx))] := by rw [eq]; exact hD
                exact W.vret hx hb hr (fun t ht hW => ⟨⟨(ci, (u.1, u.2.1, u.2.2), Zx, 0, nI (cu + 4)), rfl, hRL, by rw [ht]; exact hP, va_K.moved hW.alike hK, hD⟩, hS.F ht⟩) hS.2.2 dX2_settle_81
              · have h_60 := q_le_f (a := A.1) (b := 8) (by omega) (by omega) c_60
                refine lv_bipush (v := 8) hx hb dX2_settle_63 (by decide) ?_
                refine lv_aload_n hx hb dX2_settle_65 rfl (lv_at hl 1 rfl) ?_
                refine va_get (D := (dC, dI)) (ci := 2) (v := .int (nI kc)) (C := RX2) (T := TX2) (N := 12) hx hb hts hin_X2_settle_X2 hown hK hP 0 rfl rfl 9 (by decide) (hts (.fieldLink RX2 63 "StepMapModel" "count" "I") (by decide +kernel)) (fun _ h9 => h9) rfl dX2_settle_66 ?_
                refine lv_imul hx hb dX2_settle_69 ?_
                refine r_eq (z := nI (8 * kc)) (pk_mul 8 kc) ?_
                refine lv_iload_n hx hb dX2_settle_70 rfl (lv_at hl 0 rfl) ?_
                refine lv_icmp_gt (tgt := 81) hx hb dX2_settle_71 (by decide) (fun c_71 => ?_) (fun c_71 => ?_)
                · have h_71 := q_lt_t (a := A.1) (b := 8 * kc) (by omega) (by omega) c_71
                  have eq : q_on A B (some cu) kc vi = (Z9.1, Z9.2.1, none, kc, (vi + Z9.2.2)) := (show q_on A B (some cu) kc vi = q_set0 Z9.1 Z9.2.1 kc (vi + Z9.2.2) by rw [q_on_e hlt, hZ]).trans (q_set0_3 (by omega) (by omega))
                  have hRL : q_RL (q_on A B (some cu) kc vi) ci u.1 u.2.1 u.2.2 Zx 0 (nI (cu + 4)) := by rw [eq]; exact q_RL_none hci (by rw [hn1]; exact hzA) g5
                  have hP : va_P (dC, dI) vwCl [(g0, .inr (2, [.int x0, .int (nI L), .ref gs, .ref gk, .ref gv, .ref gz, .int (nI ci), .int 0, .int (nI (cu + 4)), .int (nI kc), .int (nI (q_on A B (some cu) kc vi).2.2.2.2), .int x11])), (gs, .inl (cI, 2048, .inl u.1)), (gk, .inl (cI, 2048, .inl u.2.1)), (gv, .inl (cI, 2048, .inl u.2.2)), (gz, .inl (cI, 2, .inl Zx))] H := by rw [eq]; exact hP
                  have hD : va_D Aq [(g0, .inr (2, [.int x0, .int (nI L), .ref gs, .ref gk, .ref gv, .ref gz, .int (nI ci), .int 0, .int (nI (cu + 4)), .int (nI kc), .int (nI (q_on A B (some cu) kc vi).2.2.2.2), .int x11])), (gs, .inl (cI, 2048, .inl u.1)), (gk, .inl (cI, 2048, .inl u.2.1)), (gv, .inl (cI, 2048, .inl u.2.2)), (gz, .inl (cI, 2, .inl Zx))] := by rw [eq]; exact hD
                  exact W.vret hx hb hr (fun t ht hW => ⟨⟨(ci, (u.1, u.2.1, u.2.2), Zx, 0, nI (cu + 4)), rfl, hRL, by rw [ht]; exact hP, va_K.moved hW.alike hK, hD⟩, hS.F ht⟩) hS.2.2 dX2_settle_81
                · have h_71 := q_lt_f (a := A.1) (b := 8 * kc) (by omega) (by omega) c_71
                  refine lv_aload_n hx hb dX2_settle_74 rfl (lv_at hl 1 rfl) ?_
                  refine lv_iload_n hx hb dX2_settle_75 rfl (lv_at hl 0 rfl) ?_
                  refine lv_iconst (v := 2) hx hb dX2_settle_76 (by decide) ?_
                  refine lv_idiv hx hb dX2_settle_77 (by decide) ?_
                  refine r_eq (z := nI (A.1 / 2)) (pk_div (d := 2) (by omega) (by omega) (by omega)) ?_
                  refine r_muV (wr := []) (rest := []) S0 (c_X2_become l dC dI cI g0 gs gk gv gz L u.1 u.2.1 u.2.2 Zx x0 0 (nI (cu + 4)) (nI kc) (nI (vi + Z9.2.2)) x11 ci (A.1 / 2) H.size hci (by omega)) (cwV 1 hts gX2_settle_X2_become rfl rfl rfl (by decide +kernel) ⟨Nat.le_of_ble_eq_true rfl, Nat.le_of_ble_eq_true rfl⟩) hK hP hD hS hA [0, 1, 2, 3, 4] [] rfl rfl (by decide) (by decide) (by decide) (ci := 2) (q0 := 0) rfl rfl rfl rfl hl.1 rfl (Nat.le_of_ble_eq_true rfl) dX2_settle_78 ⟨Nat.zero_le _, Nat.zero_le _⟩ (fun _ H locs hu hP hD hS => ?_)
                  have hP : va_P (dC, dI) vwCl [(g0, .inr (2, [.int x0, .int (nI L), .ref gs, .ref gk, .ref gv, .ref gz, .int (nI (1 - ci)), .int 1, .int (nI 0), .int (nI kc), .int (nI (vi + Z9.2.2)), .int x11])), (gs, .inl (cI, 2048, .inl (q_clr u.1 (1024 * (1 - ci)) (A.1 / 2)))), (gk, .inl (cI, 2048, .inl u.2.1)), (gv, .inl (cI, 2048, .inl u.2.2)), (gz, .inl (cI, 2, .inl (upd Zx (1 - ci) (nI (A.1 / 2)))))] H := hP.sub [0, 1, 2, 3, 4] rfl
                  have hD : va_D Aq [(g0, .inr (2, [.int x0, .int (nI L), .ref gs, .ref gk, .ref gv, .ref gz, .int (nI (1 - ci)), .int 1, .int (nI 0), .int (nI kc), .int (nI (vi + Z9.2.2)), .int x11])), (gs, .inl (cI, 2048, .inl (q_clr u.1 (1024 * (1 - ci)) (A.1 / 2)))), (gk, .inl (cI, 2048, .inl u.2.1)), (gv, .inl (cI, 2048, .inl u.2.2)), (gz, .inl (cI, 2, .inl (upd Zx (1 - ci) (nI (A.1 / 2)))))] := hD.sub [0, 1, 2, 3, 4] (by decide) rfl
                  have eq : q_on A B (some cu) kc vi = q_start Z9.1 Z9.2.1 (Z9.1.1 / 2) kc (vi + Z9.2.2) := (show q_on A B (some cu) kc vi = q_set0 Z9.1 Z9.2.1 kc (vi + Z9.2.2) by rw [q_on_e hlt, hZ]).trans (q_set0_2 (by omega) (by omega))
                  have hz9 : Zx ci = nI Z9.1.1 := by rw [hn1]; exact hzA
                  have h9 := q_RL_start (Z := Zx) (B := Z9.2.1) (kc := kc) (w := vi + Z9.2.2) (q := A.1 / 2) hci hz9 g5 (by omega) (by omega)
                  have hRL : q_RL (q_on A B (some cu) kc vi) (1 - ci) (q_clr u.1 (1024 * (1 - ci)) (A.1 / 2)) u.2.1 u.2.2 (upd Zx (1 - ci) (nI (A.1 / 2))) 1 (nI 0) := by rw [eq, hn1]; exact h9
                  have hP : va_P (dC, dI) vwCl [(g0, .inr (2, [.int x0, .int (nI L), .ref gs, .ref gk, .ref gv, .ref gz, .int (nI (1 - ci)), .int 1, .int (nI 0), .int (nI kc), .int (nI (q_on A B (some cu) kc vi).2.2.2.2), .int x11])), (gs, .inl (cI, 2048, .inl (q_clr u.1 (1024 * (1 - ci)) (A.1 / 2)))), (gk, .inl (cI, 2048, .inl u.2.1)), (gv, .inl (cI, 2048, .inl u.2.2)), (gz, .inl (cI, 2, .inl (upd Zx (1 - ci) (nI (A.1 / 2)))))] H := by rw [eq]; exact hP
                  have hD : va_D Aq [(g0, .inr (2, [.int x0, .int (nI L), .ref gs, .ref gk, .ref gv, .ref gz, .int (nI (1 - ci)), .int 1, .int (nI 0), .int (nI kc), .int (nI (q_on A B (some cu) kc vi).2.2.2.2), .int x11])), (gs, .inl (cI, 2048, .inl (q_clr u.1 (1024 * (1 - ci)) (A.1 / 2)))), (gk, .inl (cI, 2048, .inl u.2.1)), (gv, .inl (cI, 2048, .inl u.2.2)), (gz, .inl (cI, 2, .inl (upd Zx (1 - ci) (nI (A.1 / 2)))))] := by rw [eq]; exact hD
                  exact W.vret hx hb hr (fun t ht hW => ⟨⟨(1 - ci, (q_clr u.1 (1024 * (1 - ci)) (A.1 / 2), u.2.1, u.2.2), upd Zx (1 - ci) (nI (A.1 / 2)), 1, nI 0), rfl, hRL, by rw [ht]; exact hP, va_K.moved hW.alike hK, hD⟩, hS.F ht⟩) hS.2.2 dX2_settle_81
          · have h_37 := q_lt_f (a := 4 * kc) (b := 3 * A.1) (by omega) (by omega) c_37
            refine lv_aload_n hx hb dX2_settle_40 rfl (lv_at hl 1 rfl) ?_
            refine lv_iconst (v := 2) hx hb dX2_settle_41 (by decide) ?_
            refine lv_iload_n hx hb dX2_settle_42 rfl (lv_at hl 0 rfl) ?_
            refine lv_imul hx hb dX2_settle_43 ?_
            refine r_eq (z := nI (2 * A.1)) (pk_mul 2 A.1) ?_
            refine r_muV (wr := []) (rest := []) S0 (c_X2_become l dC dI cI g0 gs gk gv gz L u.1 u.2.1 u.2.2 Zx x0 0 (nI (cu + 4)) (nI kc) (nI (vi + Z9.2.2)) x11 ci (2 * A.1) H.size hci (by omega)) (cwV 1 hts gX2_settle_X2_become rfl rfl rfl (by decide +kernel) ⟨Nat.le_of_ble_eq_true rfl, Nat.le_of_ble_eq_true rfl⟩) hK hP hD hS hA [0, 1, 2, 3, 4] [] rfl rfl (by decide) (by decide) (by decide) (ci := 2) (q0 := 0) rfl rfl rfl rfl hl.1 rfl (Nat.le_of_ble_eq_true rfl) dX2_settle_44 ⟨Nat.zero_le _, Nat.zero_le _⟩ (fun _ H locs hu hP hD hS => ?_)
            have hP : va_P (dC, dI) vwCl [(g0, .inr (2, [.int x0, .int (nI L), .ref gs, .ref gk, .ref gv, .ref gz, .int (nI (1 - ci)), .int 1, .int (nI 0), .int (nI kc), .int (nI (vi + Z9.2.2)), .int x11])), (gs, .inl (cI, 2048, .inl (q_clr u.1 (1024 * (1 - ci)) (2 * A.1)))), (gk, .inl (cI, 2048, .inl u.2.1)), (gv, .inl (cI, 2048, .inl u.2.2)), (gz, .inl (cI, 2, .inl (upd Zx (1 - ci) (nI (2 * A.1)))))] H := hP.sub [0, 1, 2, 3, 4] rfl
            have hD : va_D Aq [(g0, .inr (2, [.int x0, .int (nI L), .ref gs, .ref gk, .ref gv, .ref gz, .int (nI (1 - ci)), .int 1, .int (nI 0), .int (nI kc), .int (nI (vi + Z9.2.2)), .int x11])), (gs, .inl (cI, 2048, .inl (q_clr u.1 (1024 * (1 - ci)) (2 * A.1)))), (gk, .inl (cI, 2048, .inl u.2.1)), (gv, .inl (cI, 2048, .inl u.2.2)), (gz, .inl (cI, 2, .inl (upd Zx (1 - ci) (nI (2 * A.1)))))] := hD.sub [0, 1, 2, 3, 4] (by decide) rfl
            refine lv_goto (tgt := 81) hx hb dX2_settle_47 (by decide) ?_
            have eq : q_on A B (some cu) kc vi = q_start Z9.1 Z9.2.1 (2 * Z9.1.1) kc (vi + Z9.2.2) := (show q_on A B (some cu) kc vi = q_set0 Z9.1 Z9.2.1 kc (vi + Z9.2.2) by rw [q_on_e hlt, hZ]).trans (q_set0_1 (by omega))
            have hz9 : Zx ci = nI Z9.1.1 := by rw [hn1]; exact hzA
            have h9 := q_RL_start (Z := Zx) (B := Z9.2.1) (kc := kc) (w := vi + Z9.2.2) (q := 2 * A.1) hci hz9 g5 (by omega) (by omega)
            have hRL : q_RL (q_on A B (some cu) kc vi) (1 - ci) (q_clr u.1 (1024 * (1 - ci)) (2 * A.1)) u.2.1 u.2.2 (upd Zx (1 - ci) (nI (2 * A.1))) 1 (nI 0) := by rw [eq, hn1]; exact h9
            have hP : va_P (dC, dI) vwCl [(g0, .inr (2, [.int x0, .int (nI L), .ref gs, .ref gk, .ref gv, .ref gz, .int (nI (1 - ci)), .int 1, .int (nI 0), .int (nI kc), .int (nI (q_on A B (some cu) kc vi).2.2.2.2), .int x11])), (gs, .inl (cI, 2048, .inl (q_clr u.1 (1024 * (1 - ci)) (2 * A.1)))), (gk, .inl (cI, 2048, .inl u.2.1)), (gv, .inl (cI, 2048, .inl u.2.2)), (gz, .inl (cI, 2, .inl (upd Zx (1 - ci) (nI (2 * A.1)))))] H := by rw [eq]; exact hP
            have hD : va_D Aq [(g0, .inr (2, [.int x0, .int (nI L), .ref gs, .ref gk, .ref gv, .ref gz, .int (nI (1 - ci)), .int 1, .int (nI 0), .int (nI kc), .int (nI (q_on A B (some cu) kc vi).2.2.2.2), .int x11])), (gs, .inl (cI, 2048, .inl (q_clr u.1 (1024 * (1 - ci)) (2 * A.1)))), (gk, .inl (cI, 2048, .inl u.2.1)), (gv, .inl (cI, 2048, .inl u.2.2)), (gz, .inl (cI, 2, .inl (upd Zx (1 - ci) (nI (2 * A.1)))))] := by rw [eq]; exact hD
            exact W.vret hx hb hr (fun t ht hW => ⟨⟨(1 - ci, (q_clr u.1 (1024 * (1 - ci)) (2 * A.1), u.2.1, u.2.2), upd Zx (1 - ci) (nI (2 * A.1)), 1, nI 0), rfl, hRL, by rw [ht]; exact hP, va_K.moved hW.alike hK, hD⟩, hS.F ht⟩) hS.2.2 dX2_settle_81
end
