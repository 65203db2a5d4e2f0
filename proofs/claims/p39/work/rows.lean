section
-- begun with PART A of kit/laws/SKELETON and the head of claim/NAMES (given for pasting)
-- ===== PART A: goes FIRST, ahead of the names: the tables' words, and 'selects' of the private methods out of them =====
/-- a private method of a class that the tables say can be made, by its rows of tables_1 -/
def lw_okq (q : MethodName × Nat) : Prop := (q.1.cls ≠ "java/lang/invoke/MethodHandle" ∧ q.1.cls ≠ "java/lang/invoke/VarHandle") ∧ Cond.instantiable q.1.cls q.2 ∈ tables_1 ∧ Cond.privateMethod q.1 ∈ tables_1 ∧ Cond.instanceMethod q.1 ∈ tables_1
theorem lw_p0 : lw_okq (⟨"OrbitMailbox", "isStation", "(I)Z"⟩, 4) := ⟨⟨by decide +kernel, by decide +kernel⟩, List.mem_of_getElem? (i := 12) (by decide +kernel), List.mem_of_getElem? (i := 318) (by decide +kernel), List.mem_of_getElem? (i := 319) (by decide +kernel)⟩
theorem lw_p1 : lw_okq (⟨"OrbitMailbox$Station", "placeOf", "(I)I"⟩, 11) := ⟨⟨by decide +kernel, by decide +kernel⟩, List.mem_of_getElem? (i := 159) (by decide +kernel), List.mem_of_getElem? (i := 331) (by decide +kernel), List.mem_of_getElem? (i := 332) (by decide +kernel)⟩
theorem lw_p2 : lw_okq (⟨"OrbitMailbox$Satellite", "mayAsk", "(I)Z"⟩, 7) := ⟨⟨by decide +kernel, by decide +kernel⟩, List.mem_of_getElem? (i := 49) (by decide +kernel), List.mem_of_getElem? (i := 363) (by decide +kernel), List.mem_of_getElem? (i := 364) (by decide +kernel)⟩
theorem lw_p3 : lw_okq (⟨"OrbitMailbox$Station", "phaseAt", "(I)I"⟩, 11) := ⟨⟨by decide +kernel, by decide +kernel⟩, List.mem_of_getElem? (i := 159) (by decide +kernel), List.mem_of_getElem? (i := 371) (by decide +kernel), List.mem_of_getElem? (i := 372) (by decide +kernel)⟩
theorem lw_p4 : lw_okq (⟨"OrbitMailbox$Satellite", "putFirstHoles", "(IILOrbitMailbox$Intervals;I)I"⟩, 7) := ⟨⟨by decide +kernel, by decide +kernel⟩, List.mem_of_getElem? (i := 49) (by decide +kernel), List.mem_of_getElem? (i := 386) (by decide +kernel), List.mem_of_getElem? (i := 387) (by decide +kernel)⟩
theorem lw_p5 : lw_okq (⟨"OrbitMailbox$Intervals", "insert", "(III)Z"⟩, 3) := ⟨⟨by decide +kernel, by decide +kernel⟩, List.mem_of_getElem? (i := 70) (by decide +kernel), List.mem_of_getElem? (i := 404) (by decide +kernel), List.mem_of_getElem? (i := 405) (by decide +kernel)⟩
theorem lw_p6 : lw_okq (⟨"OrbitMailbox$Intervals", "removeRange", "(II)V"⟩, 3) := ⟨⟨by decide +kernel, by decide +kernel⟩, List.mem_of_getElem? (i := 70) (by decide +kernel), List.mem_of_getElem? (i := 411) (by decide +kernel), List.mem_of_getElem? (i := 412) (by decide +kernel)⟩
theorem lw_p7 : lw_okq (⟨"OrbitMailbox$Satellite", "dropRequests", "()V"⟩, 7) := ⟨⟨by decide +kernel, by decide +kernel⟩, List.mem_of_getElem? (i := 49) (by decide +kernel), List.mem_of_getElem? (i := 439) (by decide +kernel), List.mem_of_getElem? (i := 440) (by decide +kernel)⟩
theorem lw_p8 : lw_okq (⟨"OrbitMailbox$Satellite", "deliver", "()V"⟩, 7) := ⟨⟨by decide +kernel, by decide +kernel⟩, List.mem_of_getElem? (i := 49) (by decide +kernel), List.mem_of_getElem? (i := 464) (by decide +kernel), List.mem_of_getElem? (i := 465) (by decide +kernel)⟩
theorem lw_p9 : lw_okq (⟨"OrbitMailbox$Station", "takeBytes", "(LOrbitMailbox$Frame;)V"⟩, 11) := ⟨⟨by decide +kernel, by decide +kernel⟩, List.mem_of_getElem? (i := 159) (by decide +kernel), List.mem_of_getElem? (i := 480) (by decide +kernel), List.mem_of_getElem? (i := 481) (by decide +kernel)⟩
theorem lw_p10 : lw_okq (⟨"OrbitMailbox$Station", "takeEntry", "(LOrbitMailbox$Frame;)V"⟩, 11) := ⟨⟨by decide +kernel, by decide +kernel⟩, List.mem_of_getElem? (i := 159) (by decide +kernel), List.mem_of_getElem? (i := 490) (by decide +kernel), List.mem_of_getElem? (i := 491) (by decide +kernel)⟩
theorem lw_p11 : lw_okq (⟨"OrbitMailbox$Satellite", "send", "(LOrbitMailbox$Request;)V"⟩, 7) := ⟨⟨by decide +kernel, by decide +kernel⟩, List.mem_of_getElem? (i := 49) (by decide +kernel), List.mem_of_getElem? (i := 494) (by decide +kernel), List.mem_of_getElem? (i := 495) (by decide +kernel)⟩
theorem lw_p12 : lw_okq (⟨"OrbitMailbox$Satellite", "sendEntry", "(LOrbitMailbox$Intervals;)V"⟩, 7) := ⟨⟨by decide +kernel, by decide +kernel⟩, List.mem_of_getElem? (i := 49) (by decide +kernel), List.mem_of_getElem? (i := 498) (by decide +kernel), List.mem_of_getElem? (i := 499) (by decide +kernel)⟩
theorem lw_p13 : lw_okq (⟨"OrbitMailbox$Satellite", "sendBytes", "(ILOrbitMailbox$Intervals;)V"⟩, 7) := ⟨⟨by decide +kernel, by decide +kernel⟩, List.mem_of_getElem? (i := 49) (by decide +kernel), List.mem_of_getElem? (i := 514) (by decide +kernel), List.mem_of_getElem? (i := 515) (by decide +kernel)⟩
theorem lw_p14 : lw_okq (⟨"OrbitMailbox$Satellite", "settle", "(I)V"⟩, 7) := ⟨⟨by decide +kernel, by decide +kernel⟩, List.mem_of_getElem? (i := 49) (by decide +kernel), List.mem_of_getElem? (i := 518) (by decide +kernel), List.mem_of_getElem? (i := 519) (by decide +kernel)⟩
theorem lw_p15 : lw_okq (⟨"OrbitMailbox$RequestText", "readSubject", "()Z"⟩, 6) := ⟨⟨by decide +kernel, by decide +kernel⟩, List.mem_of_getElem? (i := 241) (by decide +kernel), List.mem_of_getElem? (i := 702) (by decide +kernel), List.mem_of_getElem? (i := 703) (by decide +kernel)⟩
def lw_privs_1 : List (MethodName × Nat) := [(⟨"OrbitMailbox", "isStation", "(I)Z"⟩, 4), (⟨"OrbitMailbox$Station", "placeOf", "(I)I"⟩, 11), (⟨"OrbitMailbox$Satellite", "mayAsk", "(I)Z"⟩, 7), (⟨"OrbitMailbox$Station", "phaseAt", "(I)I"⟩, 11), (⟨"OrbitMailbox$Satellite", "putFirstHoles", "(IILOrbitMailbox$Intervals;I)I"⟩, 7), (⟨"OrbitMailbox$Intervals", "insert", "(III)Z"⟩, 3), (⟨"OrbitMailbox$Intervals", "removeRange", "(II)V"⟩, 3), (⟨"OrbitMailbox$Satellite", "dropRequests", "()V"⟩, 7), (⟨"OrbitMailbox$Satellite", "deliver", "()V"⟩, 7), (⟨"OrbitMailbox$Station", "takeBytes", "(LOrbitMailbox$Frame;)V"⟩, 11), (⟨"OrbitMailbox$Station", "takeEntry", "(LOrbitMailbox$Frame;)V"⟩, 11), (⟨"OrbitMailbox$Satellite", "send", "(LOrbitMailbox$Request;)V"⟩, 7), (⟨"OrbitMailbox$Satellite", "sendEntry", "(LOrbitMailbox$Intervals;)V"⟩, 7), (⟨"OrbitMailbox$Satellite", "sendBytes", "(ILOrbitMailbox$Intervals;)V"⟩, 7), (⟨"OrbitMailbox$Satellite", "settle", "(I)V"⟩, 7), (⟨"OrbitMailbox$RequestText", "readSubject", "()Z"⟩, 6)]
theorem lw_r1 : ∀ q ∈ lw_privs_1, lw_okq q := List.forall_mem_cons.mpr ⟨lw_p0, List.forall_mem_cons.mpr ⟨lw_p1, List.forall_mem_cons.mpr ⟨lw_p2, List.forall_mem_cons.mpr ⟨lw_p3, List.forall_mem_cons.mpr ⟨lw_p4, List.forall_mem_cons.mpr ⟨lw_p5, List.forall_mem_cons.mpr ⟨lw_p6, List.forall_mem_cons.mpr ⟨lw_p7, List.forall_mem_cons.mpr ⟨lw_p8, List.forall_mem_cons.mpr ⟨lw_p9, List.forall_mem_cons.mpr ⟨lw_p10, List.forall_mem_cons.mpr ⟨lw_p11, List.forall_mem_cons.mpr ⟨lw_p12, List.forall_mem_cons.mpr ⟨lw_p13, List.forall_mem_cons.mpr ⟨lw_p14, List.forall_mem_cons.mpr ⟨lw_p15, fun _ h => absurd h List.not_mem_nil⟩⟩⟩⟩⟩⟩⟩⟩⟩⟩⟩⟩⟩⟩⟩⟩
theorem lw_p16 : lw_okq (⟨"OrbitMailbox$RequestText", "skip", "(C)Z"⟩, 6) := ⟨⟨by decide +kernel, by decide +kernel⟩, List.mem_of_getElem? (i := 241) (by decide +kernel), List.mem_of_getElem? (i := 706) (by decide +kernel), List.mem_of_getElem? (i := 707) (by decide +kernel)⟩
theorem lw_p17 : lw_okq (⟨"OrbitMailbox$RequestText", "readNumber", "(I)Z"⟩, 6) := ⟨⟨by decide +kernel, by decide +kernel⟩, List.mem_of_getElem? (i := 241) (by decide +kernel), List.mem_of_getElem? (i := 710) (by decide +kernel), List.mem_of_getElem? (i := 711) (by decide +kernel)⟩
theorem lw_p18 : lw_okq (⟨"OrbitMailbox$RequestText", "isDigit", "(I)Z"⟩, 6) := ⟨⟨by decide +kernel, by decide +kernel⟩, List.mem_of_getElem? (i := 241) (by decide +kernel), List.mem_of_getElem? (i := 714) (by decide +kernel), List.mem_of_getElem? (i := 715) (by decide +kernel)⟩
theorem lw_p19 : lw_okq (⟨"OrbitMailbox$RequestText", "readHoles", "()Z"⟩, 6) := ⟨⟨by decide +kernel, by decide +kernel⟩, List.mem_of_getElem? (i := 241) (by decide +kernel), List.mem_of_getElem? (i := 718) (by decide +kernel), List.mem_of_getElem? (i := 719) (by decide +kernel)⟩
def lw_privs_2 : List (MethodName × Nat) := [(⟨"OrbitMailbox$RequestText", "skip", "(C)Z"⟩, 6), (⟨"OrbitMailbox$RequestText", "readNumber", "(I)Z"⟩, 6), (⟨"OrbitMailbox$RequestText", "isDigit", "(I)Z"⟩, 6), (⟨"OrbitMailbox$RequestText", "readHoles", "()Z"⟩, 6)]
theorem lw_r2 : ∀ q ∈ lw_privs_2, lw_okq q := List.forall_mem_cons.mpr ⟨lw_p16, List.forall_mem_cons.mpr ⟨lw_p17, List.forall_mem_cons.mpr ⟨lw_p18, List.forall_mem_cons.mpr ⟨lw_p19, fun _ h => absurd h List.not_mem_nil⟩⟩⟩⟩
def lw_privs : List (MethodName × Nat) := lw_privs_1 ++ (lw_privs_2)
def lw_tbl : List Cond := k2_sels lw_privs ++ tables_1
theorem lw_privs_ok : ∀ q ∈ lw_privs, lw_okq q := by
  show ∀ q ∈ lw_privs_1 ++ (lw_privs_2), lw_okq q
  exact List.forall_mem_append.mpr ⟨lw_r1, lw_r2⟩

/-! ===== BEGIN words of one list among another's, by their places ===== -/
theorem goodIn_r {big : List Cond} (ws : List Cond) (ps : List Nat) (hp : ws = ps.filterMap (fun i => big[i]?)) (h : ws.all goodWord = true) : GoodIn big ws := by
  intro w hw
  have h1 := List.all_eq_true.mp h w hw
  rw [hp] at hw
  obtain ⟨i, -, hi⟩ := List.mem_filterMap.mp hw
  have hm : w ∈ big := by first | exact List.mem_of_getElem? hi | exact List.getElem?_mem hi
  exact ⟨hm, good_of_word h1⟩
theorem goodIn_app {big a b : List Cond} (ha : GoodIn big a) (hb : GoodIn big b) : GoodIn big (a ++ b) := fun w h => (List.mem_append.mp h).elim (ha w) (hb w)
theorem goodIn_ca {big a b : List Cond} {c : Cond} (ha : GoodIn big (c :: a)) (hb : GoodIn big b) : GoodIn big (c :: (a ++ b)) := fun w h => (List.mem_cons.mp h).elim (fun e => ha w (List.mem_cons.mpr (Or.inl e))) (fun h => (List.mem_append.mp h).elim (fun h => ha w (List.mem_cons.mpr (Or.inr h))) (hb w))
theorem goodIn_sub {big ws : List Cond} (hm : ∀ w ∈ ws, w ∈ big) (h : ws.all goodWord = true) : GoodIn big ws := fun w hw => ⟨hm w hw, good_of_word (List.all_eq_true.mp h w hw)⟩
/-! ===== END ===== -/

/-! ===== BEGIN printed: names, fields, word lists, decode rows ===== -/
def RX0 : String := "OrbitMailbox$Files"
def TX0 : u_T := fun k => match k with
  | 0 => ("OrbitMailbox$Files", "lengths", "[I", true)
  | 1 => ("OrbitMailbox$Files", "seeds", "[I", true)
  | 2 => ("OrbitMailbox$Files", "lifetimes", "[I", true)
  | 3 => ("OrbitMailbox$Files", "storedAt", "[I", true)
  | _ => ("OrbitMailbox$Files", "count", "I", false)
def tyX0 : Nat → FieldType := fun k => match k with
  | 0 => .array .int
  | 1 => .array .int
  | 2 => .array .int
  | 3 => .array .int
  | _ => .int
abbrev wsX00 : List Cond := u_ws RX0 TX0 5
theorem nmX0 : ∀ a, a < 5 → ∀ b, b < 5 → a ≠ b → (TX0 a).2.1 ≠ (TX0 b).2.1 := by decide +kernel
theorem tyX0_ok : ∀ k, k < 5 → parseFieldDescriptor (TX0 k).2.2.1 = some (tyX0 k) := by decide +kernel
abbrev cX0_init : ByteArray := prog_2_method_1_code
def yX0_init : MethodName := ⟨RX0, "<init>", "()V"⟩
abbrev cX0_isStored : ByteArray := prog_2_method_2_code
def yX0_isStored : MethodName := ⟨RX0, "isStored", "(I)Z"⟩
abbrev cX0_exists : ByteArray := prog_2_method_3_code
def yX0_exists : MethodName := ⟨RX0, "exists", "(II)Z"⟩
abbrev cX0_hasStoredAt : ByteArray := prog_2_method_4_code
def yX0_hasStoredAt : MethodName := ⟨RX0, "hasStoredAt", "(I)Z"⟩
abbrev cX0_countExisting : ByteArray := prog_2_method_5_code
def yX0_countExisting : MethodName := ⟨RX0, "countExisting", "(I)I"⟩
abbrev cX0_put : ByteArray := prog_2_method_6_code
def yX0_put : MethodName := ⟨RX0, "put", "(IIII)I"⟩
abbrev cX0_byteAt : ByteArray := prog_2_method_7_code
def yX0_byteAt : MethodName := ⟨RX0, "byteAt", "(II)I"⟩
abbrev cX0_firstStoredFrom : ByteArray := prog_2_method_8_code
def yX0_firstStoredFrom : MethodName := ⟨RX0, "firstStoredFrom", "(II)I"⟩
abbrev cX0_lastStoringBefore : ByteArray := prog_2_method_9_code
def yX0_lastStoringBefore : MethodName := ⟨RX0, "lastStoringBefore", "(II)I"⟩
def RX1 : String := "OrbitMailbox$Frame"
def TX1 : u_T := fun k => match k with
  | 0 => ("OrbitMailbox$Frame", "isSent", "Z", false)
  | 1 => ("OrbitMailbox$Frame", "kind", "I", false)
  | 2 => ("OrbitMailbox$Frame", "file", "I", false)
  | 3 => ("OrbitMailbox$Frame", "first", "I", false)
  | 4 => ("OrbitMailbox$Frame", "last", "I", false)
  | _ => ("OrbitMailbox$Frame", "receivers", "I", false)
def tyX1 : Nat → FieldType := fun k => match k with
  | 0 => .boolean
  | 1 => .int
  | 2 => .int
  | 3 => .int
  | 4 => .int
  | _ => .int
abbrev wsX10 : List Cond := u_ws RX1 TX1 6
theorem nmX1 : ∀ a, a < 6 → ∀ b, b < 6 → a ≠ b → (TX1 a).2.1 ≠ (TX1 b).2.1 := by decide +kernel
theorem tyX1_ok : ∀ k, k < 6 → parseFieldDescriptor (TX1 k).2.2.1 = some (tyX1 k) := by decide +kernel
abbrev cX1_init : ByteArray := prog_3_method_1_code
def yX1_init : MethodName := ⟨RX1, "<init>", "()V"⟩
abbrev cX1_fill : ByteArray := prog_3_method_2_code
def yX1_fill : MethodName := ⟨RX1, "fill", "(IIII)V"⟩
def RX2 : String := "OrbitMailbox$Intervals"
def TX2 : u_T := fun k => match k with
  | 0 => ("OrbitMailbox$Intervals", "begins", "[I", true)
  | 1 => ("OrbitMailbox$Intervals", "ends", "[I", true)
  | _ => ("OrbitMailbox$Intervals", "count", "I", false)
def tyX2 : Nat → FieldType := fun k => match k with
  | 0 => .array .int
  | 1 => .array .int
  | _ => .int
abbrev wsX20 : List Cond := u_ws RX2 TX2 3
theorem nmX2 : ∀ a, a < 3 → ∀ b, b < 3 → a ≠ b → (TX2 a).2.1 ≠ (TX2 b).2.1 := by decide +kernel
theorem tyX2_ok : ∀ k, k < 3 → parseFieldDescriptor (TX2 k).2.2.1 = some (tyX2 k) := by decide +kernel
abbrev cX2_init : ByteArray := prog_4_method_1_code
def yX2_init : MethodName := ⟨RX2, "<init>", "()V"⟩
abbrev cX2_clear : ByteArray := prog_4_method_2_code
def yX2_clear : MethodName := ⟨RX2, "clear", "()V"⟩
abbrev cX2_copyFrom : ByteArray := prog_4_method_3_code
def yX2_copyFrom : MethodName := ⟨RX2, "copyFrom", "(LOrbitMailbox$Intervals;)V"⟩
abbrev cX2_size : ByteArray := prog_4_method_4_code
def yX2_size : MethodName := ⟨RX2, "size", "()I"⟩
abbrev cX2_overlap : ByteArray := prog_4_method_5_code
def yX2_overlap : MethodName := ⟨RX2, "overlap", "(II)I"⟩
abbrev cX2_add : ByteArray := prog_4_method_6_code
def yX2_add : MethodName := ⟨RX2, "add", "(II)Z"⟩
abbrev cX2_cutFirst : ByteArray := prog_4_method_7_code
def yX2_cutFirst : MethodName := ⟨RX2, "cutFirst", "(I)V"⟩
abbrev cX2_number : ByteArray := prog_4_method_8_code
def yX2_number : MethodName := ⟨RX2, "number", "(I)I"⟩
abbrev cX2_holeNumber : ByteArray := prog_4_method_9_code
def yX2_holeNumber : MethodName := ⟨RX2, "holeNumber", "(II)I"⟩
abbrev cX2_insert : ByteArray := prog_4_method_10_code
def yX2_insert : MethodName := ⟨RX2, "insert", "(III)Z"⟩
abbrev cX2_removeRange : ByteArray := prog_4_method_11_code
def yX2_removeRange : MethodName := ⟨RX2, "removeRange", "(II)V"⟩
def RX3 : String := "OrbitMailbox$Queue"
def TX3 : u_T := fun k => match k with
  | 0 => ("OrbitMailbox$Queue", "requests", "[LOrbitMailbox$Request;", true)
  | _ => ("OrbitMailbox$Queue", "length", "I", false)
def tyX3 : Nat → FieldType := fun k => match k with
  | 0 => .array (.object "OrbitMailbox$Request")
  | _ => .int
abbrev wsX30 : List Cond := u_ws RX3 TX3 2
theorem nmX3 : ∀ a, a < 2 → ∀ b, b < 2 → a ≠ b → (TX3 a).2.1 ≠ (TX3 b).2.1 := by decide +kernel
theorem tyX3_ok : ∀ k, k < 2 → parseFieldDescriptor (TX3 k).2.2.1 = some (tyX3 k) := by decide +kernel
abbrev cX3_init : ByteArray := prog_5_method_1_code
def yX3_init : MethodName := ⟨RX3, "<init>", "()V"⟩
abbrev cX3_copyFrom : ByteArray := prog_5_method_2_code
def yX3_copyFrom : MethodName := ⟨RX3, "copyFrom", "(LOrbitMailbox$Queue;)V"⟩
abbrev cX3_placeOf : ByteArray := prog_5_method_3_code
def yX3_placeOf : MethodName := ⟨RX3, "placeOf", "(I)I"⟩
abbrev cX3_placeToSend : ByteArray := prog_5_method_4_code
def yX3_placeToSend : MethodName := ⟨RX3, "placeToSend", "()I"⟩
abbrev cX3_put : ByteArray := prog_5_method_5_code
def yX3_put : MethodName := ⟨RX3, "put", "(II)LOrbitMailbox$Request;"⟩
abbrev cX3_moveToEnd : ByteArray := prog_5_method_6_code
def yX3_moveToEnd : MethodName := ⟨RX3, "moveToEnd", "(I)V"⟩
abbrev cX3_remove : ByteArray := prog_5_method_7_code
def yX3_remove : MethodName := ⟨RX3, "remove", "(I)V"⟩
def RX4 : String := "OrbitMailbox$Request"
def TX4 : u_T := fun k => match k with
  | 0 => ("OrbitMailbox$Request", "station", "I", false)
  | 1 => ("OrbitMailbox$Request", "file", "I", false)
  | 2 => ("OrbitMailbox$Request", "framesLeft", "I", false)
  | _ => ("OrbitMailbox$Request", "holes", "LOrbitMailbox$Intervals;", true)
def tyX4 : Nat → FieldType := fun k => match k with
  | 0 => .int
  | 1 => .int
  | 2 => .int
  | _ => .object "OrbitMailbox$Intervals"
abbrev wsX40 : List Cond := u_ws RX4 TX4 4
theorem nmX4 : ∀ a, a < 4 → ∀ b, b < 4 → a ≠ b → (TX4 a).2.1 ≠ (TX4 b).2.1 := by decide +kernel
theorem tyX4_ok : ∀ k, k < 4 → parseFieldDescriptor (TX4 k).2.2.1 = some (tyX4 k) := by decide +kernel
abbrev cX4_init : ByteArray := prog_6_method_1_code
def yX4_init : MethodName := ⟨RX4, "<init>", "()V"⟩
abbrev cX4_isForDirectory : ByteArray := prog_6_method_2_code
def yX4_isForDirectory : MethodName := ⟨RX4, "isForDirectory", "()Z"⟩
abbrev cX4_begin : ByteArray := prog_6_method_3_code
def yX4_begin : MethodName := ⟨RX4, "begin", "(II)V"⟩
abbrev cX4_copyFrom : ByteArray := prog_6_method_4_code
def yX4_copyFrom : MethodName := ⟨RX4, "copyFrom", "(LOrbitMailbox$Request;)V"⟩
def RX5 : String := "OrbitMailbox$RequestText"
def TX5 : u_T := fun k => match k with
  | 0 => ("OrbitMailbox$RequestText", "characters", "[C", true)
  | 1 => ("OrbitMailbox$RequestText", "length", "I", false)
  | 2 => ("OrbitMailbox$RequestText", "position", "I", false)
  | 3 => ("OrbitMailbox$RequestText", "file", "I", false)
  | 4 => ("OrbitMailbox$RequestText", "holes", "LOrbitMailbox$Intervals;", true)
  | _ => ("OrbitMailbox$RequestText", "lastNumber", "I", false)
def tyX5 : Nat → FieldType := fun k => match k with
  | 0 => .array .char
  | 1 => .int
  | 2 => .int
  | 3 => .int
  | 4 => .object "OrbitMailbox$Intervals"
  | _ => .int
abbrev wsX50 : List Cond := u_ws RX5 TX5 6
theorem nmX5 : ∀ a, a < 6 → ∀ b, b < 6 → a ≠ b → (TX5 a).2.1 ≠ (TX5 b).2.1 := by decide +kernel
theorem tyX5_ok : ∀ k, k < 6 → parseFieldDescriptor (TX5 k).2.2.1 = some (tyX5 k) := by decide +kernel
abbrev cX5_init : ByteArray := prog_7_method_1_code
def yX5_init : MethodName := ⟨RX5, "<init>", "()V"⟩
abbrev cX5_append : ByteArray := prog_7_method_2_code
def yX5_append : MethodName := ⟨RX5, "append", "(C)Z"⟩
abbrev cX5_read : ByteArray := prog_7_method_3_code
def yX5_read : MethodName := ⟨RX5, "read", "()Z"⟩
abbrev cX5_readSubject : ByteArray := prog_7_method_4_code
def yX5_readSubject : MethodName := ⟨RX5, "readSubject", "()Z"⟩
abbrev cX5_readHoles : ByteArray := prog_7_method_5_code
def yX5_readHoles : MethodName := ⟨RX5, "readHoles", "()Z"⟩
abbrev cX5_skip : ByteArray := prog_7_method_6_code
def yX5_skip : MethodName := ⟨RX5, "skip", "(C)Z"⟩
abbrev cX5_readNumber : ByteArray := prog_7_method_7_code
def yX5_readNumber : MethodName := ⟨RX5, "readNumber", "(I)Z"⟩
abbrev cX5_isDigit : ByteArray := prog_7_method_8_code
def yX5_isDigit : MethodName := ⟨RX5, "isDigit", "(I)Z"⟩
def RX6 : String := "OrbitMailbox$Satellite"
def TX6 : u_T := fun k => match k with
  | 0 => ("OrbitMailbox$Satellite", "files", "LOrbitMailbox$Files;", true)
  | 1 => ("OrbitMailbox$Satellite", "stations", "[LOrbitMailbox$Station;", true)
  | 2 => ("OrbitMailbox$Satellite", "stationCount", "I", false)
  | 3 => ("OrbitMailbox$Satellite", "queue", "LOrbitMailbox$Queue;", true)
  | 4 => ("OrbitMailbox$Satellite", "frame", "LOrbitMailbox$Frame;", true)
  | 5 => ("OrbitMailbox$Satellite", "counts", "[I", true)
  | _ => ("OrbitMailbox$Satellite", "now", "I", false)
def tyX6 : Nat → FieldType := fun k => match k with
  | 0 => .object "OrbitMailbox$Files"
  | 1 => .array (.object "OrbitMailbox$Station")
  | 2 => .int
  | 3 => .object "OrbitMailbox$Queue"
  | 4 => .object "OrbitMailbox$Frame"
  | 5 => .array .int
  | _ => .int
abbrev wsX60 : List Cond := u_ws RX6 TX6 7
theorem nmX6 : ∀ a, a < 7 → ∀ b, b < 7 → a ≠ b → (TX6 a).2.1 ≠ (TX6 b).2.1 := by decide +kernel
theorem tyX6_ok : ∀ k, k < 7 → parseFieldDescriptor (TX6 k).2.2.1 = some (tyX6 k) := by decide +kernel
abbrev cX6_init : ByteArray := prog_8_method_1_code
def yX6_init : MethodName := ⟨RX6, "<init>", "(LOrbitMailbox$Files;)V"⟩
abbrev cX6_copyFrom : ByteArray := prog_8_method_2_code
def yX6_copyFrom : MethodName := ⟨RX6, "copyFrom", "(LOrbitMailbox$Satellite;)V"⟩
abbrev cX6_admit : ByteArray := prog_8_method_3_code
def yX6_admit : MethodName := match (tables_1[568]? : Option Cond) with | some (Cond.instanceMethod q) => q | _ => yX6_copyFrom
abbrev cX6_isComplete : ByteArray := prog_8_method_4_code
def yX6_isComplete : MethodName := ⟨RX6, "isComplete", "(II)Z"⟩
abbrev cX6_askDirectory : ByteArray := prog_8_method_5_code
def yX6_askDirectory : MethodName := ⟨RX6, "askDirectory", "(I)I"⟩
abbrev cX6_askFile : ByteArray := prog_8_method_6_code
def yX6_askFile : MethodName := ⟨RX6, "askFile", "(II)I"⟩
abbrev cX6_askHoles : ByteArray := prog_8_method_7_code
def yX6_askHoles : MethodName := ⟨RX6, "askHoles", "(IILOrbitMailbox$Intervals;)I"⟩
abbrev cX6_tick : ByteArray := prog_8_method_8_code
def yX6_tick : MethodName := ⟨RX6, "tick", "()V"⟩
abbrev cX6_mayAsk : ByteArray := prog_8_method_9_code
def yX6_mayAsk : MethodName := ⟨RX6, "mayAsk", "(I)Z"⟩
abbrev cX6_putFirstHoles : ByteArray := prog_8_method_10_code
def yX6_putFirstHoles : MethodName := ⟨RX6, "putFirstHoles", "(IILOrbitMailbox$Intervals;I)I"⟩
abbrev cX6_dropRequests : ByteArray := prog_8_method_11_code
def yX6_dropRequests : MethodName := ⟨RX6, "dropRequests", "()V"⟩
abbrev cX6_send : ByteArray := prog_8_method_12_code
def yX6_send : MethodName := ⟨RX6, "send", "(LOrbitMailbox$Request;)V"⟩
abbrev cX6_sendBytes : ByteArray := prog_8_method_13_code
def yX6_sendBytes : MethodName := ⟨RX6, "sendBytes", "(ILOrbitMailbox$Intervals;)V"⟩
abbrev cX6_sendEntry : ByteArray := prog_8_method_14_code
def yX6_sendEntry : MethodName := ⟨RX6, "sendEntry", "(LOrbitMailbox$Intervals;)V"⟩
abbrev cX6_deliver : ByteArray := prog_8_method_15_code
def yX6_deliver : MethodName := ⟨RX6, "deliver", "()V"⟩
abbrev cX6_settle : ByteArray := prog_8_method_16_code
def yX6_settle : MethodName := ⟨RX6, "settle", "(I)V"⟩
def RX7 : String := "OrbitMailbox$Station"
def TX7 : u_T := fun k => match k with
  | 0 => ("OrbitMailbox$Station", "number", "I", true)
  | 1 => ("OrbitMailbox$Station", "period", "I", false)
  | 2 => ("OrbitMailbox$Station", "offset", "I", false)
  | 3 => ("OrbitMailbox$Station", "duration", "I", false)
  | 4 => ("OrbitMailbox$Station", "priority", "I", false)
  | 5 => ("OrbitMailbox$Station", "loss", "I", false)
  | 6 => ("OrbitMailbox$Station", "knownFiles", "I", false)
  | 7 => ("OrbitMailbox$Station", "times", "LOrbitMailbox$Intervals;", true)
  | 8 => ("OrbitMailbox$Station", "openFiles", "[I", true)
  | 9 => ("OrbitMailbox$Station", "openBytes", "[LOrbitMailbox$Intervals;", true)
  | _ => ("OrbitMailbox$Station", "counts", "[I", true)
def tyX7 : Nat → FieldType := fun k => match k with
  | 0 => .int
  | 1 => .int
  | 2 => .int
  | 3 => .int
  | 4 => .int
  | 5 => .int
  | 6 => .int
  | 7 => .object "OrbitMailbox$Intervals"
  | 8 => .array .int
  | 9 => .array (.object "OrbitMailbox$Intervals")
  | _ => .array .int
abbrev wsX70 : List Cond := u_ws RX7 TX7 11
theorem nmX7 : ∀ a, a < 11 → ∀ b, b < 11 → a ≠ b → (TX7 a).2.1 ≠ (TX7 b).2.1 := by decide +kernel
theorem tyX7_ok : ∀ k, k < 11 → parseFieldDescriptor (TX7 k).2.2.1 = some (tyX7 k) := by decide +kernel
abbrev cX7_init : ByteArray := prog_9_method_1_code
def yX7_init : MethodName := ⟨RX7, "<init>", "(I)V"⟩
abbrev cX7_copyFrom : ByteArray := prog_9_method_2_code
def yX7_copyFrom : MethodName := ⟨RX7, "copyFrom", "(LOrbitMailbox$Station;)V"⟩
abbrev cX7_sees : ByteArray := prog_9_method_3_code
def yX7_sees : MethodName := ⟨RX7, "sees", "(I)Z"⟩
abbrev cX7_firstSight : ByteArray := prog_9_method_4_code
def yX7_firstSight : MethodName := ⟨RX7, "firstSight", "(I)I"⟩
abbrev cX7_isHit : ByteArray := prog_9_method_5_code
def yX7_isHit : MethodName := ⟨RX7, "isHit", "(I)Z"⟩
abbrev cX7_knows : ByteArray := prog_9_method_6_code
def yX7_knows : MethodName := ⟨RX7, "knows", "(I)Z"⟩
abbrev cX7_countOpen : ByteArray := prog_9_method_7_code
def yX7_countOpen : MethodName := ⟨RX7, "countOpen", "()I"⟩
abbrev cX7_bytesOf : ByteArray := prog_9_method_8_code
def yX7_bytesOf : MethodName := ⟨RX7, "bytesOf", "(I)LOrbitMailbox$Intervals;"⟩
abbrev cX7_beginFile : ByteArray := prog_9_method_9_code
def yX7_beginFile : MethodName := ⟨RX7, "beginFile", "(I)Z"⟩
abbrev cX7_endFile : ByteArray := prog_9_method_10_code
def yX7_endFile : MethodName := ⟨RX7, "endFile", "(I)V"⟩
abbrev cX7_take : ByteArray := prog_9_method_11_code
def yX7_take : MethodName := ⟨RX7, "take", "(LOrbitMailbox$Frame;)V"⟩
abbrev cX7_takeBytes : ByteArray := prog_9_method_12_code
def yX7_takeBytes : MethodName := ⟨RX7, "takeBytes", "(LOrbitMailbox$Frame;)V"⟩
abbrev cX7_takeEntry : ByteArray := prog_9_method_13_code
def yX7_takeEntry : MethodName := ⟨RX7, "takeEntry", "(LOrbitMailbox$Frame;)V"⟩
abbrev cX7_phaseAt : ByteArray := prog_9_method_14_code
def yX7_phaseAt : MethodName := ⟨RX7, "phaseAt", "(I)I"⟩
abbrev cX7_placeOf : ByteArray := prog_9_method_15_code
def yX7_placeOf : MethodName := ⟨RX7, "placeOf", "(I)I"⟩
def RX8 : String := "OrbitMailbox"
def TX8 : u_T := fun k => match k with
  | 0 => ("OrbitMailbox", "files", "LOrbitMailbox$Files;", true)
  | 1 => ("OrbitMailbox", "satellite", "LOrbitMailbox$Satellite;", true)
  | 2 => ("OrbitMailbox", "imagined", "LOrbitMailbox$Satellite;", true)
  | _ => ("OrbitMailbox", "text", "LOrbitMailbox$RequestText;", true)
def tyX8 : Nat → FieldType := fun k => match k with
  | 0 => .object "OrbitMailbox$Files"
  | 1 => .object "OrbitMailbox$Satellite"
  | 2 => .object "OrbitMailbox$Satellite"
  | _ => .object "OrbitMailbox$RequestText"
abbrev wsX80 : List Cond := u_ws RX8 TX8 4
theorem nmX8 : ∀ a, a < 4 → ∀ b, b < 4 → a ≠ b → (TX8 a).2.1 ≠ (TX8 b).2.1 := by decide +kernel
theorem tyX8_ok : ∀ k, k < 4 → parseFieldDescriptor (TX8 k).2.2.1 = some (tyX8 k) := by decide +kernel
abbrev cX8_init : ByteArray := prog_1_method_1_code
def yX8_init : MethodName := ⟨RX8, "<init>", "()V"⟩
abbrev cX8_addStation : ByteArray := prog_1_method_2_code
def yX8_addStation : MethodName := ⟨RX8, "addStation", "(IIII)I"⟩
abbrev cX8_setLoss : ByteArray := prog_1_method_3_code
def yX8_setLoss : MethodName := ⟨RX8, "setLoss", "(II)I"⟩
abbrev cX8_inView : ByteArray := prog_1_method_4_code
def yX8_inView : MethodName := ⟨RX8, "inView", "(II)I"⟩
abbrev cX8_nextView : ByteArray := prog_1_method_5_code
def yX8_nextView : MethodName := ⟨RX8, "nextView", "(II)I"⟩
abbrev cX8_receives : ByteArray := prog_1_method_6_code
def yX8_receives : MethodName := ⟨RX8, "receives", "(II)I"⟩
abbrev cX8_store : ByteArray := prog_1_method_7_code
def yX8_store : MethodName := ⟨RX8, "store", "(III)I"⟩
abbrev cX8_fileInfo : ByteArray := prog_1_method_8_code
def yX8_fileInfo : MethodName := ⟨RX8, "fileInfo", "(II)I"⟩
abbrev cX8_fileByte : ByteArray := prog_1_method_9_code
def yX8_fileByte : MethodName := ⟨RX8, "fileByte", "(II)I"⟩
abbrev cX8_fileCount : ByteArray := prog_1_method_10_code
def yX8_fileCount : MethodName := ⟨RX8, "fileCount", "()I"⟩
abbrev cX8_existingCount : ByteArray := prog_1_method_11_code
def yX8_existingCount : MethodName := ⟨RX8, "existingCount", "()I"⟩
abbrev cX8_directory : ByteArray := prog_1_method_12_code
def yX8_directory : MethodName := ⟨RX8, "directory", "(I)I"⟩
abbrev cX8_unknownFiles : ByteArray := prog_1_method_13_code
def yX8_unknownFiles : MethodName := ⟨RX8, "unknownFiles", "(I)I"⟩
abbrev cX8_covered : ByteArray := prog_1_method_14_code
def yX8_covered : MethodName := ⟨RX8, "covered", "(II)I"⟩
abbrev cX8_timeHole : ByteArray := prog_1_method_15_code
def yX8_timeHole : MethodName := ⟨RX8, "timeHole", "(II)I"⟩
abbrev cX8_open : ByteArray := prog_1_method_16_code
def yX8_open : MethodName := ⟨RX8, "open", "(II)I"⟩
abbrev cX8_close : ByteArray := prog_1_method_17_code
def yX8_close : MethodName := ⟨RX8, "close", "(II)I"⟩
abbrev cX8_receivedBytes : ByteArray := prog_1_method_18_code
def yX8_receivedBytes : MethodName := ⟨RX8, "receivedBytes", "(II)I"⟩
abbrev cX8_receivedByte : ByteArray := prog_1_method_19_code
def yX8_receivedByte : MethodName := ⟨RX8, "receivedByte", "(III)I"⟩
abbrev cX8_byteHole : ByteArray := prog_1_method_20_code
def yX8_byteHole : MethodName := ⟨RX8, "byteHole", "(III)I"⟩
abbrev cX8_completeFiles : ByteArray := prog_1_method_21_code
def yX8_completeFiles : MethodName := ⟨RX8, "completeFiles", "(I)I"⟩
abbrev cX8_requestDirectory : ByteArray := prog_1_method_22_code
def yX8_requestDirectory : MethodName := ⟨RX8, "requestDirectory", "(I)I"⟩
abbrev cX8_requestFile : ByteArray := prog_1_method_23_code
def yX8_requestFile : MethodName := ⟨RX8, "requestFile", "(II)I"⟩
abbrev cX8_withdraw : ByteArray := prog_1_method_24_code
def yX8_withdraw : MethodName := ⟨RX8, "withdraw", "(I)I"⟩
abbrev cX8_queueLength : ByteArray := prog_1_method_25_code
def yX8_queueLength : MethodName := ⟨RX8, "queueLength", "()I"⟩
abbrev cX8_queued : ByteArray := prog_1_method_26_code
def yX8_queued : MethodName := ⟨RX8, "queued", "(II)I"⟩
abbrev cX8_type : ByteArray := prog_1_method_27_code
def yX8_type : MethodName := ⟨RX8, "type", "(I)I"⟩
abbrev cX8_clearText : ByteArray := prog_1_method_28_code
def yX8_clearText : MethodName := ⟨RX8, "clearText", "()I"⟩
abbrev cX8_fault : ByteArray := prog_1_method_29_code
def yX8_fault : MethodName := ⟨RX8, "fault", "()I"⟩
abbrev cX8_requestText : ByteArray := prog_1_method_30_code
def yX8_requestText : MethodName := ⟨RX8, "requestText", "(I)I"⟩
abbrev cX8_run : ByteArray := prog_1_method_31_code
def yX8_run : MethodName := ⟨RX8, "run", "(I)I"⟩
abbrev cX8_time : ByteArray := prog_1_method_32_code
def yX8_time : MethodName := ⟨RX8, "time", "()I"⟩
abbrev cX8_lastFrame : ByteArray := prog_1_method_33_code
def yX8_lastFrame : MethodName := ⟨RX8, "lastFrame", "(I)I"⟩
abbrev cX8_total : ByteArray := prog_1_method_34_code
def yX8_total : MethodName := ⟨RX8, "total", "(I)I"⟩
abbrev cX8_stationTotal : ByteArray := prog_1_method_35_code
def yX8_stationTotal : MethodName := ⟨RX8, "stationTotal", "(II)I"⟩
abbrev cX8_ticksToComplete : ByteArray := prog_1_method_36_code
def yX8_ticksToComplete : MethodName := ⟨RX8, "ticksToComplete", "(II)I"⟩
abbrev cX8_ticksToEmpty : ByteArray := prog_1_method_37_code
def yX8_ticksToEmpty : MethodName := ⟨RX8, "ticksToEmpty", "()I"⟩
abbrev cX8_isStation : ByteArray := prog_1_method_38_code
def yX8_isStation : MethodName := ⟨RX8, "isStation", "(I)Z"⟩
abbrev cX8_within : ByteArray := prog_1_method_39_code
def yX8_within : MethodName := ⟨RX8, "within", "(III)Z"⟩
def RX9 : String := "OrbitMailboxModel"
def TX9 : u_T := fun k => match k with
  | _ => ("", "", "", false)
def tyX9 : Nat → FieldType := fun k => match k with
  | _ => .int
abbrev wsX90 : List Cond := u_ws RX9 TX9 0
theorem nmX9 : ∀ a, a < 0 → ∀ b, b < 0 → a ≠ b → (TX9 a).2.1 ≠ (TX9 b).2.1 := by decide +kernel
theorem tyX9_ok : ∀ k, k < 0 → parseFieldDescriptor (TX9 k).2.2.1 = some (tyX9 k) := by decide +kernel
def RJ9 : String := "java/lang/Math"
def TJ9 : u_T := fun k => match k with
  | _ => ("", "", "", false)
def tyJ9 : Nat → FieldType := fun k => match k with
  | _ => .int
abbrev wsJ90 : List Cond := u_ws RJ9 TJ9 0
theorem nmJ9 : ∀ a, a < 0 → ∀ b, b < 0 → a ≠ b → (TJ9 a).2.1 ≠ (TJ9 b).2.1 := by decide +kernel
theorem tyJ9_ok : ∀ k, k < 0 → parseFieldDescriptor (TJ9 k).2.2.1 = some (tyJ9 k) := by decide +kernel
abbrev cJ9_max_7cf53 : ByteArray := prog_12_method_65_code
def yJ9_max_7cf53 : MethodName := ⟨RJ9, "max", "(II)I"⟩
abbrev cJ9_min_7cf53 : ByteArray := prog_12_method_69_code
def yJ9_min_7cf53 : MethodName := ⟨RJ9, "min", "(II)I"⟩
def RL : String := "OrbitMailboxLaw"
abbrev cL_part : ByteArray := method_2_code
def yL_part : MethodName := ⟨RL, "part", "(II)I"⟩
abbrev cL_cell : ByteArray := method_3_code
def yL_cell : MethodName := ⟨RL, "cell", "([II)I"⟩
abbrev cL_adds : ByteArray := method_4_code
def yL_adds : MethodName := ⟨RL, "adds", "(LOrbitMailbox;[I[II)I"⟩
abbrev cL_digest : ByteArray := method_7_code
def yL_digest : MethodName := ⟨RL, "digest", "(LOrbitMailbox;)J"⟩
abbrev cL_refused : ByteArray := method_8_code
def yL_refused : MethodName := ⟨RL, "refused", "(LOrbitMailbox;II)Z"⟩
abbrev cL_types : ByteArray := method_9_code
def yL_types : MethodName := ⟨RL, "types", "(LOrbitMailbox;J)I"⟩
abbrev cL_faultOf : ByteArray := method_10_code
def yL_faultOf : MethodName := ⟨RL, "faultOf", "(LOrbitMailbox;JJ)I"⟩
abbrev cL_texts : ByteArray := method_11_code
def yL_texts : MethodName := ⟨RL, "texts", "(LOrbitMailbox;)Z"⟩
abbrev cL_known : ByteArray := method_12_code
def yL_known : MethodName := ⟨RL, "known", "(LOrbitMailbox;)Z"⟩
abbrev cL_full : ByteArray := method_13_code
def yL_full : MethodName := ⟨RL, "full", "()Z"⟩
abbrev cL_law : ByteArray := code
def yL_law : MethodName := ⟨RL, "law", "([I)Z"⟩
end
section
-- printed by wip/p39/gen1.py
abbrev me_T : Type := ClassFile.Instr × List Nat × Int
def bnd (cd : Nat → Option me_T) (n pc : Nat) : Option me_T := match Nat.blt pc n with
  | true => cd pc
  | false => none
def cd_X0_init (pc : Nat) : Option me_T := if pc < 17 then (if pc < 7 then (if pc < 4 then (if pc < 1 then (if pc = 0 then some (.aload_n 0, [0, 1], 0) else none) else (if pc = 1 then some (.invokespecial 3, [], 3) else none)) else (if pc < 5 then (if pc = 4 then some (.aload_n 0, [0, 1], 0) else none) else (if pc = 5 then some (.bipush 30, [2], 30) else none))) else (if pc < 12 then (if pc < 9 then (if pc = 7 then some (.newarray .int, [50], 0) else none) else (if pc = 9 then some (.putfield 9, [0, 0, 2, 1], 0) else none)) else (if pc < 13 then (if pc = 12 then some (.aload_n 0, [0, 1], 0) else none) else (if pc < 15 then (if pc = 13 then some (.bipush 30, [2], 30) else none) else (if pc = 15 then some (.newarray .int, [50], 0) else none))))) else (if pc < 28 then (if pc < 21 then (if pc < 20 then (if pc = 17 then some (.putfield 15, [0, 1, 2, 1], 0) else none) else (if pc = 20 then some (.aload_n 0, [0, 1], 0) else none)) else (if pc < 23 then (if pc = 21 then some (.bipush 30, [2], 30) else none) else (if pc < 25 then (if pc = 23 then some (.newarray .int, [50], 0) else none) else (if pc = 25 then some (.putfield 18, [0, 2, 2, 1], 0) else none)))) else (if pc < 31 then (if pc < 29 then (if pc = 28 then some (.aload_n 0, [0, 1], 0) else none) else (if pc = 29 then some (.bipush 30, [2], 30) else none)) else (if pc < 33 then (if pc = 31 then some (.newarray .int, [50], 0) else none) else (if pc < 36 then (if pc = 33 then some (.putfield 21, [0, 3, 2, 1], 0) else none) else (if pc = 36 then some (.return_, [], 0) else none)))))
def cd_X0_isStored (pc : Nat) : Option me_T := if pc < 9 then (if pc < 4 then (if pc < 1 then (if pc = 0 then some (.iload_n 1, [1, 1], 0) else none) else (if pc = 1 then some (.ifCond .lt 15, [16], 0) else none)) else (if pc < 5 then (if pc = 4 then some (.iload_n 1, [1, 1], 0) else none) else (if pc < 6 then (if pc = 5 then some (.aload_n 0, [0, 1], 0) else none) else (if pc = 6 then some (.getfield 24, [0, 4, 0, 0], 0) else none)))) else (if pc < 13 then (if pc < 12 then (if pc = 9 then some (.if_icmp .ge 7, [16], 0) else none) else (if pc = 12 then some (.iconst 1, [1], 1) else none)) else (if pc < 16 then (if pc = 13 then some (.goto 4, [17], 0) else none) else (if pc < 17 then (if pc = 16 then some (.iconst 0, [1], 0) else none) else (if pc = 17 then some (.ireturn, [], 0) else none))))
def cd_X0_exists (pc : Nat) : Option me_T := if pc < 15 then (if pc < 8 then (if pc < 2 then (if pc < 1 then (if pc = 0 then some (.aload_n 0, [0, 1], 0) else none) else (if pc = 1 then some (.iload_n 1, [1, 1], 0) else none)) else (if pc < 5 then (if pc = 2 then some (.invokevirtual 28, [1, 1, 2, 0], 0) else none) else (if pc = 5 then some (.ifCond .eq 24, [29], 0) else none))) else (if pc < 10 then (if pc < 9 then (if pc = 8 then some (.iload_n 2, [2, 1], 0) else none) else (if pc = 9 then some (.aload_n 0, [0, 1], 0) else none)) else (if pc < 13 then (if pc = 10 then some (.getfield 21, [0, 3, 2, 1], 0) else none) else (if pc < 14 then (if pc = 13 then some (.iload_n 1, [1, 1], 0) else none) else (if pc = 14 then some (.iaload, [50], 0) else none))))) else (if pc < 22 then (if pc < 19 then (if pc < 16 then (if pc = 15 then some (.aload_n 0, [0, 1], 0) else none) else (if pc = 16 then some (.getfield 18, [0, 2, 2, 1], 0) else none)) else (if pc < 20 then (if pc = 19 then some (.iload_n 1, [1, 1], 0) else none) else (if pc < 21 then (if pc = 20 then some (.iaload, [50], 0) else none) else (if pc = 21 then some (.iadd, [], 0) else none)))) else (if pc < 26 then (if pc < 25 then (if pc = 22 then some (.if_icmp .ge 7, [29], 0) else none) else (if pc = 25 then some (.iconst 1, [1], 1) else none)) else (if pc < 29 then (if pc = 26 then some (.goto 4, [30], 0) else none) else (if pc < 30 then (if pc = 29 then some (.iconst 0, [1], 0) else none) else (if pc = 30 then some (.ireturn, [], 0) else none)))))
def cd_X0_hasStoredAt (pc : Nat) : Option me_T := if pc < 16 then (if pc < 8 then (if pc < 4 then (if pc < 1 then (if pc = 0 then some (.aload_n 0, [0, 1], 0) else none) else (if pc = 1 then some (.getfield 24, [0, 4, 0, 0], 0) else none)) else (if pc < 7 then (if pc = 4 then some (.ifCond .le 22, [26], 0) else none) else (if pc = 7 then some (.aload_n 0, [0, 1], 0) else none))) else (if pc < 12 then (if pc < 11 then (if pc = 8 then some (.getfield 21, [0, 3, 2, 1], 0) else none) else (if pc = 11 then some (.aload_n 0, [0, 1], 0) else none)) else (if pc < 15 then (if pc = 12 then some (.getfield 24, [0, 4, 0, 0], 0) else none) else (if pc = 15 then some (.iconst 1, [1], 1) else none)))) else (if pc < 22 then (if pc < 18 then (if pc < 17 then (if pc = 16 then some (.isub, [], 0) else none) else (if pc = 17 then some (.iaload, [50], 0) else none)) else (if pc < 19 then (if pc = 18 then some (.iload_n 1, [1, 1], 0) else none) else (if pc = 19 then some (.if_icmp .ne 7, [26], 0) else none))) else (if pc < 26 then (if pc < 23 then (if pc = 22 then some (.iconst 1, [1], 1) else none) else (if pc = 23 then some (.goto 4, [27], 0) else none)) else (if pc < 27 then (if pc = 26 then some (.iconst 0, [1], 0) else none) else (if pc = 27 then some (.ireturn, [], 0) else none))))
def cd_X0_countExisting (pc : Nat) : Option me_T := if pc < 13 then (if pc < 4 then (if pc < 2 then (if pc < 1 then (if pc = 0 then some (.iconst 0, [1], 0) else none) else (if pc = 1 then some (.istore_n 2, [2, 1], 0) else none)) else (if pc < 3 then (if pc = 2 then some (.iconst 0, [1], 0) else none) else (if pc = 3 then some (.istore_n 3, [3, 1], 0) else none))) else (if pc < 6 then (if pc < 5 then (if pc = 4 then some (.iload_n 3, [3, 1], 0) else none) else (if pc = 5 then some (.aload_n 0, [0, 1], 0) else none)) else (if pc < 9 then (if pc = 6 then some (.getfield 24, [0, 4, 0, 0], 0) else none) else (if pc < 12 then (if pc = 9 then some (.if_icmp .ge 21, [30], 0) else none) else (if pc = 12 then some (.aload_n 0, [0, 1], 0) else none))))) else (if pc < 21 then (if pc < 15 then (if pc < 14 then (if pc = 13 then some (.iload_n 3, [3, 1], 0) else none) else (if pc = 14 then some (.iload_n 1, [1, 1], 0) else none)) else (if pc < 18 then (if pc = 15 then some (.invokevirtual 32, [2, 2, 2, 0], 0) else none) else (if pc = 18 then some (.ifCond .eq 6, [24], 0) else none))) else (if pc < 27 then (if pc < 24 then (if pc = 21 then some (.iinc 2 1, [2], 1) else none) else (if pc = 24 then some (.iinc 3 1, [3], 1) else none)) else (if pc < 30 then (if pc = 27 then some (.goto (-23), [4], 0) else none) else (if pc < 31 then (if pc = 30 then some (.iload_n 2, [2, 1], 0) else none) else (if pc = 31 then some (.ireturn, [], 0) else none)))))
-- heads of loops: [4]
def cd_X0_put (pc : Nat) : Option me_T := if pc < 36 then (if pc < 20 then (if pc < 11 then (if pc < 4 then (if pc < 1 then (if pc = 0 then some (.aload_n 0, [0, 1], 0) else none) else (if pc = 1 then some (.getfield 24, [0, 4, 0, 0], 0) else none)) else (if pc < 6 then (if pc = 4 then some (.bipush 30, [2], 30) else none) else (if pc < 9 then (if pc = 6 then some (.if_icmp .lt 6, [12], 0) else none) else (if pc = 9 then some (.bipush (-3), [2], (-3)) else none)))) else (if pc < 13 then (if pc < 12 then (if pc = 11 then some (.ireturn, [], 0) else none) else (if pc = 12 then some (.aload_n 0, [0, 1], 0) else none)) else (if pc < 16 then (if pc = 13 then some (.getfield 9, [0, 0, 2, 1], 0) else none) else (if pc < 17 then (if pc = 16 then some (.aload_n 0, [0, 1], 0) else none) else (if pc = 17 then some (.getfield 24, [0, 4, 0, 0], 0) else none))))) else (if pc < 27 then (if pc < 22 then (if pc < 21 then (if pc = 20 then some (.iload_n 1, [1, 1], 0) else none) else (if pc = 21 then some (.iastore, [50], 0) else none)) else (if pc < 23 then (if pc = 22 then some (.aload_n 0, [0, 1], 0) else none) else (if pc < 26 then (if pc = 23 then some (.getfield 15, [0, 1, 2, 1], 0) else none) else (if pc = 26 then some (.aload_n 0, [0, 1], 0) else none)))) else (if pc < 31 then (if pc < 30 then (if pc = 27 then some (.getfield 24, [0, 4, 0, 0], 0) else none) else (if pc = 30 then some (.iload_n 2, [2, 1], 0) else none)) else (if pc < 32 then (if pc = 31 then some (.iastore, [50], 0) else none) else (if pc < 33 then (if pc = 32 then some (.aload_n 0, [0, 1], 0) else none) else (if pc = 33 then some (.getfield 18, [0, 2, 2, 1], 0) else none)))))) else (if pc < 53 then (if pc < 43 then (if pc < 40 then (if pc < 37 then (if pc = 36 then some (.aload_n 0, [0, 1], 0) else none) else (if pc = 37 then some (.getfield 24, [0, 4, 0, 0], 0) else none)) else (if pc < 41 then (if pc = 40 then some (.iload_n 3, [3, 1], 0) else none) else (if pc < 42 then (if pc = 41 then some (.iastore, [50], 0) else none) else (if pc = 42 then some (.aload_n 0, [0, 1], 0) else none)))) else (if pc < 47 then (if pc < 46 then (if pc = 43 then some (.getfield 21, [0, 3, 2, 1], 0) else none) else (if pc = 46 then some (.aload_n 0, [0, 1], 0) else none)) else (if pc < 50 then (if pc = 47 then some (.getfield 24, [0, 4, 0, 0], 0) else none) else (if pc < 52 then (if pc = 50 then some (.iload 4, [4, 2], 0) else none) else (if pc = 52 then some (.iastore, [50], 0) else none))))) else (if pc < 60 then (if pc < 55 then (if pc < 54 then (if pc = 53 then some (.aload_n 0, [0, 1], 0) else none) else (if pc = 54 then some (.dup, [], 0) else none)) else (if pc < 58 then (if pc = 55 then some (.getfield 24, [0, 4, 0, 0], 0) else none) else (if pc < 59 then (if pc = 58 then some (.iconst 1, [1], 1) else none) else (if pc = 59 then some (.iadd, [], 0) else none)))) else (if pc < 67 then (if pc < 63 then (if pc = 60 then some (.putfield 24, [0, 4, 0, 0], 0) else none) else (if pc < 64 then (if pc = 63 then some (.aload_n 0, [0, 1], 0) else none) else (if pc = 64 then some (.getfield 24, [0, 4, 0, 0], 0) else none))) else (if pc < 68 then (if pc = 67 then some (.iconst 1, [1], 1) else none) else (if pc < 69 then (if pc = 68 then some (.isub, [], 0) else none) else (if pc = 69 then some (.ireturn, [], 0) else none))))))
def cd_X0_byteAt (pc : Nat) : Option me_T := if pc < 19 then (if pc < 10 then (if pc < 2 then (if pc < 1 then (if pc = 0 then some (.aload_n 0, [0, 1], 0) else none) else (if pc = 1 then some (.iload_n 1, [1, 1], 0) else none)) else (if pc < 5 then (if pc = 2 then some (.invokevirtual 28, [1, 1, 2, 0], 0) else none) else (if pc < 8 then (if pc = 5 then some (.ifCond .ne 6, [11], 0) else none) else (if pc = 8 then some (.bipush (-4), [2], (-4)) else none)))) else (if pc < 15 then (if pc < 11 then (if pc = 10 then some (.ireturn, [], 0) else none) else (if pc < 12 then (if pc = 11 then some (.aload_n 0, [0, 1], 0) else none) else (if pc = 12 then some (.getfield 15, [0, 1, 2, 1], 0) else none))) else (if pc < 16 then (if pc = 15 then some (.iload_n 1, [1, 1], 0) else none) else (if pc < 17 then (if pc = 16 then some (.iaload, [50], 0) else none) else (if pc = 17 then some (.bipush 31, [2], 31) else none))))) else (if pc < 25 then (if pc < 22 then (if pc < 20 then (if pc = 19 then some (.iload_n 2, [2, 1], 0) else none) else (if pc < 21 then (if pc = 20 then some (.imul, [], 0) else none) else (if pc = 21 then some (.iadd, [], 0) else none))) else (if pc < 23 then (if pc = 22 then some (.iload_n 2, [2, 1], 0) else none) else (if pc < 24 then (if pc = 23 then some (.iload_n 2, [2, 1], 0) else none) else (if pc = 24 then some (.imul, [], 0) else none)))) else (if pc < 29 then (if pc < 27 then (if pc = 25 then some (.bipush 7, [2], 7) else none) else (if pc < 28 then (if pc = 27 then some (.idiv, [], 0) else none) else (if pc = 28 then some (.iadd, [], 0) else none))) else (if pc < 32 then (if pc = 29 then some (.sipush 256, [3], 256) else none) else (if pc < 33 then (if pc = 32 then some (.irem, [], 0) else none) else (if pc = 33 then some (.ireturn, [], 0) else none)))))
def cd_X0_firstStoredFrom (pc : Nat) : Option me_T := if pc < 17 then (if pc < 7 then (if pc < 2 then (if pc < 1 then (if pc = 0 then some (.iconst 0, [1], 0) else none) else (if pc = 1 then some (.istore_n 3, [3, 1], 0) else none)) else (if pc < 3 then (if pc = 2 then some (.iload_n 3, [3, 1], 0) else none) else (if pc < 4 then (if pc = 3 then some (.aload_n 0, [0, 1], 0) else none) else (if pc = 4 then some (.getfield 24, [0, 4, 0, 0], 0) else none)))) else (if pc < 14 then (if pc < 10 then (if pc = 7 then some (.if_icmp .ge 30, [37], 0) else none) else (if pc < 11 then (if pc = 10 then some (.aload_n 0, [0, 1], 0) else none) else (if pc = 11 then some (.getfield 21, [0, 3, 2, 1], 0) else none))) else (if pc < 15 then (if pc = 14 then some (.iload_n 3, [3, 1], 0) else none) else (if pc < 16 then (if pc = 15 then some (.iaload, [50], 0) else none) else (if pc = 16 then some (.iload_n 1, [1, 1], 0) else none))))) else (if pc < 29 then (if pc < 22 then (if pc < 20 then (if pc = 17 then some (.if_icmp .lt 14, [31], 0) else none) else (if pc < 21 then (if pc = 20 then some (.aload_n 0, [0, 1], 0) else none) else (if pc = 21 then some (.iload_n 3, [3, 1], 0) else none))) else (if pc < 23 then (if pc = 22 then some (.iload_n 2, [2, 1], 0) else none) else (if pc < 26 then (if pc = 23 then some (.invokevirtual 32, [2, 2, 2, 0], 0) else none) else (if pc = 26 then some (.ifCond .eq 5, [31], 0) else none)))) else (if pc < 34 then (if pc < 30 then (if pc = 29 then some (.iload_n 3, [3, 1], 0) else none) else (if pc < 31 then (if pc = 30 then some (.ireturn, [], 0) else none) else (if pc = 31 then some (.iinc 3 1, [3], 1) else none))) else (if pc < 37 then (if pc = 34 then some (.goto (-32), [2], 0) else none) else (if pc < 38 then (if pc = 37 then some (.iconst (-1), [1], (-1)) else none) else (if pc = 38 then some (.ireturn, [], 0) else none)))))
-- heads of loops: [2]
def cd_X0_lastStoringBefore (pc : Nat) : Option me_T := if pc < 25 then (if pc < 11 then (if pc < 3 then (if pc < 1 then (if pc = 0 then some (.iconst (-1), [1], (-1)) else none) else (if pc < 2 then (if pc = 1 then some (.istore_n 3, [3, 1], 0) else none) else (if pc = 2 then some (.iconst 0, [1], 0) else none))) else (if pc < 7 then (if pc < 5 then (if pc = 3 then some (.istore 4, [4, 2], 0) else none) else (if pc = 5 then some (.iload 4, [4, 2], 0) else none)) else (if pc < 8 then (if pc = 7 then some (.aload_n 0, [0, 1], 0) else none) else (if pc = 8 then some (.getfield 24, [0, 4, 0, 0], 0) else none)))) else (if pc < 18 then (if pc < 14 then (if pc = 11 then some (.if_icmp .ge 38, [49], 0) else none) else (if pc < 15 then (if pc = 14 then some (.aload_n 0, [0, 1], 0) else none) else (if pc = 15 then some (.getfield 21, [0, 3, 2, 1], 0) else none))) else (if pc < 21 then (if pc < 20 then (if pc = 18 then some (.iload 4, [4, 2], 0) else none) else (if pc = 20 then some (.iaload, [50], 0) else none)) else (if pc < 22 then (if pc = 21 then some (.iload_n 1, [1, 1], 0) else none) else (if pc = 22 then some (.if_icmp .ge 21, [43], 0) else none))))) else (if pc < 39 then (if pc < 29 then (if pc < 26 then (if pc = 25 then some (.aload_n 0, [0, 1], 0) else none) else (if pc < 28 then (if pc = 26 then some (.iload 4, [4, 2], 0) else none) else (if pc = 28 then some (.iload_n 2, [2, 1], 0) else none))) else (if pc < 35 then (if pc < 32 then (if pc = 29 then some (.invokevirtual 32, [2, 2, 2, 0], 0) else none) else (if pc = 32 then some (.ifCond .eq 11, [43], 0) else none)) else (if pc < 36 then (if pc = 35 then some (.aload_n 0, [0, 1], 0) else none) else (if pc = 36 then some (.getfield 21, [0, 3, 2, 1], 0) else none)))) else (if pc < 43 then (if pc < 41 then (if pc = 39 then some (.iload 4, [4, 2], 0) else none) else (if pc < 42 then (if pc = 41 then some (.iaload, [50], 0) else none) else (if pc = 42 then some (.istore_n 3, [3, 1], 0) else none))) else (if pc < 49 then (if pc < 46 then (if pc = 43 then some (.iinc 4 1, [4], 1) else none) else (if pc = 46 then some (.goto (-41), [5], 0) else none)) else (if pc < 50 then (if pc = 49 then some (.iload_n 3, [3, 1], 0) else none) else (if pc = 50 then some (.ireturn, [], 0) else none)))))
-- heads of loops: [5]
def cd_X1_init (pc : Nat) : Option me_T := if pc < 6 then (if pc < 4 then (if pc < 1 then (if pc = 0 then some (.aload_n 0, [0, 1], 0) else none) else (if pc = 1 then some (.invokespecial 3, [], 3) else none)) else (if pc < 5 then (if pc = 4 then some (.aload_n 0, [0, 1], 0) else none) else (if pc = 5 then some (.iconst 0, [1], 0) else none))) else (if pc < 10 then (if pc < 9 then (if pc = 6 then some (.putfield 9, [1, 1, 0, 0], 0) else none) else (if pc = 9 then some (.aload_n 0, [0, 1], 0) else none)) else (if pc < 11 then (if pc = 10 then some (.iconst (-1), [1], (-1)) else none) else (if pc < 14 then (if pc = 11 then some (.putfield 15, [1, 2, 0, 0], 0) else none) else (if pc = 14 then some (.return_, [], 0) else none))))
def cd_X1_fill (pc : Nat) : Option me_T := if pc < 15 then (if pc < 6 then (if pc < 2 then (if pc < 1 then (if pc = 0 then some (.aload_n 0, [0, 1], 0) else none) else (if pc = 1 then some (.iconst 1, [1], 1) else none)) else (if pc < 5 then (if pc = 2 then some (.putfield 18, [1, 0, 1, 0], 0) else none) else (if pc = 5 then some (.aload_n 0, [0, 1], 0) else none))) else (if pc < 10 then (if pc < 7 then (if pc = 6 then some (.iload_n 1, [1, 1], 0) else none) else (if pc = 7 then some (.putfield 9, [1, 1, 0, 0], 0) else none)) else (if pc < 11 then (if pc = 10 then some (.aload_n 0, [0, 1], 0) else none) else (if pc < 12 then (if pc = 11 then some (.iload_n 2, [2, 1], 0) else none) else (if pc = 12 then some (.putfield 15, [1, 2, 0, 0], 0) else none))))) else (if pc < 23 then (if pc < 17 then (if pc < 16 then (if pc = 15 then some (.aload_n 0, [0, 1], 0) else none) else (if pc = 16 then some (.iload_n 3, [3, 1], 0) else none)) else (if pc < 20 then (if pc = 17 then some (.putfield 22, [1, 3, 0, 0], 0) else none) else (if pc < 21 then (if pc = 20 then some (.aload_n 0, [0, 1], 0) else none) else (if pc = 21 then some (.iload 4, [4, 2], 0) else none)))) else (if pc < 27 then (if pc < 26 then (if pc = 23 then some (.putfield 25, [1, 4, 0, 0], 0) else none) else (if pc = 26 then some (.aload_n 0, [0, 1], 0) else none)) else (if pc < 28 then (if pc = 27 then some (.iconst 0, [1], 0) else none) else (if pc < 31 then (if pc = 28 then some (.putfield 28, [1, 5, 0, 0], 0) else none) else (if pc = 31 then some (.return_, [], 0) else none)))))
def cd_X2_init (pc : Nat) : Option me_T := if pc < 9 then (if pc < 4 then (if pc < 1 then (if pc = 0 then some (.aload_n 0, [0, 1], 0) else none) else (if pc = 1 then some (.invokespecial 3, [], 3) else none)) else (if pc < 5 then (if pc = 4 then some (.aload_n 0, [0, 1], 0) else none) else (if pc < 7 then (if pc = 5 then some (.bipush 12, [2], 12) else none) else (if pc = 7 then some (.newarray .int, [50], 0) else none)))) else (if pc < 15 then (if pc < 12 then (if pc = 9 then some (.putfield 9, [2, 0, 2, 1], 0) else none) else (if pc < 13 then (if pc = 12 then some (.aload_n 0, [0, 1], 0) else none) else (if pc = 13 then some (.bipush 12, [2], 12) else none))) else (if pc < 17 then (if pc = 15 then some (.newarray .int, [50], 0) else none) else (if pc < 20 then (if pc = 17 then some (.putfield 15, [2, 1, 2, 1], 0) else none) else (if pc = 20 then some (.return_, [], 0) else none))))
def cd_X2_clear (pc : Nat) : Option me_T := if pc < 2 then (if pc < 1 then (if pc = 0 then some (.aload_n 0, [0, 1], 0) else none) else (if pc = 1 then some (.iconst 0, [1], 0) else none)) else (if pc < 5 then (if pc = 2 then some (.putfield 18, [2, 2, 0, 0], 0) else none) else (if pc = 5 then some (.return_, [], 0) else none))
def cd_X2_copyFrom (pc : Nat) : Option me_T := if pc < 24 then (if pc < 11 then (if pc < 5 then (if pc < 1 then (if pc = 0 then some (.aload_n 0, [0, 1], 0) else none) else (if pc < 2 then (if pc = 1 then some (.aload_n 1, [1, 1], 0) else none) else (if pc = 2 then some (.getfield 18, [2, 2, 0, 0], 0) else none))) else (if pc < 9 then (if pc < 8 then (if pc = 5 then some (.putfield 18, [2, 2, 0, 0], 0) else none) else (if pc = 8 then some (.iconst 0, [1], 0) else none)) else (if pc < 10 then (if pc = 9 then some (.istore_n 2, [2, 1], 0) else none) else (if pc = 10 then some (.iload_n 2, [2, 1], 0) else none)))) else (if pc < 18 then (if pc < 12 then (if pc = 11 then some (.aload_n 0, [0, 1], 0) else none) else (if pc < 15 then (if pc = 12 then some (.getfield 18, [2, 2, 0, 0], 0) else none) else (if pc = 15 then some (.if_icmp .ge 33, [48], 0) else none))) else (if pc < 22 then (if pc < 19 then (if pc = 18 then some (.aload_n 0, [0, 1], 0) else none) else (if pc = 19 then some (.getfield 9, [2, 0, 2, 1], 0) else none)) else (if pc < 23 then (if pc = 22 then some (.iload_n 2, [2, 1], 0) else none) else (if pc = 23 then some (.aload_n 1, [1, 1], 0) else none))))) else (if pc < 35 then (if pc < 29 then (if pc < 27 then (if pc = 24 then some (.getfield 9, [2, 0, 2, 1], 0) else none) else (if pc < 28 then (if pc = 27 then some (.iload_n 2, [2, 1], 0) else none) else (if pc = 28 then some (.iaload, [50], 0) else none))) else (if pc < 31 then (if pc < 30 then (if pc = 29 then some (.iastore, [50], 0) else none) else (if pc = 30 then some (.aload_n 0, [0, 1], 0) else none)) else (if pc < 34 then (if pc = 31 then some (.getfield 15, [2, 1, 2, 1], 0) else none) else (if pc = 34 then some (.iload_n 2, [2, 1], 0) else none)))) else (if pc < 41 then (if pc < 39 then (if pc < 36 then (if pc = 35 then some (.aload_n 1, [1, 1], 0) else none) else (if pc = 36 then some (.getfield 15, [2, 1, 2, 1], 0) else none)) else (if pc < 40 then (if pc = 39 then some (.iload_n 2, [2, 1], 0) else none) else (if pc = 40 then some (.iaload, [50], 0) else none))) else (if pc < 45 then (if pc < 42 then (if pc = 41 then some (.iastore, [50], 0) else none) else (if pc = 42 then some (.iinc 2 1, [2], 1) else none)) else (if pc < 48 then (if pc = 45 then some (.goto (-35), [10], 0) else none) else (if pc = 48 then some (.return_, [], 0) else none)))))
-- heads of loops: [10]
def cd_X2_size (pc : Nat) : Option me_T := if pc < 19 then (if pc < 6 then (if pc < 3 then (if pc < 1 then (if pc = 0 then some (.iconst 0, [1], 0) else none) else (if pc < 2 then (if pc = 1 then some (.istore_n 1, [1, 1], 0) else none) else (if pc = 2 then some (.iconst 0, [1], 0) else none))) else (if pc < 4 then (if pc = 3 then some (.istore_n 2, [2, 1], 0) else none) else (if pc < 5 then (if pc = 4 then some (.iload_n 2, [2, 1], 0) else none) else (if pc = 5 then some (.aload_n 0, [0, 1], 0) else none)))) else (if pc < 13 then (if pc < 9 then (if pc = 6 then some (.getfield 18, [2, 2, 0, 0], 0) else none) else (if pc < 12 then (if pc = 9 then some (.if_icmp .ge 27, [36], 0) else none) else (if pc = 12 then some (.iload_n 1, [1, 1], 0) else none))) else (if pc < 17 then (if pc < 14 then (if pc = 13 then some (.aload_n 0, [0, 1], 0) else none) else (if pc = 14 then some (.getfield 15, [2, 1, 2, 1], 0) else none)) else (if pc < 18 then (if pc = 17 then some (.iload_n 2, [2, 1], 0) else none) else (if pc = 18 then some (.iaload, [50], 0) else none))))) else (if pc < 27 then (if pc < 24 then (if pc < 20 then (if pc = 19 then some (.aload_n 0, [0, 1], 0) else none) else (if pc < 23 then (if pc = 20 then some (.getfield 9, [2, 0, 2, 1], 0) else none) else (if pc = 23 then some (.iload_n 2, [2, 1], 0) else none))) else (if pc < 25 then (if pc = 24 then some (.iaload, [50], 0) else none) else (if pc < 26 then (if pc = 25 then some (.isub, [], 0) else none) else (if pc = 26 then some (.iconst 1, [1], 1) else none)))) else (if pc < 30 then (if pc < 28 then (if pc = 27 then some (.iadd, [], 0) else none) else (if pc < 29 then (if pc = 28 then some (.iadd, [], 0) else none) else (if pc = 29 then some (.istore_n 1, [1, 1], 0) else none))) else (if pc < 36 then (if pc < 33 then (if pc = 30 then some (.iinc 2 1, [2], 1) else none) else (if pc = 33 then some (.goto (-29), [4], 0) else none)) else (if pc < 37 then (if pc = 36 then some (.iload_n 1, [1, 1], 0) else none) else (if pc = 37 then some (.ireturn, [], 0) else none)))))
-- heads of loops: [4]
def cd_X2_overlap (pc : Nat) : Option me_T := if pc < 30 then (if pc < 14 then (if pc < 5 then (if pc < 2 then (if pc < 1 then (if pc = 0 then some (.iconst 0, [1], 0) else none) else (if pc = 1 then some (.istore_n 3, [3, 1], 0) else none)) else (if pc < 3 then (if pc = 2 then some (.iconst 0, [1], 0) else none) else (if pc = 3 then some (.istore 4, [4, 2], 0) else none))) else (if pc < 8 then (if pc < 7 then (if pc = 5 then some (.iload 4, [4, 2], 0) else none) else (if pc = 7 then some (.aload_n 0, [0, 1], 0) else none)) else (if pc < 11 then (if pc = 8 then some (.getfield 18, [2, 2, 0, 0], 0) else none) else (if pc = 11 then some (.if_icmp .ge 45, [56], 0) else none)))) else (if pc < 21 then (if pc < 16 then (if pc < 15 then (if pc = 14 then some (.iload_n 2, [2, 1], 0) else none) else (if pc = 15 then some (.aload_n 0, [0, 1], 0) else none)) else (if pc < 19 then (if pc = 16 then some (.getfield 15, [2, 1, 2, 1], 0) else none) else (if pc = 19 then some (.iload 4, [4, 2], 0) else none))) else (if pc < 25 then (if pc < 22 then (if pc = 21 then some (.iaload, [50], 0) else none) else (if pc = 22 then some (.invokestatic 22, [], 4) else none)) else (if pc < 26 then (if pc = 25 then some (.iload_n 1, [1, 1], 0) else none) else (if pc < 27 then (if pc = 26 then some (.aload_n 0, [0, 1], 0) else none) else (if pc = 27 then some (.getfield 9, [2, 0, 2, 1], 0) else none)))))) else (if pc < 42 then (if pc < 37 then (if pc < 33 then (if pc < 32 then (if pc = 30 then some (.iload 4, [4, 2], 0) else none) else (if pc = 32 then some (.iaload, [50], 0) else none)) else (if pc < 36 then (if pc = 33 then some (.invokestatic 28, [], 5) else none) else (if pc = 36 then some (.isub, [], 0) else none))) else (if pc < 39 then (if pc < 38 then (if pc = 37 then some (.iconst 1, [1], 1) else none) else (if pc = 38 then some (.iadd, [], 0) else none)) else (if pc < 41 then (if pc = 39 then some (.istore 5, [5, 2], 0) else none) else (if pc = 41 then some (.iload_n 3, [3, 1], 0) else none)))) else (if pc < 49 then (if pc < 45 then (if pc < 44 then (if pc = 42 then some (.iload 5, [5, 2], 0) else none) else (if pc = 44 then some (.iconst 0, [1], 0) else none)) else (if pc < 48 then (if pc = 45 then some (.invokestatic 28, [], 5) else none) else (if pc = 48 then some (.iadd, [], 0) else none))) else (if pc < 53 then (if pc < 50 then (if pc = 49 then some (.istore_n 3, [3, 1], 0) else none) else (if pc = 50 then some (.iinc 4 1, [4], 1) else none)) else (if pc < 56 then (if pc = 53 then some (.goto (-48), [5], 0) else none) else (if pc < 57 then (if pc = 56 then some (.iload_n 3, [3, 1], 0) else none) else (if pc = 57 then some (.ireturn, [], 0) else none))))))
-- heads of loops: [5]
def cd_X2_add (pc : Nat) : Option me_T := if pc < 65 then (if pc < 29 then (if pc < 14 then (if pc < 4 then (if pc < 2 then (if pc < 1 then (if pc = 0 then some (.iconst 0, [1], 0) else none) else (if pc = 1 then some (.istore_n 3, [3, 1], 0) else none)) else (if pc < 3 then (if pc = 2 then some (.iload_n 3, [3, 1], 0) else none) else (if pc = 3 then some (.aload_n 0, [0, 1], 0) else none))) else (if pc < 10 then (if pc < 7 then (if pc = 4 then some (.getfield 18, [2, 2, 0, 0], 0) else none) else (if pc = 7 then some (.if_icmp .ge 21, [28], 0) else none)) else (if pc < 11 then (if pc = 10 then some (.aload_n 0, [0, 1], 0) else none) else (if pc = 11 then some (.getfield 15, [2, 1, 2, 1], 0) else none)))) else (if pc < 18 then (if pc < 16 then (if pc < 15 then (if pc = 14 then some (.iload_n 3, [3, 1], 0) else none) else (if pc = 15 then some (.iaload, [50], 0) else none)) else (if pc < 17 then (if pc = 16 then some (.iconst 1, [1], 1) else none) else (if pc = 17 then some (.iadd, [], 0) else none))) else (if pc < 22 then (if pc < 19 then (if pc = 18 then some (.iload_n 1, [1, 1], 0) else none) else (if pc = 19 then some (.if_icmp .ge 9, [28], 0) else none)) else (if pc < 25 then (if pc = 22 then some (.iinc 3 1, [3], 1) else none) else (if pc < 28 then (if pc = 25 then some (.goto (-23), [2], 0) else none) else (if pc = 28 then some (.iload_n 3, [3, 1], 0) else none)))))) else (if pc < 47 then (if pc < 37 then (if pc < 33 then (if pc < 31 then (if pc = 29 then some (.istore 4, [4, 2], 0) else none) else (if pc = 31 then some (.iload 4, [4, 2], 0) else none)) else (if pc < 34 then (if pc = 33 then some (.aload_n 0, [0, 1], 0) else none) else (if pc = 34 then some (.getfield 18, [2, 2, 0, 0], 0) else none))) else (if pc < 41 then (if pc < 40 then (if pc = 37 then some (.if_icmp .ge 22, [59], 0) else none) else (if pc = 40 then some (.aload_n 0, [0, 1], 0) else none)) else (if pc < 44 then (if pc = 41 then some (.getfield 9, [2, 0, 2, 1], 0) else none) else (if pc < 46 then (if pc = 44 then some (.iload 4, [4, 2], 0) else none) else (if pc = 46 then some (.iaload, [50], 0) else none))))) else (if pc < 53 then (if pc < 49 then (if pc < 48 then (if pc = 47 then some (.iconst 1, [1], 1) else none) else (if pc = 48 then some (.isub, [], 0) else none)) else (if pc < 50 then (if pc = 49 then some (.iload_n 2, [2, 1], 0) else none) else (if pc = 50 then some (.if_icmp .gt 9, [59], 0) else none))) else (if pc < 59 then (if pc < 56 then (if pc = 53 then some (.iinc 4 1, [4], 1) else none) else (if pc = 56 then some (.goto (-25), [31], 0) else none)) else (if pc < 61 then (if pc = 59 then some (.iload 4, [4, 2], 0) else none) else (if pc < 62 then (if pc = 61 then some (.iload_n 3, [3, 1], 0) else none) else (if pc = 62 then some (.if_icmp .ne 11, [73], 0) else none))))))) else (if pc < 93 then (if pc < 78 then (if pc < 69 then (if pc < 67 then (if pc < 66 then (if pc = 65 then some (.aload_n 0, [0, 1], 0) else none) else (if pc = 66 then some (.iload_n 3, [3, 1], 0) else none)) else (if pc < 68 then (if pc = 67 then some (.iload_n 1, [1, 1], 0) else none) else (if pc = 68 then some (.iload_n 2, [2, 1], 0) else none))) else (if pc < 73 then (if pc < 72 then (if pc = 69 then some (.invokevirtual 31, [20, 3, 2, 2], 0) else none) else (if pc = 72 then some (.ireturn, [], 0) else none)) else (if pc < 74 then (if pc = 73 then some (.aload_n 0, [0, 1], 0) else none) else (if pc < 77 then (if pc = 74 then some (.getfield 9, [2, 0, 2, 1], 0) else none) else (if pc = 77 then some (.iload_n 3, [3, 1], 0) else none))))) else (if pc < 84 then (if pc < 80 then (if pc < 79 then (if pc = 78 then some (.iload_n 1, [1, 1], 0) else none) else (if pc = 79 then some (.aload_n 0, [0, 1], 0) else none)) else (if pc < 83 then (if pc = 80 then some (.getfield 9, [2, 0, 2, 1], 0) else none) else (if pc = 83 then some (.iload_n 3, [3, 1], 0) else none))) else (if pc < 88 then (if pc < 85 then (if pc = 84 then some (.iaload, [50], 0) else none) else (if pc = 85 then some (.invokestatic 22, [], 4) else none)) else (if pc < 89 then (if pc = 88 then some (.iastore, [50], 0) else none) else (if pc < 90 then (if pc = 89 then some (.aload_n 0, [0, 1], 0) else none) else (if pc = 90 then some (.getfield 15, [2, 1, 2, 1], 0) else none)))))) else (if pc < 107 then (if pc < 99 then (if pc < 95 then (if pc < 94 then (if pc = 93 then some (.iload_n 3, [3, 1], 0) else none) else (if pc = 94 then some (.iload_n 2, [2, 1], 0) else none)) else (if pc < 96 then (if pc = 95 then some (.aload_n 0, [0, 1], 0) else none) else (if pc = 96 then some (.getfield 15, [2, 1, 2, 1], 0) else none))) else (if pc < 102 then (if pc < 101 then (if pc = 99 then some (.iload 4, [4, 2], 0) else none) else (if pc = 101 then some (.iconst 1, [1], 1) else none)) else (if pc < 103 then (if pc = 102 then some (.isub, [], 0) else none) else (if pc < 104 then (if pc = 103 then some (.iaload, [50], 0) else none) else (if pc = 104 then some (.invokestatic 28, [], 5) else none))))) else (if pc < 111 then (if pc < 109 then (if pc < 108 then (if pc = 107 then some (.iastore, [50], 0) else none) else (if pc = 108 then some (.aload_n 0, [0, 1], 0) else none)) else (if pc < 110 then (if pc = 109 then some (.iload_n 3, [3, 1], 0) else none) else (if pc = 110 then some (.iconst 1, [1], 1) else none))) else (if pc < 114 then (if pc < 112 then (if pc = 111 then some (.iadd, [], 0) else none) else (if pc = 112 then some (.iload 4, [4, 2], 0) else none)) else (if pc < 117 then (if pc = 114 then some (.invokevirtual 35, [21, 2, 0, 2], 0) else none) else (if pc < 118 then (if pc = 117 then some (.iconst 1, [1], 1) else none) else (if pc = 118 then some (.ireturn, [], 0) else none)))))))
-- heads of loops: [2, 31]
def cd_X2_cutFirst (pc : Nat) : Option me_T := if pc < 22 then (if pc < 12 then (if pc < 7 then (if pc < 1 then (if pc = 0 then some (.aload_n 0, [0, 1], 0) else none) else (if pc < 4 then (if pc = 1 then some (.getfield 18, [2, 2, 0, 0], 0) else none) else (if pc = 4 then some (.ifCond .le 25, [29], 0) else none))) else (if pc < 8 then (if pc = 7 then some (.iload_n 1, [1, 1], 0) else none) else (if pc < 9 then (if pc = 8 then some (.aload_n 0, [0, 1], 0) else none) else (if pc = 9 then some (.getfield 15, [2, 1, 2, 1], 0) else none)))) else (if pc < 17 then (if pc < 13 then (if pc = 12 then some (.iconst 0, [1], 0) else none) else (if pc < 14 then (if pc = 13 then some (.iaload, [50], 0) else none) else (if pc = 14 then some (.if_icmp .ge 15, [29], 0) else none))) else (if pc < 18 then (if pc = 17 then some (.aload_n 0, [0, 1], 0) else none) else (if pc < 21 then (if pc = 18 then some (.getfield 9, [2, 0, 2, 1], 0) else none) else (if pc = 21 then some (.iconst 0, [1], 0) else none))))) else (if pc < 30 then (if pc < 25 then (if pc < 23 then (if pc = 22 then some (.iload_n 1, [1, 1], 0) else none) else (if pc < 24 then (if pc = 23 then some (.iconst 1, [1], 1) else none) else (if pc = 24 then some (.iadd, [], 0) else none))) else (if pc < 26 then (if pc = 25 then some (.iastore, [50], 0) else none) else (if pc < 29 then (if pc = 26 then some (.goto 16, [42], 0) else none) else (if pc = 29 then some (.aload_n 0, [0, 1], 0) else none)))) else (if pc < 37 then (if pc < 33 then (if pc = 30 then some (.getfield 18, [2, 2, 0, 0], 0) else none) else (if pc < 36 then (if pc = 33 then some (.ifCond .le 9, [42], 0) else none) else (if pc = 36 then some (.aload_n 0, [0, 1], 0) else none))) else (if pc < 39 then (if pc < 38 then (if pc = 37 then some (.iconst 0, [1], 0) else none) else (if pc = 38 then some (.iconst 1, [1], 1) else none)) else (if pc < 42 then (if pc = 39 then some (.invokevirtual 35, [21, 2, 0, 2], 0) else none) else (if pc = 42 then some (.return_, [], 0) else none)))))
def cd_X2_number (pc : Nat) : Option me_T := if pc < 26 then (if pc < 12 then (if pc < 6 then (if pc < 2 then (if pc < 1 then (if pc = 0 then some (.iload_n 1, [1, 1], 0) else none) else (if pc = 1 then some (.iconst (-1), [1], (-1)) else none)) else (if pc < 5 then (if pc = 2 then some (.if_icmp .ne 8, [10], 0) else none) else (if pc = 5 then some (.aload_n 0, [0, 1], 0) else none))) else (if pc < 10 then (if pc < 9 then (if pc = 6 then some (.getfield 18, [2, 2, 0, 0], 0) else none) else (if pc = 9 then some (.ireturn, [], 0) else none)) else (if pc < 11 then (if pc = 10 then some (.iload_n 1, [1, 1], 0) else none) else (if pc = 11 then some (.iconst 2, [1], 2) else none)))) else (if pc < 18 then (if pc < 14 then (if pc < 13 then (if pc = 12 then some (.idiv, [], 0) else none) else (if pc = 13 then some (.istore_n 2, [2, 1], 0) else none)) else (if pc < 15 then (if pc = 14 then some (.iload_n 2, [2, 1], 0) else none) else (if pc = 15 then some (.ifCond .lt 11, [26], 0) else none))) else (if pc < 20 then (if pc < 19 then (if pc = 18 then some (.iload_n 2, [2, 1], 0) else none) else (if pc = 19 then some (.aload_n 0, [0, 1], 0) else none)) else (if pc < 23 then (if pc = 20 then some (.getfield 18, [2, 2, 0, 0], 0) else none) else (if pc = 23 then some (.if_icmp .lt 6, [29], 0) else none))))) else (if pc < 39 then (if pc < 31 then (if pc < 29 then (if pc < 28 then (if pc = 26 then some (.bipush (-4), [2], (-4)) else none) else (if pc = 28 then some (.ireturn, [], 0) else none)) else (if pc < 30 then (if pc = 29 then some (.iload_n 1, [1, 1], 0) else none) else (if pc = 30 then some (.iconst 2, [1], 2) else none))) else (if pc < 35 then (if pc < 32 then (if pc = 31 then some (.irem, [], 0) else none) else (if pc = 32 then some (.ifCond .ne 12, [44], 0) else none)) else (if pc < 36 then (if pc = 35 then some (.aload_n 0, [0, 1], 0) else none) else (if pc = 36 then some (.getfield 9, [2, 0, 2, 1], 0) else none)))) else (if pc < 45 then (if pc < 41 then (if pc < 40 then (if pc = 39 then some (.iload_n 2, [2, 1], 0) else none) else (if pc = 40 then some (.iaload, [50], 0) else none)) else (if pc < 44 then (if pc = 41 then some (.goto 9, [50], 0) else none) else (if pc = 44 then some (.aload_n 0, [0, 1], 0) else none))) else (if pc < 49 then (if pc < 48 then (if pc = 45 then some (.getfield 15, [2, 1, 2, 1], 0) else none) else (if pc = 48 then some (.iload_n 2, [2, 1], 0) else none)) else (if pc < 50 then (if pc = 49 then some (.iaload, [50], 0) else none) else (if pc = 50 then some (.ireturn, [], 0) else none)))))
def cd_X2_holeNumber (pc : Nat) : Option me_T := if pc < 59 then (if pc < 30 then (if pc < 11 then (if pc < 5 then (if pc < 2 then (if pc < 1 then (if pc = 0 then some (.iconst 0, [1], 0) else none) else (if pc = 1 then some (.istore_n 3, [3, 1], 0) else none)) else (if pc < 3 then (if pc = 2 then some (.iconst 0, [1], 0) else none) else (if pc = 3 then some (.istore 4, [4, 2], 0) else none))) else (if pc < 8 then (if pc < 6 then (if pc = 5 then some (.iconst 0, [1], 0) else none) else (if pc = 6 then some (.istore 5, [5, 2], 0) else none)) else (if pc < 10 then (if pc = 8 then some (.iload 5, [5, 2], 0) else none) else (if pc = 10 then some (.aload_n 0, [0, 1], 0) else none)))) else (if pc < 20 then (if pc < 17 then (if pc < 14 then (if pc = 11 then some (.getfield 18, [2, 2, 0, 0], 0) else none) else (if pc = 14 then some (.if_icmp .gt 94, [108], 0) else none)) else (if pc < 19 then (if pc = 17 then some (.iload 5, [5, 2], 0) else none) else (if pc = 19 then some (.aload_n 0, [0, 1], 0) else none))) else (if pc < 26 then (if pc < 23 then (if pc = 20 then some (.getfield 18, [2, 2, 0, 0], 0) else none) else (if pc = 23 then some (.if_icmp .ge 19, [42], 0) else none)) else (if pc < 27 then (if pc = 26 then some (.aload_n 0, [0, 1], 0) else none) else (if pc = 27 then some (.getfield 9, [2, 0, 2, 1], 0) else none))))) else (if pc < 43 then (if pc < 35 then (if pc < 33 then (if pc < 32 then (if pc = 30 then some (.iload 5, [5, 2], 0) else none) else (if pc = 32 then some (.iaload, [50], 0) else none)) else (if pc < 34 then (if pc = 33 then some (.iconst 1, [1], 1) else none) else (if pc = 34 then some (.isub, [], 0) else none))) else (if pc < 39 then (if pc < 36 then (if pc = 35 then some (.iload_n 1, [1, 1], 0) else none) else (if pc = 36 then some (.invokestatic 22, [], 4) else none)) else (if pc < 42 then (if pc = 39 then some (.goto 4, [43], 0) else none) else (if pc = 42 then some (.iload_n 1, [1, 1], 0) else none)))) else (if pc < 52 then (if pc < 47 then (if pc < 45 then (if pc = 43 then some (.istore 6, [6, 2], 0) else none) else (if pc = 45 then some (.iload 4, [4, 2], 0) else none)) else (if pc < 49 then (if pc = 47 then some (.iload 6, [6, 2], 0) else none) else (if pc = 49 then some (.if_icmp .gt 28, [77], 0) else none))) else (if pc < 54 then (if pc < 53 then (if pc = 52 then some (.iload_n 2, [2, 1], 0) else none) else (if pc = 53 then some (.iconst 2, [1], 2) else none)) else (if pc < 55 then (if pc = 54 then some (.iload_n 3, [3, 1], 0) else none) else (if pc < 56 then (if pc = 55 then some (.imul, [], 0) else none) else (if pc = 56 then some (.if_icmp .ne 6, [62], 0) else none))))))) else (if pc < 87 then (if pc < 68 then (if pc < 64 then (if pc < 62 then (if pc < 61 then (if pc = 59 then some (.iload 4, [4, 2], 0) else none) else (if pc = 61 then some (.ireturn, [], 0) else none)) else (if pc < 63 then (if pc = 62 then some (.iload_n 2, [2, 1], 0) else none) else (if pc = 63 then some (.iconst 2, [1], 2) else none))) else (if pc < 66 then (if pc < 65 then (if pc = 64 then some (.iload_n 3, [3, 1], 0) else none) else (if pc = 65 then some (.imul, [], 0) else none)) else (if pc < 67 then (if pc = 66 then some (.iconst 1, [1], 1) else none) else (if pc = 67 then some (.iadd, [], 0) else none)))) else (if pc < 77 then (if pc < 73 then (if pc < 71 then (if pc = 68 then some (.if_icmp .ne 6, [74], 0) else none) else (if pc = 71 then some (.iload 6, [6, 2], 0) else none)) else (if pc < 74 then (if pc = 73 then some (.ireturn, [], 0) else none) else (if pc = 74 then some (.iinc 3 1, [3], 1) else none))) else (if pc < 80 then (if pc < 79 then (if pc = 77 then some (.iload 5, [5, 2], 0) else none) else (if pc = 79 then some (.aload_n 0, [0, 1], 0) else none)) else (if pc < 83 then (if pc = 80 then some (.getfield 18, [2, 2, 0, 0], 0) else none) else (if pc < 86 then (if pc = 83 then some (.if_icmp .ge 15, [98], 0) else none) else (if pc = 86 then some (.aload_n 0, [0, 1], 0) else none)))))) else (if pc < 102 then (if pc < 94 then (if pc < 92 then (if pc < 90 then (if pc = 87 then some (.getfield 15, [2, 1, 2, 1], 0) else none) else (if pc = 90 then some (.iload 5, [5, 2], 0) else none)) else (if pc < 93 then (if pc = 92 then some (.iaload, [50], 0) else none) else (if pc = 93 then some (.iconst 1, [1], 1) else none))) else (if pc < 98 then (if pc < 95 then (if pc = 94 then some (.iadd, [], 0) else none) else (if pc = 95 then some (.goto 5, [100], 0) else none)) else (if pc < 100 then (if pc = 98 then some (.iload 4, [4, 2], 0) else none) else (if pc = 100 then some (.istore 4, [4, 2], 0) else none)))) else (if pc < 110 then (if pc < 108 then (if pc < 105 then (if pc = 102 then some (.iinc 5 1, [5], 1) else none) else (if pc = 105 then some (.goto (-97), [8], 0) else none)) else (if pc < 109 then (if pc = 108 then some (.iload_n 2, [2, 1], 0) else none) else (if pc = 109 then some (.iconst (-1), [1], (-1)) else none))) else (if pc < 114 then (if pc < 113 then (if pc = 110 then some (.if_icmp .ne 7, [117], 0) else none) else (if pc = 113 then some (.iload_n 3, [3, 1], 0) else none)) else (if pc < 117 then (if pc = 114 then some (.goto 5, [119], 0) else none) else (if pc < 119 then (if pc = 117 then some (.bipush (-4), [2], (-4)) else none) else (if pc = 119 then some (.ireturn, [], 0) else none)))))))
-- heads of loops: [8]
def cd_X2_insert (pc : Nat) : Option me_T := if pc < 46 then (if pc < 24 then (if pc < 11 then (if pc < 6 then (if pc < 1 then (if pc = 0 then some (.aload_n 0, [0, 1], 0) else none) else (if pc < 4 then (if pc = 1 then some (.getfield 18, [2, 2, 0, 0], 0) else none) else (if pc = 4 then some (.bipush 12, [2], 12) else none))) else (if pc < 9 then (if pc = 6 then some (.if_icmp .lt 5, [11], 0) else none) else (if pc < 10 then (if pc = 9 then some (.iconst 0, [1], 0) else none) else (if pc = 10 then some (.ireturn, [], 0) else none)))) else (if pc < 17 then (if pc < 12 then (if pc = 11 then some (.aload_n 0, [0, 1], 0) else none) else (if pc < 15 then (if pc = 12 then some (.getfield 18, [2, 2, 0, 0], 0) else none) else (if pc = 15 then some (.istore 4, [4, 2], 0) else none))) else (if pc < 20 then (if pc < 19 then (if pc = 17 then some (.iload 4, [4, 2], 0) else none) else (if pc = 19 then some (.iload_n 1, [1, 1], 0) else none)) else (if pc < 23 then (if pc = 20 then some (.if_icmp .le 41, [61], 0) else none) else (if pc = 23 then some (.aload_n 0, [0, 1], 0) else none))))) else (if pc < 36 then (if pc < 30 then (if pc < 27 then (if pc = 24 then some (.getfield 9, [2, 0, 2, 1], 0) else none) else (if pc < 29 then (if pc = 27 then some (.iload 4, [4, 2], 0) else none) else (if pc = 29 then some (.aload_n 0, [0, 1], 0) else none))) else (if pc < 33 then (if pc = 30 then some (.getfield 9, [2, 0, 2, 1], 0) else none) else (if pc < 35 then (if pc = 33 then some (.iload 4, [4, 2], 0) else none) else (if pc = 35 then some (.iconst 1, [1], 1) else none)))) else (if pc < 39 then (if pc < 37 then (if pc = 36 then some (.isub, [], 0) else none) else (if pc < 38 then (if pc = 37 then some (.iaload, [50], 0) else none) else (if pc = 38 then some (.iastore, [50], 0) else none))) else (if pc < 43 then (if pc < 40 then (if pc = 39 then some (.aload_n 0, [0, 1], 0) else none) else (if pc = 40 then some (.getfield 15, [2, 1, 2, 1], 0) else none)) else (if pc < 45 then (if pc = 43 then some (.iload 4, [4, 2], 0) else none) else (if pc = 45 then some (.aload_n 0, [0, 1], 0) else none)))))) else (if pc < 68 then (if pc < 55 then (if pc < 52 then (if pc < 49 then (if pc = 46 then some (.getfield 15, [2, 1, 2, 1], 0) else none) else (if pc < 51 then (if pc = 49 then some (.iload 4, [4, 2], 0) else none) else (if pc = 51 then some (.iconst 1, [1], 1) else none))) else (if pc < 53 then (if pc = 52 then some (.isub, [], 0) else none) else (if pc < 54 then (if pc = 53 then some (.iaload, [50], 0) else none) else (if pc = 54 then some (.iastore, [50], 0) else none)))) else (if pc < 62 then (if pc < 58 then (if pc = 55 then some (.iinc 4 (-1), [4], (-1)) else none) else (if pc < 61 then (if pc = 58 then some (.goto (-41), [17], 0) else none) else (if pc = 61 then some (.aload_n 0, [0, 1], 0) else none))) else (if pc < 66 then (if pc < 65 then (if pc = 62 then some (.getfield 9, [2, 0, 2, 1], 0) else none) else (if pc = 65 then some (.iload_n 1, [1, 1], 0) else none)) else (if pc < 67 then (if pc = 66 then some (.iload_n 2, [2, 1], 0) else none) else (if pc = 67 then some (.iastore, [50], 0) else none))))) else (if pc < 76 then (if pc < 73 then (if pc < 69 then (if pc = 68 then some (.aload_n 0, [0, 1], 0) else none) else (if pc < 72 then (if pc = 69 then some (.getfield 15, [2, 1, 2, 1], 0) else none) else (if pc = 72 then some (.iload_n 1, [1, 1], 0) else none))) else (if pc < 74 then (if pc = 73 then some (.iload_n 3, [3, 1], 0) else none) else (if pc < 75 then (if pc = 74 then some (.iastore, [50], 0) else none) else (if pc = 75 then some (.aload_n 0, [0, 1], 0) else none)))) else (if pc < 81 then (if pc < 77 then (if pc = 76 then some (.dup, [], 0) else none) else (if pc < 80 then (if pc = 77 then some (.getfield 18, [2, 2, 0, 0], 0) else none) else (if pc = 80 then some (.iconst 1, [1], 1) else none))) else (if pc < 85 then (if pc < 82 then (if pc = 81 then some (.iadd, [], 0) else none) else (if pc = 82 then some (.putfield 18, [2, 2, 0, 0], 0) else none)) else (if pc < 86 then (if pc = 85 then some (.iconst 1, [1], 1) else none) else (if pc = 86 then some (.ireturn, [], 0) else none))))))
-- heads of loops: [17]
def cd_X2_removeRange (pc : Nat) : Option me_T := if pc < 31 then (if pc < 13 then (if pc < 4 then (if pc < 2 then (if pc < 1 then (if pc = 0 then some (.iload_n 2, [2, 1], 0) else none) else (if pc = 1 then some (.iload_n 1, [1, 1], 0) else none)) else (if pc < 3 then (if pc = 2 then some (.isub, [], 0) else none) else (if pc = 3 then some (.istore_n 3, [3, 1], 0) else none))) else (if pc < 7 then (if pc < 5 then (if pc = 4 then some (.iload_n 2, [2, 1], 0) else none) else (if pc = 5 then some (.istore 4, [4, 2], 0) else none)) else (if pc < 9 then (if pc = 7 then some (.iload 4, [4, 2], 0) else none) else (if pc < 10 then (if pc = 9 then some (.aload_n 0, [0, 1], 0) else none) else (if pc = 10 then some (.getfield 18, [2, 2, 0, 0], 0) else none))))) else (if pc < 23 then (if pc < 17 then (if pc < 16 then (if pc = 13 then some (.if_icmp .ge 41, [54], 0) else none) else (if pc = 16 then some (.aload_n 0, [0, 1], 0) else none)) else (if pc < 20 then (if pc = 17 then some (.getfield 9, [2, 0, 2, 1], 0) else none) else (if pc < 22 then (if pc = 20 then some (.iload 4, [4, 2], 0) else none) else (if pc = 22 then some (.iload_n 3, [3, 1], 0) else none)))) else (if pc < 25 then (if pc < 24 then (if pc = 23 then some (.isub, [], 0) else none) else (if pc = 24 then some (.aload_n 0, [0, 1], 0) else none)) else (if pc < 28 then (if pc = 25 then some (.getfield 9, [2, 0, 2, 1], 0) else none) else (if pc < 30 then (if pc = 28 then some (.iload 4, [4, 2], 0) else none) else (if pc = 30 then some (.iaload, [50], 0) else none)))))) else (if pc < 47 then (if pc < 39 then (if pc < 33 then (if pc < 32 then (if pc = 31 then some (.iastore, [50], 0) else none) else (if pc = 32 then some (.aload_n 0, [0, 1], 0) else none)) else (if pc < 36 then (if pc = 33 then some (.getfield 15, [2, 1, 2, 1], 0) else none) else (if pc < 38 then (if pc = 36 then some (.iload 4, [4, 2], 0) else none) else (if pc = 38 then some (.iload_n 3, [3, 1], 0) else none)))) else (if pc < 41 then (if pc < 40 then (if pc = 39 then some (.isub, [], 0) else none) else (if pc = 40 then some (.aload_n 0, [0, 1], 0) else none)) else (if pc < 44 then (if pc = 41 then some (.getfield 15, [2, 1, 2, 1], 0) else none) else (if pc < 46 then (if pc = 44 then some (.iload 4, [4, 2], 0) else none) else (if pc = 46 then some (.iaload, [50], 0) else none))))) else (if pc < 56 then (if pc < 51 then (if pc < 48 then (if pc = 47 then some (.iastore, [50], 0) else none) else (if pc = 48 then some (.iinc 4 1, [4], 1) else none)) else (if pc < 54 then (if pc = 51 then some (.goto (-44), [7], 0) else none) else (if pc < 55 then (if pc = 54 then some (.aload_n 0, [0, 1], 0) else none) else (if pc = 55 then some (.dup, [], 0) else none)))) else (if pc < 60 then (if pc < 59 then (if pc = 56 then some (.getfield 18, [2, 2, 0, 0], 0) else none) else (if pc = 59 then some (.iload_n 3, [3, 1], 0) else none)) else (if pc < 61 then (if pc = 60 then some (.isub, [], 0) else none) else (if pc < 64 then (if pc = 61 then some (.putfield 18, [2, 2, 0, 0], 0) else none) else (if pc = 64 then some (.return_, [], 0) else none))))))
-- heads of loops: [7]
def cd_X3_init (pc : Nat) : Option me_T := if pc < 18 then (if pc < 10 then (if pc < 4 then (if pc < 1 then (if pc = 0 then some (.aload_n 0, [0, 1], 0) else none) else (if pc = 1 then some (.invokespecial 3, [], 3) else none)) else (if pc < 5 then (if pc = 4 then some (.aload_n 0, [0, 1], 0) else none) else (if pc < 7 then (if pc = 5 then some (.bipush 6, [2], 6) else none) else (if pc = 7 then some (.anewarray 9, [64], 0) else none)))) else (if pc < 14 then (if pc < 13 then (if pc = 10 then some (.putfield 11, [3, 0, 2, 1], 0) else none) else (if pc = 13 then some (.iconst 0, [1], 0) else none)) else (if pc < 15 then (if pc = 14 then some (.istore_n 1, [1, 1], 0) else none) else (if pc < 16 then (if pc = 15 then some (.iload_n 1, [1, 1], 0) else none) else (if pc = 16 then some (.bipush 6, [2], 6) else none))))) else (if pc < 29 then (if pc < 22 then (if pc < 21 then (if pc = 18 then some (.if_icmp .ge 22, [40], 0) else none) else (if pc = 21 then some (.aload_n 0, [0, 1], 0) else none)) else (if pc < 25 then (if pc = 22 then some (.getfield 11, [3, 0, 2, 1], 0) else none) else (if pc < 26 then (if pc = 25 then some (.iload_n 1, [1, 1], 0) else none) else (if pc = 26 then some (.new 9, [4, 4], 0) else none)))) else (if pc < 34 then (if pc < 30 then (if pc = 29 then some (.dup, [], 0) else none) else (if pc < 33 then (if pc = 30 then some (.invokespecial 17, [29, 0, 0, 4], 2) else none) else (if pc = 33 then some (.aastore, [], 0) else none))) else (if pc < 37 then (if pc = 34 then some (.iinc 1 1, [1], 1) else none) else (if pc < 40 then (if pc = 37 then some (.goto (-22), [15], 0) else none) else (if pc = 40 then some (.return_, [], 0) else none)))))
-- heads of loops: [15]
def cd_X3_copyFrom (pc : Nat) : Option me_T := if pc < 19 then (if pc < 9 then (if pc < 2 then (if pc < 1 then (if pc = 0 then some (.aload_n 0, [0, 1], 0) else none) else (if pc = 1 then some (.aload_n 1, [1, 1], 0) else none)) else (if pc < 5 then (if pc = 2 then some (.getfield 18, [3, 1, 0, 0], 0) else none) else (if pc < 8 then (if pc = 5 then some (.putfield 18, [3, 1, 0, 0], 0) else none) else (if pc = 8 then some (.iconst 0, [1], 0) else none)))) else (if pc < 12 then (if pc < 10 then (if pc = 9 then some (.istore_n 2, [2, 1], 0) else none) else (if pc < 11 then (if pc = 10 then some (.iload_n 2, [2, 1], 0) else none) else (if pc = 11 then some (.aload_n 0, [0, 1], 0) else none))) else (if pc < 15 then (if pc = 12 then some (.getfield 18, [3, 1, 0, 0], 0) else none) else (if pc < 18 then (if pc = 15 then some (.if_icmp .ge 24, [39], 0) else none) else (if pc = 18 then some (.aload_n 0, [0, 1], 0) else none))))) else (if pc < 28 then (if pc < 23 then (if pc < 22 then (if pc = 19 then some (.getfield 11, [3, 0, 2, 1], 0) else none) else (if pc = 22 then some (.iload_n 2, [2, 1], 0) else none)) else (if pc < 24 then (if pc = 23 then some (.aaload, [], 0) else none) else (if pc < 25 then (if pc = 24 then some (.aload_n 1, [1, 1], 0) else none) else (if pc = 25 then some (.getfield 11, [3, 0, 2, 1], 0) else none)))) else (if pc < 33 then (if pc < 29 then (if pc = 28 then some (.iload_n 2, [2, 1], 0) else none) else (if pc < 30 then (if pc = 29 then some (.aaload, [], 0) else none) else (if pc = 30 then some (.invokevirtual 22, [32, 1, 0, 4], 0) else none))) else (if pc < 36 then (if pc = 33 then some (.iinc 2 1, [2], 1) else none) else (if pc < 39 then (if pc = 36 then some (.goto (-26), [10], 0) else none) else (if pc = 39 then some (.return_, [], 0) else none)))))
-- heads of loops: [10]
def cd_X3_placeOf (pc : Nat) : Option me_T := if pc < 15 then (if pc < 4 then (if pc < 2 then (if pc < 1 then (if pc = 0 then some (.iconst 0, [1], 0) else none) else (if pc = 1 then some (.istore_n 2, [2, 1], 0) else none)) else (if pc < 3 then (if pc = 2 then some (.iload_n 2, [2, 1], 0) else none) else (if pc = 3 then some (.aload_n 0, [0, 1], 0) else none))) else (if pc < 10 then (if pc < 7 then (if pc = 4 then some (.getfield 18, [3, 1, 0, 0], 0) else none) else (if pc = 7 then some (.if_icmp .ge 24, [31], 0) else none)) else (if pc < 11 then (if pc = 10 then some (.aload_n 0, [0, 1], 0) else none) else (if pc < 14 then (if pc = 11 then some (.getfield 11, [3, 0, 2, 1], 0) else none) else (if pc = 14 then some (.iload_n 2, [2, 1], 0) else none))))) else (if pc < 24 then (if pc < 19 then (if pc < 16 then (if pc = 15 then some (.aaload, [], 0) else none) else (if pc = 16 then some (.getfield 26, [4, 0, 0, 0], 0) else none)) else (if pc < 20 then (if pc = 19 then some (.iload_n 1, [1, 1], 0) else none) else (if pc < 23 then (if pc = 20 then some (.if_icmp .ne 5, [25], 0) else none) else (if pc = 23 then some (.iload_n 2, [2, 1], 0) else none)))) else (if pc < 28 then (if pc < 25 then (if pc = 24 then some (.ireturn, [], 0) else none) else (if pc = 25 then some (.iinc 2 1, [2], 1) else none)) else (if pc < 31 then (if pc = 28 then some (.goto (-26), [2], 0) else none) else (if pc < 32 then (if pc = 31 then some (.iconst (-1), [1], (-1)) else none) else (if pc = 32 then some (.ireturn, [], 0) else none)))))
-- heads of loops: [2]
def cd_X3_placeToSend (pc : Nat) : Option me_T := if pc < 31 then (if pc < 13 then (if pc < 6 then (if pc < 2 then (if pc < 1 then (if pc = 0 then some (.iconst (-1), [1], (-1)) else none) else (if pc = 1 then some (.istore_n 1, [1, 1], 0) else none)) else (if pc < 3 then (if pc = 2 then some (.aload_n 0, [0, 1], 0) else none) else (if pc = 3 then some (.getfield 18, [3, 1, 0, 0], 0) else none))) else (if pc < 8 then (if pc < 7 then (if pc = 6 then some (.iconst 1, [1], 1) else none) else (if pc = 7 then some (.isub, [], 0) else none)) else (if pc < 9 then (if pc = 8 then some (.istore_n 2, [2, 1], 0) else none) else (if pc < 10 then (if pc = 9 then some (.iload_n 2, [2, 1], 0) else none) else (if pc = 10 then some (.ifCond .lt 37, [47], 0) else none))))) else (if pc < 22 then (if pc < 17 then (if pc < 14 then (if pc = 13 then some (.aload_n 0, [0, 1], 0) else none) else (if pc = 14 then some (.getfield 11, [3, 0, 2, 1], 0) else none)) else (if pc < 18 then (if pc = 17 then some (.iload_n 2, [2, 1], 0) else none) else (if pc < 19 then (if pc = 18 then some (.aaload, [], 0) else none) else (if pc = 19 then some (.getfield 29, [4, 2, 0, 0], 0) else none)))) else (if pc < 26 then (if pc < 25 then (if pc = 22 then some (.ifCond .le 5, [27], 0) else none) else (if pc = 25 then some (.iload_n 2, [2, 1], 0) else none)) else (if pc < 27 then (if pc = 26 then some (.ireturn, [], 0) else none) else (if pc < 28 then (if pc = 27 then some (.aload_n 0, [0, 1], 0) else none) else (if pc = 28 then some (.getfield 11, [3, 0, 2, 1], 0) else none)))))) else (if pc < 48 then (if pc < 39 then (if pc < 33 then (if pc < 32 then (if pc = 31 then some (.iload_n 2, [2, 1], 0) else none) else (if pc = 32 then some (.aaload, [], 0) else none)) else (if pc < 36 then (if pc = 33 then some (.invokevirtual 32, [30, 0, 2, 4], 0) else none) else (if pc = 36 then some (.ifCond .eq 5, [41], 0) else none))) else (if pc < 41 then (if pc < 40 then (if pc = 39 then some (.iload_n 2, [2, 1], 0) else none) else (if pc = 40 then some (.istore_n 1, [1, 1], 0) else none)) else (if pc < 44 then (if pc = 41 then some (.iinc 2 (-1), [2], (-1)) else none) else (if pc < 47 then (if pc = 44 then some (.goto (-35), [9], 0) else none) else (if pc = 47 then some (.iload_n 1, [1, 1], 0) else none))))) else (if pc < 57 then (if pc < 52 then (if pc < 51 then (if pc = 48 then some (.ifCond .lt 5, [53], 0) else none) else (if pc = 51 then some (.iload_n 1, [1, 1], 0) else none)) else (if pc < 53 then (if pc = 52 then some (.ireturn, [], 0) else none) else (if pc < 54 then (if pc = 53 then some (.aload_n 0, [0, 1], 0) else none) else (if pc = 54 then some (.getfield 18, [3, 1, 0, 0], 0) else none)))) else (if pc < 61 then (if pc < 60 then (if pc = 57 then some (.ifCond .le 7, [64], 0) else none) else (if pc = 60 then some (.iconst 0, [1], 0) else none)) else (if pc < 64 then (if pc = 61 then some (.goto 4, [65], 0) else none) else (if pc < 65 then (if pc = 64 then some (.iconst (-1), [1], (-1)) else none) else (if pc = 65 then some (.ireturn, [], 0) else none))))))
-- heads of loops: [9]
def cd_X3_put (pc : Nat) : Option me_T := if pc < 21 then (if pc < 11 then (if pc < 6 then (if pc < 1 then (if pc = 0 then some (.aload_n 0, [0, 1], 0) else none) else (if pc < 4 then (if pc = 1 then some (.getfield 18, [3, 1, 0, 0], 0) else none) else (if pc = 4 then some (.bipush 6, [2], 6) else none))) else (if pc < 9 then (if pc = 6 then some (.if_icmp .lt 5, [11], 0) else none) else (if pc < 10 then (if pc = 9 then some (.aconst_null, [], 0) else none) else (if pc = 10 then some (.areturn, [], 0) else none)))) else (if pc < 16 then (if pc < 12 then (if pc = 11 then some (.aload_n 0, [0, 1], 0) else none) else (if pc < 15 then (if pc = 12 then some (.getfield 11, [3, 0, 2, 1], 0) else none) else (if pc = 15 then some (.aload_n 0, [0, 1], 0) else none))) else (if pc < 19 then (if pc = 16 then some (.getfield 18, [3, 1, 0, 0], 0) else none) else (if pc < 20 then (if pc = 19 then some (.aaload, [], 0) else none) else (if pc = 20 then some (.astore_n 3, [3, 1], 0) else none))))) else (if pc < 29 then (if pc < 24 then (if pc < 22 then (if pc = 21 then some (.aload_n 3, [3, 1], 0) else none) else (if pc < 23 then (if pc = 22 then some (.iload_n 1, [1, 1], 0) else none) else (if pc = 23 then some (.iload_n 2, [2, 1], 0) else none))) else (if pc < 27 then (if pc = 24 then some (.invokevirtual 36, [31, 2, 0, 4], 0) else none) else (if pc < 28 then (if pc = 27 then some (.aload_n 0, [0, 1], 0) else none) else (if pc = 28 then some (.dup, [], 0) else none)))) else (if pc < 34 then (if pc < 32 then (if pc = 29 then some (.getfield 18, [3, 1, 0, 0], 0) else none) else (if pc < 33 then (if pc = 32 then some (.iconst 1, [1], 1) else none) else (if pc = 33 then some (.iadd, [], 0) else none))) else (if pc < 37 then (if pc = 34 then some (.putfield 18, [3, 1, 0, 0], 0) else none) else (if pc < 38 then (if pc = 37 then some (.aload_n 3, [3, 1], 0) else none) else (if pc = 38 then some (.areturn, [], 0) else none)))))
def cd_X3_moveToEnd (pc : Nat) : Option me_T := if pc < 32 then (if pc < 18 then (if pc < 9 then (if pc < 4 then (if pc < 1 then (if pc = 0 then some (.iload_n 1, [1, 1], 0) else none) else (if pc = 1 then some (.ifCond .lt 11, [12], 0) else none)) else (if pc < 5 then (if pc = 4 then some (.iload_n 1, [1, 1], 0) else none) else (if pc < 6 then (if pc = 5 then some (.aload_n 0, [0, 1], 0) else none) else (if pc = 6 then some (.getfield 18, [3, 1, 0, 0], 0) else none)))) else (if pc < 13 then (if pc < 12 then (if pc = 9 then some (.if_icmp .lt 4, [13], 0) else none) else (if pc = 12 then some (.return_, [], 0) else none)) else (if pc < 14 then (if pc = 13 then some (.aload_n 0, [0, 1], 0) else none) else (if pc < 17 then (if pc = 14 then some (.getfield 11, [3, 0, 2, 1], 0) else none) else (if pc = 17 then some (.iload_n 1, [1, 1], 0) else none))))) else (if pc < 23 then (if pc < 20 then (if pc < 19 then (if pc = 18 then some (.aaload, [], 0) else none) else (if pc = 19 then some (.astore_n 2, [2, 1], 0) else none)) else (if pc < 21 then (if pc = 20 then some (.iload_n 1, [1, 1], 0) else none) else (if pc < 22 then (if pc = 21 then some (.istore_n 3, [3, 1], 0) else none) else (if pc = 22 then some (.iload_n 3, [3, 1], 0) else none)))) else (if pc < 27 then (if pc < 24 then (if pc = 23 then some (.aload_n 0, [0, 1], 0) else none) else (if pc = 24 then some (.getfield 18, [3, 1, 0, 0], 0) else none)) else (if pc < 28 then (if pc = 27 then some (.iconst 1, [1], 1) else none) else (if pc < 29 then (if pc = 28 then some (.isub, [], 0) else none) else (if pc = 29 then some (.if_icmp .ge 23, [52], 0) else none)))))) else (if pc < 46 then (if pc < 41 then (if pc < 36 then (if pc < 33 then (if pc = 32 then some (.aload_n 0, [0, 1], 0) else none) else (if pc = 33 then some (.getfield 11, [3, 0, 2, 1], 0) else none)) else (if pc < 37 then (if pc = 36 then some (.iload_n 3, [3, 1], 0) else none) else (if pc < 38 then (if pc = 37 then some (.aload_n 0, [0, 1], 0) else none) else (if pc = 38 then some (.getfield 11, [3, 0, 2, 1], 0) else none)))) else (if pc < 43 then (if pc < 42 then (if pc = 41 then some (.iload_n 3, [3, 1], 0) else none) else (if pc = 42 then some (.iconst 1, [1], 1) else none)) else (if pc < 44 then (if pc = 43 then some (.iadd, [], 0) else none) else (if pc < 45 then (if pc = 44 then some (.aaload, [], 0) else none) else (if pc = 45 then some (.aastore, [], 0) else none))))) else (if pc < 57 then (if pc < 52 then (if pc < 49 then (if pc = 46 then some (.iinc 3 1, [3], 1) else none) else (if pc = 49 then some (.goto (-27), [22], 0) else none)) else (if pc < 53 then (if pc = 52 then some (.aload_n 0, [0, 1], 0) else none) else (if pc < 56 then (if pc = 53 then some (.getfield 11, [3, 0, 2, 1], 0) else none) else (if pc = 56 then some (.aload_n 0, [0, 1], 0) else none)))) else (if pc < 62 then (if pc < 60 then (if pc = 57 then some (.getfield 18, [3, 1, 0, 0], 0) else none) else (if pc < 61 then (if pc = 60 then some (.iconst 1, [1], 1) else none) else (if pc = 61 then some (.isub, [], 0) else none))) else (if pc < 63 then (if pc = 62 then some (.aload_n 2, [2, 1], 0) else none) else (if pc < 64 then (if pc = 63 then some (.aastore, [], 0) else none) else (if pc = 64 then some (.return_, [], 0) else none))))))
-- heads of loops: [22]
def cd_X3_remove (pc : Nat) : Option me_T := if pc < 14 then (if pc < 6 then (if pc < 4 then (if pc < 1 then (if pc = 0 then some (.iload_n 1, [1, 1], 0) else none) else (if pc = 1 then some (.ifCond .lt 26, [27], 0) else none)) else (if pc < 5 then (if pc = 4 then some (.iload_n 1, [1, 1], 0) else none) else (if pc = 5 then some (.aload_n 0, [0, 1], 0) else none))) else (if pc < 12 then (if pc < 9 then (if pc = 6 then some (.getfield 18, [3, 1, 0, 0], 0) else none) else (if pc = 9 then some (.if_icmp .ge 18, [27], 0) else none)) else (if pc < 13 then (if pc = 12 then some (.aload_n 0, [0, 1], 0) else none) else (if pc = 13 then some (.iload_n 1, [1, 1], 0) else none)))) else (if pc < 22 then (if pc < 18 then (if pc < 17 then (if pc = 14 then some (.invokevirtual 40, [27, 1, 0, 3], 0) else none) else (if pc = 17 then some (.aload_n 0, [0, 1], 0) else none)) else (if pc < 19 then (if pc = 18 then some (.dup, [], 0) else none) else (if pc = 19 then some (.getfield 18, [3, 1, 0, 0], 0) else none))) else (if pc < 24 then (if pc < 23 then (if pc = 22 then some (.iconst 1, [1], 1) else none) else (if pc = 23 then some (.isub, [], 0) else none)) else (if pc < 27 then (if pc = 24 then some (.putfield 18, [3, 1, 0, 0], 0) else none) else (if pc = 27 then some (.return_, [], 0) else none))))
def cd_X4_init (pc : Nat) : Option me_T := if pc < 9 then (if pc < 4 then (if pc < 1 then (if pc = 0 then some (.aload_n 0, [0, 1], 0) else none) else (if pc = 1 then some (.invokespecial 3, [], 3) else none)) else (if pc < 5 then (if pc = 4 then some (.aload_n 0, [0, 1], 0) else none) else (if pc < 6 then (if pc = 5 then some (.iconst (-1), [1], (-1)) else none) else (if pc = 6 then some (.putfield 9, [4, 1, 0, 0], 0) else none)))) else (if pc < 14 then (if pc < 10 then (if pc = 9 then some (.aload_n 0, [0, 1], 0) else none) else (if pc < 13 then (if pc = 10 then some (.new 15, [2, 3], 0) else none) else (if pc = 13 then some (.dup, [], 0) else none))) else (if pc < 17 then (if pc = 14 then some (.invokespecial 17, [11, 0, 0, 2], 2) else none) else (if pc < 20 then (if pc = 17 then some (.putfield 18, [4, 3, 2, 1], 0) else none) else (if pc = 20 then some (.return_, [], 0) else none))))
def cd_X4_isForDirectory (pc : Nat) : Option me_T := if pc < 8 then (if pc < 4 then (if pc < 1 then (if pc = 0 then some (.aload_n 0, [0, 1], 0) else none) else (if pc = 1 then some (.getfield 9, [4, 1, 0, 0], 0) else none)) else (if pc < 5 then (if pc = 4 then some (.iconst (-1), [1], (-1)) else none) else (if pc = 5 then some (.if_icmp .ne 7, [12], 0) else none))) else (if pc < 12 then (if pc < 9 then (if pc = 8 then some (.iconst 1, [1], 1) else none) else (if pc = 9 then some (.goto 4, [13], 0) else none)) else (if pc < 13 then (if pc = 12 then some (.iconst 0, [1], 0) else none) else (if pc = 13 then some (.ireturn, [], 0) else none)))
def cd_X4_begin (pc : Nat) : Option me_T := if pc < 10 then (if pc < 5 then (if pc < 1 then (if pc = 0 then some (.aload_n 0, [0, 1], 0) else none) else (if pc < 2 then (if pc = 1 then some (.iload_n 1, [1, 1], 0) else none) else (if pc = 2 then some (.putfield 22, [4, 0, 0, 0], 0) else none))) else (if pc < 6 then (if pc = 5 then some (.aload_n 0, [0, 1], 0) else none) else (if pc < 7 then (if pc = 6 then some (.iload_n 2, [2, 1], 0) else none) else (if pc = 7 then some (.putfield 9, [4, 1, 0, 0], 0) else none)))) else (if pc < 15 then (if pc < 11 then (if pc = 10 then some (.aload_n 0, [0, 1], 0) else none) else (if pc < 12 then (if pc = 11 then some (.iconst 0, [1], 0) else none) else (if pc = 12 then some (.putfield 25, [4, 2, 0, 0], 0) else none))) else (if pc < 19 then (if pc < 16 then (if pc = 15 then some (.aload_n 0, [0, 1], 0) else none) else (if pc = 16 then some (.getfield 18, [4, 3, 2, 1], 0) else none)) else (if pc < 22 then (if pc = 19 then some (.invokevirtual 28, [12, 0, 0, 2], 0) else none) else (if pc = 22 then some (.return_, [], 0) else none))))
def cd_X4_copyFrom (pc : Nat) : Option me_T := if pc < 17 then (if pc < 8 then (if pc < 2 then (if pc < 1 then (if pc = 0 then some (.aload_n 0, [0, 1], 0) else none) else (if pc = 1 then some (.aload_n 1, [1, 1], 0) else none)) else (if pc < 5 then (if pc = 2 then some (.getfield 22, [4, 0, 0, 0], 0) else none) else (if pc = 5 then some (.putfield 22, [4, 0, 0, 0], 0) else none))) else (if pc < 10 then (if pc < 9 then (if pc = 8 then some (.aload_n 0, [0, 1], 0) else none) else (if pc = 9 then some (.aload_n 1, [1, 1], 0) else none)) else (if pc < 13 then (if pc = 10 then some (.getfield 9, [4, 1, 0, 0], 0) else none) else (if pc < 16 then (if pc = 13 then some (.putfield 9, [4, 1, 0, 0], 0) else none) else (if pc = 16 then some (.aload_n 0, [0, 1], 0) else none))))) else (if pc < 25 then (if pc < 21 then (if pc < 18 then (if pc = 17 then some (.aload_n 1, [1, 1], 0) else none) else (if pc = 18 then some (.getfield 25, [4, 2, 0, 0], 0) else none)) else (if pc < 24 then (if pc = 21 then some (.putfield 25, [4, 2, 0, 0], 0) else none) else (if pc = 24 then some (.aload_n 0, [0, 1], 0) else none))) else (if pc < 29 then (if pc < 28 then (if pc = 25 then some (.getfield 18, [4, 3, 2, 1], 0) else none) else (if pc = 28 then some (.aload_n 1, [1, 1], 0) else none)) else (if pc < 32 then (if pc = 29 then some (.getfield 18, [4, 3, 2, 1], 0) else none) else (if pc < 35 then (if pc = 32 then some (.invokevirtual 31, [13, 1, 0, 2], 0) else none) else (if pc = 35 then some (.return_, [], 0) else none)))))
def cd_X5_init (pc : Nat) : Option me_T := if pc < 13 then (if pc < 5 then (if pc < 1 then (if pc = 0 then some (.aload_n 0, [0, 1], 0) else none) else (if pc < 4 then (if pc = 1 then some (.invokespecial 3, [], 3) else none) else (if pc = 4 then some (.aload_n 0, [0, 1], 0) else none))) else (if pc < 9 then (if pc < 7 then (if pc = 5 then some (.bipush 60, [2], 60) else none) else (if pc = 7 then some (.newarray .char, [51], 0) else none)) else (if pc < 12 then (if pc = 9 then some (.putfield 9, [5, 0, 2, 1], 0) else none) else (if pc = 12 then some (.aload_n 0, [0, 1], 0) else none)))) else (if pc < 21 then (if pc < 17 then (if pc < 14 then (if pc = 13 then some (.iconst (-1), [1], (-1)) else none) else (if pc = 14 then some (.putfield 15, [5, 3, 0, 0], 0) else none)) else (if pc < 18 then (if pc = 17 then some (.aload_n 0, [0, 1], 0) else none) else (if pc = 18 then some (.new 19, [2, 3], 0) else none))) else (if pc < 25 then (if pc < 22 then (if pc = 21 then some (.dup, [], 0) else none) else (if pc = 22 then some (.invokespecial 21, [11, 0, 0, 2], 2) else none)) else (if pc < 28 then (if pc = 25 then some (.putfield 22, [5, 4, 2, 1], 0) else none) else (if pc = 28 then some (.return_, [], 0) else none))))
def cd_X5_append (pc : Nat) : Option me_T := if pc < 19 then (if pc < 10 then (if pc < 4 then (if pc < 1 then (if pc = 0 then some (.aload_n 0, [0, 1], 0) else none) else (if pc = 1 then some (.getfield 26, [5, 1, 0, 0], 0) else none)) else (if pc < 6 then (if pc = 4 then some (.bipush 60, [2], 60) else none) else (if pc < 9 then (if pc = 6 then some (.if_icmp .lt 5, [11], 0) else none) else (if pc = 9 then some (.iconst 0, [1], 0) else none)))) else (if pc < 12 then (if pc < 11 then (if pc = 10 then some (.ireturn, [], 0) else none) else (if pc = 11 then some (.aload_n 0, [0, 1], 0) else none)) else (if pc < 15 then (if pc = 12 then some (.getfield 9, [5, 0, 2, 1], 0) else none) else (if pc < 16 then (if pc = 15 then some (.aload_n 0, [0, 1], 0) else none) else (if pc = 16 then some (.getfield 26, [5, 1, 0, 0], 0) else none))))) else (if pc < 26 then (if pc < 21 then (if pc < 20 then (if pc = 19 then some (.iload_n 1, [1, 1], 0) else none) else (if pc = 20 then some (.castore, [51], 0) else none)) else (if pc < 22 then (if pc = 21 then some (.aload_n 0, [0, 1], 0) else none) else (if pc < 23 then (if pc = 22 then some (.dup, [], 0) else none) else (if pc = 23 then some (.getfield 26, [5, 1, 0, 0], 0) else none)))) else (if pc < 28 then (if pc < 27 then (if pc = 26 then some (.iconst 1, [1], 1) else none) else (if pc = 27 then some (.iadd, [], 0) else none)) else (if pc < 31 then (if pc = 28 then some (.putfield 26, [5, 1, 0, 0], 0) else none) else (if pc < 32 then (if pc = 31 then some (.iconst 1, [1], 1) else none) else (if pc = 32 then some (.ireturn, [], 0) else none)))))
def cd_X5_read (pc : Nat) : Option me_T := if pc < 33 then (if pc < 14 then (if pc < 6 then (if pc < 2 then (if pc < 1 then (if pc = 0 then some (.aload_n 0, [0, 1], 0) else none) else (if pc = 1 then some (.iconst 0, [1], 0) else none)) else (if pc < 5 then (if pc = 2 then some (.putfield 29, [5, 2, 0, 0], 0) else none) else (if pc = 5 then some (.aload_n 0, [0, 1], 0) else none))) else (if pc < 10 then (if pc < 7 then (if pc = 6 then some (.iconst (-1), [1], (-1)) else none) else (if pc = 7 then some (.putfield 15, [5, 3, 0, 0], 0) else none)) else (if pc < 11 then (if pc = 10 then some (.aload_n 0, [0, 1], 0) else none) else (if pc = 11 then some (.getfield 22, [5, 4, 2, 1], 0) else none)))) else (if pc < 24 then (if pc < 18 then (if pc < 17 then (if pc = 14 then some (.invokevirtual 32, [12, 0, 0, 2], 0) else none) else (if pc = 17 then some (.aload_n 0, [0, 1], 0) else none)) else (if pc < 21 then (if pc = 18 then some (.invokevirtual 35, [36, 0, 2, 5], 0) else none) else (if pc = 21 then some (.ifCond .eq 43, [64], 0) else none))) else (if pc < 27 then (if pc < 25 then (if pc = 24 then some (.aload_n 0, [0, 1], 0) else none) else (if pc = 25 then some (.bipush 58, [2], 58) else none)) else (if pc < 30 then (if pc = 27 then some (.invokevirtual 39, [38, 1, 2, 5], 0) else none) else (if pc = 30 then some (.ifCond .eq 34, [64], 0) else none))))) else (if pc < 50 then (if pc < 41 then (if pc < 37 then (if pc < 34 then (if pc = 33 then some (.aload_n 0, [0, 1], 0) else none) else (if pc = 34 then some (.invokevirtual 43, [37, 0, 2, 5], 0) else none)) else (if pc < 40 then (if pc = 37 then some (.ifCond .eq 27, [64], 0) else none) else (if pc = 40 then some (.aload_n 0, [0, 1], 0) else none))) else (if pc < 46 then (if pc < 43 then (if pc = 41 then some (.bipush 59, [2], 59) else none) else (if pc = 43 then some (.invokevirtual 39, [38, 1, 2, 5], 0) else none)) else (if pc < 49 then (if pc = 46 then some (.ifCond .eq 18, [64], 0) else none) else (if pc = 49 then some (.aload_n 0, [0, 1], 0) else none)))) else (if pc < 60 then (if pc < 54 then (if pc < 53 then (if pc = 50 then some (.getfield 29, [5, 2, 0, 0], 0) else none) else (if pc = 53 then some (.aload_n 0, [0, 1], 0) else none)) else (if pc < 57 then (if pc = 54 then some (.getfield 26, [5, 1, 0, 0], 0) else none) else (if pc = 57 then some (.if_icmp .ne 7, [64], 0) else none))) else (if pc < 64 then (if pc < 61 then (if pc = 60 then some (.iconst 1, [1], 1) else none) else (if pc = 61 then some (.goto 4, [65], 0) else none)) else (if pc < 65 then (if pc = 64 then some (.iconst 0, [1], 0) else none) else (if pc = 65 then some (.ireturn, [], 0) else none)))))
def cd_X5_readSubject (pc : Nat) : Option me_T := if pc < 21 then (if pc < 10 then (if pc < 3 then (if pc < 1 then (if pc = 0 then some (.aload_n 0, [0, 1], 0) else none) else (if pc = 1 then some (.bipush 100, [2], 100) else none)) else (if pc < 6 then (if pc = 3 then some (.invokevirtual 39, [38, 1, 2, 5], 0) else none) else (if pc < 9 then (if pc = 6 then some (.ifCond .eq 5, [11], 0) else none) else (if pc = 9 then some (.iconst 1, [1], 1) else none)))) else (if pc < 14 then (if pc < 11 then (if pc = 10 then some (.ireturn, [], 0) else none) else (if pc < 12 then (if pc = 11 then some (.aload_n 0, [0, 1], 0) else none) else (if pc = 12 then some (.bipush 102, [2], 102) else none))) else (if pc < 17 then (if pc = 14 then some (.invokevirtual 39, [38, 1, 2, 5], 0) else none) else (if pc < 20 then (if pc = 17 then some (.ifCond .eq 11, [28], 0) else none) else (if pc = 20 then some (.aload_n 0, [0, 1], 0) else none))))) else (if pc < 30 then (if pc < 25 then (if pc < 22 then (if pc = 21 then some (.iconst 0, [1], 0) else none) else (if pc = 22 then some (.invokevirtual 46, [39, 1, 2, 5], 0) else none)) else (if pc < 28 then (if pc = 25 then some (.ifCond .ne 5, [30], 0) else none) else (if pc < 29 then (if pc = 28 then some (.iconst 0, [1], 0) else none) else (if pc = 29 then some (.ireturn, [], 0) else none)))) else (if pc < 35 then (if pc < 31 then (if pc = 30 then some (.aload_n 0, [0, 1], 0) else none) else (if pc < 32 then (if pc = 31 then some (.aload_n 0, [0, 1], 0) else none) else (if pc = 32 then some (.getfield 50, [5, 5, 0, 0], 0) else none))) else (if pc < 38 then (if pc = 35 then some (.putfield 15, [5, 3, 0, 0], 0) else none) else (if pc < 39 then (if pc = 38 then some (.iconst 1, [1], 1) else none) else (if pc = 39 then some (.ireturn, [], 0) else none)))))
def cd_X5_readHoles (pc : Nat) : Option me_T := if pc < 42 then (if pc < 18 then (if pc < 6 then (if pc < 3 then (if pc < 1 then (if pc = 0 then some (.iconst 0, [1], 0) else none) else (if pc < 2 then (if pc = 1 then some (.istore_n 1, [1, 1], 0) else none) else (if pc = 2 then some (.iconst 0, [1], 0) else none))) else (if pc < 4 then (if pc = 3 then some (.istore_n 2, [2, 1], 0) else none) else (if pc < 5 then (if pc = 4 then some (.iload_n 2, [2, 1], 0) else none) else (if pc = 5 then some (.iconst 4, [1], 4) else none)))) else (if pc < 11 then (if pc < 9 then (if pc = 6 then some (.if_icmp .ge 79, [85], 0) else none) else (if pc < 10 then (if pc = 9 then some (.aload_n 0, [0, 1], 0) else none) else (if pc = 10 then some (.iload_n 1, [1, 1], 0) else none))) else (if pc < 14 then (if pc = 11 then some (.invokevirtual 46, [39, 1, 2, 5], 0) else none) else (if pc < 17 then (if pc = 14 then some (.ifCond .ne 5, [19], 0) else none) else (if pc = 17 then some (.iconst 0, [1], 0) else none))))) else (if pc < 27 then (if pc < 23 then (if pc < 19 then (if pc = 18 then some (.ireturn, [], 0) else none) else (if pc < 20 then (if pc = 19 then some (.aload_n 0, [0, 1], 0) else none) else (if pc = 20 then some (.getfield 50, [5, 5, 0, 0], 0) else none))) else (if pc < 24 then (if pc = 23 then some (.istore_n 3, [3, 1], 0) else none) else (if pc < 25 then (if pc = 24 then some (.aload_n 0, [0, 1], 0) else none) else (if pc = 25 then some (.bipush 45, [2], 45) else none)))) else (if pc < 34 then (if pc < 30 then (if pc = 27 then some (.invokevirtual 39, [38, 1, 2, 5], 0) else none) else (if pc < 33 then (if pc = 30 then some (.ifCond .eq 13, [43], 0) else none) else (if pc = 33 then some (.aload_n 0, [0, 1], 0) else none))) else (if pc < 38 then (if pc < 35 then (if pc = 34 then some (.iload_n 3, [3, 1], 0) else none) else (if pc = 35 then some (.invokevirtual 46, [39, 1, 2, 5], 0) else none)) else (if pc < 41 then (if pc = 38 then some (.ifCond .ne 5, [43], 0) else none) else (if pc = 41 then some (.iconst 0, [1], 0) else none)))))) else (if pc < 63 then (if pc < 52 then (if pc < 47 then (if pc < 43 then (if pc = 42 then some (.ireturn, [], 0) else none) else (if pc < 44 then (if pc = 43 then some (.aload_n 0, [0, 1], 0) else none) else (if pc = 44 then some (.getfield 22, [5, 4, 2, 1], 0) else none))) else (if pc < 48 then (if pc = 47 then some (.iload_n 3, [3, 1], 0) else none) else (if pc < 49 then (if pc = 48 then some (.aload_n 0, [0, 1], 0) else none) else (if pc = 49 then some (.getfield 50, [5, 5, 0, 0], 0) else none)))) else (if pc < 57 then (if pc < 55 then (if pc = 52 then some (.invokevirtual 53, [16, 2, 2, 2], 0) else none) else (if pc < 56 then (if pc = 55 then some (.pop, [], 0) else none) else (if pc = 56 then some (.aload_n 0, [0, 1], 0) else none))) else (if pc < 61 then (if pc < 60 then (if pc = 57 then some (.getfield 50, [5, 5, 0, 0], 0) else none) else (if pc = 60 then some (.iconst 2, [1], 2) else none)) else (if pc < 62 then (if pc = 61 then some (.iadd, [], 0) else none) else (if pc = 62 then some (.istore_n 1, [1, 1], 0) else none))))) else (if pc < 74 then (if pc < 68 then (if pc < 64 then (if pc = 63 then some (.iload_n 2, [2, 1], 0) else none) else (if pc < 65 then (if pc = 64 then some (.iconst 3, [1], 3) else none) else (if pc = 65 then some (.if_icmp .eq 12, [77], 0) else none))) else (if pc < 69 then (if pc = 68 then some (.aload_n 0, [0, 1], 0) else none) else (if pc < 71 then (if pc = 69 then some (.bipush 44, [2], 44) else none) else (if pc = 71 then some (.invokevirtual 39, [38, 1, 2, 5], 0) else none)))) else (if pc < 79 then (if pc < 77 then (if pc = 74 then some (.ifCond .ne 5, [79], 0) else none) else (if pc < 78 then (if pc = 77 then some (.iconst 1, [1], 1) else none) else (if pc = 78 then some (.ireturn, [], 0) else none))) else (if pc < 85 then (if pc < 82 then (if pc = 79 then some (.iinc 2 1, [2], 1) else none) else (if pc = 82 then some (.goto (-78), [4], 0) else none)) else (if pc < 86 then (if pc = 85 then some (.iconst 1, [1], 1) else none) else (if pc = 86 then some (.ireturn, [], 0) else none))))))
-- heads of loops: [4]
def cd_X5_skip (pc : Nat) : Option me_T := if pc < 21 then (if pc < 11 then (if pc < 4 then (if pc < 1 then (if pc = 0 then some (.aload_n 0, [0, 1], 0) else none) else (if pc = 1 then some (.getfield 29, [5, 2, 0, 0], 0) else none)) else (if pc < 5 then (if pc = 4 then some (.aload_n 0, [0, 1], 0) else none) else (if pc < 8 then (if pc = 5 then some (.getfield 26, [5, 1, 0, 0], 0) else none) else (if pc = 8 then some (.if_icmp .ge 16, [24], 0) else none)))) else (if pc < 16 then (if pc < 12 then (if pc = 11 then some (.aload_n 0, [0, 1], 0) else none) else (if pc < 15 then (if pc = 12 then some (.getfield 9, [5, 0, 2, 1], 0) else none) else (if pc = 15 then some (.aload_n 0, [0, 1], 0) else none))) else (if pc < 19 then (if pc = 16 then some (.getfield 29, [5, 2, 0, 0], 0) else none) else (if pc < 20 then (if pc = 19 then some (.caload, [51], 0) else none) else (if pc = 20 then some (.iload_n 1, [1, 1], 0) else none))))) else (if pc < 28 then (if pc < 25 then (if pc < 24 then (if pc = 21 then some (.if_icmp .eq 5, [26], 0) else none) else (if pc = 24 then some (.iconst 0, [1], 0) else none)) else (if pc < 26 then (if pc = 25 then some (.ireturn, [], 0) else none) else (if pc < 27 then (if pc = 26 then some (.aload_n 0, [0, 1], 0) else none) else (if pc = 27 then some (.dup, [], 0) else none)))) else (if pc < 33 then (if pc < 31 then (if pc = 28 then some (.getfield 29, [5, 2, 0, 0], 0) else none) else (if pc < 32 then (if pc = 31 then some (.iconst 1, [1], 1) else none) else (if pc = 32 then some (.iadd, [], 0) else none))) else (if pc < 36 then (if pc = 33 then some (.putfield 29, [5, 2, 0, 0], 0) else none) else (if pc < 37 then (if pc = 36 then some (.iconst 1, [1], 1) else none) else (if pc = 37 then some (.ireturn, [], 0) else none)))))
def cd_X5_readNumber (pc : Nat) : Option me_T := if pc < 52 then (if pc < 24 then (if pc < 11 then (if pc < 5 then (if pc < 1 then (if pc = 0 then some (.aload_n 0, [0, 1], 0) else none) else (if pc < 4 then (if pc = 1 then some (.getfield 29, [5, 2, 0, 0], 0) else none) else (if pc = 4 then some (.istore_n 2, [2, 1], 0) else none))) else (if pc < 7 then (if pc < 6 then (if pc = 5 then some (.iconst 0, [1], 0) else none) else (if pc = 6 then some (.istore_n 3, [3, 1], 0) else none)) else (if pc < 8 then (if pc = 7 then some (.aload_n 0, [0, 1], 0) else none) else (if pc = 8 then some (.getfield 29, [5, 2, 0, 0], 0) else none)))) else (if pc < 18 then (if pc < 12 then (if pc = 11 then some (.aload_n 0, [0, 1], 0) else none) else (if pc < 15 then (if pc = 12 then some (.getfield 26, [5, 1, 0, 0], 0) else none) else (if pc = 15 then some (.if_icmp .ge 55, [70], 0) else none))) else (if pc < 22 then (if pc < 19 then (if pc = 18 then some (.aload_n 0, [0, 1], 0) else none) else (if pc = 19 then some (.getfield 29, [5, 2, 0, 0], 0) else none)) else (if pc < 23 then (if pc = 22 then some (.iload_n 2, [2, 1], 0) else none) else (if pc = 23 then some (.iconst 5, [1], 5) else none))))) else (if pc < 39 then (if pc < 29 then (if pc < 25 then (if pc = 24 then some (.iadd, [], 0) else none) else (if pc < 28 then (if pc = 25 then some (.if_icmp .ge 45, [70], 0) else none) else (if pc = 28 then some (.aload_n 0, [0, 1], 0) else none))) else (if pc < 33 then (if pc < 30 then (if pc = 29 then some (.aload_n 0, [0, 1], 0) else none) else (if pc = 30 then some (.getfield 29, [5, 2, 0, 0], 0) else none)) else (if pc < 36 then (if pc = 33 then some (.invokevirtual 57, [40, 1, 2, 5], 0) else none) else (if pc = 36 then some (.ifCond .eq 34, [70], 0) else none)))) else (if pc < 44 then (if pc < 42 then (if pc < 41 then (if pc = 39 then some (.bipush 10, [2], 10) else none) else (if pc = 41 then some (.iload_n 3, [3, 1], 0) else none)) else (if pc < 43 then (if pc = 42 then some (.imul, [], 0) else none) else (if pc = 43 then some (.aload_n 0, [0, 1], 0) else none))) else (if pc < 48 then (if pc < 47 then (if pc = 44 then some (.getfield 9, [5, 0, 2, 1], 0) else none) else (if pc = 47 then some (.aload_n 0, [0, 1], 0) else none)) else (if pc < 51 then (if pc = 48 then some (.getfield 29, [5, 2, 0, 0], 0) else none) else (if pc = 51 then some (.caload, [51], 0) else none)))))) else (if pc < 78 then (if pc < 62 then (if pc < 56 then (if pc < 54 then (if pc = 52 then some (.bipush 48, [2], 48) else none) else (if pc < 55 then (if pc = 54 then some (.isub, [], 0) else none) else (if pc = 55 then some (.iadd, [], 0) else none))) else (if pc < 58 then (if pc < 57 then (if pc = 56 then some (.istore_n 3, [3, 1], 0) else none) else (if pc = 57 then some (.aload_n 0, [0, 1], 0) else none)) else (if pc < 59 then (if pc = 58 then some (.dup, [], 0) else none) else (if pc = 59 then some (.getfield 29, [5, 2, 0, 0], 0) else none)))) else (if pc < 70 then (if pc < 64 then (if pc < 63 then (if pc = 62 then some (.iconst 1, [1], 1) else none) else (if pc = 63 then some (.iadd, [], 0) else none)) else (if pc < 67 then (if pc = 64 then some (.putfield 29, [5, 2, 0, 0], 0) else none) else (if pc = 67 then some (.goto (-60), [7], 0) else none))) else (if pc < 74 then (if pc < 71 then (if pc = 70 then some (.aload_n 0, [0, 1], 0) else none) else (if pc = 71 then some (.getfield 29, [5, 2, 0, 0], 0) else none)) else (if pc < 75 then (if pc = 74 then some (.iload_n 2, [2, 1], 0) else none) else (if pc = 75 then some (.if_icmp .ne 5, [80], 0) else none))))) else (if pc < 87 then (if pc < 81 then (if pc < 79 then (if pc = 78 then some (.iconst 0, [1], 0) else none) else (if pc < 80 then (if pc = 79 then some (.ireturn, [], 0) else none) else (if pc = 80 then some (.iload_n 3, [3, 1], 0) else none))) else (if pc < 85 then (if pc < 82 then (if pc = 81 then some (.iload_n 1, [1, 1], 0) else none) else (if pc = 82 then some (.if_icmp .ge 10, [92], 0) else none)) else (if pc < 86 then (if pc = 85 then some (.aload_n 0, [0, 1], 0) else none) else (if pc = 86 then some (.iload_n 2, [2, 1], 0) else none)))) else (if pc < 93 then (if pc < 91 then (if pc < 90 then (if pc = 87 then some (.putfield 29, [5, 2, 0, 0], 0) else none) else (if pc = 90 then some (.iconst 0, [1], 0) else none)) else (if pc < 92 then (if pc = 91 then some (.ireturn, [], 0) else none) else (if pc = 92 then some (.aload_n 0, [0, 1], 0) else none))) else (if pc < 97 then (if pc < 94 then (if pc = 93 then some (.iload_n 3, [3, 1], 0) else none) else (if pc = 94 then some (.putfield 50, [5, 5, 0, 0], 0) else none)) else (if pc < 98 then (if pc = 97 then some (.iconst 1, [1], 1) else none) else (if pc = 98 then some (.ireturn, [], 0) else none))))))
-- heads of loops: [7]
def cd_X5_isDigit (pc : Nat) : Option me_T := if pc < 15 then (if pc < 6 then (if pc < 4 then (if pc < 1 then (if pc = 0 then some (.aload_n 0, [0, 1], 0) else none) else (if pc = 1 then some (.getfield 9, [5, 0, 2, 1], 0) else none)) else (if pc < 5 then (if pc = 4 then some (.iload_n 1, [1, 1], 0) else none) else (if pc = 5 then some (.caload, [51], 0) else none))) else (if pc < 11 then (if pc < 8 then (if pc = 6 then some (.bipush 48, [2], 48) else none) else (if pc = 8 then some (.if_icmp .lt 18, [26], 0) else none)) else (if pc < 12 then (if pc = 11 then some (.aload_n 0, [0, 1], 0) else none) else (if pc = 12 then some (.getfield 9, [5, 0, 2, 1], 0) else none)))) else (if pc < 22 then (if pc < 17 then (if pc < 16 then (if pc = 15 then some (.iload_n 1, [1, 1], 0) else none) else (if pc = 16 then some (.caload, [51], 0) else none)) else (if pc < 19 then (if pc = 17 then some (.bipush 57, [2], 57) else none) else (if pc = 19 then some (.if_icmp .gt 7, [26], 0) else none))) else (if pc < 26 then (if pc < 23 then (if pc = 22 then some (.iconst 1, [1], 1) else none) else (if pc = 23 then some (.goto 4, [27], 0) else none)) else (if pc < 27 then (if pc = 26 then some (.iconst 0, [1], 0) else none) else (if pc = 27 then some (.ireturn, [], 0) else none))))
def cd_X6_init (pc : Nat) : Option me_T := if pc < 38 then (if pc < 17 then (if pc < 6 then (if pc < 4 then (if pc < 1 then (if pc = 0 then some (.aload_n 0, [0, 1], 0) else none) else (if pc = 1 then some (.invokespecial 3, [], 3) else none)) else (if pc < 5 then (if pc = 4 then some (.aload_n 0, [0, 1], 0) else none) else (if pc = 5 then some (.iconst 5, [1], 5) else none))) else (if pc < 12 then (if pc < 9 then (if pc = 6 then some (.anewarray 9, [67], 0) else none) else (if pc = 9 then some (.putfield 11, [6, 1, 2, 1], 0) else none)) else (if pc < 13 then (if pc = 12 then some (.aload_n 0, [0, 1], 0) else none) else (if pc < 16 then (if pc = 13 then some (.new 17, [3, 2], 0) else none) else (if pc = 16 then some (.dup, [], 0) else none))))) else (if pc < 28 then (if pc < 23 then (if pc < 20 then (if pc = 17 then some (.invokespecial 19, [22, 0, 0, 3], 2) else none) else (if pc = 20 then some (.putfield 20, [6, 3, 2, 1], 0) else none)) else (if pc < 24 then (if pc = 23 then some (.aload_n 0, [0, 1], 0) else none) else (if pc < 27 then (if pc = 24 then some (.new 24, [1, 6], 0) else none) else (if pc = 27 then some (.dup, [], 0) else none)))) else (if pc < 34 then (if pc < 31 then (if pc = 28 then some (.invokespecial 26, [9, 0, 0, 1], 2) else none) else (if pc = 31 then some (.putfield 27, [6, 4, 2, 1], 0) else none)) else (if pc < 35 then (if pc = 34 then some (.aload_n 0, [0, 1], 0) else none) else (if pc < 36 then (if pc = 35 then some (.iconst 5, [1], 5) else none) else (if pc = 36 then some (.newarray .int, [50], 0) else none)))))) else (if pc < 54 then (if pc < 47 then (if pc < 42 then (if pc < 41 then (if pc = 38 then some (.putfield 31, [6, 5, 2, 1], 0) else none) else (if pc = 41 then some (.aload_n 0, [0, 1], 0) else none)) else (if pc < 43 then (if pc = 42 then some (.aload_n 1, [1, 1], 0) else none) else (if pc < 46 then (if pc = 43 then some (.putfield 35, [6, 0, 2, 1], 0) else none) else (if pc = 46 then some (.iconst 0, [1], 0) else none)))) else (if pc < 49 then (if pc < 48 then (if pc = 47 then some (.istore_n 2, [2, 1], 0) else none) else (if pc = 48 then some (.iload_n 2, [2, 1], 0) else none)) else (if pc < 50 then (if pc = 49 then some (.iconst 5, [1], 5) else none) else (if pc < 53 then (if pc = 50 then some (.if_icmp .ge 23, [73], 0) else none) else (if pc = 53 then some (.aload_n 0, [0, 1], 0) else none))))) else (if pc < 63 then (if pc < 58 then (if pc < 57 then (if pc = 54 then some (.getfield 11, [6, 1, 2, 1], 0) else none) else (if pc = 57 then some (.iload_n 2, [2, 1], 0) else none)) else (if pc < 61 then (if pc = 58 then some (.new 9, [7, 11], 0) else none) else (if pc < 62 then (if pc = 61 then some (.dup, [], 0) else none) else (if pc = 62 then some (.iload_n 2, [2, 1], 0) else none)))) else (if pc < 67 then (if pc < 66 then (if pc = 63 then some (.invokespecial 39, [57, 1, 0, 7], 2) else none) else (if pc = 66 then some (.aastore, [], 0) else none)) else (if pc < 70 then (if pc = 67 then some (.iinc 2 1, [2], 1) else none) else (if pc < 73 then (if pc = 70 then some (.goto (-22), [48], 0) else none) else (if pc = 73 then some (.return_, [], 0) else none))))))
-- heads of loops: [48]
def cd_X6_copyFrom (pc : Nat) : Option me_T := if pc < 41 then (if pc < 19 then (if pc < 9 then (if pc < 2 then (if pc < 1 then (if pc = 0 then some (.aload_n 0, [0, 1], 0) else none) else (if pc = 1 then some (.aload_n 1, [1, 1], 0) else none)) else (if pc < 5 then (if pc = 2 then some (.getfield 42, [6, 6, 0, 0], 0) else none) else (if pc < 8 then (if pc = 5 then some (.putfield 42, [6, 6, 0, 0], 0) else none) else (if pc = 8 then some (.aload_n 0, [0, 1], 0) else none)))) else (if pc < 16 then (if pc < 10 then (if pc = 9 then some (.aload_n 1, [1, 1], 0) else none) else (if pc < 13 then (if pc = 10 then some (.getfield 46, [6, 2, 0, 0], 0) else none) else (if pc = 13 then some (.putfield 46, [6, 2, 0, 0], 0) else none))) else (if pc < 17 then (if pc = 16 then some (.iconst 0, [1], 0) else none) else (if pc < 18 then (if pc = 17 then some (.istore_n 2, [2, 1], 0) else none) else (if pc = 18 then some (.iload_n 2, [2, 1], 0) else none))))) else (if pc < 31 then (if pc < 26 then (if pc < 20 then (if pc = 19 then some (.aload_n 0, [0, 1], 0) else none) else (if pc < 23 then (if pc = 20 then some (.getfield 46, [6, 2, 0, 0], 0) else none) else (if pc = 23 then some (.if_icmp .ge 24, [47], 0) else none))) else (if pc < 27 then (if pc = 26 then some (.aload_n 0, [0, 1], 0) else none) else (if pc < 30 then (if pc = 27 then some (.getfield 11, [6, 1, 2, 1], 0) else none) else (if pc = 30 then some (.iload_n 2, [2, 1], 0) else none)))) else (if pc < 36 then (if pc < 32 then (if pc = 31 then some (.aaload, [], 0) else none) else (if pc < 33 then (if pc = 32 then some (.aload_n 1, [1, 1], 0) else none) else (if pc = 33 then some (.getfield 11, [6, 1, 2, 1], 0) else none))) else (if pc < 37 then (if pc = 36 then some (.iload_n 2, [2, 1], 0) else none) else (if pc < 38 then (if pc = 37 then some (.aaload, [], 0) else none) else (if pc = 38 then some (.invokevirtual 49, [58, 1, 0, 7], 0) else none)))))) else (if pc < 62 then (if pc < 52 then (if pc < 47 then (if pc < 44 then (if pc = 41 then some (.iinc 2 1, [2], 1) else none) else (if pc = 44 then some (.goto (-26), [18], 0) else none)) else (if pc < 48 then (if pc = 47 then some (.aload_n 0, [0, 1], 0) else none) else (if pc < 51 then (if pc = 48 then some (.getfield 20, [6, 3, 2, 1], 0) else none) else (if pc = 51 then some (.aload_n 1, [1, 1], 0) else none)))) else (if pc < 59 then (if pc < 55 then (if pc = 52 then some (.getfield 20, [6, 3, 2, 1], 0) else none) else (if pc < 58 then (if pc = 55 then some (.invokevirtual 53, [23, 1, 0, 3], 0) else none) else (if pc = 58 then some (.iconst 0, [1], 0) else none))) else (if pc < 60 then (if pc = 59 then some (.istore_n 2, [2, 1], 0) else none) else (if pc < 61 then (if pc = 60 then some (.iload_n 2, [2, 1], 0) else none) else (if pc = 61 then some (.iconst 5, [1], 5) else none))))) else (if pc < 74 then (if pc < 69 then (if pc < 65 then (if pc = 62 then some (.if_icmp .ge 21, [83], 0) else none) else (if pc < 66 then (if pc = 65 then some (.aload_n 0, [0, 1], 0) else none) else (if pc = 66 then some (.getfield 31, [6, 5, 2, 1], 0) else none))) else (if pc < 70 then (if pc = 69 then some (.iload_n 2, [2, 1], 0) else none) else (if pc < 71 then (if pc = 70 then some (.aload_n 1, [1, 1], 0) else none) else (if pc = 71 then some (.getfield 31, [6, 5, 2, 1], 0) else none)))) else (if pc < 77 then (if pc < 75 then (if pc = 74 then some (.iload_n 2, [2, 1], 0) else none) else (if pc < 76 then (if pc = 75 then some (.iaload, [50], 0) else none) else (if pc = 76 then some (.iastore, [50], 0) else none))) else (if pc < 80 then (if pc = 77 then some (.iinc 2 1, [2], 1) else none) else (if pc < 83 then (if pc = 80 then some (.goto (-20), [60], 0) else none) else (if pc = 83 then some (.return_, [], 0) else none))))))
-- heads of loops: [18, 60]
def cd_X6_admit (pc : Nat) : Option me_T := if pc < 30 then (if pc < 15 then (if pc < 8 then (if pc < 4 then (if pc < 1 then (if pc = 0 then some (.aload_n 0, [0, 1], 0) else none) else (if pc = 1 then some (.getfield 46, [6, 2, 0, 0], 0) else none)) else (if pc < 5 then (if pc = 4 then some (.iconst 5, [1], 5) else none) else (if pc = 5 then some (.if_icmp .lt 6, [11], 0) else none))) else (if pc < 11 then (if pc < 10 then (if pc = 8 then some (.bipush (-3), [2], (-3)) else none) else (if pc = 10 then some (.ireturn, [], 0) else none)) else (if pc < 12 then (if pc = 11 then some (.aload_n 0, [0, 1], 0) else none) else (if pc = 12 then some (.getfield 11, [6, 1, 2, 1], 0) else none)))) else (if pc < 22 then (if pc < 19 then (if pc < 16 then (if pc = 15 then some (.aload_n 0, [0, 1], 0) else none) else (if pc = 16 then some (.getfield 46, [6, 2, 0, 0], 0) else none)) else (if pc < 20 then (if pc = 19 then some (.aaload, [], 0) else none) else (if pc = 20 then some (.astore 5, [5, 2], 0) else none))) else (if pc < 25 then (if pc < 24 then (if pc = 22 then some (.aload 5, [5, 2], 0) else none) else (if pc = 24 then some (.iload_n 1, [1, 1], 0) else none)) else (if pc < 28 then (if pc = 25 then some (.putfield 56, [7, 1, 0, 0], 0) else none) else (if pc = 28 then some (.aload 5, [5, 2], 0) else none))))) else (if pc < 47 then (if pc < 37 then (if pc < 34 then (if pc < 31 then (if pc = 30 then some (.iload_n 2, [2, 1], 0) else none) else (if pc = 31 then some (.putfield 59, [7, 2, 0, 0], 0) else none)) else (if pc < 36 then (if pc = 34 then some (.aload 5, [5, 2], 0) else none) else (if pc = 36 then some (.iload_n 3, [3, 1], 0) else none))) else (if pc < 42 then (if pc < 40 then (if pc = 37 then some (.putfield 62, [7, 3, 0, 0], 0) else none) else (if pc = 40 then some (.aload 5, [5, 2], 0) else none)) else (if pc < 44 then (if pc = 42 then some (.iload 4, [4, 2], 0) else none) else (if pc = 44 then some (.putfield 65, [7, 4, 0, 0], 0) else none)))) else (if pc < 53 then (if pc < 49 then (if pc < 48 then (if pc = 47 then some (.aload_n 0, [0, 1], 0) else none) else (if pc = 48 then some (.dup, [], 0) else none)) else (if pc < 52 then (if pc = 49 then some (.getfield 46, [6, 2, 0, 0], 0) else none) else (if pc = 52 then some (.iconst 1, [1], 1) else none))) else (if pc < 57 then (if pc < 54 then (if pc = 53 then some (.iadd, [], 0) else none) else (if pc = 54 then some (.putfield 46, [6, 2, 0, 0], 0) else none)) else (if pc < 59 then (if pc = 57 then some (.aload 5, [5, 2], 0) else none) else (if pc < 62 then (if pc = 59 then some (.getfield 68, [7, 0, 0, 1], 0) else none) else (if pc = 62 then some (.ireturn, [], 0) else none))))))
def cd_X6_isComplete (pc : Nat) : Option me_T := if pc < 16 then (if pc < 7 then (if pc < 4 then (if pc < 1 then (if pc = 0 then some (.aload_n 0, [0, 1], 0) else none) else (if pc = 1 then some (.getfield 11, [6, 1, 2, 1], 0) else none)) else (if pc < 5 then (if pc = 4 then some (.iload_n 1, [1, 1], 0) else none) else (if pc < 6 then (if pc = 5 then some (.aaload, [], 0) else none) else (if pc = 6 then some (.iload_n 2, [2, 1], 0) else none)))) else (if pc < 11 then (if pc < 10 then (if pc = 7 then some (.invokevirtual 71, [64, 1, 3, 7], 0) else none) else (if pc = 10 then some (.astore_n 3, [3, 1], 0) else none)) else (if pc < 12 then (if pc = 11 then some (.aload_n 3, [3, 1], 0) else none) else (if pc < 15 then (if pc = 12 then some (.ifnull 23, [35], 0) else none) else (if pc = 15 then some (.aload_n 3, [3, 1], 0) else none))))) else (if pc < 27 then (if pc < 20 then (if pc < 19 then (if pc = 16 then some (.invokevirtual 75, [14, 0, 1, 2], 0) else none) else (if pc = 19 then some (.aload_n 0, [0, 1], 0) else none)) else (if pc < 23 then (if pc = 20 then some (.getfield 35, [6, 0, 2, 1], 0) else none) else (if pc < 26 then (if pc = 23 then some (.getfield 81, [0, 0, 2, 1], 0) else none) else (if pc = 26 then some (.iload_n 2, [2, 1], 0) else none)))) else (if pc < 32 then (if pc < 28 then (if pc = 27 then some (.iaload, [50], 0) else none) else (if pc < 31 then (if pc = 28 then some (.if_icmp .ne 7, [35], 0) else none) else (if pc = 31 then some (.iconst 1, [1], 1) else none))) else (if pc < 35 then (if pc = 32 then some (.goto 4, [36], 0) else none) else (if pc < 36 then (if pc = 35 then some (.iconst 0, [1], 0) else none) else (if pc = 36 then some (.ireturn, [], 0) else none)))))
def cd_X6_askDirectory (pc : Nat) : Option me_T := if pc < 23 then (if pc < 10 then (if pc < 5 then (if pc < 1 then (if pc = 0 then some (.aload_n 0, [0, 1], 0) else none) else (if pc < 4 then (if pc = 1 then some (.getfield 11, [6, 1, 2, 1], 0) else none) else (if pc = 4 then some (.iload_n 1, [1, 1], 0) else none))) else (if pc < 6 then (if pc = 5 then some (.aaload, [], 0) else none) else (if pc < 9 then (if pc = 6 then some (.getfield 86, [7, 7, 2, 1], 0) else none) else (if pc = 9 then some (.astore_n 2, [2, 1], 0) else none)))) else (if pc < 15 then (if pc < 11 then (if pc = 10 then some (.aload_n 0, [0, 1], 0) else none) else (if pc < 12 then (if pc = 11 then some (.iload_n 1, [1, 1], 0) else none) else (if pc = 12 then some (.invokevirtual 90, [49, 1, 2, 6], 0) else none))) else (if pc < 19 then (if pc < 18 then (if pc = 15 then some (.ifCond .eq 15, [30], 0) else none) else (if pc = 18 then some (.aload_n 2, [2, 1], 0) else none)) else (if pc < 20 then (if pc = 19 then some (.aload_n 0, [0, 1], 0) else none) else (if pc = 20 then some (.getfield 42, [6, 6, 0, 0], 0) else none))))) else (if pc < 34 then (if pc < 30 then (if pc < 24 then (if pc = 23 then some (.iconst (-1), [1], (-1)) else none) else (if pc < 27 then (if pc = 24 then some (.invokevirtual 94, [19, 2, 1, 2], 0) else none) else (if pc = 27 then some (.ifCond .ne 6, [33], 0) else none))) else (if pc < 32 then (if pc = 30 then some (.bipush (-2), [2], (-2)) else none) else (if pc < 33 then (if pc = 32 then some (.ireturn, [], 0) else none) else (if pc = 33 then some (.aload_n 0, [0, 1], 0) else none)))) else (if pc < 37 then (if pc < 35 then (if pc = 34 then some (.iload_n 1, [1, 1], 0) else none) else (if pc < 36 then (if pc = 35 then some (.iconst (-1), [1], (-1)) else none) else (if pc = 36 then some (.aload_n 2, [2, 1], 0) else none))) else (if pc < 41 then (if pc < 38 then (if pc = 37 then some (.aload_n 0, [0, 1], 0) else none) else (if pc = 38 then some (.getfield 42, [6, 6, 0, 0], 0) else none)) else (if pc < 44 then (if pc = 41 then some (.invokevirtual 98, [50, 4, 1, 6], 0) else none) else (if pc = 44 then some (.ireturn, [], 0) else none)))))
def cd_X6_askFile (pc : Nat) : Option me_T := if pc < 36 then (if pc < 16 then (if pc < 7 then (if pc < 4 then (if pc < 1 then (if pc = 0 then some (.aload_n 0, [0, 1], 0) else none) else (if pc = 1 then some (.getfield 11, [6, 1, 2, 1], 0) else none)) else (if pc < 5 then (if pc = 4 then some (.iload_n 1, [1, 1], 0) else none) else (if pc < 6 then (if pc = 5 then some (.aaload, [], 0) else none) else (if pc = 6 then some (.iload_n 2, [2, 1], 0) else none)))) else (if pc < 11 then (if pc < 10 then (if pc = 7 then some (.invokevirtual 71, [64, 1, 3, 7], 0) else none) else (if pc = 10 then some (.astore_n 3, [3, 1], 0) else none)) else (if pc < 12 then (if pc = 11 then some (.aload_n 3, [3, 1], 0) else none) else (if pc < 15 then (if pc = 12 then some (.ifnull 35, [47], 0) else none) else (if pc = 15 then some (.aload_n 0, [0, 1], 0) else none))))) else (if pc < 27 then (if pc < 20 then (if pc < 19 then (if pc = 16 then some (.getfield 35, [6, 0, 2, 1], 0) else none) else (if pc = 19 then some (.iload_n 2, [2, 1], 0) else none)) else (if pc < 21 then (if pc = 20 then some (.aload_n 0, [0, 1], 0) else none) else (if pc < 24 then (if pc = 21 then some (.getfield 42, [6, 6, 0, 0], 0) else none) else (if pc = 24 then some (.invokevirtual 102, [2, 2, 2, 0], 0) else none)))) else (if pc < 31 then (if pc < 30 then (if pc = 27 then some (.ifCond .eq 20, [47], 0) else none) else (if pc = 30 then some (.aload_n 0, [0, 1], 0) else none)) else (if pc < 32 then (if pc = 31 then some (.iload_n 1, [1, 1], 0) else none) else (if pc < 33 then (if pc = 32 then some (.iload_n 2, [2, 1], 0) else none) else (if pc = 33 then some (.invokevirtual 106, [44, 2, 2, 6], 0) else none)))))) else (if pc < 53 then (if pc < 47 then (if pc < 40 then (if pc < 39 then (if pc = 36 then some (.ifCond .ne 11, [47], 0) else none) else (if pc = 39 then some (.aload_n 0, [0, 1], 0) else none)) else (if pc < 41 then (if pc = 40 then some (.iload_n 1, [1, 1], 0) else none) else (if pc < 44 then (if pc = 41 then some (.invokevirtual 90, [49, 1, 2, 6], 0) else none) else (if pc = 44 then some (.ifCond .ne 6, [50], 0) else none)))) else (if pc < 50 then (if pc < 49 then (if pc = 47 then some (.bipush (-2), [2], (-2)) else none) else (if pc = 49 then some (.ireturn, [], 0) else none)) else (if pc < 51 then (if pc = 50 then some (.aload_n 0, [0, 1], 0) else none) else (if pc < 52 then (if pc = 51 then some (.iload_n 1, [1, 1], 0) else none) else (if pc = 52 then some (.iload_n 2, [2, 1], 0) else none))))) else (if pc < 62 then (if pc < 55 then (if pc < 54 then (if pc = 53 then some (.aload_n 3, [3, 1], 0) else none) else (if pc = 54 then some (.aload_n 0, [0, 1], 0) else none)) else (if pc < 58 then (if pc = 55 then some (.getfield 35, [6, 0, 2, 1], 0) else none) else (if pc < 61 then (if pc = 58 then some (.getfield 81, [0, 0, 2, 1], 0) else none) else (if pc = 61 then some (.iload_n 2, [2, 1], 0) else none)))) else (if pc < 64 then (if pc < 63 then (if pc = 62 then some (.iaload, [50], 0) else none) else (if pc = 63 then some (.iconst 1, [1], 1) else none)) else (if pc < 65 then (if pc = 64 then some (.isub, [], 0) else none) else (if pc < 68 then (if pc = 65 then some (.invokevirtual 98, [50, 4, 1, 6], 0) else none) else (if pc = 68 then some (.ireturn, [], 0) else none))))))
def cd_X6_askHoles (pc : Nat) : Option me_T := if pc < 55 then (if pc < 28 then (if pc < 11 then (if pc < 5 then (if pc < 1 then (if pc = 0 then some (.iload_n 2, [2, 1], 0) else none) else (if pc < 2 then (if pc = 1 then some (.iconst (-1), [1], (-1)) else none) else (if pc = 2 then some (.if_icmp .eq 21, [23], 0) else none))) else (if pc < 9 then (if pc < 6 then (if pc = 5 then some (.aload_n 0, [0, 1], 0) else none) else (if pc = 6 then some (.getfield 35, [6, 0, 2, 1], 0) else none)) else (if pc < 10 then (if pc = 9 then some (.iload_n 2, [2, 1], 0) else none) else (if pc = 10 then some (.aload_n 0, [0, 1], 0) else none)))) else (if pc < 22 then (if pc < 17 then (if pc < 14 then (if pc = 11 then some (.getfield 42, [6, 6, 0, 0], 0) else none) else (if pc = 14 then some (.invokevirtual 102, [2, 2, 2, 0], 0) else none)) else (if pc < 20 then (if pc = 17 then some (.ifCond .ne 6, [23], 0) else none) else (if pc = 20 then some (.bipush (-2), [2], (-2)) else none))) else (if pc < 24 then (if pc < 23 then (if pc = 22 then some (.ireturn, [], 0) else none) else (if pc = 23 then some (.iload_n 2, [2, 1], 0) else none)) else (if pc < 25 then (if pc = 24 then some (.iconst (-1), [1], (-1)) else none) else (if pc = 25 then some (.if_icmp .ne 10, [35], 0) else none))))) else (if pc < 44 then (if pc < 36 then (if pc < 32 then (if pc < 29 then (if pc = 28 then some (.aload_n 0, [0, 1], 0) else none) else (if pc = 29 then some (.getfield 42, [6, 6, 0, 0], 0) else none)) else (if pc < 35 then (if pc = 32 then some (.goto 14, [46], 0) else none) else (if pc = 35 then some (.aload_n 0, [0, 1], 0) else none))) else (if pc < 42 then (if pc < 39 then (if pc = 36 then some (.getfield 35, [6, 0, 2, 1], 0) else none) else (if pc = 39 then some (.getfield 81, [0, 0, 2, 1], 0) else none)) else (if pc < 43 then (if pc = 42 then some (.iload_n 2, [2, 1], 0) else none) else (if pc = 43 then some (.iaload, [50], 0) else none)))) else (if pc < 49 then (if pc < 46 then (if pc < 45 then (if pc = 44 then some (.iconst 1, [1], 1) else none) else (if pc = 45 then some (.isub, [], 0) else none)) else (if pc < 48 then (if pc = 46 then some (.istore 4, [4, 2], 0) else none) else (if pc = 48 then some (.aload_n 3, [3, 1], 0) else none))) else (if pc < 51 then (if pc < 50 then (if pc = 49 then some (.iconst 2, [1], 2) else none) else (if pc = 50 then some (.aload_n 3, [3, 1], 0) else none)) else (if pc < 54 then (if pc = 51 then some (.getfield 109, [2, 2, 0, 0], 0) else none) else (if pc = 54 then some (.imul, [], 0) else none)))))) else (if pc < 84 then (if pc < 69 then (if pc < 60 then (if pc < 56 then (if pc = 55 then some (.iconst 1, [1], 1) else none) else (if pc < 57 then (if pc = 56 then some (.isub, [], 0) else none) else (if pc = 57 then some (.invokevirtual 112, [18, 1, 1, 2], 0) else none))) else (if pc < 64 then (if pc < 62 then (if pc = 60 then some (.istore 5, [5, 2], 0) else none) else (if pc = 62 then some (.iload 5, [5, 2], 0) else none)) else (if pc < 66 then (if pc = 64 then some (.iload 4, [4, 2], 0) else none) else (if pc = 66 then some (.if_icmp .gt 11, [77], 0) else none)))) else (if pc < 77 then (if pc < 71 then (if pc < 70 then (if pc = 69 then some (.aload_n 0, [0, 1], 0) else none) else (if pc = 70 then some (.iload_n 1, [1, 1], 0) else none)) else (if pc < 74 then (if pc = 71 then some (.invokevirtual 90, [49, 1, 2, 6], 0) else none) else (if pc = 74 then some (.ifCond .ne 6, [80], 0) else none))) else (if pc < 80 then (if pc < 79 then (if pc = 77 then some (.bipush (-2), [2], (-2)) else none) else (if pc = 79 then some (.ireturn, [], 0) else none)) else (if pc < 81 then (if pc = 80 then some (.aload_n 0, [0, 1], 0) else none) else (if pc = 81 then some (.getfield 20, [6, 3, 2, 1], 0) else none))))) else (if pc < 99 then (if pc < 91 then (if pc < 86 then (if pc < 85 then (if pc = 84 then some (.iload_n 1, [1, 1], 0) else none) else (if pc = 85 then some (.iload_n 2, [2, 1], 0) else none)) else (if pc < 89 then (if pc = 86 then some (.invokevirtual 115, [26, 2, 3, 3], 0) else none) else (if pc = 89 then some (.astore 6, [6, 2], 0) else none))) else (if pc < 96 then (if pc < 93 then (if pc = 91 then some (.aload 6, [6, 2], 0) else none) else (if pc = 93 then some (.ifnonnull 6, [99], 0) else none)) else (if pc < 98 then (if pc = 96 then some (.bipush (-3), [2], (-3)) else none) else (if pc = 98 then some (.ireturn, [], 0) else none)))) else (if pc < 108 then (if pc < 104 then (if pc < 101 then (if pc = 99 then some (.aload 6, [6, 2], 0) else none) else (if pc = 101 then some (.getfield 119, [4, 3, 2, 1], 0) else none)) else (if pc < 105 then (if pc = 104 then some (.aload_n 3, [3, 1], 0) else none) else (if pc = 105 then some (.invokevirtual 124, [13, 1, 0, 2], 0) else none))) else (if pc < 112 then (if pc < 109 then (if pc = 108 then some (.aload_n 0, [0, 1], 0) else none) else (if pc = 109 then some (.getfield 20, [6, 3, 2, 1], 0) else none)) else (if pc < 115 then (if pc = 112 then some (.getfield 127, [3, 1, 0, 0], 0) else none) else (if pc = 115 then some (.ireturn, [], 0) else none))))))
def cd_X6_tick (pc : Nat) : Option me_T := if pc < 36 then (if pc < 21 then (if pc < 11 then (if pc < 4 then (if pc < 1 then (if pc = 0 then some (.aload_n 0, [0, 1], 0) else none) else (if pc = 1 then some (.invokevirtual 130, [51, 0, 0, 6], 0) else none)) else (if pc < 5 then (if pc = 4 then some (.aload_n 0, [0, 1], 0) else none) else (if pc < 8 then (if pc = 5 then some (.getfield 20, [6, 3, 2, 1], 0) else none) else (if pc = 8 then some (.invokevirtual 133, [25, 0, 1, 3], 0) else none)))) else (if pc < 16 then (if pc < 12 then (if pc = 11 then some (.istore_n 1, [1, 1], 0) else none) else (if pc < 13 then (if pc = 12 then some (.iload_n 1, [1, 1], 0) else none) else (if pc = 13 then some (.ifCond .ge 31, [44], 0) else none))) else (if pc < 17 then (if pc = 16 then some (.aload_n 0, [0, 1], 0) else none) else (if pc < 20 then (if pc = 17 then some (.getfield 27, [6, 4, 2, 1], 0) else none) else (if pc = 20 then some (.iconst 0, [1], 0) else none))))) else (if pc < 28 then (if pc < 23 then (if pc < 22 then (if pc = 21 then some (.iconst (-1), [1], (-1)) else none) else (if pc = 22 then some (.iconst 0, [1], 0) else none)) else (if pc < 24 then (if pc = 23 then some (.iconst 0, [1], 0) else none) else (if pc < 27 then (if pc = 24 then some (.invokevirtual 136, [10, 4, 0, 1], 0) else none) else (if pc = 27 then some (.aload_n 0, [0, 1], 0) else none)))) else (if pc < 33 then (if pc < 31 then (if pc = 28 then some (.getfield 31, [6, 5, 2, 1], 0) else none) else (if pc < 32 then (if pc = 31 then some (.iconst 2, [1], 2) else none) else (if pc = 32 then some (.dup2, [], 0) else none))) else (if pc < 34 then (if pc = 33 then some (.iaload, [50], 0) else none) else (if pc < 35 then (if pc = 34 then some (.iconst 1, [1], 1) else none) else (if pc = 35 then some (.iadd, [], 0) else none)))))) else (if pc < 57 then (if pc < 45 then (if pc < 38 then (if pc < 37 then (if pc = 36 then some (.iastore, [50], 0) else none) else (if pc = 37 then some (.aload_n 0, [0, 1], 0) else none)) else (if pc < 41 then (if pc = 38 then some (.invokevirtual 140, [55, 0, 0, 6], 0) else none) else (if pc < 44 then (if pc = 41 then some (.goto 25, [66], 0) else none) else (if pc = 44 then some (.aload_n 0, [0, 1], 0) else none)))) else (if pc < 52 then (if pc < 46 then (if pc = 45 then some (.aload_n 0, [0, 1], 0) else none) else (if pc < 49 then (if pc = 46 then some (.getfield 20, [6, 3, 2, 1], 0) else none) else (if pc = 49 then some (.getfield 143, [3, 0, 2, 1], 0) else none))) else (if pc < 53 then (if pc = 52 then some (.iload_n 1, [1, 1], 0) else none) else (if pc < 54 then (if pc = 53 then some (.aaload, [], 0) else none) else (if pc = 54 then some (.invokevirtual 147, [52, 1, 0, 6], 0) else none))))) else (if pc < 67 then (if pc < 62 then (if pc < 58 then (if pc = 57 then some (.aload_n 0, [0, 1], 0) else none) else (if pc < 61 then (if pc = 58 then some (.invokevirtual 140, [55, 0, 0, 6], 0) else none) else (if pc = 61 then some (.aload_n 0, [0, 1], 0) else none))) else (if pc < 63 then (if pc = 62 then some (.iload_n 1, [1, 1], 0) else none) else (if pc < 66 then (if pc = 63 then some (.invokevirtual 151, [56, 1, 0, 6], 0) else none) else (if pc = 66 then some (.aload_n 0, [0, 1], 0) else none)))) else (if pc < 72 then (if pc < 68 then (if pc = 67 then some (.dup, [], 0) else none) else (if pc < 71 then (if pc = 68 then some (.getfield 42, [6, 6, 0, 0], 0) else none) else (if pc = 71 then some (.iconst 1, [1], 1) else none))) else (if pc < 73 then (if pc = 72 then some (.iadd, [], 0) else none) else (if pc < 76 then (if pc = 73 then some (.putfield 42, [6, 6, 0, 0], 0) else none) else (if pc = 76 then some (.return_, [], 0) else none))))))
def cd_X6_mayAsk (pc : Nat) : Option me_T := if pc < 16 then (if pc < 6 then (if pc < 4 then (if pc < 1 then (if pc = 0 then some (.aload_n 0, [0, 1], 0) else none) else (if pc = 1 then some (.getfield 11, [6, 1, 2, 1], 0) else none)) else (if pc < 5 then (if pc = 4 then some (.iload_n 1, [1, 1], 0) else none) else (if pc = 5 then some (.aaload, [], 0) else none))) else (if pc < 10 then (if pc < 7 then (if pc = 6 then some (.aload_n 0, [0, 1], 0) else none) else (if pc = 7 then some (.getfield 42, [6, 6, 0, 0], 0) else none)) else (if pc < 13 then (if pc = 10 then some (.invokevirtual 154, [59, 1, 2, 7], 0) else none) else (if pc = 13 then some (.ifCond .eq 18, [31], 0) else none)))) else (if pc < 24 then (if pc < 20 then (if pc < 17 then (if pc = 16 then some (.aload_n 0, [0, 1], 0) else none) else (if pc = 17 then some (.getfield 20, [6, 3, 2, 1], 0) else none)) else (if pc < 21 then (if pc = 20 then some (.iload_n 1, [1, 1], 0) else none) else (if pc = 21 then some (.invokevirtual 157, [24, 1, 1, 3], 0) else none))) else (if pc < 28 then (if pc < 27 then (if pc = 24 then some (.ifCond .ge 7, [31], 0) else none) else (if pc = 27 then some (.iconst 1, [1], 1) else none)) else (if pc < 31 then (if pc = 28 then some (.goto 4, [32], 0) else none) else (if pc < 32 then (if pc = 31 then some (.iconst 0, [1], 0) else none) else (if pc = 32 then some (.ireturn, [], 0) else none)))))
def cd_X6_putFirstHoles (pc : Nat) : Option me_T := if pc < 45 then (if pc < 22 then (if pc < 11 then (if pc < 5 then (if pc < 1 then (if pc = 0 then some (.aload_n 0, [0, 1], 0) else none) else (if pc < 4 then (if pc = 1 then some (.getfield 20, [6, 3, 2, 1], 0) else none) else (if pc = 4 then some (.iload_n 1, [1, 1], 0) else none))) else (if pc < 6 then (if pc = 5 then some (.iload_n 2, [2, 1], 0) else none) else (if pc < 9 then (if pc = 6 then some (.invokevirtual 115, [26, 2, 3, 3], 0) else none) else (if pc = 9 then some (.astore 5, [5, 2], 0) else none)))) else (if pc < 18 then (if pc < 13 then (if pc = 11 then some (.aload 5, [5, 2], 0) else none) else (if pc < 16 then (if pc = 13 then some (.ifnonnull 6, [19], 0) else none) else (if pc = 16 then some (.bipush (-3), [2], (-3)) else none))) else (if pc < 19 then (if pc = 18 then some (.ireturn, [], 0) else none) else (if pc < 20 then (if pc = 19 then some (.aload_n 3, [3, 1], 0) else none) else (if pc = 20 then some (.iload 4, [4, 2], 0) else none))))) else (if pc < 33 then (if pc < 27 then (if pc < 23 then (if pc = 22 then some (.iconst (-1), [1], (-1)) else none) else (if pc < 26 then (if pc = 23 then some (.invokevirtual 94, [19, 2, 1, 2], 0) else none) else (if pc = 26 then some (.iconst 4, [1], 4) else none))) else (if pc < 30 then (if pc = 27 then some (.invokestatic 160, [], 4) else none) else (if pc < 32 then (if pc = 30 then some (.istore 6, [6, 2], 0) else none) else (if pc = 32 then some (.iconst 0, [1], 0) else none)))) else (if pc < 39 then (if pc < 35 then (if pc = 33 then some (.istore 7, [7, 2], 0) else none) else (if pc < 37 then (if pc = 35 then some (.iload 7, [7, 2], 0) else none) else (if pc = 37 then some (.iload 6, [6, 2], 0) else none))) else (if pc < 42 then (if pc = 39 then some (.if_icmp .ge 44, [83], 0) else none) else (if pc < 43 then (if pc = 42 then some (.aload_n 3, [3, 1], 0) else none) else (if pc = 43 then some (.iload 4, [4, 2], 0) else none)))))) else (if pc < 67 then (if pc < 56 then (if pc < 49 then (if pc < 46 then (if pc = 45 then some (.iconst 2, [1], 2) else none) else (if pc < 48 then (if pc = 46 then some (.iload 7, [7, 2], 0) else none) else (if pc = 48 then some (.imul, [], 0) else none))) else (if pc < 52 then (if pc = 49 then some (.invokevirtual 94, [19, 2, 1, 2], 0) else none) else (if pc < 54 then (if pc = 52 then some (.istore 8, [8, 2], 0) else none) else (if pc = 54 then some (.aload 5, [5, 2], 0) else none)))) else (if pc < 62 then (if pc < 59 then (if pc = 56 then some (.getfield 119, [4, 3, 2, 1], 0) else none) else (if pc < 61 then (if pc = 59 then some (.iload 8, [8, 2], 0) else none) else (if pc = 61 then some (.aload_n 3, [3, 1], 0) else none))) else (if pc < 64 then (if pc = 62 then some (.iload 4, [4, 2], 0) else none) else (if pc < 65 then (if pc = 64 then some (.iconst 2, [1], 2) else none) else (if pc = 65 then some (.iload 7, [7, 2], 0) else none))))) else (if pc < 77 then (if pc < 70 then (if pc < 68 then (if pc = 67 then some (.imul, [], 0) else none) else (if pc < 69 then (if pc = 68 then some (.iconst 1, [1], 1) else none) else (if pc = 69 then some (.iadd, [], 0) else none))) else (if pc < 73 then (if pc = 70 then some (.invokevirtual 94, [19, 2, 1, 2], 0) else none) else (if pc < 76 then (if pc = 73 then some (.invokevirtual 165, [16, 2, 2, 2], 0) else none) else (if pc = 76 then some (.pop, [], 0) else none)))) else (if pc < 84 then (if pc < 80 then (if pc = 77 then some (.iinc 7 1, [7], 1) else none) else (if pc < 83 then (if pc = 80 then some (.goto (-45), [35], 0) else none) else (if pc = 83 then some (.aload_n 0, [0, 1], 0) else none))) else (if pc < 87 then (if pc = 84 then some (.getfield 20, [6, 3, 2, 1], 0) else none) else (if pc < 90 then (if pc = 87 then some (.getfield 127, [3, 1, 0, 0], 0) else none) else (if pc = 90 then some (.ireturn, [], 0) else none))))))
-- heads of loops: [35]
def cd_X6_dropRequests (pc : Nat) : Option me_T := if pc < 53 then (if pc < 23 then (if pc < 10 then (if pc < 7 then (if pc < 1 then (if pc = 0 then some (.aload_n 0, [0, 1], 0) else none) else (if pc < 4 then (if pc = 1 then some (.getfield 20, [6, 3, 2, 1], 0) else none) else (if pc = 4 then some (.getfield 127, [3, 1, 0, 0], 0) else none))) else (if pc < 8 then (if pc = 7 then some (.iconst 1, [1], 1) else none) else (if pc < 9 then (if pc = 8 then some (.isub, [], 0) else none) else (if pc = 9 then some (.istore_n 1, [1, 1], 0) else none)))) else (if pc < 15 then (if pc < 11 then (if pc = 10 then some (.iload_n 1, [1, 1], 0) else none) else (if pc < 14 then (if pc = 11 then some (.ifCond .lt 91, [102], 0) else none) else (if pc = 14 then some (.aload_n 0, [0, 1], 0) else none))) else (if pc < 21 then (if pc < 18 then (if pc = 15 then some (.getfield 20, [6, 3, 2, 1], 0) else none) else (if pc = 18 then some (.getfield 143, [3, 0, 2, 1], 0) else none)) else (if pc < 22 then (if pc = 21 then some (.iload_n 1, [1, 1], 0) else none) else (if pc = 22 then some (.aaload, [], 0) else none))))) else (if pc < 36 then (if pc < 28 then (if pc < 24 then (if pc = 23 then some (.astore_n 2, [2, 1], 0) else none) else (if pc < 25 then (if pc = 24 then some (.aload_n 2, [2, 1], 0) else none) else (if pc = 25 then some (.invokevirtual 168, [30, 0, 2, 4], 0) else none))) else (if pc < 32 then (if pc < 31 then (if pc = 28 then some (.ifCond .ne 21, [49], 0) else none) else (if pc = 31 then some (.aload_n 0, [0, 1], 0) else none)) else (if pc < 35 then (if pc = 32 then some (.getfield 35, [6, 0, 2, 1], 0) else none) else (if pc = 35 then some (.aload_n 2, [2, 1], 0) else none)))) else (if pc < 43 then (if pc < 39 then (if pc = 36 then some (.getfield 172, [4, 1, 0, 0], 0) else none) else (if pc < 40 then (if pc = 39 then some (.aload_n 0, [0, 1], 0) else none) else (if pc = 40 then some (.getfield 42, [6, 6, 0, 0], 0) else none))) else (if pc < 49 then (if pc < 46 then (if pc = 43 then some (.invokevirtual 102, [2, 2, 2, 0], 0) else none) else (if pc = 46 then some (.ifCond .eq 7, [53], 0) else none)) else (if pc < 50 then (if pc = 49 then some (.iconst 1, [1], 1) else none) else (if pc = 50 then some (.goto 4, [54], 0) else none)))))) else (if pc < 79 then (if pc < 64 then (if pc < 56 then (if pc < 54 then (if pc = 53 then some (.iconst 0, [1], 0) else none) else (if pc < 55 then (if pc = 54 then some (.istore_n 3, [3, 1], 0) else none) else (if pc = 55 then some (.iload_n 3, [3, 1], 0) else none))) else (if pc < 60 then (if pc < 59 then (if pc = 56 then some (.ifCond .eq 22, [78], 0) else none) else (if pc = 59 then some (.aload_n 0, [0, 1], 0) else none)) else (if pc < 63 then (if pc = 60 then some (.getfield 11, [6, 1, 2, 1], 0) else none) else (if pc = 63 then some (.aload_n 2, [2, 1], 0) else none)))) else (if pc < 69 then (if pc < 67 then (if pc = 64 then some (.getfield 175, [4, 0, 0, 0], 0) else none) else (if pc < 68 then (if pc = 67 then some (.aaload, [], 0) else none) else (if pc = 68 then some (.aload_n 0, [0, 1], 0) else none))) else (if pc < 75 then (if pc < 72 then (if pc = 69 then some (.getfield 42, [6, 6, 0, 0], 0) else none) else (if pc = 72 then some (.invokevirtual 154, [59, 1, 2, 7], 0) else none)) else (if pc < 78 then (if pc = 75 then some (.ifCond .ne 21, [96], 0) else none) else (if pc = 78 then some (.aload_n 0, [0, 1], 0) else none))))) else (if pc < 92 then (if pc < 86 then (if pc < 82 then (if pc = 79 then some (.getfield 20, [6, 3, 2, 1], 0) else none) else (if pc < 83 then (if pc = 82 then some (.iload_n 1, [1, 1], 0) else none) else (if pc = 83 then some (.invokevirtual 178, [28, 1, 0, 3], 0) else none))) else (if pc < 90 then (if pc < 87 then (if pc = 86 then some (.aload_n 0, [0, 1], 0) else none) else (if pc = 87 then some (.getfield 31, [6, 5, 2, 1], 0) else none)) else (if pc < 91 then (if pc = 90 then some (.iconst 4, [1], 4) else none) else (if pc = 91 then some (.dup2, [], 0) else none)))) else (if pc < 95 then (if pc < 93 then (if pc = 92 then some (.iaload, [50], 0) else none) else (if pc < 94 then (if pc = 93 then some (.iconst 1, [1], 1) else none) else (if pc = 94 then some (.iadd, [], 0) else none))) else (if pc < 99 then (if pc < 96 then (if pc = 95 then some (.iastore, [50], 0) else none) else (if pc = 96 then some (.iinc 1 (-1), [1], (-1)) else none)) else (if pc < 102 then (if pc = 99 then some (.goto (-89), [10], 0) else none) else (if pc = 102 then some (.return_, [], 0) else none))))))
-- heads of loops: [10]
def cd_X6_send (pc : Nat) : Option me_T := if pc < 47 then (if pc < 22 then (if pc < 10 then (if pc < 7 then (if pc < 1 then (if pc = 0 then some (.aload_n 1, [1, 1], 0) else none) else (if pc < 4 then (if pc = 1 then some (.getfield 181, [4, 2, 0, 0], 0) else none) else (if pc = 4 then some (.ifCond .ne 21, [25], 0) else none))) else (if pc < 8 then (if pc = 7 then some (.aload_n 1, [1, 1], 0) else none) else (if pc < 9 then (if pc = 8 then some (.iconst 1, [1], 1) else none) else (if pc = 9 then some (.aload_n 0, [0, 1], 0) else none)))) else (if pc < 17 then (if pc < 13 then (if pc = 10 then some (.getfield 11, [6, 1, 2, 1], 0) else none) else (if pc < 14 then (if pc = 13 then some (.aload_n 1, [1, 1], 0) else none) else (if pc = 14 then some (.getfield 175, [4, 0, 0, 0], 0) else none))) else (if pc < 18 then (if pc = 17 then some (.aaload, [], 0) else none) else (if pc < 21 then (if pc = 18 then some (.getfield 65, [7, 4, 0, 0], 0) else none) else (if pc = 21 then some (.iadd, [], 0) else none))))) else (if pc < 32 then (if pc < 27 then (if pc < 25 then (if pc = 22 then some (.putfield 181, [4, 2, 0, 0], 0) else none) else (if pc < 26 then (if pc = 25 then some (.aload_n 1, [1, 1], 0) else none) else (if pc = 26 then some (.dup, [], 0) else none))) else (if pc < 30 then (if pc = 27 then some (.getfield 181, [4, 2, 0, 0], 0) else none) else (if pc < 31 then (if pc = 30 then some (.iconst 1, [1], 1) else none) else (if pc = 31 then some (.isub, [], 0) else none)))) else (if pc < 39 then (if pc < 35 then (if pc = 32 then some (.putfield 181, [4, 2, 0, 0], 0) else none) else (if pc < 36 then (if pc = 35 then some (.aload_n 1, [1, 1], 0) else none) else (if pc = 36 then some (.invokevirtual 168, [30, 0, 2, 4], 0) else none))) else (if pc < 43 then (if pc < 42 then (if pc = 39 then some (.ifCond .eq 24, [63], 0) else none) else (if pc = 42 then some (.aload_n 0, [0, 1], 0) else none)) else (if pc < 44 then (if pc = 43 then some (.aload_n 1, [1, 1], 0) else none) else (if pc = 44 then some (.getfield 119, [4, 3, 2, 1], 0) else none)))))) else (if pc < 65 then (if pc < 57 then (if pc < 54 then (if pc < 50 then (if pc = 47 then some (.invokevirtual 184, [54, 1, 0, 6], 0) else none) else (if pc < 51 then (if pc = 50 then some (.aload_n 0, [0, 1], 0) else none) else (if pc = 51 then some (.getfield 31, [6, 5, 2, 1], 0) else none))) else (if pc < 55 then (if pc = 54 then some (.iconst 1, [1], 1) else none) else (if pc < 56 then (if pc = 55 then some (.dup2, [], 0) else none) else (if pc = 56 then some (.iaload, [50], 0) else none)))) else (if pc < 60 then (if pc < 58 then (if pc = 57 then some (.iconst 1, [1], 1) else none) else (if pc < 59 then (if pc = 58 then some (.iadd, [], 0) else none) else (if pc = 59 then some (.iastore, [50], 0) else none))) else (if pc < 63 then (if pc = 60 then some (.goto 25, [85], 0) else none) else (if pc < 64 then (if pc = 63 then some (.aload_n 0, [0, 1], 0) else none) else (if pc = 64 then some (.aload_n 1, [1, 1], 0) else none))))) else (if pc < 79 then (if pc < 72 then (if pc < 68 then (if pc = 65 then some (.getfield 172, [4, 1, 0, 0], 0) else none) else (if pc < 69 then (if pc = 68 then some (.aload_n 1, [1, 1], 0) else none) else (if pc = 69 then some (.getfield 119, [4, 3, 2, 1], 0) else none))) else (if pc < 75 then (if pc = 72 then some (.invokevirtual 187, [53, 2, 0, 6], 0) else none) else (if pc < 76 then (if pc = 75 then some (.aload_n 0, [0, 1], 0) else none) else (if pc = 76 then some (.getfield 31, [6, 5, 2, 1], 0) else none)))) else (if pc < 82 then (if pc < 80 then (if pc = 79 then some (.iconst 0, [1], 0) else none) else (if pc < 81 then (if pc = 80 then some (.dup2, [], 0) else none) else (if pc = 81 then some (.iaload, [50], 0) else none))) else (if pc < 84 then (if pc < 83 then (if pc = 82 then some (.iconst 1, [1], 1) else none) else (if pc = 83 then some (.iadd, [], 0) else none)) else (if pc < 85 then (if pc = 84 then some (.iastore, [50], 0) else none) else (if pc = 85 then some (.return_, [], 0) else none))))))
def cd_X6_sendBytes (pc : Nat) : Option me_T := if pc < 18 then (if pc < 8 then (if pc < 5 then (if pc < 1 then (if pc = 0 then some (.aload_n 2, [2, 1], 0) else none) else (if pc < 4 then (if pc = 1 then some (.getfield 191, [2, 0, 2, 1], 0) else none) else (if pc = 4 then some (.iconst 0, [1], 0) else none))) else (if pc < 6 then (if pc = 5 then some (.iaload, [50], 0) else none) else (if pc < 7 then (if pc = 6 then some (.istore_n 3, [3, 1], 0) else none) else (if pc = 7 then some (.aload_n 2, [2, 1], 0) else none)))) else (if pc < 13 then (if pc < 11 then (if pc = 8 then some (.getfield 194, [2, 1, 2, 1], 0) else none) else (if pc < 12 then (if pc = 11 then some (.iconst 0, [1], 0) else none) else (if pc = 12 then some (.iaload, [50], 0) else none))) else (if pc < 16 then (if pc < 14 then (if pc = 13 then some (.iload_n 3, [3, 1], 0) else none) else (if pc = 14 then some (.bipush 16, [2], 16) else none)) else (if pc < 17 then (if pc = 16 then some (.iadd, [], 0) else none) else (if pc = 17 then some (.iconst 1, [1], 1) else none))))) else (if pc < 30 then (if pc < 24 then (if pc < 19 then (if pc = 18 then some (.isub, [], 0) else none) else (if pc < 22 then (if pc = 19 then some (.invokestatic 160, [], 4) else none) else (if pc = 22 then some (.istore 4, [4, 2], 0) else none))) else (if pc < 28 then (if pc < 25 then (if pc = 24 then some (.aload_n 0, [0, 1], 0) else none) else (if pc = 25 then some (.getfield 27, [6, 4, 2, 1], 0) else none)) else (if pc < 29 then (if pc = 28 then some (.iconst 1, [1], 1) else none) else (if pc = 29 then some (.iload_n 1, [1, 1], 0) else none)))) else (if pc < 36 then (if pc < 31 then (if pc = 30 then some (.iload_n 3, [3, 1], 0) else none) else (if pc < 33 then (if pc = 31 then some (.iload 4, [4, 2], 0) else none) else (if pc = 33 then some (.invokevirtual 136, [10, 4, 0, 1], 0) else none))) else (if pc < 39 then (if pc < 37 then (if pc = 36 then some (.aload_n 2, [2, 1], 0) else none) else (if pc = 37 then some (.iload 4, [4, 2], 0) else none)) else (if pc < 42 then (if pc = 39 then some (.invokevirtual 197, [17, 1, 0, 2], 0) else none) else (if pc = 42 then some (.return_, [], 0) else none)))))
def cd_X6_sendEntry (pc : Nat) : Option me_T := if pc < 61 then (if pc < 28 then (if pc < 12 then (if pc < 6 then (if pc < 4 then (if pc < 1 then (if pc = 0 then some (.aload_n 1, [1, 1], 0) else none) else (if pc = 1 then some (.getfield 191, [2, 0, 2, 1], 0) else none)) else (if pc < 5 then (if pc = 4 then some (.iconst 0, [1], 0) else none) else (if pc = 5 then some (.iaload, [50], 0) else none))) else (if pc < 8 then (if pc < 7 then (if pc = 6 then some (.istore_n 2, [2, 1], 0) else none) else (if pc = 7 then some (.aload_n 1, [1, 1], 0) else none)) else (if pc < 11 then (if pc = 8 then some (.getfield 194, [2, 1, 2, 1], 0) else none) else (if pc = 11 then some (.iconst 0, [1], 0) else none)))) else (if pc < 18 then (if pc < 14 then (if pc < 13 then (if pc = 12 then some (.iaload, [50], 0) else none) else (if pc = 13 then some (.istore_n 3, [3, 1], 0) else none)) else (if pc < 15 then (if pc = 14 then some (.aload_n 0, [0, 1], 0) else none) else (if pc = 15 then some (.getfield 35, [6, 0, 2, 1], 0) else none))) else (if pc < 20 then (if pc < 19 then (if pc = 18 then some (.iload_n 2, [2, 1], 0) else none) else (if pc = 19 then some (.aload_n 0, [0, 1], 0) else none)) else (if pc < 23 then (if pc = 20 then some (.getfield 42, [6, 6, 0, 0], 0) else none) else (if pc < 26 then (if pc = 23 then some (.invokevirtual 200, [7, 2, 1, 0], 0) else none) else (if pc = 26 then some (.istore 4, [4, 2], 0) else none)))))) else (if pc < 44 then (if pc < 35 then (if pc < 31 then (if pc < 30 then (if pc = 28 then some (.iload 4, [4, 2], 0) else none) else (if pc = 30 then some (.iconst (-1), [1], (-1)) else none)) else (if pc < 34 then (if pc = 31 then some (.if_icmp .eq 65, [96], 0) else none) else (if pc = 34 then some (.aload_n 0, [0, 1], 0) else none))) else (if pc < 41 then (if pc < 38 then (if pc = 35 then some (.getfield 35, [6, 0, 2, 1], 0) else none) else (if pc = 38 then some (.getfield 203, [0, 3, 2, 1], 0) else none)) else (if pc < 43 then (if pc = 41 then some (.iload 4, [4, 2], 0) else none) else (if pc = 43 then some (.iaload, [50], 0) else none)))) else (if pc < 52 then (if pc < 48 then (if pc < 45 then (if pc = 44 then some (.iload_n 3, [3, 1], 0) else none) else (if pc = 45 then some (.if_icmp .gt 51, [96], 0) else none)) else (if pc < 49 then (if pc = 48 then some (.aload_n 0, [0, 1], 0) else none) else (if pc = 49 then some (.getfield 35, [6, 0, 2, 1], 0) else none))) else (if pc < 57 then (if pc < 55 then (if pc = 52 then some (.getfield 203, [0, 3, 2, 1], 0) else none) else (if pc = 55 then some (.iload 4, [4, 2], 0) else none)) else (if pc < 58 then (if pc = 57 then some (.iaload, [50], 0) else none) else (if pc < 60 then (if pc = 58 then some (.istore 5, [5, 2], 0) else none) else (if pc = 60 then some (.aload_n 0, [0, 1], 0) else none))))))) else (if pc < 96 then (if pc < 77 then (if pc < 68 then (if pc < 65 then (if pc < 64 then (if pc = 61 then some (.getfield 27, [6, 4, 2, 1], 0) else none) else (if pc = 64 then some (.iconst 2, [1], 2) else none)) else (if pc < 67 then (if pc = 65 then some (.iload 4, [4, 2], 0) else none) else (if pc = 67 then some (.aload_n 0, [0, 1], 0) else none))) else (if pc < 73 then (if pc < 71 then (if pc = 68 then some (.getfield 35, [6, 0, 2, 1], 0) else none) else (if pc = 71 then some (.iload 5, [5, 2], 0) else none)) else (if pc < 74 then (if pc = 73 then some (.aload_n 0, [0, 1], 0) else none) else (if pc = 74 then some (.getfield 42, [6, 6, 0, 0], 0) else none)))) else (if pc < 84 then (if pc < 81 then (if pc < 80 then (if pc = 77 then some (.invokevirtual 206, [8, 2, 1, 0], 0) else none) else (if pc = 80 then some (.iconst 1, [1], 1) else none)) else (if pc < 82 then (if pc = 81 then some (.iadd, [], 0) else none) else (if pc = 82 then some (.iload 5, [5, 2], 0) else none))) else (if pc < 88 then (if pc < 87 then (if pc = 84 then some (.invokevirtual 136, [10, 4, 0, 1], 0) else none) else (if pc = 87 then some (.aload_n 1, [1, 1], 0) else none)) else (if pc < 90 then (if pc = 88 then some (.iload 5, [5, 2], 0) else none) else (if pc < 93 then (if pc = 90 then some (.invokevirtual 197, [17, 1, 0, 2], 0) else none) else (if pc = 93 then some (.goto 32, [125], 0) else none)))))) else (if pc < 111 then (if pc < 102 then (if pc < 100 then (if pc < 97 then (if pc = 96 then some (.aload_n 0, [0, 1], 0) else none) else (if pc = 97 then some (.getfield 27, [6, 4, 2, 1], 0) else none)) else (if pc < 101 then (if pc = 100 then some (.iconst 2, [1], 2) else none) else (if pc = 101 then some (.iconst (-1), [1], (-1)) else none))) else (if pc < 106 then (if pc < 103 then (if pc = 102 then some (.aload_n 0, [0, 1], 0) else none) else (if pc = 103 then some (.getfield 35, [6, 0, 2, 1], 0) else none)) else (if pc < 107 then (if pc = 106 then some (.iload_n 2, [2, 1], 0) else none) else (if pc < 108 then (if pc = 107 then some (.aload_n 0, [0, 1], 0) else none) else (if pc = 108 then some (.getfield 42, [6, 6, 0, 0], 0) else none))))) else (if pc < 117 then (if pc < 115 then (if pc < 114 then (if pc = 111 then some (.invokevirtual 206, [8, 2, 1, 0], 0) else none) else (if pc = 114 then some (.iconst 1, [1], 1) else none)) else (if pc < 116 then (if pc = 115 then some (.iadd, [], 0) else none) else (if pc = 116 then some (.iload_n 3, [3, 1], 0) else none))) else (if pc < 121 then (if pc < 120 then (if pc = 117 then some (.invokevirtual 136, [10, 4, 0, 1], 0) else none) else (if pc = 120 then some (.aload_n 1, [1, 1], 0) else none)) else (if pc < 122 then (if pc = 121 then some (.iload_n 3, [3, 1], 0) else none) else (if pc < 125 then (if pc = 122 then some (.invokevirtual 197, [17, 1, 0, 2], 0) else none) else (if pc = 125 then some (.return_, [], 0) else none)))))))
def cd_X6_deliver (pc : Nat) : Option me_T := if pc < 43 then (if pc < 17 then (if pc < 7 then (if pc < 2 then (if pc < 1 then (if pc = 0 then some (.iconst 0, [1], 0) else none) else (if pc = 1 then some (.istore_n 1, [1, 1], 0) else none)) else (if pc < 3 then (if pc = 2 then some (.iload_n 1, [1, 1], 0) else none) else (if pc < 4 then (if pc = 3 then some (.aload_n 0, [0, 1], 0) else none) else (if pc = 4 then some (.getfield 46, [6, 2, 0, 0], 0) else none)))) else (if pc < 14 then (if pc < 10 then (if pc = 7 then some (.if_icmp .ge 77, [84], 0) else none) else (if pc < 11 then (if pc = 10 then some (.aload_n 0, [0, 1], 0) else none) else (if pc = 11 then some (.getfield 11, [6, 1, 2, 1], 0) else none))) else (if pc < 15 then (if pc = 14 then some (.iload_n 1, [1, 1], 0) else none) else (if pc < 16 then (if pc = 15 then some (.aaload, [], 0) else none) else (if pc = 16 then some (.astore_n 2, [2, 1], 0) else none))))) else (if pc < 31 then (if pc < 22 then (if pc < 18 then (if pc = 17 then some (.aload_n 2, [2, 1], 0) else none) else (if pc < 19 then (if pc = 18 then some (.aload_n 0, [0, 1], 0) else none) else (if pc = 19 then some (.getfield 42, [6, 6, 0, 0], 0) else none))) else (if pc < 25 then (if pc = 22 then some (.invokevirtual 154, [59, 1, 2, 7], 0) else none) else (if pc < 28 then (if pc = 25 then some (.ifCond .ne 6, [31], 0) else none) else (if pc = 28 then some (.goto 50, [78], 0) else none)))) else (if pc < 36 then (if pc < 32 then (if pc = 31 then some (.aload_n 2, [2, 1], 0) else none) else (if pc < 33 then (if pc = 32 then some (.aload_n 0, [0, 1], 0) else none) else (if pc = 33 then some (.getfield 42, [6, 6, 0, 0], 0) else none))) else (if pc < 39 then (if pc = 36 then some (.invokevirtual 209, [61, 1, 2, 7], 0) else none) else (if pc < 42 then (if pc = 39 then some (.ifCond .eq 16, [55], 0) else none) else (if pc = 42 then some (.aload_n 2, [2, 1], 0) else none)))))) else (if pc < 63 then (if pc < 51 then (if pc < 48 then (if pc < 46 then (if pc = 43 then some (.getfield 212, [7, 10, 2, 1], 0) else none) else (if pc < 47 then (if pc = 46 then some (.iconst 1, [1], 1) else none) else (if pc = 47 then some (.dup2, [], 0) else none))) else (if pc < 49 then (if pc = 48 then some (.iaload, [50], 0) else none) else (if pc < 50 then (if pc = 49 then some (.iconst 1, [1], 1) else none) else (if pc = 50 then some (.iadd, [], 0) else none)))) else (if pc < 56 then (if pc < 52 then (if pc = 51 then some (.iastore, [50], 0) else none) else (if pc < 55 then (if pc = 52 then some (.goto 26, [78], 0) else none) else (if pc = 55 then some (.aload_n 0, [0, 1], 0) else none))) else (if pc < 59 then (if pc = 56 then some (.getfield 27, [6, 4, 2, 1], 0) else none) else (if pc < 60 then (if pc = 59 then some (.dup, [], 0) else none) else (if pc = 60 then some (.getfield 213, [1, 5, 0, 0], 0) else none))))) else (if pc < 71 then (if pc < 66 then (if pc < 64 then (if pc = 63 then some (.iconst 1, [1], 1) else none) else (if pc < 65 then (if pc = 64 then some (.iload_n 1, [1, 1], 0) else none) else (if pc = 65 then some (.ishl, [], 0) else none))) else (if pc < 67 then (if pc = 66 then some (.ior, [], 0) else none) else (if pc < 70 then (if pc = 67 then some (.putfield 213, [1, 5, 0, 0], 0) else none) else (if pc = 70 then some (.aload_n 2, [2, 1], 0) else none)))) else (if pc < 78 then (if pc < 72 then (if pc = 71 then some (.aload_n 0, [0, 1], 0) else none) else (if pc < 75 then (if pc = 72 then some (.getfield 27, [6, 4, 2, 1], 0) else none) else (if pc = 75 then some (.invokevirtual 216, [67, 1, 0, 7], 0) else none))) else (if pc < 81 then (if pc = 78 then some (.iinc 1 1, [1], 1) else none) else (if pc < 84 then (if pc = 81 then some (.goto (-79), [2], 0) else none) else (if pc = 84 then some (.return_, [], 0) else none))))))
-- heads of loops: [2]
def cd_X6_settle (pc : Nat) : Option me_T := if pc < 29 then (if pc < 11 then (if pc < 7 then (if pc < 1 then (if pc = 0 then some (.aload_n 0, [0, 1], 0) else none) else (if pc < 4 then (if pc = 1 then some (.getfield 20, [6, 3, 2, 1], 0) else none) else (if pc = 4 then some (.getfield 143, [3, 0, 2, 1], 0) else none))) else (if pc < 9 then (if pc < 8 then (if pc = 7 then some (.iload_n 1, [1, 1], 0) else none) else (if pc = 8 then some (.aaload, [], 0) else none)) else (if pc < 10 then (if pc = 9 then some (.astore_n 2, [2, 1], 0) else none) else (if pc = 10 then some (.aload_n 2, [2, 1], 0) else none)))) else (if pc < 21 then (if pc < 17 then (if pc < 14 then (if pc = 11 then some (.getfield 119, [4, 3, 2, 1], 0) else none) else (if pc = 14 then some (.getfield 109, [2, 2, 0, 0], 0) else none)) else (if pc < 20 then (if pc = 17 then some (.ifCond .ne 24, [41], 0) else none) else (if pc = 20 then some (.aload_n 0, [0, 1], 0) else none))) else (if pc < 25 then (if pc < 24 then (if pc = 21 then some (.getfield 20, [6, 3, 2, 1], 0) else none) else (if pc = 24 then some (.iload_n 1, [1, 1], 0) else none)) else (if pc < 28 then (if pc = 25 then some (.invokevirtual 178, [28, 1, 0, 3], 0) else none) else (if pc = 28 then some (.aload_n 0, [0, 1], 0) else none))))) else (if pc < 41 then (if pc < 35 then (if pc < 33 then (if pc < 32 then (if pc = 29 then some (.getfield 31, [6, 5, 2, 1], 0) else none) else (if pc = 32 then some (.iconst 3, [1], 3) else none)) else (if pc < 34 then (if pc = 33 then some (.dup2, [], 0) else none) else (if pc = 34 then some (.iaload, [50], 0) else none))) else (if pc < 37 then (if pc < 36 then (if pc = 35 then some (.iconst 1, [1], 1) else none) else (if pc = 36 then some (.iadd, [], 0) else none)) else (if pc < 38 then (if pc = 37 then some (.iastore, [50], 0) else none) else (if pc = 38 then some (.goto 18, [56], 0) else none)))) else (if pc < 49 then (if pc < 45 then (if pc < 42 then (if pc = 41 then some (.aload_n 2, [2, 1], 0) else none) else (if pc = 42 then some (.getfield 181, [4, 2, 0, 0], 0) else none)) else (if pc < 48 then (if pc = 45 then some (.ifCond .ne 11, [56], 0) else none) else (if pc = 48 then some (.aload_n 0, [0, 1], 0) else none))) else (if pc < 53 then (if pc < 52 then (if pc = 49 then some (.getfield 20, [6, 3, 2, 1], 0) else none) else (if pc = 52 then some (.iload_n 1, [1, 1], 0) else none)) else (if pc < 56 then (if pc = 53 then some (.invokevirtual 220, [27, 1, 0, 3], 0) else none) else (if pc = 56 then some (.return_, [], 0) else none)))))
def cd_X7_init (pc : Nat) : Option me_T := if pc < 39 then (if pc < 19 then (if pc < 9 then (if pc < 4 then (if pc < 1 then (if pc = 0 then some (.aload_n 0, [0, 1], 0) else none) else (if pc = 1 then some (.invokespecial 3, [], 3) else none)) else (if pc < 5 then (if pc = 4 then some (.aload_n 0, [0, 1], 0) else none) else (if pc < 8 then (if pc = 5 then some (.new 9, [2, 3], 0) else none) else (if pc = 8 then some (.dup, [], 0) else none)))) else (if pc < 15 then (if pc < 12 then (if pc = 9 then some (.invokespecial 11, [11, 0, 0, 2], 2) else none) else (if pc = 12 then some (.putfield 12, [7, 7, 2, 1], 0) else none)) else (if pc < 16 then (if pc = 15 then some (.aload_n 0, [0, 1], 0) else none) else (if pc < 17 then (if pc = 16 then some (.iconst 3, [1], 3) else none) else (if pc = 17 then some (.newarray .int, [50], 0) else none))))) else (if pc < 30 then (if pc < 23 then (if pc < 22 then (if pc = 19 then some (.putfield 18, [7, 8, 2, 1], 0) else none) else (if pc = 22 then some (.aload_n 0, [0, 1], 0) else none)) else (if pc < 24 then (if pc = 23 then some (.iconst 3, [1], 3) else none) else (if pc < 27 then (if pc = 24 then some (.anewarray 9, [62], 0) else none) else (if pc = 27 then some (.putfield 22, [7, 9, 2, 1], 0) else none)))) else (if pc < 34 then (if pc < 31 then (if pc = 30 then some (.aload_n 0, [0, 1], 0) else none) else (if pc < 32 then (if pc = 31 then some (.iconst 4, [1], 4) else none) else (if pc = 32 then some (.newarray .int, [50], 0) else none))) else (if pc < 37 then (if pc = 34 then some (.putfield 26, [7, 10, 2, 1], 0) else none) else (if pc < 38 then (if pc = 37 then some (.aload_n 0, [0, 1], 0) else none) else (if pc = 38 then some (.iload_n 1, [1, 1], 0) else none)))))) else (if pc < 55 then (if pc < 46 then (if pc < 43 then (if pc < 42 then (if pc = 39 then some (.putfield 29, [7, 0, 0, 1], 0) else none) else (if pc = 42 then some (.iconst 0, [1], 0) else none)) else (if pc < 44 then (if pc = 43 then some (.istore_n 2, [2, 1], 0) else none) else (if pc < 45 then (if pc = 44 then some (.iload_n 2, [2, 1], 0) else none) else (if pc = 45 then some (.iconst 3, [1], 3) else none)))) else (if pc < 50 then (if pc < 49 then (if pc = 46 then some (.if_icmp .ge 29, [75], 0) else none) else (if pc = 49 then some (.aload_n 0, [0, 1], 0) else none)) else (if pc < 53 then (if pc = 50 then some (.getfield 18, [7, 8, 2, 1], 0) else none) else (if pc < 54 then (if pc = 53 then some (.iload_n 2, [2, 1], 0) else none) else (if pc = 54 then some (.iconst (-1), [1], (-1)) else none))))) else (if pc < 64 then (if pc < 57 then (if pc < 56 then (if pc = 55 then some (.iastore, [50], 0) else none) else (if pc = 56 then some (.aload_n 0, [0, 1], 0) else none)) else (if pc < 60 then (if pc = 57 then some (.getfield 22, [7, 9, 2, 1], 0) else none) else (if pc < 61 then (if pc = 60 then some (.iload_n 2, [2, 1], 0) else none) else (if pc = 61 then some (.new 9, [2, 3], 0) else none)))) else (if pc < 69 then (if pc < 65 then (if pc = 64 then some (.dup, [], 0) else none) else (if pc < 68 then (if pc = 65 then some (.invokespecial 11, [11, 0, 0, 2], 2) else none) else (if pc = 68 then some (.aastore, [], 0) else none))) else (if pc < 72 then (if pc = 69 then some (.iinc 2 1, [2], 1) else none) else (if pc < 75 then (if pc = 72 then some (.goto (-28), [44], 0) else none) else (if pc = 75 then some (.return_, [], 0) else none))))))
-- heads of loops: [44]
def cd_X7_copyFrom (pc : Nat) : Option me_T := if pc < 66 then (if pc < 33 then (if pc < 16 then (if pc < 8 then (if pc < 2 then (if pc < 1 then (if pc = 0 then some (.aload_n 0, [0, 1], 0) else none) else (if pc = 1 then some (.aload_n 1, [1, 1], 0) else none)) else (if pc < 5 then (if pc = 2 then some (.getfield 33, [7, 1, 0, 0], 0) else none) else (if pc = 5 then some (.putfield 33, [7, 1, 0, 0], 0) else none))) else (if pc < 10 then (if pc < 9 then (if pc = 8 then some (.aload_n 0, [0, 1], 0) else none) else (if pc = 9 then some (.aload_n 1, [1, 1], 0) else none)) else (if pc < 13 then (if pc = 10 then some (.getfield 36, [7, 2, 0, 0], 0) else none) else (if pc = 13 then some (.putfield 36, [7, 2, 0, 0], 0) else none)))) else (if pc < 24 then (if pc < 18 then (if pc < 17 then (if pc = 16 then some (.aload_n 0, [0, 1], 0) else none) else (if pc = 17 then some (.aload_n 1, [1, 1], 0) else none)) else (if pc < 21 then (if pc = 18 then some (.getfield 39, [7, 3, 0, 0], 0) else none) else (if pc = 21 then some (.putfield 39, [7, 3, 0, 0], 0) else none))) else (if pc < 26 then (if pc < 25 then (if pc = 24 then some (.aload_n 0, [0, 1], 0) else none) else (if pc = 25 then some (.aload_n 1, [1, 1], 0) else none)) else (if pc < 29 then (if pc = 26 then some (.getfield 42, [7, 4, 0, 0], 0) else none) else (if pc < 32 then (if pc = 29 then some (.putfield 42, [7, 4, 0, 0], 0) else none) else (if pc = 32 then some (.aload_n 0, [0, 1], 0) else none)))))) else (if pc < 49 then (if pc < 41 then (if pc < 37 then (if pc < 34 then (if pc = 33 then some (.aload_n 1, [1, 1], 0) else none) else (if pc = 34 then some (.getfield 45, [7, 5, 0, 0], 0) else none)) else (if pc < 40 then (if pc = 37 then some (.putfield 45, [7, 5, 0, 0], 0) else none) else (if pc = 40 then some (.aload_n 0, [0, 1], 0) else none))) else (if pc < 45 then (if pc < 42 then (if pc = 41 then some (.aload_n 1, [1, 1], 0) else none) else (if pc = 42 then some (.getfield 48, [7, 6, 0, 0], 0) else none)) else (if pc < 48 then (if pc = 45 then some (.putfield 48, [7, 6, 0, 0], 0) else none) else (if pc = 48 then some (.aload_n 0, [0, 1], 0) else none)))) else (if pc < 59 then (if pc < 53 then (if pc < 52 then (if pc = 49 then some (.getfield 12, [7, 7, 2, 1], 0) else none) else (if pc = 52 then some (.aload_n 1, [1, 1], 0) else none)) else (if pc < 56 then (if pc = 53 then some (.getfield 12, [7, 7, 2, 1], 0) else none) else (if pc = 56 then some (.invokevirtual 51, [13, 1, 0, 2], 0) else none))) else (if pc < 61 then (if pc < 60 then (if pc = 59 then some (.iconst 0, [1], 0) else none) else (if pc = 60 then some (.istore_n 2, [2, 1], 0) else none)) else (if pc < 62 then (if pc = 61 then some (.iload_n 2, [2, 1], 0) else none) else (if pc < 63 then (if pc = 62 then some (.iconst 3, [1], 3) else none) else (if pc = 63 then some (.if_icmp .ge 36, [99], 0) else none))))))) else (if pc < 93 then (if pc < 78 then (if pc < 72 then (if pc < 70 then (if pc < 67 then (if pc = 66 then some (.aload_n 0, [0, 1], 0) else none) else (if pc = 67 then some (.getfield 18, [7, 8, 2, 1], 0) else none)) else (if pc < 71 then (if pc = 70 then some (.iload_n 2, [2, 1], 0) else none) else (if pc = 71 then some (.aload_n 1, [1, 1], 0) else none))) else (if pc < 76 then (if pc < 75 then (if pc = 72 then some (.getfield 18, [7, 8, 2, 1], 0) else none) else (if pc = 75 then some (.iload_n 2, [2, 1], 0) else none)) else (if pc < 77 then (if pc = 76 then some (.iaload, [50], 0) else none) else (if pc = 77 then some (.iastore, [50], 0) else none)))) else (if pc < 84 then (if pc < 82 then (if pc < 79 then (if pc = 78 then some (.aload_n 0, [0, 1], 0) else none) else (if pc = 79 then some (.getfield 22, [7, 9, 2, 1], 0) else none)) else (if pc < 83 then (if pc = 82 then some (.iload_n 2, [2, 1], 0) else none) else (if pc = 83 then some (.aaload, [], 0) else none))) else (if pc < 88 then (if pc < 85 then (if pc = 84 then some (.aload_n 1, [1, 1], 0) else none) else (if pc = 85 then some (.getfield 22, [7, 9, 2, 1], 0) else none)) else (if pc < 89 then (if pc = 88 then some (.iload_n 2, [2, 1], 0) else none) else (if pc < 90 then (if pc = 89 then some (.aaload, [], 0) else none) else (if pc = 90 then some (.invokevirtual 51, [13, 1, 0, 2], 0) else none)))))) else (if pc < 110 then (if pc < 101 then (if pc < 99 then (if pc < 96 then (if pc = 93 then some (.iinc 2 1, [2], 1) else none) else (if pc = 96 then some (.goto (-35), [61], 0) else none)) else (if pc < 100 then (if pc = 99 then some (.iconst 0, [1], 0) else none) else (if pc = 100 then some (.istore_n 2, [2, 1], 0) else none))) else (if pc < 103 then (if pc < 102 then (if pc = 101 then some (.iload_n 2, [2, 1], 0) else none) else (if pc = 102 then some (.iconst 4, [1], 4) else none)) else (if pc < 106 then (if pc = 103 then some (.if_icmp .ge 21, [124], 0) else none) else (if pc < 107 then (if pc = 106 then some (.aload_n 0, [0, 1], 0) else none) else (if pc = 107 then some (.getfield 26, [7, 10, 2, 1], 0) else none))))) else (if pc < 116 then (if pc < 112 then (if pc < 111 then (if pc = 110 then some (.iload_n 2, [2, 1], 0) else none) else (if pc = 111 then some (.aload_n 1, [1, 1], 0) else none)) else (if pc < 115 then (if pc = 112 then some (.getfield 26, [7, 10, 2, 1], 0) else none) else (if pc = 115 then some (.iload_n 2, [2, 1], 0) else none))) else (if pc < 118 then (if pc < 117 then (if pc = 116 then some (.iaload, [50], 0) else none) else (if pc = 117 then some (.iastore, [50], 0) else none)) else (if pc < 121 then (if pc = 118 then some (.iinc 2 1, [2], 1) else none) else (if pc < 124 then (if pc = 121 then some (.goto (-20), [101], 0) else none) else (if pc = 124 then some (.return_, [], 0) else none)))))))
-- heads of loops: [61, 101]
def cd_X7_sees (pc : Nat) : Option me_T := if pc < 13 then (if pc < 5 then (if pc < 1 then (if pc = 0 then some (.iload_n 1, [1, 1], 0) else none) else (if pc < 2 then (if pc = 1 then some (.aload_n 0, [0, 1], 0) else none) else (if pc = 2 then some (.getfield 36, [7, 2, 0, 0], 0) else none))) else (if pc < 9 then (if pc < 8 then (if pc = 5 then some (.if_icmp .lt 19, [24], 0) else none) else (if pc = 8 then some (.aload_n 0, [0, 1], 0) else none)) else (if pc < 10 then (if pc = 9 then some (.iload_n 1, [1, 1], 0) else none) else (if pc = 10 then some (.invokevirtual 55, [70, 1, 1, 7], 0) else none)))) else (if pc < 20 then (if pc < 14 then (if pc = 13 then some (.aload_n 0, [0, 1], 0) else none) else (if pc < 17 then (if pc = 14 then some (.getfield 39, [7, 3, 0, 0], 0) else none) else (if pc = 17 then some (.if_icmp .ge 7, [24], 0) else none))) else (if pc < 24 then (if pc < 21 then (if pc = 20 then some (.iconst 1, [1], 1) else none) else (if pc = 21 then some (.goto 4, [25], 0) else none)) else (if pc < 25 then (if pc = 24 then some (.iconst 0, [1], 0) else none) else (if pc = 25 then some (.ireturn, [], 0) else none))))
def cd_X7_firstSight (pc : Nat) : Option me_T := if pc < 20 then (if pc < 12 then (if pc < 5 then (if pc < 1 then (if pc = 0 then some (.iload_n 1, [1, 1], 0) else none) else (if pc < 2 then (if pc = 1 then some (.aload_n 0, [0, 1], 0) else none) else (if pc = 2 then some (.getfield 36, [7, 2, 0, 0], 0) else none))) else (if pc < 8 then (if pc = 5 then some (.if_icmp .ge 8, [13], 0) else none) else (if pc < 9 then (if pc = 8 then some (.aload_n 0, [0, 1], 0) else none) else (if pc = 9 then some (.getfield 36, [7, 2, 0, 0], 0) else none)))) else (if pc < 15 then (if pc < 13 then (if pc = 12 then some (.ireturn, [], 0) else none) else (if pc < 14 then (if pc = 13 then some (.aload_n 0, [0, 1], 0) else none) else (if pc = 14 then some (.iload_n 1, [1, 1], 0) else none))) else (if pc < 18 then (if pc = 15 then some (.invokevirtual 55, [70, 1, 1, 7], 0) else none) else (if pc < 19 then (if pc = 18 then some (.istore_n 2, [2, 1], 0) else none) else (if pc = 19 then some (.iload_n 2, [2, 1], 0) else none))))) else (if pc < 32 then (if pc < 27 then (if pc < 21 then (if pc = 20 then some (.aload_n 0, [0, 1], 0) else none) else (if pc < 24 then (if pc = 21 then some (.getfield 39, [7, 3, 0, 0], 0) else none) else (if pc = 24 then some (.if_icmp .ge 7, [31], 0) else none))) else (if pc < 28 then (if pc = 27 then some (.iload_n 1, [1, 1], 0) else none) else (if pc < 31 then (if pc = 28 then some (.goto 11, [39], 0) else none) else (if pc = 31 then some (.iload_n 1, [1, 1], 0) else none)))) else (if pc < 35 then (if pc < 33 then (if pc = 32 then some (.iload_n 2, [2, 1], 0) else none) else (if pc < 34 then (if pc = 33 then some (.isub, [], 0) else none) else (if pc = 34 then some (.aload_n 0, [0, 1], 0) else none))) else (if pc < 38 then (if pc = 35 then some (.getfield 33, [7, 1, 0, 0], 0) else none) else (if pc < 39 then (if pc = 38 then some (.iadd, [], 0) else none) else (if pc = 39 then some (.ireturn, [], 0) else none)))))
def cd_X7_isHit (pc : Nat) : Option me_T := if pc < 23 then (if pc < 13 then (if pc < 5 then (if pc < 3 then (if pc = 0 then some (.ldc2_w 59, [], 7919) else none) else (if pc < 4 then (if pc = 3 then some (.iload_n 1, [1, 1], 0) else none) else (if pc = 4 then some (.i2l, [], 0) else none))) else (if pc < 9 then (if pc < 6 then (if pc = 5 then some (.lmul, [], 0) else none) else (if pc = 6 then some (.ldc2_w 61, [], 613) else none)) else (if pc < 10 then (if pc = 9 then some (.aload_n 0, [0, 1], 0) else none) else (if pc = 10 then some (.getfield 29, [7, 0, 0, 1], 0) else none)))) else (if pc < 17 then (if pc < 15 then (if pc < 14 then (if pc = 13 then some (.i2l, [], 0) else none) else (if pc = 14 then some (.lmul, [], 0) else none)) else (if pc < 16 then (if pc = 15 then some (.ladd, [], 0) else none) else (if pc = 16 then some (.lconst 1, [], 1) else none))) else (if pc < 21 then (if pc < 18 then (if pc = 17 then some (.ladd, [], 0) else none) else (if pc = 18 then some (.ldc2_w 63, [], 65521) else none)) else (if pc < 22 then (if pc = 21 then some (.lrem, [], 0) else none) else (if pc = 22 then some (.lstore_n 2, [2, 1], 0) else none))))) else (if pc < 35 then (if pc < 29 then (if pc < 25 then (if pc < 24 then (if pc = 23 then some (.lload_n 2, [2, 1], 0) else none) else (if pc = 24 then some (.lload_n 2, [2, 1], 0) else none)) else (if pc < 26 then (if pc = 25 then some (.lmul, [], 0) else none) else (if pc = 26 then some (.ldc2_w 63, [], 65521) else none))) else (if pc < 33 then (if pc < 30 then (if pc = 29 then some (.lrem, [], 0) else none) else (if pc = 30 then some (.ldc2_w 65, [], 1000) else none)) else (if pc < 34 then (if pc = 33 then some (.lrem, [], 0) else none) else (if pc = 34 then some (.aload_n 0, [0, 1], 0) else none)))) else (if pc < 43 then (if pc < 39 then (if pc < 38 then (if pc = 35 then some (.getfield 45, [7, 5, 0, 0], 0) else none) else (if pc = 38 then some (.i2l, [], 0) else none)) else (if pc < 40 then (if pc = 39 then some (.lcmp, [], 0) else none) else (if pc = 40 then some (.ifCond .ge 7, [47], 0) else none))) else (if pc < 47 then (if pc < 44 then (if pc = 43 then some (.iconst 1, [1], 1) else none) else (if pc = 44 then some (.goto 4, [48], 0) else none)) else (if pc < 48 then (if pc = 47 then some (.iconst 0, [1], 0) else none) else (if pc = 48 then some (.ireturn, [], 0) else none)))))
def cd_X7_knows (pc : Nat) : Option me_T := if pc < 8 then (if pc < 5 then (if pc < 1 then (if pc = 0 then some (.aload_n 0, [0, 1], 0) else none) else (if pc < 4 then (if pc = 1 then some (.getfield 48, [7, 6, 0, 0], 0) else none) else (if pc = 4 then some (.iload_n 1, [1, 1], 0) else none))) else (if pc < 6 then (if pc = 5 then some (.ishr, [], 0) else none) else (if pc < 7 then (if pc = 6 then some (.iconst 1, [1], 1) else none) else (if pc = 7 then some (.iand, [], 0) else none)))) else (if pc < 13 then (if pc < 9 then (if pc = 8 then some (.iconst 1, [1], 1) else none) else (if pc < 12 then (if pc = 9 then some (.if_icmp .ne 7, [16], 0) else none) else (if pc = 12 then some (.iconst 1, [1], 1) else none))) else (if pc < 16 then (if pc = 13 then some (.goto 4, [17], 0) else none) else (if pc < 17 then (if pc = 16 then some (.iconst 0, [1], 0) else none) else (if pc = 17 then some (.ireturn, [], 0) else none))))
def cd_X7_countOpen (pc : Nat) : Option me_T := if pc < 13 then (if pc < 4 then (if pc < 2 then (if pc < 1 then (if pc = 0 then some (.iconst 0, [1], 0) else none) else (if pc = 1 then some (.istore_n 1, [1, 1], 0) else none)) else (if pc < 3 then (if pc = 2 then some (.iconst 0, [1], 0) else none) else (if pc = 3 then some (.istore_n 2, [2, 1], 0) else none))) else (if pc < 6 then (if pc < 5 then (if pc = 4 then some (.iload_n 2, [2, 1], 0) else none) else (if pc = 5 then some (.iconst 3, [1], 3) else none)) else (if pc < 9 then (if pc = 6 then some (.if_icmp .ge 22, [28], 0) else none) else (if pc < 10 then (if pc = 9 then some (.aload_n 0, [0, 1], 0) else none) else (if pc = 10 then some (.getfield 18, [7, 8, 2, 1], 0) else none))))) else (if pc < 19 then (if pc < 15 then (if pc < 14 then (if pc = 13 then some (.iload_n 2, [2, 1], 0) else none) else (if pc = 14 then some (.iaload, [50], 0) else none)) else (if pc < 16 then (if pc = 15 then some (.iconst (-1), [1], (-1)) else none) else (if pc = 16 then some (.if_icmp .eq 6, [22], 0) else none))) else (if pc < 25 then (if pc < 22 then (if pc = 19 then some (.iinc 1 1, [1], 1) else none) else (if pc = 22 then some (.iinc 2 1, [2], 1) else none)) else (if pc < 28 then (if pc = 25 then some (.goto (-21), [4], 0) else none) else (if pc < 29 then (if pc = 28 then some (.iload_n 1, [1, 1], 0) else none) else (if pc = 29 then some (.ireturn, [], 0) else none)))))
-- heads of loops: [4]
def cd_X7_bytesOf (pc : Nat) : Option me_T := if pc < 12 then (if pc < 6 then (if pc < 2 then (if pc < 1 then (if pc = 0 then some (.aload_n 0, [0, 1], 0) else none) else (if pc = 1 then some (.iload_n 1, [1, 1], 0) else none)) else (if pc < 5 then (if pc = 2 then some (.invokevirtual 67, [71, 1, 1, 7], 0) else none) else (if pc = 5 then some (.istore_n 2, [2, 1], 0) else none))) else (if pc < 8 then (if pc < 7 then (if pc = 6 then some (.iload_n 1, [1, 1], 0) else none) else (if pc = 7 then some (.iconst (-1), [1], (-1)) else none)) else (if pc < 11 then (if pc = 8 then some (.if_icmp .eq 7, [15], 0) else none) else (if pc = 11 then some (.iload_n 2, [2, 1], 0) else none)))) else (if pc < 20 then (if pc < 16 then (if pc < 15 then (if pc = 12 then some (.ifCond .ge 7, [19], 0) else none) else (if pc = 15 then some (.aconst_null, [], 0) else none)) else (if pc < 19 then (if pc = 16 then some (.goto 9, [25], 0) else none) else (if pc = 19 then some (.aload_n 0, [0, 1], 0) else none))) else (if pc < 24 then (if pc < 23 then (if pc = 20 then some (.getfield 22, [7, 9, 2, 1], 0) else none) else (if pc = 23 then some (.iload_n 2, [2, 1], 0) else none)) else (if pc < 25 then (if pc = 24 then some (.aaload, [], 0) else none) else (if pc = 25 then some (.areturn, [], 0) else none))))
def cd_X7_beginFile (pc : Nat) : Option me_T := if pc < 16 then (if pc < 7 then (if pc < 2 then (if pc < 1 then (if pc = 0 then some (.aload_n 0, [0, 1], 0) else none) else (if pc = 1 then some (.iconst (-1), [1], (-1)) else none)) else (if pc < 5 then (if pc = 2 then some (.invokevirtual 67, [71, 1, 1, 7], 0) else none) else (if pc < 6 then (if pc = 5 then some (.istore_n 2, [2, 1], 0) else none) else (if pc = 6 then some (.iload_n 2, [2, 1], 0) else none)))) else (if pc < 11 then (if pc < 10 then (if pc = 7 then some (.ifCond .ge 5, [12], 0) else none) else (if pc = 10 then some (.iconst 0, [1], 0) else none)) else (if pc < 12 then (if pc = 11 then some (.ireturn, [], 0) else none) else (if pc < 13 then (if pc = 12 then some (.aload_n 0, [0, 1], 0) else none) else (if pc = 13 then some (.getfield 18, [7, 8, 2, 1], 0) else none))))) else (if pc < 23 then (if pc < 18 then (if pc < 17 then (if pc = 16 then some (.iload_n 2, [2, 1], 0) else none) else (if pc = 17 then some (.iload_n 1, [1, 1], 0) else none)) else (if pc < 19 then (if pc = 18 then some (.iastore, [50], 0) else none) else (if pc < 20 then (if pc = 19 then some (.aload_n 0, [0, 1], 0) else none) else (if pc = 20 then some (.getfield 22, [7, 9, 2, 1], 0) else none)))) else (if pc < 25 then (if pc < 24 then (if pc = 23 then some (.iload_n 2, [2, 1], 0) else none) else (if pc = 24 then some (.aaload, [], 0) else none)) else (if pc < 28 then (if pc = 25 then some (.invokevirtual 70, [12, 0, 0, 2], 0) else none) else (if pc < 29 then (if pc = 28 then some (.iconst 1, [1], 1) else none) else (if pc = 29 then some (.ireturn, [], 0) else none)))))
def cd_X7_endFile (pc : Nat) : Option me_T := if pc < 10 then (if pc < 5 then (if pc < 1 then (if pc = 0 then some (.aload_n 0, [0, 1], 0) else none) else (if pc < 2 then (if pc = 1 then some (.iload_n 1, [1, 1], 0) else none) else (if pc = 2 then some (.invokevirtual 67, [71, 1, 1, 7], 0) else none))) else (if pc < 6 then (if pc = 5 then some (.istore_n 2, [2, 1], 0) else none) else (if pc < 7 then (if pc = 6 then some (.iload_n 2, [2, 1], 0) else none) else (if pc = 7 then some (.ifCond .lt 10, [17], 0) else none)))) else (if pc < 15 then (if pc < 11 then (if pc = 10 then some (.aload_n 0, [0, 1], 0) else none) else (if pc < 14 then (if pc = 11 then some (.getfield 18, [7, 8, 2, 1], 0) else none) else (if pc = 14 then some (.iload_n 2, [2, 1], 0) else none))) else (if pc < 16 then (if pc = 15 then some (.iconst (-1), [1], (-1)) else none) else (if pc < 17 then (if pc = 16 then some (.iastore, [50], 0) else none) else (if pc = 17 then some (.return_, [], 0) else none))))
def cd_X7_take (pc : Nat) : Option me_T := if pc < 18 then (if pc < 8 then (if pc < 5 then (if pc < 1 then (if pc = 0 then some (.aload_n 0, [0, 1], 0) else none) else (if pc < 4 then (if pc = 1 then some (.getfield 26, [7, 10, 2, 1], 0) else none) else (if pc = 4 then some (.iconst 0, [1], 0) else none))) else (if pc < 6 then (if pc = 5 then some (.dup2, [], 0) else none) else (if pc < 7 then (if pc = 6 then some (.iaload, [50], 0) else none) else (if pc = 7 then some (.iconst 1, [1], 1) else none)))) else (if pc < 11 then (if pc < 9 then (if pc = 8 then some (.iadd, [], 0) else none) else (if pc < 10 then (if pc = 9 then some (.iastore, [50], 0) else none) else (if pc = 10 then some (.aload_n 1, [1, 1], 0) else none))) else (if pc < 14 then (if pc = 11 then some (.getfield 73, [1, 1, 0, 0], 0) else none) else (if pc < 15 then (if pc = 14 then some (.iconst 1, [1], 1) else none) else (if pc = 15 then some (.if_icmp .ne 11, [26], 0) else none))))) else (if pc < 30 then (if pc < 23 then (if pc < 19 then (if pc = 18 then some (.aload_n 0, [0, 1], 0) else none) else (if pc < 20 then (if pc = 19 then some (.aload_n 1, [1, 1], 0) else none) else (if pc = 20 then some (.invokevirtual 78, [68, 1, 0, 7], 0) else none))) else (if pc < 26 then (if pc = 23 then some (.goto 16, [39], 0) else none) else (if pc < 27 then (if pc = 26 then some (.aload_n 1, [1, 1], 0) else none) else (if pc = 27 then some (.getfield 73, [1, 1, 0, 0], 0) else none)))) else (if pc < 35 then (if pc < 31 then (if pc = 30 then some (.iconst 2, [1], 2) else none) else (if pc < 34 then (if pc = 31 then some (.if_icmp .ne 8, [39], 0) else none) else (if pc = 34 then some (.aload_n 0, [0, 1], 0) else none))) else (if pc < 36 then (if pc = 35 then some (.aload_n 1, [1, 1], 0) else none) else (if pc < 39 then (if pc = 36 then some (.invokevirtual 82, [69, 1, 0, 7], 0) else none) else (if pc = 39 then some (.return_, [], 0) else none)))))
def cd_X7_takeBytes (pc : Nat) : Option me_T := if pc < 37 then (if pc < 19 then (if pc < 9 then (if pc < 2 then (if pc < 1 then (if pc = 0 then some (.aload_n 0, [0, 1], 0) else none) else (if pc = 1 then some (.aload_n 1, [1, 1], 0) else none)) else (if pc < 5 then (if pc = 2 then some (.getfield 85, [1, 2, 0, 0], 0) else none) else (if pc < 8 then (if pc = 5 then some (.invokevirtual 88, [64, 1, 3, 7], 0) else none) else (if pc = 8 then some (.astore_n 2, [2, 1], 0) else none)))) else (if pc < 14 then (if pc < 10 then (if pc = 9 then some (.aload_n 2, [2, 1], 0) else none) else (if pc < 13 then (if pc = 10 then some (.ifnonnull 4, [14], 0) else none) else (if pc = 13 then some (.return_, [], 0) else none))) else (if pc < 15 then (if pc = 14 then some (.aload_n 2, [2, 1], 0) else none) else (if pc < 16 then (if pc = 15 then some (.aload_n 1, [1, 1], 0) else none) else (if pc = 16 then some (.getfield 92, [1, 3, 0, 0], 0) else none))))) else (if pc < 31 then (if pc < 26 then (if pc < 20 then (if pc = 19 then some (.aload_n 1, [1, 1], 0) else none) else (if pc < 23 then (if pc = 20 then some (.getfield 95, [1, 4, 0, 0], 0) else none) else (if pc = 23 then some (.invokevirtual 98, [15, 2, 1, 2], 0) else none))) else (if pc < 27 then (if pc = 26 then some (.istore_n 3, [3, 1], 0) else none) else (if pc < 28 then (if pc = 27 then some (.aload_n 0, [0, 1], 0) else none) else (if pc = 28 then some (.getfield 26, [7, 10, 2, 1], 0) else none)))) else (if pc < 34 then (if pc < 32 then (if pc = 31 then some (.iconst 3, [1], 3) else none) else (if pc < 33 then (if pc = 32 then some (.dup2, [], 0) else none) else (if pc = 33 then some (.iaload, [50], 0) else none))) else (if pc < 35 then (if pc = 34 then some (.iload_n 3, [3, 1], 0) else none) else (if pc < 36 then (if pc = 35 then some (.iadd, [], 0) else none) else (if pc = 36 then some (.iastore, [50], 0) else none)))))) else (if pc < 59 then (if pc < 49 then (if pc < 42 then (if pc < 38 then (if pc = 37 then some (.aload_n 2, [2, 1], 0) else none) else (if pc < 39 then (if pc = 38 then some (.aload_n 1, [1, 1], 0) else none) else (if pc = 39 then some (.getfield 92, [1, 3, 0, 0], 0) else none))) else (if pc < 43 then (if pc = 42 then some (.aload_n 1, [1, 1], 0) else none) else (if pc < 46 then (if pc = 43 then some (.getfield 95, [1, 4, 0, 0], 0) else none) else (if pc = 46 then some (.invokevirtual 102, [16, 2, 2, 2], 0) else none)))) else (if pc < 56 then (if pc < 52 then (if pc = 49 then some (.ifCond .eq 25, [74], 0) else none) else (if pc < 53 then (if pc = 52 then some (.aload_n 0, [0, 1], 0) else none) else (if pc = 53 then some (.getfield 26, [7, 10, 2, 1], 0) else none))) else (if pc < 57 then (if pc = 56 then some (.iconst 2, [1], 2) else none) else (if pc < 58 then (if pc = 57 then some (.dup2, [], 0) else none) else (if pc = 58 then some (.iaload, [50], 0) else none))))) else (if pc < 69 then (if pc < 64 then (if pc < 60 then (if pc = 59 then some (.aload_n 1, [1, 1], 0) else none) else (if pc < 63 then (if pc = 60 then some (.getfield 95, [1, 4, 0, 0], 0) else none) else (if pc = 63 then some (.aload_n 1, [1, 1], 0) else none))) else (if pc < 67 then (if pc = 64 then some (.getfield 92, [1, 3, 0, 0], 0) else none) else (if pc < 68 then (if pc = 67 then some (.isub, [], 0) else none) else (if pc = 68 then some (.iconst 1, [1], 1) else none)))) else (if pc < 72 then (if pc < 70 then (if pc = 69 then some (.iadd, [], 0) else none) else (if pc < 71 then (if pc = 70 then some (.iload_n 3, [3, 1], 0) else none) else (if pc = 71 then some (.isub, [], 0) else none))) else (if pc < 73 then (if pc = 72 then some (.iadd, [], 0) else none) else (if pc < 74 then (if pc = 73 then some (.iastore, [50], 0) else none) else (if pc = 74 then some (.return_, [], 0) else none))))))
def cd_X7_takeEntry (pc : Nat) : Option me_T := if pc < 19 then (if pc < 9 then (if pc < 4 then (if pc < 1 then (if pc = 0 then some (.aload_n 1, [1, 1], 0) else none) else (if pc = 1 then some (.getfield 85, [1, 2, 0, 0], 0) else none)) else (if pc < 5 then (if pc = 4 then some (.iconst (-1), [1], (-1)) else none) else (if pc < 8 then (if pc = 5 then some (.if_icmp .eq 18, [23], 0) else none) else (if pc = 8 then some (.aload_n 0, [0, 1], 0) else none)))) else (if pc < 14 then (if pc < 10 then (if pc = 9 then some (.dup, [], 0) else none) else (if pc < 13 then (if pc = 10 then some (.getfield 48, [7, 6, 0, 0], 0) else none) else (if pc = 13 then some (.iconst 1, [1], 1) else none))) else (if pc < 15 then (if pc = 14 then some (.aload_n 1, [1, 1], 0) else none) else (if pc < 18 then (if pc = 15 then some (.getfield 85, [1, 2, 0, 0], 0) else none) else (if pc = 18 then some (.ishl, [], 0) else none))))) else (if pc < 28 then (if pc < 23 then (if pc < 20 then (if pc = 19 then some (.ior, [], 0) else none) else (if pc = 20 then some (.putfield 48, [7, 6, 0, 0], 0) else none)) else (if pc < 24 then (if pc = 23 then some (.aload_n 0, [0, 1], 0) else none) else (if pc < 27 then (if pc = 24 then some (.getfield 12, [7, 7, 2, 1], 0) else none) else (if pc = 27 then some (.aload_n 1, [1, 1], 0) else none)))) else (if pc < 35 then (if pc < 31 then (if pc = 28 then some (.getfield 92, [1, 3, 0, 0], 0) else none) else (if pc < 32 then (if pc = 31 then some (.aload_n 1, [1, 1], 0) else none) else (if pc = 32 then some (.getfield 95, [1, 4, 0, 0], 0) else none))) else (if pc < 38 then (if pc = 35 then some (.invokevirtual 102, [16, 2, 2, 2], 0) else none) else (if pc < 39 then (if pc = 38 then some (.pop, [], 0) else none) else (if pc = 39 then some (.return_, [], 0) else none)))))
def cd_X7_phaseAt (pc : Nat) : Option me_T := if pc < 12 then (if pc < 7 then (if pc < 1 then (if pc = 0 then some (.aload_n 0, [0, 1], 0) else none) else (if pc < 4 then (if pc = 1 then some (.getfield 33, [7, 1, 0, 0], 0) else none) else (if pc = 4 then some (.ifCond .le 17, [21], 0) else none))) else (if pc < 8 then (if pc = 7 then some (.iload_n 1, [1, 1], 0) else none) else (if pc < 9 then (if pc = 8 then some (.aload_n 0, [0, 1], 0) else none) else (if pc = 9 then some (.getfield 36, [7, 2, 0, 0], 0) else none)))) else (if pc < 17 then (if pc < 13 then (if pc = 12 then some (.isub, [], 0) else none) else (if pc < 14 then (if pc = 13 then some (.aload_n 0, [0, 1], 0) else none) else (if pc = 14 then some (.getfield 33, [7, 1, 0, 0], 0) else none))) else (if pc < 21 then (if pc < 18 then (if pc = 17 then some (.irem, [], 0) else none) else (if pc = 18 then some (.goto 4, [22], 0) else none)) else (if pc < 22 then (if pc = 21 then some (.iconst 0, [1], 0) else none) else (if pc = 22 then some (.ireturn, [], 0) else none))))
def cd_X7_placeOf (pc : Nat) : Option me_T := if pc < 12 then (if pc < 4 then (if pc < 2 then (if pc < 1 then (if pc = 0 then some (.iconst 0, [1], 0) else none) else (if pc = 1 then some (.istore_n 2, [2, 1], 0) else none)) else (if pc < 3 then (if pc = 2 then some (.iload_n 2, [2, 1], 0) else none) else (if pc = 3 then some (.iconst 3, [1], 3) else none))) else (if pc < 8 then (if pc < 7 then (if pc = 4 then some (.if_icmp .ge 21, [25], 0) else none) else (if pc = 7 then some (.aload_n 0, [0, 1], 0) else none)) else (if pc < 11 then (if pc = 8 then some (.getfield 18, [7, 8, 2, 1], 0) else none) else (if pc = 11 then some (.iload_n 2, [2, 1], 0) else none)))) else (if pc < 18 then (if pc < 14 then (if pc < 13 then (if pc = 12 then some (.iaload, [50], 0) else none) else (if pc = 13 then some (.iload_n 1, [1, 1], 0) else none)) else (if pc < 17 then (if pc = 14 then some (.if_icmp .ne 5, [19], 0) else none) else (if pc = 17 then some (.iload_n 2, [2, 1], 0) else none))) else (if pc < 22 then (if pc < 19 then (if pc = 18 then some (.ireturn, [], 0) else none) else (if pc = 19 then some (.iinc 2 1, [2], 1) else none)) else (if pc < 25 then (if pc = 22 then some (.goto (-20), [2], 0) else none) else (if pc < 26 then (if pc = 25 then some (.iconst (-1), [1], (-1)) else none) else (if pc = 26 then some (.ireturn, [], 0) else none)))))
-- heads of loops: [2]
def cd_X8_init (pc : Nat) : Option me_T := if pc < 27 then (if pc < 12 then (if pc < 5 then (if pc < 1 then (if pc = 0 then some (.aload_n 0, [0, 1], 0) else none) else (if pc < 4 then (if pc = 1 then some (.invokespecial 1, [], 3) else none) else (if pc = 4 then some (.aload_n 0, [0, 1], 0) else none))) else (if pc < 8 then (if pc = 5 then some (.new 7, [0, 5], 0) else none) else (if pc < 9 then (if pc = 8 then some (.dup, [], 0) else none) else (if pc = 9 then some (.invokespecial 9, [0, 0, 0, 0], 2) else none)))) else (if pc < 19 then (if pc < 15 then (if pc = 12 then some (.putfield 10, [8, 0, 2, 1], 0) else none) else (if pc < 16 then (if pc = 15 then some (.aload_n 0, [0, 1], 0) else none) else (if pc = 16 then some (.new 16, [6, 7], 0) else none))) else (if pc < 21 then (if pc < 20 then (if pc = 19 then some (.dup, [], 0) else none) else (if pc = 20 then some (.aload_n 0, [0, 1], 0) else none)) else (if pc < 24 then (if pc = 21 then some (.getfield 10, [8, 0, 2, 1], 0) else none) else (if pc = 24 then some (.invokespecial 18, [41, 1, 0, 6], 2) else none))))) else (if pc < 42 then (if pc < 34 then (if pc < 30 then (if pc = 27 then some (.putfield 21, [8, 1, 2, 1], 0) else none) else (if pc < 31 then (if pc = 30 then some (.aload_n 0, [0, 1], 0) else none) else (if pc = 31 then some (.new 16, [6, 7], 0) else none))) else (if pc < 36 then (if pc < 35 then (if pc = 34 then some (.dup, [], 0) else none) else (if pc = 35 then some (.aload_n 0, [0, 1], 0) else none)) else (if pc < 39 then (if pc = 36 then some (.getfield 10, [8, 0, 2, 1], 0) else none) else (if pc = 39 then some (.invokespecial 18, [41, 1, 0, 6], 2) else none)))) else (if pc < 49 then (if pc < 45 then (if pc = 42 then some (.putfield 25, [8, 2, 2, 1], 0) else none) else (if pc < 46 then (if pc = 45 then some (.aload_n 0, [0, 1], 0) else none) else (if pc = 46 then some (.new 28, [5, 6], 0) else none))) else (if pc < 53 then (if pc < 50 then (if pc = 49 then some (.dup, [], 0) else none) else (if pc = 50 then some (.invokespecial 30, [33, 0, 0, 5], 2) else none)) else (if pc < 56 then (if pc = 53 then some (.putfield 31, [8, 3, 2, 1], 0) else none) else (if pc = 56 then some (.return_, [], 0) else none)))))
def cd_X8_addStation (pc : Nat) : Option me_T := if pc < 31 then (if pc < 13 then (if pc < 5 then (if pc < 1 then (if pc = 0 then some (.iload_n 1, [1, 1], 0) else none) else (if pc < 2 then (if pc = 1 then some (.iconst 1, [1], 1) else none) else (if pc = 2 then some (.sipush 1000, [3], 1000) else none))) else (if pc < 11 then (if pc < 8 then (if pc = 5 then some (.invokestatic 35, [110, 3, 2, 8], 1) else none) else (if pc = 8 then some (.ifCond .eq 33, [41], 0) else none)) else (if pc < 12 then (if pc = 11 then some (.iload_n 2, [2, 1], 0) else none) else (if pc = 12 then some (.iconst 0, [1], 0) else none)))) else (if pc < 23 then (if pc < 19 then (if pc < 16 then (if pc = 13 then some (.sipush 1000, [3], 1000) else none) else (if pc = 16 then some (.invokestatic 35, [110, 3, 2, 8], 1) else none)) else (if pc < 22 then (if pc = 19 then some (.ifCond .eq 22, [41], 0) else none) else (if pc = 22 then some (.iload_n 3, [3, 1], 0) else none))) else (if pc < 25 then (if pc < 24 then (if pc = 23 then some (.iconst 1, [1], 1) else none) else (if pc = 24 then some (.iload_n 1, [1, 1], 0) else none)) else (if pc < 28 then (if pc = 25 then some (.invokestatic 35, [110, 3, 2, 8], 1) else none) else (if pc = 28 then some (.ifCond .eq 13, [41], 0) else none))))) else (if pc < 43 then (if pc < 35 then (if pc < 33 then (if pc = 31 then some (.iload 4, [4, 2], 0) else none) else (if pc < 34 then (if pc = 33 then some (.iconst 0, [1], 0) else none) else (if pc = 34 then some (.iconst 2, [1], 2) else none))) else (if pc < 41 then (if pc < 38 then (if pc = 35 then some (.invokestatic 35, [110, 3, 2, 8], 1) else none) else (if pc = 38 then some (.ifCond .ne 5, [43], 0) else none)) else (if pc < 42 then (if pc = 41 then some (.iconst (-1), [1], (-1)) else none) else (if pc = 42 then some (.ireturn, [], 0) else none)))) else (if pc < 49 then (if pc < 47 then (if pc < 44 then (if pc = 43 then some (.aload_n 0, [0, 1], 0) else none) else (if pc = 44 then some (.getfield 21, [8, 1, 2, 1], 0) else none)) else (if pc < 48 then (if pc = 47 then some (.iload_n 1, [1, 1], 0) else none) else (if pc = 48 then some (.iload_n 2, [2, 1], 0) else none))) else (if pc < 52 then (if pc < 50 then (if pc = 49 then some (.iload_n 3, [3, 1], 0) else none) else (if pc = 50 then some (.iload 4, [4, 2], 0) else none)) else (if pc < 55 then (if pc = 52 then some (.invokevirtual 39, [43, 4, 1, 6], 0) else none) else (if pc = 55 then some (.ireturn, [], 0) else none)))))
def cd_X8_setLoss (pc : Nat) : Option me_T := if pc < 22 then (if pc < 10 then (if pc < 5 then (if pc < 1 then (if pc = 0 then some (.aload_n 0, [0, 1], 0) else none) else (if pc < 2 then (if pc = 1 then some (.iload_n 1, [1, 1], 0) else none) else (if pc = 2 then some (.invokevirtual 43, [109, 1, 2, 8], 0) else none))) else (if pc < 8 then (if pc = 5 then some (.ifCond .eq 14, [19], 0) else none) else (if pc < 9 then (if pc = 8 then some (.iload_n 2, [2, 1], 0) else none) else (if pc = 9 then some (.iconst 0, [1], 0) else none)))) else (if pc < 19 then (if pc < 13 then (if pc = 10 then some (.sipush 1000, [3], 1000) else none) else (if pc < 16 then (if pc = 13 then some (.invokestatic 35, [110, 3, 2, 8], 1) else none) else (if pc = 16 then some (.ifCond .ne 5, [21], 0) else none))) else (if pc < 20 then (if pc = 19 then some (.iconst (-1), [1], (-1)) else none) else (if pc < 21 then (if pc = 20 then some (.ireturn, [], 0) else none) else (if pc = 21 then some (.aload_n 0, [0, 1], 0) else none))))) else (if pc < 32 then (if pc < 29 then (if pc < 25 then (if pc = 22 then some (.getfield 21, [8, 1, 2, 1], 0) else none) else (if pc < 28 then (if pc = 25 then some (.getfield 47, [6, 1, 2, 1], 0) else none) else (if pc = 28 then some (.iload_n 1, [1, 1], 0) else none))) else (if pc < 30 then (if pc = 29 then some (.aaload, [], 0) else none) else (if pc < 31 then (if pc = 30 then some (.astore_n 3, [3, 1], 0) else none) else (if pc = 31 then some (.aload_n 3, [3, 1], 0) else none)))) else (if pc < 38 then (if pc < 35 then (if pc = 32 then some (.getfield 51, [7, 5, 0, 0], 0) else none) else (if pc < 37 then (if pc = 35 then some (.istore 4, [4, 2], 0) else none) else (if pc = 37 then some (.aload_n 3, [3, 1], 0) else none))) else (if pc < 42 then (if pc < 39 then (if pc = 38 then some (.iload_n 2, [2, 1], 0) else none) else (if pc = 39 then some (.putfield 51, [7, 5, 0, 0], 0) else none)) else (if pc < 44 then (if pc = 42 then some (.iload 4, [4, 2], 0) else none) else (if pc = 44 then some (.ireturn, [], 0) else none)))))
def cd_X8_inView (pc : Nat) : Option me_T := if pc < 20 then (if pc < 9 then (if pc < 2 then (if pc < 1 then (if pc = 0 then some (.aload_n 0, [0, 1], 0) else none) else (if pc = 1 then some (.iload_n 1, [1, 1], 0) else none)) else (if pc < 5 then (if pc = 2 then some (.invokevirtual 43, [109, 1, 2, 8], 0) else none) else (if pc < 8 then (if pc = 5 then some (.ifCond .eq 13, [18], 0) else none) else (if pc = 8 then some (.iload_n 2, [2, 1], 0) else none)))) else (if pc < 15 then (if pc < 10 then (if pc = 9 then some (.iconst 0, [1], 0) else none) else (if pc < 12 then (if pc = 10 then some (.ldc 57, [], 1000000) else none) else (if pc = 12 then some (.invokestatic 35, [110, 3, 2, 8], 1) else none))) else (if pc < 18 then (if pc = 15 then some (.ifCond .ne 5, [20], 0) else none) else (if pc < 19 then (if pc = 18 then some (.iconst (-1), [1], (-1)) else none) else (if pc = 19 then some (.ireturn, [], 0) else none))))) else (if pc < 30 then (if pc < 27 then (if pc < 21 then (if pc = 20 then some (.aload_n 0, [0, 1], 0) else none) else (if pc < 24 then (if pc = 21 then some (.getfield 21, [8, 1, 2, 1], 0) else none) else (if pc = 24 then some (.getfield 47, [6, 1, 2, 1], 0) else none))) else (if pc < 28 then (if pc = 27 then some (.iload_n 1, [1, 1], 0) else none) else (if pc < 29 then (if pc = 28 then some (.aaload, [], 0) else none) else (if pc = 29 then some (.iload_n 2, [2, 1], 0) else none)))) else (if pc < 37 then (if pc < 33 then (if pc = 30 then some (.invokevirtual 58, [59, 1, 2, 7], 0) else none) else (if pc < 36 then (if pc = 33 then some (.ifCond .eq 7, [40], 0) else none) else (if pc = 36 then some (.iconst 1, [1], 1) else none))) else (if pc < 40 then (if pc = 37 then some (.goto 4, [41], 0) else none) else (if pc < 41 then (if pc = 40 then some (.iconst 0, [1], 0) else none) else (if pc = 41 then some (.ireturn, [], 0) else none)))))
def cd_X8_nextView (pc : Nat) : Option me_T := if pc < 18 then (if pc < 8 then (if pc < 2 then (if pc < 1 then (if pc = 0 then some (.aload_n 0, [0, 1], 0) else none) else (if pc = 1 then some (.iload_n 1, [1, 1], 0) else none)) else (if pc < 5 then (if pc = 2 then some (.invokevirtual 43, [109, 1, 2, 8], 0) else none) else (if pc = 5 then some (.ifCond .eq 13, [18], 0) else none))) else (if pc < 10 then (if pc < 9 then (if pc = 8 then some (.iload_n 2, [2, 1], 0) else none) else (if pc = 9 then some (.iconst 0, [1], 0) else none)) else (if pc < 12 then (if pc = 10 then some (.ldc 57, [], 1000000) else none) else (if pc < 15 then (if pc = 12 then some (.invokestatic 35, [110, 3, 2, 8], 1) else none) else (if pc = 15 then some (.ifCond .ne 5, [20], 0) else none))))) else (if pc < 27 then (if pc < 20 then (if pc < 19 then (if pc = 18 then some (.iconst (-1), [1], (-1)) else none) else (if pc = 19 then some (.ireturn, [], 0) else none)) else (if pc < 21 then (if pc = 20 then some (.aload_n 0, [0, 1], 0) else none) else (if pc < 24 then (if pc = 21 then some (.getfield 21, [8, 1, 2, 1], 0) else none) else (if pc = 24 then some (.getfield 47, [6, 1, 2, 1], 0) else none)))) else (if pc < 29 then (if pc < 28 then (if pc = 27 then some (.iload_n 1, [1, 1], 0) else none) else (if pc = 28 then some (.aaload, [], 0) else none)) else (if pc < 30 then (if pc = 29 then some (.iload_n 2, [2, 1], 0) else none) else (if pc < 33 then (if pc = 30 then some (.invokevirtual 61, [60, 1, 1, 7], 0) else none) else (if pc = 33 then some (.ireturn, [], 0) else none)))))
def cd_X8_receives (pc : Nat) : Option me_T := if pc < 27 then (if pc < 12 then (if pc < 5 then (if pc < 1 then (if pc = 0 then some (.aload_n 0, [0, 1], 0) else none) else (if pc < 2 then (if pc = 1 then some (.iload_n 1, [1, 1], 0) else none) else (if pc = 2 then some (.invokevirtual 43, [109, 1, 2, 8], 0) else none))) else (if pc < 9 then (if pc < 8 then (if pc = 5 then some (.ifCond .eq 13, [18], 0) else none) else (if pc = 8 then some (.iload_n 2, [2, 1], 0) else none)) else (if pc < 10 then (if pc = 9 then some (.iconst 0, [1], 0) else none) else (if pc = 10 then some (.ldc 57, [], 1000000) else none)))) else (if pc < 19 then (if pc < 15 then (if pc = 12 then some (.invokestatic 35, [110, 3, 2, 8], 1) else none) else (if pc < 18 then (if pc = 15 then some (.ifCond .ne 5, [20], 0) else none) else (if pc = 18 then some (.iconst (-1), [1], (-1)) else none))) else (if pc < 21 then (if pc < 20 then (if pc = 19 then some (.ireturn, [], 0) else none) else (if pc = 20 then some (.aload_n 0, [0, 1], 0) else none)) else (if pc < 24 then (if pc = 21 then some (.getfield 21, [8, 1, 2, 1], 0) else none) else (if pc = 24 then some (.getfield 47, [6, 1, 2, 1], 0) else none))))) else (if pc < 38 then (if pc < 30 then (if pc < 28 then (if pc = 27 then some (.iload_n 1, [1, 1], 0) else none) else (if pc < 29 then (if pc = 28 then some (.aaload, [], 0) else none) else (if pc = 29 then some (.astore_n 3, [3, 1], 0) else none))) else (if pc < 32 then (if pc < 31 then (if pc = 30 then some (.aload_n 3, [3, 1], 0) else none) else (if pc = 31 then some (.iload_n 2, [2, 1], 0) else none)) else (if pc < 35 then (if pc = 32 then some (.invokevirtual 58, [59, 1, 2, 7], 0) else none) else (if pc = 35 then some (.ifCond .eq 15, [50], 0) else none)))) else (if pc < 46 then (if pc < 40 then (if pc < 39 then (if pc = 38 then some (.aload_n 3, [3, 1], 0) else none) else (if pc = 39 then some (.iload_n 2, [2, 1], 0) else none)) else (if pc < 43 then (if pc = 40 then some (.invokevirtual 65, [61, 1, 2, 7], 0) else none) else (if pc = 43 then some (.ifCond .ne 7, [50], 0) else none))) else (if pc < 50 then (if pc < 47 then (if pc = 46 then some (.iconst 1, [1], 1) else none) else (if pc = 47 then some (.goto 4, [51], 0) else none)) else (if pc < 51 then (if pc = 50 then some (.iconst 0, [1], 0) else none) else (if pc = 51 then some (.ireturn, [], 0) else none)))))
def cd_X8_store (pc : Nat) : Option me_T := if pc < 44 then (if pc < 23 then (if pc < 11 then (if pc < 2 then (if pc < 1 then (if pc = 0 then some (.iload_n 1, [1, 1], 0) else none) else (if pc = 1 then some (.iconst 1, [1], 1) else none)) else (if pc < 5 then (if pc = 2 then some (.sipush 320, [3], 320) else none) else (if pc < 8 then (if pc = 5 then some (.invokestatic 35, [110, 3, 2, 8], 1) else none) else (if pc = 8 then some (.ifCond .eq 24, [32], 0) else none)))) else (if pc < 16 then (if pc < 12 then (if pc = 11 then some (.iload_n 2, [2, 1], 0) else none) else (if pc < 13 then (if pc = 12 then some (.iconst 0, [1], 0) else none) else (if pc = 13 then some (.sipush 255, [3], 255) else none))) else (if pc < 19 then (if pc = 16 then some (.invokestatic 35, [110, 3, 2, 8], 1) else none) else (if pc < 22 then (if pc = 19 then some (.ifCond .eq 13, [32], 0) else none) else (if pc = 22 then some (.iload_n 3, [3, 1], 0) else none))))) else (if pc < 33 then (if pc < 26 then (if pc < 24 then (if pc = 23 then some (.iconst 1, [1], 1) else none) else (if pc = 24 then some (.ldc 68, [], 100000) else none)) else (if pc < 29 then (if pc = 26 then some (.invokestatic 35, [110, 3, 2, 8], 1) else none) else (if pc < 32 then (if pc = 29 then some (.ifCond .ne 5, [34], 0) else none) else (if pc = 32 then some (.iconst (-1), [1], (-1)) else none)))) else (if pc < 38 then (if pc < 34 then (if pc = 33 then some (.ireturn, [], 0) else none) else (if pc < 35 then (if pc = 34 then some (.aload_n 0, [0, 1], 0) else none) else (if pc = 35 then some (.getfield 21, [8, 1, 2, 1], 0) else none))) else (if pc < 41 then (if pc = 38 then some (.getfield 69, [6, 6, 0, 0], 0) else none) else (if pc < 43 then (if pc = 41 then some (.istore 4, [4, 2], 0) else none) else (if pc = 43 then some (.aload_n 0, [0, 1], 0) else none)))))) else (if pc < 69 then (if pc < 57 then (if pc < 49 then (if pc < 47 then (if pc = 44 then some (.getfield 10, [8, 0, 2, 1], 0) else none) else (if pc = 47 then some (.iload 4, [4, 2], 0) else none)) else (if pc < 52 then (if pc = 49 then some (.invokevirtual 72, [3, 1, 2, 0], 0) else none) else (if pc < 55 then (if pc = 52 then some (.ifCond .eq 6, [58], 0) else none) else (if pc = 55 then some (.bipush (-2), [2], (-2)) else none)))) else (if pc < 62 then (if pc < 58 then (if pc = 57 then some (.ireturn, [], 0) else none) else (if pc < 59 then (if pc = 58 then some (.aload_n 0, [0, 1], 0) else none) else (if pc = 59 then some (.getfield 10, [8, 0, 2, 1], 0) else none))) else (if pc < 64 then (if pc = 62 then some (.iload 4, [4, 2], 0) else none) else (if pc < 67 then (if pc = 64 then some (.invokevirtual 75, [4, 1, 1, 0], 0) else none) else (if pc = 67 then some (.bipush 8, [2], 8) else none))))) else (if pc < 79 then (if pc < 74 then (if pc < 72 then (if pc = 69 then some (.if_icmp .lt 6, [75], 0) else none) else (if pc = 72 then some (.bipush (-3), [2], (-3)) else none)) else (if pc < 75 then (if pc = 74 then some (.ireturn, [], 0) else none) else (if pc < 76 then (if pc = 75 then some (.aload_n 0, [0, 1], 0) else none) else (if pc = 76 then some (.getfield 10, [8, 0, 2, 1], 0) else none)))) else (if pc < 82 then (if pc < 80 then (if pc = 79 then some (.iload_n 1, [1, 1], 0) else none) else (if pc < 81 then (if pc = 80 then some (.iload_n 2, [2, 1], 0) else none) else (if pc = 81 then some (.iload_n 3, [3, 1], 0) else none))) else (if pc < 84 then (if pc = 82 then some (.iload 4, [4, 2], 0) else none) else (if pc < 87 then (if pc = 84 then some (.invokevirtual 78, [5, 4, 1, 0], 0) else none) else (if pc = 87 then some (.ireturn, [], 0) else none))))))
def cd_X8_fileInfo (pc : Nat) : Option me_T := if pc < 62 then (if pc < 21 then (if pc < 11 then (if pc < 4 then (if pc < 1 then (if pc = 0 then some (.aload_n 0, [0, 1], 0) else none) else (if pc = 1 then some (.getfield 10, [8, 0, 2, 1], 0) else none)) else (if pc < 5 then (if pc = 4 then some (.iload_n 1, [1, 1], 0) else none) else (if pc < 8 then (if pc = 5 then some (.invokevirtual 81, [1, 1, 2, 0], 0) else none) else (if pc = 8 then some (.ifCond .eq 12, [20], 0) else none)))) else (if pc < 14 then (if pc < 12 then (if pc = 11 then some (.iload_n 2, [2, 1], 0) else none) else (if pc < 13 then (if pc = 12 then some (.iconst 0, [1], 0) else none) else (if pc = 13 then some (.iconst 3, [1], 3) else none))) else (if pc < 17 then (if pc = 14 then some (.invokestatic 35, [110, 3, 2, 8], 1) else none) else (if pc < 20 then (if pc = 17 then some (.ifCond .ne 5, [22], 0) else none) else (if pc = 20 then some (.iconst (-1), [1], (-1)) else none))))) else (if pc < 52 then (if pc < 23 then (if pc < 22 then (if pc = 21 then some (.ireturn, [], 0) else none) else (if pc = 22 then some (.iload_n 2, [2, 1], 0) else none)) else (if pc < 48 then (if pc = 23 then some (.tableswitch 55 0 2 #[25, 35, 45], [78, 48, 58, 68], 0) else none) else (if pc < 49 then (if pc = 48 then some (.aload_n 0, [0, 1], 0) else none) else (if pc = 49 then some (.getfield 10, [8, 0, 2, 1], 0) else none)))) else (if pc < 57 then (if pc < 55 then (if pc = 52 then some (.getfield 84, [0, 0, 2, 1], 0) else none) else (if pc < 56 then (if pc = 55 then some (.iload_n 1, [1, 1], 0) else none) else (if pc = 56 then some (.iaload, [50], 0) else none))) else (if pc < 58 then (if pc = 57 then some (.ireturn, [], 0) else none) else (if pc < 59 then (if pc = 58 then some (.aload_n 0, [0, 1], 0) else none) else (if pc = 59 then some (.getfield 10, [8, 0, 2, 1], 0) else none)))))) else (if pc < 79 then (if pc < 69 then (if pc < 66 then (if pc < 65 then (if pc = 62 then some (.getfield 88, [0, 3, 2, 1], 0) else none) else (if pc = 65 then some (.iload_n 1, [1, 1], 0) else none)) else (if pc < 67 then (if pc = 66 then some (.iaload, [50], 0) else none) else (if pc < 68 then (if pc = 67 then some (.ireturn, [], 0) else none) else (if pc = 68 then some (.aload_n 0, [0, 1], 0) else none)))) else (if pc < 76 then (if pc < 72 then (if pc = 69 then some (.getfield 10, [8, 0, 2, 1], 0) else none) else (if pc < 75 then (if pc = 72 then some (.getfield 91, [0, 2, 2, 1], 0) else none) else (if pc = 75 then some (.iload_n 1, [1, 1], 0) else none))) else (if pc < 77 then (if pc = 76 then some (.iaload, [50], 0) else none) else (if pc < 78 then (if pc = 77 then some (.ireturn, [], 0) else none) else (if pc = 78 then some (.aload_n 0, [0, 1], 0) else none))))) else (if pc < 90 then (if pc < 83 then (if pc < 82 then (if pc = 79 then some (.getfield 10, [8, 0, 2, 1], 0) else none) else (if pc = 82 then some (.iload_n 1, [1, 1], 0) else none)) else (if pc < 84 then (if pc = 83 then some (.aload_n 0, [0, 1], 0) else none) else (if pc < 87 then (if pc = 84 then some (.getfield 21, [8, 1, 2, 1], 0) else none) else (if pc = 87 then some (.getfield 69, [6, 6, 0, 0], 0) else none)))) else (if pc < 97 then (if pc < 93 then (if pc = 90 then some (.invokevirtual 94, [2, 2, 2, 0], 0) else none) else (if pc < 96 then (if pc = 93 then some (.ifCond .eq 7, [100], 0) else none) else (if pc = 96 then some (.iconst 1, [1], 1) else none))) else (if pc < 100 then (if pc = 97 then some (.goto 4, [101], 0) else none) else (if pc < 101 then (if pc = 100 then some (.iconst 0, [1], 0) else none) else (if pc = 101 then some (.ireturn, [], 0) else none))))))
def cd_X8_fileByte (pc : Nat) : Option me_T := if pc < 22 then (if pc < 12 then (if pc < 5 then (if pc < 1 then (if pc = 0 then some (.aload_n 0, [0, 1], 0) else none) else (if pc < 4 then (if pc = 1 then some (.getfield 10, [8, 0, 2, 1], 0) else none) else (if pc = 4 then some (.iload_n 1, [1, 1], 0) else none))) else (if pc < 8 then (if pc = 5 then some (.invokevirtual 81, [1, 1, 2, 0], 0) else none) else (if pc < 11 then (if pc = 8 then some (.ifCond .eq 7, [15], 0) else none) else (if pc = 11 then some (.iload_n 2, [2, 1], 0) else none)))) else (if pc < 17 then (if pc < 15 then (if pc = 12 then some (.ifCond .ge 5, [17], 0) else none) else (if pc < 16 then (if pc = 15 then some (.iconst (-1), [1], (-1)) else none) else (if pc = 16 then some (.ireturn, [], 0) else none))) else (if pc < 18 then (if pc = 17 then some (.iload_n 2, [2, 1], 0) else none) else (if pc < 19 then (if pc = 18 then some (.aload_n 0, [0, 1], 0) else none) else (if pc = 19 then some (.getfield 10, [8, 0, 2, 1], 0) else none))))) else (if pc < 33 then (if pc < 27 then (if pc < 25 then (if pc = 22 then some (.getfield 84, [0, 0, 2, 1], 0) else none) else (if pc < 26 then (if pc = 25 then some (.iload_n 1, [1, 1], 0) else none) else (if pc = 26 then some (.iaload, [50], 0) else none))) else (if pc < 30 then (if pc = 27 then some (.if_icmp .lt 6, [33], 0) else none) else (if pc < 32 then (if pc = 30 then some (.bipush (-4), [2], (-4)) else none) else (if pc = 32 then some (.ireturn, [], 0) else none)))) else (if pc < 38 then (if pc < 34 then (if pc = 33 then some (.aload_n 0, [0, 1], 0) else none) else (if pc < 37 then (if pc = 34 then some (.getfield 10, [8, 0, 2, 1], 0) else none) else (if pc = 37 then some (.iload_n 1, [1, 1], 0) else none))) else (if pc < 39 then (if pc = 38 then some (.iload_n 2, [2, 1], 0) else none) else (if pc < 42 then (if pc = 39 then some (.invokevirtual 98, [6, 2, 1, 0], 0) else none) else (if pc = 42 then some (.ireturn, [], 0) else none)))))
def cd_X8_fileCount (pc : Nat) : Option me_T := if pc < 4 then (if pc < 1 then (if pc = 0 then some (.aload_n 0, [0, 1], 0) else none) else (if pc = 1 then some (.getfield 10, [8, 0, 2, 1], 0) else none)) else (if pc < 7 then (if pc = 4 then some (.getfield 102, [0, 4, 0, 0], 0) else none) else (if pc = 7 then some (.ireturn, [], 0) else none))
def cd_X8_existingCount (pc : Nat) : Option me_T := if pc < 5 then (if pc < 1 then (if pc = 0 then some (.aload_n 0, [0, 1], 0) else none) else (if pc < 4 then (if pc = 1 then some (.getfield 10, [8, 0, 2, 1], 0) else none) else (if pc = 4 then some (.aload_n 0, [0, 1], 0) else none))) else (if pc < 11 then (if pc < 8 then (if pc = 5 then some (.getfield 21, [8, 1, 2, 1], 0) else none) else (if pc = 8 then some (.getfield 69, [6, 6, 0, 0], 0) else none)) else (if pc < 14 then (if pc = 11 then some (.invokevirtual 75, [4, 1, 1, 0], 0) else none) else (if pc = 14 then some (.ireturn, [], 0) else none)))
def cd_X8_directory (pc : Nat) : Option me_T := if pc < 10 then (if pc < 5 then (if pc < 1 then (if pc = 0 then some (.aload_n 0, [0, 1], 0) else none) else (if pc < 2 then (if pc = 1 then some (.iload_n 1, [1, 1], 0) else none) else (if pc = 2 then some (.invokevirtual 43, [109, 1, 2, 8], 0) else none))) else (if pc < 8 then (if pc = 5 then some (.ifCond .ne 5, [10], 0) else none) else (if pc < 9 then (if pc = 8 then some (.iconst (-1), [1], (-1)) else none) else (if pc = 9 then some (.ireturn, [], 0) else none)))) else (if pc < 17 then (if pc < 11 then (if pc = 10 then some (.aload_n 0, [0, 1], 0) else none) else (if pc < 14 then (if pc = 11 then some (.getfield 21, [8, 1, 2, 1], 0) else none) else (if pc = 14 then some (.getfield 47, [6, 1, 2, 1], 0) else none))) else (if pc < 19 then (if pc < 18 then (if pc = 17 then some (.iload_n 1, [1, 1], 0) else none) else (if pc = 18 then some (.aaload, [], 0) else none)) else (if pc < 22 then (if pc = 19 then some (.getfield 105, [7, 6, 0, 0], 0) else none) else (if pc = 22 then some (.ireturn, [], 0) else none))))
def cd_X8_unknownFiles (pc : Nat) : Option me_T := if pc < 31 then (if pc < 17 then (if pc < 8 then (if pc < 2 then (if pc < 1 then (if pc = 0 then some (.aload_n 0, [0, 1], 0) else none) else (if pc = 1 then some (.iload_n 1, [1, 1], 0) else none)) else (if pc < 5 then (if pc = 2 then some (.invokevirtual 43, [109, 1, 2, 8], 0) else none) else (if pc = 5 then some (.ifCond .ne 5, [10], 0) else none))) else (if pc < 10 then (if pc < 9 then (if pc = 8 then some (.iconst (-1), [1], (-1)) else none) else (if pc = 9 then some (.ireturn, [], 0) else none)) else (if pc < 11 then (if pc = 10 then some (.aload_n 0, [0, 1], 0) else none) else (if pc < 14 then (if pc = 11 then some (.getfield 21, [8, 1, 2, 1], 0) else none) else (if pc = 14 then some (.getfield 47, [6, 1, 2, 1], 0) else none))))) else (if pc < 22 then (if pc < 19 then (if pc < 18 then (if pc = 17 then some (.iload_n 1, [1, 1], 0) else none) else (if pc = 18 then some (.aaload, [], 0) else none)) else (if pc < 20 then (if pc = 19 then some (.astore_n 2, [2, 1], 0) else none) else (if pc < 21 then (if pc = 20 then some (.iconst 0, [1], 0) else none) else (if pc = 21 then some (.istore_n 3, [3, 1], 0) else none)))) else (if pc < 25 then (if pc < 23 then (if pc = 22 then some (.iconst 0, [1], 0) else none) else (if pc = 23 then some (.istore 4, [4, 2], 0) else none)) else (if pc < 27 then (if pc = 25 then some (.iload 4, [4, 2], 0) else none) else (if pc < 28 then (if pc = 27 then some (.aload_n 0, [0, 1], 0) else none) else (if pc = 28 then some (.getfield 10, [8, 0, 2, 1], 0) else none)))))) else (if pc < 53 then (if pc < 41 then (if pc < 37 then (if pc < 34 then (if pc = 31 then some (.getfield 102, [0, 4, 0, 0], 0) else none) else (if pc = 34 then some (.if_icmp .ge 40, [74], 0) else none)) else (if pc < 38 then (if pc = 37 then some (.aload_n 0, [0, 1], 0) else none) else (if pc = 38 then some (.getfield 10, [8, 0, 2, 1], 0) else none))) else (if pc < 44 then (if pc < 43 then (if pc = 41 then some (.iload 4, [4, 2], 0) else none) else (if pc = 43 then some (.aload_n 0, [0, 1], 0) else none)) else (if pc < 47 then (if pc = 44 then some (.getfield 21, [8, 1, 2, 1], 0) else none) else (if pc < 50 then (if pc = 47 then some (.getfield 69, [6, 6, 0, 0], 0) else none) else (if pc = 50 then some (.invokevirtual 94, [2, 2, 2, 0], 0) else none))))) else (if pc < 65 then (if pc < 57 then (if pc < 56 then (if pc = 53 then some (.ifCond .eq 15, [68], 0) else none) else (if pc = 56 then some (.aload_n 2, [2, 1], 0) else none)) else (if pc < 59 then (if pc = 57 then some (.iload 4, [4, 2], 0) else none) else (if pc < 62 then (if pc = 59 then some (.invokevirtual 108, [62, 1, 2, 7], 0) else none) else (if pc = 62 then some (.ifCond .ne 6, [68], 0) else none)))) else (if pc < 71 then (if pc < 68 then (if pc = 65 then some (.iinc 3 1, [3], 1) else none) else (if pc = 68 then some (.iinc 4 1, [4], 1) else none)) else (if pc < 74 then (if pc = 71 then some (.goto (-46), [25], 0) else none) else (if pc < 75 then (if pc = 74 then some (.iload_n 3, [3, 1], 0) else none) else (if pc = 75 then some (.ireturn, [], 0) else none))))))
-- heads of loops: [25]
def cd_X8_covered (pc : Nat) : Option me_T := if pc < 15 then (if pc < 8 then (if pc < 2 then (if pc < 1 then (if pc = 0 then some (.aload_n 0, [0, 1], 0) else none) else (if pc = 1 then some (.iload_n 1, [1, 1], 0) else none)) else (if pc < 5 then (if pc = 2 then some (.invokevirtual 43, [109, 1, 2, 8], 0) else none) else (if pc = 5 then some (.ifCond .eq 8, [13], 0) else none))) else (if pc < 10 then (if pc < 9 then (if pc = 8 then some (.iload_n 2, [2, 1], 0) else none) else (if pc = 9 then some (.iconst (-1), [1], (-1)) else none)) else (if pc < 13 then (if pc = 10 then some (.if_icmp .ge 5, [15], 0) else none) else (if pc < 14 then (if pc = 13 then some (.iconst (-1), [1], (-1)) else none) else (if pc = 14 then some (.ireturn, [], 0) else none))))) else (if pc < 23 then (if pc < 19 then (if pc < 16 then (if pc = 15 then some (.aload_n 0, [0, 1], 0) else none) else (if pc = 16 then some (.getfield 21, [8, 1, 2, 1], 0) else none)) else (if pc < 22 then (if pc = 19 then some (.getfield 47, [6, 1, 2, 1], 0) else none) else (if pc = 22 then some (.iload_n 1, [1, 1], 0) else none))) else (if pc < 27 then (if pc < 24 then (if pc = 23 then some (.aaload, [], 0) else none) else (if pc = 24 then some (.getfield 111, [7, 7, 2, 1], 0) else none)) else (if pc < 28 then (if pc = 27 then some (.iload_n 2, [2, 1], 0) else none) else (if pc < 31 then (if pc = 28 then some (.invokevirtual 115, [18, 1, 1, 2], 0) else none) else (if pc = 31 then some (.ireturn, [], 0) else none)))))
def cd_X8_timeHole (pc : Nat) : Option me_T := if pc < 16 then (if pc < 9 then (if pc < 2 then (if pc < 1 then (if pc = 0 then some (.aload_n 0, [0, 1], 0) else none) else (if pc = 1 then some (.iload_n 1, [1, 1], 0) else none)) else (if pc < 5 then (if pc = 2 then some (.invokevirtual 43, [109, 1, 2, 8], 0) else none) else (if pc < 8 then (if pc = 5 then some (.ifCond .eq 8, [13], 0) else none) else (if pc = 8 then some (.iload_n 2, [2, 1], 0) else none)))) else (if pc < 13 then (if pc < 10 then (if pc = 9 then some (.iconst (-1), [1], (-1)) else none) else (if pc = 10 then some (.if_icmp .ge 5, [15], 0) else none)) else (if pc < 14 then (if pc = 13 then some (.iconst (-1), [1], (-1)) else none) else (if pc < 15 then (if pc = 14 then some (.ireturn, [], 0) else none) else (if pc = 15 then some (.aload_n 0, [0, 1], 0) else none))))) else (if pc < 27 then (if pc < 22 then (if pc < 19 then (if pc = 16 then some (.getfield 21, [8, 1, 2, 1], 0) else none) else (if pc = 19 then some (.getfield 47, [6, 1, 2, 1], 0) else none)) else (if pc < 23 then (if pc = 22 then some (.iload_n 1, [1, 1], 0) else none) else (if pc < 24 then (if pc = 23 then some (.aaload, [], 0) else none) else (if pc = 24 then some (.getfield 111, [7, 7, 2, 1], 0) else none)))) else (if pc < 34 then (if pc < 28 then (if pc = 27 then some (.aload_n 0, [0, 1], 0) else none) else (if pc < 31 then (if pc = 28 then some (.getfield 21, [8, 1, 2, 1], 0) else none) else (if pc = 31 then some (.getfield 69, [6, 6, 0, 0], 0) else none))) else (if pc < 35 then (if pc = 34 then some (.iload_n 2, [2, 1], 0) else none) else (if pc < 38 then (if pc = 35 then some (.invokevirtual 120, [19, 2, 1, 2], 0) else none) else (if pc = 38 then some (.ireturn, [], 0) else none)))))
def cd_X8_open (pc : Nat) : Option me_T := if pc < 32 then (if pc < 19 then (if pc < 8 then (if pc < 2 then (if pc < 1 then (if pc = 0 then some (.aload_n 0, [0, 1], 0) else none) else (if pc = 1 then some (.iload_n 1, [1, 1], 0) else none)) else (if pc < 5 then (if pc = 2 then some (.invokevirtual 43, [109, 1, 2, 8], 0) else none) else (if pc = 5 then some (.ifCond .eq 14, [19], 0) else none))) else (if pc < 12 then (if pc < 9 then (if pc = 8 then some (.aload_n 0, [0, 1], 0) else none) else (if pc = 9 then some (.getfield 10, [8, 0, 2, 1], 0) else none)) else (if pc < 13 then (if pc = 12 then some (.iload_n 2, [2, 1], 0) else none) else (if pc < 16 then (if pc = 13 then some (.invokevirtual 81, [1, 1, 2, 0], 0) else none) else (if pc = 16 then some (.ifCond .ne 5, [21], 0) else none))))) else (if pc < 25 then (if pc < 21 then (if pc < 20 then (if pc = 19 then some (.iconst (-1), [1], (-1)) else none) else (if pc = 20 then some (.ireturn, [], 0) else none)) else (if pc < 22 then (if pc = 21 then some (.aload_n 0, [0, 1], 0) else none) else (if pc = 22 then some (.getfield 21, [8, 1, 2, 1], 0) else none))) else (if pc < 29 then (if pc < 28 then (if pc = 25 then some (.getfield 47, [6, 1, 2, 1], 0) else none) else (if pc = 28 then some (.iload_n 1, [1, 1], 0) else none)) else (if pc < 30 then (if pc = 29 then some (.aaload, [], 0) else none) else (if pc < 31 then (if pc = 30 then some (.astore_n 3, [3, 1], 0) else none) else (if pc = 31 then some (.aload_n 3, [3, 1], 0) else none)))))) else (if pc < 50 then (if pc < 40 then (if pc < 36 then (if pc < 33 then (if pc = 32 then some (.iload_n 2, [2, 1], 0) else none) else (if pc = 33 then some (.invokevirtual 108, [62, 1, 2, 7], 0) else none)) else (if pc < 39 then (if pc = 36 then some (.ifCond .eq 11, [47], 0) else none) else (if pc = 39 then some (.aload_n 3, [3, 1], 0) else none))) else (if pc < 44 then (if pc < 41 then (if pc = 40 then some (.iload_n 2, [2, 1], 0) else none) else (if pc = 41 then some (.invokevirtual 123, [64, 1, 3, 7], 0) else none)) else (if pc < 47 then (if pc = 44 then some (.ifnull 6, [50], 0) else none) else (if pc < 49 then (if pc = 47 then some (.bipush (-2), [2], (-2)) else none) else (if pc = 49 then some (.ireturn, [], 0) else none))))) else (if pc < 58 then (if pc < 52 then (if pc < 51 then (if pc = 50 then some (.aload_n 3, [3, 1], 0) else none) else (if pc = 51 then some (.iload_n 2, [2, 1], 0) else none)) else (if pc < 55 then (if pc = 52 then some (.invokevirtual 127, [65, 1, 2, 7], 0) else none) else (if pc = 55 then some (.ifCond .ne 6, [61], 0) else none))) else (if pc < 61 then (if pc < 60 then (if pc = 58 then some (.bipush (-3), [2], (-3)) else none) else (if pc = 60 then some (.ireturn, [], 0) else none)) else (if pc < 62 then (if pc = 61 then some (.aload_n 3, [3, 1], 0) else none) else (if pc < 65 then (if pc = 62 then some (.invokevirtual 130, [63, 0, 1, 7], 0) else none) else (if pc = 65 then some (.ireturn, [], 0) else none))))))
def cd_X8_close (pc : Nat) : Option me_T := if pc < 29 then (if pc < 13 then (if pc < 5 then (if pc < 1 then (if pc = 0 then some (.aload_n 0, [0, 1], 0) else none) else (if pc < 2 then (if pc = 1 then some (.iload_n 1, [1, 1], 0) else none) else (if pc = 2 then some (.invokevirtual 43, [109, 1, 2, 8], 0) else none))) else (if pc < 9 then (if pc < 8 then (if pc = 5 then some (.ifCond .eq 14, [19], 0) else none) else (if pc = 8 then some (.aload_n 0, [0, 1], 0) else none)) else (if pc < 12 then (if pc = 9 then some (.getfield 10, [8, 0, 2, 1], 0) else none) else (if pc = 12 then some (.iload_n 2, [2, 1], 0) else none)))) else (if pc < 21 then (if pc < 19 then (if pc < 16 then (if pc = 13 then some (.invokevirtual 81, [1, 1, 2, 0], 0) else none) else (if pc = 16 then some (.ifCond .ne 5, [21], 0) else none)) else (if pc < 20 then (if pc = 19 then some (.iconst (-1), [1], (-1)) else none) else (if pc = 20 then some (.ireturn, [], 0) else none))) else (if pc < 25 then (if pc < 22 then (if pc = 21 then some (.aload_n 0, [0, 1], 0) else none) else (if pc = 22 then some (.getfield 21, [8, 1, 2, 1], 0) else none)) else (if pc < 28 then (if pc = 25 then some (.getfield 47, [6, 1, 2, 1], 0) else none) else (if pc = 28 then some (.iload_n 1, [1, 1], 0) else none))))) else (if pc < 43 then (if pc < 33 then (if pc < 31 then (if pc < 30 then (if pc = 29 then some (.aaload, [], 0) else none) else (if pc = 30 then some (.astore_n 3, [3, 1], 0) else none)) else (if pc < 32 then (if pc = 31 then some (.aload_n 3, [3, 1], 0) else none) else (if pc = 32 then some (.iload_n 2, [2, 1], 0) else none))) else (if pc < 38 then (if pc < 36 then (if pc = 33 then some (.invokevirtual 123, [64, 1, 3, 7], 0) else none) else (if pc = 36 then some (.astore 4, [4, 2], 0) else none)) else (if pc < 40 then (if pc = 38 then some (.aload 4, [4, 2], 0) else none) else (if pc = 40 then some (.ifnonnull 6, [46], 0) else none)))) else (if pc < 48 then (if pc < 46 then (if pc < 45 then (if pc = 43 then some (.bipush (-2), [2], (-2)) else none) else (if pc = 45 then some (.ireturn, [], 0) else none)) else (if pc < 47 then (if pc = 46 then some (.aload_n 3, [3, 1], 0) else none) else (if pc = 47 then some (.iload_n 2, [2, 1], 0) else none))) else (if pc < 53 then (if pc < 51 then (if pc = 48 then some (.invokevirtual 134, [66, 1, 0, 7], 0) else none) else (if pc = 51 then some (.aload 4, [4, 2], 0) else none)) else (if pc < 56 then (if pc = 53 then some (.invokevirtual 138, [14, 0, 1, 2], 0) else none) else (if pc = 56 then some (.ireturn, [], 0) else none)))))
def cd_X8_receivedBytes (pc : Nat) : Option me_T := if pc < 25 then (if pc < 12 then (if pc < 5 then (if pc < 1 then (if pc = 0 then some (.aload_n 0, [0, 1], 0) else none) else (if pc < 2 then (if pc = 1 then some (.iload_n 1, [1, 1], 0) else none) else (if pc = 2 then some (.invokevirtual 43, [109, 1, 2, 8], 0) else none))) else (if pc < 8 then (if pc = 5 then some (.ifCond .eq 14, [19], 0) else none) else (if pc < 9 then (if pc = 8 then some (.aload_n 0, [0, 1], 0) else none) else (if pc = 9 then some (.getfield 10, [8, 0, 2, 1], 0) else none)))) else (if pc < 19 then (if pc < 13 then (if pc = 12 then some (.iload_n 2, [2, 1], 0) else none) else (if pc < 16 then (if pc = 13 then some (.invokevirtual 81, [1, 1, 2, 0], 0) else none) else (if pc = 16 then some (.ifCond .ne 5, [21], 0) else none))) else (if pc < 21 then (if pc < 20 then (if pc = 19 then some (.iconst (-1), [1], (-1)) else none) else (if pc = 20 then some (.ireturn, [], 0) else none)) else (if pc < 22 then (if pc = 21 then some (.aload_n 0, [0, 1], 0) else none) else (if pc = 22 then some (.getfield 21, [8, 1, 2, 1], 0) else none))))) else (if pc < 35 then (if pc < 30 then (if pc < 28 then (if pc = 25 then some (.getfield 47, [6, 1, 2, 1], 0) else none) else (if pc < 29 then (if pc = 28 then some (.iload_n 1, [1, 1], 0) else none) else (if pc = 29 then some (.aaload, [], 0) else none))) else (if pc < 31 then (if pc = 30 then some (.iload_n 2, [2, 1], 0) else none) else (if pc < 34 then (if pc = 31 then some (.invokevirtual 123, [64, 1, 3, 7], 0) else none) else (if pc = 34 then some (.astore_n 3, [3, 1], 0) else none)))) else (if pc < 41 then (if pc < 36 then (if pc = 35 then some (.aload_n 3, [3, 1], 0) else none) else (if pc < 39 then (if pc = 36 then some (.ifnonnull 6, [42], 0) else none) else (if pc = 39 then some (.bipush (-2), [2], (-2)) else none))) else (if pc < 43 then (if pc < 42 then (if pc = 41 then some (.ireturn, [], 0) else none) else (if pc = 42 then some (.aload_n 3, [3, 1], 0) else none)) else (if pc < 46 then (if pc = 43 then some (.invokevirtual 138, [14, 0, 1, 2], 0) else none) else (if pc = 46 then some (.ireturn, [], 0) else none)))))
def cd_X8_receivedByte (pc : Nat) : Option me_T := if pc < 35 then (if pc < 19 then (if pc < 8 then (if pc < 2 then (if pc < 1 then (if pc = 0 then some (.aload_n 0, [0, 1], 0) else none) else (if pc = 1 then some (.iload_n 1, [1, 1], 0) else none)) else (if pc < 5 then (if pc = 2 then some (.invokevirtual 43, [109, 1, 2, 8], 0) else none) else (if pc = 5 then some (.ifCond .eq 18, [23], 0) else none))) else (if pc < 12 then (if pc < 9 then (if pc = 8 then some (.aload_n 0, [0, 1], 0) else none) else (if pc = 9 then some (.getfield 10, [8, 0, 2, 1], 0) else none)) else (if pc < 13 then (if pc = 12 then some (.iload_n 2, [2, 1], 0) else none) else (if pc < 16 then (if pc = 13 then some (.invokevirtual 81, [1, 1, 2, 0], 0) else none) else (if pc = 16 then some (.ifCond .eq 7, [23], 0) else none))))) else (if pc < 26 then (if pc < 23 then (if pc < 20 then (if pc = 19 then some (.iload_n 3, [3, 1], 0) else none) else (if pc = 20 then some (.ifCond .ge 5, [25], 0) else none)) else (if pc < 24 then (if pc = 23 then some (.iconst (-1), [1], (-1)) else none) else (if pc < 25 then (if pc = 24 then some (.ireturn, [], 0) else none) else (if pc = 25 then some (.aload_n 0, [0, 1], 0) else none)))) else (if pc < 32 then (if pc < 29 then (if pc = 26 then some (.getfield 21, [8, 1, 2, 1], 0) else none) else (if pc = 29 then some (.getfield 47, [6, 1, 2, 1], 0) else none)) else (if pc < 33 then (if pc = 32 then some (.iload_n 1, [1, 1], 0) else none) else (if pc < 34 then (if pc = 33 then some (.aaload, [], 0) else none) else (if pc = 34 then some (.iload_n 2, [2, 1], 0) else none)))))) else (if pc < 52 then (if pc < 45 then (if pc < 40 then (if pc < 38 then (if pc = 35 then some (.invokevirtual 123, [64, 1, 3, 7], 0) else none) else (if pc = 38 then some (.astore 4, [4, 2], 0) else none)) else (if pc < 42 then (if pc = 40 then some (.aload 4, [4, 2], 0) else none) else (if pc = 42 then some (.ifnonnull 6, [48], 0) else none))) else (if pc < 48 then (if pc < 47 then (if pc = 45 then some (.bipush (-2), [2], (-2)) else none) else (if pc = 47 then some (.ireturn, [], 0) else none)) else (if pc < 50 then (if pc = 48 then some (.aload 4, [4, 2], 0) else none) else (if pc < 51 then (if pc = 50 then some (.iload_n 3, [3, 1], 0) else none) else (if pc = 51 then some (.iload_n 3, [3, 1], 0) else none))))) else (if pc < 62 then (if pc < 58 then (if pc < 55 then (if pc = 52 then some (.invokevirtual 141, [15, 2, 1, 2], 0) else none) else (if pc = 55 then some (.ifCond .ne 6, [61], 0) else none)) else (if pc < 60 then (if pc = 58 then some (.bipush (-4), [2], (-4)) else none) else (if pc < 61 then (if pc = 60 then some (.ireturn, [], 0) else none) else (if pc = 61 then some (.aload_n 0, [0, 1], 0) else none)))) else (if pc < 66 then (if pc < 65 then (if pc = 62 then some (.getfield 10, [8, 0, 2, 1], 0) else none) else (if pc = 65 then some (.iload_n 2, [2, 1], 0) else none)) else (if pc < 67 then (if pc = 66 then some (.iload_n 3, [3, 1], 0) else none) else (if pc < 70 then (if pc = 67 then some (.invokevirtual 98, [6, 2, 1, 0], 0) else none) else (if pc = 70 then some (.ireturn, [], 0) else none))))))
def cd_X8_byteHole (pc : Nat) : Option me_T := if pc < 34 then (if pc < 19 then (if pc < 8 then (if pc < 2 then (if pc < 1 then (if pc = 0 then some (.aload_n 0, [0, 1], 0) else none) else (if pc = 1 then some (.iload_n 1, [1, 1], 0) else none)) else (if pc < 5 then (if pc = 2 then some (.invokevirtual 43, [109, 1, 2, 8], 0) else none) else (if pc = 5 then some (.ifCond .eq 19, [24], 0) else none))) else (if pc < 12 then (if pc < 9 then (if pc = 8 then some (.aload_n 0, [0, 1], 0) else none) else (if pc = 9 then some (.getfield 10, [8, 0, 2, 1], 0) else none)) else (if pc < 13 then (if pc = 12 then some (.iload_n 2, [2, 1], 0) else none) else (if pc < 16 then (if pc = 13 then some (.invokevirtual 81, [1, 1, 2, 0], 0) else none) else (if pc = 16 then some (.ifCond .eq 8, [24], 0) else none))))) else (if pc < 25 then (if pc < 21 then (if pc < 20 then (if pc = 19 then some (.iload_n 3, [3, 1], 0) else none) else (if pc = 20 then some (.iconst (-1), [1], (-1)) else none)) else (if pc < 24 then (if pc = 21 then some (.if_icmp .ge 5, [26], 0) else none) else (if pc = 24 then some (.iconst (-1), [1], (-1)) else none))) else (if pc < 27 then (if pc < 26 then (if pc = 25 then some (.ireturn, [], 0) else none) else (if pc = 26 then some (.aload_n 0, [0, 1], 0) else none)) else (if pc < 30 then (if pc = 27 then some (.getfield 21, [8, 1, 2, 1], 0) else none) else (if pc < 33 then (if pc = 30 then some (.getfield 47, [6, 1, 2, 1], 0) else none) else (if pc = 33 then some (.iload_n 1, [1, 1], 0) else none)))))) else (if pc < 51 then (if pc < 41 then (if pc < 36 then (if pc < 35 then (if pc = 34 then some (.aaload, [], 0) else none) else (if pc = 35 then some (.iload_n 2, [2, 1], 0) else none)) else (if pc < 39 then (if pc = 36 then some (.invokevirtual 123, [64, 1, 3, 7], 0) else none) else (if pc = 39 then some (.astore 4, [4, 2], 0) else none))) else (if pc < 46 then (if pc < 43 then (if pc = 41 then some (.aload 4, [4, 2], 0) else none) else (if pc = 43 then some (.ifnonnull 6, [49], 0) else none)) else (if pc < 48 then (if pc = 46 then some (.bipush (-2), [2], (-2)) else none) else (if pc < 49 then (if pc = 48 then some (.ireturn, [], 0) else none) else (if pc = 49 then some (.aload 4, [4, 2], 0) else none))))) else (if pc < 60 then (if pc < 55 then (if pc < 52 then (if pc = 51 then some (.aload_n 0, [0, 1], 0) else none) else (if pc = 52 then some (.getfield 10, [8, 0, 2, 1], 0) else none)) else (if pc < 58 then (if pc = 55 then some (.getfield 84, [0, 0, 2, 1], 0) else none) else (if pc < 59 then (if pc = 58 then some (.iload_n 2, [2, 1], 0) else none) else (if pc = 59 then some (.iaload, [50], 0) else none)))) else (if pc < 62 then (if pc < 61 then (if pc = 60 then some (.iconst 1, [1], 1) else none) else (if pc = 61 then some (.isub, [], 0) else none)) else (if pc < 63 then (if pc = 62 then some (.iload_n 3, [3, 1], 0) else none) else (if pc < 66 then (if pc = 63 then some (.invokevirtual 120, [19, 2, 1, 2], 0) else none) else (if pc = 66 then some (.ireturn, [], 0) else none))))))
def cd_X8_completeFiles (pc : Nat) : Option me_T := if pc < 19 then (if pc < 10 then (if pc < 5 then (if pc < 1 then (if pc = 0 then some (.aload_n 0, [0, 1], 0) else none) else (if pc < 2 then (if pc = 1 then some (.iload_n 1, [1, 1], 0) else none) else (if pc = 2 then some (.invokevirtual 43, [109, 1, 2, 8], 0) else none))) else (if pc < 8 then (if pc = 5 then some (.ifCond .ne 5, [10], 0) else none) else (if pc < 9 then (if pc = 8 then some (.iconst (-1), [1], (-1)) else none) else (if pc = 9 then some (.ireturn, [], 0) else none)))) else (if pc < 13 then (if pc < 11 then (if pc = 10 then some (.iconst 0, [1], 0) else none) else (if pc < 12 then (if pc = 11 then some (.istore_n 2, [2, 1], 0) else none) else (if pc = 12 then some (.iconst 0, [1], 0) else none))) else (if pc < 15 then (if pc < 14 then (if pc = 13 then some (.istore_n 3, [3, 1], 0) else none) else (if pc = 14 then some (.iload_n 3, [3, 1], 0) else none)) else (if pc < 16 then (if pc = 15 then some (.aload_n 0, [0, 1], 0) else none) else (if pc = 16 then some (.getfield 10, [8, 0, 2, 1], 0) else none))))) else (if pc < 31 then (if pc < 26 then (if pc < 22 then (if pc = 19 then some (.getfield 102, [0, 4, 0, 0], 0) else none) else (if pc < 25 then (if pc = 22 then some (.if_icmp .ge 24, [46], 0) else none) else (if pc = 25 then some (.aload_n 0, [0, 1], 0) else none))) else (if pc < 29 then (if pc = 26 then some (.getfield 21, [8, 1, 2, 1], 0) else none) else (if pc < 30 then (if pc = 29 then some (.iload_n 1, [1, 1], 0) else none) else (if pc = 30 then some (.iload_n 3, [3, 1], 0) else none)))) else (if pc < 40 then (if pc < 34 then (if pc = 31 then some (.invokevirtual 144, [44, 2, 2, 6], 0) else none) else (if pc < 37 then (if pc = 34 then some (.ifCond .eq 6, [40], 0) else none) else (if pc = 37 then some (.iinc 2 1, [2], 1) else none))) else (if pc < 46 then (if pc < 43 then (if pc = 40 then some (.iinc 3 1, [3], 1) else none) else (if pc = 43 then some (.goto (-29), [14], 0) else none)) else (if pc < 47 then (if pc = 46 then some (.iload_n 2, [2, 1], 0) else none) else (if pc = 47 then some (.ireturn, [], 0) else none)))))
-- heads of loops: [14]
def cd_X8_requestDirectory (pc : Nat) : Option me_T := if pc < 9 then (if pc < 2 then (if pc < 1 then (if pc = 0 then some (.aload_n 0, [0, 1], 0) else none) else (if pc = 1 then some (.iload_n 1, [1, 1], 0) else none)) else (if pc < 5 then (if pc = 2 then some (.invokevirtual 43, [109, 1, 2, 8], 0) else none) else (if pc < 8 then (if pc = 5 then some (.ifCond .ne 5, [10], 0) else none) else (if pc = 8 then some (.iconst (-1), [1], (-1)) else none)))) else (if pc < 14 then (if pc < 10 then (if pc = 9 then some (.ireturn, [], 0) else none) else (if pc < 11 then (if pc = 10 then some (.aload_n 0, [0, 1], 0) else none) else (if pc = 11 then some (.getfield 21, [8, 1, 2, 1], 0) else none))) else (if pc < 15 then (if pc = 14 then some (.iload_n 1, [1, 1], 0) else none) else (if pc < 18 then (if pc = 15 then some (.invokevirtual 147, [45, 1, 1, 6], 0) else none) else (if pc = 18 then some (.ireturn, [], 0) else none))))
def cd_X8_requestFile (pc : Nat) : Option me_T := if pc < 16 then (if pc < 8 then (if pc < 2 then (if pc < 1 then (if pc = 0 then some (.aload_n 0, [0, 1], 0) else none) else (if pc = 1 then some (.iload_n 1, [1, 1], 0) else none)) else (if pc < 5 then (if pc = 2 then some (.invokevirtual 43, [109, 1, 2, 8], 0) else none) else (if pc = 5 then some (.ifCond .eq 14, [19], 0) else none))) else (if pc < 12 then (if pc < 9 then (if pc = 8 then some (.aload_n 0, [0, 1], 0) else none) else (if pc = 9 then some (.getfield 10, [8, 0, 2, 1], 0) else none)) else (if pc < 13 then (if pc = 12 then some (.iload_n 2, [2, 1], 0) else none) else (if pc = 13 then some (.invokevirtual 81, [1, 1, 2, 0], 0) else none)))) else (if pc < 22 then (if pc < 20 then (if pc < 19 then (if pc = 16 then some (.ifCond .ne 5, [21], 0) else none) else (if pc = 19 then some (.iconst (-1), [1], (-1)) else none)) else (if pc < 21 then (if pc = 20 then some (.ireturn, [], 0) else none) else (if pc = 21 then some (.aload_n 0, [0, 1], 0) else none))) else (if pc < 26 then (if pc < 25 then (if pc = 22 then some (.getfield 21, [8, 1, 2, 1], 0) else none) else (if pc = 25 then some (.iload_n 1, [1, 1], 0) else none)) else (if pc < 27 then (if pc = 26 then some (.iload_n 2, [2, 1], 0) else none) else (if pc < 30 then (if pc = 27 then some (.invokevirtual 150, [46, 2, 1, 6], 0) else none) else (if pc = 30 then some (.ireturn, [], 0) else none)))))
def cd_X8_withdraw (pc : Nat) : Option me_T := if pc < 20 then (if pc < 10 then (if pc < 5 then (if pc < 1 then (if pc = 0 then some (.aload_n 0, [0, 1], 0) else none) else (if pc < 2 then (if pc = 1 then some (.iload_n 1, [1, 1], 0) else none) else (if pc = 2 then some (.invokevirtual 43, [109, 1, 2, 8], 0) else none))) else (if pc < 8 then (if pc = 5 then some (.ifCond .ne 5, [10], 0) else none) else (if pc < 9 then (if pc = 8 then some (.iconst (-1), [1], (-1)) else none) else (if pc = 9 then some (.ireturn, [], 0) else none)))) else (if pc < 17 then (if pc < 11 then (if pc = 10 then some (.aload_n 0, [0, 1], 0) else none) else (if pc < 14 then (if pc = 11 then some (.getfield 21, [8, 1, 2, 1], 0) else none) else (if pc = 14 then some (.getfield 153, [6, 3, 2, 1], 0) else none))) else (if pc < 18 then (if pc = 17 then some (.astore_n 2, [2, 1], 0) else none) else (if pc < 19 then (if pc = 18 then some (.aload_n 2, [2, 1], 0) else none) else (if pc = 19 then some (.iload_n 1, [1, 1], 0) else none))))) else (if pc < 31 then (if pc < 25 then (if pc < 23 then (if pc = 20 then some (.invokevirtual 157, [24, 1, 1, 3], 0) else none) else (if pc < 24 then (if pc = 23 then some (.istore_n 3, [3, 1], 0) else none) else (if pc = 24 then some (.iload_n 3, [3, 1], 0) else none))) else (if pc < 28 then (if pc = 25 then some (.ifCond .ge 6, [31], 0) else none) else (if pc < 30 then (if pc = 28 then some (.bipush (-4), [2], (-4)) else none) else (if pc = 30 then some (.ireturn, [], 0) else none)))) else (if pc < 36 then (if pc < 32 then (if pc = 31 then some (.aload_n 2, [2, 1], 0) else none) else (if pc < 33 then (if pc = 32 then some (.iload_n 3, [3, 1], 0) else none) else (if pc = 33 then some (.invokevirtual 162, [28, 1, 0, 3], 0) else none))) else (if pc < 37 then (if pc = 36 then some (.aload_n 2, [2, 1], 0) else none) else (if pc < 40 then (if pc = 37 then some (.getfield 165, [3, 1, 0, 0], 0) else none) else (if pc = 40 then some (.ireturn, [], 0) else none)))))
def cd_X8_queueLength (pc : Nat) : Option me_T := if pc < 4 then (if pc < 1 then (if pc = 0 then some (.aload_n 0, [0, 1], 0) else none) else (if pc = 1 then some (.getfield 21, [8, 1, 2, 1], 0) else none)) else (if pc < 7 then (if pc = 4 then some (.getfield 153, [6, 3, 2, 1], 0) else none) else (if pc < 10 then (if pc = 7 then some (.getfield 165, [3, 1, 0, 0], 0) else none) else (if pc = 10 then some (.ireturn, [], 0) else none)))
def cd_X8_queued (pc : Nat) : Option me_T := if pc < 46 then (if pc < 20 then (if pc < 10 then (if pc < 5 then (if pc < 1 then (if pc = 0 then some (.iload_n 1, [1, 1], 0) else none) else (if pc < 4 then (if pc = 1 then some (.ifCond .lt 12, [13], 0) else none) else (if pc = 4 then some (.iload_n 2, [2, 1], 0) else none))) else (if pc < 6 then (if pc = 5 then some (.iconst 0, [1], 0) else none) else (if pc < 7 then (if pc = 6 then some (.iconst 5, [1], 5) else none) else (if pc = 7 then some (.invokestatic 35, [110, 3, 2, 8], 1) else none)))) else (if pc < 15 then (if pc < 13 then (if pc = 10 then some (.ifCond .ne 5, [15], 0) else none) else (if pc < 14 then (if pc = 13 then some (.iconst (-1), [1], (-1)) else none) else (if pc = 14 then some (.ireturn, [], 0) else none))) else (if pc < 16 then (if pc = 15 then some (.iload_n 1, [1, 1], 0) else none) else (if pc < 17 then (if pc = 16 then some (.aload_n 0, [0, 1], 0) else none) else (if pc = 17 then some (.getfield 21, [8, 1, 2, 1], 0) else none))))) else (if pc < 33 then (if pc < 29 then (if pc < 23 then (if pc = 20 then some (.getfield 153, [6, 3, 2, 1], 0) else none) else (if pc < 26 then (if pc = 23 then some (.getfield 165, [3, 1, 0, 0], 0) else none) else (if pc = 26 then some (.if_icmp .lt 6, [32], 0) else none))) else (if pc < 31 then (if pc = 29 then some (.bipush (-4), [2], (-4)) else none) else (if pc < 32 then (if pc = 31 then some (.ireturn, [], 0) else none) else (if pc = 32 then some (.aload_n 0, [0, 1], 0) else none)))) else (if pc < 42 then (if pc < 36 then (if pc = 33 then some (.getfield 21, [8, 1, 2, 1], 0) else none) else (if pc < 39 then (if pc = 36 then some (.getfield 153, [6, 3, 2, 1], 0) else none) else (if pc = 39 then some (.getfield 168, [3, 0, 2, 1], 0) else none))) else (if pc < 44 then (if pc < 43 then (if pc = 42 then some (.iload_n 1, [1, 1], 0) else none) else (if pc = 43 then some (.aaload, [], 0) else none)) else (if pc < 45 then (if pc = 44 then some (.astore_n 3, [3, 1], 0) else none) else (if pc = 45 then some (.iload_n 2, [2, 1], 0) else none)))))) else (if pc < 99 then (if pc < 89 then (if pc < 84 then (if pc < 80 then (if pc = 46 then some (.tableswitch 73 0 4 #[34, 39, 52, 57, 65], [119, 80, 85, 98, 103, 111], 0) else none) else (if pc < 81 then (if pc = 80 then some (.aload_n 3, [3, 1], 0) else none) else (if pc = 81 then some (.getfield 172, [4, 0, 0, 0], 0) else none))) else (if pc < 85 then (if pc = 84 then some (.ireturn, [], 0) else none) else (if pc < 86 then (if pc = 85 then some (.aload_n 3, [3, 1], 0) else none) else (if pc = 86 then some (.invokevirtual 177, [30, 0, 2, 4], 0) else none)))) else (if pc < 96 then (if pc < 92 then (if pc = 89 then some (.ifCond .eq 7, [96], 0) else none) else (if pc < 93 then (if pc = 92 then some (.iconst 2, [1], 2) else none) else (if pc = 93 then some (.goto 4, [97], 0) else none))) else (if pc < 97 then (if pc = 96 then some (.iconst 1, [1], 1) else none) else (if pc < 98 then (if pc = 97 then some (.ireturn, [], 0) else none) else (if pc = 98 then some (.aload_n 3, [3, 1], 0) else none))))) else (if pc < 111 then (if pc < 104 then (if pc < 102 then (if pc = 99 then some (.getfield 181, [4, 1, 0, 0], 0) else none) else (if pc < 103 then (if pc = 102 then some (.ireturn, [], 0) else none) else (if pc = 103 then some (.aload_n 3, [3, 1], 0) else none))) else (if pc < 107 then (if pc = 104 then some (.getfield 184, [4, 3, 2, 1], 0) else none) else (if pc < 110 then (if pc = 107 then some (.getfield 187, [2, 2, 0, 0], 0) else none) else (if pc = 110 then some (.ireturn, [], 0) else none)))) else (if pc < 118 then (if pc < 112 then (if pc = 111 then some (.aload_n 3, [3, 1], 0) else none) else (if pc < 115 then (if pc = 112 then some (.getfield 184, [4, 3, 2, 1], 0) else none) else (if pc = 115 then some (.invokevirtual 138, [14, 0, 1, 2], 0) else none))) else (if pc < 120 then (if pc < 119 then (if pc = 118 then some (.ireturn, [], 0) else none) else (if pc = 119 then some (.aload_n 3, [3, 1], 0) else none)) else (if pc < 123 then (if pc = 120 then some (.getfield 188, [4, 2, 0, 0], 0) else none) else (if pc = 123 then some (.ireturn, [], 0) else none))))))
def cd_X8_type (pc : Nat) : Option me_T := if pc < 17 then (if pc < 8 then (if pc < 3 then (if pc < 1 then (if pc = 0 then some (.iload_n 1, [1, 1], 0) else none) else (if pc = 1 then some (.bipush 32, [2], 32) else none)) else (if pc < 5 then (if pc = 3 then some (.bipush 126, [2], 126) else none) else (if pc = 5 then some (.invokestatic 35, [110, 3, 2, 8], 1) else none))) else (if pc < 12 then (if pc < 11 then (if pc = 8 then some (.ifCond .ne 5, [13], 0) else none) else (if pc = 11 then some (.iconst (-1), [1], (-1)) else none)) else (if pc < 13 then (if pc = 12 then some (.ireturn, [], 0) else none) else (if pc < 14 then (if pc = 13 then some (.aload_n 0, [0, 1], 0) else none) else (if pc = 14 then some (.getfield 31, [8, 3, 2, 1], 0) else none))))) else (if pc < 27 then (if pc < 19 then (if pc < 18 then (if pc = 17 then some (.iload_n 1, [1, 1], 0) else none) else (if pc = 18 then some (.i2c, [], 0) else none)) else (if pc < 22 then (if pc = 19 then some (.invokevirtual 191, [34, 1, 2, 5], 0) else none) else (if pc < 25 then (if pc = 22 then some (.ifCond .ne 6, [28], 0) else none) else (if pc = 25 then some (.bipush (-3), [2], (-3)) else none)))) else (if pc < 29 then (if pc < 28 then (if pc = 27 then some (.ireturn, [], 0) else none) else (if pc = 28 then some (.aload_n 0, [0, 1], 0) else none)) else (if pc < 32 then (if pc = 29 then some (.getfield 31, [8, 3, 2, 1], 0) else none) else (if pc < 35 then (if pc = 32 then some (.getfield 195, [5, 1, 0, 0], 0) else none) else (if pc = 35 then some (.ireturn, [], 0) else none)))))
def cd_X8_clearText (pc : Nat) : Option me_T := if pc < 9 then (if pc < 4 then (if pc < 1 then (if pc = 0 then some (.aload_n 0, [0, 1], 0) else none) else (if pc = 1 then some (.getfield 31, [8, 3, 2, 1], 0) else none)) else (if pc < 7 then (if pc = 4 then some (.getfield 195, [5, 1, 0, 0], 0) else none) else (if pc < 8 then (if pc = 7 then some (.istore_n 1, [1, 1], 0) else none) else (if pc = 8 then some (.aload_n 0, [0, 1], 0) else none)))) else (if pc < 13 then (if pc < 12 then (if pc = 9 then some (.getfield 31, [8, 3, 2, 1], 0) else none) else (if pc = 12 then some (.iconst 0, [1], 0) else none)) else (if pc < 16 then (if pc = 13 then some (.putfield 195, [5, 1, 0, 0], 0) else none) else (if pc < 17 then (if pc = 16 then some (.iload_n 1, [1, 1], 0) else none) else (if pc = 17 then some (.ireturn, [], 0) else none))))
def cd_X8_fault (pc : Nat) : Option me_T := if pc < 12 then (if pc < 4 then (if pc < 1 then (if pc = 0 then some (.aload_n 0, [0, 1], 0) else none) else (if pc = 1 then some (.getfield 31, [8, 3, 2, 1], 0) else none)) else (if pc < 7 then (if pc = 4 then some (.invokevirtual 196, [35, 0, 2, 5], 0) else none) else (if pc < 10 then (if pc = 7 then some (.ifCond .eq 8, [15], 0) else none) else (if pc = 10 then some (.bipush (-4), [2], (-4)) else none)))) else (if pc < 16 then (if pc < 15 then (if pc = 12 then some (.goto 10, [22], 0) else none) else (if pc = 15 then some (.aload_n 0, [0, 1], 0) else none)) else (if pc < 19 then (if pc = 16 then some (.getfield 31, [8, 3, 2, 1], 0) else none) else (if pc < 22 then (if pc = 19 then some (.getfield 199, [5, 2, 0, 0], 0) else none) else (if pc = 22 then some (.ireturn, [], 0) else none))))
def cd_X8_requestText (pc : Nat) : Option me_T := if pc < 22 then (if pc < 9 then (if pc < 2 then (if pc < 1 then (if pc = 0 then some (.aload_n 0, [0, 1], 0) else none) else (if pc = 1 then some (.iload_n 1, [1, 1], 0) else none)) else (if pc < 5 then (if pc = 2 then some (.invokevirtual 43, [109, 1, 2, 8], 0) else none) else (if pc < 8 then (if pc = 5 then some (.ifCond .ne 5, [10], 0) else none) else (if pc = 8 then some (.iconst (-1), [1], (-1)) else none)))) else (if pc < 14 then (if pc < 10 then (if pc = 9 then some (.ireturn, [], 0) else none) else (if pc < 11 then (if pc = 10 then some (.aload_n 0, [0, 1], 0) else none) else (if pc = 11 then some (.getfield 31, [8, 3, 2, 1], 0) else none))) else (if pc < 17 then (if pc = 14 then some (.invokevirtual 196, [35, 0, 2, 5], 0) else none) else (if pc < 20 then (if pc = 17 then some (.ifCond .ne 6, [23], 0) else none) else (if pc = 20 then some (.bipush (-2), [2], (-2)) else none))))) else (if pc < 32 then (if pc < 27 then (if pc < 23 then (if pc = 22 then some (.ireturn, [], 0) else none) else (if pc < 24 then (if pc = 23 then some (.aload_n 0, [0, 1], 0) else none) else (if pc = 24 then some (.getfield 21, [8, 1, 2, 1], 0) else none))) else (if pc < 28 then (if pc = 27 then some (.iload_n 1, [1, 1], 0) else none) else (if pc < 29 then (if pc = 28 then some (.aload_n 0, [0, 1], 0) else none) else (if pc = 29 then some (.getfield 31, [8, 3, 2, 1], 0) else none)))) else (if pc < 39 then (if pc < 35 then (if pc = 32 then some (.getfield 202, [5, 3, 0, 0], 0) else none) else (if pc < 36 then (if pc = 35 then some (.aload_n 0, [0, 1], 0) else none) else (if pc = 36 then some (.getfield 31, [8, 3, 2, 1], 0) else none))) else (if pc < 42 then (if pc = 39 then some (.getfield 203, [5, 4, 2, 1], 0) else none) else (if pc < 45 then (if pc = 42 then some (.invokevirtual 204, [47, 3, 1, 6], 0) else none) else (if pc = 45 then some (.ireturn, [], 0) else none)))))
def cd_X8_run (pc : Nat) : Option me_T := if pc < 29 then (if pc < 13 then (if pc < 5 then (if pc < 1 then (if pc = 0 then some (.iload_n 1, [1, 1], 0) else none) else (if pc < 2 then (if pc = 1 then some (.iconst 1, [1], 1) else none) else (if pc = 2 then some (.sipush 1000, [3], 1000) else none))) else (if pc < 11 then (if pc < 8 then (if pc = 5 then some (.invokestatic 35, [110, 3, 2, 8], 1) else none) else (if pc = 8 then some (.ifCond .ne 5, [13], 0) else none)) else (if pc < 12 then (if pc = 11 then some (.iconst (-1), [1], (-1)) else none) else (if pc = 12 then some (.ireturn, [], 0) else none)))) else (if pc < 21 then (if pc < 17 then (if pc < 14 then (if pc = 13 then some (.aload_n 0, [0, 1], 0) else none) else (if pc = 14 then some (.getfield 21, [8, 1, 2, 1], 0) else none)) else (if pc < 20 then (if pc = 17 then some (.getfield 69, [6, 6, 0, 0], 0) else none) else (if pc = 20 then some (.iload_n 1, [1, 1], 0) else none))) else (if pc < 24 then (if pc < 22 then (if pc = 21 then some (.iadd, [], 0) else none) else (if pc = 22 then some (.ldc 57, [], 1000000) else none)) else (if pc < 27 then (if pc = 24 then some (.if_icmp .le 6, [30], 0) else none) else (if pc = 27 then some (.bipush (-3), [2], (-3)) else none))))) else (if pc < 38 then (if pc < 32 then (if pc < 30 then (if pc = 29 then some (.ireturn, [], 0) else none) else (if pc < 31 then (if pc = 30 then some (.iconst 0, [1], 0) else none) else (if pc = 31 then some (.istore_n 2, [2, 1], 0) else none))) else (if pc < 34 then (if pc < 33 then (if pc = 32 then some (.iload_n 2, [2, 1], 0) else none) else (if pc = 33 then some (.iload_n 1, [1, 1], 0) else none)) else (if pc < 37 then (if pc = 34 then some (.if_icmp .ge 16, [50], 0) else none) else (if pc = 37 then some (.aload_n 0, [0, 1], 0) else none)))) else (if pc < 50 then (if pc < 44 then (if pc < 41 then (if pc = 38 then some (.getfield 21, [8, 1, 2, 1], 0) else none) else (if pc = 41 then some (.invokevirtual 208, [48, 0, 0, 6], 0) else none)) else (if pc < 47 then (if pc = 44 then some (.iinc 2 1, [2], 1) else none) else (if pc = 47 then some (.goto (-15), [32], 0) else none))) else (if pc < 54 then (if pc < 51 then (if pc = 50 then some (.aload_n 0, [0, 1], 0) else none) else (if pc = 51 then some (.getfield 21, [8, 1, 2, 1], 0) else none)) else (if pc < 57 then (if pc = 54 then some (.getfield 69, [6, 6, 0, 0], 0) else none) else (if pc = 57 then some (.ireturn, [], 0) else none)))))
-- heads of loops: [32]
def cd_X8_time (pc : Nat) : Option me_T := if pc < 4 then (if pc < 1 then (if pc = 0 then some (.aload_n 0, [0, 1], 0) else none) else (if pc = 1 then some (.getfield 21, [8, 1, 2, 1], 0) else none)) else (if pc < 7 then (if pc = 4 then some (.getfield 69, [6, 6, 0, 0], 0) else none) else (if pc = 7 then some (.ireturn, [], 0) else none))
def cd_X8_lastFrame (pc : Nat) : Option me_T := if pc < 39 then (if pc < 18 then (if pc < 9 then (if pc < 2 then (if pc < 1 then (if pc = 0 then some (.iload_n 1, [1, 1], 0) else none) else (if pc = 1 then some (.iconst 0, [1], 0) else none)) else (if pc < 3 then (if pc = 2 then some (.iconst 4, [1], 4) else none) else (if pc < 6 then (if pc = 3 then some (.invokestatic 35, [110, 3, 2, 8], 1) else none) else (if pc = 6 then some (.ifCond .ne 5, [11], 0) else none)))) else (if pc < 11 then (if pc < 10 then (if pc = 9 then some (.iconst (-1), [1], (-1)) else none) else (if pc = 10 then some (.ireturn, [], 0) else none)) else (if pc < 12 then (if pc = 11 then some (.aload_n 0, [0, 1], 0) else none) else (if pc < 15 then (if pc = 12 then some (.getfield 21, [8, 1, 2, 1], 0) else none) else (if pc = 15 then some (.getfield 211, [6, 4, 2, 1], 0) else none))))) else (if pc < 27 then (if pc < 20 then (if pc < 19 then (if pc = 18 then some (.astore_n 2, [2, 1], 0) else none) else (if pc = 19 then some (.aload_n 2, [2, 1], 0) else none)) else (if pc < 23 then (if pc = 20 then some (.getfield 215, [1, 0, 1, 0], 0) else none) else (if pc < 26 then (if pc = 23 then some (.ifCond .eq 20, [43], 0) else none) else (if pc = 26 then some (.aload_n 2, [2, 1], 0) else none)))) else (if pc < 34 then (if pc < 30 then (if pc = 27 then some (.getfield 221, [1, 1, 0, 0], 0) else none) else (if pc < 33 then (if pc = 30 then some (.ifCond .ne 16, [46], 0) else none) else (if pc = 33 then some (.iload_n 1, [1, 1], 0) else none))) else (if pc < 35 then (if pc = 34 then some (.iconst 2, [1], 2) else none) else (if pc < 38 then (if pc = 35 then some (.if_icmp .eq 8, [43], 0) else none) else (if pc = 38 then some (.iload_n 1, [1, 1], 0) else none)))))) else (if pc < 82 then (if pc < 47 then (if pc < 43 then (if pc < 40 then (if pc = 39 then some (.iconst 3, [1], 3) else none) else (if pc = 40 then some (.if_icmp .ne 6, [46], 0) else none)) else (if pc < 45 then (if pc = 43 then some (.bipush (-4), [2], (-4)) else none) else (if pc < 46 then (if pc = 45 then some (.ireturn, [], 0) else none) else (if pc = 46 then some (.iload_n 1, [1, 1], 0) else none)))) else (if pc < 77 then (if pc < 76 then (if pc = 47 then some (.tableswitch 49 0 3 #[29, 34, 39, 44], [96, 76, 81, 86, 91], 0) else none) else (if pc = 76 then some (.aload_n 2, [2, 1], 0) else none)) else (if pc < 80 then (if pc = 77 then some (.getfield 221, [1, 1, 0, 0], 0) else none) else (if pc < 81 then (if pc = 80 then some (.ireturn, [], 0) else none) else (if pc = 81 then some (.aload_n 2, [2, 1], 0) else none))))) else (if pc < 91 then (if pc < 86 then (if pc < 85 then (if pc = 82 then some (.getfield 224, [1, 2, 0, 0], 0) else none) else (if pc = 85 then some (.ireturn, [], 0) else none)) else (if pc < 87 then (if pc = 86 then some (.aload_n 2, [2, 1], 0) else none) else (if pc < 90 then (if pc = 87 then some (.getfield 225, [1, 3, 0, 0], 0) else none) else (if pc = 90 then some (.ireturn, [], 0) else none)))) else (if pc < 96 then (if pc < 92 then (if pc = 91 then some (.aload_n 2, [2, 1], 0) else none) else (if pc < 95 then (if pc = 92 then some (.getfield 228, [1, 4, 0, 0], 0) else none) else (if pc = 95 then some (.ireturn, [], 0) else none))) else (if pc < 97 then (if pc = 96 then some (.aload_n 2, [2, 1], 0) else none) else (if pc < 100 then (if pc = 97 then some (.getfield 231, [1, 5, 0, 0], 0) else none) else (if pc = 100 then some (.ireturn, [], 0) else none))))))
def cd_X8_total (pc : Nat) : Option me_T := if pc < 10 then (if pc < 3 then (if pc < 1 then (if pc = 0 then some (.iload_n 1, [1, 1], 0) else none) else (if pc < 2 then (if pc = 1 then some (.iconst 0, [1], 0) else none) else (if pc = 2 then some (.iconst 4, [1], 4) else none))) else (if pc < 6 then (if pc = 3 then some (.invokestatic 35, [110, 3, 2, 8], 1) else none) else (if pc < 9 then (if pc = 6 then some (.ifCond .ne 5, [11], 0) else none) else (if pc = 9 then some (.iconst (-1), [1], (-1)) else none)))) else (if pc < 15 then (if pc < 11 then (if pc = 10 then some (.ireturn, [], 0) else none) else (if pc < 12 then (if pc = 11 then some (.aload_n 0, [0, 1], 0) else none) else (if pc = 12 then some (.getfield 21, [8, 1, 2, 1], 0) else none))) else (if pc < 19 then (if pc < 18 then (if pc = 15 then some (.getfield 234, [6, 5, 2, 1], 0) else none) else (if pc = 18 then some (.iload_n 1, [1, 1], 0) else none)) else (if pc < 20 then (if pc = 19 then some (.iaload, [50], 0) else none) else (if pc = 20 then some (.ireturn, [], 0) else none))))
def cd_X8_stationTotal (pc : Nat) : Option me_T := if pc < 18 then (if pc < 9 then (if pc < 2 then (if pc < 1 then (if pc = 0 then some (.aload_n 0, [0, 1], 0) else none) else (if pc = 1 then some (.iload_n 1, [1, 1], 0) else none)) else (if pc < 5 then (if pc = 2 then some (.invokevirtual 43, [109, 1, 2, 8], 0) else none) else (if pc < 8 then (if pc = 5 then some (.ifCond .eq 12, [17], 0) else none) else (if pc = 8 then some (.iload_n 2, [2, 1], 0) else none)))) else (if pc < 11 then (if pc < 10 then (if pc = 9 then some (.iconst 0, [1], 0) else none) else (if pc = 10 then some (.iconst 3, [1], 3) else none)) else (if pc < 14 then (if pc = 11 then some (.invokestatic 35, [110, 3, 2, 8], 1) else none) else (if pc < 17 then (if pc = 14 then some (.ifCond .ne 5, [19], 0) else none) else (if pc = 17 then some (.iconst (-1), [1], (-1)) else none))))) else (if pc < 27 then (if pc < 20 then (if pc < 19 then (if pc = 18 then some (.ireturn, [], 0) else none) else (if pc = 19 then some (.aload_n 0, [0, 1], 0) else none)) else (if pc < 23 then (if pc = 20 then some (.getfield 21, [8, 1, 2, 1], 0) else none) else (if pc < 26 then (if pc = 23 then some (.getfield 47, [6, 1, 2, 1], 0) else none) else (if pc = 26 then some (.iload_n 1, [1, 1], 0) else none)))) else (if pc < 31 then (if pc < 28 then (if pc = 27 then some (.aaload, [], 0) else none) else (if pc = 28 then some (.getfield 237, [7, 10, 2, 1], 0) else none)) else (if pc < 32 then (if pc = 31 then some (.iload_n 2, [2, 1], 0) else none) else (if pc < 33 then (if pc = 32 then some (.iaload, [50], 0) else none) else (if pc = 33 then some (.ireturn, [], 0) else none)))))
def cd_X8_ticksToComplete (pc : Nat) : Option me_T := if pc < 51 then (if pc < 25 then (if pc < 12 then (if pc < 5 then (if pc < 1 then (if pc = 0 then some (.aload_n 0, [0, 1], 0) else none) else (if pc < 2 then (if pc = 1 then some (.iload_n 1, [1, 1], 0) else none) else (if pc = 2 then some (.invokevirtual 43, [109, 1, 2, 8], 0) else none))) else (if pc < 8 then (if pc = 5 then some (.ifCond .eq 14, [19], 0) else none) else (if pc < 9 then (if pc = 8 then some (.aload_n 0, [0, 1], 0) else none) else (if pc = 9 then some (.getfield 10, [8, 0, 2, 1], 0) else none)))) else (if pc < 19 then (if pc < 13 then (if pc = 12 then some (.iload_n 2, [2, 1], 0) else none) else (if pc < 16 then (if pc = 13 then some (.invokevirtual 81, [1, 1, 2, 0], 0) else none) else (if pc = 16 then some (.ifCond .ne 5, [21], 0) else none))) else (if pc < 21 then (if pc < 20 then (if pc = 19 then some (.iconst (-1), [1], (-1)) else none) else (if pc = 20 then some (.ireturn, [], 0) else none)) else (if pc < 22 then (if pc = 21 then some (.aload_n 0, [0, 1], 0) else none) else (if pc = 22 then some (.getfield 21, [8, 1, 2, 1], 0) else none))))) else (if pc < 37 then (if pc < 30 then (if pc < 28 then (if pc = 25 then some (.getfield 47, [6, 1, 2, 1], 0) else none) else (if pc < 29 then (if pc = 28 then some (.iload_n 1, [1, 1], 0) else none) else (if pc = 29 then some (.aaload, [], 0) else none))) else (if pc < 31 then (if pc = 30 then some (.iload_n 2, [2, 1], 0) else none) else (if pc < 34 then (if pc = 31 then some (.invokevirtual 123, [64, 1, 3, 7], 0) else none) else (if pc = 34 then some (.ifnonnull 6, [40], 0) else none)))) else (if pc < 41 then (if pc < 39 then (if pc = 37 then some (.bipush (-2), [2], (-2)) else none) else (if pc < 40 then (if pc = 39 then some (.ireturn, [], 0) else none) else (if pc = 40 then some (.aload_n 0, [0, 1], 0) else none))) else (if pc < 45 then (if pc < 44 then (if pc = 41 then some (.getfield 25, [8, 2, 2, 1], 0) else none) else (if pc = 44 then some (.aload_n 0, [0, 1], 0) else none)) else (if pc < 48 then (if pc = 45 then some (.getfield 21, [8, 1, 2, 1], 0) else none) else (if pc = 48 then some (.invokevirtual 238, [42, 1, 0, 6], 0) else none)))))) else (if pc < 74 then (if pc < 61 then (if pc < 54 then (if pc < 52 then (if pc = 51 then some (.iconst 0, [1], 0) else none) else (if pc < 53 then (if pc = 52 then some (.istore_n 3, [3, 1], 0) else none) else (if pc = 53 then some (.iload_n 3, [3, 1], 0) else none))) else (if pc < 57 then (if pc = 54 then some (.sipush 2000, [3], 2000) else none) else (if pc < 60 then (if pc = 57 then some (.if_icmp .gt 40, [97], 0) else none) else (if pc = 60 then some (.aload_n 0, [0, 1], 0) else none)))) else (if pc < 66 then (if pc < 64 then (if pc = 61 then some (.getfield 25, [8, 2, 2, 1], 0) else none) else (if pc < 65 then (if pc = 64 then some (.iload_n 1, [1, 1], 0) else none) else (if pc = 65 then some (.iload_n 2, [2, 1], 0) else none))) else (if pc < 72 then (if pc < 69 then (if pc = 66 then some (.invokevirtual 144, [44, 2, 2, 6], 0) else none) else (if pc = 69 then some (.ifCond .eq 5, [74], 0) else none)) else (if pc < 73 then (if pc = 72 then some (.iload_n 3, [3, 1], 0) else none) else (if pc = 73 then some (.ireturn, [], 0) else none))))) else (if pc < 84 then (if pc < 79 then (if pc < 75 then (if pc = 74 then some (.aload_n 0, [0, 1], 0) else none) else (if pc < 78 then (if pc = 75 then some (.getfield 25, [8, 2, 2, 1], 0) else none) else (if pc = 78 then some (.iload_n 1, [1, 1], 0) else none))) else (if pc < 80 then (if pc = 79 then some (.iload_n 2, [2, 1], 0) else none) else (if pc < 83 then (if pc = 80 then some (.invokevirtual 150, [46, 2, 1, 6], 0) else none) else (if pc = 83 then some (.pop, [], 0) else none)))) else (if pc < 91 then (if pc < 85 then (if pc = 84 then some (.aload_n 0, [0, 1], 0) else none) else (if pc < 88 then (if pc = 85 then some (.getfield 25, [8, 2, 2, 1], 0) else none) else (if pc = 88 then some (.invokevirtual 208, [48, 0, 0, 6], 0) else none))) else (if pc < 97 then (if pc < 94 then (if pc = 91 then some (.iinc 3 1, [3], 1) else none) else (if pc = 94 then some (.goto (-41), [53], 0) else none)) else (if pc < 99 then (if pc = 97 then some (.bipush (-4), [2], (-4)) else none) else (if pc = 99 then some (.ireturn, [], 0) else none))))))
-- heads of loops: [53]
def cd_X8_ticksToEmpty (pc : Nat) : Option me_T := if pc < 23 then (if pc < 11 then (if pc < 4 then (if pc < 1 then (if pc = 0 then some (.aload_n 0, [0, 1], 0) else none) else (if pc = 1 then some (.getfield 25, [8, 2, 2, 1], 0) else none)) else (if pc < 5 then (if pc = 4 then some (.aload_n 0, [0, 1], 0) else none) else (if pc < 8 then (if pc = 5 then some (.getfield 21, [8, 1, 2, 1], 0) else none) else (if pc = 8 then some (.invokevirtual 238, [42, 1, 0, 6], 0) else none)))) else (if pc < 14 then (if pc < 12 then (if pc = 11 then some (.iconst 0, [1], 0) else none) else (if pc < 13 then (if pc = 12 then some (.istore_n 1, [1, 1], 0) else none) else (if pc = 13 then some (.aload_n 0, [0, 1], 0) else none))) else (if pc < 17 then (if pc = 14 then some (.getfield 25, [8, 2, 2, 1], 0) else none) else (if pc < 20 then (if pc = 17 then some (.getfield 153, [6, 3, 2, 1], 0) else none) else (if pc = 20 then some (.getfield 165, [3, 1, 0, 0], 0) else none))))) else (if pc < 33 then (if pc < 27 then (if pc < 26 then (if pc = 23 then some (.ifCond .le 22, [45], 0) else none) else (if pc = 26 then some (.iload_n 1, [1, 1], 0) else none)) else (if pc < 29 then (if pc = 27 then some (.ldc 57, [], 1000000) else none) else (if pc < 32 then (if pc = 29 then some (.if_icmp .ge 16, [45], 0) else none) else (if pc = 32 then some (.aload_n 0, [0, 1], 0) else none)))) else (if pc < 42 then (if pc < 36 then (if pc = 33 then some (.getfield 25, [8, 2, 2, 1], 0) else none) else (if pc < 39 then (if pc = 36 then some (.invokevirtual 208, [48, 0, 0, 6], 0) else none) else (if pc = 39 then some (.iinc 1 1, [1], 1) else none))) else (if pc < 45 then (if pc = 42 then some (.goto (-29), [13], 0) else none) else (if pc < 46 then (if pc = 45 then some (.iload_n 1, [1, 1], 0) else none) else (if pc = 46 then some (.ireturn, [], 0) else none)))))
-- heads of loops: [13]
def cd_X8_isStation (pc : Nat) : Option me_T := if pc < 9 then (if pc < 4 then (if pc < 1 then (if pc = 0 then some (.iload_n 1, [1, 1], 0) else none) else (if pc = 1 then some (.ifCond .lt 18, [19], 0) else none)) else (if pc < 5 then (if pc = 4 then some (.iload_n 1, [1, 1], 0) else none) else (if pc < 6 then (if pc = 5 then some (.aload_n 0, [0, 1], 0) else none) else (if pc = 6 then some (.getfield 21, [8, 1, 2, 1], 0) else none)))) else (if pc < 16 then (if pc < 12 then (if pc = 9 then some (.getfield 242, [6, 2, 0, 0], 0) else none) else (if pc < 15 then (if pc = 12 then some (.if_icmp .ge 7, [19], 0) else none) else (if pc = 15 then some (.iconst 1, [1], 1) else none))) else (if pc < 19 then (if pc = 16 then some (.goto 4, [20], 0) else none) else (if pc < 20 then (if pc = 19 then some (.iconst 0, [1], 0) else none) else (if pc = 20 then some (.ireturn, [], 0) else none))))
def cd_X8_within (pc : Nat) : Option me_T := if pc < 7 then (if pc < 2 then (if pc < 1 then (if pc = 0 then some (.iload_n 0, [0, 1], 0) else none) else (if pc = 1 then some (.iload_n 1, [1, 1], 0) else none)) else (if pc < 5 then (if pc = 2 then some (.if_icmp .lt 12, [14], 0) else none) else (if pc < 6 then (if pc = 5 then some (.iload_n 0, [0, 1], 0) else none) else (if pc = 6 then some (.iload_n 2, [2, 1], 0) else none)))) else (if pc < 11 then (if pc < 10 then (if pc = 7 then some (.if_icmp .gt 7, [14], 0) else none) else (if pc = 10 then some (.iconst 1, [1], 1) else none)) else (if pc < 14 then (if pc = 11 then some (.goto 4, [15], 0) else none) else (if pc < 15 then (if pc = 14 then some (.iconst 0, [1], 0) else none) else (if pc = 15 then some (.ireturn, [], 0) else none))))
def cd_L_part (pc : Nat) : Option me_T := if pc < 4 then (if pc < 1 then (if pc = 0 then some (.iload_n 0, [0, 1], 0) else none) else (if pc < 3 then (if pc = 1 then some (.ldc 7, [], 2147483647) else none) else (if pc = 3 then some (.iand, [], 0) else none))) else (if pc < 5 then (if pc = 4 then some (.iload_n 1, [1, 1], 0) else none) else (if pc < 6 then (if pc = 5 then some (.irem, [], 0) else none) else (if pc = 6 then some (.ireturn, [], 0) else none)))
def cd_L_cell (pc : Nat) : Option me_T := if pc < 21 then (if pc < 11 then (if pc < 5 then (if pc < 1 then (if pc = 0 then some (.aload_n 0, [0, 1], 0) else none) else (if pc < 2 then (if pc = 1 then some (.arraylength, [], 0) else none) else (if pc = 2 then some (.ifCond .ne 13, [15], 0) else none))) else (if pc < 9 then (if pc < 8 then (if pc = 5 then some (.sipush 7919, [3], 7919) else none) else (if pc = 8 then some (.iload_n 1, [1, 1], 0) else none)) else (if pc < 10 then (if pc = 9 then some (.imul, [], 0) else none) else (if pc = 10 then some (.iconst 3, [1], 3) else none)))) else (if pc < 17 then (if pc < 15 then (if pc < 12 then (if pc = 11 then some (.iadd, [], 0) else none) else (if pc = 12 then some (.goto 27, [39], 0) else none)) else (if pc < 16 then (if pc = 15 then some (.aload_n 0, [0, 1], 0) else none) else (if pc = 16 then some (.iload_n 1, [1, 1], 0) else none))) else (if pc < 19 then (if pc < 18 then (if pc = 17 then some (.aload_n 0, [0, 1], 0) else none) else (if pc = 18 then some (.arraylength, [], 0) else none)) else (if pc < 20 then (if pc = 19 then some (.irem, [], 0) else none) else (if pc = 20 then some (.iaload, [49], 0) else none))))) else (if pc < 30 then (if pc < 26 then (if pc < 24 then (if pc < 22 then (if pc = 21 then some (.iload_n 1, [1, 1], 0) else none) else (if pc = 22 then some (.bipush 7, [2], 7) else none)) else (if pc < 25 then (if pc = 24 then some (.irem, [], 0) else none) else (if pc = 25 then some (.ishr, [], 0) else none))) else (if pc < 28 then (if pc < 27 then (if pc = 26 then some (.iload_n 1, [1, 1], 0) else none) else (if pc = 27 then some (.aload_n 0, [0, 1], 0) else none)) else (if pc < 29 then (if pc = 28 then some (.arraylength, [], 0) else none) else (if pc = 29 then some (.idiv, [], 0) else none)))) else (if pc < 35 then (if pc < 33 then (if pc < 32 then (if pc = 30 then some (.bipush 31, [2], 31) else none) else (if pc = 32 then some (.imul, [], 0) else none)) else (if pc < 34 then (if pc = 33 then some (.ixor, [], 0) else none) else (if pc = 34 then some (.iload_n 1, [1, 1], 0) else none))) else (if pc < 38 then (if pc < 37 then (if pc = 35 then some (.ldc 8, [], 2654435) else none) else (if pc = 37 then some (.imul, [], 0) else none)) else (if pc < 39 then (if pc = 38 then some (.ixor, [], 0) else none) else (if pc = 39 then some (.ireturn, [], 0) else none)))))
def cd_L_adds (pc : Nat) : Option me_T := if pc < 102 then (if pc < 55 then (if pc < 27 then (if pc < 13 then (if pc < 6 then (if pc < 2 then (if pc < 1 then (if pc = 0 then some (.iconst 1, [1], 1) else none) else (if pc = 1 then some (.aload_n 2, [2, 1], 0) else none)) else (if pc < 3 then (if pc = 2 then some (.iload_n 3, [3, 1], 0) else none) else (if pc = 3 then some (.invokestatic 9, [112, 2, 1, 10], 1) else none))) else (if pc < 10 then (if pc < 7 then (if pc = 6 then some (.iconst 5, [1], 5) else none) else (if pc = 7 then some (.invokestatic 15, [111, 2, 1, 10], 1) else none)) else (if pc < 11 then (if pc = 10 then some (.iadd, [], 0) else none) else (if pc = 11 then some (.istore 4, [4, 2], 0) else none)))) else (if pc < 20 then (if pc < 16 then (if pc < 14 then (if pc = 13 then some (.iconst 0, [1], 0) else none) else (if pc = 14 then some (.istore 5, [5, 2], 0) else none)) else (if pc < 18 then (if pc = 16 then some (.iload 5, [5, 2], 0) else none) else (if pc = 18 then some (.iload 4, [4, 2], 0) else none))) else (if pc < 24 then (if pc < 23 then (if pc = 20 then some (.if_icmp .ge 185, [205], 0) else none) else (if pc = 23 then some (.aload_n 2, [2, 1], 0) else none)) else (if pc < 25 then (if pc = 24 then some (.iload_n 3, [3, 1], 0) else none) else (if pc < 26 then (if pc = 25 then some (.iconst 1, [1], 1) else none) else (if pc = 26 then some (.iadd, [], 0) else none)))))) else (if pc < 41 then (if pc < 35 then (if pc < 30 then (if pc < 29 then (if pc = 27 then some (.iload 5, [5, 2], 0) else none) else (if pc = 29 then some (.iadd, [], 0) else none)) else (if pc < 33 then (if pc = 30 then some (.invokestatic 9, [112, 2, 1, 10], 1) else none) else (if pc = 33 then some (.istore 6, [6, 2], 0) else none))) else (if pc < 37 then (if pc < 36 then (if pc = 35 then some (.aload_n 1, [1, 1], 0) else none) else (if pc = 36 then some (.iconst 5, [1], 5) else none)) else (if pc < 39 then (if pc = 37 then some (.iload 5, [5, 2], 0) else none) else (if pc < 40 then (if pc = 39 then some (.imul, [], 0) else none) else (if pc = 40 then some (.iconst 4, [1], 4) else none))))) else (if pc < 49 then (if pc < 45 then (if pc < 43 then (if pc = 41 then some (.iload 6, [6, 2], 0) else none) else (if pc = 43 then some (.bipush 30, [2], 30) else none)) else (if pc < 48 then (if pc = 45 then some (.invokestatic 15, [111, 2, 1, 10], 1) else none) else (if pc = 48 then some (.iadd, [], 0) else none))) else (if pc < 51 then (if pc < 50 then (if pc = 49 then some (.iastore, [50], 0) else none) else (if pc = 50 then some (.aload_n 1, [1, 1], 0) else none)) else (if pc < 52 then (if pc = 51 then some (.iconst 5, [1], 5) else none) else (if pc < 54 then (if pc = 52 then some (.iload 5, [5, 2], 0) else none) else (if pc = 54 then some (.imul, [], 0) else none))))))) else (if pc < 78 then (if pc < 67 then (if pc < 60 then (if pc < 57 then (if pc < 56 then (if pc = 55 then some (.iconst 1, [1], 1) else none) else (if pc = 56 then some (.iadd, [], 0) else none)) else (if pc < 59 then (if pc = 57 then some (.iload 6, [6, 2], 0) else none) else (if pc = 59 then some (.iconst 5, [1], 5) else none))) else (if pc < 63 then (if pc < 61 then (if pc = 60 then some (.ishr, [], 0) else none) else (if pc = 61 then some (.bipush 6, [2], 6) else none)) else (if pc < 66 then (if pc = 63 then some (.invokestatic 15, [111, 2, 1, 10], 1) else none) else (if pc = 66 then some (.iastore, [50], 0) else none)))) else (if pc < 72 then (if pc < 69 then (if pc < 68 then (if pc = 67 then some (.aload_n 1, [1, 1], 0) else none) else (if pc = 68 then some (.iconst 5, [1], 5) else none)) else (if pc < 71 then (if pc = 69 then some (.iload 5, [5, 2], 0) else none) else (if pc = 71 then some (.imul, [], 0) else none))) else (if pc < 74 then (if pc < 73 then (if pc = 72 then some (.iconst 2, [1], 2) else none) else (if pc = 73 then some (.iadd, [], 0) else none)) else (if pc < 75 then (if pc = 74 then some (.iconst 1, [1], 1) else none) else (if pc < 77 then (if pc = 75 then some (.iload 6, [6, 2], 0) else none) else (if pc = 77 then some (.iconst 2, [1], 2) else none)))))) else (if pc < 90 then (if pc < 83 then (if pc < 80 then (if pc < 79 then (if pc = 78 then some (.ishr, [], 0) else none) else (if pc = 79 then some (.aload_n 1, [1, 1], 0) else none)) else (if pc < 81 then (if pc = 80 then some (.iconst 5, [1], 5) else none) else (if pc = 81 then some (.iload 5, [5, 2], 0) else none))) else (if pc < 85 then (if pc < 84 then (if pc = 83 then some (.imul, [], 0) else none) else (if pc = 84 then some (.iaload, [50], 0) else none)) else (if pc < 88 then (if pc = 85 then some (.invokestatic 15, [111, 2, 1, 10], 1) else none) else (if pc < 89 then (if pc = 88 then some (.iadd, [], 0) else none) else (if pc = 89 then some (.iastore, [50], 0) else none))))) else (if pc < 95 then (if pc < 92 then (if pc < 91 then (if pc = 90 then some (.aload_n 1, [1, 1], 0) else none) else (if pc = 91 then some (.iconst 5, [1], 5) else none)) else (if pc < 94 then (if pc = 92 then some (.iload 5, [5, 2], 0) else none) else (if pc = 94 then some (.imul, [], 0) else none))) else (if pc < 97 then (if pc < 96 then (if pc = 95 then some (.iconst 3, [1], 3) else none) else (if pc = 96 then some (.iadd, [], 0) else none)) else (if pc < 99 then (if pc = 97 then some (.iload 6, [6, 2], 0) else none) else (if pc < 101 then (if pc = 99 then some (.bipush 7, [2], 7) else none) else (if pc = 101 then some (.ishr, [], 0) else none)))))))) else (if pc < 155 then (if pc < 129 then (if pc < 113 then (if pc < 108 then (if pc < 106 then (if pc < 103 then (if pc = 102 then some (.iconst 3, [1], 3) else none) else (if pc = 103 then some (.invokestatic 15, [111, 2, 1, 10], 1) else none)) else (if pc < 107 then (if pc = 106 then some (.iastore, [50], 0) else none) else (if pc = 107 then some (.aload_n 1, [1, 1], 0) else none))) else (if pc < 111 then (if pc < 109 then (if pc = 108 then some (.iconst 5, [1], 5) else none) else (if pc = 109 then some (.iload 5, [5, 2], 0) else none)) else (if pc < 112 then (if pc = 111 then some (.imul, [], 0) else none) else (if pc = 112 then some (.iconst 4, [1], 4) else none)))) else (if pc < 119 then (if pc < 116 then (if pc < 114 then (if pc = 113 then some (.iadd, [], 0) else none) else (if pc = 114 then some (.iload 6, [6, 2], 0) else none)) else (if pc < 118 then (if pc = 116 then some (.bipush 9, [2], 9) else none) else (if pc = 118 then some (.ishr, [], 0) else none))) else (if pc < 123 then (if pc < 120 then (if pc = 119 then some (.iconst 3, [1], 3) else none) else (if pc = 120 then some (.invokestatic 15, [111, 2, 1, 10], 1) else none)) else (if pc < 126 then (if pc = 123 then some (.ifCond .ne 16, [139], 0) else none) else (if pc < 128 then (if pc = 126 then some (.iload 6, [6, 2], 0) else none) else (if pc = 128 then some (.iconst 4, [1], 4) else none)))))) else (if pc < 144 then (if pc < 139 then (if pc < 133 then (if pc < 130 then (if pc = 129 then some (.ishr, [], 0) else none) else (if pc = 130 then some (.sipush 600, [3], 600) else none)) else (if pc < 136 then (if pc = 133 then some (.invokestatic 15, [111, 2, 1, 10], 1) else none) else (if pc = 136 then some (.goto 4, [140], 0) else none))) else (if pc < 141 then (if pc < 140 then (if pc = 139 then some (.iconst 0, [1], 0) else none) else (if pc = 140 then some (.iastore, [50], 0) else none)) else (if pc < 142 then (if pc = 141 then some (.aload_n 0, [0, 1], 0) else none) else (if pc < 143 then (if pc = 142 then some (.aload_n 1, [1, 1], 0) else none) else (if pc = 143 then some (.iconst 5, [1], 5) else none))))) else (if pc < 149 then (if pc < 147 then (if pc < 146 then (if pc = 144 then some (.iload 5, [5, 2], 0) else none) else (if pc = 146 then some (.imul, [], 0) else none)) else (if pc < 148 then (if pc = 147 then some (.iaload, [50], 0) else none) else (if pc = 148 then some (.aload_n 1, [1, 1], 0) else none))) else (if pc < 152 then (if pc < 150 then (if pc = 149 then some (.iconst 5, [1], 5) else none) else (if pc = 150 then some (.iload 5, [5, 2], 0) else none)) else (if pc < 153 then (if pc = 152 then some (.imul, [], 0) else none) else (if pc < 154 then (if pc = 153 then some (.iconst 1, [1], 1) else none) else (if pc = 154 then some (.iadd, [], 0) else none))))))) else (if pc < 177 then (if pc < 164 then (if pc < 160 then (if pc < 157 then (if pc < 156 then (if pc = 155 then some (.iaload, [50], 0) else none) else (if pc = 156 then some (.aload_n 1, [1, 1], 0) else none)) else (if pc < 158 then (if pc = 157 then some (.iconst 5, [1], 5) else none) else (if pc = 158 then some (.iload 5, [5, 2], 0) else none))) else (if pc < 162 then (if pc < 161 then (if pc = 160 then some (.imul, [], 0) else none) else (if pc = 161 then some (.iconst 2, [1], 2) else none)) else (if pc < 163 then (if pc = 162 then some (.iadd, [], 0) else none) else (if pc = 163 then some (.iaload, [50], 0) else none)))) else (if pc < 169 then (if pc < 166 then (if pc < 165 then (if pc = 164 then some (.aload_n 1, [1, 1], 0) else none) else (if pc = 165 then some (.iconst 5, [1], 5) else none)) else (if pc < 168 then (if pc = 166 then some (.iload 5, [5, 2], 0) else none) else (if pc = 168 then some (.imul, [], 0) else none))) else (if pc < 171 then (if pc < 170 then (if pc = 169 then some (.iconst 3, [1], 3) else none) else (if pc = 170 then some (.iadd, [], 0) else none)) else (if pc < 172 then (if pc = 171 then some (.iaload, [50], 0) else none) else (if pc < 175 then (if pc = 172 then some (.invokevirtual 19, [73, 4, 1, 8], 0) else none) else (if pc = 175 then some (.iload 5, [5, 2], 0) else none)))))) else (if pc < 190 then (if pc < 184 then (if pc < 181 then (if pc < 180 then (if pc = 177 then some (.if_icmp .ne 20, [197], 0) else none) else (if pc = 180 then some (.aload_n 0, [0, 1], 0) else none)) else (if pc < 183 then (if pc = 181 then some (.iload 5, [5, 2], 0) else none) else (if pc = 183 then some (.aload_n 1, [1, 1], 0) else none))) else (if pc < 187 then (if pc < 185 then (if pc = 184 then some (.iconst 5, [1], 5) else none) else (if pc = 185 then some (.iload 5, [5, 2], 0) else none)) else (if pc < 188 then (if pc = 187 then some (.imul, [], 0) else none) else (if pc < 189 then (if pc = 188 then some (.iconst 4, [1], 4) else none) else (if pc = 189 then some (.iadd, [], 0) else none))))) else (if pc < 198 then (if pc < 194 then (if pc < 191 then (if pc = 190 then some (.iaload, [50], 0) else none) else (if pc = 191 then some (.invokevirtual 25, [74, 2, 1, 8], 0) else none)) else (if pc < 197 then (if pc = 194 then some (.ifCond .eq 5, [199], 0) else none) else (if pc = 197 then some (.iconst 0, [1], 0) else none))) else (if pc < 202 then (if pc < 199 then (if pc = 198 then some (.ireturn, [], 0) else none) else (if pc = 199 then some (.iinc 5 1, [5], 1) else none)) else (if pc < 205 then (if pc = 202 then some (.goto (-186), [16], 0) else none) else (if pc < 207 then (if pc = 205 then some (.iload 4, [4, 2], 0) else none) else (if pc = 207 then some (.ireturn, [], 0) else none))))))))
-- heads of loops: [16]
def cd_L_digest (pc : Nat) : Option me_T := if pc < 136 then (if pc < 64 then (if pc < 30 then (if pc < 16 then (if pc < 7 then (if pc < 4 then (if pc < 1 then (if pc = 0 then some (.aload_n 0, [0, 1], 0) else none) else (if pc = 1 then some (.invokevirtual 36, [103, 0, 1, 8], 0) else none)) else (if pc < 5 then (if pc = 4 then some (.i2l, [], 0) else none) else (if pc < 6 then (if pc = 5 then some (.lstore_n 1, [1, 1], 0) else none) else (if pc = 6 then some (.iconst 0, [1], 0) else none)))) else (if pc < 9 then (if pc < 8 then (if pc = 7 then some (.istore_n 3, [3, 1], 0) else none) else (if pc = 8 then some (.iload_n 3, [3, 1], 0) else none)) else (if pc < 10 then (if pc = 9 then some (.iconst 5, [1], 5) else none) else (if pc < 13 then (if pc = 10 then some (.if_icmp .ge 33, [43], 0) else none) else (if pc = 13 then some (.ldc2_w 40, [], 31) else none))))) else (if pc < 23 then (if pc < 20 then (if pc < 19 then (if pc = 16 then some (.ldc2_w 40, [], 31) else none) else (if pc = 19 then some (.lload_n 1, [1, 1], 0) else none)) else (if pc < 21 then (if pc = 20 then some (.lmul, [], 0) else none) else (if pc < 22 then (if pc = 21 then some (.aload_n 0, [0, 1], 0) else none) else (if pc = 22 then some (.iload_n 3, [3, 1], 0) else none)))) else (if pc < 27 then (if pc < 26 then (if pc = 23 then some (.invokevirtual 42, [105, 1, 1, 8], 0) else none) else (if pc = 26 then some (.i2l, [], 0) else none)) else (if pc < 28 then (if pc = 27 then some (.ladd, [], 0) else none) else (if pc < 29 then (if pc = 28 then some (.lmul, [], 0) else none) else (if pc = 29 then some (.aload_n 0, [0, 1], 0) else none)))))) else (if pc < 50 then (if pc < 37 then (if pc < 34 then (if pc < 31 then (if pc = 30 then some (.iload_n 3, [3, 1], 0) else none) else (if pc = 31 then some (.invokevirtual 46, [104, 1, 1, 8], 0) else none)) else (if pc < 35 then (if pc = 34 then some (.i2l, [], 0) else none) else (if pc < 36 then (if pc = 35 then some (.ladd, [], 0) else none) else (if pc = 36 then some (.lstore_n 1, [1, 1], 0) else none)))) else (if pc < 43 then (if pc < 40 then (if pc = 37 then some (.iinc 3 1, [3], 1) else none) else (if pc = 40 then some (.goto (-32), [8], 0) else none)) else (if pc < 46 then (if pc = 43 then some (.ldc2_w 40, [], 31) else none) else (if pc < 49 then (if pc = 46 then some (.ldc2_w 40, [], 31) else none) else (if pc = 49 then some (.lload_n 1, [1, 1], 0) else none))))) else (if pc < 57 then (if pc < 52 then (if pc < 51 then (if pc = 50 then some (.lmul, [], 0) else none) else (if pc = 51 then some (.aload_n 0, [0, 1], 0) else none)) else (if pc < 55 then (if pc = 52 then some (.invokevirtual 49, [96, 0, 1, 8], 0) else none) else (if pc < 56 then (if pc = 55 then some (.i2l, [], 0) else none) else (if pc = 56 then some (.ladd, [], 0) else none)))) else (if pc < 59 then (if pc < 58 then (if pc = 57 then some (.lmul, [], 0) else none) else (if pc = 58 then some (.aload_n 0, [0, 1], 0) else none)) else (if pc < 62 then (if pc = 59 then some (.invokevirtual 52, [81, 0, 1, 8], 0) else none) else (if pc < 63 then (if pc = 62 then some (.i2l, [], 0) else none) else (if pc = 63 then some (.ladd, [], 0) else none))))))) else (if pc < 98 then (if pc < 80 then (if pc < 69 then (if pc < 66 then (if pc < 65 then (if pc = 64 then some (.lstore_n 1, [1, 1], 0) else none) else (if pc = 65 then some (.iconst 0, [1], 0) else none)) else (if pc < 67 then (if pc = 66 then some (.istore_n 3, [3, 1], 0) else none) else (if pc < 68 then (if pc = 67 then some (.iload_n 3, [3, 1], 0) else none) else (if pc = 68 then some (.aload_n 0, [0, 1], 0) else none)))) else (if pc < 75 then (if pc < 72 then (if pc = 69 then some (.invokevirtual 49, [96, 0, 1, 8], 0) else none) else (if pc = 72 then some (.if_icmp .ge 40, [112], 0) else none)) else (if pc < 76 then (if pc = 75 then some (.iconst 0, [1], 0) else none) else (if pc < 78 then (if pc = 76 then some (.istore 4, [4, 2], 0) else none) else (if pc = 78 then some (.iload 4, [4, 2], 0) else none))))) else (if pc < 90 then (if pc < 85 then (if pc < 82 then (if pc = 80 then some (.bipush 6, [2], 6) else none) else (if pc = 82 then some (.if_icmp .ge 24, [106], 0) else none)) else (if pc < 88 then (if pc = 85 then some (.ldc2_w 40, [], 31) else none) else (if pc < 89 then (if pc = 88 then some (.lload_n 1, [1, 1], 0) else none) else (if pc = 89 then some (.lmul, [], 0) else none)))) else (if pc < 92 then (if pc < 91 then (if pc = 90 then some (.aload_n 0, [0, 1], 0) else none) else (if pc = 91 then some (.iload_n 3, [3, 1], 0) else none)) else (if pc < 94 then (if pc = 92 then some (.iload 4, [4, 2], 0) else none) else (if pc < 97 then (if pc = 94 then some (.invokevirtual 55, [97, 2, 1, 8], 0) else none) else (if pc = 97 then some (.i2l, [], 0) else none)))))) else (if pc < 116 then (if pc < 109 then (if pc < 100 then (if pc < 99 then (if pc = 98 then some (.ladd, [], 0) else none) else (if pc = 99 then some (.lstore_n 1, [1, 1], 0) else none)) else (if pc < 103 then (if pc = 100 then some (.iinc 4 1, [4], 1) else none) else (if pc < 106 then (if pc = 103 then some (.goto (-25), [78], 0) else none) else (if pc = 106 then some (.iinc 3 1, [3], 1) else none)))) else (if pc < 113 then (if pc < 112 then (if pc = 109 then some (.goto (-42), [67], 0) else none) else (if pc = 112 then some (.iconst 0, [1], 0) else none)) else (if pc < 114 then (if pc = 113 then some (.istore_n 3, [3, 1], 0) else none) else (if pc < 115 then (if pc = 114 then some (.aload_n 0, [0, 1], 0) else none) else (if pc = 115 then some (.iload_n 3, [3, 1], 0) else none))))) else (if pc < 129 then (if pc < 122 then (if pc < 119 then (if pc = 116 then some (.invokevirtual 58, [83, 1, 1, 8], 0) else none) else (if pc = 119 then some (.ifCond .lt 153, [272], 0) else none)) else (if pc < 125 then (if pc = 122 then some (.ldc2_w 40, [], 31) else none) else (if pc < 128 then (if pc = 125 then some (.ldc2_w 40, [], 31) else none) else (if pc = 128 then some (.lload_n 1, [1, 1], 0) else none)))) else (if pc < 131 then (if pc < 130 then (if pc = 129 then some (.lmul, [], 0) else none) else (if pc = 130 then some (.aload_n 0, [0, 1], 0) else none)) else (if pc < 132 then (if pc = 131 then some (.iload_n 3, [3, 1], 0) else none) else (if pc < 135 then (if pc = 132 then some (.invokevirtual 58, [83, 1, 1, 8], 0) else none) else (if pc = 135 then some (.i2l, [], 0) else none)))))))) else (if pc < 204 then (if pc < 167 then (if pc < 149 then (if pc < 143 then (if pc < 138 then (if pc < 137 then (if pc = 136 then some (.ladd, [], 0) else none) else (if pc = 137 then some (.lmul, [], 0) else none)) else (if pc < 139 then (if pc = 138 then some (.aload_n 0, [0, 1], 0) else none) else (if pc < 140 then (if pc = 139 then some (.iload_n 3, [3, 1], 0) else none) else (if pc = 140 then some (.invokevirtual 61, [92, 1, 1, 8], 0) else none)))) else (if pc < 145 then (if pc < 144 then (if pc = 143 then some (.i2l, [], 0) else none) else (if pc = 144 then some (.ladd, [], 0) else none)) else (if pc < 146 then (if pc = 145 then some (.lstore_n 1, [1, 1], 0) else none) else (if pc < 147 then (if pc = 146 then some (.iconst (-1), [1], (-1)) else none) else (if pc = 147 then some (.istore 4, [4, 2], 0) else none))))) else (if pc < 161 then (if pc < 152 then (if pc < 151 then (if pc = 149 then some (.iload 4, [4, 2], 0) else none) else (if pc = 151 then some (.iconst 5, [1], 5) else none)) else (if pc < 155 then (if pc = 152 then some (.if_icmp .ge 37, [189], 0) else none) else (if pc < 158 then (if pc = 155 then some (.ldc2_w 40, [], 31) else none) else (if pc = 158 then some (.ldc2_w 40, [], 31) else none)))) else (if pc < 163 then (if pc < 162 then (if pc = 161 then some (.lload_n 1, [1, 1], 0) else none) else (if pc = 162 then some (.lmul, [], 0) else none)) else (if pc < 164 then (if pc = 163 then some (.aload_n 0, [0, 1], 0) else none) else (if pc < 165 then (if pc = 164 then some (.iload_n 3, [3, 1], 0) else none) else (if pc = 165 then some (.iload 4, [4, 2], 0) else none)))))) else (if pc < 182 then (if pc < 174 then (if pc < 171 then (if pc < 170 then (if pc = 167 then some (.invokevirtual 64, [85, 2, 1, 8], 0) else none) else (if pc = 170 then some (.i2l, [], 0) else none)) else (if pc < 172 then (if pc = 171 then some (.ladd, [], 0) else none) else (if pc < 173 then (if pc = 172 then some (.lmul, [], 0) else none) else (if pc = 173 then some (.aload_n 0, [0, 1], 0) else none)))) else (if pc < 177 then (if pc < 175 then (if pc = 174 then some (.iload_n 3, [3, 1], 0) else none) else (if pc = 175 then some (.iload 4, [4, 2], 0) else none)) else (if pc < 180 then (if pc = 177 then some (.invokevirtual 67, [86, 2, 1, 8], 0) else none) else (if pc < 181 then (if pc = 180 then some (.i2l, [], 0) else none) else (if pc = 181 then some (.ladd, [], 0) else none))))) else (if pc < 192 then (if pc < 186 then (if pc < 183 then (if pc = 182 then some (.lstore_n 1, [1, 1], 0) else none) else (if pc = 183 then some (.iinc 4 1, [4], 1) else none)) else (if pc < 189 then (if pc = 186 then some (.goto (-37), [149], 0) else none) else (if pc < 190 then (if pc = 189 then some (.iconst 0, [1], 0) else none) else (if pc = 190 then some (.istore 4, [4, 2], 0) else none)))) else (if pc < 195 then (if pc < 194 then (if pc = 192 then some (.iload 4, [4, 2], 0) else none) else (if pc = 194 then some (.aload_n 0, [0, 1], 0) else none)) else (if pc < 198 then (if pc = 195 then some (.invokevirtual 52, [81, 0, 1, 8], 0) else none) else (if pc < 201 then (if pc = 198 then some (.if_icmp .ge 38, [236], 0) else none) else (if pc = 201 then some (.ldc2_w 40, [], 31) else none))))))) else (if pc < 236 then (if pc < 219 then (if pc < 211 then (if pc < 208 then (if pc < 207 then (if pc = 204 then some (.ldc2_w 40, [], 31) else none) else (if pc = 207 then some (.lload_n 1, [1, 1], 0) else none)) else (if pc < 209 then (if pc = 208 then some (.lmul, [], 0) else none) else (if pc < 210 then (if pc = 209 then some (.aload_n 0, [0, 1], 0) else none) else (if pc = 210 then some (.iload_n 3, [3, 1], 0) else none)))) else (if pc < 216 then (if pc < 213 then (if pc = 211 then some (.iload 4, [4, 2], 0) else none) else (if pc = 213 then some (.invokevirtual 70, [89, 2, 1, 8], 0) else none)) else (if pc < 217 then (if pc = 216 then some (.i2l, [], 0) else none) else (if pc < 218 then (if pc = 217 then some (.ladd, [], 0) else none) else (if pc = 218 then some (.lmul, [], 0) else none))))) else (if pc < 227 then (if pc < 221 then (if pc < 220 then (if pc = 219 then some (.aload_n 0, [0, 1], 0) else none) else (if pc = 220 then some (.iload_n 3, [3, 1], 0) else none)) else (if pc < 223 then (if pc = 221 then some (.iload 4, [4, 2], 0) else none) else (if pc < 224 then (if pc = 223 then some (.iconst 0, [1], 0) else none) else (if pc = 224 then some (.invokevirtual 73, [91, 3, 1, 8], 0) else none)))) else (if pc < 229 then (if pc < 228 then (if pc = 227 then some (.i2l, [], 0) else none) else (if pc = 228 then some (.ladd, [], 0) else none)) else (if pc < 230 then (if pc = 229 then some (.lstore_n 1, [1, 1], 0) else none) else (if pc < 233 then (if pc = 230 then some (.iinc 4 1, [4], 1) else none) else (if pc = 233 then some (.goto (-41), [192], 0) else none)))))) else (if pc < 252 then (if pc < 245 then (if pc < 239 then (if pc < 237 then (if pc = 236 then some (.iconst 0, [1], 0) else none) else (if pc = 237 then some (.istore 4, [4, 2], 0) else none)) else (if pc < 241 then (if pc = 239 then some (.iload 4, [4, 2], 0) else none) else (if pc < 242 then (if pc = 241 then some (.iconst 4, [1], 4) else none) else (if pc = 242 then some (.if_icmp .ge 24, [266], 0) else none)))) else (if pc < 249 then (if pc < 248 then (if pc = 245 then some (.ldc2_w 40, [], 31) else none) else (if pc = 248 then some (.lload_n 1, [1, 1], 0) else none)) else (if pc < 250 then (if pc = 249 then some (.lmul, [], 0) else none) else (if pc < 251 then (if pc = 250 then some (.aload_n 0, [0, 1], 0) else none) else (if pc = 251 then some (.iload_n 3, [3, 1], 0) else none))))) else (if pc < 260 then (if pc < 257 then (if pc < 254 then (if pc = 252 then some (.iload 4, [4, 2], 0) else none) else (if pc = 254 then some (.invokevirtual 77, [106, 2, 1, 8], 0) else none)) else (if pc < 258 then (if pc = 257 then some (.i2l, [], 0) else none) else (if pc < 259 then (if pc = 258 then some (.ladd, [], 0) else none) else (if pc = 259 then some (.lstore_n 1, [1, 1], 0) else none)))) else (if pc < 269 then (if pc < 263 then (if pc = 260 then some (.iinc 4 1, [4], 1) else none) else (if pc < 266 then (if pc = 263 then some (.goto (-24), [239], 0) else none) else (if pc = 266 then some (.iinc 3 1, [3], 1) else none))) else (if pc < 272 then (if pc = 269 then some (.goto (-155), [114], 0) else none) else (if pc < 273 then (if pc = 272 then some (.lload_n 1, [1, 1], 0) else none) else (if pc = 273 then some (.lreturn, [], 0) else none))))))))
-- heads of loops: [8, 67, 78, 114, 149, 192, 239]
def cd_L_refused (pc : Nat) : Option me_T := if pc < 325 then (if pc < 160 then (if pc < 78 then (if pc < 36 then (if pc < 18 then (if pc < 8 then (if pc < 5 then (if pc < 1 then (if pc = 0 then some (.aload_n 0, [0, 1], 0) else none) else (if pc < 4 then (if pc = 1 then some (.invokestatic 80, [114, 1, 4, 10], 1) else none) else (if pc = 4 then some (.lstore_n 3, [3, 1], 0) else none))) else (if pc < 6 then (if pc = 5 then some (.aload_n 0, [0, 1], 0) else none) else (if pc < 7 then (if pc = 6 then some (.iconst 0, [1], 0) else none) else (if pc = 7 then some (.iconst 0, [1], 0) else none)))) else (if pc < 13 then (if pc < 9 then (if pc = 8 then some (.iconst 1, [1], 1) else none) else (if pc < 10 then (if pc = 9 then some (.iconst 0, [1], 0) else none) else (if pc = 10 then some (.invokevirtual 19, [73, 4, 1, 8], 0) else none))) else (if pc < 14 then (if pc = 13 then some (.iconst (-1), [1], (-1)) else none) else (if pc < 17 then (if pc = 14 then some (.if_icmp .ne 112, [126], 0) else none) else (if pc = 17 then some (.aload_n 0, [0, 1], 0) else none))))) else (if pc < 28 then (if pc < 23 then (if pc < 21 then (if pc = 18 then some (.sipush 1001, [3], 1001) else none) else (if pc < 22 then (if pc = 21 then some (.iconst 0, [1], 0) else none) else (if pc = 22 then some (.iconst 1, [1], 1) else none))) else (if pc < 24 then (if pc = 23 then some (.iconst 0, [1], 0) else none) else (if pc < 27 then (if pc = 24 then some (.invokevirtual 19, [73, 4, 1, 8], 0) else none) else (if pc = 27 then some (.iconst (-1), [1], (-1)) else none)))) else (if pc < 33 then (if pc < 31 then (if pc = 28 then some (.if_icmp .ne 98, [126], 0) else none) else (if pc < 32 then (if pc = 31 then some (.aload_n 0, [0, 1], 0) else none) else (if pc = 32 then some (.iconst 5, [1], 5) else none))) else (if pc < 34 then (if pc = 33 then some (.iconst (-1), [1], (-1)) else none) else (if pc < 35 then (if pc = 34 then some (.iconst 1, [1], 1) else none) else (if pc = 35 then some (.iconst 0, [1], 0) else none)))))) else (if pc < 58 then (if pc < 48 then (if pc < 43 then (if pc < 39 then (if pc = 36 then some (.invokevirtual 19, [73, 4, 1, 8], 0) else none) else (if pc < 40 then (if pc = 39 then some (.iconst (-1), [1], (-1)) else none) else (if pc = 40 then some (.if_icmp .ne 86, [126], 0) else none))) else (if pc < 44 then (if pc = 43 then some (.aload_n 0, [0, 1], 0) else none) else (if pc < 45 then (if pc = 44 then some (.iconst 5, [1], 5) else none) else (if pc = 45 then some (.sipush 1001, [3], 1001) else none)))) else (if pc < 53 then (if pc < 49 then (if pc = 48 then some (.iconst 1, [1], 1) else none) else (if pc < 50 then (if pc = 49 then some (.iconst 0, [1], 0) else none) else (if pc = 50 then some (.invokevirtual 19, [73, 4, 1, 8], 0) else none))) else (if pc < 54 then (if pc = 53 then some (.iconst (-1), [1], (-1)) else none) else (if pc < 57 then (if pc = 54 then some (.if_icmp .ne 72, [126], 0) else none) else (if pc = 57 then some (.aload_n 0, [0, 1], 0) else none))))) else (if pc < 66 then (if pc < 61 then (if pc < 59 then (if pc = 58 then some (.iconst 5, [1], 5) else none) else (if pc < 60 then (if pc = 59 then some (.iconst 0, [1], 0) else none) else (if pc = 60 then some (.iconst 0, [1], 0) else none))) else (if pc < 62 then (if pc = 61 then some (.iconst 0, [1], 0) else none) else (if pc < 65 then (if pc = 62 then some (.invokevirtual 19, [73, 4, 1, 8], 0) else none) else (if pc = 65 then some (.iconst (-1), [1], (-1)) else none)))) else (if pc < 71 then (if pc < 69 then (if pc = 66 then some (.if_icmp .ne 60, [126], 0) else none) else (if pc < 70 then (if pc = 69 then some (.aload_n 0, [0, 1], 0) else none) else (if pc = 70 then some (.iconst 5, [1], 5) else none))) else (if pc < 74 then (if pc < 72 then (if pc = 71 then some (.iconst 0, [1], 0) else none) else (if pc = 72 then some (.bipush 6, [2], 6) else none)) else (if pc < 75 then (if pc = 74 then some (.iconst 0, [1], 0) else none) else (if pc = 75 then some (.invokevirtual 19, [73, 4, 1, 8], 0) else none))))))) else (if pc < 118 then (if pc < 96 then (if pc < 86 then (if pc < 83 then (if pc < 79 then (if pc = 78 then some (.iconst (-1), [1], (-1)) else none) else (if pc < 82 then (if pc = 79 then some (.if_icmp .ne 47, [126], 0) else none) else (if pc = 82 then some (.aload_n 0, [0, 1], 0) else none))) else (if pc < 84 then (if pc = 83 then some (.iconst 5, [1], 5) else none) else (if pc < 85 then (if pc = 84 then some (.iconst 0, [1], 0) else none) else (if pc = 85 then some (.iconst 1, [1], 1) else none)))) else (if pc < 91 then (if pc < 87 then (if pc = 86 then some (.iconst 3, [1], 3) else none) else (if pc < 90 then (if pc = 87 then some (.invokevirtual 19, [73, 4, 1, 8], 0) else none) else (if pc = 90 then some (.iconst (-1), [1], (-1)) else none))) else (if pc < 94 then (if pc = 91 then some (.if_icmp .ne 35, [126], 0) else none) else (if pc < 95 then (if pc = 94 then some (.aload_n 0, [0, 1], 0) else none) else (if pc = 95 then some (.iload_n 1, [1, 1], 0) else none))))) else (if pc < 106 then (if pc < 101 then (if pc < 97 then (if pc = 96 then some (.iconst 0, [1], 0) else none) else (if pc < 100 then (if pc = 97 then some (.invokevirtual 25, [74, 2, 1, 8], 0) else none) else (if pc = 100 then some (.iconst (-1), [1], (-1)) else none))) else (if pc < 104 then (if pc = 101 then some (.if_icmp .ne 25, [126], 0) else none) else (if pc < 105 then (if pc = 104 then some (.aload_n 0, [0, 1], 0) else none) else (if pc = 105 then some (.iconst 0, [1], 0) else none)))) else (if pc < 113 then (if pc < 109 then (if pc = 106 then some (.sipush 1001, [3], 1001) else none) else (if pc < 112 then (if pc = 109 then some (.invokevirtual 25, [74, 2, 1, 8], 0) else none) else (if pc = 112 then some (.iconst (-1), [1], (-1)) else none))) else (if pc < 116 then (if pc = 113 then some (.if_icmp .ne 13, [126], 0) else none) else (if pc < 117 then (if pc = 116 then some (.aload_n 0, [0, 1], 0) else none) else (if pc = 117 then some (.iconst 0, [1], 0) else none)))))) else (if pc < 138 then (if pc < 128 then (if pc < 123 then (if pc < 119 then (if pc = 118 then some (.iconst (-1), [1], (-1)) else none) else (if pc < 122 then (if pc = 119 then some (.invokevirtual 25, [74, 2, 1, 8], 0) else none) else (if pc = 122 then some (.iconst (-1), [1], (-1)) else none))) else (if pc < 126 then (if pc = 123 then some (.if_icmp .eq 5, [128], 0) else none) else (if pc < 127 then (if pc = 126 then some (.iconst 0, [1], 0) else none) else (if pc = 127 then some (.ireturn, [], 0) else none)))) else (if pc < 131 then (if pc < 129 then (if pc = 128 then some (.aload_n 0, [0, 1], 0) else none) else (if pc < 130 then (if pc = 129 then some (.iload_n 1, [1, 1], 0) else none) else (if pc = 130 then some (.iconst 0, [1], 0) else none))) else (if pc < 134 then (if pc = 131 then some (.invokevirtual 84, [75, 2, 1, 8], 0) else none) else (if pc < 135 then (if pc = 134 then some (.iconst (-1), [1], (-1)) else none) else (if pc = 135 then some (.if_icmp .ne 65, [200], 0) else none))))) else (if pc < 148 then (if pc < 141 then (if pc < 139 then (if pc = 138 then some (.aload_n 0, [0, 1], 0) else none) else (if pc < 140 then (if pc = 139 then some (.iconst 0, [1], 0) else none) else (if pc = 140 then some (.iconst (-1), [1], (-1)) else none))) else (if pc < 144 then (if pc = 141 then some (.invokevirtual 84, [75, 2, 1, 8], 0) else none) else (if pc < 145 then (if pc = 144 then some (.iconst (-1), [1], (-1)) else none) else (if pc = 145 then some (.if_icmp .ne 55, [200], 0) else none)))) else (if pc < 152 then (if pc < 149 then (if pc = 148 then some (.aload_n 0, [0, 1], 0) else none) else (if pc < 150 then (if pc = 149 then some (.iconst 0, [1], 0) else none) else (if pc = 150 then some (.ldc 87, [], 1000001) else none))) else (if pc < 156 then (if pc < 155 then (if pc = 152 then some (.invokevirtual 84, [75, 2, 1, 8], 0) else none) else (if pc = 155 then some (.iconst (-1), [1], (-1)) else none)) else (if pc < 159 then (if pc = 156 then some (.if_icmp .ne 44, [200], 0) else none) else (if pc = 159 then some (.aload_n 0, [0, 1], 0) else none)))))))) else (if pc < 242 then (if pc < 201 then (if pc < 181 then (if pc < 170 then (if pc < 165 then (if pc < 161 then (if pc = 160 then some (.iload_n 1, [1, 1], 0) else none) else (if pc < 162 then (if pc = 161 then some (.iconst 0, [1], 0) else none) else (if pc = 162 then some (.invokevirtual 88, [76, 2, 1, 8], 0) else none))) else (if pc < 166 then (if pc = 165 then some (.iconst (-1), [1], (-1)) else none) else (if pc < 169 then (if pc = 166 then some (.if_icmp .ne 34, [200], 0) else none) else (if pc = 169 then some (.aload_n 0, [0, 1], 0) else none)))) else (if pc < 176 then (if pc < 171 then (if pc = 170 then some (.iconst 0, [1], 0) else none) else (if pc < 173 then (if pc = 171 then some (.ldc 87, [], 1000001) else none) else (if pc = 173 then some (.invokevirtual 88, [76, 2, 1, 8], 0) else none))) else (if pc < 177 then (if pc = 176 then some (.iconst (-1), [1], (-1)) else none) else (if pc < 180 then (if pc = 177 then some (.if_icmp .ne 23, [200], 0) else none) else (if pc = 180 then some (.aload_n 0, [0, 1], 0) else none))))) else (if pc < 191 then (if pc < 186 then (if pc < 182 then (if pc = 181 then some (.iconst (-1), [1], (-1)) else none) else (if pc < 183 then (if pc = 182 then some (.iconst 0, [1], 0) else none) else (if pc = 183 then some (.invokevirtual 91, [77, 2, 1, 8], 0) else none))) else (if pc < 187 then (if pc = 186 then some (.iconst (-1), [1], (-1)) else none) else (if pc < 190 then (if pc = 187 then some (.if_icmp .ne 13, [200], 0) else none) else (if pc = 190 then some (.aload_n 0, [0, 1], 0) else none)))) else (if pc < 196 then (if pc < 192 then (if pc = 191 then some (.iconst 0, [1], 0) else none) else (if pc < 193 then (if pc = 192 then some (.iconst (-1), [1], (-1)) else none) else (if pc = 193 then some (.invokevirtual 91, [77, 2, 1, 8], 0) else none))) else (if pc < 197 then (if pc = 196 then some (.iconst (-1), [1], (-1)) else none) else (if pc < 200 then (if pc = 197 then some (.if_icmp .eq 5, [202], 0) else none) else (if pc = 200 then some (.iconst 0, [1], 0) else none)))))) else (if pc < 219 then (if pc < 209 then (if pc < 204 then (if pc < 202 then (if pc = 201 then some (.ireturn, [], 0) else none) else (if pc < 203 then (if pc = 202 then some (.aload_n 0, [0, 1], 0) else none) else (if pc = 203 then some (.iconst 0, [1], 0) else none))) else (if pc < 205 then (if pc = 204 then some (.iconst 0, [1], 0) else none) else (if pc < 206 then (if pc = 205 then some (.iconst 1, [1], 1) else none) else (if pc = 206 then some (.invokevirtual 94, [78, 3, 1, 8], 0) else none)))) else (if pc < 214 then (if pc < 210 then (if pc = 209 then some (.iconst (-1), [1], (-1)) else none) else (if pc < 213 then (if pc = 210 then some (.if_icmp .ne 103, [313], 0) else none) else (if pc = 213 then some (.aload_n 0, [0, 1], 0) else none))) else (if pc < 217 then (if pc = 214 then some (.sipush 321, [3], 321) else none) else (if pc < 218 then (if pc = 217 then some (.iconst 0, [1], 0) else none) else (if pc = 218 then some (.iconst 1, [1], 1) else none))))) else (if pc < 231 then (if pc < 226 then (if pc < 222 then (if pc = 219 then some (.invokevirtual 94, [78, 3, 1, 8], 0) else none) else (if pc < 223 then (if pc = 222 then some (.iconst (-1), [1], (-1)) else none) else (if pc = 223 then some (.if_icmp .ne 90, [313], 0) else none))) else (if pc < 227 then (if pc = 226 then some (.aload_n 0, [0, 1], 0) else none) else (if pc < 228 then (if pc = 227 then some (.iconst 1, [1], 1) else none) else (if pc = 228 then some (.sipush 256, [3], 256) else none)))) else (if pc < 236 then (if pc < 232 then (if pc = 231 then some (.iconst 1, [1], 1) else none) else (if pc < 235 then (if pc = 232 then some (.invokevirtual 94, [78, 3, 1, 8], 0) else none) else (if pc = 235 then some (.iconst (-1), [1], (-1)) else none))) else (if pc < 240 then (if pc < 239 then (if pc = 236 then some (.if_icmp .ne 77, [313], 0) else none) else (if pc = 239 then some (.aload_n 0, [0, 1], 0) else none)) else (if pc < 241 then (if pc = 240 then some (.iconst 1, [1], 1) else none) else (if pc = 241 then some (.iconst (-1), [1], (-1)) else none))))))) else (if pc < 284 then (if pc < 262 then (if pc < 252 then (if pc < 247 then (if pc < 243 then (if pc = 242 then some (.iconst 1, [1], 1) else none) else (if pc < 246 then (if pc = 243 then some (.invokevirtual 94, [78, 3, 1, 8], 0) else none) else (if pc = 246 then some (.iconst (-1), [1], (-1)) else none))) else (if pc < 250 then (if pc = 247 then some (.if_icmp .ne 66, [313], 0) else none) else (if pc < 251 then (if pc = 250 then some (.aload_n 0, [0, 1], 0) else none) else (if pc = 251 then some (.iconst 1, [1], 1) else none)))) else (if pc < 257 then (if pc < 253 then (if pc = 252 then some (.iconst 0, [1], 0) else none) else (if pc < 254 then (if pc = 253 then some (.iconst 0, [1], 0) else none) else (if pc = 254 then some (.invokevirtual 94, [78, 3, 1, 8], 0) else none))) else (if pc < 258 then (if pc = 257 then some (.iconst (-1), [1], (-1)) else none) else (if pc < 261 then (if pc = 258 then some (.if_icmp .ne 55, [313], 0) else none) else (if pc = 261 then some (.aload_n 0, [0, 1], 0) else none))))) else (if pc < 273 then (if pc < 266 then (if pc < 263 then (if pc = 262 then some (.iconst 1, [1], 1) else none) else (if pc < 264 then (if pc = 263 then some (.iconst 0, [1], 0) else none) else (if pc = 264 then some (.ldc 97, [], 100001) else none))) else (if pc < 269 then (if pc = 266 then some (.invokevirtual 94, [78, 3, 1, 8], 0) else none) else (if pc < 270 then (if pc = 269 then some (.iconst (-1), [1], (-1)) else none) else (if pc = 270 then some (.if_icmp .ne 43, [313], 0) else none)))) else (if pc < 276 then (if pc < 274 then (if pc = 273 then some (.aload_n 0, [0, 1], 0) else none) else (if pc < 275 then (if pc = 274 then some (.iload_n 2, [2, 1], 0) else none) else (if pc = 275 then some (.iconst 0, [1], 0) else none))) else (if pc < 280 then (if pc < 279 then (if pc = 276 then some (.invokevirtual 98, [79, 2, 1, 8], 0) else none) else (if pc = 279 then some (.iconst (-1), [1], (-1)) else none)) else (if pc < 283 then (if pc = 280 then some (.if_icmp .ne 33, [313], 0) else none) else (if pc = 283 then some (.aload_n 0, [0, 1], 0) else none)))))) else (if pc < 304 then (if pc < 294 then (if pc < 289 then (if pc < 285 then (if pc = 284 then some (.iconst 0, [1], 0) else none) else (if pc < 286 then (if pc = 285 then some (.iconst 4, [1], 4) else none) else (if pc = 286 then some (.invokevirtual 98, [79, 2, 1, 8], 0) else none))) else (if pc < 290 then (if pc = 289 then some (.iconst (-1), [1], (-1)) else none) else (if pc < 293 then (if pc = 290 then some (.if_icmp .ne 23, [313], 0) else none) else (if pc = 293 then some (.aload_n 0, [0, 1], 0) else none)))) else (if pc < 299 then (if pc < 295 then (if pc = 294 then some (.iload_n 2, [2, 1], 0) else none) else (if pc < 296 then (if pc = 295 then some (.iconst 0, [1], 0) else none) else (if pc = 296 then some (.invokevirtual 101, [80, 2, 1, 8], 0) else none))) else (if pc < 300 then (if pc = 299 then some (.iconst (-1), [1], (-1)) else none) else (if pc < 303 then (if pc = 300 then some (.if_icmp .ne 13, [313], 0) else none) else (if pc = 303 then some (.aload_n 0, [0, 1], 0) else none))))) else (if pc < 314 then (if pc < 309 then (if pc < 305 then (if pc = 304 then some (.iconst 0, [1], 0) else none) else (if pc < 306 then (if pc = 305 then some (.iconst (-1), [1], (-1)) else none) else (if pc = 306 then some (.invokevirtual 101, [80, 2, 1, 8], 0) else none))) else (if pc < 310 then (if pc = 309 then some (.iconst (-1), [1], (-1)) else none) else (if pc < 313 then (if pc = 310 then some (.if_icmp .eq 5, [315], 0) else none) else (if pc = 313 then some (.iconst 0, [1], 0) else none)))) else (if pc < 317 then (if pc < 315 then (if pc = 314 then some (.ireturn, [], 0) else none) else (if pc < 316 then (if pc = 315 then some (.aload_n 0, [0, 1], 0) else none) else (if pc = 316 then some (.iload_n 1, [1, 1], 0) else none))) else (if pc < 321 then (if pc < 320 then (if pc = 317 then some (.invokevirtual 58, [83, 1, 1, 8], 0) else none) else (if pc = 320 then some (.iconst (-1), [1], (-1)) else none)) else (if pc < 324 then (if pc = 321 then some (.if_icmp .ne 137, [458], 0) else none) else (if pc = 324 then some (.aload_n 0, [0, 1], 0) else none))))))))) else (if pc < 490 then (if pc < 408 then (if pc < 366 then (if pc < 345 then (if pc < 335 then (if pc < 330 then (if pc < 326 then (if pc = 325 then some (.iload_n 1, [1, 1], 0) else none) else (if pc < 329 then (if pc = 326 then some (.invokevirtual 104, [84, 1, 1, 8], 0) else none) else (if pc = 329 then some (.iconst (-1), [1], (-1)) else none))) else (if pc < 333 then (if pc = 330 then some (.if_icmp .ne 128, [458], 0) else none) else (if pc < 334 then (if pc = 333 then some (.aload_n 0, [0, 1], 0) else none) else (if pc = 334 then some (.iload_n 1, [1, 1], 0) else none)))) else (if pc < 340 then (if pc < 336 then (if pc = 335 then some (.iconst (-1), [1], (-1)) else none) else (if pc < 339 then (if pc = 336 then some (.invokevirtual 64, [85, 2, 1, 8], 0) else none) else (if pc = 339 then some (.iconst (-1), [1], (-1)) else none))) else (if pc < 343 then (if pc = 340 then some (.if_icmp .ne 118, [458], 0) else none) else (if pc < 344 then (if pc = 343 then some (.aload_n 0, [0, 1], 0) else none) else (if pc = 344 then some (.iconst 0, [1], 0) else none))))) else (if pc < 356 then (if pc < 351 then (if pc < 347 then (if pc = 345 then some (.bipush (-2), [2], (-2)) else none) else (if pc < 350 then (if pc = 347 then some (.invokevirtual 64, [85, 2, 1, 8], 0) else none) else (if pc = 350 then some (.iconst (-1), [1], (-1)) else none))) else (if pc < 354 then (if pc = 351 then some (.if_icmp .ne 107, [458], 0) else none) else (if pc < 355 then (if pc = 354 then some (.aload_n 0, [0, 1], 0) else none) else (if pc = 355 then some (.iload_n 1, [1, 1], 0) else none)))) else (if pc < 361 then (if pc < 357 then (if pc = 356 then some (.iconst 0, [1], 0) else none) else (if pc < 360 then (if pc = 357 then some (.invokevirtual 67, [86, 2, 1, 8], 0) else none) else (if pc = 360 then some (.iconst (-1), [1], (-1)) else none))) else (if pc < 364 then (if pc = 361 then some (.if_icmp .ne 97, [458], 0) else none) else (if pc < 365 then (if pc = 364 then some (.aload_n 0, [0, 1], 0) else none) else (if pc = 365 then some (.iconst 0, [1], 0) else none)))))) else (if pc < 387 then (if pc < 377 then (if pc < 372 then (if pc < 368 then (if pc = 366 then some (.bipush (-2), [2], (-2)) else none) else (if pc < 371 then (if pc = 368 then some (.invokevirtual 67, [86, 2, 1, 8], 0) else none) else (if pc = 371 then some (.iconst (-1), [1], (-1)) else none))) else (if pc < 375 then (if pc = 372 then some (.if_icmp .ne 86, [458], 0) else none) else (if pc < 376 then (if pc = 375 then some (.aload_n 0, [0, 1], 0) else none) else (if pc = 376 then some (.iload_n 1, [1, 1], 0) else none)))) else (if pc < 382 then (if pc < 378 then (if pc = 377 then some (.iconst 0, [1], 0) else none) else (if pc < 381 then (if pc = 378 then some (.invokevirtual 107, [87, 2, 1, 8], 0) else none) else (if pc = 381 then some (.iconst (-1), [1], (-1)) else none))) else (if pc < 385 then (if pc = 382 then some (.if_icmp .ne 76, [458], 0) else none) else (if pc < 386 then (if pc = 385 then some (.aload_n 0, [0, 1], 0) else none) else (if pc = 386 then some (.iconst 0, [1], 0) else none))))) else (if pc < 397 then (if pc < 392 then (if pc < 388 then (if pc = 387 then some (.iload_n 2, [2, 1], 0) else none) else (if pc < 391 then (if pc = 388 then some (.invokevirtual 107, [87, 2, 1, 8], 0) else none) else (if pc = 391 then some (.iconst (-1), [1], (-1)) else none))) else (if pc < 395 then (if pc = 392 then some (.if_icmp .ne 66, [458], 0) else none) else (if pc < 396 then (if pc = 395 then some (.aload_n 0, [0, 1], 0) else none) else (if pc = 396 then some (.iconst 0, [1], 0) else none)))) else (if pc < 402 then (if pc < 398 then (if pc = 397 then some (.iload_n 2, [2, 1], 0) else none) else (if pc < 401 then (if pc = 398 then some (.invokevirtual 110, [88, 2, 1, 8], 0) else none) else (if pc = 401 then some (.iconst (-1), [1], (-1)) else none))) else (if pc < 406 then (if pc < 405 then (if pc = 402 then some (.if_icmp .ne 56, [458], 0) else none) else (if pc = 405 then some (.aload_n 0, [0, 1], 0) else none)) else (if pc < 407 then (if pc = 406 then some (.iconst 0, [1], 0) else none) else (if pc = 407 then some (.iload_n 2, [2, 1], 0) else none))))))) else (if pc < 449 then (if pc < 428 then (if pc < 418 then (if pc < 415 then (if pc < 411 then (if pc = 408 then some (.invokevirtual 70, [89, 2, 1, 8], 0) else none) else (if pc < 412 then (if pc = 411 then some (.iconst (-1), [1], (-1)) else none) else (if pc = 412 then some (.if_icmp .ne 46, [458], 0) else none))) else (if pc < 416 then (if pc = 415 then some (.aload_n 0, [0, 1], 0) else none) else (if pc < 417 then (if pc = 416 then some (.iconst 0, [1], 0) else none) else (if pc = 417 then some (.iconst 0, [1], 0) else none)))) else (if pc < 423 then (if pc < 419 then (if pc = 418 then some (.iconst (-1), [1], (-1)) else none) else (if pc < 422 then (if pc = 419 then some (.invokevirtual 113, [90, 3, 1, 8], 0) else none) else (if pc = 422 then some (.iconst (-1), [1], (-1)) else none))) else (if pc < 426 then (if pc = 423 then some (.if_icmp .ne 35, [458], 0) else none) else (if pc < 427 then (if pc = 426 then some (.aload_n 0, [0, 1], 0) else none) else (if pc = 427 then some (.iconst 0, [1], 0) else none))))) else (if pc < 439 then (if pc < 434 then (if pc < 429 then (if pc = 428 then some (.iconst 0, [1], 0) else none) else (if pc < 431 then (if pc = 429 then some (.bipush (-2), [2], (-2)) else none) else (if pc = 431 then some (.invokevirtual 73, [91, 3, 1, 8], 0) else none))) else (if pc < 435 then (if pc = 434 then some (.iconst (-1), [1], (-1)) else none) else (if pc < 438 then (if pc = 435 then some (.if_icmp .ne 23, [458], 0) else none) else (if pc = 438 then some (.aload_n 0, [0, 1], 0) else none)))) else (if pc < 442 then (if pc < 440 then (if pc = 439 then some (.iload_n 1, [1, 1], 0) else none) else (if pc < 441 then (if pc = 440 then some (.iconst 0, [1], 0) else none) else (if pc = 441 then some (.iconst 0, [1], 0) else none))) else (if pc < 445 then (if pc = 442 then some (.invokevirtual 73, [91, 3, 1, 8], 0) else none) else (if pc < 446 then (if pc = 445 then some (.iconst (-1), [1], (-1)) else none) else (if pc = 446 then some (.if_icmp .ne 12, [458], 0) else none)))))) else (if pc < 469 then (if pc < 459 then (if pc < 454 then (if pc < 450 then (if pc = 449 then some (.aload_n 0, [0, 1], 0) else none) else (if pc < 451 then (if pc = 450 then some (.iload_n 1, [1, 1], 0) else none) else (if pc = 451 then some (.invokevirtual 61, [92, 1, 1, 8], 0) else none))) else (if pc < 455 then (if pc = 454 then some (.iconst (-1), [1], (-1)) else none) else (if pc < 458 then (if pc = 455 then some (.if_icmp .eq 5, [460], 0) else none) else (if pc = 458 then some (.iconst 0, [1], 0) else none)))) else (if pc < 462 then (if pc < 460 then (if pc = 459 then some (.ireturn, [], 0) else none) else (if pc < 461 then (if pc = 460 then some (.aload_n 0, [0, 1], 0) else none) else (if pc = 461 then some (.iload_n 1, [1, 1], 0) else none))) else (if pc < 465 then (if pc = 462 then some (.invokevirtual 116, [93, 1, 1, 8], 0) else none) else (if pc < 466 then (if pc = 465 then some (.iconst (-1), [1], (-1)) else none) else (if pc = 466 then some (.if_icmp .ne 95, [561], 0) else none))))) else (if pc < 479 then (if pc < 472 then (if pc < 470 then (if pc = 469 then some (.aload_n 0, [0, 1], 0) else none) else (if pc < 471 then (if pc = 470 then some (.iconst 0, [1], 0) else none) else (if pc = 471 then some (.iload_n 2, [2, 1], 0) else none))) else (if pc < 475 then (if pc = 472 then some (.invokevirtual 119, [94, 2, 1, 8], 0) else none) else (if pc < 476 then (if pc = 475 then some (.iconst (-1), [1], (-1)) else none) else (if pc = 476 then some (.if_icmp .ne 85, [561], 0) else none)))) else (if pc < 482 then (if pc < 480 then (if pc = 479 then some (.aload_n 0, [0, 1], 0) else none) else (if pc < 481 then (if pc = 480 then some (.iload_n 1, [1, 1], 0) else none) else (if pc = 481 then some (.iconst 0, [1], 0) else none))) else (if pc < 486 then (if pc < 485 then (if pc = 482 then some (.invokevirtual 119, [94, 2, 1, 8], 0) else none) else (if pc = 485 then some (.iconst (-1), [1], (-1)) else none)) else (if pc < 489 then (if pc = 486 then some (.if_icmp .ne 75, [561], 0) else none) else (if pc = 489 then some (.aload_n 0, [0, 1], 0) else none)))))))) else (if pc < 583 then (if pc < 534 then (if pc < 511 then (if pc < 500 then (if pc < 495 then (if pc < 491 then (if pc = 490 then some (.iload_n 1, [1, 1], 0) else none) else (if pc < 494 then (if pc = 491 then some (.invokevirtual 122, [95, 1, 1, 8], 0) else none) else (if pc = 494 then some (.iconst (-1), [1], (-1)) else none))) else (if pc < 498 then (if pc = 495 then some (.if_icmp .ne 66, [561], 0) else none) else (if pc < 499 then (if pc = 498 then some (.aload_n 0, [0, 1], 0) else none) else (if pc = 499 then some (.iconst (-1), [1], (-1)) else none)))) else (if pc < 505 then (if pc < 501 then (if pc = 500 then some (.iconst 0, [1], 0) else none) else (if pc < 504 then (if pc = 501 then some (.invokevirtual 55, [97, 2, 1, 8], 0) else none) else (if pc = 504 then some (.iconst (-1), [1], (-1)) else none))) else (if pc < 508 then (if pc = 505 then some (.if_icmp .ne 56, [561], 0) else none) else (if pc < 509 then (if pc = 508 then some (.aload_n 0, [0, 1], 0) else none) else (if pc = 509 then some (.bipush 99, [2], 99) else none))))) else (if pc < 523 then (if pc < 517 then (if pc < 513 then (if pc = 511 then some (.bipush 6, [2], 6) else none) else (if pc < 516 then (if pc = 513 then some (.invokevirtual 55, [97, 2, 1, 8], 0) else none) else (if pc = 516 then some (.iconst (-1), [1], (-1)) else none))) else (if pc < 520 then (if pc = 517 then some (.if_icmp .ne 44, [561], 0) else none) else (if pc < 521 then (if pc = 520 then some (.aload_n 0, [0, 1], 0) else none) else (if pc = 521 then some (.bipush 99, [2], 99) else none)))) else (if pc < 529 then (if pc < 524 then (if pc = 523 then some (.iconst 0, [1], 0) else none) else (if pc < 527 then (if pc = 524 then some (.invokevirtual 55, [97, 2, 1, 8], 0) else none) else (if pc = 527 then some (.bipush (-4), [2], (-4)) else none))) else (if pc < 532 then (if pc = 529 then some (.if_icmp .ne 32, [561], 0) else none) else (if pc < 533 then (if pc = 532 then some (.aload_n 0, [0, 1], 0) else none) else (if pc = 533 then some (.iload_n 1, [1, 1], 0) else none)))))) else (if pc < 558 then (if pc < 547 then (if pc < 541 then (if pc < 537 then (if pc = 534 then some (.invokevirtual 125, [101, 1, 1, 8], 0) else none) else (if pc < 538 then (if pc = 537 then some (.iconst (-1), [1], (-1)) else none) else (if pc = 538 then some (.if_icmp .ne 23, [561], 0) else none))) else (if pc < 542 then (if pc = 541 then some (.aload_n 0, [0, 1], 0) else none) else (if pc < 544 then (if pc = 542 then some (.bipush 31, [2], 31) else none) else (if pc = 544 then some (.invokevirtual 128, [98, 1, 1, 8], 0) else none)))) else (if pc < 552 then (if pc < 548 then (if pc = 547 then some (.iconst (-1), [1], (-1)) else none) else (if pc < 551 then (if pc = 548 then some (.if_icmp .ne 13, [561], 0) else none) else (if pc = 551 then some (.aload_n 0, [0, 1], 0) else none))) else (if pc < 554 then (if pc = 552 then some (.bipush 127, [2], 127) else none) else (if pc < 557 then (if pc = 554 then some (.invokevirtual 128, [98, 1, 1, 8], 0) else none) else (if pc = 557 then some (.iconst (-1), [1], (-1)) else none))))) else (if pc < 568 then (if pc < 563 then (if pc < 561 then (if pc = 558 then some (.if_icmp .eq 5, [563], 0) else none) else (if pc < 562 then (if pc = 561 then some (.iconst 0, [1], 0) else none) else (if pc = 562 then some (.ireturn, [], 0) else none))) else (if pc < 564 then (if pc = 563 then some (.aload_n 0, [0, 1], 0) else none) else (if pc < 565 then (if pc = 564 then some (.iconst 0, [1], 0) else none) else (if pc = 565 then some (.invokevirtual 131, [102, 1, 1, 8], 0) else none)))) else (if pc < 573 then (if pc < 569 then (if pc = 568 then some (.iconst (-1), [1], (-1)) else none) else (if pc < 572 then (if pc = 569 then some (.if_icmp .ne 81, [650], 0) else none) else (if pc = 572 then some (.aload_n 0, [0, 1], 0) else none))) else (if pc < 579 then (if pc < 576 then (if pc = 573 then some (.sipush 1001, [3], 1001) else none) else (if pc = 576 then some (.invokevirtual 131, [102, 1, 1, 8], 0) else none)) else (if pc < 580 then (if pc = 579 then some (.iconst (-1), [1], (-1)) else none) else (if pc = 580 then some (.if_icmp .ne 70, [650], 0) else none))))))) else (if pc < 626 then (if pc < 603 then (if pc < 593 then (if pc < 588 then (if pc < 584 then (if pc = 583 then some (.aload_n 0, [0, 1], 0) else none) else (if pc < 585 then (if pc = 584 then some (.iconst 5, [1], 5) else none) else (if pc = 585 then some (.invokevirtual 46, [104, 1, 1, 8], 0) else none))) else (if pc < 589 then (if pc = 588 then some (.iconst (-1), [1], (-1)) else none) else (if pc < 592 then (if pc = 589 then some (.if_icmp .ne 61, [650], 0) else none) else (if pc = 592 then some (.aload_n 0, [0, 1], 0) else none)))) else (if pc < 598 then (if pc < 594 then (if pc = 593 then some (.iconst (-1), [1], (-1)) else none) else (if pc < 597 then (if pc = 594 then some (.invokevirtual 46, [104, 1, 1, 8], 0) else none) else (if pc = 597 then some (.iconst (-1), [1], (-1)) else none))) else (if pc < 601 then (if pc = 598 then some (.if_icmp .ne 52, [650], 0) else none) else (if pc < 602 then (if pc = 601 then some (.aload_n 0, [0, 1], 0) else none) else (if pc = 602 then some (.iconst 5, [1], 5) else none))))) else (if pc < 613 then (if pc < 610 then (if pc < 606 then (if pc = 603 then some (.invokevirtual 42, [105, 1, 1, 8], 0) else none) else (if pc < 607 then (if pc = 606 then some (.iconst (-1), [1], (-1)) else none) else (if pc = 607 then some (.if_icmp .ne 43, [650], 0) else none))) else (if pc < 611 then (if pc = 610 then some (.aload_n 0, [0, 1], 0) else none) else (if pc < 612 then (if pc = 611 then some (.iload_n 1, [1, 1], 0) else none) else (if pc = 612 then some (.iconst 0, [1], 0) else none)))) else (if pc < 620 then (if pc < 616 then (if pc = 613 then some (.invokevirtual 77, [106, 2, 1, 8], 0) else none) else (if pc < 617 then (if pc = 616 then some (.iconst (-1), [1], (-1)) else none) else (if pc = 617 then some (.if_icmp .ne 33, [650], 0) else none))) else (if pc < 622 then (if pc < 621 then (if pc = 620 then some (.aload_n 0, [0, 1], 0) else none) else (if pc = 621 then some (.iconst 0, [1], 0) else none)) else (if pc < 623 then (if pc = 622 then some (.iconst 4, [1], 4) else none) else (if pc = 623 then some (.invokevirtual 77, [106, 2, 1, 8], 0) else none)))))) else (if pc < 646 then (if pc < 636 then (if pc < 631 then (if pc < 627 then (if pc = 626 then some (.iconst (-1), [1], (-1)) else none) else (if pc < 630 then (if pc = 627 then some (.if_icmp .ne 23, [650], 0) else none) else (if pc = 630 then some (.aload_n 0, [0, 1], 0) else none))) else (if pc < 632 then (if pc = 631 then some (.iload_n 1, [1, 1], 0) else none) else (if pc < 633 then (if pc = 632 then some (.iconst 0, [1], 0) else none) else (if pc = 633 then some (.invokevirtual 134, [107, 2, 1, 8], 0) else none)))) else (if pc < 641 then (if pc < 637 then (if pc = 636 then some (.iconst (-1), [1], (-1)) else none) else (if pc < 640 then (if pc = 637 then some (.if_icmp .ne 13, [650], 0) else none) else (if pc = 640 then some (.aload_n 0, [0, 1], 0) else none))) else (if pc < 642 then (if pc = 641 then some (.iconst 0, [1], 0) else none) else (if pc < 643 then (if pc = 642 then some (.iload_n 2, [2, 1], 0) else none) else (if pc = 643 then some (.invokevirtual 134, [107, 2, 1, 8], 0) else none))))) else (if pc < 656 then (if pc < 651 then (if pc < 647 then (if pc = 646 then some (.iconst (-1), [1], (-1)) else none) else (if pc < 650 then (if pc = 647 then some (.if_icmp .eq 5, [652], 0) else none) else (if pc = 650 then some (.iconst 0, [1], 0) else none))) else (if pc < 652 then (if pc = 651 then some (.ireturn, [], 0) else none) else (if pc < 653 then (if pc = 652 then some (.aload_n 0, [0, 1], 0) else none) else (if pc = 653 then some (.invokestatic 80, [114, 1, 4, 10], 1) else none)))) else (if pc < 661 then (if pc < 657 then (if pc = 656 then some (.lload_n 3, [3, 1], 0) else none) else (if pc < 658 then (if pc = 657 then some (.lcmp, [], 0) else none) else (if pc = 658 then some (.ifCond .ne 7, [665], 0) else none))) else (if pc < 665 then (if pc < 662 then (if pc = 661 then some (.iconst 1, [1], 1) else none) else (if pc = 662 then some (.goto 4, [666], 0) else none)) else (if pc < 666 then (if pc = 665 then some (.iconst 0, [1], 0) else none) else (if pc = 666 then some (.ireturn, [], 0) else none)))))))))
def cd_L_types (pc : Nat) : Option me_T := if pc < 21 then (if pc < 11 then (if pc < 4 then (if pc < 1 then (if pc = 0 then some (.iconst 0, [1], 0) else none) else (if pc < 2 then (if pc = 1 then some (.istore_n 3, [3, 1], 0) else none) else (if pc = 2 then some (.bipush 7, [2], 7) else none))) else (if pc < 6 then (if pc = 4 then some (.istore 4, [4, 2], 0) else none) else (if pc < 8 then (if pc = 6 then some (.iload 4, [4, 2], 0) else none) else (if pc = 8 then some (.ifCond .lt 35, [43], 0) else none)))) else (if pc < 16 then (if pc < 12 then (if pc = 11 then some (.lload_n 1, [1, 1], 0) else none) else (if pc < 14 then (if pc = 12 then some (.bipush 8, [2], 8) else none) else (if pc = 14 then some (.iload 4, [4, 2], 0) else none))) else (if pc < 17 then (if pc = 16 then some (.imul, [], 0) else none) else (if pc < 18 then (if pc = 17 then some (.lshr, [], 0) else none) else (if pc = 18 then some (.ldc2_w 137, [], 255) else none))))) else (if pc < 31 then (if pc < 25 then (if pc < 22 then (if pc = 21 then some (.land, [], 0) else none) else (if pc < 23 then (if pc = 22 then some (.l2i, [], 0) else none) else (if pc = 23 then some (.istore 5, [5, 2], 0) else none))) else (if pc < 27 then (if pc = 25 then some (.iload 5, [5, 2], 0) else none) else (if pc < 30 then (if pc = 27 then some (.ifCond .eq 10, [37], 0) else none) else (if pc = 30 then some (.aload_n 0, [0, 1], 0) else none)))) else (if pc < 37 then (if pc < 33 then (if pc = 31 then some (.iload 5, [5, 2], 0) else none) else (if pc < 36 then (if pc = 33 then some (.invokevirtual 128, [98, 1, 1, 8], 0) else none) else (if pc = 36 then some (.istore_n 3, [3, 1], 0) else none))) else (if pc < 43 then (if pc < 40 then (if pc = 37 then some (.iinc 4 (-1), [4], (-1)) else none) else (if pc = 40 then some (.goto (-34), [6], 0) else none)) else (if pc < 44 then (if pc = 43 then some (.iload_n 3, [3, 1], 0) else none) else (if pc = 44 then some (.ireturn, [], 0) else none)))))
-- heads of loops: [6]
def cd_L_faultOf (pc : Nat) : Option me_T := if pc < 11 then (if pc < 5 then (if pc < 1 then (if pc = 0 then some (.aload_n 0, [0, 1], 0) else none) else (if pc < 4 then (if pc = 1 then some (.invokevirtual 139, [99, 0, 1, 8], 0) else none) else (if pc = 4 then some (.pop, [], 0) else none))) else (if pc < 7 then (if pc < 6 then (if pc = 5 then some (.aload_n 0, [0, 1], 0) else none) else (if pc = 6 then some (.lload_n 1, [1, 1], 0) else none)) else (if pc < 10 then (if pc = 7 then some (.invokestatic 142, [116, 2, 1, 10], 1) else none) else (if pc = 10 then some (.pop, [], 0) else none)))) else (if pc < 16 then (if pc < 12 then (if pc = 11 then some (.aload_n 0, [0, 1], 0) else none) else (if pc < 13 then (if pc = 12 then some (.lload_n 3, [3, 1], 0) else none) else (if pc = 13 then some (.invokestatic 142, [116, 2, 1, 10], 1) else none))) else (if pc < 18 then (if pc < 17 then (if pc = 16 then some (.pop, [], 0) else none) else (if pc = 17 then some (.aload_n 0, [0, 1], 0) else none)) else (if pc < 21 then (if pc = 18 then some (.invokevirtual 146, [100, 0, 1, 8], 0) else none) else (if pc = 21 then some (.ireturn, [], 0) else none))))
def cd_L_texts (pc : Nat) : Option me_T := if pc < 160 then (if pc < 80 then (if pc < 41 then (if pc < 20 then (if pc < 8 then (if pc < 4 then (if pc < 1 then (if pc = 0 then some (.aload_n 0, [0, 1], 0) else none) else (if pc = 1 then some (.ldc2_w 149, [], 1681535035) else none)) else (if pc < 5 then (if pc = 4 then some (.lconst 0, [], 0) else none) else (if pc = 5 then some (.invokestatic 151, [117, 3, 1, 10], 1) else none))) else (if pc < 13 then (if pc < 10 then (if pc = 8 then some (.bipush (-4), [2], (-4)) else none) else (if pc = 10 then some (.if_icmp .ne 86, [96], 0) else none)) else (if pc < 14 then (if pc = 13 then some (.aload_n 0, [0, 1], 0) else none) else (if pc < 17 then (if pc = 14 then some (.ldc2_w 155, [], 7363730852908706871) else none) else (if pc = 17 then some (.ldc2_w 157, [], 59) else none))))) else (if pc < 30 then (if pc < 25 then (if pc < 23 then (if pc = 20 then some (.invokestatic 151, [117, 3, 1, 10], 1) else none) else (if pc = 23 then some (.bipush (-4), [2], (-4)) else none)) else (if pc < 28 then (if pc = 25 then some (.if_icmp .ne 71, [96], 0) else none) else (if pc < 29 then (if pc = 28 then some (.aload_n 0, [0, 1], 0) else none) else (if pc = 29 then some (.lconst 0, [], 0) else none)))) else (if pc < 34 then (if pc < 31 then (if pc = 30 then some (.lconst 0, [], 0) else none) else (if pc = 31 then some (.invokestatic 151, [117, 3, 1, 10], 1) else none)) else (if pc < 37 then (if pc = 34 then some (.ifCond .ne 62, [96], 0) else none) else (if pc < 38 then (if pc = 37 then some (.aload_n 0, [0, 1], 0) else none) else (if pc = 38 then some (.ldc2_w 159, [], 100) else none)))))) else (if pc < 58 then (if pc < 49 then (if pc < 45 then (if pc < 42 then (if pc = 41 then some (.lconst 0, [], 0) else none) else (if pc = 42 then some (.invokestatic 151, [117, 3, 1, 10], 1) else none)) else (if pc < 46 then (if pc = 45 then some (.iconst 1, [1], 1) else none) else (if pc = 46 then some (.if_icmp .ne 50, [96], 0) else none))) else (if pc < 53 then (if pc < 50 then (if pc = 49 then some (.aload_n 0, [0, 1], 0) else none) else (if pc = 50 then some (.ldc2_w 161, [], 430472968992) else none)) else (if pc < 54 then (if pc = 53 then some (.lconst 0, [], 0) else none) else (if pc < 57 then (if pc = 54 then some (.invokestatic 151, [117, 3, 1, 10], 1) else none) else (if pc = 57 then some (.iconst 4, [1], 4) else none))))) else (if pc < 69 then (if pc < 62 then (if pc < 61 then (if pc = 58 then some (.if_icmp .ne 38, [96], 0) else none) else (if pc = 61 then some (.aload_n 0, [0, 1], 0) else none)) else (if pc < 65 then (if pc = 62 then some (.ldc2_w 163, [], 25914) else none) else (if pc < 66 then (if pc = 65 then some (.lconst 0, [], 0) else none) else (if pc = 66 then some (.invokestatic 151, [117, 3, 1, 10], 1) else none)))) else (if pc < 73 then (if pc < 72 then (if pc = 69 then some (.ifCond .ne 27, [96], 0) else none) else (if pc = 72 then some (.aload_n 0, [0, 1], 0) else none)) else (if pc < 76 then (if pc = 73 then some (.ldc2_w 165, [], 26170) else none) else (if pc < 77 then (if pc = 76 then some (.lconst 0, [], 0) else none) else (if pc = 77 then some (.invokestatic 151, [117, 3, 1, 10], 1) else none))))))) else (if pc < 115 then (if pc < 97 then (if pc < 88 then (if pc < 84 then (if pc < 81 then (if pc = 80 then some (.iconst 1, [1], 1) else none) else (if pc = 81 then some (.if_icmp .ne 15, [96], 0) else none)) else (if pc < 85 then (if pc = 84 then some (.aload_n 0, [0, 1], 0) else none) else (if pc = 85 then some (.ldc2_w 167, [], 25658) else none))) else (if pc < 92 then (if pc < 89 then (if pc = 88 then some (.lconst 0, [], 0) else none) else (if pc = 89 then some (.invokestatic 151, [117, 3, 1, 10], 1) else none)) else (if pc < 93 then (if pc = 92 then some (.iconst 2, [1], 2) else none) else (if pc < 96 then (if pc = 93 then some (.if_icmp .eq 5, [98], 0) else none) else (if pc = 96 then some (.iconst 0, [1], 0) else none))))) else (if pc < 106 then (if pc < 99 then (if pc < 98 then (if pc = 97 then some (.ireturn, [], 0) else none) else (if pc = 98 then some (.aload_n 0, [0, 1], 0) else none)) else (if pc < 102 then (if pc = 99 then some (.ldc2_w 169, [], 430473293108) else none) else (if pc < 103 then (if pc = 102 then some (.lconst 0, [], 0) else none) else (if pc = 103 then some (.invokestatic 151, [117, 3, 1, 10], 1) else none)))) else (if pc < 110 then (if pc < 107 then (if pc = 106 then some (.iconst 4, [1], 4) else none) else (if pc = 107 then some (.if_icmp .ne 68, [175], 0) else none)) else (if pc < 111 then (if pc = 110 then some (.aload_n 0, [0, 1], 0) else none) else (if pc < 114 then (if pc = 111 then some (.ldc2_w 171, [], 430473292854) else none) else (if pc = 114 then some (.lconst 0, [], 0) else none)))))) else (if pc < 136 then (if pc < 126 then (if pc < 119 then (if pc < 118 then (if pc = 115 then some (.invokestatic 151, [117, 3, 1, 10], 1) else none) else (if pc = 118 then some (.iconst 4, [1], 4) else none)) else (if pc < 122 then (if pc = 119 then some (.if_icmp .ne 56, [175], 0) else none) else (if pc < 123 then (if pc = 122 then some (.aload_n 0, [0, 1], 0) else none) else (if pc = 123 then some (.ldc2_w 173, [], 7222143420723902267) else none)))) else (if pc < 130 then (if pc < 127 then (if pc = 126 then some (.lconst 0, [], 0) else none) else (if pc = 127 then some (.invokestatic 151, [117, 3, 1, 10], 1) else none)) else (if pc < 132 then (if pc = 130 then some (.bipush (-4), [2], (-4)) else none) else (if pc < 135 then (if pc = 132 then some (.if_icmp .ne 43, [175], 0) else none) else (if pc = 135 then some (.aload_n 0, [0, 1], 0) else none))))) else (if pc < 148 then (if pc < 140 then (if pc < 139 then (if pc = 136 then some (.ldc2_w 175, [], 7222139044119196982) else none) else (if pc = 139 then some (.lconst 0, [], 0) else none)) else (if pc < 143 then (if pc = 140 then some (.invokestatic 151, [117, 3, 1, 10], 1) else none) else (if pc < 145 then (if pc = 143 then some (.bipush 7, [2], 7) else none) else (if pc = 145 then some (.if_icmp .ne 30, [175], 0) else none)))) else (if pc < 152 then (if pc < 149 then (if pc = 148 then some (.aload_n 0, [0, 1], 0) else none) else (if pc = 149 then some (.ldc2_w 177, [], 7222143420657185588) else none)) else (if pc < 155 then (if pc = 152 then some (.ldc2_w 179, [], 13622) else none) else (if pc < 158 then (if pc = 155 then some (.invokestatic 151, [117, 3, 1, 10], 1) else none) else (if pc = 158 then some (.bipush 9, [2], 9) else none)))))))) else (if pc < 239 then (if pc < 202 then (if pc < 177 then (if pc < 168 then (if pc < 164 then (if pc < 163 then (if pc = 160 then some (.if_icmp .ne 15, [175], 0) else none) else (if pc = 163 then some (.aload_n 0, [0, 1], 0) else none)) else (if pc < 167 then (if pc = 164 then some (.ldc2_w 181, [], 1681535789) else none) else (if pc = 167 then some (.lconst 0, [], 0) else none))) else (if pc < 172 then (if pc < 171 then (if pc = 168 then some (.invokestatic 151, [117, 3, 1, 10], 1) else none) else (if pc = 171 then some (.iconst 4, [1], 4) else none)) else (if pc < 175 then (if pc = 172 then some (.if_icmp .eq 5, [177], 0) else none) else (if pc < 176 then (if pc = 175 then some (.iconst 0, [1], 0) else none) else (if pc = 176 then some (.ireturn, [], 0) else none))))) else (if pc < 189 then (if pc < 181 then (if pc < 178 then (if pc = 177 then some (.aload_n 0, [0, 1], 0) else none) else (if pc = 178 then some (.ldc2_w 183, [], 7222139018348868908) else none)) else (if pc < 184 then (if pc = 181 then some (.ldc2_w 185, [], 925645115) else none) else (if pc < 187 then (if pc = 184 then some (.invokestatic 151, [117, 3, 1, 10], 1) else none) else (if pc = 187 then some (.bipush 9, [2], 9) else none)))) else (if pc < 193 then (if pc < 192 then (if pc = 189 then some (.if_icmp .ne 43, [232], 0) else none) else (if pc = 192 then some (.aload_n 0, [0, 1], 0) else none)) else (if pc < 196 then (if pc = 193 then some (.ldc2_w 187, [], 7363438374275791408) else none) else (if pc < 199 then (if pc = 196 then some (.ldc2_w 157, [], 59) else none) else (if pc = 199 then some (.invokestatic 151, [117, 3, 1, 10], 1) else none)))))) else (if pc < 221 then (if pc < 211 then (if pc < 207 then (if pc < 204 then (if pc = 202 then some (.bipush (-4), [2], (-4)) else none) else (if pc = 204 then some (.if_icmp .ne 28, [232], 0) else none)) else (if pc < 208 then (if pc = 207 then some (.aload_n 0, [0, 1], 0) else none) else (if pc = 208 then some (.ldc2_w 189, [], 7363722061228094976) else none))) else (if pc < 215 then (if pc < 212 then (if pc = 211 then some (.lconst 0, [], 0) else none) else (if pc = 212 then some (.invokestatic 151, [117, 3, 1, 10], 1) else none)) else (if pc < 217 then (if pc = 215 then some (.bipush 6, [2], 6) else none) else (if pc < 220 then (if pc = 217 then some (.if_icmp .ne 15, [232], 0) else none) else (if pc = 220 then some (.aload_n 0, [0, 1], 0) else none))))) else (if pc < 232 then (if pc < 225 then (if pc < 224 then (if pc = 221 then some (.ldc2_w 191, [], 110201079147825) else none) else (if pc = 224 then some (.lconst 0, [], 0) else none)) else (if pc < 228 then (if pc = 225 then some (.invokestatic 151, [117, 3, 1, 10], 1) else none) else (if pc < 229 then (if pc = 228 then some (.iconst 4, [1], 4) else none) else (if pc = 229 then some (.if_icmp .eq 5, [234], 0) else none)))) else (if pc < 234 then (if pc < 233 then (if pc = 232 then some (.iconst 0, [1], 0) else none) else (if pc = 233 then some (.ireturn, [], 0) else none)) else (if pc < 235 then (if pc = 234 then some (.aload_n 0, [0, 1], 0) else none) else (if pc < 238 then (if pc = 235 then some (.invokevirtual 139, [99, 0, 1, 8], 0) else none) else (if pc = 238 then some (.pop, [], 0) else none))))))) else (if pc < 276 then (if pc < 254 then (if pc < 244 then (if pc < 241 then (if pc < 240 then (if pc = 239 then some (.iconst 1, [1], 1) else none) else (if pc = 240 then some (.istore_n 1, [1, 1], 0) else none)) else (if pc < 242 then (if pc = 241 then some (.iload_n 1, [1, 1], 0) else none) else (if pc = 242 then some (.bipush 60, [2], 60) else none))) else (if pc < 248 then (if pc < 247 then (if pc = 244 then some (.if_icmp .gt 21, [265], 0) else none) else (if pc = 247 then some (.aload_n 0, [0, 1], 0) else none)) else (if pc < 250 then (if pc = 248 then some (.bipush 100, [2], 100) else none) else (if pc < 253 then (if pc = 250 then some (.invokevirtual 128, [98, 1, 1, 8], 0) else none) else (if pc = 253 then some (.iload_n 1, [1, 1], 0) else none))))) else (if pc < 265 then (if pc < 258 then (if pc < 257 then (if pc = 254 then some (.if_icmp .eq 5, [259], 0) else none) else (if pc = 257 then some (.iconst 0, [1], 0) else none)) else (if pc < 259 then (if pc = 258 then some (.ireturn, [], 0) else none) else (if pc < 262 then (if pc = 259 then some (.iinc 1 1, [1], 1) else none) else (if pc = 262 then some (.goto (-21), [241], 0) else none)))) else (if pc < 269 then (if pc < 266 then (if pc = 265 then some (.aload_n 0, [0, 1], 0) else none) else (if pc = 266 then some (.sipush 200, [3], 200) else none)) else (if pc < 272 then (if pc = 269 then some (.invokevirtual 128, [98, 1, 1, 8], 0) else none) else (if pc < 273 then (if pc = 272 then some (.iconst (-1), [1], (-1)) else none) else (if pc = 273 then some (.if_icmp .ne 42, [315], 0) else none)))))) else (if pc < 296 then (if pc < 287 then (if pc < 279 then (if pc < 277 then (if pc = 276 then some (.aload_n 0, [0, 1], 0) else none) else (if pc = 277 then some (.bipush 100, [2], 100) else none)) else (if pc < 282 then (if pc = 279 then some (.invokevirtual 128, [98, 1, 1, 8], 0) else none) else (if pc < 284 then (if pc = 282 then some (.bipush (-3), [2], (-3)) else none) else (if pc = 284 then some (.if_icmp .ne 31, [315], 0) else none)))) else (if pc < 291 then (if pc < 288 then (if pc = 287 then some (.aload_n 0, [0, 1], 0) else none) else (if pc = 288 then some (.invokevirtual 146, [100, 0, 1, 8], 0) else none)) else (if pc < 292 then (if pc = 291 then some (.iconst 1, [1], 1) else none) else (if pc < 295 then (if pc = 292 then some (.if_icmp .ne 23, [315], 0) else none) else (if pc = 295 then some (.aload_n 0, [0, 1], 0) else none))))) else (if pc < 308 then (if pc < 301 then (if pc < 299 then (if pc = 296 then some (.invokevirtual 139, [99, 0, 1, 8], 0) else none) else (if pc = 299 then some (.bipush 60, [2], 60) else none)) else (if pc < 304 then (if pc = 301 then some (.if_icmp .ne 14, [315], 0) else none) else (if pc < 305 then (if pc = 304 then some (.aload_n 0, [0, 1], 0) else none) else (if pc = 305 then some (.invokevirtual 146, [100, 0, 1, 8], 0) else none)))) else (if pc < 312 then (if pc < 311 then (if pc = 308 then some (.ifCond .ne 7, [315], 0) else none) else (if pc = 311 then some (.iconst 1, [1], 1) else none)) else (if pc < 315 then (if pc = 312 then some (.goto 4, [316], 0) else none) else (if pc < 316 then (if pc = 315 then some (.iconst 0, [1], 0) else none) else (if pc = 316 then some (.ireturn, [], 0) else none))))))))
-- heads of loops: [241]
def cd_L_known (pc : Nat) : Option me_T := if pc < 585 then (if pc < 305 then (if pc < 152 then (if pc < 75 then (if pc < 38 then (if pc < 18 then (if pc < 7 then (if pc < 2 then (if pc < 1 then (if pc = 0 then some (.aload_n 0, [0, 1], 0) else none) else (if pc = 1 then some (.iconst 0, [1], 0) else none)) else (if pc < 5 then (if pc = 2 then some (.invokevirtual 46, [104, 1, 1, 8], 0) else none) else (if pc = 5 then some (.bipush (-4), [2], (-4)) else none))) else (if pc < 11 then (if pc < 10 then (if pc = 7 then some (.if_icmp .ne 122, [129], 0) else none) else (if pc = 10 then some (.aload_n 0, [0, 1], 0) else none)) else (if pc < 14 then (if pc = 11 then some (.invokevirtual 36, [103, 0, 1, 8], 0) else none) else (if pc < 17 then (if pc = 14 then some (.ifCond .ne 115, [129], 0) else none) else (if pc = 17 then some (.aload_n 0, [0, 1], 0) else none))))) else (if pc < 28 then (if pc < 24 then (if pc < 21 then (if pc = 18 then some (.invokevirtual 193, [108, 0, 1, 8], 0) else none) else (if pc = 21 then some (.ifCond .ne 108, [129], 0) else none)) else (if pc < 25 then (if pc = 24 then some (.aload_n 0, [0, 1], 0) else none) else (if pc < 27 then (if pc = 25 then some (.bipush 10, [2], 10) else none) else (if pc = 27 then some (.iconst 2, [1], 2) else none)))) else (if pc < 31 then (if pc < 30 then (if pc = 28 then some (.bipush 8, [2], 8) else none) else (if pc = 30 then some (.iconst 1, [1], 1) else none)) else (if pc < 34 then (if pc = 31 then some (.invokevirtual 19, [73, 4, 1, 8], 0) else none) else (if pc < 37 then (if pc = 34 then some (.ifCond .ne 95, [129], 0) else none) else (if pc = 37 then some (.aload_n 0, [0, 1], 0) else none)))))) else (if pc < 56 then (if pc < 49 then (if pc < 42 then (if pc < 41 then (if pc = 38 then some (.sipush 1000, [3], 1000) else none) else (if pc = 41 then some (.iconst 0, [1], 0) else none)) else (if pc < 45 then (if pc = 42 then some (.sipush 1000, [3], 1000) else none) else (if pc < 46 then (if pc = 45 then some (.iconst 0, [1], 0) else none) else (if pc = 46 then some (.invokevirtual 19, [73, 4, 1, 8], 0) else none)))) else (if pc < 53 then (if pc < 50 then (if pc = 49 then some (.iconst 1, [1], 1) else none) else (if pc = 50 then some (.if_icmp .ne 79, [129], 0) else none)) else (if pc < 54 then (if pc = 53 then some (.aload_n 0, [0, 1], 0) else none) else (if pc < 55 then (if pc = 54 then some (.iconst 0, [1], 0) else none) else (if pc = 55 then some (.iconst 1, [1], 1) else none))))) else (if pc < 66 then (if pc < 62 then (if pc < 59 then (if pc = 56 then some (.invokevirtual 84, [75, 2, 1, 8], 0) else none) else (if pc = 59 then some (.ifCond .ne 70, [129], 0) else none)) else (if pc < 63 then (if pc = 62 then some (.aload_n 0, [0, 1], 0) else none) else (if pc < 64 then (if pc = 63 then some (.iconst 0, [1], 0) else none) else (if pc = 64 then some (.bipush 9, [2], 9) else none)))) else (if pc < 70 then (if pc < 69 then (if pc = 66 then some (.invokevirtual 84, [75, 2, 1, 8], 0) else none) else (if pc = 69 then some (.iconst 1, [1], 1) else none)) else (if pc < 73 then (if pc = 70 then some (.if_icmp .ne 59, [129], 0) else none) else (if pc < 74 then (if pc = 73 then some (.aload_n 0, [0, 1], 0) else none) else (if pc = 74 then some (.iconst 0, [1], 0) else none))))))) else (if pc < 114 then (if pc < 94 then (if pc < 85 then (if pc < 80 then (if pc < 77 then (if pc = 75 then some (.bipush 10, [2], 10) else none) else (if pc = 77 then some (.invokevirtual 84, [75, 2, 1, 8], 0) else none)) else (if pc < 83 then (if pc = 80 then some (.ifCond .ne 49, [129], 0) else none) else (if pc < 84 then (if pc = 83 then some (.aload_n 0, [0, 1], 0) else none) else (if pc = 84 then some (.iconst 0, [1], 0) else none)))) else (if pc < 89 then (if pc < 86 then (if pc = 85 then some (.iconst 0, [1], 0) else none) else (if pc = 86 then some (.invokevirtual 88, [76, 2, 1, 8], 0) else none)) else (if pc < 90 then (if pc = 89 then some (.iconst 2, [1], 2) else none) else (if pc < 93 then (if pc = 90 then some (.if_icmp .ne 39, [129], 0) else none) else (if pc = 93 then some (.aload_n 0, [0, 1], 0) else none))))) else (if pc < 105 then (if pc < 97 then (if pc < 95 then (if pc = 94 then some (.iconst 0, [1], 0) else none) else (if pc = 95 then some (.bipush 10, [2], 10) else none)) else (if pc < 100 then (if pc = 97 then some (.invokevirtual 88, [76, 2, 1, 8], 0) else none) else (if pc < 102 then (if pc = 100 then some (.bipush 12, [2], 12) else none) else (if pc = 102 then some (.if_icmp .ne 27, [129], 0) else none)))) else (if pc < 107 then (if pc < 106 then (if pc = 105 then some (.aload_n 0, [0, 1], 0) else none) else (if pc = 106 then some (.iconst 0, [1], 0) else none)) else (if pc < 109 then (if pc = 107 then some (.bipush 13, [2], 13) else none) else (if pc < 112 then (if pc = 109 then some (.invokevirtual 88, [76, 2, 1, 8], 0) else none) else (if pc = 112 then some (.bipush 13, [2], 13) else none)))))) else (if pc < 132 then (if pc < 124 then (if pc < 118 then (if pc < 117 then (if pc = 114 then some (.if_icmp .ne 15, [129], 0) else none) else (if pc = 117 then some (.aload_n 0, [0, 1], 0) else none)) else (if pc < 119 then (if pc = 118 then some (.iconst 1, [1], 1) else none) else (if pc < 121 then (if pc = 119 then some (.ldc 196, [], 1000000) else none) else (if pc = 121 then some (.invokevirtual 88, [76, 2, 1, 8], 0) else none)))) else (if pc < 129 then (if pc < 126 then (if pc = 124 then some (.ldc 196, [], 1000000) else none) else (if pc = 126 then some (.if_icmp .eq 5, [131], 0) else none)) else (if pc < 130 then (if pc = 129 then some (.iconst 0, [1], 0) else none) else (if pc < 131 then (if pc = 130 then some (.ireturn, [], 0) else none) else (if pc = 131 then some (.aload_n 0, [0, 1], 0) else none))))) else (if pc < 145 then (if pc < 137 then (if pc < 134 then (if pc = 132 then some (.bipush 40, [2], 40) else none) else (if pc = 134 then some (.sipush 250, [3], 250) else none)) else (if pc < 139 then (if pc = 137 then some (.bipush 30, [2], 30) else none) else (if pc < 142 then (if pc = 139 then some (.invokevirtual 94, [78, 3, 1, 8], 0) else none) else (if pc = 142 then some (.ifCond .ne 119, [261], 0) else none)))) else (if pc < 147 then (if pc < 146 then (if pc = 145 then some (.aload_n 0, [0, 1], 0) else none) else (if pc = 146 then some (.iconst 5, [1], 5) else none)) else (if pc < 148 then (if pc = 147 then some (.iconst 0, [1], 0) else none) else (if pc < 149 then (if pc = 148 then some (.iconst 5, [1], 5) else none) else (if pc = 149 then some (.invokevirtual 94, [78, 3, 1, 8], 0) else none)))))))) else (if pc < 231 then (if pc < 193 then (if pc < 171 then (if pc < 160 then (if pc < 157 then (if pc < 154 then (if pc = 152 then some (.bipush (-2), [2], (-2)) else none) else (if pc = 154 then some (.if_icmp .ne 107, [261], 0) else none)) else (if pc < 158 then (if pc = 157 then some (.aload_n 0, [0, 1], 0) else none) else (if pc < 159 then (if pc = 158 then some (.iconst 0, [1], 0) else none) else (if pc = 159 then some (.iconst 0, [1], 0) else none)))) else (if pc < 166 then (if pc < 163 then (if pc = 160 then some (.invokevirtual 101, [80, 2, 1, 8], 0) else none) else (if pc = 163 then some (.sipush 250, [3], 250) else none)) else (if pc < 169 then (if pc = 166 then some (.if_icmp .ne 95, [261], 0) else none) else (if pc < 170 then (if pc = 169 then some (.aload_n 0, [0, 1], 0) else none) else (if pc = 170 then some (.iconst 0, [1], 0) else none))))) else (if pc < 181 then (if pc < 175 then (if pc < 172 then (if pc = 171 then some (.iconst 1, [1], 1) else none) else (if pc = 172 then some (.invokevirtual 101, [80, 2, 1, 8], 0) else none)) else (if pc < 177 then (if pc = 175 then some (.bipush 25, [2], 25) else none) else (if pc < 180 then (if pc = 177 then some (.if_icmp .ne 84, [261], 0) else none) else (if pc = 180 then some (.aload_n 0, [0, 1], 0) else none)))) else (if pc < 184 then (if pc < 182 then (if pc = 181 then some (.iconst 0, [1], 0) else none) else (if pc = 182 then some (.bipush 7, [2], 7) else none)) else (if pc < 187 then (if pc = 184 then some (.invokevirtual 101, [80, 2, 1, 8], 0) else none) else (if pc < 190 then (if pc = 187 then some (.sipush 218, [3], 218) else none) else (if pc = 190 then some (.if_icmp .ne 71, [261], 0) else none)))))) else (if pc < 212 then (if pc < 202 then (if pc < 195 then (if pc < 194 then (if pc = 193 then some (.aload_n 0, [0, 1], 0) else none) else (if pc = 194 then some (.iconst 0, [1], 0) else none)) else (if pc < 197 then (if pc = 195 then some (.bipush 40, [2], 40) else none) else (if pc < 200 then (if pc = 197 then some (.invokevirtual 101, [80, 2, 1, 8], 0) else none) else (if pc = 200 then some (.bipush (-4), [2], (-4)) else none)))) else (if pc < 206 then (if pc < 205 then (if pc = 202 then some (.if_icmp .ne 59, [261], 0) else none) else (if pc = 205 then some (.aload_n 0, [0, 1], 0) else none)) else (if pc < 207 then (if pc = 206 then some (.iconst 0, [1], 0) else none) else (if pc < 210 then (if pc = 207 then some (.invokevirtual 116, [93, 1, 1, 8], 0) else none) else (if pc = 210 then some (.bipush (-2), [2], (-2)) else none))))) else (if pc < 221 then (if pc < 216 then (if pc < 215 then (if pc = 212 then some (.if_icmp .ne 49, [261], 0) else none) else (if pc = 215 then some (.aload_n 0, [0, 1], 0) else none)) else (if pc < 217 then (if pc = 216 then some (.iconst 1, [1], 1) else none) else (if pc < 220 then (if pc = 217 then some (.invokevirtual 116, [93, 1, 1, 8], 0) else none) else (if pc = 220 then some (.iconst 1, [1], 1) else none)))) else (if pc < 225 then (if pc < 224 then (if pc = 221 then some (.if_icmp .ne 40, [261], 0) else none) else (if pc = 224 then some (.aload_n 0, [0, 1], 0) else none)) else (if pc < 226 then (if pc = 225 then some (.iconst 1, [1], 1) else none) else (if pc < 229 then (if pc = 226 then some (.invokevirtual 116, [93, 1, 1, 8], 0) else none) else (if pc = 229 then some (.bipush (-2), [2], (-2)) else none))))))) else (if pc < 265 then (if pc < 247 then (if pc < 240 then (if pc < 235 then (if pc < 234 then (if pc = 231 then some (.if_icmp .ne 30, [261], 0) else none) else (if pc = 234 then some (.aload_n 0, [0, 1], 0) else none)) else (if pc < 236 then (if pc = 235 then some (.iconst 0, [1], 0) else none) else (if pc < 237 then (if pc = 236 then some (.iconst 4, [1], 4) else none) else (if pc = 237 then some (.invokevirtual 55, [97, 2, 1, 8], 0) else none)))) else (if pc < 244 then (if pc < 241 then (if pc = 240 then some (.iconst 1, [1], 1) else none) else (if pc = 241 then some (.if_icmp .ne 20, [261], 0) else none)) else (if pc < 245 then (if pc = 244 then some (.aload_n 0, [0, 1], 0) else none) else (if pc < 246 then (if pc = 245 then some (.iconst 0, [1], 0) else none) else (if pc = 246 then some (.iconst 5, [1], 5) else none))))) else (if pc < 258 then (if pc < 253 then (if pc < 250 then (if pc = 247 then some (.invokevirtual 55, [97, 2, 1, 8], 0) else none) else (if pc = 250 then some (.ifCond .ne 11, [261], 0) else none)) else (if pc < 254 then (if pc = 253 then some (.aload_n 0, [0, 1], 0) else none) else (if pc < 257 then (if pc = 254 then some (.invokevirtual 193, [108, 0, 1, 8], 0) else none) else (if pc = 257 then some (.iconst 1, [1], 1) else none)))) else (if pc < 262 then (if pc < 261 then (if pc = 258 then some (.if_icmp .eq 5, [263], 0) else none) else (if pc = 261 then some (.iconst 0, [1], 0) else none)) else (if pc < 263 then (if pc = 262 then some (.ireturn, [], 0) else none) else (if pc < 264 then (if pc = 263 then some (.aload_n 0, [0, 1], 0) else none) else (if pc = 264 then some (.iconst 1, [1], 1) else none)))))) else (if pc < 283 then (if pc < 274 then (if pc < 269 then (if pc < 268 then (if pc = 265 then some (.invokevirtual 131, [102, 1, 1, 8], 0) else none) else (if pc = 268 then some (.iconst 1, [1], 1) else none)) else (if pc < 272 then (if pc = 269 then some (.if_icmp .ne 141, [410], 0) else none) else (if pc < 273 then (if pc = 272 then some (.aload_n 0, [0, 1], 0) else none) else (if pc = 273 then some (.iconst 0, [1], 0) else none)))) else (if pc < 278 then (if pc < 277 then (if pc = 274 then some (.invokevirtual 46, [104, 1, 1, 8], 0) else none) else (if pc = 277 then some (.iconst 2, [1], 2) else none)) else (if pc < 281 then (if pc = 278 then some (.if_icmp .ne 132, [410], 0) else none) else (if pc < 282 then (if pc = 281 then some (.aload_n 0, [0, 1], 0) else none) else (if pc = 282 then some (.iconst 1, [1], 1) else none))))) else (if pc < 294 then (if pc < 289 then (if pc < 286 then (if pc = 283 then some (.invokevirtual 46, [104, 1, 1, 8], 0) else none) else (if pc = 286 then some (.ifCond .ne 124, [410], 0) else none)) else (if pc < 290 then (if pc = 289 then some (.aload_n 0, [0, 1], 0) else none) else (if pc < 291 then (if pc = 290 then some (.iconst 2, [1], 2) else none) else (if pc = 291 then some (.invokevirtual 46, [104, 1, 1, 8], 0) else none)))) else (if pc < 298 then (if pc < 297 then (if pc = 294 then some (.ifCond .ne 116, [410], 0) else none) else (if pc = 297 then some (.aload_n 0, [0, 1], 0) else none)) else (if pc < 299 then (if pc = 298 then some (.iconst 3, [1], 3) else none) else (if pc < 302 then (if pc = 299 then some (.invokevirtual 46, [104, 1, 1, 8], 0) else none) else (if pc = 302 then some (.ifCond .ne 108, [410], 0) else none))))))))) else (if pc < 445 then (if pc < 374 then (if pc < 340 then (if pc < 320 then (if pc < 311 then (if pc < 307 then (if pc < 306 then (if pc = 305 then some (.aload_n 0, [0, 1], 0) else none) else (if pc = 306 then some (.iconst 4, [1], 4) else none)) else (if pc < 310 then (if pc = 307 then some (.invokevirtual 46, [104, 1, 1, 8], 0) else none) else (if pc = 310 then some (.iconst 2, [1], 2) else none))) else (if pc < 315 then (if pc < 314 then (if pc = 311 then some (.if_icmp .ne 99, [410], 0) else none) else (if pc = 314 then some (.aload_n 0, [0, 1], 0) else none)) else (if pc < 316 then (if pc = 315 then some (.iconst 1, [1], 1) else none) else (if pc < 319 then (if pc = 316 then some (.invokevirtual 58, [83, 1, 1, 8], 0) else none) else (if pc = 319 then some (.iconst 1, [1], 1) else none))))) else (if pc < 331 then (if pc < 324 then (if pc < 323 then (if pc = 320 then some (.if_icmp .ne 90, [410], 0) else none) else (if pc = 323 then some (.aload_n 0, [0, 1], 0) else none)) else (if pc < 325 then (if pc = 324 then some (.iconst 0, [1], 0) else none) else (if pc < 328 then (if pc = 325 then some (.invokevirtual 58, [83, 1, 1, 8], 0) else none) else (if pc = 328 then some (.ifCond .ne 82, [410], 0) else none)))) else (if pc < 333 then (if pc < 332 then (if pc = 331 then some (.aload_n 0, [0, 1], 0) else none) else (if pc = 332 then some (.iconst 0, [1], 0) else none)) else (if pc < 336 then (if pc = 333 then some (.invokevirtual 104, [84, 1, 1, 8], 0) else none) else (if pc < 337 then (if pc = 336 then some (.iconst 1, [1], 1) else none) else (if pc = 337 then some (.if_icmp .ne 73, [410], 0) else none)))))) else (if pc < 356 then (if pc < 347 then (if pc < 342 then (if pc < 341 then (if pc = 340 then some (.aload_n 0, [0, 1], 0) else none) else (if pc = 341 then some (.iconst 1, [1], 1) else none)) else (if pc < 343 then (if pc = 342 then some (.iconst (-1), [1], (-1)) else none) else (if pc < 346 then (if pc = 343 then some (.invokevirtual 64, [85, 2, 1, 8], 0) else none) else (if pc = 346 then some (.iconst 1, [1], 1) else none)))) else (if pc < 351 then (if pc < 350 then (if pc = 347 then some (.if_icmp .ne 63, [410], 0) else none) else (if pc = 350 then some (.aload_n 0, [0, 1], 0) else none)) else (if pc < 352 then (if pc = 351 then some (.iconst 1, [1], 1) else none) else (if pc < 353 then (if pc = 352 then some (.iconst 1, [1], 1) else none) else (if pc = 353 then some (.invokevirtual 64, [85, 2, 1, 8], 0) else none))))) else (if pc < 365 then (if pc < 360 then (if pc < 359 then (if pc = 356 then some (.ifCond .ne 54, [410], 0) else none) else (if pc = 359 then some (.aload_n 0, [0, 1], 0) else none)) else (if pc < 361 then (if pc = 360 then some (.iconst 1, [1], 1) else none) else (if pc < 362 then (if pc = 361 then some (.iconst 0, [1], 0) else none) else (if pc = 362 then some (.invokevirtual 67, [86, 2, 1, 8], 0) else none)))) else (if pc < 369 then (if pc < 366 then (if pc = 365 then some (.iconst 1, [1], 1) else none) else (if pc = 366 then some (.if_icmp .ne 44, [410], 0) else none)) else (if pc < 370 then (if pc = 369 then some (.aload_n 0, [0, 1], 0) else none) else (if pc < 371 then (if pc = 370 then some (.iconst 3, [1], 3) else none) else (if pc = 371 then some (.invokevirtual 42, [105, 1, 1, 8], 0) else none))))))) else (if pc < 410 then (if pc < 390 then (if pc < 381 then (if pc < 378 then (if pc < 375 then (if pc = 374 then some (.iconst 1, [1], 1) else none) else (if pc = 375 then some (.if_icmp .ne 35, [410], 0) else none)) else (if pc < 379 then (if pc = 378 then some (.aload_n 0, [0, 1], 0) else none) else (if pc < 380 then (if pc = 379 then some (.iconst 1, [1], 1) else none) else (if pc = 380 then some (.iconst 0, [1], 0) else none)))) else (if pc < 385 then (if pc < 384 then (if pc = 381 then some (.invokevirtual 107, [87, 2, 1, 8], 0) else none) else (if pc = 384 then some (.iconst 1, [1], 1) else none)) else (if pc < 388 then (if pc = 385 then some (.if_icmp .ne 25, [410], 0) else none) else (if pc < 389 then (if pc = 388 then some (.aload_n 0, [0, 1], 0) else none) else (if pc = 389 then some (.iconst 1, [1], 1) else none))))) else (if pc < 400 then (if pc < 394 then (if pc < 391 then (if pc = 390 then some (.iconst 0, [1], 0) else none) else (if pc = 391 then some (.invokevirtual 107, [87, 2, 1, 8], 0) else none)) else (if pc < 396 then (if pc = 394 then some (.bipush (-2), [2], (-2)) else none) else (if pc < 399 then (if pc = 396 then some (.if_icmp .ne 14, [410], 0) else none) else (if pc = 399 then some (.aload_n 0, [0, 1], 0) else none)))) else (if pc < 402 then (if pc < 401 then (if pc = 400 then some (.iconst 0, [1], 0) else none) else (if pc = 401 then some (.iconst 0, [1], 0) else none)) else (if pc < 405 then (if pc = 402 then some (.invokevirtual 107, [87, 2, 1, 8], 0) else none) else (if pc < 407 then (if pc = 405 then some (.bipush (-2), [2], (-2)) else none) else (if pc = 407 then some (.if_icmp .eq 5, [412], 0) else none)))))) else (if pc < 426 then (if pc < 417 then (if pc < 412 then (if pc < 411 then (if pc = 410 then some (.iconst 0, [1], 0) else none) else (if pc = 411 then some (.ireturn, [], 0) else none)) else (if pc < 413 then (if pc = 412 then some (.aload_n 0, [0, 1], 0) else none) else (if pc < 414 then (if pc = 413 then some (.iconst 2, [1], 2) else none) else (if pc = 414 then some (.invokevirtual 131, [102, 1, 1, 8], 0) else none)))) else (if pc < 421 then (if pc < 418 then (if pc = 417 then some (.iconst 3, [1], 3) else none) else (if pc = 418 then some (.if_icmp .ne 51, [469], 0) else none)) else (if pc < 422 then (if pc = 421 then some (.aload_n 0, [0, 1], 0) else none) else (if pc < 423 then (if pc = 422 then some (.iconst 0, [1], 0) else none) else (if pc = 423 then some (.invokevirtual 46, [104, 1, 1, 8], 0) else none))))) else (if pc < 435 then (if pc < 430 then (if pc < 429 then (if pc = 426 then some (.ifCond .ne 43, [469], 0) else none) else (if pc = 429 then some (.aload_n 0, [0, 1], 0) else none)) else (if pc < 431 then (if pc = 430 then some (.iconst 4, [1], 4) else none) else (if pc < 434 then (if pc = 431 then some (.invokevirtual 46, [104, 1, 1, 8], 0) else none) else (if pc = 434 then some (.iconst 3, [1], 3) else none)))) else (if pc < 439 then (if pc < 438 then (if pc = 435 then some (.if_icmp .ne 34, [469], 0) else none) else (if pc = 438 then some (.aload_n 0, [0, 1], 0) else none)) else (if pc < 440 then (if pc = 439 then some (.iconst 3, [1], 3) else none) else (if pc < 443 then (if pc = 440 then some (.invokevirtual 46, [104, 1, 1, 8], 0) else none) else (if pc = 443 then some (.bipush (-4), [2], (-4)) else none)))))))) else (if pc < 514 then (if pc < 478 then (if pc < 462 then (if pc < 454 then (if pc < 449 then (if pc < 448 then (if pc = 445 then some (.if_icmp .ne 24, [469], 0) else none) else (if pc = 448 then some (.aload_n 0, [0, 1], 0) else none)) else (if pc < 450 then (if pc = 449 then some (.iconst 2, [1], 2) else none) else (if pc < 453 then (if pc = 450 then some (.invokevirtual 42, [105, 1, 1, 8], 0) else none) else (if pc = 453 then some (.iconst 2, [1], 2) else none)))) else (if pc < 458 then (if pc < 457 then (if pc = 454 then some (.if_icmp .ne 15, [469], 0) else none) else (if pc = 457 then some (.aload_n 0, [0, 1], 0) else none)) else (if pc < 459 then (if pc = 458 then some (.iconst 3, [1], 3) else none) else (if pc < 460 then (if pc = 459 then some (.iconst 1, [1], 1) else none) else (if pc = 460 then some (.bipush 100, [2], 100) else none))))) else (if pc < 471 then (if pc < 466 then (if pc < 465 then (if pc = 462 then some (.invokevirtual 94, [78, 3, 1, 8], 0) else none) else (if pc = 465 then some (.iconst 1, [1], 1) else none)) else (if pc < 469 then (if pc = 466 then some (.if_icmp .eq 5, [471], 0) else none) else (if pc < 470 then (if pc = 469 then some (.iconst 0, [1], 0) else none) else (if pc = 470 then some (.ireturn, [], 0) else none)))) else (if pc < 473 then (if pc < 472 then (if pc = 471 then some (.aload_n 0, [0, 1], 0) else none) else (if pc = 472 then some (.iconst 1, [1], 1) else none)) else (if pc < 474 then (if pc = 473 then some (.iconst 0, [1], 0) else none) else (if pc < 477 then (if pc = 474 then some (.invokevirtual 134, [107, 2, 1, 8], 0) else none) else (if pc = 477 then some (.iconst 3, [1], 3) else none)))))) else (if pc < 496 then (if pc < 487 then (if pc < 482 then (if pc < 481 then (if pc = 478 then some (.if_icmp .ne 91, [569], 0) else none) else (if pc = 481 then some (.aload_n 0, [0, 1], 0) else none)) else (if pc < 483 then (if pc = 482 then some (.iconst 1, [1], 1) else none) else (if pc < 484 then (if pc = 483 then some (.iconst 0, [1], 0) else none) else (if pc = 484 then some (.invokevirtual 119, [94, 2, 1, 8], 0) else none)))) else (if pc < 491 then (if pc < 488 then (if pc = 487 then some (.iconst 1, [1], 1) else none) else (if pc = 488 then some (.if_icmp .ne 81, [569], 0) else none)) else (if pc < 492 then (if pc = 491 then some (.aload_n 0, [0, 1], 0) else none) else (if pc < 493 then (if pc = 492 then some (.iconst 1, [1], 1) else none) else (if pc = 493 then some (.invokevirtual 131, [102, 1, 1, 8], 0) else none))))) else (if pc < 505 then (if pc < 500 then (if pc < 497 then (if pc = 496 then some (.iconst 4, [1], 4) else none) else (if pc = 497 then some (.if_icmp .ne 72, [569], 0) else none)) else (if pc < 501 then (if pc = 500 then some (.aload_n 0, [0, 1], 0) else none) else (if pc < 502 then (if pc = 501 then some (.iconst 0, [1], 0) else none) else (if pc = 502 then some (.invokevirtual 46, [104, 1, 1, 8], 0) else none)))) else (if pc < 509 then (if pc < 506 then (if pc = 505 then some (.iconst 1, [1], 1) else none) else (if pc = 506 then some (.if_icmp .ne 63, [569], 0) else none)) else (if pc < 510 then (if pc = 509 then some (.aload_n 0, [0, 1], 0) else none) else (if pc < 511 then (if pc = 510 then some (.iconst 3, [1], 3) else none) else (if pc = 511 then some (.invokevirtual 46, [104, 1, 1, 8], 0) else none))))))) else (if pc < 551 then (if pc < 532 then (if pc < 522 then (if pc < 519 then (if pc < 516 then (if pc = 514 then some (.bipush 15, [2], 15) else none) else (if pc = 516 then some (.if_icmp .ne 53, [569], 0) else none)) else (if pc < 520 then (if pc = 519 then some (.aload_n 0, [0, 1], 0) else none) else (if pc < 521 then (if pc = 520 then some (.iconst 1, [1], 1) else none) else (if pc = 521 then some (.iconst 0, [1], 0) else none)))) else (if pc < 527 then (if pc < 525 then (if pc = 522 then some (.invokevirtual 70, [89, 2, 1, 8], 0) else none) else (if pc = 525 then some (.bipush 16, [2], 16) else none)) else (if pc < 530 then (if pc = 527 then some (.if_icmp .ne 42, [569], 0) else none) else (if pc < 531 then (if pc = 530 then some (.aload_n 0, [0, 1], 0) else none) else (if pc = 531 then some (.iconst 1, [1], 1) else none))))) else (if pc < 542 then (if pc < 534 then (if pc < 533 then (if pc = 532 then some (.iconst 0, [1], 0) else none) else (if pc = 533 then some (.iconst 0, [1], 0) else none)) else (if pc < 537 then (if pc = 534 then some (.invokevirtual 73, [91, 3, 1, 8], 0) else none) else (if pc < 539 then (if pc = 537 then some (.bipush 16, [2], 16) else none) else (if pc = 539 then some (.if_icmp .ne 30, [569], 0) else none)))) else (if pc < 544 then (if pc < 543 then (if pc = 542 then some (.aload_n 0, [0, 1], 0) else none) else (if pc = 543 then some (.iconst 0, [1], 0) else none)) else (if pc < 547 then (if pc = 544 then some (.invokevirtual 116, [93, 1, 1, 8], 0) else none) else (if pc < 548 then (if pc = 547 then some (.iconst 2, [1], 2) else none) else (if pc = 548 then some (.if_icmp .ne 21, [569], 0) else none)))))) else (if pc < 569 then (if pc < 558 then (if pc < 553 then (if pc < 552 then (if pc = 551 then some (.aload_n 0, [0, 1], 0) else none) else (if pc = 552 then some (.iconst 1, [1], 1) else none)) else (if pc < 554 then (if pc = 553 then some (.iconst 4, [1], 4) else none) else (if pc < 557 then (if pc = 554 then some (.invokevirtual 55, [97, 2, 1, 8], 0) else none) else (if pc = 557 then some (.iconst 5, [1], 5) else none)))) else (if pc < 562 then (if pc < 561 then (if pc = 558 then some (.if_icmp .ne 11, [569], 0) else none) else (if pc = 561 then some (.aload_n 0, [0, 1], 0) else none)) else (if pc < 565 then (if pc = 562 then some (.invokevirtual 193, [108, 0, 1, 8], 0) else none) else (if pc < 566 then (if pc = 565 then some (.iconst 5, [1], 5) else none) else (if pc = 566 then some (.if_icmp .eq 5, [571], 0) else none))))) else (if pc < 576 then (if pc < 571 then (if pc < 570 then (if pc = 569 then some (.iconst 0, [1], 0) else none) else (if pc = 570 then some (.ireturn, [], 0) else none)) else (if pc < 572 then (if pc = 571 then some (.aload_n 0, [0, 1], 0) else none) else (if pc < 573 then (if pc = 572 then some (.iconst 1, [1], 1) else none) else (if pc = 573 then some (.invokevirtual 131, [102, 1, 1, 8], 0) else none)))) else (if pc < 580 then (if pc < 577 then (if pc = 576 then some (.iconst 5, [1], 5) else none) else (if pc = 577 then some (.if_icmp .ne 104, [681], 0) else none)) else (if pc < 581 then (if pc = 580 then some (.aload_n 0, [0, 1], 0) else none) else (if pc < 582 then (if pc = 581 then some (.iconst 0, [1], 0) else none) else (if pc = 582 then some (.invokevirtual 46, [104, 1, 1, 8], 0) else none)))))))))) else (if pc < 870 then (if pc < 726 then (if pc < 655 then (if pc < 618 then (if pc < 600 then (if pc < 591 then (if pc < 589 then (if pc < 586 then (if pc = 585 then some (.iconst 2, [1], 2) else none) else (if pc = 586 then some (.if_icmp .ne 95, [681], 0) else none)) else (if pc < 590 then (if pc = 589 then some (.aload_n 0, [0, 1], 0) else none) else (if pc = 590 then some (.iconst 1, [1], 1) else none))) else (if pc < 597 then (if pc < 594 then (if pc = 591 then some (.invokevirtual 46, [104, 1, 1, 8], 0) else none) else (if pc = 594 then some (.ifCond .ne 87, [681], 0) else none)) else (if pc < 598 then (if pc = 597 then some (.aload_n 0, [0, 1], 0) else none) else (if pc < 599 then (if pc = 598 then some (.iconst 1, [1], 1) else none) else (if pc = 599 then some (.iconst 5, [1], 5) else none))))) else (if pc < 609 then (if pc < 604 then (if pc < 603 then (if pc = 600 then some (.invokevirtual 55, [97, 2, 1, 8], 0) else none) else (if pc = 603 then some (.iconst 1, [1], 1) else none)) else (if pc < 607 then (if pc = 604 then some (.if_icmp .ne 77, [681], 0) else none) else (if pc < 608 then (if pc = 607 then some (.aload_n 0, [0, 1], 0) else none) else (if pc = 608 then some (.iconst 0, [1], 0) else none)))) else (if pc < 613 then (if pc < 612 then (if pc = 609 then some (.invokevirtual 58, [83, 1, 1, 8], 0) else none) else (if pc = 612 then some (.iconst 1, [1], 1) else none)) else (if pc < 616 then (if pc = 613 then some (.if_icmp .ne 68, [681], 0) else none) else (if pc < 617 then (if pc = 616 then some (.aload_n 0, [0, 1], 0) else none) else (if pc = 617 then some (.iconst 1, [1], 1) else none)))))) else (if pc < 637 then (if pc < 628 then (if pc < 623 then (if pc < 621 then (if pc = 618 then some (.invokevirtual 131, [102, 1, 1, 8], 0) else none) else (if pc = 621 then some (.bipush 6, [2], 6) else none)) else (if pc < 626 then (if pc = 623 then some (.if_icmp .ne 58, [681], 0) else none) else (if pc < 627 then (if pc = 626 then some (.aload_n 0, [0, 1], 0) else none) else (if pc = 627 then some (.iconst 1, [1], 1) else none)))) else (if pc < 632 then (if pc < 631 then (if pc = 628 then some (.invokevirtual 46, [104, 1, 1, 8], 0) else none) else (if pc = 631 then some (.iconst 1, [1], 1) else none)) else (if pc < 635 then (if pc = 632 then some (.if_icmp .ne 49, [681], 0) else none) else (if pc < 636 then (if pc = 635 then some (.aload_n 0, [0, 1], 0) else none) else (if pc = 636 then some (.iconst 2, [1], 2) else none))))) else (if pc < 646 then (if pc < 641 then (if pc < 640 then (if pc = 637 then some (.invokevirtual 46, [104, 1, 1, 8], 0) else none) else (if pc = 640 then some (.iconst 1, [1], 1) else none)) else (if pc < 644 then (if pc = 641 then some (.if_icmp .ne 40, [681], 0) else none) else (if pc < 645 then (if pc = 644 then some (.aload_n 0, [0, 1], 0) else none) else (if pc = 645 then some (.iconst 3, [1], 3) else none)))) else (if pc < 650 then (if pc < 649 then (if pc = 646 then some (.invokevirtual 46, [104, 1, 1, 8], 0) else none) else (if pc = 649 then some (.iconst 3, [1], 3) else none)) else (if pc < 653 then (if pc = 650 then some (.if_icmp .ne 31, [681], 0) else none) else (if pc < 654 then (if pc = 653 then some (.aload_n 0, [0, 1], 0) else none) else (if pc = 654 then some (.iconst 0, [1], 0) else none))))))) else (if pc < 690 then (if pc < 673 then (if pc < 664 then (if pc < 659 then (if pc < 658 then (if pc = 655 then some (.invokevirtual 58, [83, 1, 1, 8], 0) else none) else (if pc = 658 then some (.iconst 3, [1], 3) else none)) else (if pc < 662 then (if pc = 659 then some (.if_icmp .ne 22, [681], 0) else none) else (if pc < 663 then (if pc = 662 then some (.aload_n 0, [0, 1], 0) else none) else (if pc = 663 then some (.iconst 1, [1], 1) else none)))) else (if pc < 668 then (if pc < 667 then (if pc = 664 then some (.invokevirtual 58, [83, 1, 1, 8], 0) else none) else (if pc = 667 then some (.iconst 3, [1], 3) else none)) else (if pc < 671 then (if pc = 668 then some (.if_icmp .ne 13, [681], 0) else none) else (if pc < 672 then (if pc = 671 then some (.aload_n 0, [0, 1], 0) else none) else (if pc = 672 then some (.iconst 0, [1], 0) else none))))) else (if pc < 682 then (if pc < 677 then (if pc < 674 then (if pc = 673 then some (.iconst 0, [1], 0) else none) else (if pc = 674 then some (.invokevirtual 55, [97, 2, 1, 8], 0) else none)) else (if pc < 678 then (if pc = 677 then some (.iconst 1, [1], 1) else none) else (if pc < 681 then (if pc = 678 then some (.if_icmp .eq 5, [683], 0) else none) else (if pc = 681 then some (.iconst 0, [1], 0) else none)))) else (if pc < 684 then (if pc < 683 then (if pc = 682 then some (.ireturn, [], 0) else none) else (if pc = 683 then some (.aload_n 0, [0, 1], 0) else none)) else (if pc < 685 then (if pc = 684 then some (.iconst 1, [1], 1) else none) else (if pc < 688 then (if pc = 685 then some (.invokevirtual 131, [102, 1, 1, 8], 0) else none) else (if pc = 688 then some (.bipush 7, [2], 7) else none)))))) else (if pc < 708 then (if pc < 699 then (if pc < 694 then (if pc < 693 then (if pc = 690 then some (.if_icmp .ne 135, [825], 0) else none) else (if pc = 693 then some (.aload_n 0, [0, 1], 0) else none)) else (if pc < 695 then (if pc = 694 then some (.iconst 0, [1], 0) else none) else (if pc < 698 then (if pc = 695 then some (.invokevirtual 46, [104, 1, 1, 8], 0) else none) else (if pc = 698 then some (.iconst 2, [1], 2) else none)))) else (if pc < 703 then (if pc < 702 then (if pc = 699 then some (.if_icmp .ne 126, [825], 0) else none) else (if pc = 702 then some (.aload_n 0, [0, 1], 0) else none)) else (if pc < 704 then (if pc = 703 then some (.iconst 1, [1], 1) else none) else (if pc < 707 then (if pc = 704 then some (.invokevirtual 46, [104, 1, 1, 8], 0) else none) else (if pc = 707 then some (.iconst (-1), [1], (-1)) else none))))) else (if pc < 717 then (if pc < 712 then (if pc < 711 then (if pc = 708 then some (.if_icmp .ne 117, [825], 0) else none) else (if pc = 711 then some (.aload_n 0, [0, 1], 0) else none)) else (if pc < 713 then (if pc = 712 then some (.iconst 2, [1], 2) else none) else (if pc < 716 then (if pc = 713 then some (.invokevirtual 46, [104, 1, 1, 8], 0) else none) else (if pc = 716 then some (.iconst 4, [1], 4) else none)))) else (if pc < 721 then (if pc < 720 then (if pc = 717 then some (.if_icmp .ne 108, [825], 0) else none) else (if pc = 720 then some (.aload_n 0, [0, 1], 0) else none)) else (if pc < 722 then (if pc = 721 then some (.iconst 3, [1], 3) else none) else (if pc < 725 then (if pc = 722 then some (.invokevirtual 46, [104, 1, 1, 8], 0) else none) else (if pc = 725 then some (.iconst 4, [1], 4) else none)))))))) else (if pc < 797 then (if pc < 763 then (if pc < 744 then (if pc < 735 then (if pc < 730 then (if pc < 729 then (if pc = 726 then some (.if_icmp .ne 99, [825], 0) else none) else (if pc = 729 then some (.aload_n 0, [0, 1], 0) else none)) else (if pc < 731 then (if pc = 730 then some (.iconst 0, [1], 0) else none) else (if pc < 732 then (if pc = 731 then some (.iconst 1, [1], 1) else none) else (if pc = 732 then some (.invokevirtual 64, [85, 2, 1, 8], 0) else none)))) else (if pc < 739 then (if pc < 736 then (if pc = 735 then some (.iconst 4, [1], 4) else none) else (if pc = 736 then some (.if_icmp .ne 89, [825], 0) else none)) else (if pc < 740 then (if pc = 739 then some (.aload_n 0, [0, 1], 0) else none) else (if pc < 741 then (if pc = 740 then some (.iconst 3, [1], 3) else none) else (if pc = 741 then some (.invokevirtual 42, [105, 1, 1, 8], 0) else none))))) else (if pc < 753 then (if pc < 748 then (if pc < 745 then (if pc = 744 then some (.iconst 2, [1], 2) else none) else (if pc = 745 then some (.if_icmp .ne 80, [825], 0) else none)) else (if pc < 749 then (if pc = 748 then some (.aload_n 0, [0, 1], 0) else none) else (if pc < 750 then (if pc = 749 then some (.iconst 2, [1], 2) else none) else (if pc = 750 then some (.invokevirtual 131, [102, 1, 1, 8], 0) else none)))) else (if pc < 758 then (if pc < 755 then (if pc = 753 then some (.bipush 9, [2], 9) else none) else (if pc = 755 then some (.if_icmp .ne 70, [825], 0) else none)) else (if pc < 759 then (if pc = 758 then some (.aload_n 0, [0, 1], 0) else none) else (if pc < 760 then (if pc = 759 then some (.iconst 1, [1], 1) else none) else (if pc = 760 then some (.invokevirtual 61, [92, 1, 1, 8], 0) else none)))))) else (if pc < 779 then (if pc < 770 then (if pc < 767 then (if pc < 764 then (if pc = 763 then some (.iconst 1, [1], 1) else none) else (if pc = 764 then some (.if_icmp .ne 61, [825], 0) else none)) else (if pc < 768 then (if pc = 767 then some (.aload_n 0, [0, 1], 0) else none) else (if pc < 769 then (if pc = 768 then some (.iconst 1, [1], 1) else none) else (if pc = 769 then some (.iconst 0, [1], 0) else none)))) else (if pc < 776 then (if pc < 773 then (if pc = 770 then some (.invokevirtual 134, [107, 2, 1, 8], 0) else none) else (if pc = 773 then some (.ifCond .ne 52, [825], 0) else none)) else (if pc < 777 then (if pc = 776 then some (.aload_n 0, [0, 1], 0) else none) else (if pc < 778 then (if pc = 777 then some (.iconst 1, [1], 1) else none) else (if pc = 778 then some (.iconst 0, [1], 0) else none))))) else (if pc < 789 then (if pc < 784 then (if pc < 782 then (if pc = 779 then some (.invokevirtual 119, [94, 2, 1, 8], 0) else none) else (if pc = 782 then some (.bipush (-2), [2], (-2)) else none)) else (if pc < 787 then (if pc = 784 then some (.if_icmp .ne 41, [825], 0) else none) else (if pc < 788 then (if pc = 787 then some (.aload_n 0, [0, 1], 0) else none) else (if pc = 788 then some (.iconst 1, [1], 1) else none)))) else (if pc < 792 then (if pc < 790 then (if pc = 789 then some (.iconst 0, [1], 0) else none) else (if pc = 790 then some (.bipush 39, [2], 39) else none)) else (if pc < 795 then (if pc = 792 then some (.invokevirtual 113, [90, 3, 1, 8], 0) else none) else (if pc < 796 then (if pc = 795 then some (.aload_n 0, [0, 1], 0) else none) else (if pc = 796 then some (.iconst 0, [1], 0) else none))))))) else (if pc < 833 then (if pc < 817 then (if pc < 807 then (if pc < 802 then (if pc < 799 then (if pc = 797 then some (.bipush 39, [2], 39) else none) else (if pc = 799 then some (.invokevirtual 101, [80, 2, 1, 8], 0) else none)) else (if pc < 805 then (if pc = 802 then some (.if_icmp .ne 23, [825], 0) else none) else (if pc < 806 then (if pc = 805 then some (.aload_n 0, [0, 1], 0) else none) else (if pc = 806 then some (.iconst 1, [1], 1) else none)))) else (if pc < 811 then (if pc < 808 then (if pc = 807 then some (.iconst 2, [1], 2) else none) else (if pc = 808 then some (.invokevirtual 77, [106, 2, 1, 8], 0) else none)) else (if pc < 813 then (if pc = 811 then some (.bipush 40, [2], 40) else none) else (if pc < 816 then (if pc = 813 then some (.if_icmp .ne 12, [825], 0) else none) else (if pc = 816 then some (.aload_n 0, [0, 1], 0) else none))))) else (if pc < 826 then (if pc < 821 then (if pc < 818 then (if pc = 817 then some (.iconst 0, [1], 0) else none) else (if pc = 818 then some (.invokevirtual 42, [105, 1, 1, 8], 0) else none)) else (if pc < 822 then (if pc = 821 then some (.iconst 3, [1], 3) else none) else (if pc < 825 then (if pc = 822 then some (.if_icmp .eq 5, [827], 0) else none) else (if pc = 825 then some (.iconst 0, [1], 0) else none)))) else (if pc < 828 then (if pc < 827 then (if pc = 826 then some (.ireturn, [], 0) else none) else (if pc = 827 then some (.aload_n 0, [0, 1], 0) else none)) else (if pc < 829 then (if pc = 828 then some (.iconst 0, [1], 0) else none) else (if pc < 832 then (if pc = 829 then some (.invokevirtual 116, [93, 1, 1, 8], 0) else none) else (if pc = 832 then some (.iconst 1, [1], 1) else none)))))) else (if pc < 854 then (if pc < 844 then (if pc < 837 then (if pc < 836 then (if pc = 833 then some (.if_icmp .ne 107, [940], 0) else none) else (if pc = 836 then some (.aload_n 0, [0, 1], 0) else none)) else (if pc < 838 then (if pc = 837 then some (.iconst 0, [1], 0) else none) else (if pc < 841 then (if pc = 838 then some (.invokevirtual 122, [95, 1, 1, 8], 0) else none) else (if pc = 841 then some (.ifCond .ne 99, [940], 0) else none)))) else (if pc < 846 then (if pc < 845 then (if pc = 844 then some (.aload_n 0, [0, 1], 0) else none) else (if pc = 845 then some (.iconst 0, [1], 0) else none)) else (if pc < 849 then (if pc = 846 then some (.invokevirtual 122, [95, 1, 1, 8], 0) else none) else (if pc < 851 then (if pc = 849 then some (.bipush (-4), [2], (-4)) else none) else (if pc = 851 then some (.if_icmp .ne 89, [940], 0) else none))))) else (if pc < 861 then (if pc < 856 then (if pc < 855 then (if pc = 854 then some (.aload_n 0, [0, 1], 0) else none) else (if pc = 855 then some (.iconst 0, [1], 0) else none)) else (if pc < 857 then (if pc = 856 then some (.iconst 0, [1], 0) else none) else (if pc < 860 then (if pc = 857 then some (.invokevirtual 107, [87, 2, 1, 8], 0) else none) else (if pc = 860 then some (.iconst 1, [1], 1) else none)))) else (if pc < 865 then (if pc < 864 then (if pc = 861 then some (.if_icmp .ne 79, [940], 0) else none) else (if pc = 864 then some (.aload_n 0, [0, 1], 0) else none)) else (if pc < 866 then (if pc = 865 then some (.iconst 0, [1], 0) else none) else (if pc < 867 then (if pc = 866 then some (.iconst 0, [1], 0) else none) else (if pc = 867 then some (.invokevirtual 119, [94, 2, 1, 8], 0) else none))))))))) else (if pc < 1024 then (if pc < 945 then (if pc < 908 then (if pc < 889 then (if pc < 879 then (if pc < 874 then (if pc < 871 then (if pc = 870 then some (.iconst 1, [1], 1) else none) else (if pc = 871 then some (.if_icmp .ne 69, [940], 0) else none)) else (if pc < 875 then (if pc = 874 then some (.aload_n 0, [0, 1], 0) else none) else (if pc < 876 then (if pc = 875 then some (.iconst 1, [1], 1) else none) else (if pc = 876 then some (.invokevirtual 131, [102, 1, 1, 8], 0) else none)))) else (if pc < 884 then (if pc < 881 then (if pc = 879 then some (.bipush 10, [2], 10) else none) else (if pc = 881 then some (.if_icmp .ne 59, [940], 0) else none)) else (if pc < 885 then (if pc = 884 then some (.aload_n 0, [0, 1], 0) else none) else (if pc < 888 then (if pc = 885 then some (.invokevirtual 49, [96, 0, 1, 8], 0) else none) else (if pc = 888 then some (.iconst 1, [1], 1) else none))))) else (if pc < 899 then (if pc < 893 then (if pc < 892 then (if pc = 889 then some (.if_icmp .ne 51, [940], 0) else none) else (if pc = 892 then some (.aload_n 0, [0, 1], 0) else none)) else (if pc < 894 then (if pc = 893 then some (.iconst 1, [1], 1) else none) else (if pc < 897 then (if pc = 894 then some (.invokevirtual 131, [102, 1, 1, 8], 0) else none) else (if pc = 897 then some (.bipush 11, [2], 11) else none)))) else (if pc < 903 then (if pc < 902 then (if pc = 899 then some (.if_icmp .ne 41, [940], 0) else none) else (if pc = 902 then some (.aload_n 0, [0, 1], 0) else none)) else (if pc < 904 then (if pc = 903 then some (.iconst 4, [1], 4) else none) else (if pc < 907 then (if pc = 904 then some (.invokevirtual 42, [105, 1, 1, 8], 0) else none) else (if pc = 907 then some (.iconst 1, [1], 1) else none)))))) else (if pc < 929 then (if pc < 919 then (if pc < 912 then (if pc < 911 then (if pc = 908 then some (.if_icmp .ne 32, [940], 0) else none) else (if pc = 911 then some (.aload_n 0, [0, 1], 0) else none)) else (if pc < 915 then (if pc = 912 then some (.invokevirtual 49, [96, 0, 1, 8], 0) else none) else (if pc < 918 then (if pc = 915 then some (.ifCond .ne 25, [940], 0) else none) else (if pc = 918 then some (.aload_n 0, [0, 1], 0) else none)))) else (if pc < 921 then (if pc < 920 then (if pc = 919 then some (.iconst 0, [1], 0) else none) else (if pc = 920 then some (.iconst 0, [1], 0) else none)) else (if pc < 924 then (if pc = 921 then some (.invokevirtual 110, [88, 2, 1, 8], 0) else none) else (if pc < 926 then (if pc = 924 then some (.bipush 16, [2], 16) else none) else (if pc = 926 then some (.if_icmp .ne 14, [940], 0) else none))))) else (if pc < 937 then (if pc < 931 then (if pc < 930 then (if pc = 929 then some (.aload_n 0, [0, 1], 0) else none) else (if pc = 930 then some (.iconst 0, [1], 0) else none)) else (if pc < 932 then (if pc = 931 then some (.iconst 0, [1], 0) else none) else (if pc < 935 then (if pc = 932 then some (.invokevirtual 110, [88, 2, 1, 8], 0) else none) else (if pc = 935 then some (.bipush (-2), [2], (-2)) else none)))) else (if pc < 941 then (if pc < 940 then (if pc = 937 then some (.if_icmp .eq 5, [942], 0) else none) else (if pc = 940 then some (.iconst 0, [1], 0) else none)) else (if pc < 942 then (if pc = 941 then some (.ireturn, [], 0) else none) else (if pc < 943 then (if pc = 942 then some (.aload_n 0, [0, 1], 0) else none) else (if pc = 943 then some (.bipush 18, [2], 18) else none))))))) else (if pc < 983 then (if pc < 964 then (if pc < 955 then (if pc < 950 then (if pc < 948 then (if pc = 945 then some (.invokevirtual 131, [102, 1, 1, 8], 0) else none) else (if pc = 948 then some (.bipush 29, [2], 29) else none)) else (if pc < 953 then (if pc = 950 then some (.if_icmp .ne 116, [1066], 0) else none) else (if pc < 954 then (if pc = 953 then some (.aload_n 0, [0, 1], 0) else none) else (if pc = 954 then some (.iconst 0, [1], 0) else none)))) else (if pc < 959 then (if pc < 956 then (if pc = 955 then some (.iconst 3, [1], 3) else none) else (if pc = 956 then some (.invokevirtual 98, [79, 2, 1, 8], 0) else none)) else (if pc < 960 then (if pc = 959 then some (.iconst 1, [1], 1) else none) else (if pc < 963 then (if pc = 960 then some (.if_icmp .ne 106, [1066], 0) else none) else (if pc = 963 then some (.aload_n 0, [0, 1], 0) else none))))) else (if pc < 974 then (if pc < 968 then (if pc < 965 then (if pc = 964 then some (.iconst 1, [1], 1) else none) else (if pc = 965 then some (.invokevirtual 131, [102, 1, 1, 8], 0) else none)) else (if pc < 970 then (if pc = 968 then some (.bipush 30, [2], 30) else none) else (if pc < 973 then (if pc = 970 then some (.if_icmp .ne 96, [1066], 0) else none) else (if pc = 973 then some (.aload_n 0, [0, 1], 0) else none)))) else (if pc < 976 then (if pc < 975 then (if pc = 974 then some (.iconst 0, [1], 0) else none) else (if pc = 975 then some (.iconst 3, [1], 3) else none)) else (if pc < 979 then (if pc = 976 then some (.invokevirtual 98, [79, 2, 1, 8], 0) else none) else (if pc < 982 then (if pc = 979 then some (.ifCond .ne 87, [1066], 0) else none) else (if pc = 982 then some (.aload_n 0, [0, 1], 0) else none)))))) else (if pc < 1003 then (if pc < 992 then (if pc < 987 then (if pc < 986 then (if pc = 983 then some (.invokevirtual 197, [82, 0, 1, 8], 0) else none) else (if pc = 986 then some (.iconst 1, [1], 1) else none)) else (if pc < 990 then (if pc = 987 then some (.if_icmp .ne 79, [1066], 0) else none) else (if pc < 991 then (if pc = 990 then some (.aload_n 0, [0, 1], 0) else none) else (if pc = 991 then some (.iconst 1, [1], 1) else none)))) else (if pc < 998 then (if pc < 995 then (if pc = 992 then some (.sipush 1000, [3], 1000) else none) else (if pc = 995 then some (.invokevirtual 25, [74, 2, 1, 8], 0) else none)) else (if pc < 1001 then (if pc = 998 then some (.ifCond .ne 68, [1066], 0) else none) else (if pc < 1002 then (if pc = 1001 then some (.aload_n 0, [0, 1], 0) else none) else (if pc = 1002 then some (.iconst 1, [1], 1) else none))))) else (if pc < 1013 then (if pc < 1008 then (if pc < 1005 then (if pc = 1003 then some (.bipush 30, [2], 30) else none) else (if pc = 1005 then some (.invokevirtual 91, [77, 2, 1, 8], 0) else none)) else (if pc < 1011 then (if pc = 1008 then some (.ifCond .ne 58, [1066], 0) else none) else (if pc < 1012 then (if pc = 1011 then some (.aload_n 0, [0, 1], 0) else none) else (if pc = 1012 then some (.iconst 1, [1], 1) else none)))) else (if pc < 1017 then (if pc < 1014 then (if pc = 1013 then some (.iconst 0, [1], 0) else none) else (if pc = 1014 then some (.invokevirtual 25, [74, 2, 1, 8], 0) else none)) else (if pc < 1020 then (if pc = 1017 then some (.sipush 1000, [3], 1000) else none) else (if pc < 1023 then (if pc = 1020 then some (.if_icmp .ne 46, [1066], 0) else none) else (if pc = 1023 then some (.aload_n 0, [0, 1], 0) else none)))))))) else (if pc < 1089 then (if pc < 1058 then (if pc < 1041 then (if pc < 1034 then (if pc < 1027 then (if pc < 1025 then (if pc = 1024 then some (.iconst 1, [1], 1) else none) else (if pc = 1025 then some (.bipush 30, [2], 30) else none)) else (if pc < 1030 then (if pc = 1027 then some (.invokevirtual 91, [77, 2, 1, 8], 0) else none) else (if pc < 1031 then (if pc = 1030 then some (.iconst 1, [1], 1) else none) else (if pc = 1031 then some (.if_icmp .ne 35, [1066], 0) else none)))) else (if pc < 1036 then (if pc < 1035 then (if pc = 1034 then some (.aload_n 0, [0, 1], 0) else none) else (if pc = 1035 then some (.iconst 0, [1], 0) else none)) else (if pc < 1037 then (if pc = 1036 then some (.iconst 0, [1], 0) else none) else (if pc < 1040 then (if pc = 1037 then some (.invokevirtual 107, [87, 2, 1, 8], 0) else none) else (if pc = 1040 then some (.iconst 1, [1], 1) else none))))) else (if pc < 1050 then (if pc < 1045 then (if pc < 1044 then (if pc = 1041 then some (.if_icmp .ne 25, [1066], 0) else none) else (if pc = 1044 then some (.aload_n 0, [0, 1], 0) else none)) else (if pc < 1046 then (if pc = 1045 then some (.iconst 0, [1], 0) else none) else (if pc < 1047 then (if pc = 1046 then some (.iconst 0, [1], 0) else none) else (if pc = 1047 then some (.invokevirtual 119, [94, 2, 1, 8], 0) else none)))) else (if pc < 1055 then (if pc < 1052 then (if pc = 1050 then some (.bipush (-2), [2], (-2)) else none) else (if pc = 1052 then some (.if_icmp .ne 14, [1066], 0) else none)) else (if pc < 1056 then (if pc = 1055 then some (.aload_n 0, [0, 1], 0) else none) else (if pc < 1057 then (if pc = 1056 then some (.iconst 0, [1], 0) else none) else (if pc = 1057 then some (.iconst 0, [1], 0) else none)))))) else (if pc < 1075 then (if pc < 1068 then (if pc < 1063 then (if pc < 1061 then (if pc = 1058 then some (.invokevirtual 134, [107, 2, 1, 8], 0) else none) else (if pc = 1061 then some (.bipush (-4), [2], (-4)) else none)) else (if pc < 1066 then (if pc = 1063 then some (.if_icmp .eq 5, [1068], 0) else none) else (if pc < 1067 then (if pc = 1066 then some (.iconst 0, [1], 0) else none) else (if pc = 1067 then some (.ireturn, [], 0) else none)))) else (if pc < 1070 then (if pc < 1069 then (if pc = 1068 then some (.iconst 2, [1], 2) else none) else (if pc = 1069 then some (.istore_n 1, [1, 1], 0) else none)) else (if pc < 1071 then (if pc = 1070 then some (.iload_n 1, [1, 1], 0) else none) else (if pc < 1072 then (if pc = 1071 then some (.iconst 5, [1], 5) else none) else (if pc = 1072 then some (.if_icmp .ge 23, [1095], 0) else none))))) else (if pc < 1080 then (if pc < 1077 then (if pc < 1076 then (if pc = 1075 then some (.aload_n 0, [0, 1], 0) else none) else (if pc = 1076 then some (.iconst 1, [1], 1) else none)) else (if pc < 1078 then (if pc = 1077 then some (.iconst 0, [1], 0) else none) else (if pc < 1079 then (if pc = 1078 then some (.iconst 1, [1], 1) else none) else (if pc = 1079 then some (.iconst 2, [1], 2) else none)))) else (if pc < 1084 then (if pc < 1083 then (if pc = 1080 then some (.invokevirtual 19, [73, 4, 1, 8], 0) else none) else (if pc = 1083 then some (.iload_n 1, [1, 1], 0) else none)) else (if pc < 1087 then (if pc = 1084 then some (.if_icmp .eq 5, [1089], 0) else none) else (if pc < 1088 then (if pc = 1087 then some (.iconst 0, [1], 0) else none) else (if pc = 1088 then some (.ireturn, [], 0) else none))))))) else (if pc < 1129 then (if pc < 1108 then (if pc < 1098 then (if pc < 1095 then (if pc < 1092 then (if pc = 1089 then some (.iinc 1 1, [1], 1) else none) else (if pc = 1092 then some (.goto (-22), [1070], 0) else none)) else (if pc < 1096 then (if pc = 1095 then some (.aload_n 0, [0, 1], 0) else none) else (if pc < 1097 then (if pc = 1096 then some (.iconst 1, [1], 1) else none) else (if pc = 1097 then some (.iconst 0, [1], 0) else none)))) else (if pc < 1100 then (if pc < 1099 then (if pc = 1098 then some (.iconst 1, [1], 1) else none) else (if pc = 1099 then some (.iconst 2, [1], 2) else none)) else (if pc < 1103 then (if pc = 1100 then some (.invokevirtual 19, [73, 4, 1, 8], 0) else none) else (if pc < 1105 then (if pc = 1103 then some (.bipush (-3), [2], (-3)) else none) else (if pc = 1105 then some (.if_icmp .ne 57, [1162], 0) else none))))) else (if pc < 1119 then (if pc < 1110 then (if pc < 1109 then (if pc = 1108 then some (.aload_n 0, [0, 1], 0) else none) else (if pc = 1109 then some (.iconst 4, [1], 4) else none)) else (if pc < 1113 then (if pc = 1110 then some (.sipush 1000, [3], 1000) else none) else (if pc < 1116 then (if pc = 1113 then some (.invokevirtual 25, [74, 2, 1, 8], 0) else none) else (if pc = 1116 then some (.ifCond .ne 46, [1162], 0) else none)))) else (if pc < 1121 then (if pc < 1120 then (if pc = 1119 then some (.aload_n 0, [0, 1], 0) else none) else (if pc = 1120 then some (.iconst 1, [1], 1) else none)) else (if pc < 1124 then (if pc = 1121 then some (.invokevirtual 131, [102, 1, 1, 8], 0) else none) else (if pc < 1126 then (if pc = 1124 then some (.bipush 31, [2], 31) else none) else (if pc = 1126 then some (.if_icmp .ne 36, [1162], 0) else none)))))) else (if pc < 1145 then (if pc < 1136 then (if pc < 1131 then (if pc < 1130 then (if pc = 1129 then some (.aload_n 0, [0, 1], 0) else none) else (if pc = 1130 then some (.iconst 4, [1], 4) else none)) else (if pc < 1132 then (if pc = 1131 then some (.iconst 1, [1], 1) else none) else (if pc < 1135 then (if pc = 1132 then some (.invokevirtual 77, [106, 2, 1, 8], 0) else none) else (if pc = 1135 then some (.iconst 1, [1], 1) else none)))) else (if pc < 1140 then (if pc < 1139 then (if pc = 1136 then some (.if_icmp .ne 26, [1162], 0) else none) else (if pc = 1139 then some (.aload_n 0, [0, 1], 0) else none)) else (if pc < 1141 then (if pc = 1140 then some (.iconst 4, [1], 4) else none) else (if pc < 1142 then (if pc = 1141 then some (.iconst 0, [1], 0) else none) else (if pc = 1142 then some (.invokevirtual 77, [106, 2, 1, 8], 0) else none))))) else (if pc < 1155 then (if pc < 1149 then (if pc < 1148 then (if pc = 1145 then some (.ifCond .ne 17, [1162], 0) else none) else (if pc = 1148 then some (.aload_n 0, [0, 1], 0) else none)) else (if pc < 1150 then (if pc = 1149 then some (.iconst 4, [1], 4) else none) else (if pc < 1153 then (if pc = 1150 then some (.invokevirtual 46, [104, 1, 1, 8], 0) else none) else (if pc = 1153 then some (.bipush 14, [2], 14) else none)))) else (if pc < 1159 then (if pc < 1158 then (if pc = 1155 then some (.if_icmp .ne 7, [1162], 0) else none) else (if pc = 1158 then some (.iconst 1, [1], 1) else none)) else (if pc < 1162 then (if pc = 1159 then some (.goto 4, [1163], 0) else none) else (if pc < 1163 then (if pc = 1162 then some (.iconst 0, [1], 0) else none) else (if pc = 1163 then some (.ireturn, [], 0) else none))))))))))
-- heads of loops: [1070]
def cd_L_full (pc : Nat) : Option me_T := if pc < 105 then (if pc < 48 then (if pc < 23 then (if pc < 11 then (if pc < 7 then (if pc < 3 then (if pc = 0 then some (.new 20, [8, 4], 0) else none) else (if pc < 4 then (if pc = 3 then some (.dup, [], 0) else none) else (if pc = 4 then some (.invokespecial 200, [72, 0, 0, 8], 2) else none))) else (if pc < 9 then (if pc < 8 then (if pc = 7 then some (.astore_n 0, [0, 1], 0) else none) else (if pc = 8 then some (.iconst 0, [1], 0) else none)) else (if pc < 10 then (if pc = 9 then some (.istore_n 1, [1, 1], 0) else none) else (if pc = 10 then some (.iload_n 1, [1, 1], 0) else none)))) else (if pc < 18 then (if pc < 16 then (if pc < 13 then (if pc = 11 then some (.bipush 8, [2], 8) else none) else (if pc = 13 then some (.if_icmp .ge 38, [51], 0) else none)) else (if pc < 17 then (if pc = 16 then some (.aload_n 0, [0, 1], 0) else none) else (if pc = 17 then some (.iconst 1, [1], 1) else none))) else (if pc < 20 then (if pc < 19 then (if pc = 18 then some (.iload_n 1, [1, 1], 0) else none) else (if pc = 19 then some (.iadd, [], 0) else none)) else (if pc < 21 then (if pc = 20 then some (.iload_n 1, [1, 1], 0) else none) else (if pc = 21 then some (.bipush 100, [2], 100) else none))))) else (if pc < 34 then (if pc < 28 then (if pc < 24 then (if pc = 23 then some (.iload_n 1, [1, 1], 0) else none) else (if pc < 25 then (if pc = 24 then some (.iadd, [], 0) else none) else (if pc = 25 then some (.invokevirtual 94, [78, 3, 1, 8], 0) else none))) else (if pc < 32 then (if pc < 29 then (if pc = 28 then some (.iload_n 1, [1, 1], 0) else none) else (if pc = 29 then some (.if_icmp .ne 14, [43], 0) else none)) else (if pc < 33 then (if pc = 32 then some (.aload_n 0, [0, 1], 0) else none) else (if pc = 33 then some (.iconst 1, [1], 1) else none)))) else (if pc < 40 then (if pc < 38 then (if pc < 37 then (if pc = 34 then some (.invokevirtual 131, [102, 1, 1, 8], 0) else none) else (if pc = 37 then some (.iload_n 1, [1, 1], 0) else none)) else (if pc < 39 then (if pc = 38 then some (.iconst 1, [1], 1) else none) else (if pc = 39 then some (.iadd, [], 0) else none))) else (if pc < 44 then (if pc < 43 then (if pc = 40 then some (.if_icmp .eq 5, [45], 0) else none) else (if pc = 43 then some (.iconst 0, [1], 0) else none)) else (if pc < 45 then (if pc = 44 then some (.ireturn, [], 0) else none) else (if pc = 45 then some (.iinc 1 1, [1], 1) else none)))))) else (if pc < 74 then (if pc < 60 then (if pc < 53 then (if pc < 51 then (if pc = 48 then some (.goto (-38), [10], 0) else none) else (if pc < 52 then (if pc = 51 then some (.aload_n 0, [0, 1], 0) else none) else (if pc = 52 then some (.iconst 1, [1], 1) else none))) else (if pc < 55 then (if pc < 54 then (if pc = 53 then some (.iconst 1, [1], 1) else none) else (if pc = 54 then some (.iconst 1, [1], 1) else none)) else (if pc < 58 then (if pc = 55 then some (.invokevirtual 94, [78, 3, 1, 8], 0) else none) else (if pc = 58 then some (.bipush (-3), [2], (-3)) else none)))) else (if pc < 66 then (if pc < 64 then (if pc < 63 then (if pc = 60 then some (.if_icmp .ne 34, [94], 0) else none) else (if pc = 63 then some (.aload_n 0, [0, 1], 0) else none)) else (if pc < 65 then (if pc = 64 then some (.iconst 0, [1], 0) else none) else (if pc = 65 then some (.iconst 1, [1], 1) else none))) else (if pc < 70 then (if pc < 67 then (if pc = 66 then some (.iconst 1, [1], 1) else none) else (if pc = 67 then some (.invokevirtual 94, [78, 3, 1, 8], 0) else none)) else (if pc < 71 then (if pc = 70 then some (.iconst (-1), [1], (-1)) else none) else (if pc = 71 then some (.if_icmp .ne 23, [94], 0) else none))))) else (if pc < 91 then (if pc < 82 then (if pc < 77 then (if pc < 75 then (if pc = 74 then some (.aload_n 0, [0, 1], 0) else none) else (if pc = 75 then some (.bipush 92, [2], 92) else none)) else (if pc < 80 then (if pc = 77 then some (.invokevirtual 131, [102, 1, 1, 8], 0) else none) else (if pc = 80 then some (.bipush 100, [2], 100) else none))) else (if pc < 86 then (if pc < 85 then (if pc = 82 then some (.if_icmp .ne 12, [94], 0) else none) else (if pc = 85 then some (.aload_n 0, [0, 1], 0) else none)) else (if pc < 89 then (if pc = 86 then some (.invokevirtual 197, [82, 0, 1, 8], 0) else none) else (if pc = 89 then some (.bipush 7, [2], 7) else none)))) else (if pc < 98 then (if pc < 95 then (if pc < 94 then (if pc = 91 then some (.if_icmp .eq 5, [96], 0) else none) else (if pc = 94 then some (.iconst 0, [1], 0) else none)) else (if pc < 96 then (if pc = 95 then some (.ireturn, [], 0) else none) else (if pc = 96 then some (.bipush 8, [2], 8) else none))) else (if pc < 100 then (if pc < 99 then (if pc = 98 then some (.istore_n 1, [1, 1], 0) else none) else (if pc = 99 then some (.iload_n 1, [1, 1], 0) else none)) else (if pc < 102 then (if pc = 100 then some (.bipush 30, [2], 30) else none) else (if pc = 102 then some (.if_icmp .ge 68, [170], 0) else none))))))) else (if pc < 159 then (if pc < 133 then (if pc < 120 then (if pc < 112 then (if pc < 106 then (if pc = 105 then some (.aload_n 0, [0, 1], 0) else none) else (if pc < 109 then (if pc = 106 then some (.sipush 320, [3], 320) else none) else (if pc = 109 then some (.sipush 255, [3], 255) else none))) else (if pc < 116 then (if pc < 113 then (if pc = 112 then some (.iconst 1, [1], 1) else none) else (if pc = 113 then some (.invokevirtual 94, [78, 3, 1, 8], 0) else none)) else (if pc < 117 then (if pc = 116 then some (.iload_n 1, [1, 1], 0) else none) else (if pc = 117 then some (.if_icmp .ne 28, [145], 0) else none)))) else (if pc < 126 then (if pc < 122 then (if pc < 121 then (if pc = 120 then some (.aload_n 0, [0, 1], 0) else none) else (if pc = 121 then some (.iload_n 1, [1, 1], 0) else none)) else (if pc < 123 then (if pc = 122 then some (.iconst 1, [1], 1) else none) else (if pc = 123 then some (.invokevirtual 98, [79, 2, 1, 8], 0) else none))) else (if pc < 129 then (if pc < 128 then (if pc = 126 then some (.bipush 92, [2], 92) else none) else (if pc = 128 then some (.iload_n 1, [1, 1], 0) else none)) else (if pc < 130 then (if pc = 129 then some (.iadd, [], 0) else none) else (if pc = 130 then some (.if_icmp .ne 15, [145], 0) else none))))) else (if pc < 145 then (if pc < 138 then (if pc < 134 then (if pc = 133 then some (.aload_n 0, [0, 1], 0) else none) else (if pc < 135 then (if pc = 134 then some (.iconst 1, [1], 1) else none) else (if pc = 135 then some (.invokevirtual 131, [102, 1, 1, 8], 0) else none))) else (if pc < 141 then (if pc < 140 then (if pc = 138 then some (.bipush 93, [2], 93) else none) else (if pc = 140 then some (.iload_n 1, [1, 1], 0) else none)) else (if pc < 142 then (if pc = 141 then some (.iadd, [], 0) else none) else (if pc = 142 then some (.if_icmp .eq 5, [147], 0) else none)))) else (if pc < 150 then (if pc < 147 then (if pc < 146 then (if pc = 145 then some (.iconst 0, [1], 0) else none) else (if pc = 146 then some (.ireturn, [], 0) else none)) else (if pc < 148 then (if pc = 147 then some (.iload_n 1, [1, 1], 0) else none) else (if pc = 148 then some (.bipush 8, [2], 8) else none))) else (if pc < 154 then (if pc < 153 then (if pc = 150 then some (.if_icmp .ne 14, [164], 0) else none) else (if pc = 153 then some (.aload_n 0, [0, 1], 0) else none)) else (if pc < 157 then (if pc = 154 then some (.invokevirtual 197, [82, 0, 1, 8], 0) else none) else (if pc = 157 then some (.bipush 7, [2], 7) else none)))))) else (if pc < 188 then (if pc < 172 then (if pc < 164 then (if pc < 162 then (if pc = 159 then some (.if_icmp .eq 5, [164], 0) else none) else (if pc < 163 then (if pc = 162 then some (.iconst 0, [1], 0) else none) else (if pc = 163 then some (.ireturn, [], 0) else none))) else (if pc < 170 then (if pc < 167 then (if pc = 164 then some (.iinc 1 1, [1], 1) else none) else (if pc = 167 then some (.goto (-68), [99], 0) else none)) else (if pc < 171 then (if pc = 170 then some (.aload_n 0, [0, 1], 0) else none) else (if pc = 171 then some (.iconst 1, [1], 1) else none)))) else (if pc < 179 then (if pc < 174 then (if pc < 173 then (if pc = 172 then some (.iconst 1, [1], 1) else none) else (if pc = 173 then some (.iconst 1, [1], 1) else none)) else (if pc < 177 then (if pc = 174 then some (.invokevirtual 94, [78, 3, 1, 8], 0) else none) else (if pc = 177 then some (.bipush (-3), [2], (-3)) else none))) else (if pc < 183 then (if pc < 182 then (if pc = 179 then some (.if_icmp .ne 40, [219], 0) else none) else (if pc = 182 then some (.aload_n 0, [0, 1], 0) else none)) else (if pc < 186 then (if pc = 183 then some (.invokevirtual 52, [81, 0, 1, 8], 0) else none) else (if pc = 186 then some (.bipush 30, [2], 30) else none))))) else (if pc < 206 then (if pc < 197 then (if pc < 192 then (if pc < 191 then (if pc = 188 then some (.if_icmp .ne 31, [219], 0) else none) else (if pc = 191 then some (.aload_n 0, [0, 1], 0) else none)) else (if pc < 194 then (if pc = 192 then some (.bipush 29, [2], 29) else none) else (if pc = 194 then some (.sipush 319, [3], 319) else none))) else (if pc < 202 then (if pc < 200 then (if pc = 197 then some (.invokevirtual 101, [80, 2, 1, 8], 0) else none) else (if pc = 200 then some (.bipush 105, [2], 105) else none)) else (if pc < 205 then (if pc = 202 then some (.if_icmp .ne 17, [219], 0) else none) else (if pc = 205 then some (.aload_n 0, [0, 1], 0) else none)))) else (if pc < 215 then (if pc < 210 then (if pc < 207 then (if pc = 206 then some (.iconst 2, [1], 2) else none) else (if pc = 207 then some (.invokevirtual 42, [105, 1, 1, 8], 0) else none)) else (if pc < 212 then (if pc = 210 then some (.bipush 122, [2], 122) else none) else (if pc = 212 then some (.if_icmp .ne 7, [219], 0) else none))) else (if pc < 219 then (if pc < 216 then (if pc = 215 then some (.iconst 1, [1], 1) else none) else (if pc = 216 then some (.goto 4, [220], 0) else none)) else (if pc < 220 then (if pc = 219 then some (.iconst 0, [1], 0) else none) else (if pc = 220 then some (.ireturn, [], 0) else none)))))))
-- heads of loops: [10, 99]
def cd_L_law (pc : Nat) : Option me_T := if pc < 176 then (if pc < 85 then (if pc < 50 then (if pc < 25 then (if pc < 11 then (if pc < 4 then (if pc < 3 then (if pc = 0 then some (.new 20, [8, 4], 0) else none) else (if pc = 3 then some (.dup, [], 0) else none)) else (if pc < 7 then (if pc = 4 then some (.invokespecial 200, [72, 0, 0, 8], 2) else none) else (if pc < 8 then (if pc = 7 then some (.astore_n 1, [1, 1], 0) else none) else (if pc = 8 then some (.new 20, [8, 4], 0) else none)))) else (if pc < 18 then (if pc < 12 then (if pc = 11 then some (.dup, [], 0) else none) else (if pc < 15 then (if pc = 12 then some (.invokespecial 200, [72, 0, 0, 8], 2) else none) else (if pc = 15 then some (.invokestatic 201, [118, 1, 2, 10], 1) else none))) else (if pc < 21 then (if pc = 18 then some (.ifCond .eq 31, [49], 0) else none) else (if pc < 24 then (if pc = 21 then some (.new 20, [8, 4], 0) else none) else (if pc = 24 then some (.dup, [], 0) else none))))) else (if pc < 40 then (if pc < 31 then (if pc < 28 then (if pc = 25 then some (.invokespecial 200, [72, 0, 0, 8], 2) else none) else (if pc = 28 then some (.invokestatic 205, [119, 1, 2, 10], 1) else none)) else (if pc < 34 then (if pc = 31 then some (.ifCond .eq 18, [49], 0) else none) else (if pc < 37 then (if pc = 34 then some (.invokestatic 208, [120, 0, 2, 10], 1) else none) else (if pc = 37 then some (.ifCond .eq 12, [49], 0) else none)))) else (if pc < 43 then (if pc < 41 then (if pc = 40 then some (.aload_n 1, [1, 1], 0) else none) else (if pc < 42 then (if pc = 41 then some (.iconst 0, [1], 0) else none) else (if pc = 42 then some (.iconst 0, [1], 0) else none))) else (if pc < 46 then (if pc = 43 then some (.invokestatic 212, [115, 3, 2, 10], 1) else none) else (if pc < 49 then (if pc = 46 then some (.ifCond .ne 5, [51], 0) else none) else (if pc = 49 then some (.iconst 0, [1], 0) else none)))))) else (if pc < 65 then (if pc < 57 then (if pc < 53 then (if pc < 51 then (if pc = 50 then some (.ireturn, [], 0) else none) else (if pc = 51 then some (.bipush 25, [2], 25) else none)) else (if pc < 55 then (if pc = 53 then some (.newarray .int, [50], 0) else none) else (if pc < 56 then (if pc = 55 then some (.astore_n 2, [2, 1], 0) else none) else (if pc = 56 then some (.aload_n 1, [1, 1], 0) else none)))) else (if pc < 60 then (if pc < 58 then (if pc = 57 then some (.aload_n 2, [2, 1], 0) else none) else (if pc < 59 then (if pc = 58 then some (.aload_n 0, [0, 1], 0) else none) else (if pc = 59 then some (.iconst 0, [1], 0) else none))) else (if pc < 63 then (if pc = 60 then some (.invokestatic 216, [113, 4, 1, 10], 1) else none) else (if pc < 64 then (if pc = 63 then some (.istore_n 3, [3, 1], 0) else none) else (if pc = 64 then some (.iload_n 3, [3, 1], 0) else none))))) else (if pc < 77 then (if pc < 70 then (if pc < 68 then (if pc = 65 then some (.ifCond .eq 12, [77], 0) else none) else (if pc < 69 then (if pc = 68 then some (.aload_n 1, [1, 1], 0) else none) else (if pc = 69 then some (.iload_n 3, [3, 1], 0) else none))) else (if pc < 71 then (if pc = 70 then some (.iconst 0, [1], 0) else none) else (if pc < 74 then (if pc = 71 then some (.invokestatic 212, [115, 3, 2, 10], 1) else none) else (if pc = 74 then some (.ifCond .ne 5, [79], 0) else none)))) else (if pc < 80 then (if pc < 78 then (if pc = 77 then some (.iconst 0, [1], 0) else none) else (if pc < 79 then (if pc = 78 then some (.ireturn, [], 0) else none) else (if pc = 79 then some (.iconst 0, [1], 0) else none))) else (if pc < 82 then (if pc = 80 then some (.istore 4, [4, 2], 0) else none) else (if pc < 83 then (if pc = 82 then some (.iconst 0, [1], 0) else none) else (if pc = 83 then some (.istore 5, [5, 2], 0) else none))))))) else (if pc < 131 then (if pc < 106 then (if pc < 95 then (if pc < 89 then (if pc < 87 then (if pc = 85 then some (.iload 5, [5, 2], 0) else none) else (if pc = 87 then some (.bipush 12, [2], 12) else none)) else (if pc < 92 then (if pc = 89 then some (.if_icmp .ge 158, [247], 0) else none) else (if pc < 93 then (if pc = 92 then some (.aload_n 0, [0, 1], 0) else none) else (if pc = 93 then some (.bipush 8, [2], 8) else none)))) else (if pc < 101 then (if pc < 97 then (if pc = 95 then some (.iload 5, [5, 2], 0) else none) else (if pc < 98 then (if pc = 97 then some (.iadd, [], 0) else none) else (if pc = 98 then some (.invokestatic 9, [112, 2, 1, 10], 1) else none))) else (if pc < 103 then (if pc = 101 then some (.istore 6, [6, 2], 0) else none) else (if pc < 105 then (if pc = 103 then some (.iload 6, [6, 2], 0) else none) else (if pc = 105 then some (.iconst 3, [1], 3) else none))))) else (if pc < 120 then (if pc < 114 then (if pc < 109 then (if pc = 106 then some (.invokestatic 15, [111, 2, 1, 10], 1) else none) else (if pc < 112 then (if pc = 109 then some (.ifCond .le 49, [158], 0) else none) else (if pc = 112 then some (.iload 4, [4, 2], 0) else none))) else (if pc < 116 then (if pc = 114 then some (.bipush 8, [2], 8) else none) else (if pc < 119 then (if pc = 116 then some (.if_icmp .ge 42, [158], 0) else none) else (if pc = 119 then some (.aload_n 1, [1, 1], 0) else none)))) else (if pc < 124 then (if pc < 121 then (if pc = 120 then some (.iconst 1, [1], 1) else none) else (if pc < 123 then (if pc = 121 then some (.iload 6, [6, 2], 0) else none) else (if pc = 123 then some (.iconst 3, [1], 3) else none))) else (if pc < 125 then (if pc = 124 then some (.ishr, [], 0) else none) else (if pc < 128 then (if pc = 125 then some (.sipush 320, [3], 320) else none) else (if pc = 128 then some (.invokestatic 15, [111, 2, 1, 10], 1) else none)))))) else (if pc < 154 then (if pc < 139 then (if pc < 134 then (if pc < 132 then (if pc = 131 then some (.iadd, [], 0) else none) else (if pc = 132 then some (.iload 6, [6, 2], 0) else none)) else (if pc < 135 then (if pc = 134 then some (.iconst 5, [1], 5) else none) else (if pc < 136 then (if pc = 135 then some (.ishr, [], 0) else none) else (if pc = 136 then some (.sipush 256, [3], 256) else none)))) else (if pc < 148 then (if pc < 142 then (if pc = 139 then some (.invokestatic 15, [111, 2, 1, 10], 1) else none) else (if pc < 145 then (if pc = 142 then some (.sipush 1000, [3], 1000) else none) else (if pc = 145 then some (.invokevirtual 94, [78, 3, 1, 8], 0) else none))) else (if pc < 150 then (if pc = 148 then some (.iload 4, [4, 2], 0) else none) else (if pc < 153 then (if pc = 150 then some (.if_icmp .eq 5, [155], 0) else none) else (if pc = 153 then some (.iconst 0, [1], 0) else none))))) else (if pc < 163 then (if pc < 160 then (if pc < 155 then (if pc = 154 then some (.ireturn, [], 0) else none) else (if pc < 158 then (if pc = 155 then some (.iinc 4 1, [4], 1) else none) else (if pc = 158 then some (.iload 6, [6, 2], 0) else none))) else (if pc < 161 then (if pc = 160 then some (.iconst 2, [1], 2) else none) else (if pc < 162 then (if pc = 161 then some (.ishr, [], 0) else none) else (if pc = 162 then some (.iload_n 3, [3, 1], 0) else none)))) else (if pc < 169 then (if pc < 166 then (if pc = 163 then some (.invokestatic 15, [111, 2, 1, 10], 1) else none) else (if pc < 168 then (if pc = 166 then some (.istore 7, [7, 2], 0) else none) else (if pc = 168 then some (.aload_n 1, [1, 1], 0) else none))) else (if pc < 171 then (if pc = 169 then some (.iload 7, [7, 2], 0) else none) else (if pc < 174 then (if pc = 171 then some (.invokevirtual 116, [93, 1, 1, 8], 0) else none) else (if pc = 174 then some (.istore 8, [8, 2], 0) else none)))))))) else (if pc < 263 then (if pc < 220 then (if pc < 198 then (if pc < 186 then (if pc < 179 then (if pc < 177 then (if pc = 176 then some (.iconst 0, [1], 0) else none) else (if pc = 177 then some (.istore 9, [9, 2], 0) else none)) else (if pc < 181 then (if pc = 179 then some (.iload 9, [9, 2], 0) else none) else (if pc < 183 then (if pc = 181 then some (.iload 4, [4, 2], 0) else none) else (if pc = 183 then some (.if_icmp .ge 31, [214], 0) else none)))) else (if pc < 191 then (if pc < 187 then (if pc = 186 then some (.aload_n 1, [1, 1], 0) else none) else (if pc < 189 then (if pc = 187 then some (.iload 7, [7, 2], 0) else none) else (if pc = 189 then some (.iload 9, [9, 2], 0) else none))) else (if pc < 194 then (if pc = 191 then some (.invokevirtual 107, [87, 2, 1, 8], 0) else none) else (if pc < 195 then (if pc = 194 then some (.iconst 1, [1], 1) else none) else (if pc = 195 then some (.if_icmp .ne 13, [208], 0) else none))))) else (if pc < 211 then (if pc < 203 then (if pc < 199 then (if pc = 198 then some (.aload_n 1, [1, 1], 0) else none) else (if pc < 201 then (if pc = 199 then some (.iload 7, [7, 2], 0) else none) else (if pc = 201 then some (.iload 9, [9, 2], 0) else none))) else (if pc < 206 then (if pc = 203 then some (.invokevirtual 119, [94, 2, 1, 8], 0) else none) else (if pc < 208 then (if pc = 206 then some (.istore 8, [8, 2], 0) else none) else (if pc = 208 then some (.iinc 9 1, [9], 1) else none)))) else (if pc < 216 then (if pc < 214 then (if pc = 211 then some (.goto (-32), [179], 0) else none) else (if pc < 215 then (if pc = 214 then some (.aload_n 1, [1, 1], 0) else none) else (if pc = 215 then some (.iconst 1, [1], 1) else none))) else (if pc < 218 then (if pc = 216 then some (.iload 6, [6, 2], 0) else none) else (if pc < 219 then (if pc = 218 then some (.iconst 4, [1], 4) else none) else (if pc = 219 then some (.ishr, [], 0) else none)))))) else (if pc < 240 then (if pc < 229 then (if pc < 224 then (if pc < 221 then (if pc = 220 then some (.iconst 4, [1], 4) else none) else (if pc = 221 then some (.invokestatic 15, [111, 2, 1, 10], 1) else none)) else (if pc < 225 then (if pc = 224 then some (.iadd, [], 0) else none) else (if pc < 228 then (if pc = 225 then some (.invokevirtual 131, [102, 1, 1, 8], 0) else none) else (if pc = 228 then some (.pop, [], 0) else none)))) else (if pc < 233 then (if pc < 230 then (if pc = 229 then some (.aload_n 1, [1, 1], 0) else none) else (if pc < 231 then (if pc = 230 then some (.iload_n 3, [3, 1], 0) else none) else (if pc = 231 then some (.iload 4, [4, 2], 0) else none))) else (if pc < 236 then (if pc = 233 then some (.invokestatic 212, [115, 3, 2, 10], 1) else none) else (if pc < 239 then (if pc = 236 then some (.ifCond .ne 5, [241], 0) else none) else (if pc = 239 then some (.iconst 0, [1], 0) else none))))) else (if pc < 253 then (if pc < 247 then (if pc < 241 then (if pc = 240 then some (.ireturn, [], 0) else none) else (if pc < 244 then (if pc = 241 then some (.iinc 5 1, [5], 1) else none) else (if pc = 244 then some (.goto (-159), [85], 0) else none))) else (if pc < 248 then (if pc = 247 then some (.aload_n 1, [1, 1], 0) else none) else (if pc < 251 then (if pc = 248 then some (.invokestatic 80, [114, 1, 4, 10], 1) else none) else (if pc = 251 then some (.lstore 5, [5, 2], 0) else none)))) else (if pc < 258 then (if pc < 254 then (if pc = 253 then some (.iconst 0, [1], 0) else none) else (if pc < 256 then (if pc = 254 then some (.istore 7, [7, 2], 0) else none) else (if pc = 256 then some (.iload 7, [7, 2], 0) else none))) else (if pc < 259 then (if pc = 258 then some (.iload_n 3, [3, 1], 0) else none) else (if pc < 262 then (if pc = 259 then some (.if_icmp .ge 78, [337], 0) else none) else (if pc = 262 then some (.iconst 0, [1], 0) else none))))))) else (if pc < 311 then (if pc < 286 then (if pc < 273 then (if pc < 267 then (if pc < 265 then (if pc = 263 then some (.istore 8, [8, 2], 0) else none) else (if pc = 265 then some (.iload 8, [8, 2], 0) else none)) else (if pc < 269 then (if pc = 267 then some (.iload 4, [4, 2], 0) else none) else (if pc < 272 then (if pc = 269 then some (.if_icmp .ge 62, [331], 0) else none) else (if pc = 272 then some (.aload_n 1, [1, 1], 0) else none)))) else (if pc < 280 then (if pc < 275 then (if pc = 273 then some (.iload 7, [7, 2], 0) else none) else (if pc < 277 then (if pc = 275 then some (.iload 8, [8, 2], 0) else none) else (if pc = 277 then some (.invokevirtual 134, [107, 2, 1, 8], 0) else none))) else (if pc < 282 then (if pc = 280 then some (.istore 9, [9, 2], 0) else none) else (if pc < 284 then (if pc = 282 then some (.iload 9, [9, 2], 0) else none) else (if pc = 284 then some (.bipush (-2), [2], (-2)) else none))))) else (if pc < 297 then (if pc < 293 then (if pc < 289 then (if pc = 286 then some (.if_icmp .ne 7, [293], 0) else none) else (if pc < 290 then (if pc = 289 then some (.iconst 1, [1], 1) else none) else (if pc = 290 then some (.goto 4, [294], 0) else none))) else (if pc < 294 then (if pc = 293 then some (.iconst 0, [1], 0) else none) else (if pc < 295 then (if pc = 294 then some (.aload_n 1, [1, 1], 0) else none) else (if pc = 295 then some (.iload 7, [7, 2], 0) else none)))) else (if pc < 304 then (if pc < 299 then (if pc = 297 then some (.iload 8, [8, 2], 0) else none) else (if pc < 302 then (if pc = 299 then some (.invokevirtual 70, [89, 2, 1, 8], 0) else none) else (if pc = 302 then some (.bipush (-2), [2], (-2)) else none))) else (if pc < 307 then (if pc = 304 then some (.if_icmp .ne 7, [311], 0) else none) else (if pc < 308 then (if pc = 307 then some (.iconst 1, [1], 1) else none) else (if pc = 308 then some (.goto 4, [312], 0) else none)))))) else (if pc < 337 then (if pc < 323 then (if pc < 315 then (if pc < 312 then (if pc = 311 then some (.iconst 0, [1], 0) else none) else (if pc = 312 then some (.if_icmp .ne 11, [323], 0) else none)) else (if pc < 317 then (if pc = 315 then some (.iload 9, [9, 2], 0) else none) else (if pc < 320 then (if pc = 317 then some (.sipush 2000, [3], 2000) else none) else (if pc = 320 then some (.if_icmp .le 5, [325], 0) else none)))) else (if pc < 328 then (if pc < 324 then (if pc = 323 then some (.iconst 0, [1], 0) else none) else (if pc < 325 then (if pc = 324 then some (.ireturn, [], 0) else none) else (if pc = 325 then some (.iinc 8 1, [8], 1) else none))) else (if pc < 331 then (if pc = 328 then some (.goto (-63), [265], 0) else none) else (if pc < 334 then (if pc = 331 then some (.iinc 7 1, [7], 1) else none) else (if pc = 334 then some (.goto (-78), [256], 0) else none))))) else (if pc < 350 then (if pc < 344 then (if pc < 338 then (if pc = 337 then some (.aload_n 1, [1, 1], 0) else none) else (if pc < 341 then (if pc = 338 then some (.invokevirtual 193, [108, 0, 1, 8], 0) else none) else (if pc = 341 then some (.ifCond .lt 17, [358], 0) else none))) else (if pc < 345 then (if pc = 344 then some (.aload_n 1, [1, 1], 0) else none) else (if pc < 348 then (if pc = 345 then some (.invokestatic 80, [114, 1, 4, 10], 1) else none) else (if pc = 348 then some (.lload 5, [5, 2], 0) else none)))) else (if pc < 355 then (if pc < 351 then (if pc = 350 then some (.lcmp, [], 0) else none) else (if pc < 354 then (if pc = 351 then some (.ifCond .ne 7, [358], 0) else none) else (if pc = 354 then some (.iconst 1, [1], 1) else none))) else (if pc < 358 then (if pc = 355 then some (.goto 4, [359], 0) else none) else (if pc < 359 then (if pc = 358 then some (.iconst 0, [1], 0) else none) else (if pc = 359 then some (.ireturn, [], 0) else none))))))))
-- heads of loops: [85, 179, 256, 265]
def code_of (j : Nat) : Nat → Option me_T := if j < 61 then (if j < 30 then (if j < 15 then (if j < 7 then (if j < 3 then (if j < 1 then (if j = 0 then bnd cd_X0_init 37 else (fun _ => none)) else (if j < 2 then (if j = 1 then bnd cd_X0_isStored 18 else (fun _ => none)) else (if j = 2 then bnd cd_X0_exists 31 else (fun _ => none)))) else (if j < 5 then (if j < 4 then (if j = 3 then bnd cd_X0_hasStoredAt 28 else (fun _ => none)) else (if j = 4 then bnd cd_X0_countExisting 32 else (fun _ => none))) else (if j < 6 then (if j = 5 then bnd cd_X0_put 70 else (fun _ => none)) else (if j = 6 then bnd cd_X0_byteAt 34 else (fun _ => none))))) else (if j < 11 then (if j < 9 then (if j < 8 then (if j = 7 then bnd cd_X0_firstStoredFrom 39 else (fun _ => none)) else (if j = 8 then bnd cd_X0_lastStoringBefore 51 else (fun _ => none))) else (if j < 10 then (if j = 9 then bnd cd_X1_init 15 else (fun _ => none)) else (if j = 10 then bnd cd_X1_fill 32 else (fun _ => none)))) else (if j < 13 then (if j < 12 then (if j = 11 then bnd cd_X2_init 21 else (fun _ => none)) else (if j = 12 then bnd cd_X2_clear 6 else (fun _ => none))) else (if j < 14 then (if j = 13 then bnd cd_X2_copyFrom 49 else (fun _ => none)) else (if j = 14 then bnd cd_X2_size 38 else (fun _ => none)))))) else (if j < 22 then (if j < 18 then (if j < 16 then (if j = 15 then bnd cd_X2_overlap 58 else (fun _ => none)) else (if j < 17 then (if j = 16 then bnd cd_X2_add 119 else (fun _ => none)) else (if j = 17 then bnd cd_X2_cutFirst 43 else (fun _ => none)))) else (if j < 20 then (if j < 19 then (if j = 18 then bnd cd_X2_number 51 else (fun _ => none)) else (if j = 19 then bnd cd_X2_holeNumber 120 else (fun _ => none))) else (if j < 21 then (if j = 20 then bnd cd_X2_insert 87 else (fun _ => none)) else (if j = 21 then bnd cd_X2_removeRange 65 else (fun _ => none))))) else (if j < 26 then (if j < 24 then (if j < 23 then (if j = 22 then bnd cd_X3_init 41 else (fun _ => none)) else (if j = 23 then bnd cd_X3_copyFrom 40 else (fun _ => none))) else (if j < 25 then (if j = 24 then bnd cd_X3_placeOf 33 else (fun _ => none)) else (if j = 25 then bnd cd_X3_placeToSend 66 else (fun _ => none)))) else (if j < 28 then (if j < 27 then (if j = 26 then bnd cd_X3_put 39 else (fun _ => none)) else (if j = 27 then bnd cd_X3_moveToEnd 65 else (fun _ => none))) else (if j < 29 then (if j = 28 then bnd cd_X3_remove 28 else (fun _ => none)) else (if j = 29 then bnd cd_X4_init 21 else (fun _ => none))))))) else (if j < 45 then (if j < 37 then (if j < 33 then (if j < 31 then (if j = 30 then bnd cd_X4_isForDirectory 14 else (fun _ => none)) else (if j < 32 then (if j = 31 then bnd cd_X4_begin 23 else (fun _ => none)) else (if j = 32 then bnd cd_X4_copyFrom 36 else (fun _ => none)))) else (if j < 35 then (if j < 34 then (if j = 33 then bnd cd_X5_init 29 else (fun _ => none)) else (if j = 34 then bnd cd_X5_append 33 else (fun _ => none))) else (if j < 36 then (if j = 35 then bnd cd_X5_read 66 else (fun _ => none)) else (if j = 36 then bnd cd_X5_readSubject 40 else (fun _ => none))))) else (if j < 41 then (if j < 39 then (if j < 38 then (if j = 37 then bnd cd_X5_readHoles 87 else (fun _ => none)) else (if j = 38 then bnd cd_X5_skip 38 else (fun _ => none))) else (if j < 40 then (if j = 39 then bnd cd_X5_readNumber 99 else (fun _ => none)) else (if j = 40 then bnd cd_X5_isDigit 28 else (fun _ => none)))) else (if j < 43 then (if j < 42 then (if j = 41 then bnd cd_X6_init 74 else (fun _ => none)) else (if j = 42 then bnd cd_X6_copyFrom 84 else (fun _ => none))) else (if j < 44 then (if j = 43 then bnd cd_X6_admit 63 else (fun _ => none)) else (if j = 44 then bnd cd_X6_isComplete 37 else (fun _ => none)))))) else (if j < 53 then (if j < 49 then (if j < 47 then (if j < 46 then (if j = 45 then bnd cd_X6_askDirectory 45 else (fun _ => none)) else (if j = 46 then bnd cd_X6_askFile 69 else (fun _ => none))) else (if j < 48 then (if j = 47 then bnd cd_X6_askHoles 116 else (fun _ => none)) else (if j = 48 then bnd cd_X6_tick 77 else (fun _ => none)))) else (if j < 51 then (if j < 50 then (if j = 49 then bnd cd_X6_mayAsk 33 else (fun _ => none)) else (if j = 50 then bnd cd_X6_putFirstHoles 91 else (fun _ => none))) else (if j < 52 then (if j = 51 then bnd cd_X6_dropRequests 103 else (fun _ => none)) else (if j = 52 then bnd cd_X6_send 86 else (fun _ => none))))) else (if j < 57 then (if j < 55 then (if j < 54 then (if j = 53 then bnd cd_X6_sendBytes 43 else (fun _ => none)) else (if j = 54 then bnd cd_X6_sendEntry 126 else (fun _ => none))) else (if j < 56 then (if j = 55 then bnd cd_X6_deliver 85 else (fun _ => none)) else (if j = 56 then bnd cd_X6_settle 57 else (fun _ => none)))) else (if j < 59 then (if j < 58 then (if j = 57 then bnd cd_X7_init 76 else (fun _ => none)) else (if j = 58 then bnd cd_X7_copyFrom 125 else (fun _ => none))) else (if j < 60 then (if j = 59 then bnd cd_X7_sees 26 else (fun _ => none)) else (if j = 60 then bnd cd_X7_firstSight 40 else (fun _ => none)))))))) else (if j < 91 then (if j < 76 then (if j < 68 then (if j < 64 then (if j < 62 then (if j = 61 then bnd cd_X7_isHit 49 else (fun _ => none)) else (if j < 63 then (if j = 62 then bnd cd_X7_knows 18 else (fun _ => none)) else (if j = 63 then bnd cd_X7_countOpen 30 else (fun _ => none)))) else (if j < 66 then (if j < 65 then (if j = 64 then bnd cd_X7_bytesOf 26 else (fun _ => none)) else (if j = 65 then bnd cd_X7_beginFile 30 else (fun _ => none))) else (if j < 67 then (if j = 66 then bnd cd_X7_endFile 18 else (fun _ => none)) else (if j = 67 then bnd cd_X7_take 40 else (fun _ => none))))) else (if j < 72 then (if j < 70 then (if j < 69 then (if j = 68 then bnd cd_X7_takeBytes 75 else (fun _ => none)) else (if j = 69 then bnd cd_X7_takeEntry 40 else (fun _ => none))) else (if j < 71 then (if j = 70 then bnd cd_X7_phaseAt 23 else (fun _ => none)) else (if j = 71 then bnd cd_X7_placeOf 27 else (fun _ => none)))) else (if j < 74 then (if j < 73 then (if j = 72 then bnd cd_X8_init 57 else (fun _ => none)) else (if j = 73 then bnd cd_X8_addStation 56 else (fun _ => none))) else (if j < 75 then (if j = 74 then bnd cd_X8_setLoss 45 else (fun _ => none)) else (if j = 75 then bnd cd_X8_inView 42 else (fun _ => none)))))) else (if j < 83 then (if j < 79 then (if j < 77 then (if j = 76 then bnd cd_X8_nextView 34 else (fun _ => none)) else (if j < 78 then (if j = 77 then bnd cd_X8_receives 52 else (fun _ => none)) else (if j = 78 then bnd cd_X8_store 88 else (fun _ => none)))) else (if j < 81 then (if j < 80 then (if j = 79 then bnd cd_X8_fileInfo 102 else (fun _ => none)) else (if j = 80 then bnd cd_X8_fileByte 43 else (fun _ => none))) else (if j < 82 then (if j = 81 then bnd cd_X8_fileCount 8 else (fun _ => none)) else (if j = 82 then bnd cd_X8_existingCount 15 else (fun _ => none))))) else (if j < 87 then (if j < 85 then (if j < 84 then (if j = 83 then bnd cd_X8_directory 23 else (fun _ => none)) else (if j = 84 then bnd cd_X8_unknownFiles 76 else (fun _ => none))) else (if j < 86 then (if j = 85 then bnd cd_X8_covered 32 else (fun _ => none)) else (if j = 86 then bnd cd_X8_timeHole 39 else (fun _ => none)))) else (if j < 89 then (if j < 88 then (if j = 87 then bnd cd_X8_open 66 else (fun _ => none)) else (if j = 88 then bnd cd_X8_close 57 else (fun _ => none))) else (if j < 90 then (if j = 89 then bnd cd_X8_receivedBytes 47 else (fun _ => none)) else (if j = 90 then bnd cd_X8_receivedByte 71 else (fun _ => none))))))) else (if j < 106 then (if j < 98 then (if j < 94 then (if j < 92 then (if j = 91 then bnd cd_X8_byteHole 67 else (fun _ => none)) else (if j < 93 then (if j = 92 then bnd cd_X8_completeFiles 48 else (fun _ => none)) else (if j = 93 then bnd cd_X8_requestDirectory 19 else (fun _ => none)))) else (if j < 96 then (if j < 95 then (if j = 94 then bnd cd_X8_requestFile 31 else (fun _ => none)) else (if j = 95 then bnd cd_X8_withdraw 41 else (fun _ => none))) else (if j < 97 then (if j = 96 then bnd cd_X8_queueLength 11 else (fun _ => none)) else (if j = 97 then bnd cd_X8_queued 124 else (fun _ => none))))) else (if j < 102 then (if j < 100 then (if j < 99 then (if j = 98 then bnd cd_X8_type 36 else (fun _ => none)) else (if j = 99 then bnd cd_X8_clearText 18 else (fun _ => none))) else (if j < 101 then (if j = 100 then bnd cd_X8_fault 23 else (fun _ => none)) else (if j = 101 then bnd cd_X8_requestText 46 else (fun _ => none)))) else (if j < 104 then (if j < 103 then (if j = 102 then bnd cd_X8_run 58 else (fun _ => none)) else (if j = 103 then bnd cd_X8_time 8 else (fun _ => none))) else (if j < 105 then (if j = 104 then bnd cd_X8_lastFrame 101 else (fun _ => none)) else (if j = 105 then bnd cd_X8_total 21 else (fun _ => none)))))) else (if j < 114 then (if j < 110 then (if j < 108 then (if j < 107 then (if j = 106 then bnd cd_X8_stationTotal 34 else (fun _ => none)) else (if j = 107 then bnd cd_X8_ticksToComplete 100 else (fun _ => none))) else (if j < 109 then (if j = 108 then bnd cd_X8_ticksToEmpty 47 else (fun _ => none)) else (if j = 109 then bnd cd_X8_isStation 21 else (fun _ => none)))) else (if j < 112 then (if j < 111 then (if j = 110 then bnd cd_X8_within 16 else (fun _ => none)) else (if j = 111 then bnd cd_L_part 7 else (fun _ => none))) else (if j < 113 then (if j = 112 then bnd cd_L_cell 40 else (fun _ => none)) else (if j = 113 then bnd cd_L_adds 208 else (fun _ => none))))) else (if j < 118 then (if j < 116 then (if j < 115 then (if j = 114 then bnd cd_L_digest 274 else (fun _ => none)) else (if j = 115 then bnd cd_L_refused 667 else (fun _ => none))) else (if j < 117 then (if j = 116 then bnd cd_L_types 45 else (fun _ => none)) else (if j = 117 then bnd cd_L_faultOf 22 else (fun _ => none)))) else (if j < 120 then (if j < 119 then (if j = 118 then bnd cd_L_texts 317 else (fun _ => none)) else (if j = 119 then bnd cd_L_known 1164 else (fun _ => none))) else (if j < 121 then (if j = 120 then bnd cd_L_full 221 else (fun _ => none)) else (if j = 121 then bnd cd_L_law 360 else (fun _ => none))))))))
def mxl (j : Nat) : Nat := if j < 61 then (if j < 30 then (if j < 15 then (if j < 7 then (if j < 3 then (if j < 1 then (if j = 0 then 1 else 0) else (if j < 2 then (if j = 1 then 2 else 0) else (if j = 2 then 3 else 0))) else (if j < 5 then (if j < 4 then (if j = 3 then 2 else 0) else (if j = 4 then 4 else 0)) else (if j < 6 then (if j = 5 then 5 else 0) else (if j = 6 then 3 else 0)))) else (if j < 11 then (if j < 9 then (if j < 8 then (if j = 7 then 4 else 0) else (if j = 8 then 5 else 0)) else (if j < 10 then (if j = 9 then 1 else 0) else (if j = 10 then 5 else 0))) else (if j < 13 then (if j < 12 then (if j = 11 then 1 else 0) else (if j = 12 then 1 else 0)) else (if j < 14 then (if j = 13 then 3 else 0) else (if j = 14 then 3 else 0))))) else (if j < 22 then (if j < 18 then (if j < 16 then (if j = 15 then 6 else 0) else (if j < 17 then (if j = 16 then 5 else 0) else (if j = 17 then 2 else 0))) else (if j < 20 then (if j < 19 then (if j = 18 then 3 else 0) else (if j = 19 then 7 else 0)) else (if j < 21 then (if j = 20 then 5 else 0) else (if j = 21 then 5 else 0)))) else (if j < 26 then (if j < 24 then (if j < 23 then (if j = 22 then 2 else 0) else (if j = 23 then 3 else 0)) else (if j < 25 then (if j = 24 then 3 else 0) else (if j = 25 then 3 else 0))) else (if j < 28 then (if j < 27 then (if j = 26 then 4 else 0) else (if j = 27 then 4 else 0)) else (if j < 29 then (if j = 28 then 2 else 0) else (if j = 29 then 1 else 0)))))) else (if j < 45 then (if j < 37 then (if j < 33 then (if j < 31 then (if j = 30 then 1 else 0) else (if j < 32 then (if j = 31 then 3 else 0) else (if j = 32 then 2 else 0))) else (if j < 35 then (if j < 34 then (if j = 33 then 1 else 0) else (if j = 34 then 2 else 0)) else (if j < 36 then (if j = 35 then 1 else 0) else (if j = 36 then 1 else 0)))) else (if j < 41 then (if j < 39 then (if j < 38 then (if j = 37 then 4 else 0) else (if j = 38 then 2 else 0)) else (if j < 40 then (if j = 39 then 4 else 0) else (if j = 40 then 2 else 0))) else (if j < 43 then (if j < 42 then (if j = 41 then 3 else 0) else (if j = 42 then 3 else 0)) else (if j < 44 then (if j = 43 then 6 else 0) else (if j = 44 then 4 else 0))))) else (if j < 53 then (if j < 49 then (if j < 47 then (if j < 46 then (if j = 45 then 3 else 0) else (if j = 46 then 4 else 0)) else (if j < 48 then (if j = 47 then 7 else 0) else (if j = 48 then 2 else 0))) else (if j < 51 then (if j < 50 then (if j = 49 then 2 else 0) else (if j = 50 then 9 else 0)) else (if j < 52 then (if j = 51 then 4 else 0) else (if j = 52 then 2 else 0)))) else (if j < 57 then (if j < 55 then (if j < 54 then (if j = 53 then 5 else 0) else (if j = 54 then 6 else 0)) else (if j < 56 then (if j = 55 then 3 else 0) else (if j = 56 then 3 else 0))) else (if j < 59 then (if j < 58 then (if j = 57 then 3 else 0) else (if j = 58 then 3 else 0)) else (if j < 60 then (if j = 59 then 2 else 0) else (if j = 60 then 3 else 0))))))) else (if j < 91 then (if j < 76 then (if j < 68 then (if j < 64 then (if j < 62 then (if j = 61 then 4 else 0) else (if j < 63 then (if j = 62 then 2 else 0) else (if j = 63 then 3 else 0))) else (if j < 66 then (if j < 65 then (if j = 64 then 3 else 0) else (if j = 65 then 3 else 0)) else (if j < 67 then (if j = 66 then 3 else 0) else (if j = 67 then 2 else 0)))) else (if j < 72 then (if j < 70 then (if j < 69 then (if j = 68 then 4 else 0) else (if j = 69 then 2 else 0)) else (if j < 71 then (if j = 70 then 2 else 0) else (if j = 71 then 3 else 0))) else (if j < 74 then (if j < 73 then (if j = 72 then 1 else 0) else (if j = 73 then 5 else 0)) else (if j < 75 then (if j = 74 then 5 else 0) else (if j = 75 then 3 else 0))))) else (if j < 83 then (if j < 79 then (if j < 77 then (if j = 76 then 3 else 0) else (if j < 78 then (if j = 77 then 4 else 0) else (if j = 78 then 5 else 0))) else (if j < 81 then (if j < 80 then (if j = 79 then 3 else 0) else (if j = 80 then 3 else 0)) else (if j < 82 then (if j = 81 then 1 else 0) else (if j = 82 then 1 else 0)))) else (if j < 87 then (if j < 85 then (if j < 84 then (if j = 83 then 2 else 0) else (if j = 84 then 5 else 0)) else (if j < 86 then (if j = 85 then 3 else 0) else (if j = 86 then 3 else 0))) else (if j < 89 then (if j < 88 then (if j = 87 then 4 else 0) else (if j = 88 then 5 else 0)) else (if j < 90 then (if j = 89 then 4 else 0) else (if j = 90 then 5 else 0)))))) else (if j < 106 then (if j < 98 then (if j < 94 then (if j < 92 then (if j = 91 then 5 else 0) else (if j < 93 then (if j = 92 then 4 else 0) else (if j = 93 then 2 else 0))) else (if j < 96 then (if j < 95 then (if j = 94 then 3 else 0) else (if j = 95 then 4 else 0)) else (if j < 97 then (if j = 96 then 1 else 0) else (if j = 97 then 4 else 0)))) else (if j < 102 then (if j < 100 then (if j < 99 then (if j = 98 then 2 else 0) else (if j = 99 then 2 else 0)) else (if j < 101 then (if j = 100 then 1 else 0) else (if j = 101 then 2 else 0))) else (if j < 104 then (if j < 103 then (if j = 102 then 3 else 0) else (if j = 103 then 1 else 0)) else (if j < 105 then (if j = 104 then 3 else 0) else (if j = 105 then 2 else 0))))) else (if j < 114 then (if j < 110 then (if j < 108 then (if j < 107 then (if j = 106 then 3 else 0) else (if j = 107 then 4 else 0)) else (if j < 109 then (if j = 108 then 2 else 0) else (if j = 109 then 2 else 0))) else (if j < 112 then (if j < 111 then (if j = 110 then 3 else 0) else (if j = 111 then 2 else 0)) else (if j < 113 then (if j = 112 then 2 else 0) else (if j = 113 then 7 else 0)))) else (if j < 118 then (if j < 116 then (if j < 115 then (if j = 114 then 5 else 0) else (if j = 115 then 5 else 0)) else (if j < 117 then (if j = 116 then 6 else 0) else (if j = 117 then 5 else 0))) else (if j < 120 then (if j < 119 then (if j = 118 then 2 else 0) else (if j = 119 then 2 else 0)) else (if j < 121 then (if j = 120 then 2 else 0) else (if j = 121 then 10 else 0)))))))
def mrt (j : Nat) : Nat := if j < 61 then (if j < 30 then (if j < 15 then (if j < 7 then (if j < 3 then (if j < 1 then (if j = 0 then 0 else 0) else (if j < 2 then (if j = 1 then 2 else 0) else (if j = 2 then 2 else 0))) else (if j < 5 then (if j < 4 then (if j = 3 then 2 else 0) else (if j = 4 then 1 else 0)) else (if j < 6 then (if j = 5 then 1 else 0) else (if j = 6 then 1 else 0)))) else (if j < 11 then (if j < 9 then (if j < 8 then (if j = 7 then 1 else 0) else (if j = 8 then 1 else 0)) else (if j < 10 then (if j = 9 then 0 else 0) else (if j = 10 then 0 else 0))) else (if j < 13 then (if j < 12 then (if j = 11 then 0 else 0) else (if j = 12 then 0 else 0)) else (if j < 14 then (if j = 13 then 0 else 0) else (if j = 14 then 1 else 0))))) else (if j < 22 then (if j < 18 then (if j < 16 then (if j = 15 then 1 else 0) else (if j < 17 then (if j = 16 then 2 else 0) else (if j = 17 then 0 else 0))) else (if j < 20 then (if j < 19 then (if j = 18 then 1 else 0) else (if j = 19 then 1 else 0)) else (if j < 21 then (if j = 20 then 2 else 0) else (if j = 21 then 0 else 0)))) else (if j < 26 then (if j < 24 then (if j < 23 then (if j = 22 then 0 else 0) else (if j = 23 then 0 else 0)) else (if j < 25 then (if j = 24 then 1 else 0) else (if j = 25 then 1 else 0))) else (if j < 28 then (if j < 27 then (if j = 26 then 3 else 0) else (if j = 27 then 0 else 0)) else (if j < 29 then (if j = 28 then 0 else 0) else (if j = 29 then 0 else 0)))))) else (if j < 45 then (if j < 37 then (if j < 33 then (if j < 31 then (if j = 30 then 2 else 0) else (if j < 32 then (if j = 31 then 0 else 0) else (if j = 32 then 0 else 0))) else (if j < 35 then (if j < 34 then (if j = 33 then 0 else 0) else (if j = 34 then 2 else 0)) else (if j < 36 then (if j = 35 then 2 else 0) else (if j = 36 then 2 else 0)))) else (if j < 41 then (if j < 39 then (if j < 38 then (if j = 37 then 2 else 0) else (if j = 38 then 2 else 0)) else (if j < 40 then (if j = 39 then 2 else 0) else (if j = 40 then 2 else 0))) else (if j < 43 then (if j < 42 then (if j = 41 then 0 else 0) else (if j = 42 then 0 else 0)) else (if j < 44 then (if j = 43 then 1 else 0) else (if j = 44 then 2 else 0))))) else (if j < 53 then (if j < 49 then (if j < 47 then (if j < 46 then (if j = 45 then 1 else 0) else (if j = 46 then 1 else 0)) else (if j < 48 then (if j = 47 then 1 else 0) else (if j = 48 then 0 else 0))) else (if j < 51 then (if j < 50 then (if j = 49 then 2 else 0) else (if j = 50 then 1 else 0)) else (if j < 52 then (if j = 51 then 0 else 0) else (if j = 52 then 0 else 0)))) else (if j < 57 then (if j < 55 then (if j < 54 then (if j = 53 then 0 else 0) else (if j = 54 then 0 else 0)) else (if j < 56 then (if j = 55 then 0 else 0) else (if j = 56 then 0 else 0))) else (if j < 59 then (if j < 58 then (if j = 57 then 0 else 0) else (if j = 58 then 0 else 0)) else (if j < 60 then (if j = 59 then 2 else 0) else (if j = 60 then 1 else 0))))))) else (if j < 91 then (if j < 76 then (if j < 68 then (if j < 64 then (if j < 62 then (if j = 61 then 2 else 0) else (if j < 63 then (if j = 62 then 2 else 0) else (if j = 63 then 1 else 0))) else (if j < 66 then (if j < 65 then (if j = 64 then 3 else 0) else (if j = 65 then 2 else 0)) else (if j < 67 then (if j = 66 then 0 else 0) else (if j = 67 then 0 else 0)))) else (if j < 72 then (if j < 70 then (if j < 69 then (if j = 68 then 0 else 0) else (if j = 69 then 0 else 0)) else (if j < 71 then (if j = 70 then 1 else 0) else (if j = 71 then 1 else 0))) else (if j < 74 then (if j < 73 then (if j = 72 then 0 else 0) else (if j = 73 then 1 else 0)) else (if j < 75 then (if j = 74 then 1 else 0) else (if j = 75 then 1 else 0))))) else (if j < 83 then (if j < 79 then (if j < 77 then (if j = 76 then 1 else 0) else (if j < 78 then (if j = 77 then 1 else 0) else (if j = 78 then 1 else 0))) else (if j < 81 then (if j < 80 then (if j = 79 then 1 else 0) else (if j = 80 then 1 else 0)) else (if j < 82 then (if j = 81 then 1 else 0) else (if j = 82 then 1 else 0)))) else (if j < 87 then (if j < 85 then (if j < 84 then (if j = 83 then 1 else 0) else (if j = 84 then 1 else 0)) else (if j < 86 then (if j = 85 then 1 else 0) else (if j = 86 then 1 else 0))) else (if j < 89 then (if j < 88 then (if j = 87 then 1 else 0) else (if j = 88 then 1 else 0)) else (if j < 90 then (if j = 89 then 1 else 0) else (if j = 90 then 1 else 0)))))) else (if j < 106 then (if j < 98 then (if j < 94 then (if j < 92 then (if j = 91 then 1 else 0) else (if j < 93 then (if j = 92 then 1 else 0) else (if j = 93 then 1 else 0))) else (if j < 96 then (if j < 95 then (if j = 94 then 1 else 0) else (if j = 95 then 1 else 0)) else (if j < 97 then (if j = 96 then 1 else 0) else (if j = 97 then 1 else 0)))) else (if j < 102 then (if j < 100 then (if j < 99 then (if j = 98 then 1 else 0) else (if j = 99 then 1 else 0)) else (if j < 101 then (if j = 100 then 1 else 0) else (if j = 101 then 1 else 0))) else (if j < 104 then (if j < 103 then (if j = 102 then 1 else 0) else (if j = 103 then 1 else 0)) else (if j < 105 then (if j = 104 then 1 else 0) else (if j = 105 then 1 else 0))))) else (if j < 114 then (if j < 110 then (if j < 108 then (if j < 107 then (if j = 106 then 1 else 0) else (if j = 107 then 1 else 0)) else (if j < 109 then (if j = 108 then 1 else 0) else (if j = 109 then 2 else 0))) else (if j < 112 then (if j < 111 then (if j = 110 then 2 else 0) else (if j = 111 then 1 else 0)) else (if j < 113 then (if j = 112 then 1 else 0) else (if j = 113 then 1 else 0)))) else (if j < 118 then (if j < 116 then (if j < 115 then (if j = 114 then 4 else 0) else (if j = 115 then 2 else 0)) else (if j < 117 then (if j = 116 then 1 else 0) else (if j = 117 then 1 else 0))) else (if j < 120 then (if j < 119 then (if j = 118 then 2 else 0) else (if j = 119 then 2 else 0)) else (if j < 121 then (if j = 120 then 2 else 0) else (if j = 121 then 2 else 0)))))))
theorem cdo_0 : code_of 0 = bnd cd_X0_init 37 := rfl
theorem cdo_1 : code_of 1 = bnd cd_X0_isStored 18 := rfl
theorem cdo_2 : code_of 2 = bnd cd_X0_exists 31 := rfl
theorem cdo_3 : code_of 3 = bnd cd_X0_hasStoredAt 28 := rfl
theorem cdo_4 : code_of 4 = bnd cd_X0_countExisting 32 := rfl
theorem cdo_5 : code_of 5 = bnd cd_X0_put 70 := rfl
theorem cdo_6 : code_of 6 = bnd cd_X0_byteAt 34 := rfl
theorem cdo_7 : code_of 7 = bnd cd_X0_firstStoredFrom 39 := rfl
theorem cdo_8 : code_of 8 = bnd cd_X0_lastStoringBefore 51 := rfl
theorem cdo_9 : code_of 9 = bnd cd_X1_init 15 := rfl
theorem cdo_10 : code_of 10 = bnd cd_X1_fill 32 := rfl
theorem cdo_11 : code_of 11 = bnd cd_X2_init 21 := rfl
theorem cdo_12 : code_of 12 = bnd cd_X2_clear 6 := rfl
theorem cdo_13 : code_of 13 = bnd cd_X2_copyFrom 49 := rfl
theorem cdo_14 : code_of 14 = bnd cd_X2_size 38 := rfl
theorem cdo_15 : code_of 15 = bnd cd_X2_overlap 58 := rfl
theorem cdo_16 : code_of 16 = bnd cd_X2_add 119 := rfl
theorem cdo_17 : code_of 17 = bnd cd_X2_cutFirst 43 := rfl
theorem cdo_18 : code_of 18 = bnd cd_X2_number 51 := rfl
theorem cdo_19 : code_of 19 = bnd cd_X2_holeNumber 120 := rfl
theorem cdo_20 : code_of 20 = bnd cd_X2_insert 87 := rfl
theorem cdo_21 : code_of 21 = bnd cd_X2_removeRange 65 := rfl
theorem cdo_22 : code_of 22 = bnd cd_X3_init 41 := rfl
theorem cdo_23 : code_of 23 = bnd cd_X3_copyFrom 40 := rfl
theorem cdo_24 : code_of 24 = bnd cd_X3_placeOf 33 := rfl
theorem cdo_25 : code_of 25 = bnd cd_X3_placeToSend 66 := rfl
theorem cdo_26 : code_of 26 = bnd cd_X3_put 39 := rfl
theorem cdo_27 : code_of 27 = bnd cd_X3_moveToEnd 65 := rfl
theorem cdo_28 : code_of 28 = bnd cd_X3_remove 28 := rfl
theorem cdo_29 : code_of 29 = bnd cd_X4_init 21 := rfl
theorem cdo_30 : code_of 30 = bnd cd_X4_isForDirectory 14 := rfl
theorem cdo_31 : code_of 31 = bnd cd_X4_begin 23 := rfl
theorem cdo_32 : code_of 32 = bnd cd_X4_copyFrom 36 := rfl
theorem cdo_33 : code_of 33 = bnd cd_X5_init 29 := rfl
theorem cdo_34 : code_of 34 = bnd cd_X5_append 33 := rfl
theorem cdo_35 : code_of 35 = bnd cd_X5_read 66 := rfl
theorem cdo_36 : code_of 36 = bnd cd_X5_readSubject 40 := rfl
theorem cdo_37 : code_of 37 = bnd cd_X5_readHoles 87 := rfl
theorem cdo_38 : code_of 38 = bnd cd_X5_skip 38 := rfl
theorem cdo_39 : code_of 39 = bnd cd_X5_readNumber 99 := rfl
theorem cdo_40 : code_of 40 = bnd cd_X5_isDigit 28 := rfl
theorem cdo_41 : code_of 41 = bnd cd_X6_init 74 := rfl
theorem cdo_42 : code_of 42 = bnd cd_X6_copyFrom 84 := rfl
theorem cdo_43 : code_of 43 = bnd cd_X6_admit 63 := rfl
theorem cdo_44 : code_of 44 = bnd cd_X6_isComplete 37 := rfl
theorem cdo_45 : code_of 45 = bnd cd_X6_askDirectory 45 := rfl
theorem cdo_46 : code_of 46 = bnd cd_X6_askFile 69 := rfl
theorem cdo_47 : code_of 47 = bnd cd_X6_askHoles 116 := rfl
theorem cdo_48 : code_of 48 = bnd cd_X6_tick 77 := rfl
theorem cdo_49 : code_of 49 = bnd cd_X6_mayAsk 33 := rfl
theorem cdo_50 : code_of 50 = bnd cd_X6_putFirstHoles 91 := rfl
theorem cdo_51 : code_of 51 = bnd cd_X6_dropRequests 103 := rfl
theorem cdo_52 : code_of 52 = bnd cd_X6_send 86 := rfl
theorem cdo_53 : code_of 53 = bnd cd_X6_sendBytes 43 := rfl
theorem cdo_54 : code_of 54 = bnd cd_X6_sendEntry 126 := rfl
theorem cdo_55 : code_of 55 = bnd cd_X6_deliver 85 := rfl
theorem cdo_56 : code_of 56 = bnd cd_X6_settle 57 := rfl
theorem cdo_57 : code_of 57 = bnd cd_X7_init 76 := rfl
theorem cdo_58 : code_of 58 = bnd cd_X7_copyFrom 125 := rfl
theorem cdo_59 : code_of 59 = bnd cd_X7_sees 26 := rfl
theorem cdo_60 : code_of 60 = bnd cd_X7_firstSight 40 := rfl
theorem cdo_61 : code_of 61 = bnd cd_X7_isHit 49 := rfl
theorem cdo_62 : code_of 62 = bnd cd_X7_knows 18 := rfl
theorem cdo_63 : code_of 63 = bnd cd_X7_countOpen 30 := rfl
theorem cdo_64 : code_of 64 = bnd cd_X7_bytesOf 26 := rfl
theorem cdo_65 : code_of 65 = bnd cd_X7_beginFile 30 := rfl
theorem cdo_66 : code_of 66 = bnd cd_X7_endFile 18 := rfl
theorem cdo_67 : code_of 67 = bnd cd_X7_take 40 := rfl
theorem cdo_68 : code_of 68 = bnd cd_X7_takeBytes 75 := rfl
theorem cdo_69 : code_of 69 = bnd cd_X7_takeEntry 40 := rfl
theorem cdo_70 : code_of 70 = bnd cd_X7_phaseAt 23 := rfl
theorem cdo_71 : code_of 71 = bnd cd_X7_placeOf 27 := rfl
theorem cdo_72 : code_of 72 = bnd cd_X8_init 57 := rfl
theorem cdo_73 : code_of 73 = bnd cd_X8_addStation 56 := rfl
theorem cdo_74 : code_of 74 = bnd cd_X8_setLoss 45 := rfl
theorem cdo_75 : code_of 75 = bnd cd_X8_inView 42 := rfl
theorem cdo_76 : code_of 76 = bnd cd_X8_nextView 34 := rfl
theorem cdo_77 : code_of 77 = bnd cd_X8_receives 52 := rfl
theorem cdo_78 : code_of 78 = bnd cd_X8_store 88 := rfl
theorem cdo_79 : code_of 79 = bnd cd_X8_fileInfo 102 := rfl
theorem cdo_80 : code_of 80 = bnd cd_X8_fileByte 43 := rfl
theorem cdo_81 : code_of 81 = bnd cd_X8_fileCount 8 := rfl
theorem cdo_82 : code_of 82 = bnd cd_X8_existingCount 15 := rfl
theorem cdo_83 : code_of 83 = bnd cd_X8_directory 23 := rfl
theorem cdo_84 : code_of 84 = bnd cd_X8_unknownFiles 76 := rfl
theorem cdo_85 : code_of 85 = bnd cd_X8_covered 32 := rfl
theorem cdo_86 : code_of 86 = bnd cd_X8_timeHole 39 := rfl
theorem cdo_87 : code_of 87 = bnd cd_X8_open 66 := rfl
theorem cdo_88 : code_of 88 = bnd cd_X8_close 57 := rfl
theorem cdo_89 : code_of 89 = bnd cd_X8_receivedBytes 47 := rfl
theorem cdo_90 : code_of 90 = bnd cd_X8_receivedByte 71 := rfl
theorem cdo_91 : code_of 91 = bnd cd_X8_byteHole 67 := rfl
theorem cdo_92 : code_of 92 = bnd cd_X8_completeFiles 48 := rfl
theorem cdo_93 : code_of 93 = bnd cd_X8_requestDirectory 19 := rfl
theorem cdo_94 : code_of 94 = bnd cd_X8_requestFile 31 := rfl
theorem cdo_95 : code_of 95 = bnd cd_X8_withdraw 41 := rfl
theorem cdo_96 : code_of 96 = bnd cd_X8_queueLength 11 := rfl
theorem cdo_97 : code_of 97 = bnd cd_X8_queued 124 := rfl
theorem cdo_98 : code_of 98 = bnd cd_X8_type 36 := rfl
theorem cdo_99 : code_of 99 = bnd cd_X8_clearText 18 := rfl
theorem cdo_100 : code_of 100 = bnd cd_X8_fault 23 := rfl
theorem cdo_101 : code_of 101 = bnd cd_X8_requestText 46 := rfl
theorem cdo_102 : code_of 102 = bnd cd_X8_run 58 := rfl
theorem cdo_103 : code_of 103 = bnd cd_X8_time 8 := rfl
theorem cdo_104 : code_of 104 = bnd cd_X8_lastFrame 101 := rfl
theorem cdo_105 : code_of 105 = bnd cd_X8_total 21 := rfl
theorem cdo_106 : code_of 106 = bnd cd_X8_stationTotal 34 := rfl
theorem cdo_107 : code_of 107 = bnd cd_X8_ticksToComplete 100 := rfl
theorem cdo_108 : code_of 108 = bnd cd_X8_ticksToEmpty 47 := rfl
theorem cdo_109 : code_of 109 = bnd cd_X8_isStation 21 := rfl
theorem cdo_110 : code_of 110 = bnd cd_X8_within 16 := rfl
theorem cdo_111 : code_of 111 = bnd cd_L_part 7 := rfl
theorem cdo_112 : code_of 112 = bnd cd_L_cell 40 := rfl
theorem cdo_113 : code_of 113 = bnd cd_L_adds 208 := rfl
theorem cdo_114 : code_of 114 = bnd cd_L_digest 274 := rfl
theorem cdo_115 : code_of 115 = bnd cd_L_refused 667 := rfl
theorem cdo_116 : code_of 116 = bnd cd_L_types 45 := rfl
theorem cdo_117 : code_of 117 = bnd cd_L_faultOf 22 := rfl
theorem cdo_118 : code_of 118 = bnd cd_L_texts 317 := rfl
theorem cdo_119 : code_of 119 = bnd cd_L_known 1164 := rfl
theorem cdo_120 : code_of 120 = bnd cd_L_full 221 := rfl
theorem cdo_121 : code_of 121 = bnd cd_L_law 360 := rfl
theorem mxl_0 : mxl 0 = 1 := rfl
theorem mrt_0 : mrt 0 = 0 := rfl
theorem mxl_1 : mxl 1 = 2 := rfl
theorem mrt_1 : mrt 1 = 2 := rfl
theorem mxl_2 : mxl 2 = 3 := rfl
theorem mrt_2 : mrt 2 = 2 := rfl
theorem mxl_3 : mxl 3 = 2 := rfl
theorem mrt_3 : mrt 3 = 2 := rfl
theorem mxl_4 : mxl 4 = 4 := rfl
theorem mrt_4 : mrt 4 = 1 := rfl
theorem mxl_5 : mxl 5 = 5 := rfl
theorem mrt_5 : mrt 5 = 1 := rfl
theorem mxl_6 : mxl 6 = 3 := rfl
theorem mrt_6 : mrt 6 = 1 := rfl
theorem mxl_7 : mxl 7 = 4 := rfl
theorem mrt_7 : mrt 7 = 1 := rfl
theorem mxl_8 : mxl 8 = 5 := rfl
theorem mrt_8 : mrt 8 = 1 := rfl
theorem mxl_9 : mxl 9 = 1 := rfl
theorem mrt_9 : mrt 9 = 0 := rfl
theorem mxl_10 : mxl 10 = 5 := rfl
theorem mrt_10 : mrt 10 = 0 := rfl
theorem mxl_11 : mxl 11 = 1 := rfl
theorem mrt_11 : mrt 11 = 0 := rfl
theorem mxl_12 : mxl 12 = 1 := rfl
theorem mrt_12 : mrt 12 = 0 := rfl
theorem mxl_13 : mxl 13 = 3 := rfl
theorem mrt_13 : mrt 13 = 0 := rfl
theorem mxl_14 : mxl 14 = 3 := rfl
theorem mrt_14 : mrt 14 = 1 := rfl
theorem mxl_15 : mxl 15 = 6 := rfl
theorem mrt_15 : mrt 15 = 1 := rfl
theorem mxl_16 : mxl 16 = 5 := rfl
theorem mrt_16 : mrt 16 = 2 := rfl
theorem mxl_17 : mxl 17 = 2 := rfl
theorem mrt_17 : mrt 17 = 0 := rfl
theorem mxl_18 : mxl 18 = 3 := rfl
theorem mrt_18 : mrt 18 = 1 := rfl
theorem mxl_19 : mxl 19 = 7 := rfl
theorem mrt_19 : mrt 19 = 1 := rfl
theorem mxl_20 : mxl 20 = 5 := rfl
theorem mrt_20 : mrt 20 = 2 := rfl
theorem mxl_21 : mxl 21 = 5 := rfl
theorem mrt_21 : mrt 21 = 0 := rfl
theorem mxl_22 : mxl 22 = 2 := rfl
theorem mrt_22 : mrt 22 = 0 := rfl
theorem mxl_23 : mxl 23 = 3 := rfl
theorem mrt_23 : mrt 23 = 0 := rfl
theorem mxl_24 : mxl 24 = 3 := rfl
theorem mrt_24 : mrt 24 = 1 := rfl
theorem mxl_25 : mxl 25 = 3 := rfl
theorem mrt_25 : mrt 25 = 1 := rfl
theorem mxl_26 : mxl 26 = 4 := rfl
theorem mrt_26 : mrt 26 = 3 := rfl
theorem mxl_27 : mxl 27 = 4 := rfl
theorem mrt_27 : mrt 27 = 0 := rfl
theorem mxl_28 : mxl 28 = 2 := rfl
theorem mrt_28 : mrt 28 = 0 := rfl
theorem mxl_29 : mxl 29 = 1 := rfl
theorem mrt_29 : mrt 29 = 0 := rfl
theorem mxl_30 : mxl 30 = 1 := rfl
theorem mrt_30 : mrt 30 = 2 := rfl
theorem mxl_31 : mxl 31 = 3 := rfl
theorem mrt_31 : mrt 31 = 0 := rfl
theorem mxl_32 : mxl 32 = 2 := rfl
theorem mrt_32 : mrt 32 = 0 := rfl
theorem mxl_33 : mxl 33 = 1 := rfl
theorem mrt_33 : mrt 33 = 0 := rfl
theorem mxl_34 : mxl 34 = 2 := rfl
theorem mrt_34 : mrt 34 = 2 := rfl
theorem mxl_35 : mxl 35 = 1 := rfl
theorem mrt_35 : mrt 35 = 2 := rfl
theorem mxl_36 : mxl 36 = 1 := rfl
theorem mrt_36 : mrt 36 = 2 := rfl
theorem mxl_37 : mxl 37 = 4 := rfl
theorem mrt_37 : mrt 37 = 2 := rfl
theorem mxl_38 : mxl 38 = 2 := rfl
theorem mrt_38 : mrt 38 = 2 := rfl
theorem mxl_39 : mxl 39 = 4 := rfl
theorem mrt_39 : mrt 39 = 2 := rfl
theorem mxl_40 : mxl 40 = 2 := rfl
theorem mrt_40 : mrt 40 = 2 := rfl
theorem mxl_41 : mxl 41 = 3 := rfl
theorem mrt_41 : mrt 41 = 0 := rfl
theorem mxl_42 : mxl 42 = 3 := rfl
theorem mrt_42 : mrt 42 = 0 := rfl
theorem mxl_43 : mxl 43 = 6 := rfl
theorem mrt_43 : mrt 43 = 1 := rfl
theorem mxl_44 : mxl 44 = 4 := rfl
theorem mrt_44 : mrt 44 = 2 := rfl
theorem mxl_45 : mxl 45 = 3 := rfl
theorem mrt_45 : mrt 45 = 1 := rfl
theorem mxl_46 : mxl 46 = 4 := rfl
theorem mrt_46 : mrt 46 = 1 := rfl
theorem mxl_47 : mxl 47 = 7 := rfl
theorem mrt_47 : mrt 47 = 1 := rfl
theorem mxl_48 : mxl 48 = 2 := rfl
theorem mrt_48 : mrt 48 = 0 := rfl
theorem mxl_49 : mxl 49 = 2 := rfl
theorem mrt_49 : mrt 49 = 2 := rfl
theorem mxl_50 : mxl 50 = 9 := rfl
theorem mrt_50 : mrt 50 = 1 := rfl
theorem mxl_51 : mxl 51 = 4 := rfl
theorem mrt_51 : mrt 51 = 0 := rfl
theorem mxl_52 : mxl 52 = 2 := rfl
theorem mrt_52 : mrt 52 = 0 := rfl
theorem mxl_53 : mxl 53 = 5 := rfl
theorem mrt_53 : mrt 53 = 0 := rfl
theorem mxl_54 : mxl 54 = 6 := rfl
theorem mrt_54 : mrt 54 = 0 := rfl
theorem mxl_55 : mxl 55 = 3 := rfl
theorem mrt_55 : mrt 55 = 0 := rfl
theorem mxl_56 : mxl 56 = 3 := rfl
theorem mrt_56 : mrt 56 = 0 := rfl
theorem mxl_57 : mxl 57 = 3 := rfl
theorem mrt_57 : mrt 57 = 0 := rfl
theorem mxl_58 : mxl 58 = 3 := rfl
theorem mrt_58 : mrt 58 = 0 := rfl
theorem mxl_59 : mxl 59 = 2 := rfl
theorem mrt_59 : mrt 59 = 2 := rfl
theorem mxl_60 : mxl 60 = 3 := rfl
theorem mrt_60 : mrt 60 = 1 := rfl
theorem mxl_61 : mxl 61 = 4 := rfl
theorem mrt_61 : mrt 61 = 2 := rfl
theorem mxl_62 : mxl 62 = 2 := rfl
theorem mrt_62 : mrt 62 = 2 := rfl
theorem mxl_63 : mxl 63 = 3 := rfl
theorem mrt_63 : mrt 63 = 1 := rfl
theorem mxl_64 : mxl 64 = 3 := rfl
theorem mrt_64 : mrt 64 = 3 := rfl
theorem mxl_65 : mxl 65 = 3 := rfl
theorem mrt_65 : mrt 65 = 2 := rfl
theorem mxl_66 : mxl 66 = 3 := rfl
theorem mrt_66 : mrt 66 = 0 := rfl
theorem mxl_67 : mxl 67 = 2 := rfl
theorem mrt_67 : mrt 67 = 0 := rfl
theorem mxl_68 : mxl 68 = 4 := rfl
theorem mrt_68 : mrt 68 = 0 := rfl
theorem mxl_69 : mxl 69 = 2 := rfl
theorem mrt_69 : mrt 69 = 0 := rfl
theorem mxl_70 : mxl 70 = 2 := rfl
theorem mrt_70 : mrt 70 = 1 := rfl
theorem mxl_71 : mxl 71 = 3 := rfl
theorem mrt_71 : mrt 71 = 1 := rfl
theorem mxl_72 : mxl 72 = 1 := rfl
theorem mrt_72 : mrt 72 = 0 := rfl
theorem mxl_73 : mxl 73 = 5 := rfl
theorem mrt_73 : mrt 73 = 1 := rfl
theorem mxl_74 : mxl 74 = 5 := rfl
theorem mrt_74 : mrt 74 = 1 := rfl
theorem mxl_75 : mxl 75 = 3 := rfl
theorem mrt_75 : mrt 75 = 1 := rfl
theorem mxl_76 : mxl 76 = 3 := rfl
theorem mrt_76 : mrt 76 = 1 := rfl
theorem mxl_77 : mxl 77 = 4 := rfl
theorem mrt_77 : mrt 77 = 1 := rfl
theorem mxl_78 : mxl 78 = 5 := rfl
theorem mrt_78 : mrt 78 = 1 := rfl
theorem mxl_79 : mxl 79 = 3 := rfl
theorem mrt_79 : mrt 79 = 1 := rfl
theorem mxl_80 : mxl 80 = 3 := rfl
theorem mrt_80 : mrt 80 = 1 := rfl
theorem mxl_81 : mxl 81 = 1 := rfl
theorem mrt_81 : mrt 81 = 1 := rfl
theorem mxl_82 : mxl 82 = 1 := rfl
theorem mrt_82 : mrt 82 = 1 := rfl
theorem mxl_83 : mxl 83 = 2 := rfl
theorem mrt_83 : mrt 83 = 1 := rfl
theorem mxl_84 : mxl 84 = 5 := rfl
theorem mrt_84 : mrt 84 = 1 := rfl
theorem mxl_85 : mxl 85 = 3 := rfl
theorem mrt_85 : mrt 85 = 1 := rfl
theorem mxl_86 : mxl 86 = 3 := rfl
theorem mrt_86 : mrt 86 = 1 := rfl
theorem mxl_87 : mxl 87 = 4 := rfl
theorem mrt_87 : mrt 87 = 1 := rfl
theorem mxl_88 : mxl 88 = 5 := rfl
theorem mrt_88 : mrt 88 = 1 := rfl
theorem mxl_89 : mxl 89 = 4 := rfl
theorem mrt_89 : mrt 89 = 1 := rfl
theorem mxl_90 : mxl 90 = 5 := rfl
theorem mrt_90 : mrt 90 = 1 := rfl
theorem mxl_91 : mxl 91 = 5 := rfl
theorem mrt_91 : mrt 91 = 1 := rfl
theorem mxl_92 : mxl 92 = 4 := rfl
theorem mrt_92 : mrt 92 = 1 := rfl
theorem mxl_93 : mxl 93 = 2 := rfl
theorem mrt_93 : mrt 93 = 1 := rfl
theorem mxl_94 : mxl 94 = 3 := rfl
theorem mrt_94 : mrt 94 = 1 := rfl
theorem mxl_95 : mxl 95 = 4 := rfl
theorem mrt_95 : mrt 95 = 1 := rfl
theorem mxl_96 : mxl 96 = 1 := rfl
theorem mrt_96 : mrt 96 = 1 := rfl
theorem mxl_97 : mxl 97 = 4 := rfl
theorem mrt_97 : mrt 97 = 1 := rfl
theorem mxl_98 : mxl 98 = 2 := rfl
theorem mrt_98 : mrt 98 = 1 := rfl
theorem mxl_99 : mxl 99 = 2 := rfl
theorem mrt_99 : mrt 99 = 1 := rfl
theorem mxl_100 : mxl 100 = 1 := rfl
theorem mrt_100 : mrt 100 = 1 := rfl
theorem mxl_101 : mxl 101 = 2 := rfl
theorem mrt_101 : mrt 101 = 1 := rfl
theorem mxl_102 : mxl 102 = 3 := rfl
theorem mrt_102 : mrt 102 = 1 := rfl
theorem mxl_103 : mxl 103 = 1 := rfl
theorem mrt_103 : mrt 103 = 1 := rfl
theorem mxl_104 : mxl 104 = 3 := rfl
theorem mrt_104 : mrt 104 = 1 := rfl
theorem mxl_105 : mxl 105 = 2 := rfl
theorem mrt_105 : mrt 105 = 1 := rfl
theorem mxl_106 : mxl 106 = 3 := rfl
theorem mrt_106 : mrt 106 = 1 := rfl
theorem mxl_107 : mxl 107 = 4 := rfl
theorem mrt_107 : mrt 107 = 1 := rfl
theorem mxl_108 : mxl 108 = 2 := rfl
theorem mrt_108 : mrt 108 = 1 := rfl
theorem mxl_109 : mxl 109 = 2 := rfl
theorem mrt_109 : mrt 109 = 2 := rfl
theorem mxl_110 : mxl 110 = 3 := rfl
theorem mrt_110 : mrt 110 = 2 := rfl
theorem mxl_111 : mxl 111 = 2 := rfl
theorem mrt_111 : mrt 111 = 1 := rfl
theorem mxl_112 : mxl 112 = 2 := rfl
theorem mrt_112 : mrt 112 = 1 := rfl
theorem mxl_113 : mxl 113 = 7 := rfl
theorem mrt_113 : mrt 113 = 1 := rfl
theorem mxl_114 : mxl 114 = 5 := rfl
theorem mrt_114 : mrt 114 = 4 := rfl
theorem mxl_115 : mxl 115 = 5 := rfl
theorem mrt_115 : mrt 115 = 2 := rfl
theorem mxl_116 : mxl 116 = 6 := rfl
theorem mrt_116 : mrt 116 = 1 := rfl
theorem mxl_117 : mxl 117 = 5 := rfl
theorem mrt_117 : mrt 117 = 1 := rfl
theorem mxl_118 : mxl 118 = 2 := rfl
theorem mrt_118 : mrt 118 = 2 := rfl
theorem mxl_119 : mxl 119 = 2 := rfl
theorem mrt_119 : mrt 119 = 2 := rfl
theorem mxl_120 : mxl 120 = 2 := rfl
theorem mrt_120 : mrt 120 = 2 := rfl
theorem mxl_121 : mxl 121 = 10 := rfl
theorem mrt_121 : mrt 121 = 2 := rfl
abbrev n_X0_init : Nat := 0
abbrev n_X0_isStored : Nat := 1
abbrev n_X0_exists : Nat := 2
abbrev n_X0_hasStoredAt : Nat := 3
abbrev n_X0_countExisting : Nat := 4
abbrev n_X0_put : Nat := 5
abbrev n_X0_byteAt : Nat := 6
abbrev n_X0_firstStoredFrom : Nat := 7
abbrev n_X0_lastStoringBefore : Nat := 8
abbrev n_X1_init : Nat := 9
abbrev n_X1_fill : Nat := 10
abbrev n_X2_init : Nat := 11
abbrev n_X2_clear : Nat := 12
abbrev n_X2_copyFrom : Nat := 13
abbrev n_X2_size : Nat := 14
abbrev n_X2_overlap : Nat := 15
abbrev n_X2_add : Nat := 16
abbrev n_X2_cutFirst : Nat := 17
abbrev n_X2_number : Nat := 18
abbrev n_X2_holeNumber : Nat := 19
abbrev n_X2_insert : Nat := 20
abbrev n_X2_removeRange : Nat := 21
abbrev n_X3_init : Nat := 22
abbrev n_X3_copyFrom : Nat := 23
abbrev n_X3_placeOf : Nat := 24
abbrev n_X3_placeToSend : Nat := 25
abbrev n_X3_put : Nat := 26
abbrev n_X3_moveToEnd : Nat := 27
abbrev n_X3_remove : Nat := 28
abbrev n_X4_init : Nat := 29
abbrev n_X4_isForDirectory : Nat := 30
abbrev n_X4_begin : Nat := 31
abbrev n_X4_copyFrom : Nat := 32
abbrev n_X5_init : Nat := 33
abbrev n_X5_append : Nat := 34
abbrev n_X5_read : Nat := 35
abbrev n_X5_readSubject : Nat := 36
abbrev n_X5_readHoles : Nat := 37
abbrev n_X5_skip : Nat := 38
abbrev n_X5_readNumber : Nat := 39
abbrev n_X5_isDigit : Nat := 40
abbrev n_X6_init : Nat := 41
abbrev n_X6_copyFrom : Nat := 42
abbrev n_X6_admit : Nat := 43
abbrev n_X6_isComplete : Nat := 44
abbrev n_X6_askDirectory : Nat := 45
abbrev n_X6_askFile : Nat := 46
abbrev n_X6_askHoles : Nat := 47
abbrev n_X6_tick : Nat := 48
abbrev n_X6_mayAsk : Nat := 49
abbrev n_X6_putFirstHoles : Nat := 50
abbrev n_X6_dropRequests : Nat := 51
abbrev n_X6_send : Nat := 52
abbrev n_X6_sendBytes : Nat := 53
abbrev n_X6_sendEntry : Nat := 54
abbrev n_X6_deliver : Nat := 55
abbrev n_X6_settle : Nat := 56
abbrev n_X7_init : Nat := 57
abbrev n_X7_copyFrom : Nat := 58
abbrev n_X7_sees : Nat := 59
abbrev n_X7_firstSight : Nat := 60
abbrev n_X7_isHit : Nat := 61
abbrev n_X7_knows : Nat := 62
abbrev n_X7_countOpen : Nat := 63
abbrev n_X7_bytesOf : Nat := 64
abbrev n_X7_beginFile : Nat := 65
abbrev n_X7_endFile : Nat := 66
abbrev n_X7_take : Nat := 67
abbrev n_X7_takeBytes : Nat := 68
abbrev n_X7_takeEntry : Nat := 69
abbrev n_X7_phaseAt : Nat := 70
abbrev n_X7_placeOf : Nat := 71
abbrev n_X8_init : Nat := 72
abbrev n_X8_addStation : Nat := 73
abbrev n_X8_setLoss : Nat := 74
abbrev n_X8_inView : Nat := 75
abbrev n_X8_nextView : Nat := 76
abbrev n_X8_receives : Nat := 77
abbrev n_X8_store : Nat := 78
abbrev n_X8_fileInfo : Nat := 79
abbrev n_X8_fileByte : Nat := 80
abbrev n_X8_fileCount : Nat := 81
abbrev n_X8_existingCount : Nat := 82
abbrev n_X8_directory : Nat := 83
abbrev n_X8_unknownFiles : Nat := 84
abbrev n_X8_covered : Nat := 85
abbrev n_X8_timeHole : Nat := 86
abbrev n_X8_open : Nat := 87
abbrev n_X8_close : Nat := 88
abbrev n_X8_receivedBytes : Nat := 89
abbrev n_X8_receivedByte : Nat := 90
abbrev n_X8_byteHole : Nat := 91
abbrev n_X8_completeFiles : Nat := 92
abbrev n_X8_requestDirectory : Nat := 93
abbrev n_X8_requestFile : Nat := 94
abbrev n_X8_withdraw : Nat := 95
abbrev n_X8_queueLength : Nat := 96
abbrev n_X8_queued : Nat := 97
abbrev n_X8_type : Nat := 98
abbrev n_X8_clearText : Nat := 99
abbrev n_X8_fault : Nat := 100
abbrev n_X8_requestText : Nat := 101
abbrev n_X8_run : Nat := 102
abbrev n_X8_time : Nat := 103
abbrev n_X8_lastFrame : Nat := 104
abbrev n_X8_total : Nat := 105
abbrev n_X8_stationTotal : Nat := 106
abbrev n_X8_ticksToComplete : Nat := 107
abbrev n_X8_ticksToEmpty : Nat := 108
abbrev n_X8_isStation : Nat := 109
abbrev n_X8_within : Nat := 110
abbrev n_L_part : Nat := 111
abbrev n_L_cell : Nat := 112
abbrev n_L_adds : Nat := 113
abbrev n_L_digest : Nat := 114
abbrev n_L_refused : Nat := 115
abbrev n_L_types : Nat := 116
abbrev n_L_faultOf : Nat := 117
abbrev n_L_texts : Nat := 118
abbrev n_L_known : Nat := 119
abbrev n_L_full : Nat := 120
abbrev n_L_law : Nat := 121
end
section
/-! A small machine of our own: values are whole numbers (int, long) and numbers of cells; its meaning is a predicate transformer. -/
abbrev mv_T : Type := Int ⊕ (Int ⊕ Option Nat)
abbrev vI (a : Int) : mv_T := .inl a
abbrev vL (a : Int) : mv_T := .inr (.inl a)
abbrev vR (a : Option Nat) : mv_T := .inr (.inr a)
def wr (x : Int) : Int := (x + 2147483648) % 4294967296 - 2147483648
def wl (x : Int) : Int := (x + 9223372036854775808) % 18446744073709551616 - 9223372036854775808
theorem wr_id {x : Int} (h1 : -2147483648 ≤ x) (h2 : x ≤ 2147483647) : wr x = x := by unfold wr; omega
theorem wl_id {x : Int} (h1 : -9223372036854775808 ≤ x) (h2 : x ≤ 9223372036854775807) : wl x = x := by unfold wl; omega
/-- cells made, their slots; kind and length of a cell; its whole numbers; its references -/
abbrev ms_T : Type := (Nat × Nat) × (Nat → Nat × Nat) × (Nat → Nat → Int) × (Nat → Nat → Option Nat)
def gn (σ : ms_T) : Nat := σ.1.1
def gl (σ : ms_T) : Nat := σ.1.2
def gs (σ : ms_T) (c : Nat) : Nat × Nat := σ.2.1 c
def gi (σ : ms_T) (c k : Nat) : Int := σ.2.2.1 c k
def gr (σ : ms_T) (c k : Nat) : Option Nat := σ.2.2.2 c k
def sI (σ : ms_T) (c k : Nat) (v : Int) : ms_T := (σ.1, σ.2.1, fun c' k' => if c' = c ∧ k' = k then v else σ.2.2.1 c' k', σ.2.2.2)
def sR (σ : ms_T) (c k : Nat) (v : Option Nat) : ms_T := (σ.1, σ.2.1, σ.2.2.1, fun c' k' => if c' = c ∧ k' = k then v else σ.2.2.2 c' k')
/-- a new cell of a kind and length, of n slots -/
def alc (σ : ms_T) (kd len n : Nat) : ms_T := ((σ.1.1 + 1, σ.1.2 + n), fun c => if c = σ.1.1 + 1 then (kd, len) else σ.2.1 c, fun c k => if c = σ.1.1 + 1 then 0 else σ.2.2.1 c k, fun c k => if c = σ.1.1 + 1 then none else σ.2.2.2 c k)
theorem gn_sI (σ : ms_T) (c k : Nat) (v : Int) : gn (sI σ c k v) = gn σ := rfl
theorem gl_sI (σ : ms_T) (c k : Nat) (v : Int) : gl (sI σ c k v) = gl σ := rfl
theorem gs_sI (σ : ms_T) (c k : Nat) (v : Int) (c' : Nat) : gs (sI σ c k v) c' = gs σ c' := rfl
theorem gi_sI (σ : ms_T) (c k : Nat) (v : Int) (c' k' : Nat) : gi (sI σ c k v) c' k' = if c' = c ∧ k' = k then v else gi σ c' k' := rfl
theorem gr_sI (σ : ms_T) (c k : Nat) (v : Int) (c' k' : Nat) : gr (sI σ c k v) c' k' = gr σ c' k' := rfl
theorem gn_sR (σ : ms_T) (c k : Nat) (v : Option Nat) : gn (sR σ c k v) = gn σ := rfl
theorem gl_sR (σ : ms_T) (c k : Nat) (v : Option Nat) : gl (sR σ c k v) = gl σ := rfl
theorem gs_sR (σ : ms_T) (c k : Nat) (v : Option Nat) (c' : Nat) : gs (sR σ c k v) c' = gs σ c' := rfl
theorem gi_sR (σ : ms_T) (c k : Nat) (v : Option Nat) (c' k' : Nat) : gi (sR σ c k v) c' k' = gi σ c' k' := rfl
theorem gr_sR (σ : ms_T) (c k : Nat) (v : Option Nat) (c' k' : Nat) : gr (sR σ c k v) c' k' = if c' = c ∧ k' = k then v else gr σ c' k' := rfl
abbrev ml_T : Type := List (Option mv_T)
def nth {α : Type} : List α → Nat → Option α
  | [], _ => none
  | x :: _, 0 => some x
  | _ :: xs, k + 1 => nth xs k
def put {α : Type} : List α → Nat → α → List α
  | [], _, _ => []
  | _ :: xs, 0, y => y :: xs
  | x :: xs, k + 1, y => x :: put xs k y
def ldI (ls : ml_T) (k : Nat) (F : Int → Prop) : Prop := match nth ls k with
  | some (some (.inl a)) => F a
  | _ => False
def ldL (ls : ml_T) (k : Nat) (F : Int → Prop) : Prop := match nth ls k with
  | some (some (.inr (.inl a))) => F a
  | _ => False
def ldR (ls : ml_T) (k : Nat) (F : Option Nat → Prop) : Prop := match nth ls k with
  | some (some (.inr (.inr a))) => F a
  | _ => False
/-- no long lies in the place before -/
def nol (ls : ml_T) (k : Nat) : Bool := match k with
  | 0 => true
  | j + 1 => match nth ls j with
    | some (some (.inr (.inl _))) => false
    | _ => true
/-- a test of the tables' own, that falls away -/
def gd (b : Bool) (F : Prop) : Prop := match b with
  | true => F
  | false => False
def isS (o : Option Nat) (F : Nat → Prop) : Prop := match o with
  | some c => F c
  | none => False
def isE (r : List mv_T) (F : Prop) : Prop := match r with
  | [] => F
  | _ :: _ => False
def pI (st : List mv_T) (F : Int → List mv_T → Prop) : Prop := match st with
  | .inl a :: r => F a r
  | _ => False
def pL (st : List mv_T) (F : Int → List mv_T → Prop) : Prop := match st with
  | .inr (.inl a) :: r => F a r
  | _ => False
def pR (st : List mv_T) (F : Option Nat → List mv_T → Prop) : Prop := match st with
  | .inr (.inr a) :: r => F a r
  | _ => False
/-- a value of one word -/
def p1 (st : List mv_T) (F : mv_T → List mv_T → Prop) : Prop := match st with
  | .inl a :: r => F (.inl a) r
  | .inr (.inr a) :: r => F (.inr (.inr a)) r
  | _ => False
def icnd (c : ClassFile.Cond) (a b : Int) : Prop := match c with
  | .eq => a = b
  | .ne => ¬ a = b
  | .lt => a < b
  | .ge => b ≤ a
  | .gt => b < a
  | .le => a ≤ b
def swt (a : Int) (K : Nat → Prop) : Int → List Nat → Prop
  | _, [] => True
  | i, t :: ts => (a = i → K t) ∧ swt a K (i + 1) ts
def bAnd (a b : Int) : Int := (Int32.ofInt a &&& Int32.ofInt b).toInt
def bXor (a b : Int) : Int := (Int32.ofInt a ^^^ Int32.ofInt b).toInt
def lAnd (a b : Int) : Int := (Int64.ofInt a &&& Int64.ofInt b).toInt
def lShr (a b : Int) : Int := (Int64.ofInt a >>> ((Int32.ofInt b).toInt64 &&& 63)).toInt
def bOr (a b : Int) : Int := (Int32.ofInt a ||| Int32.ofInt b).toInt
def bShl (a b : Int) : Int := (Int32.ofInt a <<< (Int32.ofInt b &&& 31)).toInt
def bShr (a b : Int) : Int := (Int32.ofInt a >>> (Int32.ofInt b &&& 31)).toInt
def cmp3 (a b : Int) : Int := if a < b then -1 else if a = b then 0 else 1
def rtn (rk : Nat) (r : Option mv_T) (F : List mv_T → Prop) : Prop := match rk with
  | 0 => r = none ∧ F []
  | 3 => ∃ o, r = some (vR o) ∧ F [vR o]
  | 4 => ∃ a, r = some (vL a) ∧ F [vL a]
  | _ => ∃ a, r = some (vI a) ∧ F [vI a]
/-- n values off the stack, the deepest first -/
def popn : Nat → List mv_T → List mv_T → (List mv_T → List mv_T → Prop) → Prop
  | 0, acc, st, F => F acc st
  | _ + 1, _, [], _ => False
  | n + 1, acc, v :: st, F => popn n (v :: acc) st F
def mcat (v : mv_T) : Nat := match v with
  | .inr (.inl _) => 2
  | _ => 1
def mwds : List mv_T → Nat
  | [] => 0
  | v :: r => mcat v + mwds r
def all1 : List mv_T → Bool
  | [] => true
  | v :: r => Nat.beq (mcat v) 1 && all1 r
/-- arguments of one word, or no more words than the method's locals -/
def okas (j : Nat) (as : List mv_T) : Bool := match all1 as with
  | true => true
  | false => Nat.ble (mwds as) (mxl j)
def okA (σ : ms_T) (o : Option Nat) (kd : Nat) (i : Int) (F : Nat → Prop) : Prop := isS o fun c => (gs σ c).1 = kd ∧ 0 ≤ i ∧ i < ((gs σ c).2 : Int) ∧ F c
/-- an array of references, of any element kind -/
def okQ (σ : ms_T) (o : Option Nat) (i : Int) (F : Nat → Prop) : Prop := isS o fun c => 60 ≤ (gs σ c).1 ∧ (gs σ c).1 < 70 ∧ 0 ≤ i ∧ i < ((gs σ c).2 : Int) ∧ F c
def retI (rk : Nat) (a : Int) (F : Prop) : Prop := match rk with
  | 1 => F
  | 2 => (a = 0 ∨ a = 1) ∧ F
  | _ => False
abbrev mk_T : Type := Nat → ml_T → List mv_T → ms_T → Prop
abbrev mq_T : Type := Option mv_T → ms_T → Prop
abbrev mc_T : Type := Nat → List mv_T → ms_T → mq_T → Prop
def wpi (pc : Nat) (e : me_T) (rk : Nat) (ls : ml_T) (st : List mv_T) (σ : ms_T) (K : mk_T) (C : mc_T) (Q : mq_T) : Prop := match e with
  | (.aconst_null, _, _) => K (pc + 1) ls (vR none :: st) σ
  | (.iconst _, [n], v) => K (pc + n) ls (vI v :: st) σ
  | (.bipush _, [n], v) => K (pc + n) ls (vI v :: st) σ
  | (.sipush _, [n], v) => K (pc + n) ls (vI v :: st) σ
  | (.lconst _, _, v) => K (pc + 1) ls (vL v :: st) σ
  | (.ldc _, _, v) => K (pc + 2) ls (vI v :: st) σ
  | (.ldc2_w _, _, v) => K (pc + 3) ls (vL v :: st) σ
  | (.iload_n _, [k, n], _) => ldI ls k fun a => K (pc + n) ls (vI a :: st) σ
  | (.iload _, [k, n], _) => ldI ls k fun a => K (pc + n) ls (vI a :: st) σ
  | (.lload_n _, [k, n], _) => ldL ls k fun a => K (pc + n) ls (vL a :: st) σ
  | (.lload _, [k, n], _) => ldL ls k fun a => K (pc + n) ls (vL a :: st) σ
  | (.aload_n _, [k, n], _) => ldR ls k fun a => K (pc + n) ls (vR a :: st) σ
  | (.aload _, [k, n], _) => ldR ls k fun a => K (pc + n) ls (vR a :: st) σ
  | (.istore_n _, [k, n], _) => pI st fun a r => gd (Nat.blt k ls.length && nol ls k) (K (pc + n) (put ls k (some (vI a))) r σ)
  | (.istore _, [k, n], _) => pI st fun a r => gd (Nat.blt k ls.length && nol ls k) (K (pc + n) (put ls k (some (vI a))) r σ)
  | (.lstore_n _, [k, n], _) => pL st fun a r => gd (Nat.blt (k + 1) ls.length && nol ls k) (K (pc + n) (put (put ls k (some (vL a))) (k + 1) none) r σ)
  | (.lstore _, [k, n], _) => pL st fun a r => gd (Nat.blt (k + 1) ls.length && nol ls k) (K (pc + n) (put (put ls k (some (vL a))) (k + 1) none) r σ)
  | (.astore_n _, [k, n], _) => pR st fun a r => gd (Nat.blt k ls.length && nol ls k) (K (pc + n) (put ls k (some (vR a))) r σ)
  | (.astore _, [k, n], _) => pR st fun a r => gd (Nat.blt k ls.length && nol ls k) (K (pc + n) (put ls k (some (vR a))) r σ)
  | (.iinc _ _, [k], v) => ldI ls k fun a => gd (Nat.blt k ls.length && nol ls k) (K (pc + 3) (put ls k (some (vI (wr (a + v))))) st σ)
  | (.iadd, _, _) => pI st fun b r => pI r fun a r => K (pc + 1) ls (vI (wr (a + b)) :: r) σ
  | (.isub, _, _) => pI st fun b r => pI r fun a r => K (pc + 1) ls (vI (wr (a - b)) :: r) σ
  | (.imul, _, _) => pI st fun b r => pI r fun a r => K (pc + 1) ls (vI (wr (a * b)) :: r) σ
  | (.idiv, _, _) => pI st fun b r => pI r fun a r => ¬ b = 0 ∧ K (pc + 1) ls (vI (wr (a.tdiv b)) :: r) σ
  | (.irem, _, _) => pI st fun b r => pI r fun a r => ¬ b = 0 ∧ K (pc + 1) ls (vI (a.tmod b) :: r) σ
  | (.iand, _, _) => pI st fun b r => pI r fun a r => K (pc + 1) ls (vI (bAnd a b) :: r) σ
  | (.ior, _, _) => pI st fun b r => pI r fun a r => K (pc + 1) ls (vI (bOr a b) :: r) σ
  | (.ixor, _, _) => pI st fun b r => pI r fun a r => K (pc + 1) ls (vI (bXor a b) :: r) σ
  | (.ishl, _, _) => pI st fun b r => pI r fun a r => K (pc + 1) ls (vI (bShl a b) :: r) σ
  | (.ishr, _, _) => pI st fun b r => pI r fun a r => K (pc + 1) ls (vI (bShr a b) :: r) σ
  | (.i2l, _, _) => pI st fun a r => K (pc + 1) ls (vL a :: r) σ
  | (.i2c, _, _) => pI st fun a r => 0 ≤ a ∧ a < 65536 ∧ K (pc + 1) ls (vI a :: r) σ
  | (.ladd, _, _) => pL st fun b r => pL r fun a r => K (pc + 1) ls (vL (wl (a + b)) :: r) σ
  | (.lmul, _, _) => pL st fun b r => pL r fun a r => K (pc + 1) ls (vL (wl (a * b)) :: r) σ
  | (.lrem, _, _) => pL st fun b r => pL r fun a r => ¬ b = 0 ∧ K (pc + 1) ls (vL (a.tmod b) :: r) σ
  | (.land, _, _) => pL st fun b r => pL r fun a r => K (pc + 1) ls (vL (lAnd a b) :: r) σ
  | (.lshr, _, _) => pI st fun b r => pL r fun a r => K (pc + 1) ls (vL (lShr a b) :: r) σ
  | (.l2i, _, _) => pL st fun a r => K (pc + 1) ls (vI (wr a) :: r) σ
  | (.lcmp, _, _) => pL st fun b r => pL r fun a r => K (pc + 1) ls (vI (cmp3 a b) :: r) σ
  | (.dup, _, _) => p1 st fun a r => K (pc + 1) ls (a :: a :: r) σ
  | (.dup2, _, _) => p1 st fun b r => p1 r fun a r => K (pc + 1) ls (b :: a :: b :: a :: r) σ
  | (.pop, _, _) => p1 st fun _ r => K (pc + 1) ls r σ
  | (.goto _, [t], _) => K t ls st σ
  | (.ifCond c _, [t], _) => pI st fun a r => (icnd c a 0 → K t ls r σ) ∧ (¬ icnd c a 0 → K (pc + 3) ls r σ)
  | (.if_icmp c _, [t], _) => pI st fun b r => pI r fun a r => (icnd c a b → K t ls r σ) ∧ (¬ icnd c a b → K (pc + 3) ls r σ)
  | (.ifnull _, [t], _) => pR st fun a r => (a = none → K t ls r σ) ∧ (¬ a = none → K (pc + 3) ls r σ)
  | (.ifnonnull _, [t], _) => pR st fun a r => (¬ a = none → K t ls r σ) ∧ (a = none → K (pc + 3) ls r σ)
  | (.tableswitch _ _ _ _, d :: ts, lo) => pI st fun a r => (a < lo ∨ lo + ts.length ≤ a → K d ls r σ) ∧ swt a (fun t => K t ls r σ) lo ts
  | (.getfield _, [ci, k, 2, _], _) => pR st fun o r => isS o fun c => gs σ c = (ci, 0) ∧ K (pc + 3) ls (vR (gr σ c k) :: r) σ
  | (.getfield _, [ci, k, 1, _], _) => pR st fun o r => isS o fun c => gs σ c = (ci, 0) ∧ K (pc + 3) ls (vI (gi σ c k) :: r) σ
  | (.getfield _, [ci, k, 0, _], _) => pR st fun o r => isS o fun c => gs σ c = (ci, 0) ∧ K (pc + 3) ls (vI (gi σ c k) :: r) σ
  | (.putfield _, [ci, k, 2, _], _) => pR st fun v r => pR r fun o r => isS o fun c => gs σ c = (ci, 0) ∧ K (pc + 3) ls r (sR σ c k v)
  | (.putfield _, [ci, k, 1, _], _) => pI st fun v r => pR r fun o r => isS o fun c => gs σ c = (ci, 0) ∧ (v = 0 ∨ v = 1) ∧ K (pc + 3) ls r (sI σ c k v)
  | (.putfield _, [ci, k, 0, _], _) => pI st fun v r => pR r fun o r => isS o fun c => gs σ c = (ci, 0) ∧ K (pc + 3) ls r (sI σ c k v)
  | (.iaload, [kd], _) => pI st fun i r => pR r fun o r => okA σ o kd i fun c => K (pc + 1) ls (vI (gi σ c i.toNat) :: r) σ
  | (.caload, [kd], _) => pI st fun i r => pR r fun o r => okA σ o kd i fun c => K (pc + 1) ls (vI (gi σ c i.toNat) :: r) σ
  | (.aaload, _, _) => pI st fun i r => pR r fun o r => okQ σ o i fun c => K (pc + 1) ls (vR (gr σ c i.toNat) :: r) σ
  | (.iastore, [kd], _) => pI st fun v r => pI r fun i r => pR r fun o r => okA σ o kd i fun c => K (pc + 1) ls r (sI σ c i.toNat v)
  | (.castore, [kd], _) => pI st fun v r => pI r fun i r => pR r fun o r => okA σ o kd i fun c => 0 ≤ v ∧ v < 65536 ∧ K (pc + 1) ls r (sI σ c i.toNat v)
  | (.aastore, _, _) => pR st fun v r => pI r fun i r => pR r fun o r => okQ σ o i fun c => (isS v fun w => (gs σ w).1 + 60 = (gs σ c).1 ∧ (gs σ w).2 = 0) ∧ K (pc + 1) ls r (sR σ c i.toNat v)
  | (.arraylength, _, _) => pR st fun o r => isS o fun c => (gs σ c).1 = 49 ∧ K (pc + 1) ls (vI ((gs σ c).2 : Int) :: r) σ
  | (.new _, [ci, n], _) => K (pc + 3) ls (vR (some (gn σ + 1)) :: st) (alc σ ci 0 n)
  | (.newarray _, [kd], _) => pI st fun a r => 0 ≤ a ∧ a ≤ 1000 ∧ K (pc + 2) ls (vR (some (gn σ + 1)) :: r) (alc σ kd a.toNat a.toNat)
  | (.anewarray _, [kd], _) => pI st fun a r => 0 ≤ a ∧ a ≤ 1000 ∧ K (pc + 3) ls (vR (some (gn σ + 1)) :: r) (alc σ kd a.toNat a.toNat)
  | (.invokevirtual _, [j, n, rk', ci], 0) => popn n [] st fun as r => pR r fun o r => isS o fun c => gs σ c = (ci, 0) ∧ gd (Nat.ble (mwds r) 8 && all1 as) (C j (vR (some c) :: as) σ fun v τ => rtn rk' v fun vs => K (pc + 3) ls (vs ++ r) τ)
  | (.invokestatic _, [j, n, rk', _], 1) => popn n [] st fun as r => gd (Nat.ble (mwds r) 8 && okas j as) (C j as σ fun v τ => rtn rk' v fun vs => K (pc + 3) ls (vs ++ r) τ)
  | (.invokespecial _, [j, n, _, ci], 2) => popn n [] st fun as r => pR r fun o r => isS o fun c => gs σ c = (ci, 0) ∧ gd (Nat.ble (mwds r) 8 && all1 as) (C j (vR (some c) :: as) σ fun v τ => rtn 0 v fun vs => K (pc + 3) ls (vs ++ r) τ)
  | (.invokespecial _, [], 3) => pR st fun o r => isS o fun c => gd (Nat.ble (mwds r) 8) (K (pc + 3) ls r σ)
  | (.invokestatic _, [], 4) => pI st fun b r => pI r fun a r => gd (Nat.ble (mwds r) 8) (K (pc + 3) ls (vI (min a b) :: r) σ)
  | (.invokestatic _, [], 5) => pI st fun b r => pI r fun a r => gd (Nat.ble (mwds r) 8) (K (pc + 3) ls (vI (max a b) :: r) σ)
  | (.return_, _, _) => isE st (gd (Nat.beq rk 0) (Q none σ))
  | (.ireturn, _, _) => pI st fun a r => isE r (retI rk a (Q (some (vI a)) σ))
  | (.lreturn, _, _) => pL st fun a r => isE r (gd (Nat.beq rk 4) (Q (some (vL a)) σ))
  | (.areturn, _, _) => pR st fun a r => isE r (gd (Nat.beq rk 3) (Q (some (vR a)) σ))
  | _ => False
/-- a method's locals at its entry -/
def xpa : List mv_T → ml_T
  | [] => []
  | .inr (.inl a) :: vs => some (vL a) :: none :: xpa vs
  | .inl a :: vs => some (vI a) :: xpa vs
  | .inr (.inr a) :: vs => some (vR a) :: xpa vs
def padN : Nat → ml_T → ml_T
  | 0, _ => []
  | n + 1, [] => none :: padN n []
  | n + 1, x :: xs => x :: padN n xs
def pad (n : Nat) (as : List mv_T) : ml_T := padN n (xpa as)
def Wm : Nat → Nat → Nat → ml_T → List mv_T → ms_T → mq_T → Prop
  | 0, _, _, _, _, _, _ => False
  | n + 1, j, pc, ls, st, σ, Q => ∃ e, code_of j pc = some e ∧ wpi pc e (mrt j) ls st σ (fun pc' ls' st' σ' => Wm n j pc' ls' st' σ' Q) (fun j' as σ' k => Wm n j' 0 (pad (mxl j') as) [] σ' k) Q
def At (j pc : Nat) (ls : ml_T) (st : List mv_T) (σ : ms_T) (Q : mq_T) : Prop := ∃ n, Wm n j pc ls st σ Q
def Ca (j : Nat) (as : List mv_T) (σ : ms_T) (Q : mq_T) : Prop := At j 0 (pad (mxl j) as) [] σ Q
end
section
theorem br_em {c A B : Prop} (h : (c → A) ∧ (¬ c → B)) : (c ∧ A) ∨ (¬ c ∧ B) := (Classical.em c).elim (fun q => Or.inl ⟨q, h.1 q⟩) (fun q => Or.inr ⟨q, h.2 q⟩)
theorem ldI_inv {ls : ml_T} {k : Nat} {F : Int → Prop} (h : ldI ls k F) : ∃ a, nth ls k = some (some (vI a)) ∧ F a := by
  unfold ldI at h
  split at h
  · next a e => exact ⟨a, e, h⟩
  · exact h.elim
theorem ldL_inv {ls : ml_T} {k : Nat} {F : Int → Prop} (h : ldL ls k F) : ∃ a, nth ls k = some (some (vL a)) ∧ F a := by
  unfold ldL at h
  split at h
  · next a e => exact ⟨a, e, h⟩
  · exact h.elim
theorem ldR_inv {ls : ml_T} {k : Nat} {F : Option Nat → Prop} (h : ldR ls k F) : ∃ a, nth ls k = some (some (vR a)) ∧ F a := by
  unfold ldR at h
  split at h
  · next a e => exact ⟨a, e, h⟩
  · exact h.elim
theorem ldI_mk {ls : ml_T} {k : Nat} {F : Int → Prop} {a : Int} (e : nth ls k = some (some (vI a))) (h : F a) : ldI ls k F := by unfold ldI; rw [e]; exact h
theorem ldL_mk {ls : ml_T} {k : Nat} {F : Int → Prop} {a : Int} (e : nth ls k = some (some (vL a))) (h : F a) : ldL ls k F := by unfold ldL; rw [e]; exact h
theorem ldR_mk {ls : ml_T} {k : Nat} {F : Option Nat → Prop} {a : Option Nat} (e : nth ls k = some (some (vR a))) (h : F a) : ldR ls k F := by unfold ldR; rw [e]; exact h
theorem pI_inv {st : List mv_T} {F : Int → List mv_T → Prop} (h : pI st F) : ∃ a r, st = vI a :: r ∧ F a r := by
  unfold pI at h
  split at h
  · exact ⟨_, _, rfl, h⟩
  · exact h.elim
theorem pL_inv {st : List mv_T} {F : Int → List mv_T → Prop} (h : pL st F) : ∃ a r, st = vL a :: r ∧ F a r := by
  unfold pL at h
  split at h
  · exact ⟨_, _, rfl, h⟩
  · exact h.elim
theorem pR_inv {st : List mv_T} {F : Option Nat → List mv_T → Prop} (h : pR st F) : ∃ a r, st = vR a :: r ∧ F a r := by
  unfold pR at h
  split at h
  · exact ⟨_, _, rfl, h⟩
  · exact h.elim
theorem gd_inv {b : Bool} {F : Prop} (h : gd b F) : b = true ∧ F := by
  cases b
  · exact h.elim
  · exact ⟨rfl, h⟩
theorem gd_mk {b : Bool} {F : Prop} (e : b = true) (h : F) : gd b F := by subst e; exact h
theorem isS_inv {o : Option Nat} {F : Nat → Prop} (h : isS o F) : ∃ c, o = some c ∧ F c := by
  cases o with
  | none => exact h.elim
  | some c => exact ⟨c, rfl, h⟩
theorem isS_mk {o : Option Nat} {F : Nat → Prop} {c : Nat} (e : o = some c) (h : F c) : isS o F := by subst e; exact h
theorem isE_inv {r : List mv_T} {F : Prop} (h : isE r F) : r = [] ∧ F := by
  cases r with
  | nil => exact ⟨rfl, h⟩
  | cons _ _ => exact h.elim
theorem retI_inv {rk : Nat} {a : Int} {F : Prop} (h : retI rk a F) : F ∧ ∀ {G : Prop}, G → retI rk a G := by
  unfold retI at h
  split at h
  · exact ⟨h, fun g => g⟩
  · exact ⟨h.2, fun g => ⟨h.1, g⟩⟩
  · exact h.elim
theorem p1_inv {st : List mv_T} {F : mv_T → List mv_T → Prop} (h : p1 st F) : ∃ a r, st = a :: r ∧ mcat a = 1 ∧ F a r := by
  unfold p1 at h
  split at h
  · exact ⟨_, _, rfl, rfl, h⟩
  · exact ⟨_, _, rfl, rfl, h⟩
  · exact h.elim
theorem p1_mk {a : mv_T} {r : List mv_T} {F : mv_T → List mv_T → Prop} (m : mcat a = 1) (h : F a r) : p1 (a :: r) F := by
  rcases a with a | a | a
  · exact h
  · cases m
  · exact h
theorem popn_inv : ∀ (n : Nat) (acc st : List mv_T) (F : List mv_T → List mv_T → Prop), popn n acc st F → ∃ as r, (∀ {G : List mv_T → List mv_T → Prop}, G as r → popn n acc st G) ∧ F as r
  | 0, acc, st, F, h => ⟨acc, st, fun h => h, h⟩
  | n + 1, acc, [], F, h => h.elim
  | n + 1, acc, v :: st, F, h => by
    obtain ⟨as, r, h1, h2⟩ := popn_inv n (v :: acc) st F h
    exact ⟨as, r, fun h => h1 h, h2⟩
theorem swt_t {a : Int} {K : Nat → Prop} : ∀ {ts : List Nat} {i : Int}, (∀ t, K t) → swt a K i ts
  | [], _, _ => trivial
  | _ :: _, _, h => ⟨fun _ => h _, swt_t h⟩
theorem swt_lt {a : Int} {K : Nat → Prop} : ∀ {ts : List Nat} {i : Int}, a < i → swt a K i ts
  | [], _, _ => trivial
  | _ :: _, i, h => ⟨fun z => by omega, swt_lt (by omega)⟩
theorem swt_one {a : Int} {K : Nat → Prop} : ∀ {ts : List Nat} {i : Int}, i ≤ a → a < i + ts.length → swt a K i ts → ∃ (k : Nat) (t : Nat), ts[k]? = some t ∧ a = i + k ∧ K t ∧ ∀ {K' : Nat → Prop}, K' t → swt a K' i ts
  | [], i, h1, h2, _ => by simp only [List.length_nil] at h2; omega
  | t :: ts, i, h1, h2, h => by
    by_cases q : a = i
    · exact ⟨0, t, rfl, by omega, h.1 q, fun h' => ⟨fun _ => h', swt_lt (by omega)⟩⟩
    · have h2' : a < i + 1 + ts.length := by simp only [List.length_cons] at h2; omega
      obtain ⟨k, t', e, e2, h3, h4⟩ := swt_one (i := i + 1) (by omega) h2' h.2
      exact ⟨k + 1, t', e, by omega, h3, fun h' => ⟨fun z => absurd z q, h4 h'⟩⟩
theorem swt_inv {a lo : Int} {ts : List Nat} {d : Nat} {K : Nat → Prop} (h1 : a < lo ∨ lo + ts.length ≤ a → K d) (h2 : swt a K lo ts) : ∃ t, (t = d ∨ t ∈ ts) ∧ K t ∧ ∀ {K' : Nat → Prop}, K' t → (a < lo ∨ lo + ts.length ≤ a → K' d) ∧ swt a K' lo ts := by
  by_cases q : a < lo ∨ lo + ts.length ≤ a
  · refine ⟨d, Or.inl rfl, h1 q, fun h => ⟨fun _ => h, ?_⟩⟩
    clear h1 h2
    revert q
    generalize lo = i
    intro q
    induction ts generalizing i with
    | nil => trivial
    | cons t ts ih =>
      simp only [List.length_cons] at q
      refine ⟨fun z => by omega, ih (i + 1) (by omega)⟩
  · obtain ⟨k, t, e, -, h3, h4⟩ := swt_one (by omega) (by omega) h2
    exact ⟨t, Or.inr (List.mem_of_getElem? e), h3, fun h => ⟨fun z => absurd z q, h4 h⟩⟩
set_option maxHeartbeats 4000000 in
set_option maxRecDepth 100000 in
theorem wpi_inv {pc : Nat} {e : me_T} {rk : Nat} {ls : ml_T} {st : List mv_T} {σ : ms_T} {K : mk_T} {C : mc_T} {Q : mq_T} (h : wpi pc e rk ls st σ K C Q) :
    (∃ pc' ls' st' σ', K pc' ls' st' σ' ∧ (gn σ ≤ gn σ' ∧ gl σ ≤ gl σ') ∧ ∀ (K' : mk_T) (C' : mc_T) (Q' : mq_T), K' pc' ls' st' σ' → wpi pc e rk ls st σ K' C' Q') ∨
    (∃ j as rk' r, C j as σ (fun v τ => rtn rk' v fun vs => K (pc + 3) ls (vs ++ r) τ) ∧ ∀ (K' : mk_T) (C' : mc_T) (Q' : mq_T), C' j as σ (fun v τ => rtn rk' v fun vs => K' (pc + 3) ls (vs ++ r) τ) → wpi pc e rk ls st σ K' C' Q') ∨
    (∃ v, Q v σ ∧ ∀ (K' : mk_T) (C' : mc_T) (Q' : mq_T), Q' v σ → wpi pc e rk ls st σ K' C' Q') := by
  unfold wpi at h
  split at h
  · exact Or.inl ⟨_, _, _, _, h, ⟨Nat.le_refl _, Nat.le_refl _⟩, fun _ _ _ h' => h'⟩
  · exact Or.inl ⟨_, _, _, _, h, ⟨Nat.le_refl _, Nat.le_refl _⟩, fun _ _ _ h' => h'⟩
  · exact Or.inl ⟨_, _, _, _, h, ⟨Nat.le_refl _, Nat.le_refl _⟩, fun _ _ _ h' => h'⟩
  · exact Or.inl ⟨_, _, _, _, h, ⟨Nat.le_refl _, Nat.le_refl _⟩, fun _ _ _ h' => h'⟩
  · exact Or.inl ⟨_, _, _, _, h, ⟨Nat.le_refl _, Nat.le_refl _⟩, fun _ _ _ h' => h'⟩
  · exact Or.inl ⟨_, _, _, _, h, ⟨Nat.le_refl _, Nat.le_refl _⟩, fun _ _ _ h' => h'⟩
  · exact Or.inl ⟨_, _, _, _, h, ⟨Nat.le_refl _, Nat.le_refl _⟩, fun _ _ _ h' => h'⟩
  · obtain ⟨a, ha, h⟩ := ldI_inv h
    exact Or.inl ⟨_, _, _, _, h, ⟨Nat.le_refl _, Nat.le_refl _⟩, fun _ _ _ h' => ldI_mk ha h'⟩
  · obtain ⟨a, ha, h⟩ := ldI_inv h
    exact Or.inl ⟨_, _, _, _, h, ⟨Nat.le_refl _, Nat.le_refl _⟩, fun _ _ _ h' => ldI_mk ha h'⟩
  · obtain ⟨a, ha, h⟩ := ldL_inv h
    exact Or.inl ⟨_, _, _, _, h, ⟨Nat.le_refl _, Nat.le_refl _⟩, fun _ _ _ h' => ldL_mk ha h'⟩
  · obtain ⟨a, ha, h⟩ := ldL_inv h
    exact Or.inl ⟨_, _, _, _, h, ⟨Nat.le_refl _, Nat.le_refl _⟩, fun _ _ _ h' => ldL_mk ha h'⟩
  · obtain ⟨a, ha, h⟩ := ldR_inv h
    exact Or.inl ⟨_, _, _, _, h, ⟨Nat.le_refl _, Nat.le_refl _⟩, fun _ _ _ h' => ldR_mk ha h'⟩
  · obtain ⟨a, ha, h⟩ := ldR_inv h
    exact Or.inl ⟨_, _, _, _, h, ⟨Nat.le_refl _, Nat.le_refl _⟩, fun _ _ _ h' => ldR_mk ha h'⟩
  · obtain ⟨x0, r0, e0, g0⟩ := pI_inv h
    clear h
    subst e0
    have h := g0
    clear g0
    obtain ⟨c0, h⟩ := gd_inv h
    exact Or.inl ⟨_, _, _, _, h, ⟨Nat.le_refl _, Nat.le_refl _⟩, fun _ _ _ h' => gd_mk c0 h'⟩
  · obtain ⟨x0, r0, e0, g0⟩ := pI_inv h
    clear h
    subst e0
    have h := g0
    clear g0
    obtain ⟨c0, h⟩ := gd_inv h
    exact Or.inl ⟨_, _, _, _, h, ⟨Nat.le_refl _, Nat.le_refl _⟩, fun _ _ _ h' => gd_mk c0 h'⟩
  · obtain ⟨x0, r0, e0, g0⟩ := pL_inv h
    clear h
    subst e0
    have h := g0
    clear g0
    obtain ⟨c0, h⟩ := gd_inv h
    exact Or.inl ⟨_, _, _, _, h, ⟨Nat.le_refl _, Nat.le_refl _⟩, fun _ _ _ h' => gd_mk c0 h'⟩
  · obtain ⟨x0, r0, e0, g0⟩ := pL_inv h
    clear h
    subst e0
    have h := g0
    clear g0
    obtain ⟨c0, h⟩ := gd_inv h
    exact Or.inl ⟨_, _, _, _, h, ⟨Nat.le_refl _, Nat.le_refl _⟩, fun _ _ _ h' => gd_mk c0 h'⟩
  · obtain ⟨x0, r0, e0, g0⟩ := pR_inv h
    clear h
    subst e0
    have h := g0
    clear g0
    obtain ⟨c0, h⟩ := gd_inv h
    exact Or.inl ⟨_, _, _, _, h, ⟨Nat.le_refl _, Nat.le_refl _⟩, fun _ _ _ h' => gd_mk c0 h'⟩
  · obtain ⟨x0, r0, e0, g0⟩ := pR_inv h
    clear h
    subst e0
    have h := g0
    clear g0
    obtain ⟨c0, h⟩ := gd_inv h
    exact Or.inl ⟨_, _, _, _, h, ⟨Nat.le_refl _, Nat.le_refl _⟩, fun _ _ _ h' => gd_mk c0 h'⟩
  · obtain ⟨a, ha, h⟩ := ldI_inv h
    obtain ⟨c0, h⟩ := gd_inv h
    exact Or.inl ⟨_, _, _, _, h, ⟨Nat.le_refl _, Nat.le_refl _⟩, fun _ _ _ h' => ldI_mk ha (gd_mk c0 h')⟩
  · obtain ⟨x0, r0, e0, g0⟩ := pI_inv h
    clear h
    subst e0
    have h := g0
    clear g0
    obtain ⟨x1, r1, e1, g1⟩ := pI_inv h
    clear h
    subst e1
    have h := g1
    clear g1
    exact Or.inl ⟨_, _, _, _, h, ⟨Nat.le_refl _, Nat.le_refl _⟩, fun _ _ _ h' => h'⟩
  · obtain ⟨x0, r0, e0, g0⟩ := pI_inv h
    clear h
    subst e0
    have h := g0
    clear g0
    obtain ⟨x1, r1, e1, g1⟩ := pI_inv h
    clear h
    subst e1
    have h := g1
    clear g1
    exact Or.inl ⟨_, _, _, _, h, ⟨Nat.le_refl _, Nat.le_refl _⟩, fun _ _ _ h' => h'⟩
  · obtain ⟨x0, r0, e0, g0⟩ := pI_inv h
    clear h
    subst e0
    have h := g0
    clear g0
    obtain ⟨x1, r1, e1, g1⟩ := pI_inv h
    clear h
    subst e1
    have h := g1
    clear g1
    exact Or.inl ⟨_, _, _, _, h, ⟨Nat.le_refl _, Nat.le_refl _⟩, fun _ _ _ h' => h'⟩
  · obtain ⟨x0, r0, e0, g0⟩ := pI_inv h
    clear h
    subst e0
    have h := g0
    clear g0
    obtain ⟨x1, r1, e1, g1⟩ := pI_inv h
    clear h
    subst e1
    have h := g1
    clear g1
    obtain ⟨c0, h⟩ := h
    exact Or.inl ⟨_, _, _, _, h, ⟨Nat.le_refl _, Nat.le_refl _⟩, fun _ _ _ h' => And.intro c0 (h')⟩
  · obtain ⟨x0, r0, e0, g0⟩ := pI_inv h
    clear h
    subst e0
    have h := g0
    clear g0
    obtain ⟨x1, r1, e1, g1⟩ := pI_inv h
    clear h
    subst e1
    have h := g1
    clear g1
    obtain ⟨c0, h⟩ := h
    exact Or.inl ⟨_, _, _, _, h, ⟨Nat.le_refl _, Nat.le_refl _⟩, fun _ _ _ h' => And.intro c0 (h')⟩
  · obtain ⟨x0, r0, e0, g0⟩ := pI_inv h
    clear h
    subst e0
    have h := g0
    clear g0
    obtain ⟨x1, r1, e1, g1⟩ := pI_inv h
    clear h
    subst e1
    have h := g1
    clear g1
    exact Or.inl ⟨_, _, _, _, h, ⟨Nat.le_refl _, Nat.le_refl _⟩, fun _ _ _ h' => h'⟩
  · obtain ⟨x0, r0, e0, g0⟩ := pI_inv h
    clear h
    subst e0
    have h := g0
    clear g0
    obtain ⟨x1, r1, e1, g1⟩ := pI_inv h
    clear h
    subst e1
    have h := g1
    clear g1
    exact Or.inl ⟨_, _, _, _, h, ⟨Nat.le_refl _, Nat.le_refl _⟩, fun _ _ _ h' => h'⟩
  · obtain ⟨x0, r0, e0, g0⟩ := pI_inv h
    clear h
    subst e0
    have h := g0
    clear g0
    obtain ⟨x1, r1, e1, g1⟩ := pI_inv h
    clear h
    subst e1
    have h := g1
    clear g1
    exact Or.inl ⟨_, _, _, _, h, ⟨Nat.le_refl _, Nat.le_refl _⟩, fun _ _ _ h' => h'⟩
  · obtain ⟨x0, r0, e0, g0⟩ := pI_inv h
    clear h
    subst e0
    have h := g0
    clear g0
    obtain ⟨x1, r1, e1, g1⟩ := pI_inv h
    clear h
    subst e1
    have h := g1
    clear g1
    exact Or.inl ⟨_, _, _, _, h, ⟨Nat.le_refl _, Nat.le_refl _⟩, fun _ _ _ h' => h'⟩
  · obtain ⟨x0, r0, e0, g0⟩ := pI_inv h
    clear h
    subst e0
    have h := g0
    clear g0
    obtain ⟨x1, r1, e1, g1⟩ := pI_inv h
    clear h
    subst e1
    have h := g1
    clear g1
    exact Or.inl ⟨_, _, _, _, h, ⟨Nat.le_refl _, Nat.le_refl _⟩, fun _ _ _ h' => h'⟩
  · obtain ⟨x0, r0, e0, g0⟩ := pI_inv h
    clear h
    subst e0
    have h := g0
    clear g0
    exact Or.inl ⟨_, _, _, _, h, ⟨Nat.le_refl _, Nat.le_refl _⟩, fun _ _ _ h' => h'⟩
  · obtain ⟨x0, r0, e0, g0⟩ := pI_inv h
    clear h
    subst e0
    have h := g0
    clear g0
    obtain ⟨c0, c1, h⟩ := h
    exact Or.inl ⟨_, _, _, _, h, ⟨Nat.le_refl _, Nat.le_refl _⟩, fun _ _ _ h' => And.intro c0 (And.intro c1 (h'))⟩
  · obtain ⟨x0, r0, e0, g0⟩ := pL_inv h
    clear h
    subst e0
    have h := g0
    clear g0
    obtain ⟨x1, r1, e1, g1⟩ := pL_inv h
    clear h
    subst e1
    have h := g1
    clear g1
    exact Or.inl ⟨_, _, _, _, h, ⟨Nat.le_refl _, Nat.le_refl _⟩, fun _ _ _ h' => h'⟩
  · obtain ⟨x0, r0, e0, g0⟩ := pL_inv h
    clear h
    subst e0
    have h := g0
    clear g0
    obtain ⟨x1, r1, e1, g1⟩ := pL_inv h
    clear h
    subst e1
    have h := g1
    clear g1
    exact Or.inl ⟨_, _, _, _, h, ⟨Nat.le_refl _, Nat.le_refl _⟩, fun _ _ _ h' => h'⟩
  · obtain ⟨x0, r0, e0, g0⟩ := pL_inv h
    clear h
    subst e0
    have h := g0
    clear g0
    obtain ⟨x1, r1, e1, g1⟩ := pL_inv h
    clear h
    subst e1
    have h := g1
    clear g1
    obtain ⟨c0, h⟩ := h
    exact Or.inl ⟨_, _, _, _, h, ⟨Nat.le_refl _, Nat.le_refl _⟩, fun _ _ _ h' => And.intro c0 (h')⟩
  · obtain ⟨x0, r0, e0, g0⟩ := pL_inv h
    clear h
    subst e0
    have h := g0
    clear g0
    obtain ⟨x1, r1, e1, g1⟩ := pL_inv h
    clear h
    subst e1
    have h := g1
    clear g1
    exact Or.inl ⟨_, _, _, _, h, ⟨Nat.le_refl _, Nat.le_refl _⟩, fun _ _ _ h' => h'⟩
  · obtain ⟨x0, r0, e0, g0⟩ := pI_inv h
    clear h
    subst e0
    have h := g0
    clear g0
    obtain ⟨x1, r1, e1, g1⟩ := pL_inv h
    clear h
    subst e1
    have h := g1
    clear g1
    exact Or.inl ⟨_, _, _, _, h, ⟨Nat.le_refl _, Nat.le_refl _⟩, fun _ _ _ h' => h'⟩
  · obtain ⟨x0, r0, e0, g0⟩ := pL_inv h
    clear h
    subst e0
    have h := g0
    clear g0
    exact Or.inl ⟨_, _, _, _, h, ⟨Nat.le_refl _, Nat.le_refl _⟩, fun _ _ _ h' => h'⟩
  · obtain ⟨x0, r0, e0, g0⟩ := pL_inv h
    clear h
    subst e0
    have h := g0
    clear g0
    obtain ⟨x1, r1, e1, g1⟩ := pL_inv h
    clear h
    subst e1
    have h := g1
    clear g1
    exact Or.inl ⟨_, _, _, _, h, ⟨Nat.le_refl _, Nat.le_refl _⟩, fun _ _ _ h' => h'⟩
  · obtain ⟨x0, r0, e0, m0, g0⟩ := p1_inv h
    clear h
    subst e0
    have h := g0
    clear g0
    rcases x0 with x0 | x0 | x0 <;> first | (cases m0; done) | exact Or.inl ⟨_, _, _, _, h, ⟨Nat.le_refl _, Nat.le_refl _⟩, fun _ _ _ h' => h'⟩
  · obtain ⟨x0, r0, e0, m0, g0⟩ := p1_inv h
    clear h
    subst e0
    have h := g0
    clear g0
    obtain ⟨x1, r1, e1, m1, g1⟩ := p1_inv h
    clear h
    subst e1
    have h := g1
    clear g1
    rcases x0 with x0 | x0 | x0 <;> rcases x1 with x1 | x1 | x1 <;> first | (cases m0; done) | (cases m1; done) | exact Or.inl ⟨_, _, _, _, h, ⟨Nat.le_refl _, Nat.le_refl _⟩, fun _ _ _ h' => h'⟩
  · obtain ⟨x0, r0, e0, m0, g0⟩ := p1_inv h
    clear h
    subst e0
    have h := g0
    clear g0
    rcases x0 with x0 | x0 | x0 <;> first | (cases m0; done) | exact Or.inl ⟨_, _, _, _, h, ⟨Nat.le_refl _, Nat.le_refl _⟩, fun _ _ _ h' => h'⟩
  · exact Or.inl ⟨_, _, _, _, h, ⟨Nat.le_refl _, Nat.le_refl _⟩, fun _ _ _ h' => h'⟩
  · obtain ⟨x0, r0, e0, g0⟩ := pI_inv h
    clear h
    subst e0
    have h := g0
    clear g0
    rcases br_em h with ⟨q, g⟩ | ⟨q, g⟩
    · exact Or.inl ⟨_, _, _, _, g, ⟨Nat.le_refl _, Nat.le_refl _⟩, fun _ _ _ h' => And.intro (fun _ => h') (fun z => absurd q z)⟩
    · exact Or.inl ⟨_, _, _, _, g, ⟨Nat.le_refl _, Nat.le_refl _⟩, fun _ _ _ h' => And.intro (fun z => absurd z q) (fun _ => h')⟩
  · obtain ⟨x0, r0, e0, g0⟩ := pI_inv h
    clear h
    subst e0
    have h := g0
    clear g0
    obtain ⟨x1, r1, e1, g1⟩ := pI_inv h
    clear h
    subst e1
    have h := g1
    clear g1
    rcases br_em h with ⟨q, g⟩ | ⟨q, g⟩
    · exact Or.inl ⟨_, _, _, _, g, ⟨Nat.le_refl _, Nat.le_refl _⟩, fun _ _ _ h' => And.intro (fun _ => h') (fun z => absurd q z)⟩
    · exact Or.inl ⟨_, _, _, _, g, ⟨Nat.le_refl _, Nat.le_refl _⟩, fun _ _ _ h' => And.intro (fun z => absurd z q) (fun _ => h')⟩
  · obtain ⟨x0, r0, e0, g0⟩ := pR_inv h
    clear h
    subst e0
    have h := g0
    clear g0
    rcases br_em h with ⟨q, g⟩ | ⟨q, g⟩
    · exact Or.inl ⟨_, _, _, _, g, ⟨Nat.le_refl _, Nat.le_refl _⟩, fun _ _ _ h' => And.intro (fun _ => h') (fun z => absurd q z)⟩
    · exact Or.inl ⟨_, _, _, _, g, ⟨Nat.le_refl _, Nat.le_refl _⟩, fun _ _ _ h' => And.intro (fun z => absurd z q) (fun _ => h')⟩
  · obtain ⟨x0, r0, e0, g0⟩ := pR_inv h
    clear h
    subst e0
    have h := g0
    clear g0
    by_cases q : x0 = none
    · exact Or.inl ⟨_, _, _, _, h.2 q, ⟨Nat.le_refl _, Nat.le_refl _⟩, fun _ _ _ h' => And.intro (fun z => absurd q z) (fun _ => h')⟩
    · exact Or.inl ⟨_, _, _, _, h.1 q, ⟨Nat.le_refl _, Nat.le_refl _⟩, fun _ _ _ h' => And.intro (fun _ => h') (fun z => absurd z q)⟩
  · obtain ⟨x0, r0, e0, g0⟩ := pI_inv h
    clear h
    subst e0
    have h := g0
    clear g0
    rcases swt_inv h.1 h.2 with ⟨t, ht, h', mk⟩
    exact Or.inl ⟨_, _, _, _, h', ⟨Nat.le_refl _, Nat.le_refl _⟩, fun K' _ _ h' => mk (K' := fun t => K' t ls r0 σ) h'⟩
  · obtain ⟨x0, r0, e0, g0⟩ := pR_inv h
    clear h
    subst e0
    have h := g0
    clear g0
    obtain ⟨c, e, g⟩ := isS_inv h
    clear h
    subst e
    have h := g
    clear g
    obtain ⟨c0, h⟩ := h
    exact Or.inl ⟨_, _, _, _, h, ⟨Nat.le_refl _, Nat.le_refl _⟩, fun _ _ _ h' => And.intro c0 (h')⟩
  · obtain ⟨x0, r0, e0, g0⟩ := pR_inv h
    clear h
    subst e0
    have h := g0
    clear g0
    obtain ⟨c, e, g⟩ := isS_inv h
    clear h
    subst e
    have h := g
    clear g
    obtain ⟨c0, h⟩ := h
    exact Or.inl ⟨_, _, _, _, h, ⟨Nat.le_refl _, Nat.le_refl _⟩, fun _ _ _ h' => And.intro c0 (h')⟩
  · obtain ⟨x0, r0, e0, g0⟩ := pR_inv h
    clear h
    subst e0
    have h := g0
    clear g0
    obtain ⟨c, e, g⟩ := isS_inv h
    clear h
    subst e
    have h := g
    clear g
    obtain ⟨c0, h⟩ := h
    exact Or.inl ⟨_, _, _, _, h, ⟨Nat.le_refl _, Nat.le_refl _⟩, fun _ _ _ h' => And.intro c0 (h')⟩
  · obtain ⟨x0, r0, e0, g0⟩ := pR_inv h
    clear h
    subst e0
    have h := g0
    clear g0
    obtain ⟨x1, r1, e1, g1⟩ := pR_inv h
    clear h
    subst e1
    have h := g1
    clear g1
    obtain ⟨c, e, g⟩ := isS_inv h
    clear h
    subst e
    have h := g
    clear g
    obtain ⟨c0, h⟩ := h
    exact Or.inl ⟨_, _, _, _, h, ⟨Nat.le_refl _, Nat.le_refl _⟩, fun _ _ _ h' => And.intro c0 (h')⟩
  · obtain ⟨x0, r0, e0, g0⟩ := pI_inv h
    clear h
    subst e0
    have h := g0
    clear g0
    obtain ⟨x1, r1, e1, g1⟩ := pR_inv h
    clear h
    subst e1
    have h := g1
    clear g1
    obtain ⟨c, e, g⟩ := isS_inv h
    clear h
    subst e
    have h := g
    clear g
    obtain ⟨c0, c1, h⟩ := h
    exact Or.inl ⟨_, _, _, _, h, ⟨Nat.le_refl _, Nat.le_refl _⟩, fun _ _ _ h' => And.intro c0 (And.intro c1 (h'))⟩
  · obtain ⟨x0, r0, e0, g0⟩ := pI_inv h
    clear h
    subst e0
    have h := g0
    clear g0
    obtain ⟨x1, r1, e1, g1⟩ := pR_inv h
    clear h
    subst e1
    have h := g1
    clear g1
    obtain ⟨c, e, g⟩ := isS_inv h
    clear h
    subst e
    have h := g
    clear g
    obtain ⟨c0, h⟩ := h
    exact Or.inl ⟨_, _, _, _, h, ⟨Nat.le_refl _, Nat.le_refl _⟩, fun _ _ _ h' => And.intro c0 (h')⟩
  · obtain ⟨x0, r0, e0, g0⟩ := pI_inv h
    clear h
    subst e0
    have h := g0
    clear g0
    obtain ⟨x1, r1, e1, g1⟩ := pR_inv h
    clear h
    subst e1
    have h := g1
    clear g1
    obtain ⟨c, e, g⟩ := isS_inv h
    clear h
    subst e
    have h := g
    clear g
    obtain ⟨c0, c1, c2, h⟩ := h
    exact Or.inl ⟨_, _, _, _, h, ⟨Nat.le_refl _, Nat.le_refl _⟩, fun _ _ _ h' => And.intro c0 (And.intro c1 (And.intro c2 (h')))⟩
  · obtain ⟨x0, r0, e0, g0⟩ := pI_inv h
    clear h
    subst e0
    have h := g0
    clear g0
    obtain ⟨x1, r1, e1, g1⟩ := pR_inv h
    clear h
    subst e1
    have h := g1
    clear g1
    obtain ⟨c, e, g⟩ := isS_inv h
    clear h
    subst e
    have h := g
    clear g
    obtain ⟨c0, c1, c2, h⟩ := h
    exact Or.inl ⟨_, _, _, _, h, ⟨Nat.le_refl _, Nat.le_refl _⟩, fun _ _ _ h' => And.intro c0 (And.intro c1 (And.intro c2 (h')))⟩
  · obtain ⟨x0, r0, e0, g0⟩ := pI_inv h
    clear h
    subst e0
    have h := g0
    clear g0
    obtain ⟨x1, r1, e1, g1⟩ := pR_inv h
    clear h
    subst e1
    have h := g1
    clear g1
    obtain ⟨c, e, g⟩ := isS_inv h
    clear h
    subst e
    have h := g
    clear g
    obtain ⟨c0, c1, c2, c3, h⟩ := h
    exact Or.inl ⟨_, _, _, _, h, ⟨Nat.le_refl _, Nat.le_refl _⟩, fun _ _ _ h' => And.intro c0 (And.intro c1 (And.intro c2 (And.intro c3 (h'))))⟩
  · obtain ⟨x0, r0, e0, g0⟩ := pI_inv h
    clear h
    subst e0
    have h := g0
    clear g0
    obtain ⟨x1, r1, e1, g1⟩ := pI_inv h
    clear h
    subst e1
    have h := g1
    clear g1
    obtain ⟨x2, r2, e2, g2⟩ := pR_inv h
    clear h
    subst e2
    have h := g2
    clear g2
    obtain ⟨c, e, g⟩ := isS_inv h
    clear h
    subst e
    have h := g
    clear g
    obtain ⟨c0, c1, c2, h⟩ := h
    exact Or.inl ⟨_, _, _, _, h, ⟨Nat.le_refl _, Nat.le_refl _⟩, fun _ _ _ h' => And.intro c0 (And.intro c1 (And.intro c2 (h')))⟩
  · obtain ⟨x0, r0, e0, g0⟩ := pI_inv h
    clear h
    subst e0
    have h := g0
    clear g0
    obtain ⟨x1, r1, e1, g1⟩ := pI_inv h
    clear h
    subst e1
    have h := g1
    clear g1
    obtain ⟨x2, r2, e2, g2⟩ := pR_inv h
    clear h
    subst e2
    have h := g2
    clear g2
    obtain ⟨c, e, g⟩ := isS_inv h
    clear h
    subst e
    have h := g
    clear g
    obtain ⟨c0, c1, c2, c3, c4, h⟩ := h
    exact Or.inl ⟨_, _, _, _, h, ⟨Nat.le_refl _, Nat.le_refl _⟩, fun _ _ _ h' => And.intro c0 (And.intro c1 (And.intro c2 (And.intro c3 (And.intro c4 (h')))))⟩
  · obtain ⟨x0, r0, e0, g0⟩ := pR_inv h
    clear h
    subst e0
    have h := g0
    clear g0
    obtain ⟨x1, r1, e1, g1⟩ := pI_inv h
    clear h
    subst e1
    have h := g1
    clear g1
    obtain ⟨x2, r2, e2, g2⟩ := pR_inv h
    clear h
    subst e2
    have h := g2
    clear g2
    obtain ⟨c, e, g⟩ := isS_inv h
    clear h
    subst e
    have h := g
    clear g
    obtain ⟨c0, c1, c2, c3, c4, h⟩ := h
    exact Or.inl ⟨_, _, _, _, h, ⟨Nat.le_refl _, Nat.le_refl _⟩, fun _ _ _ h' => And.intro c0 (And.intro c1 (And.intro c2 (And.intro c3 (And.intro c4 (h')))))⟩
  · obtain ⟨x0, r0, e0, g0⟩ := pR_inv h
    clear h
    subst e0
    have h := g0
    clear g0
    obtain ⟨c, e, g⟩ := isS_inv h
    clear h
    subst e
    have h := g
    clear g
    obtain ⟨c0, h⟩ := h
    exact Or.inl ⟨_, _, _, _, h, ⟨Nat.le_refl _, Nat.le_refl _⟩, fun _ _ _ h' => And.intro c0 (h')⟩
  · exact Or.inl ⟨_, _, _, _, h, ⟨Nat.le_succ _, Nat.le_add_right _ _⟩, fun _ _ _ h' => h'⟩
  · obtain ⟨x0, r0, e0, g0⟩ := pI_inv h
    clear h
    subst e0
    have h := g0
    clear g0
    obtain ⟨c0, c1, h⟩ := h
    exact Or.inl ⟨_, _, _, _, h, ⟨Nat.le_succ _, Nat.le_add_right _ _⟩, fun _ _ _ h' => And.intro c0 (And.intro c1 (h'))⟩
  · obtain ⟨x0, r0, e0, g0⟩ := pI_inv h
    clear h
    subst e0
    have h := g0
    clear g0
    obtain ⟨c0, c1, h⟩ := h
    exact Or.inl ⟨_, _, _, _, h, ⟨Nat.le_succ _, Nat.le_add_right _ _⟩, fun _ _ _ h' => And.intro c0 (And.intro c1 (h'))⟩
  · obtain ⟨as, r, hp, g⟩ := popn_inv _ _ _ _ h
    clear h
    have h := g
    clear g
    obtain ⟨x0, r0, e0, g0⟩ := pR_inv h
    clear h
    subst e0
    have h := g0
    clear g0
    obtain ⟨c, e, g⟩ := isS_inv h
    clear h
    subst e
    have h := g
    clear g
    obtain ⟨c0, h⟩ := h
    obtain ⟨c1, h⟩ := gd_inv h
    exact Or.inr (Or.inl ⟨_, _, _, _, h, fun _ _ _ h' => hp (And.intro c0 (gd_mk c1 h'))⟩)
  · obtain ⟨as, r, hp, g⟩ := popn_inv _ _ _ _ h
    clear h
    have h := g
    clear g
    obtain ⟨c1, h⟩ := gd_inv h
    exact Or.inr (Or.inl ⟨_, _, _, _, h, fun _ _ _ h' => hp (gd_mk c1 h')⟩)
  · obtain ⟨as, r, hp, g⟩ := popn_inv _ _ _ _ h
    clear h
    have h := g
    clear g
    obtain ⟨x0, r0, e0, g0⟩ := pR_inv h
    clear h
    subst e0
    have h := g0
    clear g0
    obtain ⟨c, e, g⟩ := isS_inv h
    clear h
    subst e
    have h := g
    clear g
    obtain ⟨c0, h⟩ := h
    obtain ⟨c1, h⟩ := gd_inv h
    exact Or.inr (Or.inl ⟨_, _, _, _, h, fun _ _ _ h' => hp (And.intro c0 (gd_mk c1 h'))⟩)
  · obtain ⟨x0, r0, e0, g0⟩ := pR_inv h
    clear h
    subst e0
    have h := g0
    clear g0
    obtain ⟨c, e, g⟩ := isS_inv h
    clear h
    subst e
    have h := g
    clear g
    obtain ⟨c0, h⟩ := gd_inv h
    exact Or.inl ⟨_, _, _, _, h, ⟨Nat.le_refl _, Nat.le_refl _⟩, fun _ _ _ h' => gd_mk c0 h'⟩
  · obtain ⟨x0, r0, e0, g0⟩ := pI_inv h
    clear h
    subst e0
    have h := g0
    clear g0
    obtain ⟨x1, r1, e1, g1⟩ := pI_inv h
    clear h
    subst e1
    have h := g1
    clear g1
    obtain ⟨c0, h⟩ := gd_inv h
    exact Or.inl ⟨_, _, _, _, h, ⟨Nat.le_refl _, Nat.le_refl _⟩, fun _ _ _ h' => gd_mk c0 h'⟩
  · obtain ⟨x0, r0, e0, g0⟩ := pI_inv h
    clear h
    subst e0
    have h := g0
    clear g0
    obtain ⟨x1, r1, e1, g1⟩ := pI_inv h
    clear h
    subst e1
    have h := g1
    clear g1
    obtain ⟨c0, h⟩ := gd_inv h
    exact Or.inl ⟨_, _, _, _, h, ⟨Nat.le_refl _, Nat.le_refl _⟩, fun _ _ _ h' => gd_mk c0 h'⟩
  · obtain ⟨e, h⟩ := isE_inv h
    subst e
    obtain ⟨c0, h⟩ := gd_inv h
    exact Or.inr (Or.inr ⟨_, h, fun _ _ _ h' => gd_mk c0 h'⟩)
  · obtain ⟨x0, r0, e0, g0⟩ := pI_inv h
    clear h
    subst e0
    have h := g0
    clear g0
    obtain ⟨e, h⟩ := isE_inv h
    subst e
    obtain ⟨h, mk⟩ := retI_inv h
    exact Or.inr (Or.inr ⟨_, h, fun _ _ _ h' => mk h'⟩)
  · obtain ⟨x0, r0, e0, g0⟩ := pL_inv h
    clear h
    subst e0
    have h := g0
    clear g0
    obtain ⟨e, h⟩ := isE_inv h
    subst e
    obtain ⟨c0, h⟩ := gd_inv h
    exact Or.inr (Or.inr ⟨_, h, fun _ _ _ h' => gd_mk c0 h'⟩)
  · obtain ⟨x0, r0, e0, g0⟩ := pR_inv h
    clear h
    subst e0
    have h := g0
    clear g0
    obtain ⟨e, h⟩ := isE_inv h
    subst e
    obtain ⟨c0, h⟩ := gd_inv h
    exact Or.inr (Or.inr ⟨_, h, fun _ _ _ h' => gd_mk c0 h'⟩)
  · exact False.elim h
theorem rtn_mono {rk : Nat} {v : Option mv_T} {F G : List mv_T → Prop} (hFG : ∀ vs, F vs → G vs) (h : rtn rk v F) : rtn rk v G := by
  unfold rtn at h ⊢
  split at h
  · exact ⟨h.1, hFG _ h.2⟩
  · obtain ⟨o, e, h⟩ := h
    exact ⟨o, e, hFG _ h⟩
  · obtain ⟨o, e, h⟩ := h
    exact ⟨o, e, hFG _ h⟩
  · obtain ⟨o, e, h⟩ := h
    exact ⟨o, e, hFG _ h⟩
theorem rtn_ex {rk : Nat} {v : Option mv_T} {F : Nat → List mv_T → Prop} (h : rtn rk v (fun vs => ∃ m, F m vs)) : ∃ m, rtn rk v (F m) := by
  unfold rtn at h
  split at h
  · obtain ⟨e, m, h⟩ := h
    exact ⟨m, e, h⟩
  · obtain ⟨o, e, m, h⟩ := h
    exact ⟨m, o, e, h⟩
  · obtain ⟨o, e, m, h⟩ := h
    exact ⟨m, o, e, h⟩
  · next z1 z2 z3 =>
    obtain ⟨o, e, m, h⟩ := h
    refine ⟨m, ?_⟩
    unfold rtn
    split
    · exact absurd rfl z1
    · exact absurd rfl z2
    · exact absurd rfl z3
    · exact ⟨o, e, h⟩
theorem rtn_exT {α : Type} {rk : Nat} {v : Option mv_T} {F : α → List mv_T → Prop} (h : rtn rk v (fun vs => ∃ m, F m vs)) : ∃ m, rtn rk v (F m) := by
  unfold rtn at h
  split at h
  · obtain ⟨e, m, h⟩ := h
    exact ⟨m, e, h⟩
  · obtain ⟨o, e, m, h⟩ := h
    exact ⟨m, o, e, h⟩
  · obtain ⟨o, e, m, h⟩ := h
    exact ⟨m, o, e, h⟩
  · next z1 z2 z3 =>
    obtain ⟨o, e, m, h⟩ := h
    refine ⟨m, ?_⟩
    unfold rtn
    split
    · exact absurd rfl z1
    · exact absurd rfl z2
    · exact absurd rfl z3
    · exact ⟨o, e, h⟩
theorem Wm_mono : ∀ (n : Nat) {j pc : Nat} {ls : ml_T} {st : List mv_T} {σ : ms_T} {Q Q' : mq_T} {m : Nat}, n ≤ m → (∀ v τ, Q v τ → Q' v τ) → Wm n j pc ls st σ Q → Wm m j pc ls st σ Q' := by
  intro n
  induction n with
  | zero => intro j pc ls st σ Q Q' m _ _ h; exact h.elim
  | succ n ih =>
    intro j pc ls st σ Q Q' m hm hQ h
    obtain ⟨m, rfl⟩ : ∃ k, m = k + 1 := ⟨m - 1, by omega⟩
    obtain ⟨e, he, h⟩ := h
    rcases wpi_inv h with ⟨pc', ls', st', σ', hk, hg, mk⟩ | ⟨j', as, rk', r, hc, mk⟩ | ⟨v, hq, mk⟩
    · exact ⟨e, he, mk _ _ _ (ih (by omega) hQ hk)⟩
    · exact ⟨e, he, mk _ _ _ (ih (by omega) (fun v τ hv => rtn_mono (fun vs hw => ih (by omega) hQ hw) hv) hc)⟩
    · exact ⟨e, he, mk _ _ _ (hQ _ _ hq)⟩
theorem Wm_ex : ∀ (n : Nat) {j pc : Nat} {ls : ml_T} {st : List mv_T} {σ : ms_T} (P : Nat → mq_T), (∀ m m' v τ, m ≤ m' → P m v τ → P m' v τ) → Wm n j pc ls st σ (fun v τ => ∃ m, P m v τ) → ∃ m, Wm n j pc ls st σ (P m) := by
  intro n
  induction n with
  | zero => intro j pc ls st σ P _ h; exact h.elim
  | succ n ih =>
    intro j pc ls st σ P hP h
    obtain ⟨e, he, h⟩ := h
    rcases wpi_inv h with ⟨pc', ls', st', σ', hk, hg, mk⟩ | ⟨j', as, rk', r, hc, mk⟩ | ⟨v, ⟨m, hq⟩, mk⟩
    · obtain ⟨m, hk⟩ := ih P hP hk
      exact ⟨m, e, he, mk _ _ _ hk⟩
    · have hc' := Wm_mono n (Nat.le_refl n) (Q' := fun v τ => ∃ m, rtn rk' v fun vs => Wm n j (pc + 3) ls (vs ++ r) τ (P m)) (fun v τ hv => rtn_ex (rtn_mono (fun vs hw => ih P hP hw) hv)) hc
      obtain ⟨m, hc'⟩ := ih (fun m v τ => rtn rk' v fun vs => Wm n j (pc + 3) ls (vs ++ r) τ (P m)) (fun m m' v τ hm hv => rtn_mono (fun vs hw => Wm_mono n (Nat.le_refl n) (fun v τ hx => hP m m' v τ hm hx) hw) hv) hc'
      exact ⟨m, e, he, mk _ _ _ hc'⟩
    · exact ⟨m, e, he, mk _ _ _ hq⟩
theorem Wm_exT {α : Type} : ∀ (n : Nat) {j pc : Nat} {ls : ml_T} {st : List mv_T} {σ : ms_T} (P : α → mq_T), Wm n j pc ls st σ (fun v τ => ∃ x, P x v τ) → ∃ x, Wm n j pc ls st σ (P x) := by
  intro n
  induction n with
  | zero => intro j pc ls st σ P h; exact h.elim
  | succ n ih =>
    intro j pc ls st σ P h
    obtain ⟨e, he, h⟩ := h
    rcases wpi_inv h with ⟨pc', ls', st', σ', hk, hg, mk⟩ | ⟨j', as, rk', r, hc, mk⟩ | ⟨v, ⟨x, hq⟩, mk⟩
    · obtain ⟨x, hk⟩ := ih P hk
      exact ⟨x, e, he, mk _ _ _ hk⟩
    · have hc' := Wm_mono n (Nat.le_refl n) (Q' := fun v τ => ∃ x, rtn rk' v fun vs => Wm n j (pc + 3) ls (vs ++ r) τ (P x)) (fun v τ hv => rtn_exT (rtn_mono (fun vs hw => ih P hw) hv)) hc
      obtain ⟨x, hc'⟩ := ih (fun x v τ => rtn rk' v fun vs => Wm n j (pc + 3) ls (vs ++ r) τ (P x)) hc'
      exact ⟨x, e, he, mk _ _ _ hc'⟩
    · exact ⟨x, e, he, mk _ _ _ hq⟩
/-- one end alone -/
theorem Wm_pt {n j pc : Nat} {ls : ml_T} {st : List mv_T} {σ : ms_T} {Q : mq_T} (h : Wm n j pc ls st σ Q) : ∃ v τ, Q v τ ∧ Wm n j pc ls st σ (fun v' τ' => v' = v ∧ τ' = τ) := by
  obtain ⟨⟨v, τ⟩, h⟩ := Wm_exT n (fun (x : Option mv_T × ms_T) v' τ' => (v' = x.1 ∧ τ' = x.2) ∧ Q x.1 x.2) (Wm_mono n (Nat.le_refl n) (fun v τ hq => ⟨(v, τ), ⟨rfl, rfl⟩, hq⟩) h)
  obtain ⟨u, h2⟩ := Wm_exT n (fun (_ : PLift (Q v τ)) v' τ' => v' = v ∧ τ' = τ) (Wm_mono n (Nat.le_refl n) (fun v' τ' hq => ⟨PLift.up hq.2, hq.1⟩) h)
  exact ⟨v, τ, u.down, h2⟩
theorem Wm_grow : ∀ (n : Nat) {j pc : Nat} {ls : ml_T} {st : List mv_T} {σ : ms_T} {Q : mq_T}, Wm n j pc ls st σ Q → Wm n j pc ls st σ (fun v τ => Q v τ ∧ gn σ ≤ gn τ ∧ gl σ ≤ gl τ) := by
  intro n
  induction n with
  | zero => intro j pc ls st σ Q h; exact h.elim
  | succ n ih =>
    intro j pc ls st σ Q h
    obtain ⟨e, he, h⟩ := h
    rcases wpi_inv h with ⟨pc', ls', st', σ', hk, hg, mk⟩ | ⟨j', as, rk', r, hc, mk⟩ | ⟨v, hq, mk⟩
    · exact ⟨e, he, mk _ _ _ (Wm_mono n (Nat.le_refl n) (fun v τ hx => ⟨hx.1, by omega, by omega⟩) (ih hk))⟩
    · exact ⟨e, he, mk _ _ _ (Wm_mono n (Nat.le_refl n) (fun v τ hx => rtn_mono (fun vs hw => Wm_mono n (Nat.le_refl n) (fun v' τ' hy => ⟨hy.1, by omega, by omega⟩) (ih hw)) hx.1) (ih hc))⟩
    · exact ⟨e, he, mk _ _ _ ⟨hq, Nat.le_refl _, Nat.le_refl _⟩⟩
theorem At.mono {j pc : Nat} {ls : ml_T} {st : List mv_T} {σ : ms_T} {Q Q' : mq_T} (h : At j pc ls st σ Q) (hQ : ∀ v τ, Q v τ → Q' v τ) : At j pc ls st σ Q' := by
  obtain ⟨n, h⟩ := h
  exact ⟨n, Wm_mono n (Nat.le_refl n) hQ h⟩
theorem Ca.mono {j : Nat} {as : List mv_T} {σ : ms_T} {Q Q' : mq_T} (h : Ca j as σ Q) (hQ : ∀ v τ, Q v τ → Q' v τ) : Ca j as σ Q' := At.mono h hQ
theorem At_wpi {j pc : Nat} {e : me_T} {ls : ml_T} {st : List mv_T} {σ : ms_T} {Q : mq_T} (he : code_of j pc = some e) (h : wpi pc e (mrt j) ls st σ (fun pc' ls' st' σ' => At j pc' ls' st' σ' Q) Ca Q) : At j pc ls st σ Q := by
  rcases wpi_inv h with ⟨pc', ls', st', σ', ⟨n, hk⟩, hg, mk⟩ | ⟨j', as, rk', r, ⟨n, hc⟩, mk⟩ | ⟨v, hq, mk⟩
  · exact ⟨n + 1, e, he, mk _ _ _ hk⟩
  · have hc' := Wm_mono n (Nat.le_refl n) (Q' := fun v τ => ∃ m, rtn rk' v fun vs => Wm m j (pc + 3) ls (vs ++ r) τ Q) (fun v τ hv => rtn_ex hv) hc
    obtain ⟨m, hc'⟩ := Wm_ex n (fun m v τ => rtn rk' v fun vs => Wm m j (pc + 3) ls (vs ++ r) τ Q) (fun m m' v τ hm hv => rtn_mono (fun vs hw => Wm_mono m hm (fun _ _ hx => hx) hw) hv) hc'
    refine ⟨max n m + 1, e, he, mk _ _ _ ?_⟩
    exact Wm_mono n (Nat.le_max_left n m) (fun v τ hv => rtn_mono (fun vs hw => Wm_mono m (Nat.le_max_right n m) (fun _ _ hx => hx) hw) hv) hc'
  · exact ⟨1, e, he, mk _ _ _ hq⟩
def stopAt : List Nat → Nat → Prop → Prop → Prop
  | [], _, _, B => B
  | x :: xs, p, A, B => if p = x then A else stopAt xs p A B
theorem stopAt_of {A B : Prop} : ∀ {hs : List Nat} {p : Nat}, stopAt hs p A B → A ∨ B
  | [], _, h => Or.inr h
  | x :: xs, p, h => by
    unfold stopAt at h
    split at h
    · exact Or.inl h
    · exact stopAt_of h
/-- the conditions of a method from a place on: to the places hs, or n instructions on -/
def wp (cd : Nat → Option me_T) (rk j : Nat) (hs : List Nat) : Nat → Nat → ml_T → List mv_T → ms_T → mq_T → Prop
  | 0, pc, ls, st, σ, Q => At j pc ls st σ Q
  | n + 1, pc, ls, st, σ, Q => match cd pc with
    | none => False
    | some e => wpi pc e rk ls st σ (fun pc' ls' st' σ' => stopAt hs pc' (At j pc' ls' st' σ' Q) (wp cd rk j hs n pc' ls' st' σ' Q)) Ca Q
theorem wp_At {cd : Nat → Option me_T} {rk j : Nat} {hs : List Nat} (hcd : code_of j = cd) (hrk : mrt j = rk) : ∀ (n : Nat) {pc : Nat} {ls : ml_T} {st : List mv_T} {σ : ms_T} {Q : mq_T}, wp cd rk j hs n pc ls st σ Q → At j pc ls st σ Q := by
  subst hcd
  subst hrk
  intro n
  induction n with
  | zero => intro pc ls st σ Q h; exact h
  | succ n ih =>
    intro pc ls st σ Q h
    unfold wp at h
    split at h
    · exact h.elim
    · next e he =>
      refine At_wpi he ?_
      have key : ∀ pc' ls' st' σ', stopAt hs pc' (At j pc' ls' st' σ' Q) (wp (code_of j) (mrt j) j hs n pc' ls' st' σ' Q) → At j pc' ls' st' σ' Q := fun pc' ls' st' σ' h => (stopAt_of h).elim id (fun h => ih h)
      rcases wpi_inv h with ⟨pc', ls', st', σ', hk, hg, mk⟩ | ⟨j', as, rk', r, hc, mk⟩ | ⟨v, hq, mk⟩
      · exact mk _ _ _ (key _ _ _ _ hk)
      · exact mk _ _ _ (Ca.mono hc fun v τ hv => rtn_mono (fun vs hw => key _ _ _ _ hw) hv)
      · exact mk _ _ _ hq
theorem Ca_wp {cd : Nat → Option me_T} {rk j ml : Nat} {as : List mv_T} {σ : ms_T} {Q : mq_T} (hs : List Nat) (hcd : code_of j = cd) (hrk : mrt j = rk) (hml : mxl j = ml) (n : Nat) (h : wp cd rk j hs n 0 (pad ml as) [] σ Q) : Ca j as σ Q := by
  subst hml
  exact wp_At hcd hrk n h
end
section
/-! An evaluator of the small machine, for closed runs: cells above B in lists, values forced; what it says holds of the machine -/
noncomputable section
def fzN {β : Type} (n : Nat) (k : Nat → β) : β := Nat.rec (k 0) (fun m _ => k (Nat.succ m)) n
theorem fzN_eq {β : Type} {n : Nat} {k : Nat → β} : fzN n k = k n := by cases n <;> rfl
def fz {β : Type} (x : Int) (k : Int → β) : β := Int.rec (fun n => fzN n fun m => k (Int.ofNat m)) (fun n => fzN n fun m => k (Int.negSucc m)) x
theorem fz_eq {β : Type} {x : Int} {k : Int → β} : fz x k = k x := by
  cases x with
  | ofNat a => exact fzN_eq (n := a) (k := fun m => k (Int.ofNat m))
  | negSucc a => exact fzN_eq (n := a) (k := fun m => k (Int.negSucc m))
def lfz {α β : Type} (xs : List α) (k : List α → β) : β := List.rec (motive := fun _ => (List α → β) → β) (fun k => k []) (fun x _ ih k => ih fun ys => k (x :: ys)) xs k
theorem lfz_eq {α β : Type} : ∀ {xs : List α} {k : List α → β}, lfz xs k = k xs
  | [], _ => rfl
  | x :: xs, k => by
    show lfz xs (fun ys => k (x :: ys)) = _
    exact lfz_eq
def nthE {α : Type} (xs : List α) (k : Nat) : Option α := List.rec (motive := fun _ => Nat → Option α) (fun _ => none) (fun x _ ih k => Nat.rec (motive := fun _ => Option α) (some x) (fun k' _ => ih k') k) xs k
theorem nthE_eq {α : Type} : ∀ {xs : List α} {k : Nat}, nthE xs k = nth xs k
  | [], _ => rfl
  | _ :: _, 0 => rfl
  | _ :: xs, k + 1 => nthE_eq (xs := xs) (k := k)
/-- the k-th changed: none, where there is none -/
def setK {α β : Type} (xs : List α) (k : Nat) (v : α) (c : List α → Option β) : Option β := List.rec (motive := fun _ => Nat → (List α → Option β) → Option β) (fun _ _ => none) (fun x xs ih k c => Nat.rec (motive := fun _ => Option β) (c (v :: xs)) (fun k' _ => ih k' fun ys => c (x :: ys)) k) xs k c
theorem setK_ok {α β : Type} {v : α} {cf : β} : ∀ {xs : List α} {k : Nat} {c : List α → Option β}, setK xs k v c = some cf → k < xs.length ∧ c (put xs k v) = some cf
  | [], _, _, h => by cases h
  | x :: xs, 0, c, h => ⟨Nat.succ_pos _, h⟩
  | x :: xs, k + 1, c, h => by
    have h2 : setK xs k v (fun ys => c (x :: ys)) = some cf := h
    obtain ⟨h3, h4⟩ := setK_ok h2
    exact ⟨Nat.succ_lt_succ h3, h4⟩
theorem putE_len {α : Type} {v : α} : ∀ {xs : List α} {k : Nat}, (put xs k v).length = xs.length
  | [], _ => rfl
  | _ :: _, 0 => rfl
  | _ :: xs, k + 1 => congrArg (· + 1) (putE_len (xs := xs) (k := k))
theorem nth_put {α : Type} {v : α} : ∀ {xs : List α} {k i : Nat}, k < xs.length → nth (put xs k v) i = if i = k then some v else nth xs i
  | [], _, _, h => absurd h (Nat.not_lt_zero _)
  | x :: xs, 0, 0, _ => rfl
  | x :: xs, 0, i + 1, _ => by rw [if_neg (by omega)]; rfl
  | x :: xs, k + 1, 0, _ => by rw [if_neg (by omega)]; rfl
  | x :: xs, k + 1, i + 1, h => by
    show nth (put xs k v) i = _
    rw [nth_put (Nat.lt_of_succ_lt_succ h)]
    by_cases e : i = k
    · rw [if_pos e, if_pos (by omega)]
    · rw [if_neg e, if_neg (by omega)]; rfl
def nthO {α : Type} (d : α) (o : Option α) : α := Option.rec d (fun x => x) o
/-- kind and length, whole numbers, references -/
abbrev ec_T : Type := (Nat × Nat) × List Int × List (Option Nat)
/-- base, cells, slots (of all), rows of sixteen cells -/
abbrev mm_T : Type := Nat × Nat × Nat × List (List ec_T)
def blk : ec_T := ((0, 0), [], [])
def celR (rows : List (List ec_T)) (i : Nat) : ec_T := nthO blk (nthE (nthO [] (nthE rows (Nat.div i 16))) (Nat.mod i 16))
def inM (m : mm_T) (c : Nat) : Prop := m.1 < c ∧ c ≤ m.1 + m.2.1
def inMb (B n c : Nat) : Bool := match Nat.ble (Nat.succ B) c with
  | true => Nat.ble c (Nat.add B n)
  | false => false
theorem inMb_ok {B n c : Nat} {r : Nat × List (List ec_T)} (h : inMb B n c = true) : inM (B, n, r) c := by
  unfold inMb at h
  split at h
  · next h1 =>
    have h2 := Nat.le_of_ble_eq_true h1
    have h3 := Nat.le_of_ble_eq_true h
    exact ⟨h2, h3⟩
  · cases h
def sgS (σ : ms_T) (m : mm_T) (c : Nat) : Nat × Nat := @ite _ (inM m c) (Classical.propDecidable _) (celR m.2.2.2 (c - m.1 - 1)).1 (gs σ c)
def sgI (σ : ms_T) (m : mm_T) (c k : Nat) : Int := @ite _ (inM m c) (Classical.propDecidable _) (nthO 0 (nthE (celR m.2.2.2 (c - m.1 - 1)).2.1 k)) (gi σ c k)
def sgR (σ : ms_T) (m : mm_T) (c k : Nat) : Option Nat := @ite _ (inM m c) (Classical.propDecidable _) (nthO none (nthE (celR m.2.2.2 (c - m.1 - 1)).2.2 k)) (gr σ c k)
def sg (σ : ms_T) (m : mm_T) : ms_T := ((m.1 + m.2.1, m.2.2.1), sgS σ m, sgI σ m, sgR σ m)
theorem gs_sg {σ : ms_T} {m : mm_T} {c : Nat} (h : inM m c) : gs (sg σ m) c = (celR m.2.2.2 (c - m.1 - 1)).1 := @if_pos _ (Classical.propDecidable _) h _ _ _
theorem gi_sg {σ : ms_T} {m : mm_T} {c k : Nat} (h : inM m c) : gi (sg σ m) c k = nthO 0 (nthE (celR m.2.2.2 (c - m.1 - 1)).2.1 k) := @if_pos _ (Classical.propDecidable _) h _ _ _
theorem gr_sg {σ : ms_T} {m : mm_T} {c k : Nat} (h : inM m c) : gr (sg σ m) c k = nthO none (nthE (celR m.2.2.2 (c - m.1 - 1)).2.2 k) := @if_pos _ (Classical.propDecidable _) h _ _ _
theorem gs_sgo {σ : ms_T} {m : mm_T} {c : Nat} (h : ¬ inM m c) : gs (sg σ m) c = gs σ c := @if_neg _ (Classical.propDecidable _) h _ _ _
theorem gi_sgo {σ : ms_T} {m : mm_T} {c k : Nat} (h : ¬ inM m c) : gi (sg σ m) c k = gi σ c k := @if_neg _ (Classical.propDecidable _) h _ _ _
theorem gr_sgo {σ : ms_T} {m : mm_T} {c k : Nat} (h : ¬ inM m c) : gr (sg σ m) c k = gr σ c k := @if_neg _ (Classical.propDecidable _) h _ _ _
theorem ms_ext {σ τ : ms_T} (h0 : σ.1 = τ.1) (h1 : ∀ c, gs σ c = gs τ c) (h2 : ∀ c k, gi σ c k = gi τ c k) (h3 : ∀ c k, gr σ c k = gr τ c k) : σ = τ := by
  obtain ⟨a, b, c, d⟩ := σ
  obtain ⟨a', b', c', d'⟩ := τ
  have e0 : a = a' := h0
  have e1 : b = b' := funext h1
  have e2 : c = c' := funext fun x => funext (h2 x)
  have e3 : d = d' := funext fun x => funext (h3 x)
  rw [e0, e1, e2, e3]
/-- a cell changed -/
def setC {β : Type} (rows : List (List ec_T)) (i : Nat) (x : ec_T) (c : List (List ec_T) → Option β) : Option β := match nthE rows (Nat.div i 16) with
  | some row => setK row (Nat.mod i 16) x fun row2 => setK rows (Nat.div i 16) row2 c
  | none => none
theorem setC_ok {β : Type} {rows : List (List ec_T)} {i : Nat} {x : ec_T} {c : List (List ec_T) → Option β} {cf : β} (h : setC rows i x c = some cf) : ∃ rows2, (∀ q, celR rows2 q = if q = i then x else celR rows q) ∧ c rows2 = some cf := by
  unfold setC at h
  split at h
  · next row hr =>
    obtain ⟨h1, h2⟩ := setK_ok h
    obtain ⟨h3, h4⟩ := setK_ok h2
    refine ⟨_, fun q => ?_, h4⟩
    unfold celR
    rw [nthE_eq, nthE_eq, nth_put h3]
    by_cases e : Nat.div q 16 = Nat.div i 16
    · rw [if_pos e]
      show nthO blk (nth (put row (Nat.mod i 16) x) (Nat.mod q 16)) = _
      rw [nth_put h1]
      by_cases e2 : Nat.mod q 16 = Nat.mod i 16
      · rw [if_pos e2, if_pos (by
          have e : q / 16 = i / 16 := e
          have e2 : q % 16 = i % 16 := e2
          omega)]
        rfl
      · rw [if_neg e2, if_neg (by
          intro z
          rw [z] at e2
          exact e2 rfl), e, hr, nthE_eq]
        rfl
    · rw [if_neg e, if_neg (by
        intro z
        rw [z] at e
        exact e rfl), nthE_eq, nthE_eq]
  · cases h
theorem sg_I {β : Type} {σ : ms_T} {B n g : Nat} {rows : List (List ec_T)} {c k : Nat} {v : Int} {f : List (List ec_T) → Option β} {cf : β} (hc : inM (B, n, g, rows) c) (h : setK (celR rows (c - B - 1)).2.1 k v (fun ys => setC rows (c - B - 1) ((celR rows (c - B - 1)).1, ys, (celR rows (c - B - 1)).2.2) f) = some cf) : ∃ rows2, sg σ (B, n, g, rows2) = sI (sg σ (B, n, g, rows)) c k v ∧ f rows2 = some cf := by
  obtain ⟨h1, h2⟩ := setK_ok h
  obtain ⟨rows2, h3, h4⟩ := setC_ok h2
  have key : ∀ c', inM (B, n, g, rows) c' → c' - B - 1 = c - B - 1 → c' = c := fun c' h' e => by
    have a := h'.1; have b := hc.1
    have a : B < c' := a; have b : B < c := b
    omega
  refine ⟨rows2, ms_ext rfl (fun c' => ?_) (fun c' k' => ?_) (fun c' k' => ?_), h4⟩
  · rw [gs_sI]
    by_cases q : inM (B, n, g, rows) c'
    · rw [gs_sg (m := (B, n, g, rows2)) q, gs_sg q]
      show (celR rows2 (c' - B - 1)).1 = (celR rows (c' - B - 1)).1
      rw [h3]
      by_cases e : c' - B - 1 = c - B - 1
      · rw [if_pos e, e]
      · rw [if_neg e]
    · rw [gs_sgo (m := (B, n, g, rows2)) q, gs_sgo q]
  · rw [gi_sI]
    by_cases q : inM (B, n, g, rows) c'
    · rw [gi_sg (m := (B, n, g, rows2)) q, gi_sg q]
      show nthO 0 (nthE (celR rows2 (c' - B - 1)).2.1 k') = if c' = c ∧ k' = k then v else nthO 0 (nthE (celR rows (c' - B - 1)).2.1 k')
      rw [h3]
      by_cases e : c' - B - 1 = c - B - 1
      · rw [if_pos e, nthE_eq, nthE_eq, nth_put h1, e]
        by_cases e2 : k' = k
        · rw [if_pos e2, if_pos ⟨key c' q e, e2⟩]; rfl
        · rw [if_neg e2, if_neg (fun z => e2 z.2)]
      · rw [if_neg e, if_neg (fun z => e (by rw [z.1]))]
    · rw [gi_sgo (m := (B, n, g, rows2)) q, gi_sgo q, if_neg (fun z : c' = c ∧ k' = k => q (z.1 ▸ hc))]
  · rw [gr_sI]
    by_cases q : inM (B, n, g, rows) c'
    · rw [gr_sg (m := (B, n, g, rows2)) q, gr_sg q]
      show nthO none (nthE (celR rows2 (c' - B - 1)).2.2 k') = nthO none (nthE (celR rows (c' - B - 1)).2.2 k')
      rw [h3]
      by_cases e : c' - B - 1 = c - B - 1
      · rw [if_pos e, e]
      · rw [if_neg e]
    · rw [gr_sgo (m := (B, n, g, rows2)) q, gr_sgo q]
theorem sg_R {β : Type} {σ : ms_T} {B n g : Nat} {rows : List (List ec_T)} {c k : Nat} {v : Option Nat} {f : List (List ec_T) → Option β} {cf : β} (hc : inM (B, n, g, rows) c) (h : setK (celR rows (c - B - 1)).2.2 k v (fun ys => setC rows (c - B - 1) ((celR rows (c - B - 1)).1, (celR rows (c - B - 1)).2.1, ys) f) = some cf) : ∃ rows2, sg σ (B, n, g, rows2) = sR (sg σ (B, n, g, rows)) c k v ∧ f rows2 = some cf := by
  obtain ⟨h1, h2⟩ := setK_ok h
  obtain ⟨rows2, h3, h4⟩ := setC_ok h2
  have key : ∀ c', inM (B, n, g, rows) c' → c' - B - 1 = c - B - 1 → c' = c := fun c' h' e => by
    have a := h'.1; have b := hc.1
    have a : B < c' := a; have b : B < c := b
    omega
  refine ⟨rows2, ms_ext rfl (fun c' => ?_) (fun c' k' => ?_) (fun c' k' => ?_), h4⟩
  · rw [gs_sR]
    by_cases q : inM (B, n, g, rows) c'
    · rw [gs_sg (m := (B, n, g, rows2)) q, gs_sg q]
      show (celR rows2 (c' - B - 1)).1 = (celR rows (c' - B - 1)).1
      rw [h3]
      by_cases e : c' - B - 1 = c - B - 1
      · rw [if_pos e, e]
      · rw [if_neg e]
    · rw [gs_sgo (m := (B, n, g, rows2)) q, gs_sgo q]
  · rw [gi_sR]
    by_cases q : inM (B, n, g, rows) c'
    · rw [gi_sg (m := (B, n, g, rows2)) q, gi_sg q]
      show nthO 0 (nthE (celR rows2 (c' - B - 1)).2.1 k') = nthO 0 (nthE (celR rows (c' - B - 1)).2.1 k')
      rw [h3]
      by_cases e : c' - B - 1 = c - B - 1
      · rw [if_pos e, e]
      · rw [if_neg e]
    · rw [gi_sgo (m := (B, n, g, rows2)) q, gi_sgo q]
  · rw [gr_sR]
    by_cases q : inM (B, n, g, rows) c'
    · rw [gr_sg (m := (B, n, g, rows2)) q, gr_sg q]
      show nthO none (nthE (celR rows2 (c' - B - 1)).2.2 k') = if c' = c ∧ k' = k then v else nthO none (nthE (celR rows (c' - B - 1)).2.2 k')
      rw [h3]
      by_cases e : c' - B - 1 = c - B - 1
      · rw [if_pos e, nthE_eq, nthE_eq, nth_put h1, e]
        by_cases e2 : k' = k
        · rw [if_pos e2, if_pos ⟨key c' q e, e2⟩]; rfl
        · rw [if_neg e2, if_neg (fun z => e2 z.2)]
      · rw [if_neg e, if_neg (fun z => e (by rw [z.1]))]
    · rw [gr_sgo (m := (B, n, g, rows2)) q, gr_sgo q, if_neg (fun z : c' = c ∧ k' = k => q (z.1 ▸ hc))]
theorem gs_alcE (σ : ms_T) (kd len n c : Nat) : gs (alc σ kd len n) c = if c = gn σ + 1 then (kd, len) else gs σ c := rfl
theorem gi_alcE (σ : ms_T) (kd len n c k : Nat) : gi (alc σ kd len n) c k = if c = gn σ + 1 then 0 else gi σ c k := rfl
theorem gr_alcE (σ : ms_T) (kd len n c k : Nat) : gr (alc σ kd len n) c k = if c = gn σ + 1 then none else gr σ c k := rfl
def zrs {α : Type} (d : α) (n : Nat) : List α := Nat.rec [] (fun _ ih => d :: ih) n
theorem nth_zrs {α : Type} {d : α} : ∀ {n k : Nat}, nthO d (nthE (zrs d n) k) = d
  | 0, _ => rfl
  | n + 1, 0 => rfl
  | n + 1, k + 1 => nth_zrs (n := n) (k := k)
theorem sg_new {β : Type} {σ : ms_T} {B n g : Nat} {rows : List (List ec_T)} {kd len a b w : Nat} {f : List (List ec_T) → Option β} {cf : β} (h : setC rows n ((kd, len), zrs 0 a, zrs none b) f = some cf) : ∃ rows2, sg σ (B, n + 1, g + w, rows2) = alc (sg σ (B, n, g, rows)) kd len w ∧ f rows2 = some cf := by
  obtain ⟨rows2, h3, h4⟩ := setC_ok h
  have hN : ∀ c', inM (B, n + 1, g + w, rows2) c' ↔ inM (B, n, g, rows) c' ∨ c' = B + n + 1 := fun c' => by
    show (B < c' ∧ c' ≤ B + (n + 1)) ↔ ((B < c' ∧ c' ≤ B + n) ∨ c' = B + n + 1)
    omega
  have hI : ∀ c', inM (B, n, g, rows) c' → ¬ c' - B - 1 = n ∧ ¬ c' = B + n + 1 := fun c' z => by
    have z1 : B < c' := z.1
    have z2 : c' ≤ B + n := z.2
    omega
  have hg : gn (sg σ (B, n, g, rows)) = B + n := rfl
  refine ⟨rows2, ms_ext (by show (B + (n + 1), g + w) = (B + n + 1, g + w); rw [Nat.add_assoc]) (fun c' => ?_) (fun c' k' => ?_) (fun c' k' => ?_), h4⟩
  · rw [gs_alcE, hg]
    by_cases q : inM (B, n, g, rows) c'
    · rw [gs_sg (m := (B, n + 1, g + w, rows2)) ((hN c').mpr (Or.inl q)), if_neg (hI c' q).2, gs_sg q]
      show (celR rows2 (c' - B - 1)).1 = (celR rows (c' - B - 1)).1
      rw [h3, if_neg (hI c' q).1]
    · by_cases e : c' = B + n + 1
      · rw [gs_sg (m := (B, n + 1, g + w, rows2)) ((hN c').mpr (Or.inr e)), if_pos e]
        show (celR rows2 (c' - B - 1)).1 = _
        rw [h3, if_pos (by omega)]
      · rw [gs_sgo (m := (B, n + 1, g + w, rows2)) (fun z => ((hN c').mp z).elim q e), if_neg e, gs_sgo q]
  · rw [gi_alcE, hg]
    by_cases q : inM (B, n, g, rows) c'
    · rw [gi_sg (m := (B, n + 1, g + w, rows2)) ((hN c').mpr (Or.inl q)), if_neg (hI c' q).2, gi_sg q]
      show nthO 0 (nthE (celR rows2 (c' - B - 1)).2.1 k') = nthO 0 (nthE (celR rows (c' - B - 1)).2.1 k')
      rw [h3, if_neg (hI c' q).1]
    · by_cases e : c' = B + n + 1
      · rw [gi_sg (m := (B, n + 1, g + w, rows2)) ((hN c').mpr (Or.inr e)), if_pos e]
        show nthO 0 (nthE (celR rows2 (c' - B - 1)).2.1 k') = _
        rw [h3, if_pos (by omega)]
        exact nth_zrs
      · rw [gi_sgo (m := (B, n + 1, g + w, rows2)) (fun z => ((hN c').mp z).elim q e), if_neg e, gi_sgo q]
  · rw [gr_alcE, hg]
    by_cases q : inM (B, n, g, rows) c'
    · rw [gr_sg (m := (B, n + 1, g + w, rows2)) ((hN c').mpr (Or.inl q)), if_neg (hI c' q).2, gr_sg q]
      show nthO none (nthE (celR rows2 (c' - B - 1)).2.2 k') = nthO none (nthE (celR rows (c' - B - 1)).2.2 k')
      rw [h3, if_neg (hI c' q).1]
    · by_cases e : c' = B + n + 1
      · rw [gr_sg (m := (B, n + 1, g + w, rows2)) ((hN c').mpr (Or.inr e)), if_pos e]
        show nthO none (nthE (celR rows2 (c' - B - 1)).2.2 k') = _
        rw [h3, if_pos (by omega)]
        exact nth_zrs
      · rw [gr_sgo (m := (B, n + 1, g + w, rows2)) (fun z => ((hN c').mp z).elim q e), if_neg e, gr_sgo q]
end
end
section
/-! The evaluator's steps -/
noncomputable section
abbrev fr_T : Type := Nat × Nat × ml_T × List mv_T × Nat
abbrev cf_T : Type := Nat × Nat × ml_T × List mv_T × List fr_T × mm_T
abbrev kc_T : Type := Nat → Nat → ml_T → List mv_T → List fr_T → mm_T → Option cf_T
abbrev op_T : Type := Nat → Nat → ml_T → List mv_T → List fr_T → mm_T → kc_T → Option cf_T
/-- what waits behind a call's return -/
def CQ : List fr_T → mq_T → mq_T
  | [], Q => Q
  | (j, pc, ls, r, rk) :: fs, Q => fun v τ => rtn rk v fun vs => At j (pc + 3) ls (vs ++ r) τ (CQ fs Q)
def HK (σ : ms_T) (Q : mq_T) (cf : cf_T) (K : kc_T) : Prop := ∀ j pc ls st fs m, K j pc ls st fs m = some cf → At j pc ls st (sg σ m) (CQ fs Q)
def wrE (x : Int) : Int := Int.sub (Int.emod (Int.add x (Int.ofNat 2147483648)) (Int.ofNat 4294967296)) (Int.ofNat 2147483648)
theorem wrE_eq {x : Int} : wrE x = wr x := rfl
def wlE (x : Int) : Int := Int.sub (Int.emod (Int.add x (Int.ofNat 9223372036854775808)) (Int.ofNat 18446744073709551616)) (Int.ofNat 9223372036854775808)
theorem wlE_eq {x : Int} : wlE x = wl x := rfl
def negb (x : Int) : Bool := Int.rec (fun _ => false) (fun _ => true) x
theorem negb_ok {x : Int} : negb x = true ↔ x < 0 := by
  cases x with
  | ofNat n => exact ⟨fun h => (by cases h), fun h => (by
      have h : ((n : Nat) : Int) < 0 := h
      omega)⟩
  | negSucc n => exact ⟨fun _ => Int.negSucc_lt_zero n, fun _ => rfl⟩
def bltI (a b : Int) : Bool := negb (Int.sub a b)
theorem bltI_ok {a b : Int} : bltI a b = true ↔ a < b := by
  unfold bltI
  rw [negb_ok]
  show a - b < 0 ↔ a < b
  omega
def beqI (a b : Int) : Bool := Int.rec (fun n => Int.rec (fun m => Nat.beq n m) (fun _ => false) b) (fun n => Int.rec (fun _ => false) (fun m => Nat.beq n m) b) a
theorem beqI_ok {a b : Int} : beqI a b = true ↔ a = b := by
  cases a with
  | ofNat n => cases b with
    | ofNat m => exact ⟨fun h => congrArg Int.ofNat (Nat.eq_of_beq_eq_true h), fun h => (by cases h; exact Nat.beq_refl n)⟩
    | negSucc m => exact ⟨fun h => (by cases h), fun h => (by cases h)⟩
  | negSucc n => cases b with
    | ofNat m => exact ⟨fun h => (by cases h), fun h => (by cases h)⟩
    | negSucc m => exact ⟨fun h => congrArg Int.negSucc (Nat.eq_of_beq_eq_true h), fun h => (by cases h; exact Nat.beq_refl n)⟩
theorem bltI_no {a b : Int} : bltI a b = false ↔ b ≤ a := by
  rw [← Bool.not_eq_true, bltI_ok]
  omega
theorem beqI_no {a b : Int} : beqI a b = false ↔ ¬ a = b := by rw [← Bool.not_eq_true, beqI_ok]
def notB (b : Bool) : Bool := Bool.rec true false b
theorem notB_eq {b : Bool} : notB b = true ↔ ¬ b = true := by cases b <;> simp [notB]
def cndE (c : ClassFile.Cond) (a b : Int) : Bool := match c with
  | .eq => beqI a b
  | .ne => notB (beqI a b)
  | .lt => bltI a b
  | .ge => notB (bltI a b)
  | .gt => bltI b a
  | .le => notB (bltI b a)
theorem cndE_ok {c : ClassFile.Cond} {a b : Int} : cndE c a b = true ↔ icnd c a b := by
  cases c
  · exact beqI_ok
  · show notB _ = true ↔ _
    rw [notB_eq, beqI_ok]; rfl
  · exact bltI_ok
  · show notB _ = true ↔ _
    rw [notB_eq, bltI_ok]
    show ¬ a < b ↔ b ≤ a
    omega
  · exact bltI_ok
  · show notB _ = true ↔ _
    rw [notB_eq, bltI_ok]
    show ¬ b < a ↔ a ≤ b
    omega
def cmpE (a b : Int) : Int := Bool.rec (Bool.rec (Int.ofNat 1) (Int.ofNat 0) (beqI a b)) (Int.negSucc 0) (bltI a b)
theorem cmpE_eq {a b : Int} : cmpE a b = cmp3 a b := by
  unfold cmpE cmp3
  by_cases h : a < b
  · rw [if_pos h, bltI_ok.mpr h]; rfl
  · rw [if_neg h, bltI_no.mpr (by omega)]
    by_cases e : a = b
    · rw [if_pos e, beqI_ok.mpr e]; rfl
    · rw [if_neg e, beqI_no.mpr e]; rfl
def minE (a b : Int) : Int := Bool.rec a b (bltI b a)
theorem minE_eq {a b : Int} : minE a b = min a b := by
  unfold minE
  by_cases h : b < a
  · rw [bltI_ok.mpr h]
    show b = min a b
    omega
  · rw [bltI_no.mpr (by omega)]
    show a = min a b
    omega
def maxE (a b : Int) : Int := Bool.rec b a (bltI b a)
theorem maxE_eq {a b : Int} : maxE a b = max a b := by
  unfold maxE
  by_cases h : b < a
  · rw [bltI_ok.mpr h]
    show a = max a b
    omega
  · rw [bltI_no.mpr (by omega)]
    show b = max a b
    omega
def nolE (ls : ml_T) (k : Nat) : Bool := Nat.rec true (fun j _ => match nthE ls j with
    | some (some (.inr (.inl _))) => false
    | _ => true) k
theorem nolE_eq {ls : ml_T} {k : Nat} : nolE ls k = nol ls k := by
  cases k with
  | zero => rfl
  | succ j =>
    show (match nthE ls j with
    | some (some (.inr (.inl _))) => false
    | _ => true) = nol ls (j + 1)
    rw [nthE_eq]
    unfold nol
    rfl
/-- a cell of the memory, its parts -/
def wCel (B n : Nat) (rows : List (List ec_T)) (c : Nat) (f : Nat → Nat → Nat → List Int → List (Option Nat) → Option cf_T) : Option cf_T := match inMb B n c with
  | true => match celR rows (Nat.sub (Nat.sub c B) 1) with
    | ((kd, ln), is, rs) => f (Nat.sub (Nat.sub c B) 1) kd ln is rs
  | false => none
theorem wCel_ok {B n g : Nat} {rows : List (List ec_T)} {c : Nat} {f : Nat → Nat → Nat → List Int → List (Option Nat) → Option cf_T} {cf : cf_T} (h : wCel B n rows c f = some cf) : inM (B, n, g, rows) c ∧ f (c - B - 1) (celR rows (c - B - 1)).1.1 (celR rows (c - B - 1)).1.2 (celR rows (c - B - 1)).2.1 (celR rows (c - B - 1)).2.2 = some cf := by
  unfold wCel at h
  split at h
  · next h1 => exact ⟨inMb_ok h1, h⟩
  · cases h
theorem gs_e {σ : ms_T} {B n g : Nat} {rows : List (List ec_T)} {c : Nat} (h : inM (B, n, g, rows) c) : gs (sg σ (B, n, g, rows)) c = ((celR rows (c - B - 1)).1.1, (celR rows (c - B - 1)).1.2) := gs_sg h
def kdOk (kd ln a b : Nat) : Bool := match Nat.beq kd a with
  | true => Nat.beq ln b
  | false => false
theorem kdOk_ok {kd ln a b : Nat} (h : kdOk kd ln a b = true) : (kd, ln) = (a, b) := by
  unfold kdOk at h
  split at h
  · next h1 => rw [Nat.eq_of_beq_eq_true h1, Nat.eq_of_beq_eq_true h]
  · cases h
/-- an index in a row of ln -/
def wIdx (i : Int) (ln : Nat) (f : Nat → Option cf_T) : Option cf_T := Int.rec (fun q => match Nat.ble (Nat.succ q) ln with
    | true => f q
    | false => none) (fun _ => none) i
theorem wIdx_ok {i : Int} {ln : Nat} {f : Nat → Option cf_T} {cf : cf_T} (h : wIdx i ln f = some cf) : 0 ≤ i ∧ i < (ln : Int) ∧ f i.toNat = some cf := by
  cases i with
  | ofNat q =>
    have h : (match Nat.ble (Nat.succ q) ln with
      | true => f q
      | false => none) = some cf := h
    split at h
    · next h1 =>
      have h2 := Nat.le_of_ble_eq_true h1
      refine ⟨Int.natCast_nonneg q, ?_, h⟩
      show (q : Int) < (ln : Int)
      omega
    · cases h
  | negSucc q => cases h
def wBool (b : Bool) (o : Option cf_T) : Option cf_T := match b with
  | true => o
  | false => none
theorem wBool_ok {b : Bool} {o : Option cf_T} {cf : cf_T} (h : wBool b o = some cf) : b = true ∧ o = some cf := by
  unfold wBool at h
  split at h
  · exact ⟨rfl, h⟩
  · cases h
theorem pI_mk {a : Int} {r : List mv_T} {F : Int → List mv_T → Prop} (h : F a r) : pI (vI a :: r) F := h
theorem pL_mk {a : Int} {r : List mv_T} {F : Int → List mv_T → Prop} (h : F a r) : pL (vL a :: r) F := h
theorem pR_mk {a : Option Nat} {r : List mv_T} {F : Option Nat → List mv_T → Prop} (h : F a r) : pR (vR a :: r) F := h
theorem blt_mk {a b : Nat} (h : a < b) : Nat.blt a b = true := Nat.blt_eq.mpr h
theorem and_mk {a b : Bool} (h1 : a = true) (h2 : b = true) : (a && b) = true := by rw [h1, h2]; rfl
def isW (v : mv_T) : Bool := match v with
  | .inr (.inl _) => false
  | _ => true
theorem isW_ok {v : mv_T} (h : isW v = true) : mcat v = 1 := by
  rcases v with v | v | v
  · rfl
  · cases h
  · rfl
def swE (a lo : Int) (d : Nat) (ts : List Nat) : Nat := Bool.rec (nthO d (nthE ts (Int.toNat (Int.sub a lo)))) d (bltI a lo)
theorem swt_of {a : Int} {K : Nat → Prop} : ∀ {ts : List Nat} {lo : Int}, (∀ (i : Nat) t, nth ts i = some t → a = lo + i → K t) → swt a K lo ts
  | [], _, _ => trivial
  | t :: ts, lo, h => ⟨fun e => h 0 t rfl (by rw [e]; simp), swt_of fun i t' e z => h (i + 1) t' e (by rw [z]; omega)⟩
theorem nth_none {α : Type} : ∀ {xs : List α} {k : Nat}, xs.length ≤ k → nth xs k = none
  | [], _, _ => rfl
  | _ :: xs, 0, h => by simp at h
  | _ :: xs, k + 1, h => nth_none (xs := xs) (k := k) (by simp at h; omega)
theorem swE_ok {a lo : Int} {d : Nat} {ts : List Nat} {K : Nat → Prop} (h : K (swE a lo d ts)) : (a < lo ∨ lo + ts.length ≤ a → K d) ∧ swt a K lo ts := by
  unfold swE at h
  by_cases c : a < lo
  · rw [bltI_ok.mpr c] at h
    exact ⟨fun _ => h, swt_lt c⟩
  · rw [bltI_no.mpr (by omega)] at h
    have h : K (nthO d (nthE ts (a - lo).toNat)) := h
    rw [nthE_eq] at h
    refine ⟨fun z => ?_, swt_of fun i t e z => ?_⟩
    · rw [nth_none (by omega)] at h
      exact h
    · rw [show (a - lo).toNat = i by omega, e] at h
      exact h
def ofz {β : Type} (o : Option Nat) (k : Option Nat → β) : β := match o with
  | none => k none
  | some c => k (some c)
theorem ofz_eq {β : Type} {o : Option Nat} {k : Option Nat → β} : ofz o k = k o := by cases o <;> rfl
def boolE (v : Int) : Bool := match beqI v (Int.ofNat 0) with
  | true => true
  | false => beqI v (Int.ofNat 1)
theorem boolE_ok {v : Int} (h : boolE v = true) : v = 0 ∨ v = 1 := by
  unfold boolE at h
  split at h
  · next e => exact Or.inl (beqI_ok.mp e)
  · exact Or.inr (beqI_ok.mp h)
def chE (ch : Bool) (v : Int) : Bool := match ch with
  | false => true
  | true => match bltI v (Int.ofNat 0) with
    | true => false
    | false => bltI v (Int.ofNat 65536)
theorem chE_ok {ch : Bool} {v : Int} (h : chE ch v = true) : ch = true → 0 ≤ v ∧ v < 65536 := by
  intro e
  subst e
  have h : (match bltI v (Int.ofNat 0) with
    | true => false
    | false => bltI v (Int.ofNat 65536)) = true := h
  split at h
  · cases h
  · next e => exact ⟨bltI_no.mp e, bltI_ok.mp h⟩
def rkE (kd : Nat) : Bool := match Nat.ble 60 kd with
  | true => Nat.ble (Nat.succ kd) 70
  | false => false
theorem rkE_ok {kd : Nat} (h : rkE kd = true) : 60 ≤ kd ∧ kd < 70 := by
  unfold rkE at h
  split at h
  · next e => exact ⟨Nat.le_of_ble_eq_true e, Nat.le_of_ble_eq_true h⟩
  · cases h
def riE (rk : Nat) (a : Int) : Bool := match rk with
  | 1 => true
  | 2 => boolE a
  | _ => false
theorem riE_ok {rk : Nat} {a : Int} {F : Prop} (h : riE rk a = true) (hF : F) : retI rk a F := by
  unfold riE at h
  unfold retI
  split at h
  · exact hF
  · exact ⟨boolE_ok h, hF⟩
  · cases h
/-- n values off the stack, the deepest first -/
def popE (n : Nat) (acc st : List mv_T) (f : List mv_T → List mv_T → Option cf_T) : Option cf_T := Nat.rec (motive := fun _ => List mv_T → List mv_T → Option cf_T) (fun acc st => f acc st) (fun _ ih acc st => match st with
  | [] => none
  | v :: r => ih (v :: acc) r) n acc st
theorem popE_ok {f : List mv_T → List mv_T → Option cf_T} {cf : cf_T} : ∀ {n : Nat} {acc st : List mv_T}, popE n acc st f = some cf → ∃ as r, f as r = some cf ∧ ∀ {G : List mv_T → List mv_T → Prop}, G as r → popn n acc st G
  | 0, acc, st, h => ⟨acc, st, h, fun g => g⟩
  | n + 1, acc, [], h => by cases h
  | n + 1, acc, v :: r, h => by
    obtain ⟨as, r2, h1, h2⟩ := popE_ok (n := n) (acc := v :: acc) (st := r) h
    exact ⟨as, r2, h1, fun g => h2 g⟩
def fAdd (a b : Int) : Int := wrE (Int.add a b)
def fSub (a b : Int) : Int := wrE (Int.sub a b)
def fMul (a b : Int) : Int := wrE (Int.mul a b)
def fDiv (a b : Int) : Int := wrE (Int.tdiv a b)
def fRem (a b : Int) : Int := Int.tmod a b
def gAdd (a b : Int) : Int := wlE (Int.add a b)
def gMul (a b : Int) : Int := wlE (Int.mul a b)
def op_push (v : Int) (n : Nat) : op_T := fun j pc ls st fs m k => fzN (Nat.add pc n) fun p => k j p ls (.inl v :: st) fs m
def op_pushL (v : Int) (n : Nat) : op_T := fun j pc ls st fs m k => fzN (Nat.add pc n) fun p => k j p ls (.inr (.inl v) :: st) fs m
def op_null (n : Nat) : op_T := fun j pc ls st fs m k => fzN (Nat.add pc n) fun p => k j p ls (.inr (.inr none) :: st) fs m
def op_loadI (q n : Nat) : op_T := fun j pc ls st fs m k => match nthE ls q with
  | some (some (.inl a)) => fzN (Nat.add pc n) fun p => k j p ls (.inl a :: st) fs m
  | _ => none
def op_loadL (q n : Nat) : op_T := fun j pc ls st fs m k => match nthE ls q with
  | some (some (.inr (.inl a))) => fzN (Nat.add pc n) fun p => k j p ls (.inr (.inl a) :: st) fs m
  | _ => none
def op_loadR (q n : Nat) : op_T := fun j pc ls st fs m k => match nthE ls q with
  | some (some (.inr (.inr a))) => fzN (Nat.add pc n) fun p => k j p ls (.inr (.inr a) :: st) fs m
  | _ => none
def op_storeI (q n : Nat) : op_T := fun j pc ls st fs m k => match st with
  | .inl a :: r => wBool (nolE ls q) (setK ls q (some (.inl a)) fun l2 => fzN (Nat.add pc n) fun p => k j p l2 r fs m)
  | _ => none
def op_storeR (q n : Nat) : op_T := fun j pc ls st fs m k => match st with
  | .inr (.inr a) :: r => wBool (nolE ls q) (setK ls q (some (.inr (.inr a))) fun l2 => fzN (Nat.add pc n) fun p => k j p l2 r fs m)
  | _ => none
def op_storeL (q n : Nat) : op_T := fun j pc ls st fs m k => match st with
  | .inr (.inl a) :: r => wBool (nolE ls q) (setK ls q (some (.inr (.inl a))) fun l2 => setK l2 (Nat.succ q) none fun l3 => fzN (Nat.add pc n) fun p => k j p l3 r fs m)
  | _ => none
def op_iinc (q : Nat) (v : Int) : op_T := fun j pc ls st fs m k => match nthE ls q with
  | some (some (.inl a)) => wBool (nolE ls q) (fz (wrE (Int.add a v)) fun x => setK ls q (some (.inl x)) fun l2 => fzN (Nat.add pc 3) fun p => k j p l2 st fs m)
  | _ => none
def op_bin (f : Int → Int → Int) : op_T := fun j pc ls st fs m k => match st with
  | .inl b :: .inl a :: r => fz (f a b) fun x => fzN (Nat.add pc 1) fun p => k j p ls (.inl x :: r) fs m
  | _ => none
def op_binL (f : Int → Int → Int) : op_T := fun j pc ls st fs m k => match st with
  | .inr (.inl b) :: .inr (.inl a) :: r => fz (f a b) fun x => fzN (Nat.add pc 1) fun p => k j p ls (.inr (.inl x) :: r) fs m
  | _ => none
def op_binLI (f : Int → Int → Int) : op_T := fun j pc ls st fs m k => match st with
  | .inl b :: .inr (.inl a) :: r => fz (f a b) fun x => fzN (Nat.add pc 1) fun p => k j p ls (.inr (.inl x) :: r) fs m
  | _ => none
def op_cmp (f : Int → Int → Int) : op_T := fun j pc ls st fs m k => match st with
  | .inr (.inl b) :: .inr (.inl a) :: r => fz (f a b) fun x => fzN (Nat.add pc 1) fun p => k j p ls (.inl x :: r) fs m
  | _ => none
def op_div (f : Int → Int → Int) : op_T := fun j pc ls st fs m k => match st with
  | .inl b :: .inl a :: r => wBool (notB (beqI b (Int.ofNat 0))) (fz (f a b) fun x => fzN (Nat.add pc 1) fun p => k j p ls (.inl x :: r) fs m)
  | _ => none
def op_divL (f : Int → Int → Int) : op_T := fun j pc ls st fs m k => match st with
  | .inr (.inl b) :: .inr (.inl a) :: r => wBool (notB (beqI b (Int.ofNat 0))) (fz (f a b) fun x => fzN (Nat.add pc 1) fun p => k j p ls (.inr (.inl x) :: r) fs m)
  | _ => none
def op_i2l  : op_T := fun j pc ls st fs m k => match st with
  | .inl a :: r => fzN (Nat.add pc 1) fun p => k j p ls (.inr (.inl a) :: r) fs m
  | _ => none
def op_l2i  : op_T := fun j pc ls st fs m k => match st with
  | .inr (.inl a) :: r => fz (wrE a) fun x => fzN (Nat.add pc 1) fun p => k j p ls (.inl x :: r) fs m
  | _ => none
def op_i2c  : op_T := fun j pc ls st fs m k => match st with
  | .inl a :: r => wBool (notB (bltI a (Int.ofNat 0))) (wBool (bltI a (Int.ofNat 65536)) (fzN (Nat.add pc 1) fun p => k j p ls (.inl a :: r) fs m))
  | _ => none
def op_dup  : op_T := fun j pc ls st fs m k => match st with
  | a :: r => wBool (isW a) (fzN (Nat.add pc 1) fun p => k j p ls (a :: a :: r) fs m)
  | _ => none
def op_dup2  : op_T := fun j pc ls st fs m k => match st with
  | b :: a :: r => wBool (isW b) (wBool (isW a) (fzN (Nat.add pc 1) fun p => k j p ls (b :: a :: b :: a :: r) fs m))
  | _ => none
def op_pop  : op_T := fun j pc ls st fs m k => match st with
  | a :: r => wBool (isW a) (fzN (Nat.add pc 1) fun p => k j p ls r fs m)
  | _ => none
def op_goto (t : Nat) : op_T := fun j pc ls st fs m k => fzN t fun p => k j p ls st fs m
def op_ifc (c : ClassFile.Cond) (t : Nat) : op_T := fun j pc ls st fs m k => match st with
  | .inl a :: r => match cndE c a (Int.ofNat 0) with
    | true => fzN t fun p => k j p ls r fs m
    | false => fzN (Nat.add pc 3) fun p => k j p ls r fs m
  | _ => none
def op_icmp (c : ClassFile.Cond) (t : Nat) : op_T := fun j pc ls st fs m k => match st with
  | .inl b :: .inl a :: r => match cndE c a b with
    | true => fzN t fun p => k j p ls r fs m
    | false => fzN (Nat.add pc 3) fun p => k j p ls r fs m
  | _ => none
def op_ifnull (t : Nat) : op_T := fun j pc ls st fs m k => match st with
  | .inr (.inr none) :: r => fzN t fun p => k j p ls r fs m
  | .inr (.inr (some _)) :: r => fzN (Nat.add pc 3) fun p => k j p ls r fs m
  | _ => none
def op_ifnonnull (t : Nat) : op_T := fun j pc ls st fs m k => match st with
  | .inr (.inr none) :: r => fzN (Nat.add pc 3) fun p => k j p ls r fs m
  | .inr (.inr (some _)) :: r => fzN t fun p => k j p ls r fs m
  | _ => none
def op_switch (d : Nat) (ts : List Nat) (lo : Int) : op_T := fun j pc ls st fs m k => match st with
  | .inl a :: r => fzN (swE a lo d ts) fun p => k j p ls r fs m
  | _ => none
def op_getI (ci q : Nat) : op_T := fun j pc ls st fs m k => match m with
  | (B, n0, g, rows) => match st with
    | .inr (.inr (some c)) :: r => wCel B n0 rows c fun _ kd ln is _ => wBool (kdOk kd ln ci 0) (fz (nthO (Int.ofNat 0) (nthE is q)) fun x => fzN (Nat.add pc 3) fun p => k j p ls (.inl x :: r) fs (B, n0, g, rows))
    | _ => none
def op_getR (ci q : Nat) : op_T := fun j pc ls st fs m k => match m with
  | (B, n0, g, rows) => match st with
    | .inr (.inr (some c)) :: r => wCel B n0 rows c fun _ kd ln _ rs => wBool (kdOk kd ln ci 0) (ofz (nthO none (nthE rs q)) fun x => fzN (Nat.add pc 3) fun p => k j p ls (.inr (.inr x) :: r) fs (B, n0, g, rows))
    | _ => none
def op_putI (ci q : Nat) : op_T := fun j pc ls st fs m k => match m with
  | (B, n0, g, rows) => match st with
    | .inl v :: .inr (.inr (some c)) :: r => wCel B n0 rows c fun i kd ln is rs => wBool (kdOk kd ln ci 0) (setK is q v fun ys => setC rows i ((kd, ln), ys, rs) fun rows2 => fzN (Nat.add pc 3) fun p => k j p ls r fs (B, n0, g, rows2))
    | _ => none
def op_putZ (ci q : Nat) : op_T := fun j pc ls st fs m k => match m with
  | (B, n0, g, rows) => match st with
    | .inl v :: .inr (.inr (some c)) :: r => wBool (boolE v) (wCel B n0 rows c fun i kd ln is rs => wBool (kdOk kd ln ci 0) (setK is q v fun ys => setC rows i ((kd, ln), ys, rs) fun rows2 => fzN (Nat.add pc 3) fun p => k j p ls r fs (B, n0, g, rows2)))
    | _ => none
def op_putR (ci q : Nat) : op_T := fun j pc ls st fs m k => match m with
  | (B, n0, g, rows) => match st with
    | .inr (.inr v) :: .inr (.inr (some c)) :: r => wCel B n0 rows c fun i kd ln is rs => wBool (kdOk kd ln ci 0) (setK rs q v fun ys => setC rows i ((kd, ln), is, ys) fun rows2 => fzN (Nat.add pc 3) fun p => k j p ls r fs (B, n0, g, rows2))
    | _ => none
def op_ald (kd : Nat) : op_T := fun j pc ls st fs m k => match m with
  | (B, n0, g, rows) => match st with
    | .inl i :: .inr (.inr (some c)) :: r => wCel B n0 rows c fun _ kd2 ln is _ => wBool (Nat.beq kd2 kd) (wIdx i ln fun q => fz (nthO (Int.ofNat 0) (nthE is q)) fun x => fzN (Nat.add pc 1) fun p => k j p ls (.inl x :: r) fs (B, n0, g, rows))
    | _ => none
def op_ast (kd : Nat) (ch : Bool) : op_T := fun j pc ls st fs m k => match m with
  | (B, n0, g, rows) => match st with
    | .inl v :: .inl i :: .inr (.inr (some c)) :: r => wBool (chE ch v) (wCel B n0 rows c fun ix kd2 ln is rs => wBool (Nat.beq kd2 kd) (wIdx i ln fun q => setK is q v fun ys => setC rows ix ((kd2, ln), ys, rs) fun rows2 => fzN (Nat.add pc 1) fun p => k j p ls r fs (B, n0, g, rows2)))
    | _ => none
def op_aald  : op_T := fun j pc ls st fs m k => match m with
  | (B, n0, g, rows) => match st with
    | .inl i :: .inr (.inr (some c)) :: r => wCel B n0 rows c fun _ kd2 ln _ rs => wBool (rkE kd2) (wIdx i ln fun q => ofz (nthO none (nthE rs q)) fun x => fzN (Nat.add pc 1) fun p => k j p ls (.inr (.inr x) :: r) fs (B, n0, g, rows))
    | _ => none
def op_aast  : op_T := fun j pc ls st fs m k => match m with
  | (B, n0, g, rows) => match st with
    | .inr (.inr (some w)) :: .inl i :: .inr (.inr (some c)) :: r => wCel B n0 rows w fun _ kdw lnw _ _ => wCel B n0 rows c fun ix kd2 ln is rs => wBool (rkE kd2) (wBool (kdOk (Nat.add kdw 60) lnw kd2 0) (wIdx i ln fun q => setK rs q (some w) fun ys => setC rows ix ((kd2, ln), is, ys) fun rows2 => fzN (Nat.add pc 1) fun p => k j p ls r fs (B, n0, g, rows2)))
    | _ => none
def op_new (ci w : Nat) : op_T := fun j pc ls st fs m k => match m with
  | (B, n0, g, rows) => lfz (zrs (Int.ofNat 0) w) fun xs => lfz (zrs none w) fun ys => setC rows n0 ((ci, 0), xs, ys) fun rows2 => fzN (Nat.succ (Nat.add B n0)) fun a => fzN (Nat.succ n0) fun n2 => fzN (Nat.add g w) fun g2 => fzN (Nat.add pc 3) fun p => k j p ls (.inr (.inr (some a)) :: st) fs (B, n2, g2, rows2)
def op_newI (kd : Nat) : op_T := fun j pc ls st fs m k => match m with
  | (B, n0, g, rows) => match st with
    | .inl a :: r => wIdx a 1001 fun w => lfz (zrs (Int.ofNat 0) w) fun ws => setC rows n0 ((kd, w), ws, []) fun rows2 => fzN (Nat.succ (Nat.add B n0)) fun q => fzN (Nat.succ n0) fun n2 => fzN (Nat.add g w) fun g2 => fzN (Nat.add pc 2) fun p => k j p ls (.inr (.inr (some q)) :: r) fs (B, n2, g2, rows2)
    | _ => none
def op_newQ (kd : Nat) : op_T := fun j pc ls st fs m k => match m with
  | (B, n0, g, rows) => match st with
    | .inl a :: r => wIdx a 1001 fun w => lfz (zrs none w) fun ws => setC rows n0 ((kd, w), [], ws) fun rows2 => fzN (Nat.succ (Nat.add B n0)) fun q => fzN (Nat.succ n0) fun n2 => fzN (Nat.add g w) fun g2 => fzN (Nat.add pc 3) fun p => k j p ls (.inr (.inr (some q)) :: r) fs (B, n2, g2, rows2)
    | _ => none
def op_callV (j2 n rk ci : Nat) : op_T := fun j pc ls st fs m k => match m with
  | (B, n0, g, rows) => popE n [] st fun as r => match r with
    | .inr (.inr (some c)) :: r2 => wCel B n0 rows c fun _ kd ln _ _ => wBool (kdOk kd ln ci 0) (wBool (Nat.ble (mwds r2) 8) (wBool (all1 as) (fzN j2 fun j3 => lfz (pad (mxl j3) (.inr (.inr (some c)) :: as)) fun l2 => k j3 0 l2 [] ((j, pc, ls, r2, rk) :: fs) (B, n0, g, rows))))
    | _ => none
def op_callI (j2 n ci : Nat) : op_T := fun j pc ls st fs m k => match m with
  | (B, n0, g, rows) => popE n [] st fun as r => match r with
    | .inr (.inr (some c)) :: r2 => wCel B n0 rows c fun _ kd ln _ _ => wBool (kdOk kd ln ci 0) (wBool (Nat.ble (mwds r2) 8) (wBool (all1 as) (fzN j2 fun j3 => lfz (pad (mxl j3) (.inr (.inr (some c)) :: as)) fun l2 => k j3 0 l2 [] ((j, pc, ls, r2, 0) :: fs) (B, n0, g, rows))))
    | _ => none
def op_callS (j2 n rk : Nat) : op_T := fun j pc ls st fs m k => popE n [] st fun as r => wBool (Nat.ble (mwds r) 8) (wBool (okas j2 as) (fzN j2 fun j3 => lfz (pad (mxl j3) as) fun l2 => k j3 0 l2 [] ((j, pc, ls, r, rk) :: fs) m))
def op_obj  : op_T := fun j pc ls st fs m k => match st with
  | .inr (.inr (some _)) :: r => wBool (Nat.ble (mwds r) 8) (fzN (Nat.add pc 3) fun p => k j p ls r fs m)
  | _ => none
def op_mm (f : Int → Int → Int) : op_T := fun j pc ls st fs m k => match st with
  | .inl b :: .inl a :: r => wBool (Nat.ble (mwds r) 8) (fz (f a b) fun x => fzN (Nat.add pc 3) fun p => k j p ls (.inl x :: r) fs m)
  | _ => none
def op_ret  : op_T := fun j pc ls st fs m k => match st with
  | [] => wBool (Nat.beq (mrt j) 0) (match fs with
    | (j2, p2, l2, r2, 0) :: f2 => fzN (Nat.add p2 3) fun p => k j2 p l2 r2 f2 m
    | _ => none)
  | _ :: _ => none
def op_iret  : op_T := fun j pc ls st fs m k => match st with
  | [.inl a] => match fs with
    | (_, _, _, _, 0) :: _ => none
    | (_, _, _, _, 3) :: _ => none
    | (_, _, _, _, 4) :: _ => none
    | (j2, p2, l2, r2, _) :: f2 => wBool (riE (mrt j) a) (fzN (Nat.add p2 3) fun p => k j2 p l2 (.inl a :: r2) f2 m)
    | [] => none
  | _ => none
def op_lret  : op_T := fun j pc ls st fs m k => match st with
  | [.inr (.inl a)] => wBool (Nat.beq (mrt j) 4) (match fs with
    | (j2, p2, l2, r2, 4) :: f2 => fzN (Nat.add p2 3) fun p => k j2 p l2 (.inr (.inl a) :: r2) f2 m
    | _ => none)
  | _ => none
def op_aret  : op_T := fun j pc ls st fs m k => match st with
  | [.inr (.inr a)] => wBool (Nat.beq (mrt j) 3) (match fs with
    | (j2, p2, l2, r2, 3) :: f2 => fzN (Nat.add p2 3) fun p => k j2 p l2 (.inr (.inr a) :: r2) f2 m
    | _ => none)
  | _ => none
end
end
section
/-! What the evaluator says holds -/
noncomputable section
set_option maxHeartbeats 1000000 in
theorem s_push {σ : ms_T} {Q : mq_T} {cf : cf_T} {k : kc_T} (hK : HK σ Q cf k) {j pc : Nat} {ls : ml_T} {st : List mv_T} {fs : List fr_T} {m : mm_T} {v : Int} {n : Nat} (h : op_push v n j pc ls st fs m k = some cf) : At j (pc + n) ls (vI v :: st) (sg σ m) (CQ fs Q) := by
  unfold op_push at h
  simp only [fz_eq, fzN_eq, lfz_eq] at h
  exact hK _ _ _ _ _ _ h

set_option maxHeartbeats 1000000 in
theorem s_pushL {σ : ms_T} {Q : mq_T} {cf : cf_T} {k : kc_T} (hK : HK σ Q cf k) {j pc : Nat} {ls : ml_T} {st : List mv_T} {fs : List fr_T} {m : mm_T} {v : Int} {n : Nat} (h : op_pushL v n j pc ls st fs m k = some cf) : At j (pc + n) ls (vL v :: st) (sg σ m) (CQ fs Q) := by
  unfold op_pushL at h
  simp only [fz_eq, fzN_eq, lfz_eq] at h
  exact hK _ _ _ _ _ _ h

set_option maxHeartbeats 1000000 in
theorem s_null {σ : ms_T} {Q : mq_T} {cf : cf_T} {k : kc_T} (hK : HK σ Q cf k) {j pc : Nat} {ls : ml_T} {st : List mv_T} {fs : List fr_T} {m : mm_T} {n : Nat} (h : op_null n j pc ls st fs m k = some cf) : At j (pc + n) ls (vR none :: st) (sg σ m) (CQ fs Q) := by
  unfold op_null at h
  simp only [fz_eq, fzN_eq, lfz_eq] at h
  exact hK _ _ _ _ _ _ h

set_option maxHeartbeats 1000000 in
theorem s_loadI {σ : ms_T} {Q : mq_T} {cf : cf_T} {k : kc_T} (hK : HK σ Q cf k) {j pc : Nat} {ls : ml_T} {st : List mv_T} {fs : List fr_T} {m : mm_T} {q n : Nat} (h : op_loadI q n j pc ls st fs m k = some cf) : ldI ls q fun a => At j (pc + n) ls (vI a :: st) (sg σ m) (CQ fs Q) := by
  unfold op_loadI at h
  split at h
  · next a e =>
    rw [nthE_eq] at e
    refine ldI_mk e ?_
    simp only [fz_eq, fzN_eq, lfz_eq] at h
    exact hK _ _ _ _ _ _ h
  · cases h

set_option maxHeartbeats 1000000 in
theorem s_loadL {σ : ms_T} {Q : mq_T} {cf : cf_T} {k : kc_T} (hK : HK σ Q cf k) {j pc : Nat} {ls : ml_T} {st : List mv_T} {fs : List fr_T} {m : mm_T} {q n : Nat} (h : op_loadL q n j pc ls st fs m k = some cf) : ldL ls q fun a => At j (pc + n) ls (vL a :: st) (sg σ m) (CQ fs Q) := by
  unfold op_loadL at h
  split at h
  · next a e =>
    rw [nthE_eq] at e
    refine ldL_mk e ?_
    simp only [fz_eq, fzN_eq, lfz_eq] at h
    exact hK _ _ _ _ _ _ h
  · cases h

set_option maxHeartbeats 1000000 in
theorem s_loadR {σ : ms_T} {Q : mq_T} {cf : cf_T} {k : kc_T} (hK : HK σ Q cf k) {j pc : Nat} {ls : ml_T} {st : List mv_T} {fs : List fr_T} {m : mm_T} {q n : Nat} (h : op_loadR q n j pc ls st fs m k = some cf) : ldR ls q fun a => At j (pc + n) ls (vR a :: st) (sg σ m) (CQ fs Q) := by
  unfold op_loadR at h
  split at h
  · next a e =>
    rw [nthE_eq] at e
    refine ldR_mk e ?_
    simp only [fz_eq, fzN_eq, lfz_eq] at h
    exact hK _ _ _ _ _ _ h
  · cases h

set_option maxHeartbeats 1000000 in
theorem s_storeI {σ : ms_T} {Q : mq_T} {cf : cf_T} {k : kc_T} (hK : HK σ Q cf k) {j pc : Nat} {ls : ml_T} {st : List mv_T} {fs : List fr_T} {m : mm_T} {q n : Nat} (h : op_storeI q n j pc ls st fs m k = some cf) : pI st fun a r => gd (Nat.blt q ls.length && nol ls q) (At j (pc + n) (put ls q (some (vI a))) r (sg σ m) (CQ fs Q)) := by
  unfold op_storeI at h
  split at h
  · next a r =>
    obtain ⟨h1, h⟩ := wBool_ok h
    obtain ⟨h2, h⟩ := setK_ok h
    rw [nolE_eq] at h1
    refine pI_mk (gd_mk (and_mk (blt_mk h2) h1) ?_)
    simp only [fz_eq, fzN_eq, lfz_eq] at h
    exact hK _ _ _ _ _ _ h
  · cases h

set_option maxHeartbeats 1000000 in
theorem s_storeR {σ : ms_T} {Q : mq_T} {cf : cf_T} {k : kc_T} (hK : HK σ Q cf k) {j pc : Nat} {ls : ml_T} {st : List mv_T} {fs : List fr_T} {m : mm_T} {q n : Nat} (h : op_storeR q n j pc ls st fs m k = some cf) : pR st fun a r => gd (Nat.blt q ls.length && nol ls q) (At j (pc + n) (put ls q (some (vR a))) r (sg σ m) (CQ fs Q)) := by
  unfold op_storeR at h
  split at h
  · next a r =>
    obtain ⟨h1, h⟩ := wBool_ok h
    obtain ⟨h2, h⟩ := setK_ok h
    rw [nolE_eq] at h1
    refine pR_mk (gd_mk (and_mk (blt_mk h2) h1) ?_)
    simp only [fz_eq, fzN_eq, lfz_eq] at h
    exact hK _ _ _ _ _ _ h
  · cases h

set_option maxHeartbeats 1000000 in
theorem s_storeL {σ : ms_T} {Q : mq_T} {cf : cf_T} {k : kc_T} (hK : HK σ Q cf k) {j pc : Nat} {ls : ml_T} {st : List mv_T} {fs : List fr_T} {m : mm_T} {q n : Nat} (h : op_storeL q n j pc ls st fs m k = some cf) : pL st fun a r => gd (Nat.blt (q + 1) ls.length && nol ls q) (At j (pc + n) (put (put ls q (some (vL a))) (q + 1) none) r (sg σ m) (CQ fs Q)) := by
  unfold op_storeL at h
  split at h
  · next a r =>
    obtain ⟨h1, h⟩ := wBool_ok h
    obtain ⟨h2, h⟩ := setK_ok h
    obtain ⟨h3, h⟩ := setK_ok h
    rw [putE_len] at h3
    rw [nolE_eq] at h1
    refine pL_mk (gd_mk (and_mk (blt_mk h3) h1) ?_)
    simp only [fz_eq, fzN_eq, lfz_eq] at h
    exact hK _ _ _ _ _ _ h
  · cases h

set_option maxHeartbeats 1000000 in
theorem s_iinc {σ : ms_T} {Q : mq_T} {cf : cf_T} {k : kc_T} (hK : HK σ Q cf k) {j pc : Nat} {ls : ml_T} {st : List mv_T} {fs : List fr_T} {m : mm_T} {q : Nat} {v : Int} (h : op_iinc q v j pc ls st fs m k = some cf) : ldI ls q fun a => gd (Nat.blt q ls.length && nol ls q) (At j (pc + 3) (put ls q (some (vI (wr (a + v))))) st (sg σ m) (CQ fs Q)) := by
  unfold op_iinc at h
  split at h
  · next a e =>
    rw [nthE_eq] at e
    obtain ⟨h1, h⟩ := wBool_ok h
    rw [fz_eq] at h
    obtain ⟨h2, h⟩ := setK_ok h
    rw [nolE_eq] at h1
    refine ldI_mk e (gd_mk (and_mk (blt_mk h2) h1) ?_)
    simp only [fz_eq, fzN_eq, lfz_eq] at h
    exact hK _ _ _ _ _ _ h
  · cases h

set_option maxHeartbeats 1000000 in
theorem s_bin {σ : ms_T} {Q : mq_T} {cf : cf_T} {k : kc_T} (hK : HK σ Q cf k) {j pc : Nat} {ls : ml_T} {st : List mv_T} {fs : List fr_T} {m : mm_T} {f : Int → Int → Int} (h : op_bin f j pc ls st fs m k = some cf) : pI st fun b r => pI r fun a r => At j (pc + 1) ls (vI (f a b) :: r) (sg σ m) (CQ fs Q) := by
  unfold op_bin at h
  split at h
  · next b a r =>
    simp only [fz_eq, fzN_eq, lfz_eq] at h
    exact hK _ _ _ _ _ _ h
  · cases h

set_option maxHeartbeats 1000000 in
theorem s_binL {σ : ms_T} {Q : mq_T} {cf : cf_T} {k : kc_T} (hK : HK σ Q cf k) {j pc : Nat} {ls : ml_T} {st : List mv_T} {fs : List fr_T} {m : mm_T} {f : Int → Int → Int} (h : op_binL f j pc ls st fs m k = some cf) : pL st fun b r => pL r fun a r => At j (pc + 1) ls (vL (f a b) :: r) (sg σ m) (CQ fs Q) := by
  unfold op_binL at h
  split at h
  · next b a r =>
    simp only [fz_eq, fzN_eq, lfz_eq] at h
    exact hK _ _ _ _ _ _ h
  · cases h

set_option maxHeartbeats 1000000 in
theorem s_binLI {σ : ms_T} {Q : mq_T} {cf : cf_T} {k : kc_T} (hK : HK σ Q cf k) {j pc : Nat} {ls : ml_T} {st : List mv_T} {fs : List fr_T} {m : mm_T} {f : Int → Int → Int} (h : op_binLI f j pc ls st fs m k = some cf) : pI st fun b r => pL r fun a r => At j (pc + 1) ls (vL (f a b) :: r) (sg σ m) (CQ fs Q) := by
  unfold op_binLI at h
  split at h
  · next b a r =>
    simp only [fz_eq, fzN_eq, lfz_eq] at h
    exact hK _ _ _ _ _ _ h
  · cases h

set_option maxHeartbeats 1000000 in
theorem s_cmp {σ : ms_T} {Q : mq_T} {cf : cf_T} {k : kc_T} (hK : HK σ Q cf k) {j pc : Nat} {ls : ml_T} {st : List mv_T} {fs : List fr_T} {m : mm_T} {f : Int → Int → Int} (h : op_cmp f j pc ls st fs m k = some cf) : pL st fun b r => pL r fun a r => At j (pc + 1) ls (vI (f a b) :: r) (sg σ m) (CQ fs Q) := by
  unfold op_cmp at h
  split at h
  · next b a r =>
    simp only [fz_eq, fzN_eq, lfz_eq] at h
    exact hK _ _ _ _ _ _ h
  · cases h

set_option maxHeartbeats 1000000 in
theorem s_div {σ : ms_T} {Q : mq_T} {cf : cf_T} {k : kc_T} (hK : HK σ Q cf k) {j pc : Nat} {ls : ml_T} {st : List mv_T} {fs : List fr_T} {m : mm_T} {f : Int → Int → Int} (h : op_div f j pc ls st fs m k = some cf) : pI st fun b r => pI r fun a r => ¬ b = 0 ∧ At j (pc + 1) ls (vI (f a b) :: r) (sg σ m) (CQ fs Q) := by
  unfold op_div at h
  split at h
  · next b a r =>
    obtain ⟨h1, h⟩ := wBool_ok h
    rw [notB_eq, beqI_ok] at h1
    simp only [fz_eq, fzN_eq, lfz_eq] at h
    exact ⟨h1, hK _ _ _ _ _ _ h⟩
  · cases h

set_option maxHeartbeats 1000000 in
theorem s_divL {σ : ms_T} {Q : mq_T} {cf : cf_T} {k : kc_T} (hK : HK σ Q cf k) {j pc : Nat} {ls : ml_T} {st : List mv_T} {fs : List fr_T} {m : mm_T} {f : Int → Int → Int} (h : op_divL f j pc ls st fs m k = some cf) : pL st fun b r => pL r fun a r => ¬ b = 0 ∧ At j (pc + 1) ls (vL (f a b) :: r) (sg σ m) (CQ fs Q) := by
  unfold op_divL at h
  split at h
  · next b a r =>
    obtain ⟨h1, h⟩ := wBool_ok h
    rw [notB_eq, beqI_ok] at h1
    simp only [fz_eq, fzN_eq, lfz_eq] at h
    exact ⟨h1, hK _ _ _ _ _ _ h⟩
  · cases h

set_option maxHeartbeats 1000000 in
theorem s_i2l {σ : ms_T} {Q : mq_T} {cf : cf_T} {k : kc_T} (hK : HK σ Q cf k) {j pc : Nat} {ls : ml_T} {st : List mv_T} {fs : List fr_T} {m : mm_T}  (h : op_i2l  j pc ls st fs m k = some cf) : pI st fun a r => At j (pc + 1) ls (vL a :: r) (sg σ m) (CQ fs Q) := by
  unfold op_i2l at h
  split at h
  · simp only [fz_eq, fzN_eq, lfz_eq] at h
    exact hK _ _ _ _ _ _ h
  · cases h

set_option maxHeartbeats 1000000 in
theorem s_l2i {σ : ms_T} {Q : mq_T} {cf : cf_T} {k : kc_T} (hK : HK σ Q cf k) {j pc : Nat} {ls : ml_T} {st : List mv_T} {fs : List fr_T} {m : mm_T}  (h : op_l2i  j pc ls st fs m k = some cf) : pL st fun a r => At j (pc + 1) ls (vI (wr a) :: r) (sg σ m) (CQ fs Q) := by
  unfold op_l2i at h
  split at h
  · simp only [fz_eq, fzN_eq, lfz_eq] at h
    exact hK _ _ _ _ _ _ h
  · cases h

set_option maxHeartbeats 1000000 in
theorem s_i2c {σ : ms_T} {Q : mq_T} {cf : cf_T} {k : kc_T} (hK : HK σ Q cf k) {j pc : Nat} {ls : ml_T} {st : List mv_T} {fs : List fr_T} {m : mm_T}  (h : op_i2c  j pc ls st fs m k = some cf) : pI st fun a r => 0 ≤ a ∧ a < 65536 ∧ At j (pc + 1) ls (vI a :: r) (sg σ m) (CQ fs Q) := by
  unfold op_i2c at h
  split at h
  · next a r =>
    obtain ⟨h1, h⟩ := wBool_ok h
    obtain ⟨h2, h⟩ := wBool_ok h
    rw [notB_eq, bltI_ok] at h1
    rw [bltI_ok] at h2
    simp only [fz_eq, fzN_eq, lfz_eq] at h
    have h1 : ¬ a < 0 := h1
    exact ⟨by omega, h2, hK _ _ _ _ _ _ h⟩
  · cases h

set_option maxHeartbeats 1000000 in
theorem s_dup {σ : ms_T} {Q : mq_T} {cf : cf_T} {k : kc_T} (hK : HK σ Q cf k) {j pc : Nat} {ls : ml_T} {st : List mv_T} {fs : List fr_T} {m : mm_T}  (h : op_dup  j pc ls st fs m k = some cf) : p1 st fun a r => At j (pc + 1) ls (a :: a :: r) (sg σ m) (CQ fs Q) := by
  unfold op_dup at h
  split at h
  · obtain ⟨h1, h⟩ := wBool_ok h
    simp only [fz_eq, fzN_eq, lfz_eq] at h
    exact p1_mk (isW_ok h1) (hK _ _ _ _ _ _ h)
  · cases h

set_option maxHeartbeats 1000000 in
theorem s_dup2 {σ : ms_T} {Q : mq_T} {cf : cf_T} {k : kc_T} (hK : HK σ Q cf k) {j pc : Nat} {ls : ml_T} {st : List mv_T} {fs : List fr_T} {m : mm_T}  (h : op_dup2  j pc ls st fs m k = some cf) : p1 st fun b r => p1 r fun a r => At j (pc + 1) ls (b :: a :: b :: a :: r) (sg σ m) (CQ fs Q) := by
  unfold op_dup2 at h
  split at h
  · obtain ⟨h1, h⟩ := wBool_ok h
    obtain ⟨h2, h⟩ := wBool_ok h
    simp only [fz_eq, fzN_eq, lfz_eq] at h
    exact p1_mk (isW_ok h1) (p1_mk (isW_ok h2) (hK _ _ _ _ _ _ h))
  · cases h

set_option maxHeartbeats 1000000 in
theorem s_pop {σ : ms_T} {Q : mq_T} {cf : cf_T} {k : kc_T} (hK : HK σ Q cf k) {j pc : Nat} {ls : ml_T} {st : List mv_T} {fs : List fr_T} {m : mm_T}  (h : op_pop  j pc ls st fs m k = some cf) : p1 st fun _ r => At j (pc + 1) ls r (sg σ m) (CQ fs Q) := by
  unfold op_pop at h
  split at h
  · obtain ⟨h1, h⟩ := wBool_ok h
    simp only [fz_eq, fzN_eq, lfz_eq] at h
    exact p1_mk (isW_ok h1) (hK _ _ _ _ _ _ h)
  · cases h

set_option maxHeartbeats 1000000 in
theorem s_goto {σ : ms_T} {Q : mq_T} {cf : cf_T} {k : kc_T} (hK : HK σ Q cf k) {j pc : Nat} {ls : ml_T} {st : List mv_T} {fs : List fr_T} {m : mm_T} {t : Nat} (h : op_goto t j pc ls st fs m k = some cf) : At j t ls st (sg σ m) (CQ fs Q) := by
  unfold op_goto at h
  simp only [fz_eq, fzN_eq, lfz_eq] at h
  exact hK _ _ _ _ _ _ h

set_option maxHeartbeats 1000000 in
theorem s_ifc {σ : ms_T} {Q : mq_T} {cf : cf_T} {k : kc_T} (hK : HK σ Q cf k) {j pc : Nat} {ls : ml_T} {st : List mv_T} {fs : List fr_T} {m : mm_T} {c : ClassFile.Cond} {t : Nat} (h : op_ifc c t j pc ls st fs m k = some cf) : pI st fun a r => (icnd c a 0 → At j t ls r (sg σ m) (CQ fs Q)) ∧ (¬ icnd c a 0 → At j (pc + 3) ls r (sg σ m) (CQ fs Q)) := by
  unfold op_ifc at h
  split at h
  · next a r =>
    split at h
    · next e =>
      simp only [fz_eq, fzN_eq, lfz_eq] at h
      exact ⟨fun _ => hK _ _ _ _ _ _ h, fun z => absurd (cndE_ok.mp e) z⟩
    · next e =>
      simp only [fz_eq, fzN_eq, lfz_eq] at h
      exact ⟨fun z => Bool.noConfusion (e.symm.trans (cndE_ok.mpr z)), fun _ => hK _ _ _ _ _ _ h⟩
  · cases h
end
end
section
/-! What the evaluator says holds -/
noncomputable section
set_option maxHeartbeats 1000000 in
theorem s_icmp {σ : ms_T} {Q : mq_T} {cf : cf_T} {k : kc_T} (hK : HK σ Q cf k) {j pc : Nat} {ls : ml_T} {st : List mv_T} {fs : List fr_T} {m : mm_T} {c : ClassFile.Cond} {t : Nat} (h : op_icmp c t j pc ls st fs m k = some cf) : pI st fun b r => pI r fun a r => (icnd c a b → At j t ls r (sg σ m) (CQ fs Q)) ∧ (¬ icnd c a b → At j (pc + 3) ls r (sg σ m) (CQ fs Q)) := by
  unfold op_icmp at h
  split at h
  · next b a r =>
    split at h
    · next e =>
      simp only [fz_eq, fzN_eq, lfz_eq] at h
      exact ⟨fun _ => hK _ _ _ _ _ _ h, fun z => absurd (cndE_ok.mp e) z⟩
    · next e =>
      simp only [fz_eq, fzN_eq, lfz_eq] at h
      exact ⟨fun z => Bool.noConfusion (e.symm.trans (cndE_ok.mpr z)), fun _ => hK _ _ _ _ _ _ h⟩
  · cases h

set_option maxHeartbeats 1000000 in
theorem s_ifnull {σ : ms_T} {Q : mq_T} {cf : cf_T} {k : kc_T} (hK : HK σ Q cf k) {j pc : Nat} {ls : ml_T} {st : List mv_T} {fs : List fr_T} {m : mm_T} {t : Nat} (h : op_ifnull t j pc ls st fs m k = some cf) : pR st fun a r => (a = none → At j t ls r (sg σ m) (CQ fs Q)) ∧ (¬ a = none → At j (pc + 3) ls r (sg σ m) (CQ fs Q)) := by
  unfold op_ifnull at h
  split at h
  · simp only [fz_eq, fzN_eq, lfz_eq] at h
    exact ⟨fun _ => hK _ _ _ _ _ _ h, fun z => absurd rfl z⟩
  · simp only [fz_eq, fzN_eq, lfz_eq] at h
    exact ⟨fun z => (by cases z), fun _ => hK _ _ _ _ _ _ h⟩
  · cases h

set_option maxHeartbeats 1000000 in
theorem s_ifnonnull {σ : ms_T} {Q : mq_T} {cf : cf_T} {k : kc_T} (hK : HK σ Q cf k) {j pc : Nat} {ls : ml_T} {st : List mv_T} {fs : List fr_T} {m : mm_T} {t : Nat} (h : op_ifnonnull t j pc ls st fs m k = some cf) : pR st fun a r => (¬ a = none → At j t ls r (sg σ m) (CQ fs Q)) ∧ (a = none → At j (pc + 3) ls r (sg σ m) (CQ fs Q)) := by
  unfold op_ifnonnull at h
  split at h
  · simp only [fz_eq, fzN_eq, lfz_eq] at h
    exact ⟨fun z => absurd rfl z, fun _ => hK _ _ _ _ _ _ h⟩
  · simp only [fz_eq, fzN_eq, lfz_eq] at h
    exact ⟨fun _ => hK _ _ _ _ _ _ h, fun z => (by cases z)⟩
  · cases h

set_option maxHeartbeats 1000000 in
theorem s_switch {σ : ms_T} {Q : mq_T} {cf : cf_T} {k : kc_T} (hK : HK σ Q cf k) {j pc : Nat} {ls : ml_T} {st : List mv_T} {fs : List fr_T} {m : mm_T} {d : Nat} {ts : List Nat} {lo : Int} (h : op_switch d ts lo j pc ls st fs m k = some cf) : pI st fun a r => (a < lo ∨ lo + ts.length ≤ a → At j d ls r (sg σ m) (CQ fs Q)) ∧ swt a (fun t => At j t ls r (sg σ m) (CQ fs Q)) lo ts := by
  unfold op_switch at h
  split at h
  · next a r =>
    simp only [fz_eq, fzN_eq, lfz_eq] at h
    exact swE_ok (K := fun t => At j t ls r (sg σ m) (CQ fs Q)) (hK _ _ _ _ _ _ h)
  · cases h

set_option maxHeartbeats 1000000 in
theorem s_getI {σ : ms_T} {Q : mq_T} {cf : cf_T} {k : kc_T} (hK : HK σ Q cf k) {j pc : Nat} {ls : ml_T} {st : List mv_T} {fs : List fr_T} {m : mm_T} {ci q : Nat} (h : op_getI ci q j pc ls st fs m k = some cf) : pR st fun o r => isS o fun c => gs (sg σ m) c = (ci, 0) ∧ At j (pc + 3) ls (vI (gi (sg σ m) c q) :: r) (sg σ m) (CQ fs Q) := by
  unfold op_getI at h
  obtain ⟨B, n0, g, rows⟩ := m
  dsimp only at h
  split at h
  · next c r =>
    obtain ⟨h1, h⟩ := wCel_ok (g := g) h
    obtain ⟨h2, h⟩ := wBool_ok h
    simp only [fz_eq, fzN_eq, lfz_eq] at h
    refine pR_mk ⟨(gs_e h1).trans (kdOk_ok h2), ?_⟩
    rw [gi_sg h1]
    exact hK _ _ _ _ _ _ h
  · cases h

set_option maxHeartbeats 1000000 in
theorem s_getR {σ : ms_T} {Q : mq_T} {cf : cf_T} {k : kc_T} (hK : HK σ Q cf k) {j pc : Nat} {ls : ml_T} {st : List mv_T} {fs : List fr_T} {m : mm_T} {ci q : Nat} (h : op_getR ci q j pc ls st fs m k = some cf) : pR st fun o r => isS o fun c => gs (sg σ m) c = (ci, 0) ∧ At j (pc + 3) ls (vR (gr (sg σ m) c q) :: r) (sg σ m) (CQ fs Q) := by
  unfold op_getR at h
  obtain ⟨B, n0, g, rows⟩ := m
  dsimp only at h
  split at h
  · next c r =>
    obtain ⟨h1, h⟩ := wCel_ok (g := g) h
    obtain ⟨h2, h⟩ := wBool_ok h
    simp only [ofz_eq, fzN_eq] at h
    refine pR_mk ⟨(gs_e h1).trans (kdOk_ok h2), ?_⟩
    rw [gr_sg h1]
    exact hK _ _ _ _ _ _ h
  · cases h

set_option maxHeartbeats 1000000 in
theorem s_putI {σ : ms_T} {Q : mq_T} {cf : cf_T} {k : kc_T} (hK : HK σ Q cf k) {j pc : Nat} {ls : ml_T} {st : List mv_T} {fs : List fr_T} {m : mm_T} {ci q : Nat} (h : op_putI ci q j pc ls st fs m k = some cf) : pI st fun v r => pR r fun o r => isS o fun c => gs (sg σ m) c = (ci, 0) ∧ At j (pc + 3) ls r (sI (sg σ m) c q v) (CQ fs Q) := by
  unfold op_putI at h
  obtain ⟨B, n0, g, rows⟩ := m
  dsimp only at h
  split at h
  · next v c r =>
    obtain ⟨h1, h⟩ := wCel_ok (g := g) h
    obtain ⟨h2, h⟩ := wBool_ok h
    obtain ⟨rows2, e, h⟩ := sg_I (σ := σ) h1 h
    rw [fzN_eq] at h
    refine pI_mk (pR_mk ⟨(gs_e h1).trans (kdOk_ok h2), ?_⟩)
    rw [← e]
    exact hK _ _ _ _ _ _ h
  · cases h

set_option maxHeartbeats 1000000 in
theorem s_putZ {σ : ms_T} {Q : mq_T} {cf : cf_T} {k : kc_T} (hK : HK σ Q cf k) {j pc : Nat} {ls : ml_T} {st : List mv_T} {fs : List fr_T} {m : mm_T} {ci q : Nat} (h : op_putZ ci q j pc ls st fs m k = some cf) : pI st fun v r => pR r fun o r => isS o fun c => gs (sg σ m) c = (ci, 0) ∧ (v = 0 ∨ v = 1) ∧ At j (pc + 3) ls r (sI (sg σ m) c q v) (CQ fs Q) := by
  unfold op_putZ at h
  obtain ⟨B, n0, g, rows⟩ := m
  dsimp only at h
  split at h
  · next v c r =>
    obtain ⟨hb, h⟩ := wBool_ok h
    obtain ⟨h1, h⟩ := wCel_ok (g := g) h
    obtain ⟨h2, h⟩ := wBool_ok h
    obtain ⟨rows2, e, h⟩ := sg_I (σ := σ) h1 h
    rw [fzN_eq] at h
    refine pI_mk (pR_mk ⟨(gs_e h1).trans (kdOk_ok h2), boolE_ok hb, ?_⟩)
    rw [← e]
    exact hK _ _ _ _ _ _ h
  · cases h

set_option maxHeartbeats 1000000 in
theorem s_putR {σ : ms_T} {Q : mq_T} {cf : cf_T} {k : kc_T} (hK : HK σ Q cf k) {j pc : Nat} {ls : ml_T} {st : List mv_T} {fs : List fr_T} {m : mm_T} {ci q : Nat} (h : op_putR ci q j pc ls st fs m k = some cf) : pR st fun v r => pR r fun o r => isS o fun c => gs (sg σ m) c = (ci, 0) ∧ At j (pc + 3) ls r (sR (sg σ m) c q v) (CQ fs Q) := by
  unfold op_putR at h
  obtain ⟨B, n0, g, rows⟩ := m
  dsimp only at h
  split at h
  · next v c r =>
    obtain ⟨h1, h⟩ := wCel_ok (g := g) h
    obtain ⟨h2, h⟩ := wBool_ok h
    obtain ⟨rows2, e, h⟩ := sg_R (σ := σ) h1 h
    rw [fzN_eq] at h
    refine pR_mk (pR_mk ⟨(gs_e h1).trans (kdOk_ok h2), ?_⟩)
    rw [← e]
    exact hK _ _ _ _ _ _ h
  · cases h

set_option maxHeartbeats 1000000 in
theorem s_ald {σ : ms_T} {Q : mq_T} {cf : cf_T} {k : kc_T} (hK : HK σ Q cf k) {j pc : Nat} {ls : ml_T} {st : List mv_T} {fs : List fr_T} {m : mm_T} {kd : Nat} (h : op_ald kd j pc ls st fs m k = some cf) : pI st fun i r => pR r fun o r => okA (sg σ m) o kd i fun c => At j (pc + 1) ls (vI (gi (sg σ m) c i.toNat) :: r) (sg σ m) (CQ fs Q) := by
  unfold op_ald at h
  obtain ⟨B, n0, g, rows⟩ := m
  dsimp only at h
  split at h
  · next i c r =>
    obtain ⟨h1, h⟩ := wCel_ok (g := g) h
    obtain ⟨h2, h⟩ := wBool_ok h
    obtain ⟨h3, h4, h⟩ := wIdx_ok h
    simp only [fz_eq, fzN_eq, lfz_eq] at h
    refine pI_mk (pR_mk ⟨?_, h3, ?_, ?_⟩)
    · rw [gs_e h1]; exact Nat.eq_of_beq_eq_true h2
    · rw [gs_e h1]; exact h4
    · dsimp only; rw [gi_sg h1]; exact hK _ _ _ _ _ _ h
  · cases h

set_option maxHeartbeats 1000000 in
theorem s_ast {σ : ms_T} {Q : mq_T} {cf : cf_T} {k : kc_T} (hK : HK σ Q cf k) {j pc : Nat} {ls : ml_T} {st : List mv_T} {fs : List fr_T} {m : mm_T} {kd : Nat} {ch : Bool} (h : op_ast kd ch j pc ls st fs m k = some cf) : pI st fun v r => pI r fun i r => pR r fun o r => okA (sg σ m) o kd i fun c => (ch = true → 0 ≤ v ∧ v < 65536) ∧ At j (pc + 1) ls r (sI (sg σ m) c i.toNat v) (CQ fs Q) := by
  unfold op_ast at h
  obtain ⟨B, n0, g, rows⟩ := m
  dsimp only at h
  split at h
  · next v i c r =>
    obtain ⟨h0, h⟩ := wBool_ok h
    obtain ⟨h1, h⟩ := wCel_ok (g := g) h
    obtain ⟨h2, h⟩ := wBool_ok h
    obtain ⟨h3, h4, h⟩ := wIdx_ok h
    obtain ⟨rows2, e, h⟩ := sg_I (σ := σ) h1 h
    rw [fzN_eq] at h
    refine pI_mk (pI_mk (pR_mk ⟨?_, h3, ?_, chE_ok h0, ?_⟩))
    · rw [gs_e h1]; exact Nat.eq_of_beq_eq_true h2
    · rw [gs_e h1]; exact h4
    · rw [← e]; exact hK _ _ _ _ _ _ h
  · cases h

set_option maxHeartbeats 1000000 in
theorem s_aald {σ : ms_T} {Q : mq_T} {cf : cf_T} {k : kc_T} (hK : HK σ Q cf k) {j pc : Nat} {ls : ml_T} {st : List mv_T} {fs : List fr_T} {m : mm_T}  (h : op_aald  j pc ls st fs m k = some cf) : pI st fun i r => pR r fun o r => okQ (sg σ m) o i fun c => At j (pc + 1) ls (vR (gr (sg σ m) c i.toNat) :: r) (sg σ m) (CQ fs Q) := by
  unfold op_aald at h
  obtain ⟨B, n0, g, rows⟩ := m
  dsimp only at h
  split at h
  · next i c r =>
    obtain ⟨h1, h⟩ := wCel_ok (g := g) h
    obtain ⟨h2, h⟩ := wBool_ok h
    obtain ⟨h3, h4, h⟩ := wIdx_ok h
    simp only [ofz_eq, fzN_eq] at h
    refine pI_mk (pR_mk ⟨?_, ?_, h3, ?_, ?_⟩)
    · rw [gs_e h1]; exact (rkE_ok h2).1
    · rw [gs_e h1]; exact (rkE_ok h2).2
    · rw [gs_e h1]; exact h4
    · dsimp only; rw [gr_sg h1]; exact hK _ _ _ _ _ _ h
  · cases h

set_option maxHeartbeats 1000000 in
theorem s_aast {σ : ms_T} {Q : mq_T} {cf : cf_T} {k : kc_T} (hK : HK σ Q cf k) {j pc : Nat} {ls : ml_T} {st : List mv_T} {fs : List fr_T} {m : mm_T}  (h : op_aast  j pc ls st fs m k = some cf) : pR st fun v r => pI r fun i r => pR r fun o r => okQ (sg σ m) o i fun c => (isS v fun w => (gs (sg σ m) w).1 + 60 = (gs (sg σ m) c).1 ∧ (gs (sg σ m) w).2 = 0) ∧ At j (pc + 1) ls r (sR (sg σ m) c i.toNat v) (CQ fs Q) := by
  unfold op_aast at h
  obtain ⟨B, n0, g, rows⟩ := m
  dsimp only at h
  split at h
  · next w i c r =>
    obtain ⟨hw, h⟩ := wCel_ok (g := g) h
    obtain ⟨h1, h⟩ := wCel_ok (g := g) h
    obtain ⟨h2, h⟩ := wBool_ok h
    obtain ⟨h5, h⟩ := wBool_ok h
    obtain ⟨h3, h4, h⟩ := wIdx_ok h
    obtain ⟨rows2, e, h⟩ := sg_R (σ := σ) h1 h
    rw [fzN_eq] at h
    have h6 := kdOk_ok h5
    refine pR_mk (pI_mk (pR_mk ⟨?_, ?_, h3, ?_, ⟨?_, ?_⟩, ?_⟩))
    · rw [gs_e h1]; exact (rkE_ok h2).1
    · rw [gs_e h1]; exact (rkE_ok h2).2
    · rw [gs_e h1]; exact h4
    · rw [gs_e hw, gs_e h1]; exact congrArg Prod.fst h6
    · rw [gs_e hw]; exact congrArg Prod.snd h6
    · rw [← e]; exact hK _ _ _ _ _ _ h
  · cases h

set_option maxHeartbeats 1000000 in
theorem s_new {σ : ms_T} {Q : mq_T} {cf : cf_T} {k : kc_T} (hK : HK σ Q cf k) {j pc : Nat} {ls : ml_T} {st : List mv_T} {fs : List fr_T} {m : mm_T} {ci w : Nat} (h : op_new ci w j pc ls st fs m k = some cf) : At j (pc + 3) ls (vR (some (gn (sg σ m) + 1)) :: st) (alc (sg σ m) ci 0 w) (CQ fs Q) := by
  unfold op_new at h
  obtain ⟨B, n0, g, rows⟩ := m
  dsimp only at h
  rw [lfz_eq, lfz_eq] at h
  obtain ⟨rows2, e, h⟩ := sg_new (σ := σ) (B := B) (g := g) (w := w) h
  simp only [fzN_eq] at h
  rw [← e]
  exact hK _ _ _ _ _ _ h

set_option maxHeartbeats 1000000 in
theorem s_newI {σ : ms_T} {Q : mq_T} {cf : cf_T} {k : kc_T} (hK : HK σ Q cf k) {j pc : Nat} {ls : ml_T} {st : List mv_T} {fs : List fr_T} {m : mm_T} {kd : Nat} (h : op_newI kd j pc ls st fs m k = some cf) : pI st fun a r => 0 ≤ a ∧ a ≤ 1000 ∧ At j (pc + 2) ls (vR (some (gn (sg σ m) + 1)) :: r) (alc (sg σ m) kd a.toNat a.toNat) (CQ fs Q) := by
  unfold op_newI at h
  obtain ⟨B, n0, g, rows⟩ := m
  dsimp only at h
  split at h
  · next a r =>
    obtain ⟨h3, h4, h⟩ := wIdx_ok h
    rw [lfz_eq] at h
    obtain ⟨rows2, e, h⟩ := sg_new (σ := σ) (B := B) (g := g) (w := a.toNat) (a := a.toNat) (b := 0) h
    simp only [fzN_eq] at h
    refine pI_mk ⟨h3, by omega, ?_⟩
    rw [← e]
    exact hK _ _ _ _ _ _ h
  · cases h

set_option maxHeartbeats 1000000 in
theorem s_newQ {σ : ms_T} {Q : mq_T} {cf : cf_T} {k : kc_T} (hK : HK σ Q cf k) {j pc : Nat} {ls : ml_T} {st : List mv_T} {fs : List fr_T} {m : mm_T} {kd : Nat} (h : op_newQ kd j pc ls st fs m k = some cf) : pI st fun a r => 0 ≤ a ∧ a ≤ 1000 ∧ At j (pc + 3) ls (vR (some (gn (sg σ m) + 1)) :: r) (alc (sg σ m) kd a.toNat a.toNat) (CQ fs Q) := by
  unfold op_newQ at h
  obtain ⟨B, n0, g, rows⟩ := m
  dsimp only at h
  split at h
  · next a r =>
    obtain ⟨h3, h4, h⟩ := wIdx_ok h
    rw [lfz_eq] at h
    obtain ⟨rows2, e, h⟩ := sg_new (σ := σ) (B := B) (g := g) (w := a.toNat) (a := 0) (b := a.toNat) h
    simp only [fzN_eq] at h
    refine pI_mk ⟨h3, by omega, ?_⟩
    rw [← e]
    exact hK _ _ _ _ _ _ h
  · cases h

set_option maxHeartbeats 1000000 in
theorem s_callV {σ : ms_T} {Q : mq_T} {cf : cf_T} {k : kc_T} (hK : HK σ Q cf k) {j pc : Nat} {ls : ml_T} {st : List mv_T} {fs : List fr_T} {m : mm_T} {j2 n rk ci : Nat} (h : op_callV j2 n rk ci j pc ls st fs m k = some cf) : popn n [] st fun as r => pR r fun o r => isS o fun c => gs (sg σ m) c = (ci, 0) ∧ gd (Nat.ble (mwds r) 8 && all1 as) (Ca j2 (vR (some c) :: as) (sg σ m) (fun v τ => rtn rk v fun vs => At j (pc + 3) ls (vs ++ r) τ (CQ fs Q))) := by
  unfold op_callV at h
  obtain ⟨B, n0, g, rows⟩ := m
  dsimp only at h
  obtain ⟨as, r, h, mk⟩ := popE_ok h
  refine mk ?_
  split at h
  · next c r2 =>
    obtain ⟨h1, h⟩ := wCel_ok (g := g) h
    obtain ⟨h2, h⟩ := wBool_ok h
    obtain ⟨h3, h⟩ := wBool_ok h
    obtain ⟨h4, h⟩ := wBool_ok h
    simp only [fzN_eq, lfz_eq] at h
    exact pR_mk ⟨(gs_e h1).trans (kdOk_ok h2), gd_mk (and_mk h3 h4) (hK _ _ _ _ _ _ h)⟩
  · cases h

set_option maxHeartbeats 1000000 in
theorem s_callI {σ : ms_T} {Q : mq_T} {cf : cf_T} {k : kc_T} (hK : HK σ Q cf k) {j pc : Nat} {ls : ml_T} {st : List mv_T} {fs : List fr_T} {m : mm_T} {j2 n ci : Nat} (h : op_callI j2 n ci j pc ls st fs m k = some cf) : popn n [] st fun as r => pR r fun o r => isS o fun c => gs (sg σ m) c = (ci, 0) ∧ gd (Nat.ble (mwds r) 8 && all1 as) (Ca j2 (vR (some c) :: as) (sg σ m) (fun v τ => rtn 0 v fun vs => At j (pc + 3) ls (vs ++ r) τ (CQ fs Q))) := by
  unfold op_callI at h
  obtain ⟨B, n0, g, rows⟩ := m
  dsimp only at h
  obtain ⟨as, r, h, mk⟩ := popE_ok h
  refine mk ?_
  split at h
  · next c r2 =>
    obtain ⟨h1, h⟩ := wCel_ok (g := g) h
    obtain ⟨h2, h⟩ := wBool_ok h
    obtain ⟨h3, h⟩ := wBool_ok h
    obtain ⟨h4, h⟩ := wBool_ok h
    simp only [fzN_eq, lfz_eq] at h
    exact pR_mk ⟨(gs_e h1).trans (kdOk_ok h2), gd_mk (and_mk h3 h4) (hK _ _ _ _ _ _ h)⟩
  · cases h

set_option maxHeartbeats 1000000 in
theorem s_callS {σ : ms_T} {Q : mq_T} {cf : cf_T} {k : kc_T} (hK : HK σ Q cf k) {j pc : Nat} {ls : ml_T} {st : List mv_T} {fs : List fr_T} {m : mm_T} {j2 n rk : Nat} (h : op_callS j2 n rk j pc ls st fs m k = some cf) : popn n [] st fun as r => gd (Nat.ble (mwds r) 8 && okas j2 as) (Ca j2 as (sg σ m) (fun v τ => rtn rk v fun vs => At j (pc + 3) ls (vs ++ r) τ (CQ fs Q))) := by
  unfold op_callS at h
  obtain ⟨as, r, h, mk⟩ := popE_ok h
  refine mk ?_
  obtain ⟨h3, h⟩ := wBool_ok h
  obtain ⟨h4, h⟩ := wBool_ok h
  simp only [fzN_eq, lfz_eq] at h
  exact gd_mk (and_mk h3 h4) (hK _ _ _ _ _ _ h)

set_option maxHeartbeats 1000000 in
theorem s_obj {σ : ms_T} {Q : mq_T} {cf : cf_T} {k : kc_T} (hK : HK σ Q cf k) {j pc : Nat} {ls : ml_T} {st : List mv_T} {fs : List fr_T} {m : mm_T}  (h : op_obj  j pc ls st fs m k = some cf) : pR st fun o r => isS o fun c => gd (Nat.ble (mwds r) 8) (At j (pc + 3) ls r (sg σ m) (CQ fs Q)) := by
  unfold op_obj at h
  split at h
  · obtain ⟨h1, h⟩ := wBool_ok h
    simp only [fz_eq, fzN_eq, lfz_eq] at h
    exact pR_mk (gd_mk h1 (hK _ _ _ _ _ _ h))
  · cases h

set_option maxHeartbeats 1000000 in
theorem s_mm {σ : ms_T} {Q : mq_T} {cf : cf_T} {k : kc_T} (hK : HK σ Q cf k) {j pc : Nat} {ls : ml_T} {st : List mv_T} {fs : List fr_T} {m : mm_T} {f : Int → Int → Int} (h : op_mm f j pc ls st fs m k = some cf) : pI st fun b r => pI r fun a r => gd (Nat.ble (mwds r) 8) (At j (pc + 3) ls (vI (f a b) :: r) (sg σ m) (CQ fs Q)) := by
  unfold op_mm at h
  split at h
  · next b a r =>
    obtain ⟨h1, h⟩ := wBool_ok h
    simp only [fz_eq, fzN_eq, lfz_eq] at h
    exact pI_mk (pI_mk (gd_mk h1 (hK _ _ _ _ _ _ h)))
  · cases h

set_option maxHeartbeats 1000000 in
theorem s_ret {σ : ms_T} {Q : mq_T} {cf : cf_T} {k : kc_T} (hK : HK σ Q cf k) {j pc : Nat} {ls : ml_T} {st : List mv_T} {fs : List fr_T} {m : mm_T}  (h : op_ret  j pc ls st fs m k = some cf) : isE st (gd (Nat.beq (mrt j) 0) (CQ fs Q none (sg σ m))) := by
  unfold op_ret at h
  split at h
  · obtain ⟨h1, h⟩ := wBool_ok h
    split at h
    · rw [fzN_eq] at h
      exact gd_mk (F := CQ _ Q none _) h1 ⟨rfl, hK _ _ _ _ _ _ h⟩
    · cases h
  · cases h

set_option maxHeartbeats 1000000 in
theorem s_iret {σ : ms_T} {Q : mq_T} {cf : cf_T} {k : kc_T} (hK : HK σ Q cf k) {j pc : Nat} {ls : ml_T} {st : List mv_T} {fs : List fr_T} {m : mm_T}  (h : op_iret  j pc ls st fs m k = some cf) : pI st fun a r => isE r (retI (mrt j) a (CQ fs Q (some (vI a)) (sg σ m))) := by
  unfold op_iret at h
  split at h
  · next a =>
    split at h
    · cases h
    · cases h
    · cases h
    · next j2 p2 l2 r2 rk f2 z0 z3 z4 =>
      obtain ⟨h1, h⟩ := wBool_ok h
      rw [fzN_eq] at h
      refine pI_mk (riE_ok h1 (?_ : CQ ((j2, p2, l2, r2, rk) :: f2) Q (some (vI a)) _))
      show rtn rk (some (vI a)) (fun vs => At j2 (p2 + 3) l2 (vs ++ r2) (sg σ m) (CQ f2 Q))
      unfold rtn
      split
      · exact (z0 rfl).elim
      · exact (z3 rfl).elim
      · exact (z4 rfl).elim
      · exact ⟨a, rfl, hK _ _ _ _ _ _ h⟩
    · cases h
  · cases h

set_option maxHeartbeats 1000000 in
theorem s_lret {σ : ms_T} {Q : mq_T} {cf : cf_T} {k : kc_T} (hK : HK σ Q cf k) {j pc : Nat} {ls : ml_T} {st : List mv_T} {fs : List fr_T} {m : mm_T}  (h : op_lret  j pc ls st fs m k = some cf) : pL st fun a r => isE r (gd (Nat.beq (mrt j) 4) (CQ fs Q (some (vL a)) (sg σ m))) := by
  unfold op_lret at h
  split at h
  · next a =>
    obtain ⟨h1, h⟩ := wBool_ok h
    split at h
    · rw [fzN_eq] at h
      exact pL_mk (gd_mk (F := CQ _ Q _ _) h1 ⟨a, rfl, hK _ _ _ _ _ _ h⟩)
    · cases h
  · cases h

set_option maxHeartbeats 1000000 in
theorem s_aret {σ : ms_T} {Q : mq_T} {cf : cf_T} {k : kc_T} (hK : HK σ Q cf k) {j pc : Nat} {ls : ml_T} {st : List mv_T} {fs : List fr_T} {m : mm_T}  (h : op_aret  j pc ls st fs m k = some cf) : pR st fun a r => isE r (gd (Nat.beq (mrt j) 3) (CQ fs Q (some (vR a)) (sg σ m))) := by
  unfold op_aret at h
  split at h
  · next a =>
    obtain ⟨h1, h⟩ := wBool_ok h
    split at h
    · rw [fzN_eq] at h
      exact pR_mk (gd_mk (F := CQ _ Q _ _) h1 ⟨a, rfl, hK _ _ _ _ _ _ h⟩)
    · cases h
  · cases h
end
end
section
/-! The evaluator -/
noncomputable section
theorem pI_w {st : List mv_T} {F G : Int → List mv_T → Prop} (hFG : ∀ a r, F a r → G a r) (h : pI st F) : pI st G := by
  obtain ⟨a, r, e, h⟩ := pI_inv h
  subst e
  exact hFG a r h
theorem pR_w {st : List mv_T} {F G : Option Nat → List mv_T → Prop} (hFG : ∀ a r, F a r → G a r) (h : pR st F) : pR st G := by
  obtain ⟨a, r, e, h⟩ := pR_inv h
  subst e
  exact hFG a r h
theorem okA_w {σ : ms_T} {o : Option Nat} {kd : Nat} {i : Int} {F G : Nat → Prop} (hFG : ∀ c, F c → G c) (h : okA σ o kd i F) : okA σ o kd i G := by
  obtain ⟨c, e, a1, a2, a3, a4⟩ := isS_inv h
  subst e
  exact ⟨a1, a2, a3, hFG c a4⟩
def opOf (e : Option me_T) : Option op_T := match e with
  | some (.aconst_null, _, _) => some (op_null 1)
  | some (.iconst _, [n], v) => some (op_push v n)
  | some (.bipush _, [n], v) => some (op_push v n)
  | some (.sipush _, [n], v) => some (op_push v n)
  | some (.lconst _, _, v) => some (op_pushL v 1)
  | some (.ldc _, _, v) => some (op_push v 2)
  | some (.ldc2_w _, _, v) => some (op_pushL v 3)
  | some (.iload_n _, [q, n], _) => some (op_loadI q n)
  | some (.iload _, [q, n], _) => some (op_loadI q n)
  | some (.lload_n _, [q, n], _) => some (op_loadL q n)
  | some (.lload _, [q, n], _) => some (op_loadL q n)
  | some (.aload_n _, [q, n], _) => some (op_loadR q n)
  | some (.aload _, [q, n], _) => some (op_loadR q n)
  | some (.istore_n _, [q, n], _) => some (op_storeI q n)
  | some (.istore _, [q, n], _) => some (op_storeI q n)
  | some (.lstore_n _, [q, n], _) => some (op_storeL q n)
  | some (.lstore _, [q, n], _) => some (op_storeL q n)
  | some (.astore_n _, [q, n], _) => some (op_storeR q n)
  | some (.astore _, [q, n], _) => some (op_storeR q n)
  | some (.iinc _ _, [q], v) => some (op_iinc q v)
  | some (.iadd, _, _) => some (op_bin fAdd)
  | some (.isub, _, _) => some (op_bin fSub)
  | some (.imul, _, _) => some (op_bin fMul)
  | some (.idiv, _, _) => some (op_div fDiv)
  | some (.irem, _, _) => some (op_div fRem)
  | some (.iand, _, _) => some (op_bin bAnd)
  | some (.ior, _, _) => some (op_bin bOr)
  | some (.ixor, _, _) => some (op_bin bXor)
  | some (.ishl, _, _) => some (op_bin bShl)
  | some (.ishr, _, _) => some (op_bin bShr)
  | some (.i2l, _, _) => some (op_i2l)
  | some (.i2c, _, _) => some (op_i2c)
  | some (.ladd, _, _) => some (op_binL gAdd)
  | some (.lmul, _, _) => some (op_binL gMul)
  | some (.lrem, _, _) => some (op_divL fRem)
  | some (.land, _, _) => some (op_binL lAnd)
  | some (.lshr, _, _) => some (op_binLI lShr)
  | some (.l2i, _, _) => some (op_l2i)
  | some (.lcmp, _, _) => some (op_cmp cmpE)
  | some (.dup, _, _) => some (op_dup)
  | some (.dup2, _, _) => some (op_dup2)
  | some (.pop, _, _) => some (op_pop)
  | some (.goto _, [t], _) => some (op_goto t)
  | some (.ifCond c _, [t], _) => some (op_ifc c t)
  | some (.if_icmp c _, [t], _) => some (op_icmp c t)
  | some (.ifnull _, [t], _) => some (op_ifnull t)
  | some (.ifnonnull _, [t], _) => some (op_ifnonnull t)
  | some (.tableswitch _ _ _ _, d :: ts, lo) => some (op_switch d ts lo)
  | some (.getfield _, [ci, q, 2, _], _) => some (op_getR ci q)
  | some (.getfield _, [ci, q, 1, _], _) => some (op_getI ci q)
  | some (.getfield _, [ci, q, 0, _], _) => some (op_getI ci q)
  | some (.putfield _, [ci, q, 2, _], _) => some (op_putR ci q)
  | some (.putfield _, [ci, q, 1, _], _) => some (op_putZ ci q)
  | some (.putfield _, [ci, q, 0, _], _) => some (op_putI ci q)
  | some (.iaload, [kd], _) => some (op_ald kd)
  | some (.caload, [kd], _) => some (op_ald kd)
  | some (.aaload, _, _) => some (op_aald)
  | some (.iastore, [kd], _) => some (op_ast kd false)
  | some (.castore, [kd], _) => some (op_ast kd true)
  | some (.aastore, _, _) => some (op_aast)
  | some (.new _, [ci, n], _) => some (op_new ci n)
  | some (.newarray _, [kd], _) => some (op_newI kd)
  | some (.anewarray _, [kd], _) => some (op_newQ kd)
  | some (.invokevirtual _, [j2, n, rk, ci], 0) => some (op_callV j2 n rk ci)
  | some (.invokestatic _, [j2, n, rk, _], 1) => some (op_callS j2 n rk)
  | some (.invokespecial _, [j2, n, _, ci], 2) => some (op_callI j2 n ci)
  | some (.invokespecial _, [], 3) => some (op_obj)
  | some (.invokestatic _, [], 4) => some (op_mm minE)
  | some (.invokestatic _, [], 5) => some (op_mm maxE)
  | some (.return_, _, _) => some (op_ret)
  | some (.ireturn, _, _) => some (op_iret)
  | some (.lreturn, _, _) => some (op_lret)
  | some (.areturn, _, _) => some (op_aret)
  | _ => none
set_option maxHeartbeats 8000000 in
set_option maxRecDepth 100000 in
theorem op_ok {σ : ms_T} {Q : mq_T} {cf : cf_T} {k : kc_T} (hK : HK σ Q cf k) {j pc : Nat} {ls : ml_T} {st : List mv_T} {fs : List fr_T} {m : mm_T} {f : op_T} (hf : opOf (code_of j pc) = some f) (h : f j pc ls st fs m k = some cf) : At j pc ls st (sg σ m) (CQ fs Q) := by
  generalize hc : code_of j pc = o at hf
  unfold opOf at hf
  split at hf
  · cases hf
    refine At_wpi hc ?_
    exact s_null hK h
  · cases hf
    refine At_wpi hc ?_
    exact s_push hK h
  · cases hf
    refine At_wpi hc ?_
    exact s_push hK h
  · cases hf
    refine At_wpi hc ?_
    exact s_push hK h
  · cases hf
    refine At_wpi hc ?_
    exact s_pushL hK h
  · cases hf
    refine At_wpi hc ?_
    exact s_push hK h
  · cases hf
    refine At_wpi hc ?_
    exact s_pushL hK h
  · cases hf
    refine At_wpi hc ?_
    exact s_loadI hK h
  · cases hf
    refine At_wpi hc ?_
    exact s_loadI hK h
  · cases hf
    refine At_wpi hc ?_
    exact s_loadL hK h
  · cases hf
    refine At_wpi hc ?_
    exact s_loadL hK h
  · cases hf
    refine At_wpi hc ?_
    exact s_loadR hK h
  · cases hf
    refine At_wpi hc ?_
    exact s_loadR hK h
  · cases hf
    refine At_wpi hc ?_
    exact s_storeI hK h
  · cases hf
    refine At_wpi hc ?_
    exact s_storeI hK h
  · cases hf
    refine At_wpi hc ?_
    exact s_storeL hK h
  · cases hf
    refine At_wpi hc ?_
    exact s_storeL hK h
  · cases hf
    refine At_wpi hc ?_
    exact s_storeR hK h
  · cases hf
    refine At_wpi hc ?_
    exact s_storeR hK h
  · cases hf
    refine At_wpi hc ?_
    exact s_iinc hK h
  · cases hf
    refine At_wpi hc ?_
    exact s_bin (f := fAdd) hK h
  · cases hf
    refine At_wpi hc ?_
    exact s_bin (f := fSub) hK h
  · cases hf
    refine At_wpi hc ?_
    exact s_bin (f := fMul) hK h
  · cases hf
    refine At_wpi hc ?_
    exact s_div (f := fDiv) hK h
  · cases hf
    refine At_wpi hc ?_
    exact s_div (f := fRem) hK h
  · cases hf
    refine At_wpi hc ?_
    exact s_bin (f := bAnd) hK h
  · cases hf
    refine At_wpi hc ?_
    exact s_bin (f := bOr) hK h
  · cases hf
    refine At_wpi hc ?_
    exact s_bin (f := bXor) hK h
  · cases hf
    refine At_wpi hc ?_
    exact s_bin (f := bShl) hK h
  · cases hf
    refine At_wpi hc ?_
    exact s_bin (f := bShr) hK h
  · cases hf
    refine At_wpi hc ?_
    exact s_i2l hK h
  · cases hf
    refine At_wpi hc ?_
    exact s_i2c hK h
  · cases hf
    refine At_wpi hc ?_
    exact s_binL (f := gAdd) hK h
  · cases hf
    refine At_wpi hc ?_
    exact s_binL (f := gMul) hK h
  · cases hf
    refine At_wpi hc ?_
    exact s_divL (f := fRem) hK h
  · cases hf
    refine At_wpi hc ?_
    exact s_binL (f := lAnd) hK h
  · cases hf
    refine At_wpi hc ?_
    exact s_binLI (f := lShr) hK h
  · cases hf
    refine At_wpi hc ?_
    exact s_l2i hK h
  · cases hf
    refine At_wpi hc ?_
    have h2 := s_cmp (f := cmpE) hK h
    simp only [cmpE_eq] at h2
    exact h2
  · cases hf
    refine At_wpi hc ?_
    exact s_dup hK h
  · cases hf
    refine At_wpi hc ?_
    exact s_dup2 hK h
  · cases hf
    refine At_wpi hc ?_
    exact s_pop hK h
  · cases hf
    refine At_wpi hc ?_
    exact s_goto hK h
  · cases hf
    refine At_wpi hc ?_
    exact s_ifc hK h
  · cases hf
    refine At_wpi hc ?_
    exact s_icmp hK h
  · cases hf
    refine At_wpi hc ?_
    exact s_ifnull hK h
  · cases hf
    refine At_wpi hc ?_
    exact s_ifnonnull hK h
  · cases hf
    refine At_wpi hc ?_
    exact s_switch hK h
  · cases hf
    refine At_wpi hc ?_
    exact s_getR hK h
  · cases hf
    refine At_wpi hc ?_
    exact s_getI hK h
  · cases hf
    refine At_wpi hc ?_
    exact s_getI hK h
  · cases hf
    refine At_wpi hc ?_
    exact s_putR hK h
  · cases hf
    refine At_wpi hc ?_
    exact s_putZ hK h
  · cases hf
    refine At_wpi hc ?_
    exact s_putI hK h
  · cases hf
    refine At_wpi hc ?_
    exact s_ald hK h
  · cases hf
    refine At_wpi hc ?_
    exact s_ald hK h
  · cases hf
    refine At_wpi hc ?_
    exact s_aald hK h
  · cases hf
    refine At_wpi hc ?_
    exact pI_w (fun _ _ => pI_w fun _ _ => pR_w fun _ _ => okA_w fun _ y => y.2) (s_ast (ch := false) hK h)
  · cases hf
    refine At_wpi hc ?_
    exact pI_w (fun _ _ => pI_w fun _ _ => pR_w fun _ _ => okA_w fun _ y => ⟨(y.1 rfl).1, (y.1 rfl).2, y.2⟩) (s_ast (ch := true) hK h)
  · cases hf
    refine At_wpi hc ?_
    exact s_aast hK h
  · cases hf
    refine At_wpi hc ?_
    exact s_new hK h
  · cases hf
    refine At_wpi hc ?_
    exact s_newI hK h
  · cases hf
    refine At_wpi hc ?_
    exact s_newQ hK h
  · cases hf
    refine At_wpi hc ?_
    exact s_callV hK h
  · cases hf
    refine At_wpi hc ?_
    exact s_callS hK h
  · cases hf
    refine At_wpi hc ?_
    exact s_callI hK h
  · cases hf
    refine At_wpi hc ?_
    exact s_obj hK h
  · cases hf
    refine At_wpi hc ?_
    have h2 := s_mm (f := minE) hK h
    simp only [minE_eq] at h2
    exact h2
  · cases hf
    refine At_wpi hc ?_
    have h2 := s_mm (f := maxE) hK h
    simp only [maxE_eq] at h2
    exact h2
  · cases hf
    refine At_wpi hc ?_
    exact s_ret hK h
  · cases hf
    refine At_wpi hc ?_
    exact s_iret hK h
  · cases hf
    refine At_wpi hc ?_
    exact s_lret hK h
  · cases hf
    refine At_wpi hc ?_
    exact s_aret hK h
  · cases hf
/-- n steps on -/
def go1 (o : Option op_T) : op_T := fun j pc ls st fs m k => match o with
  | some f => f j pc ls st fs m k
  | none => none
theorem go1_ok {o : Option op_T} {j pc : Nat} {ls : ml_T} {st : List mv_T} {fs : List fr_T} {m : mm_T} {k : kc_T} {cf : cf_T} (h : go1 o j pc ls st fs m k = some cf) : ∃ f, o = some f ∧ f j pc ls st fs m k = some cf := by
  unfold go1 at h
  split at h
  · exact ⟨_, rfl, h⟩
  · cases h
/-- n steps on: the evaluator itself -/
def rn (n : Nat) : kc_T := Nat.rec (motive := fun _ => kc_T) (fun j pc ls st fs m => some (j, pc, ls, st, fs, m)) (fun _ ih j pc ls st fs m => go1 (opOf (code_of j pc)) j pc ls st fs m ih) n
theorem rn_ok {σ : ms_T} {Q : mq_T} {j' pc' : Nat} {ls' : ml_T} {st' : List mv_T} {fs' : List fr_T} {m' : mm_T} (hE : At j' pc' ls' st' (sg σ m') (CQ fs' Q)) : ∀ n, HK σ Q (j', pc', ls', st', fs', m') (rn n)
  | 0, j, pc, ls, st, fs, m, h => by
    cases h
    exact hE
  | n + 1, j, pc, ls, st, fs, m, h => by
    obtain ⟨f, h1, h2⟩ := go1_ok (show go1 (opOf (code_of j pc)) j pc ls st fs m (rn n) = some _ from h)
    exact op_ok (rn_ok hE n) h1 h2
def eqL {α : Type} (f : α → α → Bool) : List α → List α → Bool
  | [], [] => true
  | x :: xs, y :: ys => match f x y with
    | true => eqL f xs ys
    | false => false
  | _, _ => false
theorem eqL_ok {α : Type} {f : α → α → Bool} (hf : ∀ a b, f a b = true → a = b) : ∀ {xs ys : List α}, eqL f xs ys = true → xs = ys
  | [], [], _ => rfl
  | [], _ :: _, h => by cases h
  | _ :: _, [], h => by cases h
  | x :: xs, y :: ys, h => by
    unfold eqL at h
    split at h
    · next e => rw [hf _ _ e, eqL_ok hf h]
    · cases h
def eqN (a b : Option Nat) : Bool := match a, b with
  | none, none => true
  | some x, some y => Nat.beq x y
  | _, _ => false
theorem eqN_ok (a b : Option Nat) (h : eqN a b = true) : a = b := by
  unfold eqN at h
  split at h
  · rfl
  · rw [Nat.eq_of_beq_eq_true h]
  · cases h
def eqV (a b : mv_T) : Bool := match a, b with
  | .inl x, .inl y => beqI x y
  | .inr (.inl x), .inr (.inl y) => beqI x y
  | .inr (.inr x), .inr (.inr y) => eqN x y
  | _, _ => false
theorem eqV_ok (a b : mv_T) (h : eqV a b = true) : a = b := by
  unfold eqV at h
  split at h
  · rw [beqI_ok.mp h]
  · rw [beqI_ok.mp h]
  · rw [eqN_ok _ _ h]
  · cases h
def eqM (a b : Option mv_T) : Bool := match a, b with
  | none, none => true
  | some x, some y => eqV x y
  | _, _ => false
theorem eqM_ok (a b : Option mv_T) (h : eqM a b = true) : a = b := by
  unfold eqM at h
  split at h
  · rfl
  · rw [eqV_ok _ _ h]
  · cases h
def bAn (a b : Bool) : Bool := match a with
  | true => b
  | false => false
theorem bAn_ok {a b : Bool} (h : bAn a b = true) : a = true ∧ b = true := by
  unfold bAn at h
  split at h
  · exact ⟨rfl, h⟩
  · cases h
def eqF (a b : fr_T) : Bool := match a, b with
  | (j, p, l, r, k), (j', p', l', r', k') => bAn (Nat.beq j j') (bAn (Nat.beq p p') (bAn (eqL eqM l l') (bAn (eqL eqV r r') (Nat.beq k k'))))
theorem eqF_ok (a b : fr_T) (h : eqF a b = true) : a = b := by
  obtain ⟨j, p, l, r, k⟩ := a
  obtain ⟨j', p', l', r', k'⟩ := b
  obtain ⟨h1, h⟩ := bAn_ok h
  obtain ⟨h2, h⟩ := bAn_ok h
  obtain ⟨h3, h⟩ := bAn_ok h
  obtain ⟨h4, h⟩ := bAn_ok h
  rw [Nat.eq_of_beq_eq_true h1, Nat.eq_of_beq_eq_true h2, eqL_ok eqM_ok h3, eqL_ok eqV_ok h4, Nat.eq_of_beq_eq_true h]
def eqE (a b : ec_T) : Bool := match a, b with
  | ((k, n), i, r), ((k', n'), i', r') => bAn (Nat.beq k k') (bAn (Nat.beq n n') (bAn (eqL beqI i i') (eqL eqN r r')))
theorem eqE_ok (a b : ec_T) (h : eqE a b = true) : a = b := by
  obtain ⟨⟨k, n⟩, i, r⟩ := a
  obtain ⟨⟨k', n'⟩, i', r'⟩ := b
  obtain ⟨h1, h⟩ := bAn_ok h
  obtain ⟨h2, h⟩ := bAn_ok h
  obtain ⟨h3, h⟩ := bAn_ok h
  rw [Nat.eq_of_beq_eq_true h1, Nat.eq_of_beq_eq_true h2, eqL_ok (fun _ _ => beqI_ok.mp) h3, eqL_ok eqN_ok h]
def eqG (a b : mm_T) : Bool := match a, b with
  | (B, n, g, r), (B', n', g', r') => bAn (Nat.beq B B') (bAn (Nat.beq n n') (bAn (Nat.beq g g') (eqL (eqL eqE) r r')))
theorem eqG_ok (a b : mm_T) (h : eqG a b = true) : a = b := by
  obtain ⟨B, n, g, r⟩ := a
  obtain ⟨B', n', g', r'⟩ := b
  obtain ⟨h1, h⟩ := bAn_ok h
  obtain ⟨h2, h⟩ := bAn_ok h
  obtain ⟨h3, h⟩ := bAn_ok h
  rw [Nat.eq_of_beq_eq_true h1, Nat.eq_of_beq_eq_true h2, Nat.eq_of_beq_eq_true h3, eqL_ok (fun _ _ => eqL_ok eqE_ok) h]
def eqC (a : Option cf_T) (b : cf_T) : Bool := match a, b with
  | some (j, p, l, s, f, m), (j', p', l', s', f', m') => bAn (Nat.beq j j') (bAn (Nat.beq p p') (bAn (eqL eqM l l') (bAn (eqL eqV s s') (bAn (eqL eqF f f') (eqG m m')))))
  | none, _ => false
theorem eqC_ok {a : Option cf_T} {b : cf_T} (h : eqC a b = true) : a = some b := by
  obtain ⟨j', p', l', s', f', m'⟩ := b
  cases a with
  | none => cases h
  | some a =>
    obtain ⟨j, p, l, s, f, m⟩ := a
    obtain ⟨h1, h⟩ := bAn_ok h
    obtain ⟨h2, h⟩ := bAn_ok h
    obtain ⟨h3, h⟩ := bAn_ok h
    obtain ⟨h4, h⟩ := bAn_ok h
    obtain ⟨h5, h⟩ := bAn_ok h
    rw [Nat.eq_of_beq_eq_true h1, Nat.eq_of_beq_eq_true h2, eqL_ok eqM_ok h3, eqL_ok eqV_ok h4, eqL_ok eqF_ok h5, eqG_ok _ _ h]
def rnc (n : Nat) (c : cf_T) : Option cf_T := match c with
  | (j, pc, ls, st, fs, m) => rn n j pc ls st fs m
/-- holds at a place of a run -/
def Ah (σ : ms_T) (Q : mq_T) (c : cf_T) : Prop := At c.1 c.2.1 c.2.2.1 c.2.2.2.1 (sg σ c.2.2.2.2.2) (CQ c.2.2.2.2.1 Q)
theorem rnc_ok {σ : ms_T} {Q : mq_T} {n : Nat} {c c' : cf_T} (h : rnc n c = some c') (hE : Ah σ Q c') : Ah σ Q c := rn_ok hE n _ _ _ _ _ _ h
end
end
section
noncomputable section
def w_0 : List ec_T := [blk, blk, blk, blk, blk, blk, blk, blk, blk, blk, blk, blk, blk, blk, blk, blk]
def qt0 : cf_T := (121, 8, [some (.inr (.inr (some 0))), some (.inr (.inr (some 1))), none, none, none, none, none, none, none, none], [], [], 231, 0, 1946, [w_0, w_0, w_0, w_0, w_0, w_0, w_0, w_0, w_0, w_0, w_0, w_0, w_0, w_0, w_0, w_0])
def w_1 : List ec_T := [((8, 0), [.ofNat 0, .ofNat 0, .ofNat 0, .ofNat 0], [some 233, some 238, some 348, some 458]), ((0, 0), [.ofNat 0, .ofNat 0, .ofNat 0, .ofNat 0, .ofNat 0], [some 234, some 235, some 236, some 237, none]), ((50, 30), [.ofNat 0, .ofNat 0, .ofNat 0, .ofNat 0, .ofNat 0, .ofNat 0, .ofNat 0, .ofNat 0, .ofNat 0, .ofNat 0, .ofNat 0, .ofNat 0, .ofNat 0, .ofNat 0, .ofNat 0, .ofNat 0, .ofNat 0, .ofNat 0, .ofNat 0, .ofNat 0, .ofNat 0, .ofNat 0, .ofNat 0, .ofNat 0, .ofNat 0, .ofNat 0, .ofNat 0, .ofNat 0, .ofNat 0, .ofNat 0], []), ((50, 30), [.ofNat 0, .ofNat 0, .ofNat 0, .ofNat 0, .ofNat 0, .ofNat 0, .ofNat 0, .ofNat 0, .ofNat 0, .ofNat 0, .ofNat 0, .ofNat 0, .ofNat 0, .ofNat 0, .ofNat 0, .ofNat 0, .ofNat 0, .ofNat 0, .ofNat 0, .ofNat 0, .ofNat 0, .ofNat 0, .ofNat 0, .ofNat 0, .ofNat 0, .ofNat 0, .ofNat 0, .ofNat 0, .ofNat 0, .ofNat 0], []), ((50, 30), [.ofNat 0, .ofNat 0, .ofNat 0, .ofNat 0, .ofNat 0, .ofNat 0, .ofNat 0, .ofNat 0, .ofNat 0, .ofNat 0, .ofNat 0, .ofNat 0, .ofNat 0, .ofNat 0, .ofNat 0, .ofNat 0, .ofNat 0, .ofNat 0, .ofNat 0, .ofNat 0, .ofNat 0, .ofNat 0, .ofNat 0, .ofNat 0, .ofNat 0, .ofNat 0, .ofNat 0, .ofNat 0, .ofNat 0, .ofNat 0], []), ((50, 30), [.ofNat 0, .ofNat 0, .ofNat 0, .ofNat 0, .ofNat 0, .ofNat 0, .ofNat 0, .ofNat 0, .ofNat 0, .ofNat 0, .ofNat 0, .ofNat 0, .ofNat 0, .ofNat 0, .ofNat 0, .ofNat 0, .ofNat 0, .ofNat 0, .ofNat 0, .ofNat 0, .ofNat 0, .ofNat 0, .ofNat 0, .ofNat 0, .ofNat 0, .ofNat 0, .ofNat 0, .ofNat 0, .ofNat 0, .ofNat 0], []), ((6, 0), [.ofNat 0, .ofNat 0, .ofNat 0, .ofNat 0, .ofNat 0, .ofNat 0, .ofNat 0], [some 233, some 239, none, some 240, some 266, some 267, none]), ((67, 5), [], [some 268, some 284, some 300, some 316, some 332]), ((3, 0), [.ofNat 0, .ofNat 0], [some 241, none]), ((64, 6), [], [some 242, some 246, some 250, some 254, some 258, some 262]), ((4, 0), [.ofNat 0, .negSucc 0, .ofNat 0, .ofNat 0], [none, none, none, some 243]), ((2, 0), [.ofNat 0, .ofNat 0, .ofNat 0], [some 244, some 245, none]), ((50, 12), [.ofNat 0, .ofNat 0, .ofNat 0, .ofNat 0, .ofNat 0, .ofNat 0, .ofNat 0, .ofNat 0, .ofNat 0, .ofNat 0, .ofNat 0, .ofNat 0], []), ((50, 12), [.ofNat 0, .ofNat 0, .ofNat 0, .ofNat 0, .ofNat 0, .ofNat 0, .ofNat 0, .ofNat 0, .ofNat 0, .ofNat 0, .ofNat 0, .ofNat 0], []), ((4, 0), [.ofNat 0, .negSucc 0, .ofNat 0, .ofNat 0], [none, none, none, some 247]), ((2, 0), [.ofNat 0, .ofNat 0, .ofNat 0], [some 248, some 249, none])]
def w_2 : List ec_T := [((50, 12), [.ofNat 0, .ofNat 0, .ofNat 0, .ofNat 0, .ofNat 0, .ofNat 0, .ofNat 0, .ofNat 0, .ofNat 0, .ofNat 0, .ofNat 0, .ofNat 0], []), ((50, 12), [.ofNat 0, .ofNat 0, .ofNat 0, .ofNat 0, .ofNat 0, .ofNat 0, .ofNat 0, .ofNat 0, .ofNat 0, .ofNat 0, .ofNat 0, .ofNat 0], []), ((4, 0), [.ofNat 0, .negSucc 0, .ofNat 0, .ofNat 0], [none, none, none, some 251]), ((2, 0), [.ofNat 0, .ofNat 0, .ofNat 0], [some 252, some 253, none]), ((50, 12), [.ofNat 0, .ofNat 0, .ofNat 0, .ofNat 0, .ofNat 0, .ofNat 0, .ofNat 0, .ofNat 0, .ofNat 0, .ofNat 0, .ofNat 0, .ofNat 0], []), ((50, 12), [.ofNat 0, .ofNat 0, .ofNat 0, .ofNat 0, .ofNat 0, .ofNat 0, .ofNat 0, .ofNat 0, .ofNat 0, .ofNat 0, .ofNat 0, .ofNat 0], []), ((4, 0), [.ofNat 0, .negSucc 0, .ofNat 0, .ofNat 0], [none, none, none, some 255]), ((2, 0), [.ofNat 0, .ofNat 0, .ofNat 0], [some 256, some 257, none]), ((50, 12), [.ofNat 0, .ofNat 0, .ofNat 0, .ofNat 0, .ofNat 0, .ofNat 0, .ofNat 0, .ofNat 0, .ofNat 0, .ofNat 0, .ofNat 0, .ofNat 0], []), ((50, 12), [.ofNat 0, .ofNat 0, .ofNat 0, .ofNat 0, .ofNat 0, .ofNat 0, .ofNat 0, .ofNat 0, .ofNat 0, .ofNat 0, .ofNat 0, .ofNat 0], []), ((4, 0), [.ofNat 0, .negSucc 0, .ofNat 0, .ofNat 0], [none, none, none, some 259]), ((2, 0), [.ofNat 0, .ofNat 0, .ofNat 0], [some 260, some 261, none]), ((50, 12), [.ofNat 0, .ofNat 0, .ofNat 0, .ofNat 0, .ofNat 0, .ofNat 0, .ofNat 0, .ofNat 0, .ofNat 0, .ofNat 0, .ofNat 0, .ofNat 0], []), ((50, 12), [.ofNat 0, .ofNat 0, .ofNat 0, .ofNat 0, .ofNat 0, .ofNat 0, .ofNat 0, .ofNat 0, .ofNat 0, .ofNat 0, .ofNat 0, .ofNat 0], []), ((4, 0), [.ofNat 0, .negSucc 0, .ofNat 0, .ofNat 0], [none, none, none, some 263]), ((2, 0), [.ofNat 0, .ofNat 0, .ofNat 0], [some 264, some 265, none])]
def w_3 : List ec_T := [((50, 12), [.ofNat 0, .ofNat 0, .ofNat 0, .ofNat 0, .ofNat 0, .ofNat 0, .ofNat 0, .ofNat 0, .ofNat 0, .ofNat 0, .ofNat 0, .ofNat 0], []), ((50, 12), [.ofNat 0, .ofNat 0, .ofNat 0, .ofNat 0, .ofNat 0, .ofNat 0, .ofNat 0, .ofNat 0, .ofNat 0, .ofNat 0, .ofNat 0, .ofNat 0], []), ((1, 0), [.ofNat 0, .ofNat 0, .negSucc 0, .ofNat 0, .ofNat 0, .ofNat 0], [none, none, none, none, none, none]), ((50, 5), [.ofNat 0, .ofNat 0, .ofNat 0, .ofNat 0, .ofNat 0], []), ((7, 0), [.ofNat 0, .ofNat 0, .ofNat 0, .ofNat 0, .ofNat 0, .ofNat 0, .ofNat 0, .ofNat 0, .ofNat 0, .ofNat 0, .ofNat 0], [none, none, none, none, none, none, none, some 269, some 272, some 273, some 274]), ((2, 0), [.ofNat 0, .ofNat 0, .ofNat 0], [some 270, some 271, none]), ((50, 12), [.ofNat 0, .ofNat 0, .ofNat 0, .ofNat 0, .ofNat 0, .ofNat 0, .ofNat 0, .ofNat 0, .ofNat 0, .ofNat 0, .ofNat 0, .ofNat 0], []), ((50, 12), [.ofNat 0, .ofNat 0, .ofNat 0, .ofNat 0, .ofNat 0, .ofNat 0, .ofNat 0, .ofNat 0, .ofNat 0, .ofNat 0, .ofNat 0, .ofNat 0], []), ((50, 3), [.negSucc 0, .negSucc 0, .negSucc 0], []), ((62, 3), [], [some 275, some 278, some 281]), ((50, 4), [.ofNat 0, .ofNat 0, .ofNat 0, .ofNat 0], []), ((2, 0), [.ofNat 0, .ofNat 0, .ofNat 0], [some 276, some 277, none]), ((50, 12), [.ofNat 0, .ofNat 0, .ofNat 0, .ofNat 0, .ofNat 0, .ofNat 0, .ofNat 0, .ofNat 0, .ofNat 0, .ofNat 0, .ofNat 0, .ofNat 0], []), ((50, 12), [.ofNat 0, .ofNat 0, .ofNat 0, .ofNat 0, .ofNat 0, .ofNat 0, .ofNat 0, .ofNat 0, .ofNat 0, .ofNat 0, .ofNat 0, .ofNat 0], []), ((2, 0), [.ofNat 0, .ofNat 0, .ofNat 0], [some 279, some 280, none]), ((50, 12), [.ofNat 0, .ofNat 0, .ofNat 0, .ofNat 0, .ofNat 0, .ofNat 0, .ofNat 0, .ofNat 0, .ofNat 0, .ofNat 0, .ofNat 0, .ofNat 0], [])]
def w_4 : List ec_T := [((50, 12), [.ofNat 0, .ofNat 0, .ofNat 0, .ofNat 0, .ofNat 0, .ofNat 0, .ofNat 0, .ofNat 0, .ofNat 0, .ofNat 0, .ofNat 0, .ofNat 0], []), ((2, 0), [.ofNat 0, .ofNat 0, .ofNat 0], [some 282, some 283, none]), ((50, 12), [.ofNat 0, .ofNat 0, .ofNat 0, .ofNat 0, .ofNat 0, .ofNat 0, .ofNat 0, .ofNat 0, .ofNat 0, .ofNat 0, .ofNat 0, .ofNat 0], []), ((50, 12), [.ofNat 0, .ofNat 0, .ofNat 0, .ofNat 0, .ofNat 0, .ofNat 0, .ofNat 0, .ofNat 0, .ofNat 0, .ofNat 0, .ofNat 0, .ofNat 0], []), ((7, 0), [.ofNat 1, .ofNat 0, .ofNat 0, .ofNat 0, .ofNat 0, .ofNat 0, .ofNat 0, .ofNat 0, .ofNat 0, .ofNat 0, .ofNat 0], [none, none, none, none, none, none, none, some 285, some 288, some 289, some 290]), ((2, 0), [.ofNat 0, .ofNat 0, .ofNat 0], [some 286, some 287, none]), ((50, 12), [.ofNat 0, .ofNat 0, .ofNat 0, .ofNat 0, .ofNat 0, .ofNat 0, .ofNat 0, .ofNat 0, .ofNat 0, .ofNat 0, .ofNat 0, .ofNat 0], []), ((50, 12), [.ofNat 0, .ofNat 0, .ofNat 0, .ofNat 0, .ofNat 0, .ofNat 0, .ofNat 0, .ofNat 0, .ofNat 0, .ofNat 0, .ofNat 0, .ofNat 0], []), ((50, 3), [.negSucc 0, .negSucc 0, .negSucc 0], []), ((62, 3), [], [some 291, some 294, some 297]), ((50, 4), [.ofNat 0, .ofNat 0, .ofNat 0, .ofNat 0], []), ((2, 0), [.ofNat 0, .ofNat 0, .ofNat 0], [some 292, some 293, none]), ((50, 12), [.ofNat 0, .ofNat 0, .ofNat 0, .ofNat 0, .ofNat 0, .ofNat 0, .ofNat 0, .ofNat 0, .ofNat 0, .ofNat 0, .ofNat 0, .ofNat 0], []), ((50, 12), [.ofNat 0, .ofNat 0, .ofNat 0, .ofNat 0, .ofNat 0, .ofNat 0, .ofNat 0, .ofNat 0, .ofNat 0, .ofNat 0, .ofNat 0, .ofNat 0], []), ((2, 0), [.ofNat 0, .ofNat 0, .ofNat 0], [some 295, some 296, none]), ((50, 12), [.ofNat 0, .ofNat 0, .ofNat 0, .ofNat 0, .ofNat 0, .ofNat 0, .ofNat 0, .ofNat 0, .ofNat 0, .ofNat 0, .ofNat 0, .ofNat 0], [])]
def w_5 : List ec_T := [((50, 12), [.ofNat 0, .ofNat 0, .ofNat 0, .ofNat 0, .ofNat 0, .ofNat 0, .ofNat 0, .ofNat 0, .ofNat 0, .ofNat 0, .ofNat 0, .ofNat 0], []), ((2, 0), [.ofNat 0, .ofNat 0, .ofNat 0], [some 298, some 299, none]), ((50, 12), [.ofNat 0, .ofNat 0, .ofNat 0, .ofNat 0, .ofNat 0, .ofNat 0, .ofNat 0, .ofNat 0, .ofNat 0, .ofNat 0, .ofNat 0, .ofNat 0], []), ((50, 12), [.ofNat 0, .ofNat 0, .ofNat 0, .ofNat 0, .ofNat 0, .ofNat 0, .ofNat 0, .ofNat 0, .ofNat 0, .ofNat 0, .ofNat 0, .ofNat 0], []), ((7, 0), [.ofNat 2, .ofNat 0, .ofNat 0, .ofNat 0, .ofNat 0, .ofNat 0, .ofNat 0, .ofNat 0, .ofNat 0, .ofNat 0, .ofNat 0], [none, none, none, none, none, none, none, some 301, some 304, some 305, some 306]), ((2, 0), [.ofNat 0, .ofNat 0, .ofNat 0], [some 302, some 303, none]), ((50, 12), [.ofNat 0, .ofNat 0, .ofNat 0, .ofNat 0, .ofNat 0, .ofNat 0, .ofNat 0, .ofNat 0, .ofNat 0, .ofNat 0, .ofNat 0, .ofNat 0], []), ((50, 12), [.ofNat 0, .ofNat 0, .ofNat 0, .ofNat 0, .ofNat 0, .ofNat 0, .ofNat 0, .ofNat 0, .ofNat 0, .ofNat 0, .ofNat 0, .ofNat 0], []), ((50, 3), [.negSucc 0, .negSucc 0, .negSucc 0], []), ((62, 3), [], [some 307, some 310, some 313]), ((50, 4), [.ofNat 0, .ofNat 0, .ofNat 0, .ofNat 0], []), ((2, 0), [.ofNat 0, .ofNat 0, .ofNat 0], [some 308, some 309, none]), ((50, 12), [.ofNat 0, .ofNat 0, .ofNat 0, .ofNat 0, .ofNat 0, .ofNat 0, .ofNat 0, .ofNat 0, .ofNat 0, .ofNat 0, .ofNat 0, .ofNat 0], []), ((50, 12), [.ofNat 0, .ofNat 0, .ofNat 0, .ofNat 0, .ofNat 0, .ofNat 0, .ofNat 0, .ofNat 0, .ofNat 0, .ofNat 0, .ofNat 0, .ofNat 0], []), ((2, 0), [.ofNat 0, .ofNat 0, .ofNat 0], [some 311, some 312, none]), ((50, 12), [.ofNat 0, .ofNat 0, .ofNat 0, .ofNat 0, .ofNat 0, .ofNat 0, .ofNat 0, .ofNat 0, .ofNat 0, .ofNat 0, .ofNat 0, .ofNat 0], [])]
def w_6 : List ec_T := [((50, 12), [.ofNat 0, .ofNat 0, .ofNat 0, .ofNat 0, .ofNat 0, .ofNat 0, .ofNat 0, .ofNat 0, .ofNat 0, .ofNat 0, .ofNat 0, .ofNat 0], []), ((2, 0), [.ofNat 0, .ofNat 0, .ofNat 0], [some 314, some 315, none]), ((50, 12), [.ofNat 0, .ofNat 0, .ofNat 0, .ofNat 0, .ofNat 0, .ofNat 0, .ofNat 0, .ofNat 0, .ofNat 0, .ofNat 0, .ofNat 0, .ofNat 0], []), ((50, 12), [.ofNat 0, .ofNat 0, .ofNat 0, .ofNat 0, .ofNat 0, .ofNat 0, .ofNat 0, .ofNat 0, .ofNat 0, .ofNat 0, .ofNat 0, .ofNat 0], []), ((7, 0), [.ofNat 3, .ofNat 0, .ofNat 0, .ofNat 0, .ofNat 0, .ofNat 0, .ofNat 0, .ofNat 0, .ofNat 0, .ofNat 0, .ofNat 0], [none, none, none, none, none, none, none, some 317, some 320, some 321, some 322]), ((2, 0), [.ofNat 0, .ofNat 0, .ofNat 0], [some 318, some 319, none]), ((50, 12), [.ofNat 0, .ofNat 0, .ofNat 0, .ofNat 0, .ofNat 0, .ofNat 0, .ofNat 0, .ofNat 0, .ofNat 0, .ofNat 0, .ofNat 0, .ofNat 0], []), ((50, 12), [.ofNat 0, .ofNat 0, .ofNat 0, .ofNat 0, .ofNat 0, .ofNat 0, .ofNat 0, .ofNat 0, .ofNat 0, .ofNat 0, .ofNat 0, .ofNat 0], []), ((50, 3), [.negSucc 0, .negSucc 0, .negSucc 0], []), ((62, 3), [], [some 323, some 326, some 329]), ((50, 4), [.ofNat 0, .ofNat 0, .ofNat 0, .ofNat 0], []), ((2, 0), [.ofNat 0, .ofNat 0, .ofNat 0], [some 324, some 325, none]), ((50, 12), [.ofNat 0, .ofNat 0, .ofNat 0, .ofNat 0, .ofNat 0, .ofNat 0, .ofNat 0, .ofNat 0, .ofNat 0, .ofNat 0, .ofNat 0, .ofNat 0], []), ((50, 12), [.ofNat 0, .ofNat 0, .ofNat 0, .ofNat 0, .ofNat 0, .ofNat 0, .ofNat 0, .ofNat 0, .ofNat 0, .ofNat 0, .ofNat 0, .ofNat 0], []), ((2, 0), [.ofNat 0, .ofNat 0, .ofNat 0], [some 327, some 328, none]), ((50, 12), [.ofNat 0, .ofNat 0, .ofNat 0, .ofNat 0, .ofNat 0, .ofNat 0, .ofNat 0, .ofNat 0, .ofNat 0, .ofNat 0, .ofNat 0, .ofNat 0], [])]
def w_7 : List ec_T := [((50, 12), [.ofNat 0, .ofNat 0, .ofNat 0, .ofNat 0, .ofNat 0, .ofNat 0, .ofNat 0, .ofNat 0, .ofNat 0, .ofNat 0, .ofNat 0, .ofNat 0], []), ((2, 0), [.ofNat 0, .ofNat 0, .ofNat 0], [some 330, some 331, none]), ((50, 12), [.ofNat 0, .ofNat 0, .ofNat 0, .ofNat 0, .ofNat 0, .ofNat 0, .ofNat 0, .ofNat 0, .ofNat 0, .ofNat 0, .ofNat 0, .ofNat 0], []), ((50, 12), [.ofNat 0, .ofNat 0, .ofNat 0, .ofNat 0, .ofNat 0, .ofNat 0, .ofNat 0, .ofNat 0, .ofNat 0, .ofNat 0, .ofNat 0, .ofNat 0], []), ((7, 0), [.ofNat 4, .ofNat 0, .ofNat 0, .ofNat 0, .ofNat 0, .ofNat 0, .ofNat 0, .ofNat 0, .ofNat 0, .ofNat 0, .ofNat 0], [none, none, none, none, none, none, none, some 333, some 336, some 337, some 338]), ((2, 0), [.ofNat 0, .ofNat 0, .ofNat 0], [some 334, some 335, none]), ((50, 12), [.ofNat 0, .ofNat 0, .ofNat 0, .ofNat 0, .ofNat 0, .ofNat 0, .ofNat 0, .ofNat 0, .ofNat 0, .ofNat 0, .ofNat 0, .ofNat 0], []), ((50, 12), [.ofNat 0, .ofNat 0, .ofNat 0, .ofNat 0, .ofNat 0, .ofNat 0, .ofNat 0, .ofNat 0, .ofNat 0, .ofNat 0, .ofNat 0, .ofNat 0], []), ((50, 3), [.negSucc 0, .negSucc 0, .negSucc 0], []), ((62, 3), [], [some 339, some 342, some 345]), ((50, 4), [.ofNat 0, .ofNat 0, .ofNat 0, .ofNat 0], []), ((2, 0), [.ofNat 0, .ofNat 0, .ofNat 0], [some 340, some 341, none]), ((50, 12), [.ofNat 0, .ofNat 0, .ofNat 0, .ofNat 0, .ofNat 0, .ofNat 0, .ofNat 0, .ofNat 0, .ofNat 0, .ofNat 0, .ofNat 0, .ofNat 0], []), ((50, 12), [.ofNat 0, .ofNat 0, .ofNat 0, .ofNat 0, .ofNat 0, .ofNat 0, .ofNat 0, .ofNat 0, .ofNat 0, .ofNat 0, .ofNat 0, .ofNat 0], []), ((2, 0), [.ofNat 0, .ofNat 0, .ofNat 0], [some 343, some 344, none]), ((50, 12), [.ofNat 0, .ofNat 0, .ofNat 0, .ofNat 0, .ofNat 0, .ofNat 0, .ofNat 0, .ofNat 0, .ofNat 0, .ofNat 0, .ofNat 0, .ofNat 0], [])]
def w_8 : List ec_T := [((50, 12), [.ofNat 0, .ofNat 0, .ofNat 0, .ofNat 0, .ofNat 0, .ofNat 0, .ofNat 0, .ofNat 0, .ofNat 0, .ofNat 0, .ofNat 0, .ofNat 0], []), ((2, 0), [.ofNat 0, .ofNat 0, .ofNat 0], [some 346, some 347, none]), ((50, 12), [.ofNat 0, .ofNat 0, .ofNat 0, .ofNat 0, .ofNat 0, .ofNat 0, .ofNat 0, .ofNat 0, .ofNat 0, .ofNat 0, .ofNat 0, .ofNat 0], []), ((50, 12), [.ofNat 0, .ofNat 0, .ofNat 0, .ofNat 0, .ofNat 0, .ofNat 0, .ofNat 0, .ofNat 0, .ofNat 0, .ofNat 0, .ofNat 0, .ofNat 0], []), ((6, 0), [.ofNat 0, .ofNat 0, .ofNat 0, .ofNat 0, .ofNat 0, .ofNat 0, .ofNat 0], [some 233, some 349, none, some 350, some 376, some 377, none]), ((67, 5), [], [some 378, some 394, some 410, some 426, some 442]), ((3, 0), [.ofNat 0, .ofNat 0], [some 351, none]), ((64, 6), [], [some 352, some 356, some 360, some 364, some 368, some 372]), ((4, 0), [.ofNat 0, .negSucc 0, .ofNat 0, .ofNat 0], [none, none, none, some 353]), ((2, 0), [.ofNat 0, .ofNat 0, .ofNat 0], [some 354, some 355, none]), ((50, 12), [.ofNat 0, .ofNat 0, .ofNat 0, .ofNat 0, .ofNat 0, .ofNat 0, .ofNat 0, .ofNat 0, .ofNat 0, .ofNat 0, .ofNat 0, .ofNat 0], []), ((50, 12), [.ofNat 0, .ofNat 0, .ofNat 0, .ofNat 0, .ofNat 0, .ofNat 0, .ofNat 0, .ofNat 0, .ofNat 0, .ofNat 0, .ofNat 0, .ofNat 0], []), ((4, 0), [.ofNat 0, .negSucc 0, .ofNat 0, .ofNat 0], [none, none, none, some 357]), ((2, 0), [.ofNat 0, .ofNat 0, .ofNat 0], [some 358, some 359, none]), ((50, 12), [.ofNat 0, .ofNat 0, .ofNat 0, .ofNat 0, .ofNat 0, .ofNat 0, .ofNat 0, .ofNat 0, .ofNat 0, .ofNat 0, .ofNat 0, .ofNat 0], []), ((50, 12), [.ofNat 0, .ofNat 0, .ofNat 0, .ofNat 0, .ofNat 0, .ofNat 0, .ofNat 0, .ofNat 0, .ofNat 0, .ofNat 0, .ofNat 0, .ofNat 0], [])]
def w_9 : List ec_T := [((4, 0), [.ofNat 0, .negSucc 0, .ofNat 0, .ofNat 0], [none, none, none, some 361]), ((2, 0), [.ofNat 0, .ofNat 0, .ofNat 0], [some 362, some 363, none]), ((50, 12), [.ofNat 0, .ofNat 0, .ofNat 0, .ofNat 0, .ofNat 0, .ofNat 0, .ofNat 0, .ofNat 0, .ofNat 0, .ofNat 0, .ofNat 0, .ofNat 0], []), ((50, 12), [.ofNat 0, .ofNat 0, .ofNat 0, .ofNat 0, .ofNat 0, .ofNat 0, .ofNat 0, .ofNat 0, .ofNat 0, .ofNat 0, .ofNat 0, .ofNat 0], []), ((4, 0), [.ofNat 0, .negSucc 0, .ofNat 0, .ofNat 0], [none, none, none, some 365]), ((2, 0), [.ofNat 0, .ofNat 0, .ofNat 0], [some 366, some 367, none]), ((50, 12), [.ofNat 0, .ofNat 0, .ofNat 0, .ofNat 0, .ofNat 0, .ofNat 0, .ofNat 0, .ofNat 0, .ofNat 0, .ofNat 0, .ofNat 0, .ofNat 0], []), ((50, 12), [.ofNat 0, .ofNat 0, .ofNat 0, .ofNat 0, .ofNat 0, .ofNat 0, .ofNat 0, .ofNat 0, .ofNat 0, .ofNat 0, .ofNat 0, .ofNat 0], []), ((4, 0), [.ofNat 0, .negSucc 0, .ofNat 0, .ofNat 0], [none, none, none, some 369]), ((2, 0), [.ofNat 0, .ofNat 0, .ofNat 0], [some 370, some 371, none]), ((50, 12), [.ofNat 0, .ofNat 0, .ofNat 0, .ofNat 0, .ofNat 0, .ofNat 0, .ofNat 0, .ofNat 0, .ofNat 0, .ofNat 0, .ofNat 0, .ofNat 0], []), ((50, 12), [.ofNat 0, .ofNat 0, .ofNat 0, .ofNat 0, .ofNat 0, .ofNat 0, .ofNat 0, .ofNat 0, .ofNat 0, .ofNat 0, .ofNat 0, .ofNat 0], []), ((4, 0), [.ofNat 0, .negSucc 0, .ofNat 0, .ofNat 0], [none, none, none, some 373]), ((2, 0), [.ofNat 0, .ofNat 0, .ofNat 0], [some 374, some 375, none]), ((50, 12), [.ofNat 0, .ofNat 0, .ofNat 0, .ofNat 0, .ofNat 0, .ofNat 0, .ofNat 0, .ofNat 0, .ofNat 0, .ofNat 0, .ofNat 0, .ofNat 0], []), ((50, 12), [.ofNat 0, .ofNat 0, .ofNat 0, .ofNat 0, .ofNat 0, .ofNat 0, .ofNat 0, .ofNat 0, .ofNat 0, .ofNat 0, .ofNat 0, .ofNat 0], [])]
def w_10 : List ec_T := [((1, 0), [.ofNat 0, .ofNat 0, .negSucc 0, .ofNat 0, .ofNat 0, .ofNat 0], [none, none, none, none, none, none]), ((50, 5), [.ofNat 0, .ofNat 0, .ofNat 0, .ofNat 0, .ofNat 0], []), ((7, 0), [.ofNat 0, .ofNat 0, .ofNat 0, .ofNat 0, .ofNat 0, .ofNat 0, .ofNat 0, .ofNat 0, .ofNat 0, .ofNat 0, .ofNat 0], [none, none, none, none, none, none, none, some 379, some 382, some 383, some 384]), ((2, 0), [.ofNat 0, .ofNat 0, .ofNat 0], [some 380, some 381, none]), ((50, 12), [.ofNat 0, .ofNat 0, .ofNat 0, .ofNat 0, .ofNat 0, .ofNat 0, .ofNat 0, .ofNat 0, .ofNat 0, .ofNat 0, .ofNat 0, .ofNat 0], []), ((50, 12), [.ofNat 0, .ofNat 0, .ofNat 0, .ofNat 0, .ofNat 0, .ofNat 0, .ofNat 0, .ofNat 0, .ofNat 0, .ofNat 0, .ofNat 0, .ofNat 0], []), ((50, 3), [.negSucc 0, .negSucc 0, .negSucc 0], []), ((62, 3), [], [some 385, some 388, some 391]), ((50, 4), [.ofNat 0, .ofNat 0, .ofNat 0, .ofNat 0], []), ((2, 0), [.ofNat 0, .ofNat 0, .ofNat 0], [some 386, some 387, none]), ((50, 12), [.ofNat 0, .ofNat 0, .ofNat 0, .ofNat 0, .ofNat 0, .ofNat 0, .ofNat 0, .ofNat 0, .ofNat 0, .ofNat 0, .ofNat 0, .ofNat 0], []), ((50, 12), [.ofNat 0, .ofNat 0, .ofNat 0, .ofNat 0, .ofNat 0, .ofNat 0, .ofNat 0, .ofNat 0, .ofNat 0, .ofNat 0, .ofNat 0, .ofNat 0], []), ((2, 0), [.ofNat 0, .ofNat 0, .ofNat 0], [some 389, some 390, none]), ((50, 12), [.ofNat 0, .ofNat 0, .ofNat 0, .ofNat 0, .ofNat 0, .ofNat 0, .ofNat 0, .ofNat 0, .ofNat 0, .ofNat 0, .ofNat 0, .ofNat 0], []), ((50, 12), [.ofNat 0, .ofNat 0, .ofNat 0, .ofNat 0, .ofNat 0, .ofNat 0, .ofNat 0, .ofNat 0, .ofNat 0, .ofNat 0, .ofNat 0, .ofNat 0], []), ((2, 0), [.ofNat 0, .ofNat 0, .ofNat 0], [some 392, some 393, none])]
def w_11 : List ec_T := [((50, 12), [.ofNat 0, .ofNat 0, .ofNat 0, .ofNat 0, .ofNat 0, .ofNat 0, .ofNat 0, .ofNat 0, .ofNat 0, .ofNat 0, .ofNat 0, .ofNat 0], []), ((50, 12), [.ofNat 0, .ofNat 0, .ofNat 0, .ofNat 0, .ofNat 0, .ofNat 0, .ofNat 0, .ofNat 0, .ofNat 0, .ofNat 0, .ofNat 0, .ofNat 0], []), ((7, 0), [.ofNat 1, .ofNat 0, .ofNat 0, .ofNat 0, .ofNat 0, .ofNat 0, .ofNat 0, .ofNat 0, .ofNat 0, .ofNat 0, .ofNat 0], [none, none, none, none, none, none, none, some 395, some 398, some 399, some 400]), ((2, 0), [.ofNat 0, .ofNat 0, .ofNat 0], [some 396, some 397, none]), ((50, 12), [.ofNat 0, .ofNat 0, .ofNat 0, .ofNat 0, .ofNat 0, .ofNat 0, .ofNat 0, .ofNat 0, .ofNat 0, .ofNat 0, .ofNat 0, .ofNat 0], []), ((50, 12), [.ofNat 0, .ofNat 0, .ofNat 0, .ofNat 0, .ofNat 0, .ofNat 0, .ofNat 0, .ofNat 0, .ofNat 0, .ofNat 0, .ofNat 0, .ofNat 0], []), ((50, 3), [.negSucc 0, .negSucc 0, .negSucc 0], []), ((62, 3), [], [some 401, some 404, some 407]), ((50, 4), [.ofNat 0, .ofNat 0, .ofNat 0, .ofNat 0], []), ((2, 0), [.ofNat 0, .ofNat 0, .ofNat 0], [some 402, some 403, none]), ((50, 12), [.ofNat 0, .ofNat 0, .ofNat 0, .ofNat 0, .ofNat 0, .ofNat 0, .ofNat 0, .ofNat 0, .ofNat 0, .ofNat 0, .ofNat 0, .ofNat 0], []), ((50, 12), [.ofNat 0, .ofNat 0, .ofNat 0, .ofNat 0, .ofNat 0, .ofNat 0, .ofNat 0, .ofNat 0, .ofNat 0, .ofNat 0, .ofNat 0, .ofNat 0], []), ((2, 0), [.ofNat 0, .ofNat 0, .ofNat 0], [some 405, some 406, none]), ((50, 12), [.ofNat 0, .ofNat 0, .ofNat 0, .ofNat 0, .ofNat 0, .ofNat 0, .ofNat 0, .ofNat 0, .ofNat 0, .ofNat 0, .ofNat 0, .ofNat 0], []), ((50, 12), [.ofNat 0, .ofNat 0, .ofNat 0, .ofNat 0, .ofNat 0, .ofNat 0, .ofNat 0, .ofNat 0, .ofNat 0, .ofNat 0, .ofNat 0, .ofNat 0], []), ((2, 0), [.ofNat 0, .ofNat 0, .ofNat 0], [some 408, some 409, none])]
def w_12 : List ec_T := [((50, 12), [.ofNat 0, .ofNat 0, .ofNat 0, .ofNat 0, .ofNat 0, .ofNat 0, .ofNat 0, .ofNat 0, .ofNat 0, .ofNat 0, .ofNat 0, .ofNat 0], []), ((50, 12), [.ofNat 0, .ofNat 0, .ofNat 0, .ofNat 0, .ofNat 0, .ofNat 0, .ofNat 0, .ofNat 0, .ofNat 0, .ofNat 0, .ofNat 0, .ofNat 0], []), ((7, 0), [.ofNat 2, .ofNat 0, .ofNat 0, .ofNat 0, .ofNat 0, .ofNat 0, .ofNat 0, .ofNat 0, .ofNat 0, .ofNat 0, .ofNat 0], [none, none, none, none, none, none, none, some 411, some 414, some 415, some 416]), ((2, 0), [.ofNat 0, .ofNat 0, .ofNat 0], [some 412, some 413, none]), ((50, 12), [.ofNat 0, .ofNat 0, .ofNat 0, .ofNat 0, .ofNat 0, .ofNat 0, .ofNat 0, .ofNat 0, .ofNat 0, .ofNat 0, .ofNat 0, .ofNat 0], []), ((50, 12), [.ofNat 0, .ofNat 0, .ofNat 0, .ofNat 0, .ofNat 0, .ofNat 0, .ofNat 0, .ofNat 0, .ofNat 0, .ofNat 0, .ofNat 0, .ofNat 0], []), ((50, 3), [.negSucc 0, .negSucc 0, .negSucc 0], []), ((62, 3), [], [some 417, some 420, some 423]), ((50, 4), [.ofNat 0, .ofNat 0, .ofNat 0, .ofNat 0], []), ((2, 0), [.ofNat 0, .ofNat 0, .ofNat 0], [some 418, some 419, none]), ((50, 12), [.ofNat 0, .ofNat 0, .ofNat 0, .ofNat 0, .ofNat 0, .ofNat 0, .ofNat 0, .ofNat 0, .ofNat 0, .ofNat 0, .ofNat 0, .ofNat 0], []), ((50, 12), [.ofNat 0, .ofNat 0, .ofNat 0, .ofNat 0, .ofNat 0, .ofNat 0, .ofNat 0, .ofNat 0, .ofNat 0, .ofNat 0, .ofNat 0, .ofNat 0], []), ((2, 0), [.ofNat 0, .ofNat 0, .ofNat 0], [some 421, some 422, none]), ((50, 12), [.ofNat 0, .ofNat 0, .ofNat 0, .ofNat 0, .ofNat 0, .ofNat 0, .ofNat 0, .ofNat 0, .ofNat 0, .ofNat 0, .ofNat 0, .ofNat 0], []), ((50, 12), [.ofNat 0, .ofNat 0, .ofNat 0, .ofNat 0, .ofNat 0, .ofNat 0, .ofNat 0, .ofNat 0, .ofNat 0, .ofNat 0, .ofNat 0, .ofNat 0], []), ((2, 0), [.ofNat 0, .ofNat 0, .ofNat 0], [some 424, some 425, none])]
def w_13 : List ec_T := [((50, 12), [.ofNat 0, .ofNat 0, .ofNat 0, .ofNat 0, .ofNat 0, .ofNat 0, .ofNat 0, .ofNat 0, .ofNat 0, .ofNat 0, .ofNat 0, .ofNat 0], []), ((50, 12), [.ofNat 0, .ofNat 0, .ofNat 0, .ofNat 0, .ofNat 0, .ofNat 0, .ofNat 0, .ofNat 0, .ofNat 0, .ofNat 0, .ofNat 0, .ofNat 0], []), ((7, 0), [.ofNat 3, .ofNat 0, .ofNat 0, .ofNat 0, .ofNat 0, .ofNat 0, .ofNat 0, .ofNat 0, .ofNat 0, .ofNat 0, .ofNat 0], [none, none, none, none, none, none, none, some 427, some 430, some 431, some 432]), ((2, 0), [.ofNat 0, .ofNat 0, .ofNat 0], [some 428, some 429, none]), ((50, 12), [.ofNat 0, .ofNat 0, .ofNat 0, .ofNat 0, .ofNat 0, .ofNat 0, .ofNat 0, .ofNat 0, .ofNat 0, .ofNat 0, .ofNat 0, .ofNat 0], []), ((50, 12), [.ofNat 0, .ofNat 0, .ofNat 0, .ofNat 0, .ofNat 0, .ofNat 0, .ofNat 0, .ofNat 0, .ofNat 0, .ofNat 0, .ofNat 0, .ofNat 0], []), ((50, 3), [.negSucc 0, .negSucc 0, .negSucc 0], []), ((62, 3), [], [some 433, some 436, some 439]), ((50, 4), [.ofNat 0, .ofNat 0, .ofNat 0, .ofNat 0], []), ((2, 0), [.ofNat 0, .ofNat 0, .ofNat 0], [some 434, some 435, none]), ((50, 12), [.ofNat 0, .ofNat 0, .ofNat 0, .ofNat 0, .ofNat 0, .ofNat 0, .ofNat 0, .ofNat 0, .ofNat 0, .ofNat 0, .ofNat 0, .ofNat 0], []), ((50, 12), [.ofNat 0, .ofNat 0, .ofNat 0, .ofNat 0, .ofNat 0, .ofNat 0, .ofNat 0, .ofNat 0, .ofNat 0, .ofNat 0, .ofNat 0, .ofNat 0], []), ((2, 0), [.ofNat 0, .ofNat 0, .ofNat 0], [some 437, some 438, none]), ((50, 12), [.ofNat 0, .ofNat 0, .ofNat 0, .ofNat 0, .ofNat 0, .ofNat 0, .ofNat 0, .ofNat 0, .ofNat 0, .ofNat 0, .ofNat 0, .ofNat 0], []), ((50, 12), [.ofNat 0, .ofNat 0, .ofNat 0, .ofNat 0, .ofNat 0, .ofNat 0, .ofNat 0, .ofNat 0, .ofNat 0, .ofNat 0, .ofNat 0, .ofNat 0], []), ((2, 0), [.ofNat 0, .ofNat 0, .ofNat 0], [some 440, some 441, none])]
def w_14 : List ec_T := [((50, 12), [.ofNat 0, .ofNat 0, .ofNat 0, .ofNat 0, .ofNat 0, .ofNat 0, .ofNat 0, .ofNat 0, .ofNat 0, .ofNat 0, .ofNat 0, .ofNat 0], []), ((50, 12), [.ofNat 0, .ofNat 0, .ofNat 0, .ofNat 0, .ofNat 0, .ofNat 0, .ofNat 0, .ofNat 0, .ofNat 0, .ofNat 0, .ofNat 0, .ofNat 0], []), ((7, 0), [.ofNat 4, .ofNat 0, .ofNat 0, .ofNat 0, .ofNat 0, .ofNat 0, .ofNat 0, .ofNat 0, .ofNat 0, .ofNat 0, .ofNat 0], [none, none, none, none, none, none, none, some 443, some 446, some 447, some 448]), ((2, 0), [.ofNat 0, .ofNat 0, .ofNat 0], [some 444, some 445, none]), ((50, 12), [.ofNat 0, .ofNat 0, .ofNat 0, .ofNat 0, .ofNat 0, .ofNat 0, .ofNat 0, .ofNat 0, .ofNat 0, .ofNat 0, .ofNat 0, .ofNat 0], []), ((50, 12), [.ofNat 0, .ofNat 0, .ofNat 0, .ofNat 0, .ofNat 0, .ofNat 0, .ofNat 0, .ofNat 0, .ofNat 0, .ofNat 0, .ofNat 0, .ofNat 0], []), ((50, 3), [.negSucc 0, .negSucc 0, .negSucc 0], []), ((62, 3), [], [some 449, some 452, some 455]), ((50, 4), [.ofNat 0, .ofNat 0, .ofNat 0, .ofNat 0], []), ((2, 0), [.ofNat 0, .ofNat 0, .ofNat 0], [some 450, some 451, none]), ((50, 12), [.ofNat 0, .ofNat 0, .ofNat 0, .ofNat 0, .ofNat 0, .ofNat 0, .ofNat 0, .ofNat 0, .ofNat 0, .ofNat 0, .ofNat 0, .ofNat 0], []), ((50, 12), [.ofNat 0, .ofNat 0, .ofNat 0, .ofNat 0, .ofNat 0, .ofNat 0, .ofNat 0, .ofNat 0, .ofNat 0, .ofNat 0, .ofNat 0, .ofNat 0], []), ((2, 0), [.ofNat 0, .ofNat 0, .ofNat 0], [some 453, some 454, none]), ((50, 12), [.ofNat 0, .ofNat 0, .ofNat 0, .ofNat 0, .ofNat 0, .ofNat 0, .ofNat 0, .ofNat 0, .ofNat 0, .ofNat 0, .ofNat 0, .ofNat 0], []), ((50, 12), [.ofNat 0, .ofNat 0, .ofNat 0, .ofNat 0, .ofNat 0, .ofNat 0, .ofNat 0, .ofNat 0, .ofNat 0, .ofNat 0, .ofNat 0, .ofNat 0], []), ((2, 0), [.ofNat 0, .ofNat 0, .ofNat 0], [some 456, some 457, none])]
def w_15 : List ec_T := [((50, 12), [.ofNat 0, .ofNat 0, .ofNat 0, .ofNat 0, .ofNat 0, .ofNat 0, .ofNat 0, .ofNat 0, .ofNat 0, .ofNat 0, .ofNat 0, .ofNat 0], []), ((50, 12), [.ofNat 0, .ofNat 0, .ofNat 0, .ofNat 0, .ofNat 0, .ofNat 0, .ofNat 0, .ofNat 0, .ofNat 0, .ofNat 0, .ofNat 0, .ofNat 0], []), ((5, 0), [.ofNat 0, .ofNat 8, .ofNat 7, .negSucc 0, .ofNat 0, .ofNat 5], [some 459, none, none, none, some 460, none]), ((51, 60), [.ofNat 100, .ofNat 58, .ofNat 53, .ofNat 45, .ofNat 53, .ofNat 44, .ofNat 55, .ofNat 59, .ofNat 59, .ofNat 0, .ofNat 0, .ofNat 0, .ofNat 0, .ofNat 0, .ofNat 0, .ofNat 0, .ofNat 0, .ofNat 0, .ofNat 0, .ofNat 0, .ofNat 0, .ofNat 0, .ofNat 0, .ofNat 0, .ofNat 0, .ofNat 0, .ofNat 0, .ofNat 0, .ofNat 0, .ofNat 0, .ofNat 0, .ofNat 0, .ofNat 0, .ofNat 0, .ofNat 0, .ofNat 0, .ofNat 0, .ofNat 0, .ofNat 0, .ofNat 0, .ofNat 0, .ofNat 0, .ofNat 0, .ofNat 0, .ofNat 0, .ofNat 0, .ofNat 0, .ofNat 0, .ofNat 0, .ofNat 0, .ofNat 0, .ofNat 0, .ofNat 0, .ofNat 0, .ofNat 0, .ofNat 0, .ofNat 0, .ofNat 0, .ofNat 0, .ofNat 0], []), ((2, 0), [.ofNat 0, .ofNat 0, .ofNat 1], [some 461, some 462, none]), ((50, 12), [.ofNat 5, .ofNat 7, .ofNat 0, .ofNat 0, .ofNat 0, .ofNat 0, .ofNat 0, .ofNat 0, .ofNat 0, .ofNat 0, .ofNat 0, .ofNat 0], []), ((50, 12), [.ofNat 5, .ofNat 7, .ofNat 0, .ofNat 0, .ofNat 0, .ofNat 0, .ofNat 0, .ofNat 0, .ofNat 0, .ofNat 0, .ofNat 0, .ofNat 0], []), blk, blk, blk, blk, blk, blk, blk, blk, blk]
def qt1 : cf_T := (40, 12, [some (.inr (.inr (some 458))), some (.inl (.ofNat 7))], [.inr (.inr (some 458))], [(39, 33, [some (.inr (.inr (some 458))), some (.inl (.ofNat 7)), some (.inl (.ofNat 6)), some (.inl (.ofNat 7))], [], 2), (37, 11, [some (.inr (.inr (some 458))), some (.inl (.ofNat 7)), some (.inl (.ofNat 1)), some (.inl (.ofNat 5))], [], 2), (35, 34, [some (.inr (.inr (some 458)))], [], 2), (100, 4, [some (.inr (.inr (some 232)))], [], 2), (117, 18, [some (.inr (.inr (some 232))), some (.inr (.inl (.ofNat 7222143420723902267))), none, some (.inr (.inl (.ofNat 0))), none], [], 1), (118, 127, [some (.inr (.inr (some 232))), none], [], 1), (121, 15, [some (.inr (.inr (some 0))), some (.inr (.inr (some 1))), none, none, none, none, none, none, none, none], [], 2)], 231, 231, 3892, [w_1, w_2, w_3, w_4, w_5, w_6, w_7, w_8, w_9, w_10, w_11, w_12, w_13, w_14, w_15, w_0])
set_option maxRecDepth 100000 in
theorem et1 : rnc 10000 qt0 = some qt1 := eqC_ok (by decide +kernel)
end
end
