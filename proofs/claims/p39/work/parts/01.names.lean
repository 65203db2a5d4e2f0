-- begun with PART A of kit/laws/SKELETON and the head of claim/NAMES (given for pasting)
-- ===== PART A: goes FIRST, ahead of the names: the tables' words, and 'selects' of the private methods out of them =====
/-- a private method of a class that the tables say can be made, by its rows of tables_1 -/
def lw_okq (q : MethodName × Nat) : Prop := (q.1.cls ≠ "java/lang/invoke/MethodHandle" ∧ q.1.cls ≠ "java/lang/invoke/VarHandle") ∧ Cond.instantiable q.1.cls q.2 ∈ tables_1 ∧ Cond.privateMethod q.1 ∈ tables_1 ∧ Cond.instanceMethod q.1 ∈ tables_1
theorem lw_p0 : lw_okq (⟨"OrbitMailbox", "isStation", "(I)Z"⟩, 4) := ⟨⟨by decide +kernel, by decide +kernel⟩, List.mem_of_getElem? (i := 12) (by decide +kernel), List.mem_of_getElem? (i := 318) (by decide +kernel), List.mem_of_getElem? (i := 319) (by decide +kernel)⟩
theorem lw_p1 : lw_okq (⟨"OrbitMailbox$Station", "placeOf", "(I)I"⟩, 11) := ⟨⟨by decide +kernel, by decide +kernel⟩, List.mem_of_getElem? (i := 159) (by decide +kernel), List.mem_of_getElem? (i := 331) (by decide +kernel), List.mem_of_getElem? (i := 332) (by decide +kernel)⟩
theorem lw_p2 : lw_okq (⟨"OrbitMailbox$Satellite", "mayAsk", "(I)Z"⟩, 7) := ⟨⟨by decide +kernel, by decide +kernel⟩, List.mem_of_getElem? (i := 49) (by decide +kernel), List.mem_of_getElem? (i := 363) (by decide +kernel), List.mem_of_getElem? (i := 364) (by decide +kernel)⟩
theorem lw_p3 : lw_okq (⟨"OrbitMailbox$Station", "phaseAt", "(I)I"⟩, 11) := ⟨⟨by decide +kernel, by decide +kernel⟩, List.mem_of_getElem? (i := 159) (by decide +kernel), List.mem_of_getElem? (i := 371) (by decide +kernel), List.mem_of_getElem? (i := 372) (by decide +kernel)⟩
theorem lw_p4 : lw_okq (⟨"OrbitMailbox$Satellite", "putFirstHoles", "(IILOrbitMailbox$Intervals;I)I"⟩, 7) := ⟨⟨by decide +kernel, by decide +kernel⟩, List.mem_of_getElem? (i := 49) (by decide +kernel), List.mem_of_getElem? (i := 386) (by decide +kernel), List.mem_of_getElem? (i := 387) (by decide +kernel)⟩
theorem lw_p5 : lw_okq (⟨"OrbitMailbox$Intervals", "insert", "(III)Z"⟩, 3) := ⟨⟨by decide +kernel, by decide +kernel⟩, List.mem_of_getElem? (i := 70) (by decide +kernel), List.mem_of_getElem? (i := 404) (by decide +kernel), List.mem_of_getElem? (i := 405) (by decide +kernel)⟩
theorem lw_p6 : lw_okq (⟨"OrbitMailbox$Intervals", "removeRange", "(II)V"⟩, 3) := ⟨⟨by decide +kernel, by decide +kernel⟩, List.mem_of_getElem? (i := 70) (by decide +kernel), List.mem_of_getElem? (i := 411) (by decide +kernel), List.mem_of_getElem? (i := 412) (by decide +kernel)⟩
theorem lw_p7 : lw_okq (⟨"OrbitMailbox$Satellite", "dropRequests", "()V"⟩, 7) := ⟨⟨by decide +kernel, by decide +kernel⟩, List.mem_of_getElem? (i := 49) (by decide +kernel), List.mem_of_getElem? (i := 439) (by decide +kernel), List.mem_of_getElem? (i := 440) (by decide +kernel)⟩
theorem lw_p8 : lw_okq (⟨"OrbitMailbox$Satellite", "deliver", "()V"⟩, 7) := ⟨⟨by decide +kernel, by decide +kernel⟩, List.mem_of_getElem? (i := 49) (by decide +kernel), List.mem_of_getElem? (i := 464) (by decide +kernel), List.mem_of_getElem? (i := 465) (by decide +kernel)⟩
theorem lw_p9 : lw_okq (⟨"OrbitMailbox$Station", "takeBytes", "(LOrbitMailbox$Frame;)V"⟩, 11) := ⟨⟨by decide +kernel, by decide +kernel⟩, List.mem_of_getElem? (i := 159) (by decide +kernel), List.mem_of_getElem? (i := 480) (by decide +kernel), List.mem_of_getElem? (i := 481) (by decide +kernel)⟩
theorem lw_p10 : lw_okq (⟨"OrbitMailbox$Station", "takeEntry", "(LOrbitMailbox$Frame;)V"⟩, 11) := ⟨⟨by decide +kernel, by decide +kernel⟩, List.mem_of_getElem? (i := 159) (by decide +kernel), List.mem_of_getElem? (i := 490) (by decide +kernel), List.mem_of_getElem? (i := 491) (by decide +kernel)⟩
theorem lw_p11 : lw_okq (⟨"OrbitMailbox$Satellite", "send", "(LOrbitMailbox$Request;)V"⟩, 7) := ⟨⟨by decide +kernel, by decide +kernel⟩, List.mem_of_getElem? (i := 49) (by decide +kernel), List.mem_of_getElem? (i := 494) (by decide +kernel), List.mem_of_getElem? (i := 495) (by decide +kernel)⟩
theorem lw_p12 : lw_okq (⟨"OrbitMailbox$Satellite", "sendEntry", "(LOrbitMailbox$Intervals;)V"⟩, 7) := ⟨⟨by decide +kernel, by decide +kernel⟩, List.mem_of_getElem? (i := 49) (by decide +kernel), List.mem_of_getElem? (i := 498) (by decide +kernel), List.mem_of_getElem? (i := 499) (by decide +kernel)⟩
theorem lw_p13 : lw_okq (⟨"OrbitMailbox$Satellite", "sendBytes", "(ILOrbitMailbox$Intervals;)V"⟩, 7) := ⟨⟨by decide +kernel, by decide +kernel⟩, List.mem_of_getElem? (i := 49) (by decide +kernel), List.mem_of_getElem? (i := 514) (by decide +kernel), List.mem_of_getElem? (i := 515) (by decide +kernel)⟩
theorem lw_p14 : lw_okq (⟨"OrbitMailbox$Satellite", "settle", "(I)V"⟩, 7) := ⟨⟨by decide +kernel, by decide +kernel⟩, List.mem_of_getElem? (i := 49) (by decide +kernel), List.mem_of_getElem? (i := 518) (by decide +kernel), List.mem_of_getElem? (i := 519) (by decide +kernel)⟩
theorem lw_p15 : lw_okq (⟨"OrbitMailbox$RequestText", "readSubject", "()Z"⟩, 6) := ⟨⟨by decide +kernel, by decide +kernel⟩, List.mem_of_getElem? (i := 241) (by decide +kernel), List.mem_of_getElem? (i := 702) (by decide +kernel), List.mem_of_getElem? (i := 703) (by decide +kernel)⟩
def lw_privs_1 : List (MethodName × Nat) := [(⟨"OrbitMailbox", "isStation", "(I)Z"⟩, 4), (⟨"OrbitMailbox$Station", "placeOf", "(I)I"⟩, 11), (⟨"OrbitMailbox$Satellite", "mayAsk", "(I)Z"⟩, 7), (⟨"OrbitMailbox$Station", "phaseAt", "(I)I"⟩, 11), (⟨"OrbitMailbox$Satellite", "putFirstHoles", "(IILOrbitMailbox$Intervals;I)I"⟩, 7), (⟨"OrbitMailbox$Intervals", "insert", "(III)Z"⟩, 3), (⟨"OrbitMailbox$Intervals", "removeRange", "(II)V"⟩, 3), (⟨"OrbitMailbox$Satellite", "dropRequests", "()V"⟩, 7), (⟨"OrbitMailbox$Satellite", "deliver", "()V"⟩, 7), (⟨"OrbitMailbox$Station", "takeBytes", "(LOrbitMailbox$Frame;)V"⟩, 11), (⟨"OrbitMailbox$Station", "takeEntry", "(LOrbitMailbox$Frame;)V"⟩, 11), (⟨"OrbitMailbox$Satellite", "send", "(LOrbitMailbox$Request;)V"⟩, 7), (⟨"OrbitMailbox$Satellite", "sendEntry", "(LOrbitMailbox$Intervals;)V"⟩, 7), (⟨"OrbitMailbox$Satellite", "sendBytes", "(ILOrbitMailbox$Intervals;)V"⟩, 7), (⟨"OrbitMailbox$Satellite", "settle", "(I)V"⟩, 7), (⟨"OrbitMailbox$RequestText", "readSubject", "()Z"⟩, 6)]
theorem lw_r1 : ∀ q ∈ lw_privs_1, lw_okq q := List.forall_mem_cons.mpr ⟨lw_p0, List.forall_mem_cons.mpr ⟨lw_p1, List.forall_mem_cons.mpr ⟨lw_p2, List.forall_mem_cons.mpr ⟨lw_p3, List.forall_mem_cons.mpr ⟨lw_p4, List.forall_mem_cons.mpr ⟨lw_p5, List.forall_mem_cons.mpr ⟨lw_p6, List.forall_mem_cons.mpr ⟨lw_p7, List.forall_mem_cons.mpr ⟨lw_p8, List.forall_mem_cons.mpr ⟨lw_p9, List.forall_mem_cons.mpr ⟨lw_p10, List.forall_mem_cons.mpr ⟨lw_p11, List.forall_mem_cons.mpr ⟨lw_p12, List.forall_mem_cons.mpr ⟨lw_p13, List.forall_mem_cons.mpr ⟨lw_p14, List.forall_mem_cons.mpr ⟨lw_p15, fun _ h => absurd h List.not_mem_nil⟩⟩⟩⟩⟩⟩⟩⟩⟩⟩⟩⟩⟩⟩⟩⟩
theorem lw_p16 : lw_okq (⟨"OrbitMailbox$RequestText", "skip", "(C)Z"⟩, 6) := ⟨⟨by decide +kernel, by decide +kernel⟩, List.mem_of_getElem? (i := 241) (by decide +kernel), List.mem_of_getElem? (i := 706) (by decide +kernel), List.mem_of_getElem? (i := 707) (by decide +kernel)⟩
theorem lw_p17 : lw_okq (⟨"OrbitMailbox$RequestText", "readNumber", "(I)Z"⟩, 6) := ⟨⟨by decide +kernel, by decide +kernel⟩, List.mem_of_getElem? (i := 241) (by decide +kernel), List.mem_of_getElem? (i := 710) (by decide +kernel), List.mem_of_getElem? (i := 711) (by decide +kernel)⟩
theorem lw_p18 : lw_okq (⟨"OrbitMailbox$RequestText", "isDigit", "(I)Z"⟩, 6) := ⟨⟨by decide +kernel, by decide +kernel⟩, List.mem_of_getElem? (i := 241) (by decide +kernel), List.mem_of_getElem? (i := 714) (by decide +kernel), List.mem_of_getElem? (i := 715) (by decide +kernel)⟩
theorem lw_p19 : lw_okq (⟨"OrbitMailbox$RequestText", "readHoles", "()Z"⟩, 6) := ⟨⟨by decide +kernel, by decide +kernel⟩, List.mem_of_getElem? (i := 241) (by decide +kernel), List.mem_of_getElem? (i := 718) (by decide +kernel), List.mem_of_getElem? (i := 719) (by decide +kernel)⟩
def lw_privs_2 : List (MethodName × Nat) := [(⟨"OrbitMailbox$RequestText", "skip", "(C)Z"⟩, 6), (⟨"OrbitMailbox$RequestText", "readNumber", "(I)Z"⟩, 6), (⟨"OrbitMailbox$RequestText", "isDigit", "(I)Z"⟩, 6), (⟨"OrbitMailbox$RequestText", "readHoles", "()Z"⟩, 6)]
theorem lw_r2 : ∀ q ∈ lw_privs_2, lw_okq q := List.forall_mem_cons.mpr ⟨lw_p16, List.forall_mem_cons.mpr ⟨lw_p17, List.forall_mem_cons.mpr ⟨lw_p18, List.forall_mem_cons.mpr ⟨lw_p19, fun _ h => absurd h List.not_mem_nil⟩⟩⟩⟩
def lw_privs : List (MethodName × Nat) := lw_privs_1 ++ (lw_privs_2)
def lw_tbl : List Cond := k2_sels lw_privs ++ tables_1
theorem lw_privs_ok : ∀ q ∈ lw_privs, lw_okq q := by
  show ∀ q ∈ lw_privs_1 ++ (lw_privs_2), lw_okq q
  exact List.forall_mem_append.mpr ⟨lw_r1, lw_r2⟩

/-! ===== BEGIN words of one list among another's, by their places ===== -/
theorem goodIn_r {big : List Cond} (ws : List Cond) (ps : List Nat) (hp : ws = ps.filterMap (fun i => big[i]?)) (h : ws.all goodWord = true) : GoodIn big ws := by
  intro w hw
  have h1 := List.all_eq_true.mp h w hw
  rw [hp] at hw
  obtain ⟨i, -, hi⟩ := List.mem_filterMap.mp hw
  have hm : w ∈ big := by first | exact List.mem_of_getElem? hi | exact List.getElem?_mem hi
  exact ⟨hm, good_of_word h1⟩
theorem goodIn_app {big a b : List Cond} (ha : GoodIn big a) (hb : GoodIn big b) : GoodIn big (a ++ b) := fun w h => (List.mem_append.mp h).elim (ha w) (hb w)
theorem goodIn_ca {big a b : List Cond} {c : Cond} (ha : GoodIn big (c :: a)) (hb : GoodIn big b) : GoodIn big (c :: (a ++ b)) := fun w h => (List.mem_cons.mp h).elim (fun e => ha w (List.mem_cons.mpr (Or.inl e))) (fun h => (List.mem_append.mp h).elim (fun h => ha w (List.mem_cons.mpr (Or.inr h))) (hb w))
theorem goodIn_sub {big ws : List Cond} (hm : ∀ w ∈ ws, w ∈ big) (h : ws.all goodWord = true) : GoodIn big ws := fun w hw => ⟨hm w hw, good_of_word (List.all_eq_true.mp h w hw)⟩
/-! ===== END ===== -/

/-! ===== BEGIN printed: names, fields, word lists, decode rows ===== -/
def RX0 : String := "OrbitMailbox$Files"
def TX0 : u_T := fun k => match k with
  | 0 => ("OrbitMailbox$Files", "lengths", "[I", true)
  | 1 => ("OrbitMailbox$Files", "seeds", "[I", true)
  | 2 => ("OrbitMailbox$Files", "lifetimes", "[I", true)
  | 3 => ("OrbitMailbox$Files", "storedAt", "[I", true)
  | _ => ("OrbitMailbox$Files", "count", "I", false)
def tyX0 : Nat → FieldType := fun k => match k with
  | 0 => .array .int
  | 1 => .array .int
  | 2 => .array .int
  | 3 => .array .int
  | _ => .int
abbrev wsX00 : List Cond := u_ws RX0 TX0 5
theorem nmX0 : ∀ a, a < 5 → ∀ b, b < 5 → a ≠ b → (TX0 a).2.1 ≠ (TX0 b).2.1 := by decide +kernel
theorem tyX0_ok : ∀ k, k < 5 → parseFieldDescriptor (TX0 k).2.2.1 = some (tyX0 k) := by decide +kernel
abbrev cX0_init : ByteArray := prog_2_method_1_code
def yX0_init : MethodName := ⟨RX0, "<init>", "()V"⟩
abbrev cX0_isStored : ByteArray := prog_2_method_2_code
def yX0_isStored : MethodName := ⟨RX0, "isStored", "(I)Z"⟩
abbrev cX0_exists : ByteArray := prog_2_method_3_code
def yX0_exists : MethodName := ⟨RX0, "exists", "(II)Z"⟩
abbrev cX0_hasStoredAt : ByteArray := prog_2_method_4_code
def yX0_hasStoredAt : MethodName := ⟨RX0, "hasStoredAt", "(I)Z"⟩
abbrev cX0_countExisting : ByteArray := prog_2_method_5_code
def yX0_countExisting : MethodName := ⟨RX0, "countExisting", "(I)I"⟩
abbrev cX0_put : ByteArray := prog_2_method_6_code
def yX0_put : MethodName := ⟨RX0, "put", "(IIII)I"⟩
abbrev cX0_byteAt : ByteArray := prog_2_method_7_code
def yX0_byteAt : MethodName := ⟨RX0, "byteAt", "(II)I"⟩
abbrev cX0_firstStoredFrom : ByteArray := prog_2_method_8_code
def yX0_firstStoredFrom : MethodName := ⟨RX0, "firstStoredFrom", "(II)I"⟩
abbrev cX0_lastStoringBefore : ByteArray := prog_2_method_9_code
def yX0_lastStoringBefore : MethodName := ⟨RX0, "lastStoringBefore", "(II)I"⟩
def RX1 : String := "OrbitMailbox$Frame"
def TX1 : u_T := fun k => match k with
  | 0 => ("OrbitMailbox$Frame", "isSent", "Z", false)
  | 1 => ("OrbitMailbox$Frame", "kind", "I", false)
  | 2 => ("OrbitMailbox$Frame", "file", "I", false)
  | 3 => ("OrbitMailbox$Frame", "first", "I", false)
  | 4 => ("OrbitMailbox$Frame", "last", "I", false)
  | _ => ("OrbitMailbox$Frame", "receivers", "I", false)
def tyX1 : Nat → FieldType := fun k => match k with
  | 0 => .boolean
  | 1 => .int
  | 2 => .int
  | 3 => .int
  | 4 => .int
  | _ => .int
abbrev wsX10 : List Cond := u_ws RX1 TX1 6
theorem nmX1 : ∀ a, a < 6 → ∀ b, b < 6 → a ≠ b → (TX1 a).2.1 ≠ (TX1 b).2.1 := by decide +kernel
theorem tyX1_ok : ∀ k, k < 6 → parseFieldDescriptor (TX1 k).2.2.1 = some (tyX1 k) := by decide +kernel
abbrev cX1_init : ByteArray := prog_3_method_1_code
def yX1_init : MethodName := ⟨RX1, "<init>", "()V"⟩
abbrev cX1_fill : ByteArray := prog_3_method_2_code
def yX1_fill : MethodName := ⟨RX1, "fill", "(IIII)V"⟩
def RX2 : String := "OrbitMailbox$Intervals"
def TX2 : u_T := fun k => match k with
  | 0 => ("OrbitMailbox$Intervals", "begins", "[I", true)
  | 1 => ("OrbitMailbox$Intervals", "ends", "[I", true)
  | _ => ("OrbitMailbox$Intervals", "count", "I", false)
def tyX2 : Nat → FieldType := fun k => match k with
  | 0 => .array .int
  | 1 => .array .int
  | _ => .int
abbrev wsX20 : List Cond := u_ws RX2 TX2 3
theorem nmX2 : ∀ a, a < 3 → ∀ b, b < 3 → a ≠ b → (TX2 a).2.1 ≠ (TX2 b).2.1 := by decide +kernel
theorem tyX2_ok : ∀ k, k < 3 → parseFieldDescriptor (TX2 k).2.2.1 = some (tyX2 k) := by decide +kernel
abbrev cX2_init : ByteArray := prog_4_method_1_code
def yX2_init : MethodName := ⟨RX2, "<init>", "()V"⟩
abbrev cX2_clear : ByteArray := prog_4_method_2_code
def yX2_clear : MethodName := ⟨RX2, "clear", "()V"⟩
abbrev cX2_copyFrom : ByteArray := prog_4_method_3_code
def yX2_copyFrom : MethodName := ⟨RX2, "copyFrom", "(LOrbitMailbox$Intervals;)V"⟩
abbrev cX2_size : ByteArray := prog_4_method_4_code
def yX2_size : MethodName := ⟨RX2, "size", "()I"⟩
abbrev cX2_overlap : ByteArray := prog_4_method_5_code
def yX2_overlap : MethodName := ⟨RX2, "overlap", "(II)I"⟩
abbrev cX2_add : ByteArray := prog_4_method_6_code
def yX2_add : MethodName := ⟨RX2, "add", "(II)Z"⟩
abbrev cX2_cutFirst : ByteArray := prog_4_method_7_code
def yX2_cutFirst : MethodName := ⟨RX2, "cutFirst", "(I)V"⟩
abbrev cX2_number : ByteArray := prog_4_method_8_code
def yX2_number : MethodName := ⟨RX2, "number", "(I)I"⟩
abbrev cX2_holeNumber : ByteArray := prog_4_method_9_code
def yX2_holeNumber : MethodName := ⟨RX2, "holeNumber", "(II)I"⟩
abbrev cX2_insert : ByteArray := prog_4_method_10_code
def yX2_insert : MethodName := ⟨RX2, "insert", "(III)Z"⟩
abbrev cX2_removeRange : ByteArray := prog_4_method_11_code
def yX2_removeRange : MethodName := ⟨RX2, "removeRange", "(II)V"⟩
def RX3 : String := "OrbitMailbox$Queue"
def TX3 : u_T := fun k => match k with
  | 0 => ("OrbitMailbox$Queue", "requests", "[LOrbitMailbox$Request;", true)
  | _ => ("OrbitMailbox$Queue", "length", "I", false)
def tyX3 : Nat → FieldType := fun k => match k with
  | 0 => .array (.object "OrbitMailbox$Request")
  | _ => .int
abbrev wsX30 : List Cond := u_ws RX3 TX3 2
theorem nmX3 : ∀ a, a < 2 → ∀ b, b < 2 → a ≠ b → (TX3 a).2.1 ≠ (TX3 b).2.1 := by decide +kernel
theorem tyX3_ok : ∀ k, k < 2 → parseFieldDescriptor (TX3 k).2.2.1 = some (tyX3 k) := by decide +kernel
abbrev cX3_init : ByteArray := prog_5_method_1_code
def yX3_init : MethodName := ⟨RX3, "<init>", "()V"⟩
abbrev cX3_copyFrom : ByteArray := prog_5_method_2_code
def yX3_copyFrom : MethodName := ⟨RX3, "copyFrom", "(LOrbitMailbox$Queue;)V"⟩
abbrev cX3_placeOf : ByteArray := prog_5_method_3_code
def yX3_placeOf : MethodName := ⟨RX3, "placeOf", "(I)I"⟩
abbrev cX3_placeToSend : ByteArray := prog_5_method_4_code
def yX3_placeToSend : MethodName := ⟨RX3, "placeToSend", "()I"⟩
abbrev cX3_put : ByteArray := prog_5_method_5_code
def yX3_put : MethodName := ⟨RX3, "put", "(II)LOrbitMailbox$Request;"⟩
abbrev cX3_moveToEnd : ByteArray := prog_5_method_6_code
def yX3_moveToEnd : MethodName := ⟨RX3, "moveToEnd", "(I)V"⟩
abbrev cX3_remove : ByteArray := prog_5_method_7_code
def yX3_remove : MethodName := ⟨RX3, "remove", "(I)V"⟩
def RX4 : String := "OrbitMailbox$Request"
def TX4 : u_T := fun k => match k with
  | 0 => ("OrbitMailbox$Request", "station", "I", false)
  | 1 => ("OrbitMailbox$Request", "file", "I", false)
  | 2 => ("OrbitMailbox$Request", "framesLeft", "I", false)
  | _ => ("OrbitMailbox$Request", "holes", "LOrbitMailbox$Intervals;", true)
def tyX4 : Nat → FieldType := fun k => match k with
  | 0 => .int
  | 1 => .int
  | 2 => .int
  | _ => .object "OrbitMailbox$Intervals"
abbrev wsX40 : List Cond := u_ws RX4 TX4 4
theorem nmX4 : ∀ a, a < 4 → ∀ b, b < 4 → a ≠ b → (TX4 a).2.1 ≠ (TX4 b).2.1 := by decide +kernel
theorem tyX4_ok : ∀ k, k < 4 → parseFieldDescriptor (TX4 k).2.2.1 = some (tyX4 k) := by decide +kernel
abbrev cX4_init : ByteArray := prog_6_method_1_code
def yX4_init : MethodName := ⟨RX4, "<init>", "()V"⟩
abbrev cX4_isForDirectory : ByteArray := prog_6_method_2_code
def yX4_isForDirectory : MethodName := ⟨RX4, "isForDirectory", "()Z"⟩
abbrev cX4_begin : ByteArray := prog_6_method_3_code
def yX4_begin : MethodName := ⟨RX4, "begin", "(II)V"⟩
abbrev cX4_copyFrom : ByteArray := prog_6_method_4_code
def yX4_copyFrom : MethodName := ⟨RX4, "copyFrom", "(LOrbitMailbox$Request;)V"⟩
def RX5 : String := "OrbitMailbox$RequestText"
def TX5 : u_T := fun k => match k with
  | 0 => ("OrbitMailbox$RequestText", "characters", "[C", true)
  | 1 => ("OrbitMailbox$RequestText", "length", "I", false)
  | 2 => ("OrbitMailbox$RequestText", "position", "I", false)
  | 3 => ("OrbitMailbox$RequestText", "file", "I", false)
  | 4 => ("OrbitMailbox$RequestText", "holes", "LOrbitMailbox$Intervals;", true)
  | _ => ("OrbitMailbox$RequestText", "lastNumber", "I", false)
def tyX5 : Nat → FieldType := fun k => match k with
  | 0 => .array .char
  | 1 => .int
  | 2 => .int
  | 3 => .int
  | 4 => .object "OrbitMailbox$Intervals"
  | _ => .int
abbrev wsX50 : List Cond := u_ws RX5 TX5 6
theorem nmX5 : ∀ a, a < 6 → ∀ b, b < 6 → a ≠ b → (TX5 a).2.1 ≠ (TX5 b).2.1 := by decide +kernel
theorem tyX5_ok : ∀ k, k < 6 → parseFieldDescriptor (TX5 k).2.2.1 = some (tyX5 k) := by decide +kernel
abbrev cX5_init : ByteArray := prog_7_method_1_code
def yX5_init : MethodName := ⟨RX5, "<init>", "()V"⟩
abbrev cX5_append : ByteArray := prog_7_method_2_code
def yX5_append : MethodName := ⟨RX5, "append", "(C)Z"⟩
abbrev cX5_read : ByteArray := prog_7_method_3_code
def yX5_read : MethodName := ⟨RX5, "read", "()Z"⟩
abbrev cX5_readSubject : ByteArray := prog_7_method_4_code
def yX5_readSubject : MethodName := ⟨RX5, "readSubject", "()Z"⟩
abbrev cX5_readHoles : ByteArray := prog_7_method_5_code
def yX5_readHoles : MethodName := ⟨RX5, "readHoles", "()Z"⟩
abbrev cX5_skip : ByteArray := prog_7_method_6_code
def yX5_skip : MethodName := ⟨RX5, "skip", "(C)Z"⟩
abbrev cX5_readNumber : ByteArray := prog_7_method_7_code
def yX5_readNumber : MethodName := ⟨RX5, "readNumber", "(I)Z"⟩
abbrev cX5_isDigit : ByteArray := prog_7_method_8_code
def yX5_isDigit : MethodName := ⟨RX5, "isDigit", "(I)Z"⟩
def RX6 : String := "OrbitMailbox$Satellite"
def TX6 : u_T := fun k => match k with
  | 0 => ("OrbitMailbox$Satellite", "files", "LOrbitMailbox$Files;", true)
  | 1 => ("OrbitMailbox$Satellite", "stations", "[LOrbitMailbox$Station;", true)
  | 2 => ("OrbitMailbox$Satellite", "stationCount", "I", false)
  | 3 => ("OrbitMailbox$Satellite", "queue", "LOrbitMailbox$Queue;", true)
  | 4 => ("OrbitMailbox$Satellite", "frame", "LOrbitMailbox$Frame;", true)
  | 5 => ("OrbitMailbox$Satellite", "counts", "[I", true)
  | _ => ("OrbitMailbox$Satellite", "now", "I", false)
def tyX6 : Nat → FieldType := fun k => match k with
  | 0 => .object "OrbitMailbox$Files"
  | 1 => .array (.object "OrbitMailbox$Station")
  | 2 => .int
  | 3 => .object "OrbitMailbox$Queue"
  | 4 => .object "OrbitMailbox$Frame"
  | 5 => .array .int
  | _ => .int
abbrev wsX60 : List Cond := u_ws RX6 TX6 7
theorem nmX6 : ∀ a, a < 7 → ∀ b, b < 7 → a ≠ b → (TX6 a).2.1 ≠ (TX6 b).2.1 := by decide +kernel
theorem tyX6_ok : ∀ k, k < 7 → parseFieldDescriptor (TX6 k).2.2.1 = some (tyX6 k) := by decide +kernel
abbrev cX6_init : ByteArray := prog_8_method_1_code
def yX6_init : MethodName := ⟨RX6, "<init>", "(LOrbitMailbox$Files;)V"⟩
abbrev cX6_copyFrom : ByteArray := prog_8_method_2_code
def yX6_copyFrom : MethodName := ⟨RX6, "copyFrom", "(LOrbitMailbox$Satellite;)V"⟩
abbrev cX6_admit : ByteArray := prog_8_method_3_code
def yX6_admit : MethodName := match (tables_1[568]? : Option Cond) with | some (Cond.instanceMethod q) => q | _ => yX6_copyFrom
abbrev cX6_isComplete : ByteArray := prog_8_method_4_code
def yX6_isComplete : MethodName := ⟨RX6, "isComplete", "(II)Z"⟩
abbrev cX6_askDirectory : ByteArray := prog_8_method_5_code
def yX6_askDirectory : MethodName := ⟨RX6, "askDirectory", "(I)I"⟩
abbrev cX6_askFile : ByteArray := prog_8_method_6_code
def yX6_askFile : MethodName := ⟨RX6, "askFile", "(II)I"⟩
abbrev cX6_askHoles : ByteArray := prog_8_method_7_code
def yX6_askHoles : MethodName := ⟨RX6, "askHoles", "(IILOrbitMailbox$Intervals;)I"⟩
abbrev cX6_tick : ByteArray := prog_8_method_8_code
def yX6_tick : MethodName := ⟨RX6, "tick", "()V"⟩
abbrev cX6_mayAsk : ByteArray := prog_8_method_9_code
def yX6_mayAsk : MethodName := ⟨RX6, "mayAsk", "(I)Z"⟩
abbrev cX6_putFirstHoles : ByteArray := prog_8_method_10_code
def yX6_putFirstHoles : MethodName := ⟨RX6, "putFirstHoles", "(IILOrbitMailbox$Intervals;I)I"⟩
abbrev cX6_dropRequests : ByteArray := prog_8_method_11_code
def yX6_dropRequests : MethodName := ⟨RX6, "dropRequests", "()V"⟩
abbrev cX6_send : ByteArray := prog_8_method_12_code
def yX6_send : MethodName := ⟨RX6, "send", "(LOrbitMailbox$Request;)V"⟩
abbrev cX6_sendBytes : ByteArray := prog_8_method_13_code
def yX6_sendBytes : MethodName := ⟨RX6, "sendBytes", "(ILOrbitMailbox$Intervals;)V"⟩
abbrev cX6_sendEntry : ByteArray := prog_8_method_14_code
def yX6_sendEntry : MethodName := ⟨RX6, "sendEntry", "(LOrbitMailbox$Intervals;)V"⟩
abbrev cX6_deliver : ByteArray := prog_8_method_15_code
def yX6_deliver : MethodName := ⟨RX6, "deliver", "()V"⟩
abbrev cX6_settle : ByteArray := prog_8_method_16_code
def yX6_settle : MethodName := ⟨RX6, "settle", "(I)V"⟩
def RX7 : String := "OrbitMailbox$Station"
def TX7 : u_T := fun k => match k with
  | 0 => ("OrbitMailbox$Station", "number", "I", true)
  | 1 => ("OrbitMailbox$Station", "period", "I", false)
  | 2 => ("OrbitMailbox$Station", "offset", "I", false)
  | 3 => ("OrbitMailbox$Station", "duration", "I", false)
  | 4 => ("OrbitMailbox$Station", "priority", "I", false)
  | 5 => ("OrbitMailbox$Station", "loss", "I", false)
  | 6 => ("OrbitMailbox$Station", "knownFiles", "I", false)
  | 7 => ("OrbitMailbox$Station", "times", "LOrbitMailbox$Intervals;", true)
  | 8 => ("OrbitMailbox$Station", "openFiles", "[I", true)
  | 9 => ("OrbitMailbox$Station", "openBytes", "[LOrbitMailbox$Intervals;", true)
  | _ => ("OrbitMailbox$Station", "counts", "[I", true)
def tyX7 : Nat → FieldType := fun k => match k with
  | 0 => .int
  | 1 => .int
  | 2 => .int
  | 3 => .int
  | 4 => .int
  | 5 => .int
  | 6 => .int
  | 7 => .object "OrbitMailbox$Intervals"
  | 8 => .array .int
  | 9 => .array (.object "OrbitMailbox$Intervals")
  | _ => .array .int
abbrev wsX70 : List Cond := u_ws RX7 TX7 11
theorem nmX7 : ∀ a, a < 11 → ∀ b, b < 11 → a ≠ b → (TX7 a).2.1 ≠ (TX7 b).2.1 := by decide +kernel
theorem tyX7_ok : ∀ k, k < 11 → parseFieldDescriptor (TX7 k).2.2.1 = some (tyX7 k) := by decide +kernel
abbrev cX7_init : ByteArray := prog_9_method_1_code
def yX7_init : MethodName := ⟨RX7, "<init>", "(I)V"⟩
abbrev cX7_copyFrom : ByteArray := prog_9_method_2_code
def yX7_copyFrom : MethodName := ⟨RX7, "copyFrom", "(LOrbitMailbox$Station;)V"⟩
abbrev cX7_sees : ByteArray := prog_9_method_3_code
def yX7_sees : MethodName := ⟨RX7, "sees", "(I)Z"⟩
abbrev cX7_firstSight : ByteArray := prog_9_method_4_code
def yX7_firstSight : MethodName := ⟨RX7, "firstSight", "(I)I"⟩
abbrev cX7_isHit : ByteArray := prog_9_method_5_code
def yX7_isHit : MethodName := ⟨RX7, "isHit", "(I)Z"⟩
abbrev cX7_knows : ByteArray := prog_9_method_6_code
def yX7_knows : MethodName := ⟨RX7, "knows", "(I)Z"⟩
abbrev cX7_countOpen : ByteArray := prog_9_method_7_code
def yX7_countOpen : MethodName := ⟨RX7, "countOpen", "()I"⟩
abbrev cX7_bytesOf : ByteArray := prog_9_method_8_code
def yX7_bytesOf : MethodName := ⟨RX7, "bytesOf", "(I)LOrbitMailbox$Intervals;"⟩
abbrev cX7_beginFile : ByteArray := prog_9_method_9_code
def yX7_beginFile : MethodName := ⟨RX7, "beginFile", "(I)Z"⟩
abbrev cX7_endFile : ByteArray := prog_9_method_10_code
def yX7_endFile : MethodName := ⟨RX7, "endFile", "(I)V"⟩
abbrev cX7_take : ByteArray := prog_9_method_11_code
def yX7_take : MethodName := ⟨RX7, "take", "(LOrbitMailbox$Frame;)V"⟩
abbrev cX7_takeBytes : ByteArray := prog_9_method_12_code
def yX7_takeBytes : MethodName := ⟨RX7, "takeBytes", "(LOrbitMailbox$Frame;)V"⟩
abbrev cX7_takeEntry : ByteArray := prog_9_method_13_code
def yX7_takeEntry : MethodName := ⟨RX7, "takeEntry", "(LOrbitMailbox$Frame;)V"⟩
abbrev cX7_phaseAt : ByteArray := prog_9_method_14_code
def yX7_phaseAt : MethodName := ⟨RX7, "phaseAt", "(I)I"⟩
abbrev cX7_placeOf : ByteArray := prog_9_method_15_code
def yX7_placeOf : MethodName := ⟨RX7, "placeOf", "(I)I"⟩
def RX8 : String := "OrbitMailbox"
def TX8 : u_T := fun k => match k with
  | 0 => ("OrbitMailbox", "files", "LOrbitMailbox$Files;", true)
  | 1 => ("OrbitMailbox", "satellite", "LOrbitMailbox$Satellite;", true)
  | 2 => ("OrbitMailbox", "imagined", "LOrbitMailbox$Satellite;", true)
  | _ => ("OrbitMailbox", "text", "LOrbitMailbox$RequestText;", true)
def tyX8 : Nat → FieldType := fun k => match k with
  | 0 => .object "OrbitMailbox$Files"
  | 1 => .object "OrbitMailbox$Satellite"
  | 2 => .object "OrbitMailbox$Satellite"
  | _ => .object "OrbitMailbox$RequestText"
abbrev wsX80 : List Cond := u_ws RX8 TX8 4
theorem nmX8 : ∀ a, a < 4 → ∀ b, b < 4 → a ≠ b → (TX8 a).2.1 ≠ (TX8 b).2.1 := by decide +kernel
theorem tyX8_ok : ∀ k, k < 4 → parseFieldDescriptor (TX8 k).2.2.1 = some (tyX8 k) := by decide +kernel
abbrev cX8_init : ByteArray := prog_1_method_1_code
def yX8_init : MethodName := ⟨RX8, "<init>", "()V"⟩
abbrev cX8_addStation : ByteArray := prog_1_method_2_code
def yX8_addStation : MethodName := ⟨RX8, "addStation", "(IIII)I"⟩
abbrev cX8_setLoss : ByteArray := prog_1_method_3_code
def yX8_setLoss : MethodName := ⟨RX8, "setLoss", "(II)I"⟩
abbrev cX8_inView : ByteArray := prog_1_method_4_code
def yX8_inView : MethodName := ⟨RX8, "inView", "(II)I"⟩
abbrev cX8_nextView : ByteArray := prog_1_method_5_code
def yX8_nextView : MethodName := ⟨RX8, "nextView", "(II)I"⟩
abbrev cX8_receives : ByteArray := prog_1_method_6_code
def yX8_receives : MethodName := ⟨RX8, "receives", "(II)I"⟩
abbrev cX8_store : ByteArray := prog_1_method_7_code
def yX8_store : MethodName := ⟨RX8, "store", "(III)I"⟩
abbrev cX8_fileInfo : ByteArray := prog_1_method_8_code
def yX8_fileInfo : MethodName := ⟨RX8, "fileInfo", "(II)I"⟩
abbrev cX8_fileByte : ByteArray := prog_1_method_9_code
def yX8_fileByte : MethodName := ⟨RX8, "fileByte", "(II)I"⟩
abbrev cX8_fileCount : ByteArray := prog_1_method_10_code
def yX8_fileCount : MethodName := ⟨RX8, "fileCount", "()I"⟩
abbrev cX8_existingCount : ByteArray := prog_1_method_11_code
def yX8_existingCount : MethodName := ⟨RX8, "existingCount", "()I"⟩
abbrev cX8_directory : ByteArray := prog_1_method_12_code
def yX8_directory : MethodName := ⟨RX8, "directory", "(I)I"⟩
abbrev cX8_unknownFiles : ByteArray := prog_1_method_13_code
def yX8_unknownFiles : MethodName := ⟨RX8, "unknownFiles", "(I)I"⟩
abbrev cX8_covered : ByteArray := prog_1_method_14_code
def yX8_covered : MethodName := ⟨RX8, "covered", "(II)I"⟩
abbrev cX8_timeHole : ByteArray := prog_1_method_15_code
def yX8_timeHole : MethodName := ⟨RX8, "timeHole", "(II)I"⟩
abbrev cX8_open : ByteArray := prog_1_method_16_code
def yX8_open : MethodName := ⟨RX8, "open", "(II)I"⟩
abbrev cX8_close : ByteArray := prog_1_method_17_code
def yX8_close : MethodName := ⟨RX8, "close", "(II)I"⟩
abbrev cX8_receivedBytes : ByteArray := prog_1_method_18_code
def yX8_receivedBytes : MethodName := ⟨RX8, "receivedBytes", "(II)I"⟩
abbrev cX8_receivedByte : ByteArray := prog_1_method_19_code
def yX8_receivedByte : MethodName := ⟨RX8, "receivedByte", "(III)I"⟩
abbrev cX8_byteHole : ByteArray := prog_1_method_20_code
def yX8_byteHole : MethodName := ⟨RX8, "byteHole", "(III)I"⟩
abbrev cX8_completeFiles : ByteArray := prog_1_method_21_code
def yX8_completeFiles : MethodName := ⟨RX8, "completeFiles", "(I)I"⟩
abbrev cX8_requestDirectory : ByteArray := prog_1_method_22_code
def yX8_requestDirectory : MethodName := ⟨RX8, "requestDirectory", "(I)I"⟩
abbrev cX8_requestFile : ByteArray := prog_1_method_23_code
def yX8_requestFile : MethodName := ⟨RX8, "requestFile", "(II)I"⟩
abbrev cX8_withdraw : ByteArray := prog_1_method_24_code
def yX8_withdraw : MethodName := ⟨RX8, "withdraw", "(I)I"⟩
abbrev cX8_queueLength : ByteArray := prog_1_method_25_code
def yX8_queueLength : MethodName := ⟨RX8, "queueLength", "()I"⟩
abbrev cX8_queued : ByteArray := prog_1_method_26_code
def yX8_queued : MethodName := ⟨RX8, "queued", "(II)I"⟩
abbrev cX8_type : ByteArray := prog_1_method_27_code
def yX8_type : MethodName := ⟨RX8, "type", "(I)I"⟩
abbrev cX8_clearText : ByteArray := prog_1_method_28_code
def yX8_clearText : MethodName := ⟨RX8, "clearText", "()I"⟩
abbrev cX8_fault : ByteArray := prog_1_method_29_code
def yX8_fault : MethodName := ⟨RX8, "fault", "()I"⟩
abbrev cX8_requestText : ByteArray := prog_1_method_30_code
def yX8_requestText : MethodName := ⟨RX8, "requestText", "(I)I"⟩
abbrev cX8_run : ByteArray := prog_1_method_31_code
def yX8_run : MethodName := ⟨RX8, "run", "(I)I"⟩
abbrev cX8_time : ByteArray := prog_1_method_32_code
def yX8_time : MethodName := ⟨RX8, "time", "()I"⟩
abbrev cX8_lastFrame : ByteArray := prog_1_method_33_code
def yX8_lastFrame : MethodName := ⟨RX8, "lastFrame", "(I)I"⟩
abbrev cX8_total : ByteArray := prog_1_method_34_code
def yX8_total : MethodName := ⟨RX8, "total", "(I)I"⟩
abbrev cX8_stationTotal : ByteArray := prog_1_method_35_code
def yX8_stationTotal : MethodName := ⟨RX8, "stationTotal", "(II)I"⟩
abbrev cX8_ticksToComplete : ByteArray := prog_1_method_36_code
def yX8_ticksToComplete : MethodName := ⟨RX8, "ticksToComplete", "(II)I"⟩
abbrev cX8_ticksToEmpty : ByteArray := prog_1_method_37_code
def yX8_ticksToEmpty : MethodName := ⟨RX8, "ticksToEmpty", "()I"⟩
abbrev cX8_isStation : ByteArray := prog_1_method_38_code
def yX8_isStation : MethodName := ⟨RX8, "isStation", "(I)Z"⟩
abbrev cX8_within : ByteArray := prog_1_method_39_code
def yX8_within : MethodName := ⟨RX8, "within", "(III)Z"⟩
def RX9 : String := "OrbitMailboxModel"
def TX9 : u_T := fun k => match k with
  | _ => ("", "", "", false)
def tyX9 : Nat → FieldType := fun k => match k with
  | _ => .int
abbrev wsX90 : List Cond := u_ws RX9 TX9 0
theorem nmX9 : ∀ a, a < 0 → ∀ b, b < 0 → a ≠ b → (TX9 a).2.1 ≠ (TX9 b).2.1 := by decide +kernel
theorem tyX9_ok : ∀ k, k < 0 → parseFieldDescriptor (TX9 k).2.2.1 = some (tyX9 k) := by decide +kernel
def RJ9 : String := "java/lang/Math"
def TJ9 : u_T := fun k => match k with
  | _ => ("", "", "", false)
def tyJ9 : Nat → FieldType := fun k => match k with
  | _ => .int
abbrev wsJ90 : List Cond := u_ws RJ9 TJ9 0
theorem nmJ9 : ∀ a, a < 0 → ∀ b, b < 0 → a ≠ b → (TJ9 a).2.1 ≠ (TJ9 b).2.1 := by decide +kernel
theorem tyJ9_ok : ∀ k, k < 0 → parseFieldDescriptor (TJ9 k).2.2.1 = some (tyJ9 k) := by decide +kernel
abbrev cJ9_max_7cf53 : ByteArray := prog_12_method_65_code
def yJ9_max_7cf53 : MethodName := ⟨RJ9, "max", "(II)I"⟩
abbrev cJ9_min_7cf53 : ByteArray := prog_12_method_69_code
def yJ9_min_7cf53 : MethodName := ⟨RJ9, "min", "(II)I"⟩
def RL : String := "OrbitMailboxLaw"
abbrev cL_part : ByteArray := method_2_code
def yL_part : MethodName := ⟨RL, "part", "(II)I"⟩
abbrev cL_cell : ByteArray := method_3_code
def yL_cell : MethodName := ⟨RL, "cell", "([II)I"⟩
abbrev cL_adds : ByteArray := method_4_code
def yL_adds : MethodName := ⟨RL, "adds", "(LOrbitMailbox;[I[II)I"⟩
abbrev cL_digest : ByteArray := method_7_code
def yL_digest : MethodName := ⟨RL, "digest", "(LOrbitMailbox;)J"⟩
abbrev cL_refused : ByteArray := method_8_code
def yL_refused : MethodName := ⟨RL, "refused", "(LOrbitMailbox;II)Z"⟩
abbrev cL_types : ByteArray := method_9_code
def yL_types : MethodName := ⟨RL, "types", "(LOrbitMailbox;J)I"⟩
abbrev cL_faultOf : ByteArray := method_10_code
def yL_faultOf : MethodName := ⟨RL, "faultOf", "(LOrbitMailbox;JJ)I"⟩
abbrev cL_texts : ByteArray := method_11_code
def yL_texts : MethodName := ⟨RL, "texts", "(LOrbitMailbox;)Z"⟩
abbrev cL_known : ByteArray := method_12_code
def yL_known : MethodName := ⟨RL, "known", "(LOrbitMailbox;)Z"⟩
abbrev cL_full : ByteArray := method_13_code
def yL_full : MethodName := ⟨RL, "full", "()Z"⟩
abbrev cL_law : ByteArray := code
def yL_law : MethodName := ⟨RL, "law", "([I)Z"⟩
