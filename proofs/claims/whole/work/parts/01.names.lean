-- begun with PART A of kit/laws/SKELETON and the head of claim/NAMES (given for pasting)
-- ===== PART A: goes FIRST, ahead of the names: the tables' words, and 'selects' of the private methods out of them =====
/-- a private method of a class that the tables say can be made, by its rows of tables_1 -/
def lw_okq (q : MethodName × Nat) : Prop := (q.1.cls ≠ "java/lang/invoke/MethodHandle" ∧ q.1.cls ≠ "java/lang/invoke/VarHandle") ∧ Cond.instantiable q.1.cls q.2 ∈ tables_1 ∧ Cond.privateMethod q.1 ∈ tables_1 ∧ Cond.instanceMethod q.1 ∈ tables_1
theorem lw_p0 : lw_okq (⟨"OrbitMailbox", "isStation", "(I)Z"⟩, 4) := ⟨⟨by decide +kernel, by decide +kernel⟩, List.mem_of_getElem? (i := 13) (by decide +kernel), List.mem_of_getElem? (i := 302) (by decide +kernel), List.mem_of_getElem? (i := 303) (by decide +kernel)⟩
theorem lw_p1 : lw_okq (⟨"OrbitMailbox$Station", "phaseAt", "(I)I"⟩, 11) := ⟨⟨by decide +kernel, by decide +kernel⟩, List.mem_of_getElem? (i := 160) (by decide +kernel), List.mem_of_getElem? (i := 315) (by decide +kernel), List.mem_of_getElem? (i := 316) (by decide +kernel)⟩
theorem lw_p2 : lw_okq (⟨"OrbitMailbox$Station", "placeOf", "(I)I"⟩, 11) := ⟨⟨by decide +kernel, by decide +kernel⟩, List.mem_of_getElem? (i := 160) (by decide +kernel), List.mem_of_getElem? (i := 425) (by decide +kernel), List.mem_of_getElem? (i := 426) (by decide +kernel)⟩
theorem lw_p3 : lw_okq (⟨"OrbitMailbox$Satellite", "mayAsk", "(I)Z"⟩, 7) := ⟨⟨by decide +kernel, by decide +kernel⟩, List.mem_of_getElem? (i := 50) (by decide +kernel), List.mem_of_getElem? (i := 490) (by decide +kernel), List.mem_of_getElem? (i := 491) (by decide +kernel)⟩
theorem lw_p4 : lw_okq (⟨"OrbitMailbox$Satellite", "putFirstHoles", "(IILOrbitMailbox$Intervals;I)I"⟩, 7) := ⟨⟨by decide +kernel, by decide +kernel⟩, List.mem_of_getElem? (i := 50) (by decide +kernel), List.mem_of_getElem? (i := 500) (by decide +kernel), List.mem_of_getElem? (i := 501) (by decide +kernel)⟩
theorem lw_p5 : lw_okq (⟨"OrbitMailbox$Intervals", "insert", "(III)Z"⟩, 3) := ⟨⟨by decide +kernel, by decide +kernel⟩, List.mem_of_getElem? (i := 71) (by decide +kernel), List.mem_of_getElem? (i := 518) (by decide +kernel), List.mem_of_getElem? (i := 519) (by decide +kernel)⟩
theorem lw_p6 : lw_okq (⟨"OrbitMailbox$Intervals", "removeRange", "(II)V"⟩, 3) := ⟨⟨by decide +kernel, by decide +kernel⟩, List.mem_of_getElem? (i := 71) (by decide +kernel), List.mem_of_getElem? (i := 522) (by decide +kernel), List.mem_of_getElem? (i := 523) (by decide +kernel)⟩
theorem lw_p7 : lw_okq (⟨"OrbitMailbox$RequestText", "readSubject", "()Z"⟩, 6) := ⟨⟨by decide +kernel, by decide +kernel⟩, List.mem_of_getElem? (i := 242) (by decide +kernel), List.mem_of_getElem? (i := 582) (by decide +kernel), List.mem_of_getElem? (i := 583) (by decide +kernel)⟩
theorem lw_p8 : lw_okq (⟨"OrbitMailbox$RequestText", "skip", "(C)Z"⟩, 6) := ⟨⟨by decide +kernel, by decide +kernel⟩, List.mem_of_getElem? (i := 242) (by decide +kernel), List.mem_of_getElem? (i := 586) (by decide +kernel), List.mem_of_getElem? (i := 587) (by decide +kernel)⟩
theorem lw_p9 : lw_okq (⟨"OrbitMailbox$RequestText", "readNumber", "(I)Z"⟩, 6) := ⟨⟨by decide +kernel, by decide +kernel⟩, List.mem_of_getElem? (i := 242) (by decide +kernel), List.mem_of_getElem? (i := 590) (by decide +kernel), List.mem_of_getElem? (i := 591) (by decide +kernel)⟩
theorem lw_p10 : lw_okq (⟨"OrbitMailbox$RequestText", "isDigit", "(I)Z"⟩, 6) := ⟨⟨by decide +kernel, by decide +kernel⟩, List.mem_of_getElem? (i := 242) (by decide +kernel), List.mem_of_getElem? (i := 594) (by decide +kernel), List.mem_of_getElem? (i := 595) (by decide +kernel)⟩
theorem lw_p11 : lw_okq (⟨"OrbitMailbox$RequestText", "readHoles", "()Z"⟩, 6) := ⟨⟨by decide +kernel, by decide +kernel⟩, List.mem_of_getElem? (i := 242) (by decide +kernel), List.mem_of_getElem? (i := 598) (by decide +kernel), List.mem_of_getElem? (i := 599) (by decide +kernel)⟩
theorem lw_p12 : lw_okq (⟨"OrbitMailbox$Satellite", "dropRequests", "()V"⟩, 7) := ⟨⟨by decide +kernel, by decide +kernel⟩, List.mem_of_getElem? (i := 50) (by decide +kernel), List.mem_of_getElem? (i := 624) (by decide +kernel), List.mem_of_getElem? (i := 625) (by decide +kernel)⟩
theorem lw_p13 : lw_okq (⟨"OrbitMailbox$Satellite", "deliver", "()V"⟩, 7) := ⟨⟨by decide +kernel, by decide +kernel⟩, List.mem_of_getElem? (i := 50) (by decide +kernel), List.mem_of_getElem? (i := 639) (by decide +kernel), List.mem_of_getElem? (i := 640) (by decide +kernel)⟩
theorem lw_p14 : lw_okq (⟨"OrbitMailbox$Station", "takeBytes", "(LOrbitMailbox$Frame;)V"⟩, 11) := ⟨⟨by decide +kernel, by decide +kernel⟩, List.mem_of_getElem? (i := 160) (by decide +kernel), List.mem_of_getElem? (i := 648) (by decide +kernel), List.mem_of_getElem? (i := 649) (by decide +kernel)⟩
theorem lw_p15 : lw_okq (⟨"OrbitMailbox$Station", "takeEntry", "(LOrbitMailbox$Frame;)V"⟩, 11) := ⟨⟨by decide +kernel, by decide +kernel⟩, List.mem_of_getElem? (i := 160) (by decide +kernel), List.mem_of_getElem? (i := 655) (by decide +kernel), List.mem_of_getElem? (i := 656) (by decide +kernel)⟩
def lw_privs_1 : List (MethodName × Nat) := [(⟨"OrbitMailbox", "isStation", "(I)Z"⟩, 4), (⟨"OrbitMailbox$Station", "phaseAt", "(I)I"⟩, 11), (⟨"OrbitMailbox$Station", "placeOf", "(I)I"⟩, 11), (⟨"OrbitMailbox$Satellite", "mayAsk", "(I)Z"⟩, 7), (⟨"OrbitMailbox$Satellite", "putFirstHoles", "(IILOrbitMailbox$Intervals;I)I"⟩, 7), (⟨"OrbitMailbox$Intervals", "insert", "(III)Z"⟩, 3), (⟨"OrbitMailbox$Intervals", "removeRange", "(II)V"⟩, 3), (⟨"OrbitMailbox$RequestText", "readSubject", "()Z"⟩, 6), (⟨"OrbitMailbox$RequestText", "skip", "(C)Z"⟩, 6), (⟨"OrbitMailbox$RequestText", "readNumber", "(I)Z"⟩, 6), (⟨"OrbitMailbox$RequestText", "isDigit", "(I)Z"⟩, 6), (⟨"OrbitMailbox$RequestText", "readHoles", "()Z"⟩, 6), (⟨"OrbitMailbox$Satellite", "dropRequests", "()V"⟩, 7), (⟨"OrbitMailbox$Satellite", "deliver", "()V"⟩, 7), (⟨"OrbitMailbox$Station", "takeBytes", "(LOrbitMailbox$Frame;)V"⟩, 11), (⟨"OrbitMailbox$Station", "takeEntry", "(LOrbitMailbox$Frame;)V"⟩, 11)]
theorem lw_r1 : ∀ q ∈ lw_privs_1, lw_okq q := List.forall_mem_cons.mpr ⟨lw_p0, List.forall_mem_cons.mpr ⟨lw_p1, List.forall_mem_cons.mpr ⟨lw_p2, List.forall_mem_cons.mpr ⟨lw_p3, List.forall_mem_cons.mpr ⟨lw_p4, List.forall_mem_cons.mpr ⟨lw_p5, List.forall_mem_cons.mpr ⟨lw_p6, List.forall_mem_cons.mpr ⟨lw_p7, List.forall_mem_cons.mpr ⟨lw_p8, List.forall_mem_cons.mpr ⟨lw_p9, List.forall_mem_cons.mpr ⟨lw_p10, List.forall_mem_cons.mpr ⟨lw_p11, List.forall_mem_cons.mpr ⟨lw_p12, List.forall_mem_cons.mpr ⟨lw_p13, List.forall_mem_cons.mpr ⟨lw_p14, List.forall_mem_cons.mpr ⟨lw_p15, fun _ h => absurd h List.not_mem_nil⟩⟩⟩⟩⟩⟩⟩⟩⟩⟩⟩⟩⟩⟩⟩⟩
theorem lw_p16 : lw_okq (⟨"OrbitMailbox$Satellite", "send", "(LOrbitMailbox$Request;)V"⟩, 7) := ⟨⟨by decide +kernel, by decide +kernel⟩, List.mem_of_getElem? (i := 50) (by decide +kernel), List.mem_of_getElem? (i := 659) (by decide +kernel), List.mem_of_getElem? (i := 660) (by decide +kernel)⟩
theorem lw_p17 : lw_okq (⟨"OrbitMailbox$Satellite", "sendEntry", "(LOrbitMailbox$Intervals;)V"⟩, 7) := ⟨⟨by decide +kernel, by decide +kernel⟩, List.mem_of_getElem? (i := 50) (by decide +kernel), List.mem_of_getElem? (i := 663) (by decide +kernel), List.mem_of_getElem? (i := 664) (by decide +kernel)⟩
theorem lw_p18 : lw_okq (⟨"OrbitMailbox$Satellite", "sendBytes", "(ILOrbitMailbox$Intervals;)V"⟩, 7) := ⟨⟨by decide +kernel, by decide +kernel⟩, List.mem_of_getElem? (i := 50) (by decide +kernel), List.mem_of_getElem? (i := 679) (by decide +kernel), List.mem_of_getElem? (i := 680) (by decide +kernel)⟩
theorem lw_p19 : lw_okq (⟨"OrbitMailbox$Satellite", "settle", "(I)V"⟩, 7) := ⟨⟨by decide +kernel, by decide +kernel⟩, List.mem_of_getElem? (i := 50) (by decide +kernel), List.mem_of_getElem? (i := 683) (by decide +kernel), List.mem_of_getElem? (i := 684) (by decide +kernel)⟩
theorem lw_p20 : lw_okq (⟨"OrbitMailboxModel", "isStation", "(I)Z"⟩, 12) := ⟨⟨by decide +kernel, by decide +kernel⟩, List.mem_of_getElem? (i := 730) (by decide +kernel), List.mem_of_getElem? (i := 787) (by decide +kernel), List.mem_of_getElem? (i := 788) (by decide +kernel)⟩
theorem lw_p21 : lw_okq (⟨"OrbitMailboxModel", "station", "(II)I"⟩, 12) := ⟨⟨by decide +kernel, by decide +kernel⟩, List.mem_of_getElem? (i := 730) (by decide +kernel), List.mem_of_getElem? (i := 791) (by decide +kernel), List.mem_of_getElem? (i := 792) (by decide +kernel)⟩
theorem lw_p22 : lw_okq (⟨"OrbitMailboxModel", "isAsked", "(II)Z"⟩, 12) := ⟨⟨by decide +kernel, by decide +kernel⟩, List.mem_of_getElem? (i := 730) (by decide +kernel), List.mem_of_getElem? (i := 799) (by decide +kernel), List.mem_of_getElem? (i := 800) (by decide +kernel)⟩
theorem lw_p23 : lw_okq (⟨"OrbitMailboxModel", "isInView", "(II)Z"⟩, 12) := ⟨⟨by decide +kernel, by decide +kernel⟩, List.mem_of_getElem? (i := 730) (by decide +kernel), List.mem_of_getElem? (i := 804) (by decide +kernel), List.mem_of_getElem? (i := 805) (by decide +kernel)⟩
theorem lw_p24 : lw_okq (⟨"OrbitMailboxModel", "isHit", "(II)Z"⟩, 12) := ⟨⟨by decide +kernel, by decide +kernel⟩, List.mem_of_getElem? (i := 730) (by decide +kernel), List.mem_of_getElem? (i := 816) (by decide +kernel), List.mem_of_getElem? (i := 817) (by decide +kernel)⟩
theorem lw_p25 : lw_okq (⟨"OrbitMailboxModel", "file", "(II)I"⟩, 12) := ⟨⟨by decide +kernel, by decide +kernel⟩, List.mem_of_getElem? (i := 730) (by decide +kernel), List.mem_of_getElem? (i := 829) (by decide +kernel), List.mem_of_getElem? (i := 830) (by decide +kernel)⟩
theorem lw_p26 : lw_okq (⟨"OrbitMailboxModel", "existing", "()I"⟩, 12) := ⟨⟨by decide +kernel, by decide +kernel⟩, List.mem_of_getElem? (i := 730) (by decide +kernel), List.mem_of_getElem? (i := 833) (by decide +kernel), List.mem_of_getElem? (i := 834) (by decide +kernel)⟩
theorem lw_p27 : lw_okq (⟨"OrbitMailboxModel", "exists", "(I)Z"⟩, 12) := ⟨⟨by decide +kernel, by decide +kernel⟩, List.mem_of_getElem? (i := 730) (by decide +kernel), List.mem_of_getElem? (i := 837) (by decide +kernel), List.mem_of_getElem? (i := 838) (by decide +kernel)⟩
theorem lw_p28 : lw_okq (⟨"OrbitMailboxModel", "isFile", "(I)Z"⟩, 12) := ⟨⟨by decide +kernel, by decide +kernel⟩, List.mem_of_getElem? (i := 730) (by decide +kernel), List.mem_of_getElem? (i := 845) (by decide +kernel), List.mem_of_getElem? (i := 846) (by decide +kernel)⟩
theorem lw_p29 : lw_okq (⟨"OrbitMailboxModel", "byteOf", "(II)I"⟩, 12) := ⟨⟨by decide +kernel, by decide +kernel⟩, List.mem_of_getElem? (i := 730) (by decide +kernel), List.mem_of_getElem? (i := 853) (by decide +kernel), List.mem_of_getElem? (i := 854) (by decide +kernel)⟩
theorem lw_p30 : lw_okq (⟨"OrbitMailboxModel", "findHoles", "(II)V"⟩, 12) := ⟨⟨by decide +kernel, by decide +kernel⟩, List.mem_of_getElem? (i := 730) (by decide +kernel), List.mem_of_getElem? (i := 881) (by decide +kernel), List.mem_of_getElem? (i := 882) (by decide +kernel)⟩
theorem lw_p31 : lw_okq (⟨"OrbitMailboxModel", "holeNumber", "(I)I"⟩, 12) := ⟨⟨by decide +kernel, by decide +kernel⟩, List.mem_of_getElem? (i := 730) (by decide +kernel), List.mem_of_getElem? (i := 885) (by decide +kernel), List.mem_of_getElem? (i := 886) (by decide +kernel)⟩
def lw_privs_2 : List (MethodName × Nat) := [(⟨"OrbitMailbox$Satellite", "send", "(LOrbitMailbox$Request;)V"⟩, 7), (⟨"OrbitMailbox$Satellite", "sendEntry", "(LOrbitMailbox$Intervals;)V"⟩, 7), (⟨"OrbitMailbox$Satellite", "sendBytes", "(ILOrbitMailbox$Intervals;)V"⟩, 7), (⟨"OrbitMailbox$Satellite", "settle", "(I)V"⟩, 7), (⟨"OrbitMailboxModel", "isStation", "(I)Z"⟩, 12), (⟨"OrbitMailboxModel", "station", "(II)I"⟩, 12), (⟨"OrbitMailboxModel", "isAsked", "(II)Z"⟩, 12), (⟨"OrbitMailboxModel", "isInView", "(II)Z"⟩, 12), (⟨"OrbitMailboxModel", "isHit", "(II)Z"⟩, 12), (⟨"OrbitMailboxModel", "file", "(II)I"⟩, 12), (⟨"OrbitMailboxModel", "existing", "()I"⟩, 12), (⟨"OrbitMailboxModel", "exists", "(I)Z"⟩, 12), (⟨"OrbitMailboxModel", "isFile", "(I)Z"⟩, 12), (⟨"OrbitMailboxModel", "byteOf", "(II)I"⟩, 12), (⟨"OrbitMailboxModel", "findHoles", "(II)V"⟩, 12), (⟨"OrbitMailboxModel", "holeNumber", "(I)I"⟩, 12)]
theorem lw_r2 : ∀ q ∈ lw_privs_2, lw_okq q := List.forall_mem_cons.mpr ⟨lw_p16, List.forall_mem_cons.mpr ⟨lw_p17, List.forall_mem_cons.mpr ⟨lw_p18, List.forall_mem_cons.mpr ⟨lw_p19, List.forall_mem_cons.mpr ⟨lw_p20, List.forall_mem_cons.mpr ⟨lw_p21, List.forall_mem_cons.mpr ⟨lw_p22, List.forall_mem_cons.mpr ⟨lw_p23, List.forall_mem_cons.mpr ⟨lw_p24, List.forall_mem_cons.mpr ⟨lw_p25, List.forall_mem_cons.mpr ⟨lw_p26, List.forall_mem_cons.mpr ⟨lw_p27, List.forall_mem_cons.mpr ⟨lw_p28, List.forall_mem_cons.mpr ⟨lw_p29, List.forall_mem_cons.mpr ⟨lw_p30, List.forall_mem_cons.mpr ⟨lw_p31, fun _ h => absurd h List.not_mem_nil⟩⟩⟩⟩⟩⟩⟩⟩⟩⟩⟩⟩⟩⟩⟩⟩
theorem lw_p32 : lw_okq (⟨"OrbitMailboxModel", "openAt", "(II)I"⟩, 12) := ⟨⟨by decide +kernel, by decide +kernel⟩, List.mem_of_getElem? (i := 730) (by decide +kernel), List.mem_of_getElem? (i := 893) (by decide +kernel), List.mem_of_getElem? (i := 894) (by decide +kernel)⟩
theorem lw_p33 : lw_okq (⟨"OrbitMailboxModel", "refusesOpen", "(II)I"⟩, 12) := ⟨⟨by decide +kernel, by decide +kernel⟩, List.mem_of_getElem? (i := 730) (by decide +kernel), List.mem_of_getElem? (i := 901) (by decide +kernel), List.mem_of_getElem? (i := 902) (by decide +kernel)⟩
theorem lw_p34 : lw_okq (⟨"OrbitMailboxModel", "sizeOf", "(I)I"⟩, 12) := ⟨⟨by decide +kernel, by decide +kernel⟩, List.mem_of_getElem? (i := 730) (by decide +kernel), List.mem_of_getElem? (i := 905) (by decide +kernel), List.mem_of_getElem? (i := 906) (by decide +kernel)⟩
theorem lw_p35 : lw_okq (⟨"OrbitMailboxModel", "contains", "(II)Z"⟩, 12) := ⟨⟨by decide +kernel, by decide +kernel⟩, List.mem_of_getElem? (i := 730) (by decide +kernel), List.mem_of_getElem? (i := 917) (by decide +kernel), List.mem_of_getElem? (i := 918) (by decide +kernel)⟩
theorem lw_p36 : lw_okq (⟨"OrbitMailboxModel", "isComplete", "(I)Z"⟩, 12) := ⟨⟨by decide +kernel, by decide +kernel⟩, List.mem_of_getElem? (i := 730) (by decide +kernel), List.mem_of_getElem? (i := 929) (by decide +kernel), List.mem_of_getElem? (i := 930) (by decide +kernel)⟩
theorem lw_p37 : lw_okq (⟨"OrbitMailboxModel", "mayAsk", "(I)Z"⟩, 12) := ⟨⟨by decide +kernel, by decide +kernel⟩, List.mem_of_getElem? (i := 730) (by decide +kernel), List.mem_of_getElem? (i := 937) (by decide +kernel), List.mem_of_getElem? (i := 938) (by decide +kernel)⟩
theorem lw_p38 : lw_okq (⟨"OrbitMailboxModel", "placeOf", "(I)I"⟩, 12) := ⟨⟨by decide +kernel, by decide +kernel⟩, List.mem_of_getElem? (i := 730) (by decide +kernel), List.mem_of_getElem? (i := 941) (by decide +kernel), List.mem_of_getElem? (i := 942) (by decide +kernel)⟩
theorem lw_p39 : lw_okq (⟨"OrbitMailboxModel", "puts", "(II)I"⟩, 12) := ⟨⟨by decide +kernel, by decide +kernel⟩, List.mem_of_getElem? (i := 730) (by decide +kernel), List.mem_of_getElem? (i := 948) (by decide +kernel), List.mem_of_getElem? (i := 949) (by decide +kernel)⟩
theorem lw_p40 : lw_okq (⟨"OrbitMailboxModel", "removes", "(I)V"⟩, 12) := ⟨⟨by decide +kernel, by decide +kernel⟩, List.mem_of_getElem? (i := 730) (by decide +kernel), List.mem_of_getElem? (i := 960) (by decide +kernel), List.mem_of_getElem? (i := 961) (by decide +kernel)⟩
theorem lw_p41 : lw_okq (⟨"OrbitMailboxModel", "reads", "()I"⟩, 12) := ⟨⟨by decide +kernel, by decide +kernel⟩, List.mem_of_getElem? (i := 730) (by decide +kernel), List.mem_of_getElem? (i := 984) (by decide +kernel), List.mem_of_getElem? (i := 985) (by decide +kernel)⟩
theorem lw_p42 : lw_okq (⟨"OrbitMailboxModel", "takes", "(I)Z"⟩, 12) := ⟨⟨by decide +kernel, by decide +kernel⟩, List.mem_of_getElem? (i := 730) (by decide +kernel), List.mem_of_getElem? (i := 988) (by decide +kernel), List.mem_of_getElem? (i := 989) (by decide +kernel)⟩
theorem lw_p43 : lw_okq (⟨"OrbitMailboxModel", "takesNumber", "(I)Z"⟩, 12) := ⟨⟨by decide +kernel, by decide +kernel⟩, List.mem_of_getElem? (i := 730) (by decide +kernel), List.mem_of_getElem? (i := 992) (by decide +kernel), List.mem_of_getElem? (i := 993) (by decide +kernel)⟩
theorem lw_p44 : lw_okq (⟨"OrbitMailboxModel", "isDigit", "()Z"⟩, 12) := ⟨⟨by decide +kernel, by decide +kernel⟩, List.mem_of_getElem? (i := 730) (by decide +kernel), List.mem_of_getElem? (i := 996) (by decide +kernel), List.mem_of_getElem? (i := 997) (by decide +kernel)⟩
theorem lw_p45 : lw_okq (⟨"OrbitMailboxModel", "takesHole", "(I)Z"⟩, 12) := ⟨⟨by decide +kernel, by decide +kernel⟩, List.mem_of_getElem? (i := 730) (by decide +kernel), List.mem_of_getElem? (i := 1000) (by decide +kernel), List.mem_of_getElem? (i := 1001) (by decide +kernel)⟩
theorem lw_p46 : lw_okq (⟨"OrbitMailboxModel", "canBeAsked", "()Z"⟩, 12) := ⟨⟨by decide +kernel, by decide +kernel⟩, List.mem_of_getElem? (i := 730) (by decide +kernel), List.mem_of_getElem? (i := 1008) (by decide +kernel), List.mem_of_getElem? (i := 1009) (by decide +kernel)⟩
theorem lw_p47 : lw_okq (⟨"OrbitMailboxModel", "tick", "()V"⟩, 12) := ⟨⟨by decide +kernel, by decide +kernel⟩, List.mem_of_getElem? (i := 730) (by decide +kernel), List.mem_of_getElem? (i := 1016) (by decide +kernel), List.mem_of_getElem? (i := 1017) (by decide +kernel)⟩
def lw_privs_3 : List (MethodName × Nat) := [(⟨"OrbitMailboxModel", "openAt", "(II)I"⟩, 12), (⟨"OrbitMailboxModel", "refusesOpen", "(II)I"⟩, 12), (⟨"OrbitMailboxModel", "sizeOf", "(I)I"⟩, 12), (⟨"OrbitMailboxModel", "contains", "(II)Z"⟩, 12), (⟨"OrbitMailboxModel", "isComplete", "(I)Z"⟩, 12), (⟨"OrbitMailboxModel", "mayAsk", "(I)Z"⟩, 12), (⟨"OrbitMailboxModel", "placeOf", "(I)I"⟩, 12), (⟨"OrbitMailboxModel", "puts", "(II)I"⟩, 12), (⟨"OrbitMailboxModel", "removes", "(I)V"⟩, 12), (⟨"OrbitMailboxModel", "reads", "()I"⟩, 12), (⟨"OrbitMailboxModel", "takes", "(I)Z"⟩, 12), (⟨"OrbitMailboxModel", "takesNumber", "(I)Z"⟩, 12), (⟨"OrbitMailboxModel", "isDigit", "()Z"⟩, 12), (⟨"OrbitMailboxModel", "takesHole", "(I)Z"⟩, 12), (⟨"OrbitMailboxModel", "canBeAsked", "()Z"⟩, 12), (⟨"OrbitMailboxModel", "tick", "()V"⟩, 12)]
theorem lw_r3 : ∀ q ∈ lw_privs_3, lw_okq q := List.forall_mem_cons.mpr ⟨lw_p32, List.forall_mem_cons.mpr ⟨lw_p33, List.forall_mem_cons.mpr ⟨lw_p34, List.forall_mem_cons.mpr ⟨lw_p35, List.forall_mem_cons.mpr ⟨lw_p36, List.forall_mem_cons.mpr ⟨lw_p37, List.forall_mem_cons.mpr ⟨lw_p38, List.forall_mem_cons.mpr ⟨lw_p39, List.forall_mem_cons.mpr ⟨lw_p40, List.forall_mem_cons.mpr ⟨lw_p41, List.forall_mem_cons.mpr ⟨lw_p42, List.forall_mem_cons.mpr ⟨lw_p43, List.forall_mem_cons.mpr ⟨lw_p44, List.forall_mem_cons.mpr ⟨lw_p45, List.forall_mem_cons.mpr ⟨lw_p46, List.forall_mem_cons.mpr ⟨lw_p47, fun _ h => absurd h List.not_mem_nil⟩⟩⟩⟩⟩⟩⟩⟩⟩⟩⟩⟩⟩⟩⟩⟩
theorem lw_p48 : lw_okq (⟨"OrbitMailboxModel", "drops", "()V"⟩, 12) := ⟨⟨by decide +kernel, by decide +kernel⟩, List.mem_of_getElem? (i := 730) (by decide +kernel), List.mem_of_getElem? (i := 1020) (by decide +kernel), List.mem_of_getElem? (i := 1021) (by decide +kernel)⟩
theorem lw_p49 : lw_okq (⟨"OrbitMailboxModel", "sends", "()V"⟩, 12) := ⟨⟨by decide +kernel, by decide +kernel⟩, List.mem_of_getElem? (i := 730) (by decide +kernel), List.mem_of_getElem? (i := 1024) (by decide +kernel), List.mem_of_getElem? (i := 1025) (by decide +kernel)⟩
theorem lw_p50 : lw_okq (⟨"OrbitMailboxModel", "frames", "(IIII)V"⟩, 12) := ⟨⟨by decide +kernel, by decide +kernel⟩, List.mem_of_getElem? (i := 730) (by decide +kernel), List.mem_of_getElem? (i := 1028) (by decide +kernel), List.mem_of_getElem? (i := 1029) (by decide +kernel)⟩
theorem lw_p51 : lw_okq (⟨"OrbitMailboxModel", "givesTurn", "()V"⟩, 12) := ⟨⟨by decide +kernel, by decide +kernel⟩, List.mem_of_getElem? (i := 730) (by decide +kernel), List.mem_of_getElem? (i := 1032) (by decide +kernel), List.mem_of_getElem? (i := 1033) (by decide +kernel)⟩
theorem lw_p52 : lw_okq (⟨"OrbitMailboxModel", "sendsEntry", "(I)V"⟩, 12) := ⟨⟨by decide +kernel, by decide +kernel⟩, List.mem_of_getElem? (i := 730) (by decide +kernel), List.mem_of_getElem? (i := 1036) (by decide +kernel), List.mem_of_getElem? (i := 1037) (by decide +kernel)⟩
theorem lw_p53 : lw_okq (⟨"OrbitMailboxModel", "storedFrom", "(IZ)I"⟩, 12) := ⟨⟨by decide +kernel, by decide +kernel⟩, List.mem_of_getElem? (i := 730) (by decide +kernel), List.mem_of_getElem? (i := 1040) (by decide +kernel), List.mem_of_getElem? (i := 1041) (by decide +kernel)⟩
theorem lw_p54 : lw_okq (⟨"OrbitMailboxModel", "behind", "(I)I"⟩, 12) := ⟨⟨by decide +kernel, by decide +kernel⟩, List.mem_of_getElem? (i := 730) (by decide +kernel), List.mem_of_getElem? (i := 1044) (by decide +kernel), List.mem_of_getElem? (i := 1045) (by decide +kernel)⟩
theorem lw_p55 : lw_okq (⟨"OrbitMailboxModel", "shortens", "(II)V"⟩, 12) := ⟨⟨by decide +kernel, by decide +kernel⟩, List.mem_of_getElem? (i := 730) (by decide +kernel), List.mem_of_getElem? (i := 1048) (by decide +kernel), List.mem_of_getElem? (i := 1049) (by decide +kernel)⟩
theorem lw_p56 : lw_okq (⟨"OrbitMailboxModel", "sendsBytes", "(I)V"⟩, 12) := ⟨⟨by decide +kernel, by decide +kernel⟩, List.mem_of_getElem? (i := 730) (by decide +kernel), List.mem_of_getElem? (i := 1052) (by decide +kernel), List.mem_of_getElem? (i := 1053) (by decide +kernel)⟩
theorem lw_p57 : lw_okq (⟨"OrbitMailboxModel", "takesFrame", "(I)V"⟩, 12) := ⟨⟨by decide +kernel, by decide +kernel⟩, List.mem_of_getElem? (i := 730) (by decide +kernel), List.mem_of_getElem? (i := 1056) (by decide +kernel), List.mem_of_getElem? (i := 1057) (by decide +kernel)⟩
theorem lw_p58 : lw_okq (⟨"OrbitMailboxModel", "takesBytes", "(I)V"⟩, 12) := ⟨⟨by decide +kernel, by decide +kernel⟩, List.mem_of_getElem? (i := 730) (by decide +kernel), List.mem_of_getElem? (i := 1060) (by decide +kernel), List.mem_of_getElem? (i := 1061) (by decide +kernel)⟩
theorem lw_p59 : lw_okq (⟨"OrbitMailboxModel", "adds", "(III)Z"⟩, 12) := ⟨⟨by decide +kernel, by decide +kernel⟩, List.mem_of_getElem? (i := 730) (by decide +kernel), List.mem_of_getElem? (i := 1064) (by decide +kernel), List.mem_of_getElem? (i := 1065) (by decide +kernel)⟩
theorem lw_p60 : lw_okq (⟨"OrbitMailboxModel", "goesBehind", "()V"⟩, 12) := ⟨⟨by decide +kernel, by decide +kernel⟩, List.mem_of_getElem? (i := 730) (by decide +kernel), List.mem_of_getElem? (i := 1068) (by decide +kernel), List.mem_of_getElem? (i := 1069) (by decide +kernel)⟩
theorem lw_p61 : lw_okq (⟨"OrbitMailboxModel", "putsAside", "()V"⟩, 12) := ⟨⟨by decide +kernel, by decide +kernel⟩, List.mem_of_getElem? (i := 730) (by decide +kernel), List.mem_of_getElem? (i := 1092) (by decide +kernel), List.mem_of_getElem? (i := 1093) (by decide +kernel)⟩
theorem lw_p62 : lw_okq (⟨"OrbitMailboxModel", "putsBack", "()V"⟩, 12) := ⟨⟨by decide +kernel, by decide +kernel⟩, List.mem_of_getElem? (i := 730) (by decide +kernel), List.mem_of_getElem? (i := 1097) (by decide +kernel), List.mem_of_getElem? (i := 1098) (by decide +kernel)⟩
def lw_privs_4 : List (MethodName × Nat) := [(⟨"OrbitMailboxModel", "drops", "()V"⟩, 12), (⟨"OrbitMailboxModel", "sends", "()V"⟩, 12), (⟨"OrbitMailboxModel", "frames", "(IIII)V"⟩, 12), (⟨"OrbitMailboxModel", "givesTurn", "()V"⟩, 12), (⟨"OrbitMailboxModel", "sendsEntry", "(I)V"⟩, 12), (⟨"OrbitMailboxModel", "storedFrom", "(IZ)I"⟩, 12), (⟨"OrbitMailboxModel", "behind", "(I)I"⟩, 12), (⟨"OrbitMailboxModel", "shortens", "(II)V"⟩, 12), (⟨"OrbitMailboxModel", "sendsBytes", "(I)V"⟩, 12), (⟨"OrbitMailboxModel", "takesFrame", "(I)V"⟩, 12), (⟨"OrbitMailboxModel", "takesBytes", "(I)V"⟩, 12), (⟨"OrbitMailboxModel", "adds", "(III)Z"⟩, 12), (⟨"OrbitMailboxModel", "goesBehind", "()V"⟩, 12), (⟨"OrbitMailboxModel", "putsAside", "()V"⟩, 12), (⟨"OrbitMailboxModel", "putsBack", "()V"⟩, 12)]
theorem lw_r4 : ∀ q ∈ lw_privs_4, lw_okq q := List.forall_mem_cons.mpr ⟨lw_p48, List.forall_mem_cons.mpr ⟨lw_p49, List.forall_mem_cons.mpr ⟨lw_p50, List.forall_mem_cons.mpr ⟨lw_p51, List.forall_mem_cons.mpr ⟨lw_p52, List.forall_mem_cons.mpr ⟨lw_p53, List.forall_mem_cons.mpr ⟨lw_p54, List.forall_mem_cons.mpr ⟨lw_p55, List.forall_mem_cons.mpr ⟨lw_p56, List.forall_mem_cons.mpr ⟨lw_p57, List.forall_mem_cons.mpr ⟨lw_p58, List.forall_mem_cons.mpr ⟨lw_p59, List.forall_mem_cons.mpr ⟨lw_p60, List.forall_mem_cons.mpr ⟨lw_p61, List.forall_mem_cons.mpr ⟨lw_p62, fun _ h => absurd h List.not_mem_nil⟩⟩⟩⟩⟩⟩⟩⟩⟩⟩⟩⟩⟩⟩⟩
def lw_privs : List (MethodName × Nat) := lw_privs_1 ++ (lw_privs_2 ++ (lw_privs_3 ++ (lw_privs_4)))
def lw_tbl : List Cond := k2_sels lw_privs ++ tables_1
theorem lw_privs_ok : ∀ q ∈ lw_privs, lw_okq q := by
  show ∀ q ∈ lw_privs_1 ++ (lw_privs_2 ++ (lw_privs_3 ++ (lw_privs_4))), lw_okq q
  exact List.forall_mem_append.mpr ⟨lw_r1, List.forall_mem_append.mpr ⟨lw_r2, List.forall_mem_append.mpr ⟨lw_r3, lw_r4⟩⟩⟩

/-! ===== BEGIN words of one list among another's, by their places ===== -/
theorem goodIn_r {big : List Cond} (ws : List Cond) (ps : List Nat) (hp : ws = ps.filterMap (fun i => big[i]?)) (h : ws.all goodWord = true) : GoodIn big ws := by
  intro w hw
  have h1 := List.all_eq_true.mp h w hw
  rw [hp] at hw
  obtain ⟨i, -, hi⟩ := List.mem_filterMap.mp hw
  have hm : w ∈ big := by first | exact List.mem_of_getElem? hi | exact List.getElem?_mem hi
  exact ⟨hm, good_of_word h1⟩
theorem goodIn_app {big a b : List Cond} (ha : GoodIn big a) (hb : GoodIn big b) : GoodIn big (a ++ b) := fun w h => (List.mem_append.mp h).elim (ha w) (hb w)
theorem goodIn_ca {big a b : List Cond} {c : Cond} (ha : GoodIn big (c :: a)) (hb : GoodIn big b) : GoodIn big (c :: (a ++ b)) := fun w h => (List.mem_cons.mp h).elim (fun e => ha w (List.mem_cons.mpr (Or.inl e))) (fun h => (List.mem_append.mp h).elim (fun h => ha w (List.mem_cons.mpr (Or.inr h))) (hb w))
theorem goodIn_sub {big ws : List Cond} (hm : ∀ w ∈ ws, w ∈ big) (h : ws.all goodWord = true) : GoodIn big ws := fun w hw => ⟨hm w hw, good_of_word (List.all_eq_true.mp h w hw)⟩
/-! ===== END ===== -/

/-! ===== BEGIN printed: names, fields, word lists, decode rows ===== -/
def RX0 : String := "OrbitMailbox$Files"
def TX0 : u_T := fun k => match k with
  | 0 => ("OrbitMailbox$Files", "lengths", "[I", true)
  | 1 => ("OrbitMailbox$Files", "seeds", "[I", true)
  | 2 => ("OrbitMailbox$Files", "lifetimes", "[I", true)
  | 3 => ("OrbitMailbox$Files", "storedAt", "[I", true)
  | _ => ("OrbitMailbox$Files", "count", "I", false)
def tyX0 : Nat → FieldType := fun k => match k with
  | 0 => .array .int
  | 1 => .array .int
  | 2 => .array .int
  | 3 => .array .int
  | _ => .int
abbrev wsX00 : List Cond := u_ws RX0 TX0 5
theorem nmX0 : ∀ a, a < 5 → ∀ b, b < 5 → a ≠ b → (TX0 a).2.1 ≠ (TX0 b).2.1 := by decide +kernel
theorem tyX0_ok : ∀ k, k < 5 → parseFieldDescriptor (TX0 k).2.2.1 = some (tyX0 k) := by decide +kernel
abbrev cX0_init : ByteArray := prog_2_method_1_code
def yX0_init : MethodName := ⟨RX0, "<init>", "()V"⟩
abbrev cX0_isStored : ByteArray := prog_2_method_2_code
def yX0_isStored : MethodName := ⟨RX0, "isStored", "(I)Z"⟩
abbrev cX0_exists : ByteArray := prog_2_method_3_code
def yX0_exists : MethodName := ⟨RX0, "exists", "(II)Z"⟩
abbrev cX0_hasStoredAt : ByteArray := prog_2_method_4_code
def yX0_hasStoredAt : MethodName := ⟨RX0, "hasStoredAt", "(I)Z"⟩
abbrev cX0_countExisting : ByteArray := prog_2_method_5_code
def yX0_countExisting : MethodName := ⟨RX0, "countExisting", "(I)I"⟩
abbrev cX0_put : ByteArray := prog_2_method_6_code
def yX0_put : MethodName := ⟨RX0, "put", "(IIII)I"⟩
abbrev cX0_byteAt : ByteArray := prog_2_method_7_code
def yX0_byteAt : MethodName := ⟨RX0, "byteAt", "(II)I"⟩
abbrev cX0_firstStoredFrom : ByteArray := prog_2_method_8_code
def yX0_firstStoredFrom : MethodName := ⟨RX0, "firstStoredFrom", "(II)I"⟩
abbrev cX0_lastStoringBefore : ByteArray := prog_2_method_9_code
def yX0_lastStoringBefore : MethodName := ⟨RX0, "lastStoringBefore", "(II)I"⟩
def RX1 : String := "OrbitMailbox$Frame"
def TX1 : u_T := fun k => match k with
  | 0 => ("OrbitMailbox$Frame", "isSent", "Z", false)
  | 1 => ("OrbitMailbox$Frame", "kind", "I", false)
  | 2 => ("OrbitMailbox$Frame", "file", "I", false)
  | 3 => ("OrbitMailbox$Frame", "first", "I", false)
  | 4 => ("OrbitMailbox$Frame", "last", "I", false)
  | _ => ("OrbitMailbox$Frame", "receivers", "I", false)
def tyX1 : Nat → FieldType := fun k => match k with
  | 0 => .boolean
  | 1 => .int
  | 2 => .int
  | 3 => .int
  | 4 => .int
  | _ => .int
abbrev wsX10 : List Cond := u_ws RX1 TX1 6
theorem nmX1 : ∀ a, a < 6 → ∀ b, b < 6 → a ≠ b → (TX1 a).2.1 ≠ (TX1 b).2.1 := by decide +kernel
theorem tyX1_ok : ∀ k, k < 6 → parseFieldDescriptor (TX1 k).2.2.1 = some (tyX1 k) := by decide +kernel
abbrev cX1_init : ByteArray := prog_3_method_1_code
def yX1_init : MethodName := ⟨RX1, "<init>", "()V"⟩
abbrev cX1_fill : ByteArray := prog_3_method_2_code
def yX1_fill : MethodName := ⟨RX1, "fill", "(IIII)V"⟩
def RX2 : String := "OrbitMailbox$Intervals"
def TX2 : u_T := fun k => match k with
  | 0 => ("OrbitMailbox$Intervals", "begins", "[I", true)
  | 1 => ("OrbitMailbox$Intervals", "ends", "[I", true)
  | _ => ("OrbitMailbox$Intervals", "count", "I", false)
def tyX2 : Nat → FieldType := fun k => match k with
  | 0 => .array .int
  | 1 => .array .int
  | _ => .int
abbrev wsX20 : List Cond := u_ws RX2 TX2 3
theorem nmX2 : ∀ a, a < 3 → ∀ b, b < 3 → a ≠ b → (TX2 a).2.1 ≠ (TX2 b).2.1 := by decide +kernel
theorem tyX2_ok : ∀ k, k < 3 → parseFieldDescriptor (TX2 k).2.2.1 = some (tyX2 k) := by decide +kernel
abbrev cX2_init : ByteArray := prog_4_method_1_code
def yX2_init : MethodName := ⟨RX2, "<init>", "()V"⟩
abbrev cX2_clear : ByteArray := prog_4_method_2_code
def yX2_clear : MethodName := ⟨RX2, "clear", "()V"⟩
abbrev cX2_copyFrom : ByteArray := prog_4_method_3_code
def yX2_copyFrom : MethodName := ⟨RX2, "copyFrom", "(LOrbitMailbox$Intervals;)V"⟩
abbrev cX2_size : ByteArray := prog_4_method_4_code
def yX2_size : MethodName := ⟨RX2, "size", "()I"⟩
abbrev cX2_overlap : ByteArray := prog_4_method_5_code
def yX2_overlap : MethodName := ⟨RX2, "overlap", "(II)I"⟩
abbrev cX2_add : ByteArray := prog_4_method_6_code
def yX2_add : MethodName := ⟨RX2, "add", "(II)Z"⟩
abbrev cX2_cutFirst : ByteArray := prog_4_method_7_code
def yX2_cutFirst : MethodName := ⟨RX2, "cutFirst", "(I)V"⟩
abbrev cX2_number : ByteArray := prog_4_method_8_code
def yX2_number : MethodName := ⟨RX2, "number", "(I)I"⟩
abbrev cX2_holeNumber : ByteArray := prog_4_method_9_code
def yX2_holeNumber : MethodName := ⟨RX2, "holeNumber", "(II)I"⟩
abbrev cX2_insert : ByteArray := prog_4_method_10_code
def yX2_insert : MethodName := ⟨RX2, "insert", "(III)Z"⟩
abbrev cX2_removeRange : ByteArray := prog_4_method_11_code
def yX2_removeRange : MethodName := ⟨RX2, "removeRange", "(II)V"⟩
def RX3 : String := "OrbitMailbox$Queue"
def TX3 : u_T := fun k => match k with
  | 0 => ("OrbitMailbox$Queue", "requests", "[LOrbitMailbox$Request;", true)
  | _ => ("OrbitMailbox$Queue", "length", "I", false)
def tyX3 : Nat → FieldType := fun k => match k with
  | 0 => .array (.object "OrbitMailbox$Request")
  | _ => .int
abbrev wsX30 : List Cond := u_ws RX3 TX3 2
theorem nmX3 : ∀ a, a < 2 → ∀ b, b < 2 → a ≠ b → (TX3 a).2.1 ≠ (TX3 b).2.1 := by decide +kernel
theorem tyX3_ok : ∀ k, k < 2 → parseFieldDescriptor (TX3 k).2.2.1 = some (tyX3 k) := by decide +kernel
abbrev cX3_init : ByteArray := prog_5_method_1_code
def yX3_init : MethodName := ⟨RX3, "<init>", "()V"⟩
abbrev cX3_copyFrom : ByteArray := prog_5_method_2_code
def yX3_copyFrom : MethodName := ⟨RX3, "copyFrom", "(LOrbitMailbox$Queue;)V"⟩
abbrev cX3_placeOf : ByteArray := prog_5_method_3_code
def yX3_placeOf : MethodName := ⟨RX3, "placeOf", "(I)I"⟩
abbrev cX3_placeToSend : ByteArray := prog_5_method_4_code
def yX3_placeToSend : MethodName := ⟨RX3, "placeToSend", "()I"⟩
abbrev cX3_put : ByteArray := prog_5_method_5_code
def yX3_put : MethodName := ⟨RX3, "put", "(II)LOrbitMailbox$Request;"⟩
abbrev cX3_moveToEnd : ByteArray := prog_5_method_6_code
def yX3_moveToEnd : MethodName := ⟨RX3, "moveToEnd", "(I)V"⟩
abbrev cX3_remove : ByteArray := prog_5_method_7_code
def yX3_remove : MethodName := ⟨RX3, "remove", "(I)V"⟩
def RX4 : String := "OrbitMailbox$Request"
def TX4 : u_T := fun k => match k with
  | 0 => ("OrbitMailbox$Request", "station", "I", false)
  | 1 => ("OrbitMailbox$Request", "file", "I", false)
  | 2 => ("OrbitMailbox$Request", "framesLeft", "I", false)
  | _ => ("OrbitMailbox$Request", "holes", "LOrbitMailbox$Intervals;", true)
def tyX4 : Nat → FieldType := fun k => match k with
  | 0 => .int
  | 1 => .int
  | 2 => .int
  | _ => .object "OrbitMailbox$Intervals"
abbrev wsX40 : List Cond := u_ws RX4 TX4 4
theorem nmX4 : ∀ a, a < 4 → ∀ b, b < 4 → a ≠ b → (TX4 a).2.1 ≠ (TX4 b).2.1 := by decide +kernel
theorem tyX4_ok : ∀ k, k < 4 → parseFieldDescriptor (TX4 k).2.2.1 = some (tyX4 k) := by decide +kernel
abbrev cX4_init : ByteArray := prog_6_method_1_code
def yX4_init : MethodName := ⟨RX4, "<init>", "()V"⟩
abbrev cX4_isForDirectory : ByteArray := prog_6_method_2_code
def yX4_isForDirectory : MethodName := ⟨RX4, "isForDirectory", "()Z"⟩
abbrev cX4_begin : ByteArray := prog_6_method_3_code
def yX4_begin : MethodName := ⟨RX4, "begin", "(II)V"⟩
abbrev cX4_copyFrom : ByteArray := prog_6_method_4_code
def yX4_copyFrom : MethodName := ⟨RX4, "copyFrom", "(LOrbitMailbox$Request;)V"⟩
def RX5 : String := "OrbitMailbox$RequestText"
def TX5 : u_T := fun k => match k with
  | 0 => ("OrbitMailbox$RequestText", "characters", "[C", true)
  | 1 => ("OrbitMailbox$RequestText", "length", "I", false)
  | 2 => ("OrbitMailbox$RequestText", "position", "I", false)
  | 3 => ("OrbitMailbox$RequestText", "file", "I", false)
  | 4 => ("OrbitMailbox$RequestText", "holes", "LOrbitMailbox$Intervals;", true)
  | _ => ("OrbitMailbox$RequestText", "lastNumber", "I", false)
def tyX5 : Nat → FieldType := fun k => match k with
  | 0 => .array .char
  | 1 => .int
  | 2 => .int
  | 3 => .int
  | 4 => .object "OrbitMailbox$Intervals"
  | _ => .int
abbrev wsX50 : List Cond := u_ws RX5 TX5 6
theorem nmX5 : ∀ a, a < 6 → ∀ b, b < 6 → a ≠ b → (TX5 a).2.1 ≠ (TX5 b).2.1 := by decide +kernel
theorem tyX5_ok : ∀ k, k < 6 → parseFieldDescriptor (TX5 k).2.2.1 = some (tyX5 k) := by decide +kernel
abbrev cX5_init : ByteArray := prog_7_method_1_code
def yX5_init : MethodName := ⟨RX5, "<init>", "()V"⟩
abbrev cX5_append : ByteArray := prog_7_method_2_code
def yX5_append : MethodName := ⟨RX5, "append", "(C)Z"⟩
abbrev cX5_read : ByteArray := prog_7_method_3_code
def yX5_read : MethodName := ⟨RX5, "read", "()Z"⟩
abbrev cX5_readSubject : ByteArray := prog_7_method_4_code
def yX5_readSubject : MethodName := ⟨RX5, "readSubject", "()Z"⟩
abbrev cX5_readHoles : ByteArray := prog_7_method_5_code
def yX5_readHoles : MethodName := ⟨RX5, "readHoles", "()Z"⟩
abbrev cX5_skip : ByteArray := prog_7_method_6_code
def yX5_skip : MethodName := ⟨RX5, "skip", "(C)Z"⟩
abbrev cX5_readNumber : ByteArray := prog_7_method_7_code
def yX5_readNumber : MethodName := ⟨RX5, "readNumber", "(I)Z"⟩
abbrev cX5_isDigit : ByteArray := prog_7_method_8_code
def yX5_isDigit : MethodName := ⟨RX5, "isDigit", "(I)Z"⟩
def RX6 : String := "OrbitMailbox$Satellite"
def TX6 : u_T := fun k => match k with
  | 0 => ("OrbitMailbox$Satellite", "files", "LOrbitMailbox$Files;", true)
  | 1 => ("OrbitMailbox$Satellite", "stations", "[LOrbitMailbox$Station;", true)
  | 2 => ("OrbitMailbox$Satellite", "stationCount", "I", false)
  | 3 => ("OrbitMailbox$Satellite", "queue", "LOrbitMailbox$Queue;", true)
  | 4 => ("OrbitMailbox$Satellite", "frame", "LOrbitMailbox$Frame;", true)
  | 5 => ("OrbitMailbox$Satellite", "counts", "[I", true)
  | _ => ("OrbitMailbox$Satellite", "now", "I", false)
def tyX6 : Nat → FieldType := fun k => match k with
  | 0 => .object "OrbitMailbox$Files"
  | 1 => .array (.object "OrbitMailbox$Station")
  | 2 => .int
  | 3 => .object "OrbitMailbox$Queue"
  | 4 => .object "OrbitMailbox$Frame"
  | 5 => .array .int
  | _ => .int
abbrev wsX60 : List Cond := u_ws RX6 TX6 7
theorem nmX6 : ∀ a, a < 7 → ∀ b, b < 7 → a ≠ b → (TX6 a).2.1 ≠ (TX6 b).2.1 := by decide +kernel
theorem tyX6_ok : ∀ k, k < 7 → parseFieldDescriptor (TX6 k).2.2.1 = some (tyX6 k) := by decide +kernel
abbrev cX6_init : ByteArray := prog_8_method_1_code
def yX6_init : MethodName := ⟨RX6, "<init>", "(LOrbitMailbox$Files;)V"⟩
abbrev cX6_copyFrom : ByteArray := prog_8_method_2_code
def yX6_copyFrom : MethodName := ⟨RX6, "copyFrom", "(LOrbitMailbox$Satellite;)V"⟩
abbrev cX6_admit : ByteArray := prog_8_method_3_code
def yX6_admit : MethodName := match (tables_1[294]? : Option Cond) with | some (Cond.instanceMethod q) => q | _ => yX6_copyFrom
abbrev cX6_isComplete : ByteArray := prog_8_method_4_code
def yX6_isComplete : MethodName := ⟨RX6, "isComplete", "(II)Z"⟩
abbrev cX6_askDirectory : ByteArray := prog_8_method_5_code
def yX6_askDirectory : MethodName := ⟨RX6, "askDirectory", "(I)I"⟩
abbrev cX6_askFile : ByteArray := prog_8_method_6_code
def yX6_askFile : MethodName := ⟨RX6, "askFile", "(II)I"⟩
abbrev cX6_askHoles : ByteArray := prog_8_method_7_code
def yX6_askHoles : MethodName := ⟨RX6, "askHoles", "(IILOrbitMailbox$Intervals;)I"⟩
abbrev cX6_tick : ByteArray := prog_8_method_8_code
def yX6_tick : MethodName := ⟨RX6, "tick", "()V"⟩
abbrev cX6_mayAsk : ByteArray := prog_8_method_9_code
def yX6_mayAsk : MethodName := ⟨RX6, "mayAsk", "(I)Z"⟩
abbrev cX6_putFirstHoles : ByteArray := prog_8_method_10_code
def yX6_putFirstHoles : MethodName := ⟨RX6, "putFirstHoles", "(IILOrbitMailbox$Intervals;I)I"⟩
abbrev cX6_dropRequests : ByteArray := prog_8_method_11_code
def yX6_dropRequests : MethodName := ⟨RX6, "dropRequests", "()V"⟩
abbrev cX6_send : ByteArray := prog_8_method_12_code
def yX6_send : MethodName := ⟨RX6, "send", "(LOrbitMailbox$Request;)V"⟩
abbrev cX6_sendBytes : ByteArray := prog_8_method_13_code
def yX6_sendBytes : MethodName := ⟨RX6, "sendBytes", "(ILOrbitMailbox$Intervals;)V"⟩
abbrev cX6_sendEntry : ByteArray := prog_8_method_14_code
def yX6_sendEntry : MethodName := ⟨RX6, "sendEntry", "(LOrbitMailbox$Intervals;)V"⟩
abbrev cX6_deliver : ByteArray := prog_8_method_15_code
def yX6_deliver : MethodName := ⟨RX6, "deliver", "()V"⟩
abbrev cX6_settle : ByteArray := prog_8_method_16_code
def yX6_settle : MethodName := ⟨RX6, "settle", "(I)V"⟩
def RX7 : String := "OrbitMailbox$Station"
def TX7 : u_T := fun k => match k with
  | 0 => ("OrbitMailbox$Station", "number", "I", true)
  | 1 => ("OrbitMailbox$Station", "period", "I", false)
  | 2 => ("OrbitMailbox$Station", "offset", "I", false)
  | 3 => ("OrbitMailbox$Station", "duration", "I", false)
  | 4 => ("OrbitMailbox$Station", "priority", "I", false)
  | 5 => ("OrbitMailbox$Station", "loss", "I", false)
  | 6 => ("OrbitMailbox$Station", "knownFiles", "I", false)
  | 7 => ("OrbitMailbox$Station", "times", "LOrbitMailbox$Intervals;", true)
  | 8 => ("OrbitMailbox$Station", "openFiles", "[I", true)
  | 9 => ("OrbitMailbox$Station", "openBytes", "[LOrbitMailbox$Intervals;", true)
  | _ => ("OrbitMailbox$Station", "counts", "[I", true)
def tyX7 : Nat → FieldType := fun k => match k with
  | 0 => .int
  | 1 => .int
  | 2 => .int
  | 3 => .int
  | 4 => .int
  | 5 => .int
  | 6 => .int
  | 7 => .object "OrbitMailbox$Intervals"
  | 8 => .array .int
  | 9 => .array (.object "OrbitMailbox$Intervals")
  | _ => .array .int
abbrev wsX70 : List Cond := u_ws RX7 TX7 11
theorem nmX7 : ∀ a, a < 11 → ∀ b, b < 11 → a ≠ b → (TX7 a).2.1 ≠ (TX7 b).2.1 := by decide +kernel
theorem tyX7_ok : ∀ k, k < 11 → parseFieldDescriptor (TX7 k).2.2.1 = some (tyX7 k) := by decide +kernel
abbrev cX7_init : ByteArray := prog_9_method_1_code
def yX7_init : MethodName := ⟨RX7, "<init>", "(I)V"⟩
abbrev cX7_copyFrom : ByteArray := prog_9_method_2_code
def yX7_copyFrom : MethodName := ⟨RX7, "copyFrom", "(LOrbitMailbox$Station;)V"⟩
abbrev cX7_sees : ByteArray := prog_9_method_3_code
def yX7_sees : MethodName := ⟨RX7, "sees", "(I)Z"⟩
abbrev cX7_firstSight : ByteArray := prog_9_method_4_code
def yX7_firstSight : MethodName := ⟨RX7, "firstSight", "(I)I"⟩
abbrev cX7_isHit : ByteArray := prog_9_method_5_code
def yX7_isHit : MethodName := ⟨RX7, "isHit", "(I)Z"⟩
abbrev cX7_knows : ByteArray := prog_9_method_6_code
def yX7_knows : MethodName := ⟨RX7, "knows", "(I)Z"⟩
abbrev cX7_countOpen : ByteArray := prog_9_method_7_code
def yX7_countOpen : MethodName := ⟨RX7, "countOpen", "()I"⟩
abbrev cX7_bytesOf : ByteArray := prog_9_method_8_code
def yX7_bytesOf : MethodName := ⟨RX7, "bytesOf", "(I)LOrbitMailbox$Intervals;"⟩
abbrev cX7_beginFile : ByteArray := prog_9_method_9_code
def yX7_beginFile : MethodName := ⟨RX7, "beginFile", "(I)Z"⟩
abbrev cX7_endFile : ByteArray := prog_9_method_10_code
def yX7_endFile : MethodName := ⟨RX7, "endFile", "(I)V"⟩
abbrev cX7_take : ByteArray := prog_9_method_11_code
def yX7_take : MethodName := ⟨RX7, "take", "(LOrbitMailbox$Frame;)V"⟩
abbrev cX7_takeBytes : ByteArray := prog_9_method_12_code
def yX7_takeBytes : MethodName := ⟨RX7, "takeBytes", "(LOrbitMailbox$Frame;)V"⟩
abbrev cX7_takeEntry : ByteArray := prog_9_method_13_code
def yX7_takeEntry : MethodName := ⟨RX7, "takeEntry", "(LOrbitMailbox$Frame;)V"⟩
abbrev cX7_phaseAt : ByteArray := prog_9_method_14_code
def yX7_phaseAt : MethodName := ⟨RX7, "phaseAt", "(I)I"⟩
abbrev cX7_placeOf : ByteArray := prog_9_method_15_code
def yX7_placeOf : MethodName := ⟨RX7, "placeOf", "(I)I"⟩
def RX8 : String := "OrbitMailbox"
def TX8 : u_T := fun k => match k with
  | 0 => ("OrbitMailbox", "files", "LOrbitMailbox$Files;", true)
  | 1 => ("OrbitMailbox", "satellite", "LOrbitMailbox$Satellite;", true)
  | 2 => ("OrbitMailbox", "imagined", "LOrbitMailbox$Satellite;", true)
  | _ => ("OrbitMailbox", "text", "LOrbitMailbox$RequestText;", true)
def tyX8 : Nat → FieldType := fun k => match k with
  | 0 => .object "OrbitMailbox$Files"
  | 1 => .object "OrbitMailbox$Satellite"
  | 2 => .object "OrbitMailbox$Satellite"
  | _ => .object "OrbitMailbox$RequestText"
abbrev wsX80 : List Cond := u_ws RX8 TX8 4
theorem nmX8 : ∀ a, a < 4 → ∀ b, b < 4 → a ≠ b → (TX8 a).2.1 ≠ (TX8 b).2.1 := by decide +kernel
theorem tyX8_ok : ∀ k, k < 4 → parseFieldDescriptor (TX8 k).2.2.1 = some (tyX8 k) := by decide +kernel
abbrev cX8_init : ByteArray := prog_1_method_1_code
def yX8_init : MethodName := ⟨RX8, "<init>", "()V"⟩
abbrev cX8_addStation : ByteArray := prog_1_method_2_code
def yX8_addStation : MethodName := ⟨RX8, "addStation", "(IIII)I"⟩
abbrev cX8_setLoss : ByteArray := prog_1_method_3_code
def yX8_setLoss : MethodName := ⟨RX8, "setLoss", "(II)I"⟩
abbrev cX8_inView : ByteArray := prog_1_method_4_code
def yX8_inView : MethodName := ⟨RX8, "inView", "(II)I"⟩
abbrev cX8_nextView : ByteArray := prog_1_method_5_code
def yX8_nextView : MethodName := ⟨RX8, "nextView", "(II)I"⟩
abbrev cX8_receives : ByteArray := prog_1_method_6_code
def yX8_receives : MethodName := ⟨RX8, "receives", "(II)I"⟩
abbrev cX8_store : ByteArray := prog_1_method_7_code
def yX8_store : MethodName := ⟨RX8, "store", "(III)I"⟩
abbrev cX8_fileInfo : ByteArray := prog_1_method_8_code
def yX8_fileInfo : MethodName := ⟨RX8, "fileInfo", "(II)I"⟩
abbrev cX8_fileByte : ByteArray := prog_1_method_9_code
def yX8_fileByte : MethodName := ⟨RX8, "fileByte", "(II)I"⟩
abbrev cX8_fileCount : ByteArray := prog_1_method_10_code
def yX8_fileCount : MethodName := ⟨RX8, "fileCount", "()I"⟩
abbrev cX8_existingCount : ByteArray := prog_1_method_11_code
def yX8_existingCount : MethodName := ⟨RX8, "existingCount", "()I"⟩
abbrev cX8_directory : ByteArray := prog_1_method_12_code
def yX8_directory : MethodName := ⟨RX8, "directory", "(I)I"⟩
abbrev cX8_unknownFiles : ByteArray := prog_1_method_13_code
def yX8_unknownFiles : MethodName := ⟨RX8, "unknownFiles", "(I)I"⟩
abbrev cX8_covered : ByteArray := prog_1_method_14_code
def yX8_covered : MethodName := ⟨RX8, "covered", "(II)I"⟩
abbrev cX8_timeHole : ByteArray := prog_1_method_15_code
def yX8_timeHole : MethodName := ⟨RX8, "timeHole", "(II)I"⟩
abbrev cX8_open : ByteArray := prog_1_method_16_code
def yX8_open : MethodName := ⟨RX8, "open", "(II)I"⟩
abbrev cX8_close : ByteArray := prog_1_method_17_code
def yX8_close : MethodName := ⟨RX8, "close", "(II)I"⟩
abbrev cX8_receivedBytes : ByteArray := prog_1_method_18_code
def yX8_receivedBytes : MethodName := ⟨RX8, "receivedBytes", "(II)I"⟩
abbrev cX8_receivedByte : ByteArray := prog_1_method_19_code
def yX8_receivedByte : MethodName := ⟨RX8, "receivedByte", "(III)I"⟩
abbrev cX8_byteHole : ByteArray := prog_1_method_20_code
def yX8_byteHole : MethodName := ⟨RX8, "byteHole", "(III)I"⟩
abbrev cX8_completeFiles : ByteArray := prog_1_method_21_code
def yX8_completeFiles : MethodName := ⟨RX8, "completeFiles", "(I)I"⟩
abbrev cX8_requestDirectory : ByteArray := prog_1_method_22_code
def yX8_requestDirectory : MethodName := ⟨RX8, "requestDirectory", "(I)I"⟩
abbrev cX8_requestFile : ByteArray := prog_1_method_23_code
def yX8_requestFile : MethodName := ⟨RX8, "requestFile", "(II)I"⟩
abbrev cX8_withdraw : ByteArray := prog_1_method_24_code
def yX8_withdraw : MethodName := ⟨RX8, "withdraw", "(I)I"⟩
abbrev cX8_queueLength : ByteArray := prog_1_method_25_code
def yX8_queueLength : MethodName := ⟨RX8, "queueLength", "()I"⟩
abbrev cX8_queued : ByteArray := prog_1_method_26_code
def yX8_queued : MethodName := ⟨RX8, "queued", "(II)I"⟩
abbrev cX8_type : ByteArray := prog_1_method_27_code
def yX8_type : MethodName := ⟨RX8, "type", "(I)I"⟩
abbrev cX8_clearText : ByteArray := prog_1_method_28_code
def yX8_clearText : MethodName := ⟨RX8, "clearText", "()I"⟩
abbrev cX8_fault : ByteArray := prog_1_method_29_code
def yX8_fault : MethodName := ⟨RX8, "fault", "()I"⟩
abbrev cX8_requestText : ByteArray := prog_1_method_30_code
def yX8_requestText : MethodName := ⟨RX8, "requestText", "(I)I"⟩
abbrev cX8_run : ByteArray := prog_1_method_31_code
def yX8_run : MethodName := ⟨RX8, "run", "(I)I"⟩
abbrev cX8_time : ByteArray := prog_1_method_32_code
def yX8_time : MethodName := ⟨RX8, "time", "()I"⟩
abbrev cX8_lastFrame : ByteArray := prog_1_method_33_code
def yX8_lastFrame : MethodName := ⟨RX8, "lastFrame", "(I)I"⟩
abbrev cX8_total : ByteArray := prog_1_method_34_code
def yX8_total : MethodName := ⟨RX8, "total", "(I)I"⟩
abbrev cX8_stationTotal : ByteArray := prog_1_method_35_code
def yX8_stationTotal : MethodName := ⟨RX8, "stationTotal", "(II)I"⟩
abbrev cX8_ticksToComplete : ByteArray := prog_1_method_36_code
def yX8_ticksToComplete : MethodName := ⟨RX8, "ticksToComplete", "(II)I"⟩
abbrev cX8_ticksToEmpty : ByteArray := prog_1_method_37_code
def yX8_ticksToEmpty : MethodName := ⟨RX8, "ticksToEmpty", "()I"⟩
abbrev cX8_isStation : ByteArray := prog_1_method_38_code
def yX8_isStation : MethodName := ⟨RX8, "isStation", "(I)Z"⟩
abbrev cX8_within : ByteArray := prog_1_method_39_code
def yX8_within : MethodName := ⟨RX8, "within", "(III)Z"⟩
def RX9 : String := "OrbitMailboxModel"
def TX9 : u_T := fun k => match k with
  | 0 => ("OrbitMailboxModel", "at", "[I", true)
  | 1 => ("OrbitMailboxModel", "aside", "[I", true)
  | 2 => ("OrbitMailboxModel", "joined", "[I", true)
  | 3 => ("OrbitMailboxModel", "holeMany", "I", false)
  | 4 => ("OrbitMailboxModel", "holes", "[I", true)
  | 5 => ("OrbitMailboxModel", "text", "[I", true)
  | 6 => ("OrbitMailboxModel", "letters", "I", false)
  | 7 => ("OrbitMailboxModel", "spot", "I", false)
  | 8 => ("OrbitMailboxModel", "named", "I", false)
  | 9 => ("OrbitMailboxModel", "value", "I", false)
  | 10 => ("OrbitMailboxModel", "begun", "I", false)
  | _ => ("OrbitMailboxModel", "carried", "[I", true)
def tyX9 : Nat → FieldType := fun k => match k with
  | 0 => .array .int
  | 1 => .array .int
  | 2 => .array .int
  | 3 => .int
  | 4 => .array .int
  | 5 => .array .int
  | 6 => .int
  | 7 => .int
  | 8 => .int
  | 9 => .int
  | 10 => .int
  | _ => .array .int
abbrev wsX90 : List Cond := u_ws RX9 TX9 12
theorem nmX9 : ∀ a, a < 12 → ∀ b, b < 12 → a ≠ b → (TX9 a).2.1 ≠ (TX9 b).2.1 := by decide +kernel
theorem tyX9_ok : ∀ k, k < 12 → parseFieldDescriptor (TX9 k).2.2.1 = some (tyX9 k) := by decide +kernel
abbrev cX9_init : ByteArray := prog_11_method_1_code
def yX9_init : MethodName := ⟨RX9, "<init>", "()V"⟩
abbrev cX9_in : ByteArray := prog_11_method_3_code
def yX9_in : MethodName := ⟨RX9, "in", "(III)Z"⟩
abbrev cX9_isStation : ByteArray := prog_11_method_4_code
def yX9_isStation : MethodName := ⟨RX9, "isStation", "(I)Z"⟩
abbrev cX9_isFile : ByteArray := prog_11_method_5_code
def yX9_isFile : MethodName := ⟨RX9, "isFile", "(I)Z"⟩
abbrev cX9_stationAt : ByteArray := prog_11_method_6_code
def yX9_stationAt : MethodName := ⟨RX9, "stationAt", "(I)I"⟩
abbrev cX9_station : ByteArray := prog_11_method_7_code
def yX9_station : MethodName := ⟨RX9, "station", "(II)I"⟩
abbrev cX9_file : ByteArray := prog_11_method_8_code
def yX9_file : MethodName := ⟨RX9, "file", "(II)I"⟩
abbrev cX9_exists : ByteArray := prog_11_method_9_code
def yX9_exists : MethodName := ⟨RX9, "exists", "(I)Z"⟩
abbrev cX9_adds : ByteArray := prog_11_method_10_code
def yX9_adds : MethodName := ⟨RX9, "adds", "(III)Z"⟩
abbrev cX9_sizeOf : ByteArray := prog_11_method_11_code
def yX9_sizeOf : MethodName := ⟨RX9, "sizeOf", "(I)I"⟩
abbrev cX9_contains : ByteArray := prog_11_method_12_code
def yX9_contains : MethodName := ⟨RX9, "contains", "(II)Z"⟩
abbrev cX9_findHoles : ByteArray := prog_11_method_13_code
def yX9_findHoles : MethodName := ⟨RX9, "findHoles", "(II)V"⟩
abbrev cX9_holeNumber : ByteArray := prog_11_method_14_code
def yX9_holeNumber : MethodName := ⟨RX9, "holeNumber", "(I)I"⟩
abbrev cX9_addStation : ByteArray := prog_11_method_15_code
def yX9_addStation : MethodName := ⟨RX9, "addStation", "(IIII)I"⟩
abbrev cX9_setLoss : ByteArray := prog_11_method_16_code
def yX9_setLoss : MethodName := ⟨RX9, "setLoss", "(II)I"⟩
abbrev cX9_isInView : ByteArray := prog_11_method_17_code
def yX9_isInView : MethodName := ⟨RX9, "isInView", "(II)Z"⟩
abbrev cX9_isHit : ByteArray := prog_11_method_18_code
def yX9_isHit : MethodName := ⟨RX9, "isHit", "(II)Z"⟩
abbrev cX9_isAsked : ByteArray := prog_11_method_19_code
def yX9_isAsked : MethodName := ⟨RX9, "isAsked", "(II)Z"⟩
abbrev cX9_inView : ByteArray := prog_11_method_20_code
def yX9_inView : MethodName := ⟨RX9, "inView", "(II)I"⟩
abbrev cX9_nextView : ByteArray := prog_11_method_21_code
def yX9_nextView : MethodName := ⟨RX9, "nextView", "(II)I"⟩
abbrev cX9_receives : ByteArray := prog_11_method_22_code
def yX9_receives : MethodName := ⟨RX9, "receives", "(II)I"⟩
abbrev cX9_existing : ByteArray := prog_11_method_23_code
def yX9_existing : MethodName := ⟨RX9, "existing", "()I"⟩
abbrev cX9_store : ByteArray := prog_11_method_24_code
def yX9_store : MethodName := ⟨RX9, "store", "(III)I"⟩
abbrev cX9_fileInfo : ByteArray := prog_11_method_25_code
def yX9_fileInfo : MethodName := ⟨RX9, "fileInfo", "(II)I"⟩
abbrev cX9_byteOf : ByteArray := prog_11_method_26_code
def yX9_byteOf : MethodName := ⟨RX9, "byteOf", "(II)I"⟩
abbrev cX9_fileByte : ByteArray := prog_11_method_27_code
def yX9_fileByte : MethodName := ⟨RX9, "fileByte", "(II)I"⟩
abbrev cX9_fileCount : ByteArray := prog_11_method_28_code
def yX9_fileCount : MethodName := ⟨RX9, "fileCount", "()I"⟩
abbrev cX9_existingCount : ByteArray := prog_11_method_29_code
def yX9_existingCount : MethodName := ⟨RX9, "existingCount", "()I"⟩
abbrev cX9_directory : ByteArray := prog_11_method_30_code
def yX9_directory : MethodName := ⟨RX9, "directory", "(I)I"⟩
abbrev cX9_unknownFiles : ByteArray := prog_11_method_31_code
def yX9_unknownFiles : MethodName := ⟨RX9, "unknownFiles", "(I)I"⟩
abbrev cX9_covered : ByteArray := prog_11_method_32_code
def yX9_covered : MethodName := ⟨RX9, "covered", "(II)I"⟩
abbrev cX9_timeHole : ByteArray := prog_11_method_33_code
def yX9_timeHole : MethodName := ⟨RX9, "timeHole", "(II)I"⟩
abbrev cX9_openAt : ByteArray := prog_11_method_34_code
def yX9_openAt : MethodName := ⟨RX9, "openAt", "(II)I"⟩
abbrev cX9_open : ByteArray := prog_11_method_35_code
def yX9_open : MethodName := ⟨RX9, "open", "(II)I"⟩
abbrev cX9_refusesOpen : ByteArray := prog_11_method_36_code
def yX9_refusesOpen : MethodName := ⟨RX9, "refusesOpen", "(II)I"⟩
abbrev cX9_close : ByteArray := prog_11_method_37_code
def yX9_close : MethodName := ⟨RX9, "close", "(II)I"⟩
abbrev cX9_receivedBytes : ByteArray := prog_11_method_38_code
def yX9_receivedBytes : MethodName := ⟨RX9, "receivedBytes", "(II)I"⟩
abbrev cX9_receivedByte : ByteArray := prog_11_method_39_code
def yX9_receivedByte : MethodName := ⟨RX9, "receivedByte", "(III)I"⟩
abbrev cX9_byteHole : ByteArray := prog_11_method_40_code
def yX9_byteHole : MethodName := ⟨RX9, "byteHole", "(III)I"⟩
abbrev cX9_isComplete : ByteArray := prog_11_method_41_code
def yX9_isComplete : MethodName := ⟨RX9, "isComplete", "(I)Z"⟩
abbrev cX9_completeFiles : ByteArray := prog_11_method_42_code
def yX9_completeFiles : MethodName := ⟨RX9, "completeFiles", "(I)I"⟩
abbrev cX9_requestAt : ByteArray := prog_11_method_43_code
def yX9_requestAt : MethodName := ⟨RX9, "requestAt", "(I)I"⟩
abbrev cX9_placeOf : ByteArray := prog_11_method_44_code
def yX9_placeOf : MethodName := ⟨RX9, "placeOf", "(I)I"⟩
abbrev cX9_mayAsk : ByteArray := prog_11_method_45_code
def yX9_mayAsk : MethodName := ⟨RX9, "mayAsk", "(I)Z"⟩
abbrev cX9_puts : ByteArray := prog_11_method_46_code
def yX9_puts : MethodName := ⟨RX9, "puts", "(II)I"⟩
abbrev cX9_requestDirectory : ByteArray := prog_11_method_47_code
def yX9_requestDirectory : MethodName := ⟨RX9, "requestDirectory", "(I)I"⟩
abbrev cX9_requestFile : ByteArray := prog_11_method_48_code
def yX9_requestFile : MethodName := ⟨RX9, "requestFile", "(II)I"⟩
abbrev cX9_removes : ByteArray := prog_11_method_49_code
def yX9_removes : MethodName := ⟨RX9, "removes", "(I)V"⟩
abbrev cX9_withdraw : ByteArray := prog_11_method_50_code
def yX9_withdraw : MethodName := ⟨RX9, "withdraw", "(I)I"⟩
abbrev cX9_queueLength : ByteArray := prog_11_method_51_code
def yX9_queueLength : MethodName := ⟨RX9, "queueLength", "()I"⟩
abbrev cX9_queued : ByteArray := prog_11_method_52_code
def yX9_queued : MethodName := ⟨RX9, "queued", "(II)I"⟩
abbrev cX9_type : ByteArray := prog_11_method_53_code
def yX9_type : MethodName := ⟨RX9, "type", "(I)I"⟩
abbrev cX9_clearText : ByteArray := prog_11_method_54_code
def yX9_clearText : MethodName := ⟨RX9, "clearText", "()I"⟩
abbrev cX9_takes : ByteArray := prog_11_method_55_code
def yX9_takes : MethodName := ⟨RX9, "takes", "(I)Z"⟩
abbrev cX9_isDigit : ByteArray := prog_11_method_56_code
def yX9_isDigit : MethodName := ⟨RX9, "isDigit", "()Z"⟩
abbrev cX9_takesNumber : ByteArray := prog_11_method_57_code
def yX9_takesNumber : MethodName := ⟨RX9, "takesNumber", "(I)Z"⟩
abbrev cX9_takesHole : ByteArray := prog_11_method_58_code
def yX9_takesHole : MethodName := ⟨RX9, "takesHole", "(I)Z"⟩
abbrev cX9_reads : ByteArray := prog_11_method_59_code
def yX9_reads : MethodName := ⟨RX9, "reads", "()I"⟩
abbrev cX9_fault : ByteArray := prog_11_method_60_code
def yX9_fault : MethodName := ⟨RX9, "fault", "()I"⟩
abbrev cX9_canBeAsked : ByteArray := prog_11_method_61_code
def yX9_canBeAsked : MethodName := ⟨RX9, "canBeAsked", "()Z"⟩
abbrev cX9_requestText : ByteArray := prog_11_method_62_code
def yX9_requestText : MethodName := ⟨RX9, "requestText", "(I)I"⟩
abbrev cX9_drops : ByteArray := prog_11_method_63_code
def yX9_drops : MethodName := ⟨RX9, "drops", "()V"⟩
abbrev cX9_givesTurn : ByteArray := prog_11_method_64_code
def yX9_givesTurn : MethodName := ⟨RX9, "givesTurn", "()V"⟩
abbrev cX9_frames : ByteArray := prog_11_method_65_code
def yX9_frames : MethodName := ⟨RX9, "frames", "(IIII)V"⟩
abbrev cX9_shortens : ByteArray := prog_11_method_66_code
def yX9_shortens : MethodName := ⟨RX9, "shortens", "(II)V"⟩
abbrev cX9_storedFrom : ByteArray := prog_11_method_67_code
def yX9_storedFrom : MethodName := ⟨RX9, "storedFrom", "(IZ)I"⟩
abbrev cX9_behind : ByteArray := prog_11_method_68_code
def yX9_behind : MethodName := ⟨RX9, "behind", "(I)I"⟩
abbrev cX9_sendsEntry : ByteArray := prog_11_method_69_code
def yX9_sendsEntry : MethodName := ⟨RX9, "sendsEntry", "(I)V"⟩
abbrev cX9_sendsBytes : ByteArray := prog_11_method_70_code
def yX9_sendsBytes : MethodName := ⟨RX9, "sendsBytes", "(I)V"⟩
abbrev cX9_takesBytes : ByteArray := prog_11_method_71_code
def yX9_takesBytes : MethodName := ⟨RX9, "takesBytes", "(I)V"⟩
abbrev cX9_takesFrame : ByteArray := prog_11_method_72_code
def yX9_takesFrame : MethodName := ⟨RX9, "takesFrame", "(I)V"⟩
abbrev cX9_sends : ByteArray := prog_11_method_73_code
def yX9_sends : MethodName := ⟨RX9, "sends", "()V"⟩
abbrev cX9_goesBehind : ByteArray := prog_11_method_74_code
def yX9_goesBehind : MethodName := ⟨RX9, "goesBehind", "()V"⟩
abbrev cX9_tick : ByteArray := prog_11_method_75_code
def yX9_tick : MethodName := ⟨RX9, "tick", "()V"⟩
abbrev cX9_run : ByteArray := prog_11_method_76_code
def yX9_run : MethodName := ⟨RX9, "run", "(I)I"⟩
abbrev cX9_time : ByteArray := prog_11_method_77_code
def yX9_time : MethodName := ⟨RX9, "time", "()I"⟩
abbrev cX9_lastFrame : ByteArray := prog_11_method_78_code
def yX9_lastFrame : MethodName := ⟨RX9, "lastFrame", "(I)I"⟩
abbrev cX9_total : ByteArray := prog_11_method_79_code
def yX9_total : MethodName := ⟨RX9, "total", "(I)I"⟩
abbrev cX9_stationTotal : ByteArray := prog_11_method_80_code
def yX9_stationTotal : MethodName := ⟨RX9, "stationTotal", "(II)I"⟩
abbrev cX9_putsAside : ByteArray := prog_11_method_81_code
def yX9_putsAside : MethodName := ⟨RX9, "putsAside", "()V"⟩
abbrev cX9_putsBack : ByteArray := prog_11_method_82_code
def yX9_putsBack : MethodName := ⟨RX9, "putsBack", "()V"⟩
abbrev cX9_ticksToComplete : ByteArray := prog_11_method_83_code
def yX9_ticksToComplete : MethodName := ⟨RX9, "ticksToComplete", "(II)I"⟩
abbrev cX9_ticksToEmpty : ByteArray := prog_11_method_84_code
def yX9_ticksToEmpty : MethodName := ⟨RX9, "ticksToEmpty", "()I"⟩
def RJ9 : String := "java/lang/Math"
def TJ9 : u_T := fun k => match k with
  | _ => ("", "", "", false)
def tyJ9 : Nat → FieldType := fun k => match k with
  | _ => .int
abbrev wsJ90 : List Cond := u_ws RJ9 TJ9 0
theorem nmJ9 : ∀ a, a < 0 → ∀ b, b < 0 → a ≠ b → (TJ9 a).2.1 ≠ (TJ9 b).2.1 := by decide +kernel
theorem tyJ9_ok : ∀ k, k < 0 → parseFieldDescriptor (TJ9 k).2.2.1 = some (tyJ9 k) := by decide +kernel
abbrev cJ9_max_7cf53 : ByteArray := prog_12_method_65_code
def yJ9_max_7cf53 : MethodName := ⟨RJ9, "max", "(II)I"⟩
abbrev cJ9_min_7cf53 : ByteArray := prog_12_method_69_code
def yJ9_min_7cf53 : MethodName := ⟨RJ9, "min", "(II)I"⟩
def RL : String := "OrbitMailboxLaw"
abbrev cL_law : ByteArray := code
def yL_law : MethodName := ⟨RL, "law", "([I)Z"⟩
