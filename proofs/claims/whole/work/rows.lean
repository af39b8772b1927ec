section
-- ===== PART A: goes FIRST, ahead of the names: the tables' words, and 'selects' of the private methods out of them =====
/-- a private method of a class that the tables say can be made, by its rows of tables_1 -/
def lw_okq (q : MethodName × Nat) : Prop := (q.1.cls ≠ "java/lang/invoke/MethodHandle" ∧ q.1.cls ≠ "java/lang/invoke/VarHandle") ∧ Cond.instantiable q.1.cls q.2 ∈ tables_1 ∧ Cond.privateMethod q.1 ∈ tables_1 ∧ Cond.instanceMethod q.1 ∈ tables_1
theorem lw_p0 : lw_okq (⟨"KeptMoving$Course", "begin", "(III)V"⟩, 5) := ⟨⟨by decide +kernel, by decide +kernel⟩, List.mem_of_getElem? (i := 23) (by decide +kernel), List.mem_of_getElem? (i := 222) (by decide +kernel), List.mem_of_getElem? (i := 223) (by decide +kernel)⟩
theorem lw_p1 : lw_okq (⟨"KeptMoving", "isKnown", "(I)Z"⟩, 11) := ⟨⟨by decide +kernel, by decide +kernel⟩, List.mem_of_getElem? (i := 14) (by decide +kernel), List.mem_of_getElem? (i := 230) (by decide +kernel), List.mem_of_getElem? (i := 231) (by decide +kernel)⟩
theorem lw_p2 : lw_okq (⟨"KeptMoving$Course", "isStopped", "()Z"⟩, 5) := ⟨⟨by decide +kernel, by decide +kernel⟩, List.mem_of_getElem? (i := 23) (by decide +kernel), List.mem_of_getElem? (i := 235) (by decide +kernel), List.mem_of_getElem? (i := 236) (by decide +kernel)⟩
theorem lw_p3 : lw_okq (⟨"KeptMoving$Course", "canTurn", "(I)Z"⟩, 5) := ⟨⟨by decide +kernel, by decide +kernel⟩, List.mem_of_getElem? (i := 23) (by decide +kernel), List.mem_of_getElem? (i := 240) (by decide +kernel), List.mem_of_getElem? (i := 241) (by decide +kernel)⟩
theorem lw_p4 : lw_okq (⟨"KeptMoving$Course", "latestSpeed", "()I"⟩, 5) := ⟨⟨by decide +kernel, by decide +kernel⟩, List.mem_of_getElem? (i := 23) (by decide +kernel), List.mem_of_getElem? (i := 244) (by decide +kernel), List.mem_of_getElem? (i := 245) (by decide +kernel)⟩
theorem lw_p5 : lw_okq (⟨"KeptMoving$Course", "turn", "(II)V"⟩, 5) := ⟨⟨by decide +kernel, by decide +kernel⟩, List.mem_of_getElem? (i := 23) (by decide +kernel), List.mem_of_getElem? (i := 248) (by decide +kernel), List.mem_of_getElem? (i := 249) (by decide +kernel)⟩
theorem lw_p6 : lw_okq (⟨"KeptMoving$Course", "placeAt", "(I)I"⟩, 5) := ⟨⟨by decide +kernel, by decide +kernel⟩, List.mem_of_getElem? (i := 23) (by decide +kernel), List.mem_of_getElem? (i := 252) (by decide +kernel), List.mem_of_getElem? (i := 253) (by decide +kernel)⟩
theorem lw_p7 : lw_okq (⟨"KeptMoving$Course", "upperAt", "(II)I"⟩, 5) := ⟨⟨by decide +kernel, by decide +kernel⟩, List.mem_of_getElem? (i := 23) (by decide +kernel), List.mem_of_getElem? (i := 256) (by decide +kernel), List.mem_of_getElem? (i := 257) (by decide +kernel)⟩
theorem lw_p8 : lw_okq (⟨"KeptMoving$Course", "pieceAt", "(II)I"⟩, 5) := ⟨⟨by decide +kernel, by decide +kernel⟩, List.mem_of_getElem? (i := 23) (by decide +kernel), List.mem_of_getElem? (i := 260) (by decide +kernel), List.mem_of_getElem? (i := 261) (by decide +kernel)⟩
theorem lw_p9 : lw_okq (⟨"KeptMoving$Course", "began", "()I"⟩, 5) := ⟨⟨by decide +kernel, by decide +kernel⟩, List.mem_of_getElem? (i := 23) (by decide +kernel), List.mem_of_getElem? (i := 268) (by decide +kernel), List.mem_of_getElem? (i := 269) (by decide +kernel)⟩
theorem lw_p10 : lw_okq (⟨"KeptMoving$Course", "stop", "(I)V"⟩, 5) := ⟨⟨by decide +kernel, by decide +kernel⟩, List.mem_of_getElem? (i := 23) (by decide +kernel), List.mem_of_getElem? (i := 272) (by decide +kernel), List.mem_of_getElem? (i := 273) (by decide +kernel)⟩
theorem lw_p11 : lw_okq (⟨"KeptMoving", "undoFromNow", "()V"⟩, 11) := ⟨⟨by decide +kernel, by decide +kernel⟩, List.mem_of_getElem? (i := 14) (by decide +kernel), List.mem_of_getElem? (i := 284) (by decide +kernel), List.mem_of_getElem? (i := 285) (by decide +kernel)⟩
theorem lw_p12 : lw_okq (⟨"KeptMoving$Course", "undoFrom", "(I)V"⟩, 5) := ⟨⟨by decide +kernel, by decide +kernel⟩, List.mem_of_getElem? (i := 23) (by decide +kernel), List.mem_of_getElem? (i := 288) (by decide +kernel), List.mem_of_getElem? (i := 289) (by decide +kernel)⟩
theorem lw_p13 : lw_okq (⟨"KeptMoving", "lineUp", "(II)V"⟩, 11) := ⟨⟨by decide +kernel, by decide +kernel⟩, List.mem_of_getElem? (i := 14) (by decide +kernel), List.mem_of_getElem? (i := 296) (by decide +kernel), List.mem_of_getElem? (i := 297) (by decide +kernel)⟩
theorem lw_p14 : lw_okq (⟨"KeptMoving$Line", "clear", "()V"⟩, 3) := ⟨⟨by decide +kernel, by decide +kernel⟩, List.mem_of_getElem? (i := 48) (by decide +kernel), List.mem_of_getElem? (i := 300) (by decide +kernel), List.mem_of_getElem? (i := 301) (by decide +kernel)⟩
theorem lw_p15 : lw_okq (⟨"KeptMoving$Course", "isThere", "(II)Z"⟩, 5) := ⟨⟨by decide +kernel, by decide +kernel⟩, List.mem_of_getElem? (i := 23) (by decide +kernel), List.mem_of_getElem? (i := 304) (by decide +kernel), List.mem_of_getElem? (i := 305) (by decide +kernel)⟩
def lw_privs_1 : List (MethodName × Nat) := [(⟨"KeptMoving$Course", "begin", "(III)V"⟩, 5), (⟨"KeptMoving", "isKnown", "(I)Z"⟩, 11), (⟨"KeptMoving$Course", "isStopped", "()Z"⟩, 5), (⟨"KeptMoving$Course", "canTurn", "(I)Z"⟩, 5), (⟨"KeptMoving$Course", "latestSpeed", "()I"⟩, 5), (⟨"KeptMoving$Course", "turn", "(II)V"⟩, 5), (⟨"KeptMoving$Course", "placeAt", "(I)I"⟩, 5), (⟨"KeptMoving$Course", "upperAt", "(II)I"⟩, 5), (⟨"KeptMoving$Course", "pieceAt", "(II)I"⟩, 5), (⟨"KeptMoving$Course", "began", "()I"⟩, 5), (⟨"KeptMoving$Course", "stop", "(I)V"⟩, 5), (⟨"KeptMoving", "undoFromNow", "()V"⟩, 11), (⟨"KeptMoving$Course", "undoFrom", "(I)V"⟩, 5), (⟨"KeptMoving", "lineUp", "(II)V"⟩, 11), (⟨"KeptMoving$Line", "clear", "()V"⟩, 3), (⟨"KeptMoving$Course", "isThere", "(II)Z"⟩, 5)]
theorem lw_r1 : ∀ q ∈ lw_privs_1, lw_okq q := List.forall_mem_cons.mpr ⟨lw_p0, List.forall_mem_cons.mpr ⟨lw_p1, List.forall_mem_cons.mpr ⟨lw_p2, List.forall_mem_cons.mpr ⟨lw_p3, List.forall_mem_cons.mpr ⟨lw_p4, List.forall_mem_cons.mpr ⟨lw_p5, List.forall_mem_cons.mpr ⟨lw_p6, List.forall_mem_cons.mpr ⟨lw_p7, List.forall_mem_cons.mpr ⟨lw_p8, List.forall_mem_cons.mpr ⟨lw_p9, List.forall_mem_cons.mpr ⟨lw_p10, List.forall_mem_cons.mpr ⟨lw_p11, List.forall_mem_cons.mpr ⟨lw_p12, List.forall_mem_cons.mpr ⟨lw_p13, List.forall_mem_cons.mpr ⟨lw_p14, List.forall_mem_cons.mpr ⟨lw_p15, fun _ h => absurd h List.not_mem_nil⟩⟩⟩⟩⟩⟩⟩⟩⟩⟩⟩⟩⟩⟩⟩⟩
theorem lw_p16 : lw_okq (⟨"KeptMoving$Line", "insert", "(II)V"⟩, 3) := ⟨⟨by decide +kernel, by decide +kernel⟩, List.mem_of_getElem? (i := 48) (by decide +kernel), List.mem_of_getElem? (i := 309) (by decide +kernel), List.mem_of_getElem? (i := 310) (by decide +kernel)⟩
theorem lw_p17 : lw_okq (⟨"KeptMoving", "countPast", "(Z)I"⟩, 11) := ⟨⟨by decide +kernel, by decide +kernel⟩, List.mem_of_getElem? (i := 14) (by decide +kernel), List.mem_of_getElem? (i := 313) (by decide +kernel), List.mem_of_getElem? (i := 314) (by decide +kernel)⟩
theorem lw_p18 : lw_okq (⟨"KeptMoving", "gatherBends", "(I)V"⟩, 11) := ⟨⟨by decide +kernel, by decide +kernel⟩, List.mem_of_getElem? (i := 14) (by decide +kernel), List.mem_of_getElem? (i := 317) (by decide +kernel), List.mem_of_getElem? (i := 318) (by decide +kernel)⟩
theorem lw_p19 : lw_okq (⟨"KeptMoving", "nextBend", "(II)I"⟩, 11) := ⟨⟨by decide +kernel, by decide +kernel⟩, List.mem_of_getElem? (i := 14) (by decide +kernel), List.mem_of_getElem? (i := 321) (by decide +kernel), List.mem_of_getElem? (i := 322) (by decide +kernel)⟩
theorem lw_p20 : lw_okq (⟨"KeptMoving$Course", "nextBend", "(II)I"⟩, 5) := ⟨⟨by decide +kernel, by decide +kernel⟩, List.mem_of_getElem? (i := 23) (by decide +kernel), List.mem_of_getElem? (i := 325) (by decide +kernel), List.mem_of_getElem? (i := 326) (by decide +kernel)⟩
theorem lw_p21 : lw_okq (⟨"KeptMoving", "gatherMeetings", "(II)V"⟩, 11) := ⟨⟨by decide +kernel, by decide +kernel⟩, List.mem_of_getElem? (i := 14) (by decide +kernel), List.mem_of_getElem? (i := 332) (by decide +kernel), List.mem_of_getElem? (i := 333) (by decide +kernel)⟩
theorem lw_p22 : lw_okq (⟨"KeptMoving$Meetings", "clear", "()V"⟩, 5) := ⟨⟨by decide +kernel, by decide +kernel⟩, List.mem_of_getElem? (i := 87) (by decide +kernel), List.mem_of_getElem? (i := 336) (by decide +kernel), List.mem_of_getElem? (i := 337) (by decide +kernel)⟩
theorem lw_p23 : lw_okq (⟨"KeptMoving", "look", "(I)V"⟩, 11) := ⟨⟨by decide +kernel, by decide +kernel⟩, List.mem_of_getElem? (i := 14) (by decide +kernel), List.mem_of_getElem? (i := 340) (by decide +kernel), List.mem_of_getElem? (i := 341) (by decide +kernel)⟩
theorem lw_p24 : lw_okq (⟨"KeptMoving$Scene", "clear", "()V"⟩, 4) := ⟨⟨by decide +kernel, by decide +kernel⟩, List.mem_of_getElem? (i := 65) (by decide +kernel), List.mem_of_getElem? (i := 344) (by decide +kernel), List.mem_of_getElem? (i := 345) (by decide +kernel)⟩
theorem lw_p25 : lw_okq (⟨"KeptMoving$Scene", "add", "(LKeptMoving$Course;I)V"⟩, 4) := ⟨⟨by decide +kernel, by decide +kernel⟩, List.mem_of_getElem? (i := 65) (by decide +kernel), List.mem_of_getElem? (i := 348) (by decide +kernel), List.mem_of_getElem? (i := 349) (by decide +kernel)⟩
theorem lw_p26 : lw_okq (⟨"KeptMoving$Course", "speedAt", "(I)I"⟩, 5) := ⟨⟨by decide +kernel, by decide +kernel⟩, List.mem_of_getElem? (i := 23) (by decide +kernel), List.mem_of_getElem? (i := 354) (by decide +kernel), List.mem_of_getElem? (i := 355) (by decide +kernel)⟩
theorem lw_p27 : lw_okq (⟨"KeptMoving$Scene", "has", "(I)Z"⟩, 4) := ⟨⟨by decide +kernel, by decide +kernel⟩, List.mem_of_getElem? (i := 65) (by decide +kernel), List.mem_of_getElem? (i := 358) (by decide +kernel), List.mem_of_getElem? (i := 359) (by decide +kernel)⟩
theorem lw_p28 : lw_okq (⟨"KeptMoving", "addMeeting", "(IIII)V"⟩, 11) := ⟨⟨by decide +kernel, by decide +kernel⟩, List.mem_of_getElem? (i := 14) (by decide +kernel), List.mem_of_getElem? (i := 362) (by decide +kernel), List.mem_of_getElem? (i := 363) (by decide +kernel)⟩
theorem lw_p29 : lw_okq (⟨"KeptMoving$Scene", "gap", "(II)I"⟩, 4) := ⟨⟨by decide +kernel, by decide +kernel⟩, List.mem_of_getElem? (i := 65) (by decide +kernel), List.mem_of_getElem? (i := 366) (by decide +kernel), List.mem_of_getElem? (i := 367) (by decide +kernel)⟩
theorem lw_p30 : lw_okq (⟨"KeptMoving$Scene", "growth", "(II)I"⟩, 4) := ⟨⟨by decide +kernel, by decide +kernel⟩, List.mem_of_getElem? (i := 65) (by decide +kernel), List.mem_of_getElem? (i := 370) (by decide +kernel), List.mem_of_getElem? (i := 371) (by decide +kernel)⟩
theorem lw_p31 : lw_okq (⟨"KeptMoving$Meetings", "insert", "(JIIZ)V"⟩, 5) := ⟨⟨by decide +kernel, by decide +kernel⟩, List.mem_of_getElem? (i := 87) (by decide +kernel), List.mem_of_getElem? (i := 404) (by decide +kernel), List.mem_of_getElem? (i := 405) (by decide +kernel)⟩
def lw_privs_2 : List (MethodName × Nat) := [(⟨"KeptMoving$Line", "insert", "(II)V"⟩, 3), (⟨"KeptMoving", "countPast", "(Z)I"⟩, 11), (⟨"KeptMoving", "gatherBends", "(I)V"⟩, 11), (⟨"KeptMoving", "nextBend", "(II)I"⟩, 11), (⟨"KeptMoving$Course", "nextBend", "(II)I"⟩, 5), (⟨"KeptMoving", "gatherMeetings", "(II)V"⟩, 11), (⟨"KeptMoving$Meetings", "clear", "()V"⟩, 5), (⟨"KeptMoving", "look", "(I)V"⟩, 11), (⟨"KeptMoving$Scene", "clear", "()V"⟩, 4), (⟨"KeptMoving$Scene", "add", "(LKeptMoving$Course;I)V"⟩, 4), (⟨"KeptMoving$Course", "speedAt", "(I)I"⟩, 5), (⟨"KeptMoving$Scene", "has", "(I)Z"⟩, 4), (⟨"KeptMoving", "addMeeting", "(IIII)V"⟩, 11), (⟨"KeptMoving$Scene", "gap", "(II)I"⟩, 4), (⟨"KeptMoving$Scene", "growth", "(II)I"⟩, 4), (⟨"KeptMoving$Meetings", "insert", "(JIIZ)V"⟩, 5)]
theorem lw_r2 : ∀ q ∈ lw_privs_2, lw_okq q := List.forall_mem_cons.mpr ⟨lw_p16, List.forall_mem_cons.mpr ⟨lw_p17, List.forall_mem_cons.mpr ⟨lw_p18, List.forall_mem_cons.mpr ⟨lw_p19, List.forall_mem_cons.mpr ⟨lw_p20, List.forall_mem_cons.mpr ⟨lw_p21, List.forall_mem_cons.mpr ⟨lw_p22, List.forall_mem_cons.mpr ⟨lw_p23, List.forall_mem_cons.mpr ⟨lw_p24, List.forall_mem_cons.mpr ⟨lw_p25, List.forall_mem_cons.mpr ⟨lw_p26, List.forall_mem_cons.mpr ⟨lw_p27, List.forall_mem_cons.mpr ⟨lw_p28, List.forall_mem_cons.mpr ⟨lw_p29, List.forall_mem_cons.mpr ⟨lw_p30, List.forall_mem_cons.mpr ⟨lw_p31, fun _ h => absurd h List.not_mem_nil⟩⟩⟩⟩⟩⟩⟩⟩⟩⟩⟩⟩⟩⟩⟩⟩
theorem lw_p32 : lw_okq (⟨"KeptMoving", "addMeetingAtBend", "(IIII)V"⟩, 11) := ⟨⟨by decide +kernel, by decide +kernel⟩, List.mem_of_getElem? (i := 14) (by decide +kernel), List.mem_of_getElem? (i := 409) (by decide +kernel), List.mem_of_getElem? (i := 410) (by decide +kernel)⟩
theorem lw_p33 : lw_okq (⟨"KeptMoving$Line", "tell", "(I)I"⟩, 3) := ⟨⟨by decide +kernel, by decide +kernel⟩, List.mem_of_getElem? (i := 48) (by decide +kernel), List.mem_of_getElem? (i := 438) (by decide +kernel), List.mem_of_getElem? (i := 439) (by decide +kernel)⟩
theorem lw_p34 : lw_okq (⟨"KeptMoving$Line", "closestUpper", "()I"⟩, 3) := ⟨⟨by decide +kernel, by decide +kernel⟩, List.mem_of_getElem? (i := 48) (by decide +kernel), List.mem_of_getElem? (i := 450) (by decide +kernel), List.mem_of_getElem? (i := 451) (by decide +kernel)⟩
theorem lw_p35 : lw_okq (⟨"KeptMoving$Line", "heaps", "(I)I"⟩, 3) := ⟨⟨by decide +kernel, by decide +kernel⟩, List.mem_of_getElem? (i := 48) (by decide +kernel), List.mem_of_getElem? (i := 454) (by decide +kernel), List.mem_of_getElem? (i := 455) (by decide +kernel)⟩
theorem lw_p36 : lw_okq (⟨"KeptMoving$Meetings", "tell", "(II)I"⟩, 5) := ⟨⟨by decide +kernel, by decide +kernel⟩, List.mem_of_getElem? (i := 87) (by decide +kernel), List.mem_of_getElem? (i := 464) (by decide +kernel), List.mem_of_getElem? (i := 465) (by decide +kernel)⟩
theorem lw_p37 : lw_okq (⟨"KeptMoving", "gatherAround", "(I)I"⟩, 11) := ⟨⟨by decide +kernel, by decide +kernel⟩, List.mem_of_getElem? (i := 14) (by decide +kernel), List.mem_of_getElem? (i := 470) (by decide +kernel), List.mem_of_getElem? (i := 471) (by decide +kernel)⟩
theorem lw_p38 : lw_okq (⟨"KeptMoving$Spans", "seek", "(I)V"⟩, 5) := ⟨⟨by decide +kernel, by decide +kernel⟩, List.mem_of_getElem? (i := 157) (by decide +kernel), List.mem_of_getElem? (i := 481) (by decide +kernel), List.mem_of_getElem? (i := 482) (by decide +kernel)⟩
theorem lw_p39 : lw_okq (⟨"KeptMoving", "openStretch", "(I)V"⟩, 11) := ⟨⟨by decide +kernel, by decide +kernel⟩, List.mem_of_getElem? (i := 14) (by decide +kernel), List.mem_of_getElem? (i := 485) (by decide +kernel), List.mem_of_getElem? (i := 486) (by decide +kernel)⟩
theorem lw_p40 : lw_okq (⟨"KeptMoving$Stretch", "open", "(II)V"⟩, 5) := ⟨⟨by decide +kernel, by decide +kernel⟩, List.mem_of_getElem? (i := 112) (by decide +kernel), List.mem_of_getElem? (i := 489) (by decide +kernel), List.mem_of_getElem? (i := 490) (by decide +kernel)⟩
theorem lw_p41 : lw_okq (⟨"KeptMoving$Stretch", "keepAll", "()V"⟩, 5) := ⟨⟨by decide +kernel, by decide +kernel⟩, List.mem_of_getElem? (i := 112) (by decide +kernel), List.mem_of_getElem? (i := 494) (by decide +kernel), List.mem_of_getElem? (i := 495) (by decide +kernel)⟩
theorem lw_p42 : lw_okq (⟨"KeptMoving", "keepNear", "(III)V"⟩, 11) := ⟨⟨by decide +kernel, by decide +kernel⟩, List.mem_of_getElem? (i := 14) (by decide +kernel), List.mem_of_getElem? (i := 498) (by decide +kernel), List.mem_of_getElem? (i := 499) (by decide +kernel)⟩
theorem lw_p43 : lw_okq (⟨"KeptMoving$Stretch", "keepNothing", "()V"⟩, 5) := ⟨⟨by decide +kernel, by decide +kernel⟩, List.mem_of_getElem? (i := 112) (by decide +kernel), List.mem_of_getElem? (i := 502) (by decide +kernel), List.mem_of_getElem? (i := 503) (by decide +kernel)⟩
theorem lw_p44 : lw_okq (⟨"KeptMoving$Stretch", "keepAtMost", "(III)V"⟩, 5) := ⟨⟨by decide +kernel, by decide +kernel⟩, List.mem_of_getElem? (i := 112) (by decide +kernel), List.mem_of_getElem? (i := 506) (by decide +kernel), List.mem_of_getElem? (i := 507) (by decide +kernel)⟩
theorem lw_p45 : lw_okq (⟨"KeptMoving$Spans", "addIfSo", "(LKeptMoving$Stretch;)V"⟩, 5) := ⟨⟨by decide +kernel, by decide +kernel⟩, List.mem_of_getElem? (i := 157) (by decide +kernel), List.mem_of_getElem? (i := 513) (by decide +kernel), List.mem_of_getElem? (i := 514) (by decide +kernel)⟩
theorem lw_p46 : lw_okq (⟨"KeptMoving$Stretch", "isSo", "()Z"⟩, 5) := ⟨⟨by decide +kernel, by decide +kernel⟩, List.mem_of_getElem? (i := 112) (by decide +kernel), List.mem_of_getElem? (i := 517) (by decide +kernel), List.mem_of_getElem? (i := 518) (by decide +kernel)⟩
theorem lw_p47 : lw_okq (⟨"KeptMoving$Spans", "add", "(JJ)V"⟩, 5) := ⟨⟨by decide +kernel, by decide +kernel⟩, List.mem_of_getElem? (i := 157) (by decide +kernel), List.mem_of_getElem? (i := 522) (by decide +kernel), List.mem_of_getElem? (i := 523) (by decide +kernel)⟩
def lw_privs_3 : List (MethodName × Nat) := [(⟨"KeptMoving", "addMeetingAtBend", "(IIII)V"⟩, 11), (⟨"KeptMoving$Line", "tell", "(I)I"⟩, 3), (⟨"KeptMoving$Line", "closestUpper", "()I"⟩, 3), (⟨"KeptMoving$Line", "heaps", "(I)I"⟩, 3), (⟨"KeptMoving$Meetings", "tell", "(II)I"⟩, 5), (⟨"KeptMoving", "gatherAround", "(I)I"⟩, 11), (⟨"KeptMoving$Spans", "seek", "(I)V"⟩, 5), (⟨"KeptMoving", "openStretch", "(I)V"⟩, 11), (⟨"KeptMoving$Stretch", "open", "(II)V"⟩, 5), (⟨"KeptMoving$Stretch", "keepAll", "()V"⟩, 5), (⟨"KeptMoving", "keepNear", "(III)V"⟩, 11), (⟨"KeptMoving$Stretch", "keepNothing", "()V"⟩, 5), (⟨"KeptMoving$Stretch", "keepAtMost", "(III)V"⟩, 5), (⟨"KeptMoving$Spans", "addIfSo", "(LKeptMoving$Stretch;)V"⟩, 5), (⟨"KeptMoving$Stretch", "isSo", "()Z"⟩, 5), (⟨"KeptMoving$Spans", "add", "(JJ)V"⟩, 5)]
theorem lw_r3 : ∀ q ∈ lw_privs_3, lw_okq q := List.forall_mem_cons.mpr ⟨lw_p32, List.forall_mem_cons.mpr ⟨lw_p33, List.forall_mem_cons.mpr ⟨lw_p34, List.forall_mem_cons.mpr ⟨lw_p35, List.forall_mem_cons.mpr ⟨lw_p36, List.forall_mem_cons.mpr ⟨lw_p37, List.forall_mem_cons.mpr ⟨lw_p38, List.forall_mem_cons.mpr ⟨lw_p39, List.forall_mem_cons.mpr ⟨lw_p40, List.forall_mem_cons.mpr ⟨lw_p41, List.forall_mem_cons.mpr ⟨lw_p42, List.forall_mem_cons.mpr ⟨lw_p43, List.forall_mem_cons.mpr ⟨lw_p44, List.forall_mem_cons.mpr ⟨lw_p45, List.forall_mem_cons.mpr ⟨lw_p46, List.forall_mem_cons.mpr ⟨lw_p47, fun _ h => absurd h List.not_mem_nil⟩⟩⟩⟩⟩⟩⟩⟩⟩⟩⟩⟩⟩⟩⟩⟩
theorem lw_p48 : lw_okq (⟨"KeptMoving$Spans", "tell", "(I)I"⟩, 5) := ⟨⟨by decide +kernel, by decide +kernel⟩, List.mem_of_getElem? (i := 157) (by decide +kernel), List.mem_of_getElem? (i := 527) (by decide +kernel), List.mem_of_getElem? (i := 528) (by decide +kernel)⟩
theorem lw_p49 : lw_okq (⟨"KeptMoving", "keepFirst", "(I)V"⟩, 11) := ⟨⟨by decide +kernel, by decide +kernel⟩, List.mem_of_getElem? (i := 14) (by decide +kernel), List.mem_of_getElem? (i := 537) (by decide +kernel), List.mem_of_getElem? (i := 538) (by decide +kernel)⟩
theorem lw_p50 : lw_okq (⟨"KeptMoving", "gatherCrowd", "(II)V"⟩, 11) := ⟨⟨by decide +kernel, by decide +kernel⟩, List.mem_of_getElem? (i := 14) (by decide +kernel), List.mem_of_getElem? (i := 550) (by decide +kernel), List.mem_of_getElem? (i := 551) (by decide +kernel)⟩
theorem lw_p51 : lw_okq (⟨"KeptMoving$Crowd", "clear", "()V"⟩, 3) := ⟨⟨by decide +kernel, by decide +kernel⟩, List.mem_of_getElem? (i := 138) (by decide +kernel), List.mem_of_getElem? (i := 554) (by decide +kernel), List.mem_of_getElem? (i := 555) (by decide +kernel)⟩
theorem lw_p52 : lw_okq (⟨"KeptMoving$Crowd", "addIfSo", "(LKeptMoving$Stretch;)V"⟩, 3) := ⟨⟨by decide +kernel, by decide +kernel⟩, List.mem_of_getElem? (i := 138) (by decide +kernel), List.mem_of_getElem? (i := 559) (by decide +kernel), List.mem_of_getElem? (i := 560) (by decide +kernel)⟩
theorem lw_p53 : lw_okq (⟨"KeptMoving$Crowd", "insert", "([JJ)V"⟩, 3) := ⟨⟨by decide +kernel, by decide +kernel⟩, List.mem_of_getElem? (i := 138) (by decide +kernel), List.mem_of_getElem? (i := 564) (by decide +kernel), List.mem_of_getElem? (i := 565) (by decide +kernel)⟩
theorem lw_p54 : lw_okq (⟨"KeptMoving", "addCrowded", "(I)V"⟩, 11) := ⟨⟨by decide +kernel, by decide +kernel⟩, List.mem_of_getElem? (i := 14) (by decide +kernel), List.mem_of_getElem? (i := 569) (by decide +kernel), List.mem_of_getElem? (i := 570) (by decide +kernel)⟩
theorem lw_p55 : lw_okq (⟨"KeptMovingModel", "isPoint", "(I)Z"⟩, 26) := ⟨⟨by decide +kernel, by decide +kernel⟩, List.mem_of_getElem? (i := 574) (by decide +kernel), List.mem_of_getElem? (i := 676) (by decide +kernel), List.mem_of_getElem? (i := 677) (by decide +kernel)⟩
theorem lw_p56 : lw_okq (⟨"KeptMovingModel", "latest", "(I)I"⟩, 26) := ⟨⟨by decide +kernel, by decide +kernel⟩, List.mem_of_getElem? (i := 574) (by decide +kernel), List.mem_of_getElem? (i := 682) (by decide +kernel), List.mem_of_getElem? (i := 683) (by decide +kernel)⟩
theorem lw_p57 : lw_okq (⟨"KeptMovingModel", "findMeetings", "()V"⟩, 26) := ⟨⟨by decide +kernel, by decide +kernel⟩, List.mem_of_getElem? (i := 574) (by decide +kernel), List.mem_of_getElem? (i := 703) (by decide +kernel), List.mem_of_getElem? (i := 704) (by decide +kernel)⟩
theorem lw_p58 : lw_okq (⟨"KeptMovingModel", "meet", "(IIII)V"⟩, 26) := ⟨⟨by decide +kernel, by decide +kernel⟩, List.mem_of_getElem? (i := 574) (by decide +kernel), List.mem_of_getElem? (i := 707) (by decide +kernel), List.mem_of_getElem? (i := 708) (by decide +kernel)⟩
theorem lw_p59 : lw_okq (⟨"KeptMovingModel", "endOf", "(II)I"⟩, 26) := ⟨⟨by decide +kernel, by decide +kernel⟩, List.mem_of_getElem? (i := 574) (by decide +kernel), List.mem_of_getElem? (i := 714) (by decide +kernel), List.mem_of_getElem? (i := 715) (by decide +kernel)⟩
theorem lw_p60 : lw_okq (⟨"KeptMovingModel", "isThereBoth", "(IIJJ)Z"⟩, 26) := ⟨⟨by decide +kernel, by decide +kernel⟩, List.mem_of_getElem? (i := 574) (by decide +kernel), List.mem_of_getElem? (i := 722) (by decide +kernel), List.mem_of_getElem? (i := 723) (by decide +kernel)⟩
theorem lw_p61 : lw_okq (⟨"KeptMovingModel", "isThere", "(IJJ)Z"⟩, 26) := ⟨⟨by decide +kernel, by decide +kernel⟩, List.mem_of_getElem? (i := 574) (by decide +kernel), List.mem_of_getElem? (i := 726) (by decide +kernel), List.mem_of_getElem? (i := 727) (by decide +kernel)⟩
theorem lw_p62 : lw_okq (⟨"KeptMovingModel", "slopeBehind", "(IIJ)I"⟩, 26) := ⟨⟨by decide +kernel, by decide +kernel⟩, List.mem_of_getElem? (i := 574) (by decide +kernel), List.mem_of_getElem? (i := 733) (by decide +kernel), List.mem_of_getElem? (i := 734) (by decide +kernel)⟩
theorem lw_p63 : lw_okq (⟨"KeptMovingModel", "addMeeting", "(JJIIZ)V"⟩, 26) := ⟨⟨by decide +kernel, by decide +kernel⟩, List.mem_of_getElem? (i := 574) (by decide +kernel), List.mem_of_getElem? (i := 737) (by decide +kernel), List.mem_of_getElem? (i := 738) (by decide +kernel)⟩
def lw_privs_4 : List (MethodName × Nat) := [(⟨"KeptMoving$Spans", "tell", "(I)I"⟩, 5), (⟨"KeptMoving", "keepFirst", "(I)V"⟩, 11), (⟨"KeptMoving", "gatherCrowd", "(II)V"⟩, 11), (⟨"KeptMoving$Crowd", "clear", "()V"⟩, 3), (⟨"KeptMoving$Crowd", "addIfSo", "(LKeptMoving$Stretch;)V"⟩, 3), (⟨"KeptMoving$Crowd", "insert", "([JJ)V"⟩, 3), (⟨"KeptMoving", "addCrowded", "(I)V"⟩, 11), (⟨"KeptMovingModel", "isPoint", "(I)Z"⟩, 26), (⟨"KeptMovingModel", "latest", "(I)I"⟩, 26), (⟨"KeptMovingModel", "findMeetings", "()V"⟩, 26), (⟨"KeptMovingModel", "meet", "(IIII)V"⟩, 26), (⟨"KeptMovingModel", "endOf", "(II)I"⟩, 26), (⟨"KeptMovingModel", "isThereBoth", "(IIJJ)Z"⟩, 26), (⟨"KeptMovingModel", "isThere", "(IJJ)Z"⟩, 26), (⟨"KeptMovingModel", "slopeBehind", "(IIJ)I"⟩, 26), (⟨"KeptMovingModel", "addMeeting", "(JJIIZ)V"⟩, 26)]
theorem lw_r4 : ∀ q ∈ lw_privs_4, lw_okq q := List.forall_mem_cons.mpr ⟨lw_p48, List.forall_mem_cons.mpr ⟨lw_p49, List.forall_mem_cons.mpr ⟨lw_p50, List.forall_mem_cons.mpr ⟨lw_p51, List.forall_mem_cons.mpr ⟨lw_p52, List.forall_mem_cons.mpr ⟨lw_p53, List.forall_mem_cons.mpr ⟨lw_p54, List.forall_mem_cons.mpr ⟨lw_p55, List.forall_mem_cons.mpr ⟨lw_p56, List.forall_mem_cons.mpr ⟨lw_p57, List.forall_mem_cons.mpr ⟨lw_p58, List.forall_mem_cons.mpr ⟨lw_p59, List.forall_mem_cons.mpr ⟨lw_p60, List.forall_mem_cons.mpr ⟨lw_p61, List.forall_mem_cons.mpr ⟨lw_p62, List.forall_mem_cons.mpr ⟨lw_p63, fun _ h => absurd h List.not_mem_nil⟩⟩⟩⟩⟩⟩⟩⟩⟩⟩⟩⟩⟩⟩⟩⟩
theorem lw_p64 : lw_okq (⟨"KeptMovingModel", "thereNow", "()I"⟩, 26) := ⟨⟨by decide +kernel, by decide +kernel⟩, List.mem_of_getElem? (i := 574) (by decide +kernel), List.mem_of_getElem? (i := 741) (by decide +kernel), List.mem_of_getElem? (i := 742) (by decide +kernel)⟩
theorem lw_p65 : lw_okq (⟨"KeptMovingModel", "placeAt", "(IJJ)J"⟩, 26) := ⟨⟨by decide +kernel, by decide +kernel⟩, List.mem_of_getElem? (i := 574) (by decide +kernel), List.mem_of_getElem? (i := 759) (by decide +kernel), List.mem_of_getElem? (i := 760) (by decide +kernel)⟩
theorem lw_p66 : lw_okq (⟨"KeptMovingModel", "findOrder", "(JJ)V"⟩, 26) := ⟨⟨by decide +kernel, by decide +kernel⟩, List.mem_of_getElem? (i := 574) (by decide +kernel), List.mem_of_getElem? (i := 771) (by decide +kernel), List.mem_of_getElem? (i := 772) (by decide +kernel)⟩
theorem lw_p67 : lw_okq (⟨"KeptMovingModel", "rowAt", "(I)I"⟩, 26) := ⟨⟨by decide +kernel, by decide +kernel⟩, List.mem_of_getElem? (i := 574) (by decide +kernel), List.mem_of_getElem? (i := 775) (by decide +kernel), List.mem_of_getElem? (i := 776) (by decide +kernel)⟩
theorem lw_p68 : lw_okq (⟨"KeptMovingModel", "beginTimes", "(I)V"⟩, 26) := ⟨⟨by decide +kernel, by decide +kernel⟩, List.mem_of_getElem? (i := 574) (by decide +kernel), List.mem_of_getElem? (i := 802) (by decide +kernel), List.mem_of_getElem? (i := 803) (by decide +kernel)⟩
theorem lw_p69 : lw_okq (⟨"KeptMovingModel", "addTime", "(JJI)V"⟩, 26) := ⟨⟨by decide +kernel, by decide +kernel⟩, List.mem_of_getElem? (i := 574) (by decide +kernel), List.mem_of_getElem? (i := 806) (by decide +kernel), List.mem_of_getElem? (i := 807) (by decide +kernel)⟩
theorem lw_p70 : lw_okq (⟨"KeptMovingModel", "addApart", "(IIJI)V"⟩, 26) := ⟨⟨by decide +kernel, by decide +kernel⟩, List.mem_of_getElem? (i := 574) (by decide +kernel), List.mem_of_getElem? (i := 810) (by decide +kernel), List.mem_of_getElem? (i := 811) (by decide +kernel)⟩
theorem lw_p71 : lw_okq (⟨"KeptMovingModel", "addZero", "(JJJJI)V"⟩, 26) := ⟨⟨by decide +kernel, by decide +kernel⟩, List.mem_of_getElem? (i := 574) (by decide +kernel), List.mem_of_getElem? (i := 814) (by decide +kernel), List.mem_of_getElem? (i := 815) (by decide +kernel)⟩
theorem lw_p72 : lw_okq (⟨"KeptMovingModel", "findSpans", "(II)I"⟩, 26) := ⟨⟨by decide +kernel, by decide +kernel⟩, List.mem_of_getElem? (i := 574) (by decide +kernel), List.mem_of_getElem? (i := 818) (by decide +kernel), List.mem_of_getElem? (i := 819) (by decide +kernel)⟩
theorem lw_p73 : lw_okq (⟨"KeptMovingModel", "isSo", "(JJ)Z"⟩, 26) := ⟨⟨by decide +kernel, by decide +kernel⟩, List.mem_of_getElem? (i := 574) (by decide +kernel), List.mem_of_getElem? (i := 822) (by decide +kernel), List.mem_of_getElem? (i := 823) (by decide +kernel)⟩
theorem lw_p74 : lw_okq (⟨"KeptMovingModel", "addSpan", "(II)V"⟩, 26) := ⟨⟨by decide +kernel, by decide +kernel⟩, List.mem_of_getElem? (i := 574) (by decide +kernel), List.mem_of_getElem? (i := 826) (by decide +kernel), List.mem_of_getElem? (i := 827) (by decide +kernel)⟩
theorem lw_p75 : lw_okq (⟨"KeptMovingModel", "addAt", "(IJI)V"⟩, 26) := ⟨⟨by decide +kernel, by decide +kernel⟩, List.mem_of_getElem? (i := 574) (by decide +kernel), List.mem_of_getElem? (i := 842) (by decide +kernel), List.mem_of_getElem? (i := 843) (by decide +kernel)⟩
def lw_privs_5 : List (MethodName × Nat) := [(⟨"KeptMovingModel", "thereNow", "()I"⟩, 26), (⟨"KeptMovingModel", "placeAt", "(IJJ)J"⟩, 26), (⟨"KeptMovingModel", "findOrder", "(JJ)V"⟩, 26), (⟨"KeptMovingModel", "rowAt", "(I)I"⟩, 26), (⟨"KeptMovingModel", "beginTimes", "(I)V"⟩, 26), (⟨"KeptMovingModel", "addTime", "(JJI)V"⟩, 26), (⟨"KeptMovingModel", "addApart", "(IIJI)V"⟩, 26), (⟨"KeptMovingModel", "addZero", "(JJJJI)V"⟩, 26), (⟨"KeptMovingModel", "findSpans", "(II)I"⟩, 26), (⟨"KeptMovingModel", "isSo", "(JJ)Z"⟩, 26), (⟨"KeptMovingModel", "addSpan", "(II)V"⟩, 26), (⟨"KeptMovingModel", "addAt", "(IJI)V"⟩, 26)]
theorem lw_r5 : ∀ q ∈ lw_privs_5, lw_okq q := List.forall_mem_cons.mpr ⟨lw_p64, List.forall_mem_cons.mpr ⟨lw_p65, List.forall_mem_cons.mpr ⟨lw_p66, List.forall_mem_cons.mpr ⟨lw_p67, List.forall_mem_cons.mpr ⟨lw_p68, List.forall_mem_cons.mpr ⟨lw_p69, List.forall_mem_cons.mpr ⟨lw_p70, List.forall_mem_cons.mpr ⟨lw_p71, List.forall_mem_cons.mpr ⟨lw_p72, List.forall_mem_cons.mpr ⟨lw_p73, List.forall_mem_cons.mpr ⟨lw_p74, List.forall_mem_cons.mpr ⟨lw_p75, fun _ h => absurd h List.not_mem_nil⟩⟩⟩⟩⟩⟩⟩⟩⟩⟩⟩⟩
def lw_privs : List (MethodName × Nat) := lw_privs_1 ++ (lw_privs_2 ++ (lw_privs_3 ++ (lw_privs_4 ++ (lw_privs_5))))
def lw_tbl : List Cond := k2_sels lw_privs ++ tables_1
theorem lw_privs_ok : ∀ q ∈ lw_privs, lw_okq q := by
  show ∀ q ∈ lw_privs_1 ++ (lw_privs_2 ++ (lw_privs_3 ++ (lw_privs_4 ++ (lw_privs_5)))), lw_okq q
  exact List.forall_mem_append.mpr ⟨lw_r1, List.forall_mem_append.mpr ⟨lw_r2, List.forall_mem_append.mpr ⟨lw_r3, List.forall_mem_append.mpr ⟨lw_r4, lw_r5⟩⟩⟩⟩
end
section
/-! ===== BEGIN words of one list among another's, by their places ===== -/
theorem goodIn_r {big : List Cond} (ws : List Cond) (ps : List Nat) (hp : ws = ps.filterMap (fun i => big[i]?)) (h : ws.all goodWord = true) : GoodIn big ws := by
  intro w hw
  have h1 := List.all_eq_true.mp h w hw
  rw [hp] at hw
  obtain ⟨i, -, hi⟩ := List.mem_filterMap.mp hw
  have hm : w ∈ big := by first | exact List.mem_of_getElem? hi | exact List.getElem?_mem hi
  exact ⟨hm, good_of_word h1⟩
theorem goodIn_app {big a b : List Cond} (ha : GoodIn big a) (hb : GoodIn big b) : GoodIn big (a ++ b) := fun w h => (List.mem_append.mp h).elim (ha w) (hb w)
theorem goodIn_ca {big a b : List Cond} {c : Cond} (ha : GoodIn big (c :: a)) (hb : GoodIn big b) : GoodIn big (c :: (a ++ b)) := fun w h => (List.mem_cons.mp h).elim (fun e => ha w (List.mem_cons.mpr (Or.inl e))) (fun h => (List.mem_append.mp h).elim (fun h => ha w (List.mem_cons.mpr (Or.inr h))) (hb w))
theorem goodIn_sub {big ws : List Cond} (hm : ∀ w ∈ ws, w ∈ big) (h : ws.all goodWord = true) : GoodIn big ws := fun w hw => ⟨hm w hw, good_of_word (List.all_eq_true.mp h w hw)⟩
/-! ===== END ===== -/

/-! ===== BEGIN printed: names, fields, word lists, decode rows ===== -/
def RX0 : String := "KeptMoving$Course"
def TX0 : u_T := fun k => match k with
  | 0 => ("KeptMoving$Course", "starts", "[I", true)
  | 1 => ("KeptMoving$Course", "places", "[I", true)
  | 2 => ("KeptMoving$Course", "speeds", "[I", true)
  | 3 => ("KeptMoving$Course", "pieces", "I", false)
  | _ => ("KeptMoving$Course", "stopped", "I", false)
def tyX0 : Nat → FieldType := fun k => match k with
  | 0 => .array .int
  | 1 => .array .int
  | 2 => .array .int
  | 3 => .int
  | _ => .int
abbrev wsX00 : List Cond := u_ws RX0 TX0 5
theorem nmX0 : ∀ a, a < 5 → ∀ b, b < 5 → a ≠ b → (TX0 a).2.1 ≠ (TX0 b).2.1 := by decide +kernel
theorem tyX0_ok : ∀ k, k < 5 → parseFieldDescriptor (TX0 k).2.2.1 = some (tyX0 k) := by decide +kernel
abbrev cX0_init : ByteArray := prog_2_method_1_code
def yX0_init : MethodName := ⟨RX0, "<init>", "()V"⟩
abbrev cX0_begin : ByteArray := prog_2_method_2_code
def yX0_begin : MethodName := ⟨RX0, "begin", "(III)V"⟩
abbrev cX0_began : ByteArray := prog_2_method_3_code
def yX0_began : MethodName := ⟨RX0, "began", "()I"⟩
abbrev cX0_isStopped : ByteArray := prog_2_method_4_code
def yX0_isStopped : MethodName := ⟨RX0, "isStopped", "()Z"⟩
abbrev cX0_stop : ByteArray := prog_2_method_5_code
def yX0_stop : MethodName := ⟨RX0, "stop", "(I)V"⟩
abbrev cX0_canTurn : ByteArray := prog_2_method_6_code
def yX0_canTurn : MethodName := ⟨RX0, "canTurn", "(I)Z"⟩
abbrev cX0_latestSpeed : ByteArray := prog_2_method_7_code
def yX0_latestSpeed : MethodName := ⟨RX0, "latestSpeed", "()I"⟩
abbrev cX0_turn : ByteArray := prog_2_method_8_code
def yX0_turn : MethodName := ⟨RX0, "turn", "(II)V"⟩
abbrev cX0_undoFrom : ByteArray := prog_2_method_9_code
def yX0_undoFrom : MethodName := ⟨RX0, "undoFrom", "(I)V"⟩
abbrev cX0_isThere : ByteArray := prog_2_method_10_code
def yX0_isThere : MethodName := ⟨RX0, "isThere", "(II)Z"⟩
abbrev cX0_pieceAt : ByteArray := prog_2_method_11_code
def yX0_pieceAt : MethodName := ⟨RX0, "pieceAt", "(II)I"⟩
abbrev cX0_upperAt : ByteArray := prog_2_method_12_code
def yX0_upperAt : MethodName := ⟨RX0, "upperAt", "(II)I"⟩
abbrev cX0_placeAt : ByteArray := prog_2_method_13_code
def yX0_placeAt : MethodName := ⟨RX0, "placeAt", "(I)I"⟩
abbrev cX0_speedAt : ByteArray := prog_2_method_14_code
def yX0_speedAt : MethodName := ⟨RX0, "speedAt", "(I)I"⟩
abbrev cX0_nextBend : ByteArray := prog_2_method_15_code
def yX0_nextBend : MethodName := ⟨RX0, "nextBend", "(II)I"⟩
def RX1 : String := "KeptMoving$Crowd"
def TX1 : u_T := fun k => match k with
  | 0 => ("KeptMoving$Crowd", "begins", "[J", true)
  | 1 => ("KeptMoving$Crowd", "ends", "[J", true)
  | _ => ("KeptMoving$Crowd", "size", "I", false)
def tyX1 : Nat → FieldType := fun k => match k with
  | 0 => .array .long
  | 1 => .array .long
  | _ => .int
abbrev wsX10 : List Cond := u_ws RX1 TX1 3
theorem nmX1 : ∀ a, a < 3 → ∀ b, b < 3 → a ≠ b → (TX1 a).2.1 ≠ (TX1 b).2.1 := by decide +kernel
theorem tyX1_ok : ∀ k, k < 3 → parseFieldDescriptor (TX1 k).2.2.1 = some (tyX1 k) := by decide +kernel
abbrev cX1_init : ByteArray := prog_3_method_1_code
def yX1_init : MethodName := ⟨RX1, "<init>", "()V"⟩
abbrev cX1_clear : ByteArray := prog_3_method_2_code
def yX1_clear : MethodName := ⟨RX1, "clear", "()V"⟩
abbrev cX1_addIfSo : ByteArray := prog_3_method_3_code
def yX1_addIfSo : MethodName := ⟨RX1, "addIfSo", "(LKeptMoving$Stretch;)V"⟩
abbrev cX1_insert : ByteArray := prog_3_method_4_code
def yX1_insert : MethodName := ⟨RX1, "insert", "([JJ)V"⟩
def RX2 : String := "KeptMoving$Fraction"
def TX2 : u_T := fun k => match k with
  | _ => ("", "", "", false)
def tyX2 : Nat → FieldType := fun k => match k with
  | _ => .int
abbrev wsX20 : List Cond := u_ws RX2 TX2 0
theorem nmX2 : ∀ a, a < 0 → ∀ b, b < 0 → a ≠ b → (TX2 a).2.1 ≠ (TX2 b).2.1 := by decide +kernel
theorem tyX2_ok : ∀ k, k < 0 → parseFieldDescriptor (TX2 k).2.2.1 = some (tyX2 k) := by decide +kernel
abbrev cX2_of : ByteArray := prog_4_method_2_code
def yX2_of : MethodName := ⟨RX2, "of", "(II)J"⟩
abbrev cX2_whole : ByteArray := prog_4_method_3_code
def yX2_whole : MethodName := ⟨RX2, "whole", "(I)J"⟩
abbrev cX2_past : ByteArray := prog_4_method_4_code
def yX2_past : MethodName := ⟨RX2, "past", "(III)J"⟩
abbrev cX2_upper : ByteArray := prog_4_method_5_code
def yX2_upper : MethodName := ⟨RX2, "upper", "(J)I"⟩
abbrev cX2_lower : ByteArray := prog_4_method_6_code
def yX2_lower : MethodName := ⟨RX2, "lower", "(J)I"⟩
abbrev cX2_compare : ByteArray := prog_4_method_7_code
def yX2_compare : MethodName := ⟨RX2, "compare", "(JJ)I"⟩
abbrev cX2_commonDivisor : ByteArray := prog_4_method_8_code
def yX2_commonDivisor : MethodName := ⟨RX2, "commonDivisor", "(II)I"⟩
def RX3 : String := "KeptMoving$Line"
def TX3 : u_T := fun k => match k with
  | 0 => ("KeptMoving$Line", "numbers", "[I", true)
  | 1 => ("KeptMoving$Line", "uppers", "[I", true)
  | _ => ("KeptMoving$Line", "size", "I", false)
def tyX3 : Nat → FieldType := fun k => match k with
  | 0 => .array .int
  | 1 => .array .int
  | _ => .int
abbrev wsX30 : List Cond := u_ws RX3 TX3 3
theorem nmX3 : ∀ a, a < 3 → ∀ b, b < 3 → a ≠ b → (TX3 a).2.1 ≠ (TX3 b).2.1 := by decide +kernel
theorem tyX3_ok : ∀ k, k < 3 → parseFieldDescriptor (TX3 k).2.2.1 = some (tyX3 k) := by decide +kernel
abbrev cX3_init : ByteArray := prog_5_method_1_code
def yX3_init : MethodName := ⟨RX3, "<init>", "()V"⟩
abbrev cX3_clear : ByteArray := prog_5_method_2_code
def yX3_clear : MethodName := ⟨RX3, "clear", "()V"⟩
abbrev cX3_insert : ByteArray := prog_5_method_3_code
def yX3_insert : MethodName := ⟨RX3, "insert", "(II)V"⟩
abbrev cX3_tell : ByteArray := prog_5_method_4_code
def yX3_tell : MethodName := ⟨RX3, "tell", "(I)I"⟩
abbrev cX3_closestUpper : ByteArray := prog_5_method_5_code
def yX3_closestUpper : MethodName := ⟨RX3, "closestUpper", "()I"⟩
abbrev cX3_heaps : ByteArray := prog_5_method_6_code
def yX3_heaps : MethodName := ⟨RX3, "heaps", "(I)I"⟩
def RX4 : String := "KeptMoving$Meetings"
def TX4 : u_T := fun k => match k with
  | 0 => ("KeptMoving$Meetings", "times", "[J", true)
  | 1 => ("KeptMoving$Meetings", "ones", "[I", true)
  | 2 => ("KeptMoving$Meetings", "others", "[I", true)
  | 3 => ("KeptMoving$Meetings", "size", "I", false)
  | _ => ("KeptMoving$Meetings", "passes", "I", false)
def tyX4 : Nat → FieldType := fun k => match k with
  | 0 => .array .long
  | 1 => .array .int
  | 2 => .array .int
  | 3 => .int
  | _ => .int
abbrev wsX40 : List Cond := u_ws RX4 TX4 5
theorem nmX4 : ∀ a, a < 5 → ∀ b, b < 5 → a ≠ b → (TX4 a).2.1 ≠ (TX4 b).2.1 := by decide +kernel
theorem tyX4_ok : ∀ k, k < 5 → parseFieldDescriptor (TX4 k).2.2.1 = some (tyX4 k) := by decide +kernel
abbrev cX4_init : ByteArray := prog_6_method_1_code
def yX4_init : MethodName := ⟨RX4, "<init>", "()V"⟩
abbrev cX4_clear : ByteArray := prog_6_method_2_code
def yX4_clear : MethodName := ⟨RX4, "clear", "()V"⟩
abbrev cX4_insert : ByteArray := prog_6_method_3_code
def yX4_insert : MethodName := ⟨RX4, "insert", "(JIIZ)V"⟩
abbrev cX4_tell : ByteArray := prog_6_method_4_code
def yX4_tell : MethodName := ⟨RX4, "tell", "(II)I"⟩
def RX5 : String := "KeptMoving$Scene"
def TX5 : u_T := fun k => match k with
  | 0 => ("KeptMoving$Scene", "isThere", "[Z", true)
  | 1 => ("KeptMoving$Scene", "places", "[I", true)
  | 2 => ("KeptMoving$Scene", "speeds", "[I", true)
  | _ => ("KeptMoving$Scene", "size", "I", false)
def tyX5 : Nat → FieldType := fun k => match k with
  | 0 => .array .boolean
  | 1 => .array .int
  | 2 => .array .int
  | _ => .int
abbrev wsX50 : List Cond := u_ws RX5 TX5 4
theorem nmX5 : ∀ a, a < 4 → ∀ b, b < 4 → a ≠ b → (TX5 a).2.1 ≠ (TX5 b).2.1 := by decide +kernel
theorem tyX5_ok : ∀ k, k < 4 → parseFieldDescriptor (TX5 k).2.2.1 = some (tyX5 k) := by decide +kernel
abbrev cX5_init : ByteArray := prog_7_method_1_code
def yX5_init : MethodName := ⟨RX5, "<init>", "()V"⟩
abbrev cX5_clear : ByteArray := prog_7_method_2_code
def yX5_clear : MethodName := ⟨RX5, "clear", "()V"⟩
abbrev cX5_add : ByteArray := prog_7_method_3_code
def yX5_add : MethodName := ⟨RX5, "add", "(LKeptMoving$Course;I)V"⟩
abbrev cX5_has : ByteArray := prog_7_method_4_code
def yX5_has : MethodName := ⟨RX5, "has", "(I)Z"⟩
abbrev cX5_gap : ByteArray := prog_7_method_5_code
def yX5_gap : MethodName := ⟨RX5, "gap", "(II)I"⟩
abbrev cX5_growth : ByteArray := prog_7_method_6_code
def yX5_growth : MethodName := ⟨RX5, "growth", "(II)I"⟩
def RX6 : String := "KeptMoving$Spans"
def TX6 : u_T := fun k => match k with
  | 0 => ("KeptMoving$Spans", "sought", "I", false)
  | 1 => ("KeptMoving$Spans", "size", "I", false)
  | 2 => ("KeptMoving$Spans", "latestEnd", "J", false)
  | 3 => ("KeptMoving$Spans", "foundBegin", "J", false)
  | _ => ("KeptMoving$Spans", "foundEnd", "J", false)
def tyX6 : Nat → FieldType := fun k => match k with
  | 0 => .int
  | 1 => .int
  | 2 => .long
  | 3 => .long
  | _ => .long
abbrev wsX60 : List Cond := u_ws RX6 TX6 5
theorem nmX6 : ∀ a, a < 5 → ∀ b, b < 5 → a ≠ b → (TX6 a).2.1 ≠ (TX6 b).2.1 := by decide +kernel
theorem tyX6_ok : ∀ k, k < 5 → parseFieldDescriptor (TX6 k).2.2.1 = some (tyX6 k) := by decide +kernel
abbrev cX6_init : ByteArray := prog_8_method_1_code
def yX6_init : MethodName := ⟨RX6, "<init>", "()V"⟩
abbrev cX6_seek : ByteArray := prog_8_method_2_code
def yX6_seek : MethodName := ⟨RX6, "seek", "(I)V"⟩
abbrev cX6_addIfSo : ByteArray := prog_8_method_3_code
def yX6_addIfSo : MethodName := ⟨RX6, "addIfSo", "(LKeptMoving$Stretch;)V"⟩
abbrev cX6_add : ByteArray := prog_8_method_4_code
def yX6_add : MethodName := ⟨RX6, "add", "(JJ)V"⟩
abbrev cX6_tell : ByteArray := prog_8_method_5_code
def yX6_tell : MethodName := ⟨RX6, "tell", "(I)I"⟩
def RX7 : String := "KeptMoving$Stretch"
def TX7 : u_T := fun k => match k with
  | 0 => ("KeptMoving$Stretch", "from", "I", false)
  | 1 => ("KeptMoving$Stretch", "until", "J", false)
  | 2 => ("KeptMoving$Stretch", "begin", "J", false)
  | 3 => ("KeptMoving$Stretch", "end", "J", false)
  | _ => ("KeptMoving$Stretch", "isNothing", "Z", false)
def tyX7 : Nat → FieldType := fun k => match k with
  | 0 => .int
  | 1 => .long
  | 2 => .long
  | 3 => .long
  | _ => .boolean
abbrev wsX70 : List Cond := u_ws RX7 TX7 5
theorem nmX7 : ∀ a, a < 5 → ∀ b, b < 5 → a ≠ b → (TX7 a).2.1 ≠ (TX7 b).2.1 := by decide +kernel
theorem tyX7_ok : ∀ k, k < 5 → parseFieldDescriptor (TX7 k).2.2.1 = some (tyX7 k) := by decide +kernel
abbrev cX7_init : ByteArray := prog_9_method_1_code
def yX7_init : MethodName := ⟨RX7, "<init>", "()V"⟩
abbrev cX7_open : ByteArray := prog_9_method_2_code
def yX7_open : MethodName := ⟨RX7, "open", "(II)V"⟩
abbrev cX7_keepAll : ByteArray := prog_9_method_3_code
def yX7_keepAll : MethodName := ⟨RX7, "keepAll", "()V"⟩
abbrev cX7_keepNothing : ByteArray := prog_9_method_4_code
def yX7_keepNothing : MethodName := ⟨RX7, "keepNothing", "()V"⟩
abbrev cX7_keepAtMost : ByteArray := prog_9_method_5_code
def yX7_keepAtMost : MethodName := ⟨RX7, "keepAtMost", "(III)V"⟩
abbrev cX7_isSo : ByteArray := prog_9_method_6_code
def yX7_isSo : MethodName := ⟨RX7, "isSo", "()Z"⟩
def RX8 : String := "KeptMoving"
def TX8 : u_T := fun k => match k with
  | 0 => ("KeptMoving", "courses", "[LKeptMoving$Course;", true)
  | 1 => ("KeptMoving", "came", "I", false)
  | 2 => ("KeptMoving", "now", "I", false)
  | 3 => ("KeptMoving", "line", "LKeptMoving$Line;", true)
  | 4 => ("KeptMoving", "bends", "[I", true)
  | 5 => ("KeptMoving", "bendCount", "I", false)
  | 6 => ("KeptMoving", "scene", "LKeptMoving$Scene;", true)
  | 7 => ("KeptMoving", "meetings", "LKeptMoving$Meetings;", true)
  | 8 => ("KeptMoving", "stretch", "LKeptMoving$Stretch;", true)
  | 9 => ("KeptMoving", "crowd", "LKeptMoving$Crowd;", true)
  | _ => ("KeptMoving", "spans", "LKeptMoving$Spans;", true)
def tyX8 : Nat → FieldType := fun k => match k with
  | 0 => .array (.object "KeptMoving$Course")
  | 1 => .int
  | 2 => .int
  | 3 => .object "KeptMoving$Line"
  | 4 => .array .int
  | 5 => .int
  | 6 => .object "KeptMoving$Scene"
  | 7 => .object "KeptMoving$Meetings"
  | 8 => .object "KeptMoving$Stretch"
  | 9 => .object "KeptMoving$Crowd"
  | _ => .object "KeptMoving$Spans"
abbrev wsX80 : List Cond := u_ws RX8 TX8 11
theorem nmX8 : ∀ a, a < 11 → ∀ b, b < 11 → a ≠ b → (TX8 a).2.1 ≠ (TX8 b).2.1 := by decide +kernel
theorem tyX8_ok : ∀ k, k < 11 → parseFieldDescriptor (TX8 k).2.2.1 = some (tyX8 k) := by decide +kernel
abbrev cX8_init : ByteArray := prog_1_method_1_code
def yX8_init : MethodName := ⟨RX8, "<init>", "()V"⟩
abbrev cX8_point : ByteArray := prog_1_method_2_code
def yX8_point : MethodName := ⟨RX8, "point", "(II)I"⟩
abbrev cX8_speed : ByteArray := prog_1_method_3_code
def yX8_speed : MethodName := ⟨RX8, "speed", "(II)I"⟩
abbrev cX8_gone : ByteArray := prog_1_method_4_code
def yX8_gone : MethodName := ⟨RX8, "gone", "(I)I"⟩
abbrev cX8_go : ByteArray := prog_1_method_5_code
def yX8_go : MethodName := ⟨RX8, "go", "(I)I"⟩
abbrev cX8_back : ByteArray := prog_1_method_6_code
def yX8_back : MethodName := ⟨RX8, "back", "(I)I"⟩
abbrev cX8_count : ByteArray := prog_1_method_7_code
def yX8_count : MethodName := ⟨RX8, "count", "(I)I"⟩
abbrev cX8_told : ByteArray := prog_1_method_8_code
def yX8_told : MethodName := ⟨RX8, "told", "(II)I"⟩
abbrev cX8_place : ByteArray := prog_1_method_9_code
def yX8_place : MethodName := ⟨RX8, "place", "(IIII)J"⟩
abbrev cX8_order : ByteArray := prog_1_method_10_code
def yX8_order : MethodName := ⟨RX8, "order", "(III)I"⟩
abbrev cX8_kept : ByteArray := prog_1_method_11_code
def yX8_kept : MethodName := ⟨RX8, "kept", "(I)I"⟩
abbrev cX8_at : ByteArray := prog_1_method_12_code
def yX8_at : MethodName := ⟨RX8, "at", "(IIII)I"⟩
abbrev cX8_meeting : ByteArray := prog_1_method_13_code
def yX8_meeting : MethodName := ⟨RX8, "meeting", "(II)I"⟩
abbrev cX8_near : ByteArray := prog_1_method_14_code
def yX8_near : MethodName := ⟨RX8, "near", "(IIIIII)I"⟩
abbrev cX8_first : ByteArray := prog_1_method_15_code
def yX8_first : MethodName := ⟨RX8, "first", "(IIII)I"⟩
abbrev cX8_within : ByteArray := prog_1_method_16_code
def yX8_within : MethodName := ⟨RX8, "within", "(IIIIII)I"⟩
abbrev cX8_isFromTo : ByteArray := prog_1_method_17_code
def yX8_isFromTo : MethodName := ⟨RX8, "isFromTo", "(III)Z"⟩
abbrev cX8_isKnown : ByteArray := prog_1_method_18_code
def yX8_isKnown : MethodName := ⟨RX8, "isKnown", "(I)Z"⟩
abbrev cX8_isMoment : ByteArray := prog_1_method_19_code
def yX8_isMoment : MethodName := ⟨RX8, "isMoment", "(II)Z"⟩
abbrev cX8_isSpanAsked : ByteArray := prog_1_method_20_code
def yX8_isSpanAsked : MethodName := ⟨RX8, "isSpanAsked", "(II)Z"⟩
abbrev cX8_isWindow : ByteArray := prog_1_method_21_code
def yX8_isWindow : MethodName := ⟨RX8, "isWindow", "(II)Z"⟩
abbrev cX8_undoFromNow : ByteArray := prog_1_method_22_code
def yX8_undoFromNow : MethodName := ⟨RX8, "undoFromNow", "()V"⟩
abbrev cX8_lineUp : ByteArray := prog_1_method_23_code
def yX8_lineUp : MethodName := ⟨RX8, "lineUp", "(II)V"⟩
abbrev cX8_gatherBends : ByteArray := prog_1_method_24_code
def yX8_gatherBends : MethodName := ⟨RX8, "gatherBends", "(I)V"⟩
abbrev cX8_nextBend : ByteArray := prog_1_method_25_code
def yX8_nextBend : MethodName := ⟨RX8, "nextBend", "(II)I"⟩
abbrev cX8_countPast : ByteArray := prog_1_method_26_code
def yX8_countPast : MethodName := ⟨RX8, "countPast", "(Z)I"⟩
abbrev cX8_gatherAround : ByteArray := prog_1_method_27_code
def yX8_gatherAround : MethodName := ⟨RX8, "gatherAround", "(I)I"⟩
abbrev cX8_look : ByteArray := prog_1_method_28_code
def yX8_look : MethodName := ⟨RX8, "look", "(I)V"⟩
abbrev cX8_gatherMeetings : ByteArray := prog_1_method_29_code
def yX8_gatherMeetings : MethodName := ⟨RX8, "gatherMeetings", "(II)V"⟩
abbrev cX8_addMeeting : ByteArray := prog_1_method_30_code
def yX8_addMeeting : MethodName := ⟨RX8, "addMeeting", "(IIII)V"⟩
abbrev cX8_addMeetingAtBend : ByteArray := prog_1_method_31_code
def yX8_addMeetingAtBend : MethodName := ⟨RX8, "addMeetingAtBend", "(IIII)V"⟩
abbrev cX8_openStretch : ByteArray := prog_1_method_32_code
def yX8_openStretch : MethodName := ⟨RX8, "openStretch", "(I)V"⟩
abbrev cX8_keepNear : ByteArray := prog_1_method_33_code
def yX8_keepNear : MethodName := ⟨RX8, "keepNear", "(III)V"⟩
abbrev cX8_keepFirst : ByteArray := prog_1_method_34_code
def yX8_keepFirst : MethodName := ⟨RX8, "keepFirst", "(I)V"⟩
abbrev cX8_gatherCrowd : ByteArray := prog_1_method_35_code
def yX8_gatherCrowd : MethodName := ⟨RX8, "gatherCrowd", "(II)V"⟩
abbrev cX8_addCrowded : ByteArray := prog_1_method_36_code
def yX8_addCrowded : MethodName := ⟨RX8, "addCrowded", "(I)V"⟩
def RX9 : String := "KeptMovingModel"
def TX9 : u_T := fun k => match k with
  | 0 => ("KeptMovingModel", "now", "I", false)
  | 1 => ("KeptMovingModel", "points", "I", false)
  | 2 => ("KeptMovingModel", "goneAt", "[I", true)
  | 3 => ("KeptMovingModel", "pieces", "[I", true)
  | 4 => ("KeptMovingModel", "begins", "[I", true)
  | 5 => ("KeptMovingModel", "places", "[I", true)
  | 6 => ("KeptMovingModel", "speeds", "[I", true)
  | 7 => ("KeptMovingModel", "row", "[I", true)
  | 8 => ("KeptMovingModel", "rowMany", "I", false)
  | 9 => ("KeptMovingModel", "meetings", "I", false)
  | 10 => ("KeptMovingModel", "meetN", "[J", true)
  | 11 => ("KeptMovingModel", "meetD", "[J", true)
  | 12 => ("KeptMovingModel", "meetI", "[I", true)
  | 13 => ("KeptMovingModel", "meetJ", "[I", true)
  | 14 => ("KeptMovingModel", "isPass", "[Z", true)
  | 15 => ("KeptMovingModel", "times", "I", false)
  | 16 => ("KeptMovingModel", "timeN", "[J", true)
  | 17 => ("KeptMovingModel", "timeD", "[J", true)
  | 18 => ("KeptMovingModel", "thing", "I", false)
  | 19 => ("KeptMovingModel", "one", "I", false)
  | 20 => ("KeptMovingModel", "two", "I", false)
  | 21 => ("KeptMovingModel", "low", "J", false)
  | 22 => ("KeptMovingModel", "high", "J", false)
  | 23 => ("KeptMovingModel", "spans", "I", false)
  | 24 => ("KeptMovingModel", "spanN", "[J", true)
  | _ => ("KeptMovingModel", "spanD", "[J", true)
def tyX9 : Nat → FieldType := fun k => match k with
  | 0 => .int
  | 1 => .int
  | 2 => .array .int
  | 3 => .array .int
  | 4 => .array .int
  | 5 => .array .int
  | 6 => .array .int
  | 7 => .array .int
  | 8 => .int
  | 9 => .int
  | 10 => .array .long
  | 11 => .array .long
  | 12 => .array .int
  | 13 => .array .int
  | 14 => .array .boolean
  | 15 => .int
  | 16 => .array .long
  | 17 => .array .long
  | 18 => .int
  | 19 => .int
  | 20 => .int
  | 21 => .long
  | 22 => .long
  | 23 => .int
  | 24 => .array .long
  | _ => .array .long
abbrev wsX90 : List Cond := u_ws RX9 TX9 26
theorem nmX9 : ∀ a, a < 26 → ∀ b, b < 26 → a ≠ b → (TX9 a).2.1 ≠ (TX9 b).2.1 := by decide +kernel
theorem tyX9_ok : ∀ k, k < 26 → parseFieldDescriptor (TX9 k).2.2.1 = some (tyX9 k) := by decide +kernel
abbrev cX9_init : ByteArray := prog_11_method_1_code
def yX9_init : MethodName := ⟨RX9, "<init>", "()V"⟩
abbrev cX9_in : ByteArray := prog_11_method_3_code
def yX9_in : MethodName := ⟨RX9, "in", "(JJJ)Z"⟩
abbrev cX9_isPoint : ByteArray := prog_11_method_4_code
def yX9_isPoint : MethodName := ⟨RX9, "isPoint", "(I)Z"⟩
abbrev cX9_point : ByteArray := prog_11_method_5_code
def yX9_point : MethodName := ⟨RX9, "point", "(II)I"⟩
abbrev cX9_latest : ByteArray := prog_11_method_6_code
def yX9_latest : MethodName := ⟨RX9, "latest", "(I)I"⟩
abbrev cX9_speed : ByteArray := prog_11_method_7_code
def yX9_speed : MethodName := ⟨RX9, "speed", "(II)I"⟩
abbrev cX9_gone : ByteArray := prog_11_method_8_code
def yX9_gone : MethodName := ⟨RX9, "gone", "(I)I"⟩
abbrev cX9_go : ByteArray := prog_11_method_9_code
def yX9_go : MethodName := ⟨RX9, "go", "(I)I"⟩
abbrev cX9_back : ByteArray := prog_11_method_10_code
def yX9_back : MethodName := ⟨RX9, "back", "(I)I"⟩
abbrev cX9_isThere : ByteArray := prog_11_method_11_code
def yX9_isThere : MethodName := ⟨RX9, "isThere", "(IJJ)Z"⟩
abbrev cX9_thereNow : ByteArray := prog_11_method_12_code
def yX9_thereNow : MethodName := ⟨RX9, "thereNow", "()I"⟩
abbrev cX9_count : ByteArray := prog_11_method_13_code
def yX9_count : MethodName := ⟨RX9, "count", "(I)I"⟩
abbrev cX9_told : ByteArray := prog_11_method_14_code
def yX9_told : MethodName := ⟨RX9, "told", "(II)I"⟩
abbrev cX9_isMoment : ByteArray := prog_11_method_15_code
def yX9_isMoment : MethodName := ⟨RX9, "isMoment", "(II)Z"⟩
abbrev cX9_placeAt : ByteArray := prog_11_method_16_code
def yX9_placeAt : MethodName := ⟨RX9, "placeAt", "(IJJ)J"⟩
abbrev cX9_common : ByteArray := prog_11_method_17_code
def yX9_common : MethodName := ⟨RX9, "common", "(JJ)J"⟩
abbrev cX9_share : ByteArray := prog_11_method_18_code
def yX9_share : MethodName := ⟨RX9, "share", "(JJI)J"⟩
abbrev cX9_place : ByteArray := prog_11_method_19_code
def yX9_place : MethodName := ⟨RX9, "place", "(IIII)J"⟩
abbrev cX9_findOrder : ByteArray := prog_11_method_20_code
def yX9_findOrder : MethodName := ⟨RX9, "findOrder", "(JJ)V"⟩
abbrev cX9_rowAt : ByteArray := prog_11_method_21_code
def yX9_rowAt : MethodName := ⟨RX9, "rowAt", "(I)I"⟩
abbrev cX9_order : ByteArray := prog_11_method_22_code
def yX9_order : MethodName := ⟨RX9, "order", "(III)I"⟩
abbrev cX9_kept : ByteArray := prog_11_method_23_code
def yX9_kept : MethodName := ⟨RX9, "kept", "(I)I"⟩
abbrev cX9_at : ByteArray := prog_11_method_24_code
def yX9_at : MethodName := ⟨RX9, "at", "(IIII)I"⟩
abbrev cX9_most : ByteArray := prog_11_method_25_code
def yX9_most : MethodName := ⟨RX9, "most", "(II)I"⟩
abbrev cX9_least : ByteArray := prog_11_method_26_code
def yX9_least : MethodName := ⟨RX9, "least", "(II)I"⟩
abbrev cX9_endOf : ByteArray := prog_11_method_27_code
def yX9_endOf : MethodName := ⟨RX9, "endOf", "(II)I"⟩
abbrev cX9_slopeBehind : ByteArray := prog_11_method_28_code
def yX9_slopeBehind : MethodName := ⟨RX9, "slopeBehind", "(IIJ)I"⟩
abbrev cX9_isThereBoth : ByteArray := prog_11_method_29_code
def yX9_isThereBoth : MethodName := ⟨RX9, "isThereBoth", "(IIJJ)Z"⟩
abbrev cX9_addMeeting : ByteArray := prog_11_method_30_code
def yX9_addMeeting : MethodName := ⟨RX9, "addMeeting", "(JJIIZ)V"⟩
abbrev cX9_meet : ByteArray := prog_11_method_31_code
def yX9_meet : MethodName := ⟨RX9, "meet", "(IIII)V"⟩
abbrev cX9_findMeetings : ByteArray := prog_11_method_32_code
def yX9_findMeetings : MethodName := ⟨RX9, "findMeetings", "()V"⟩
abbrev cX9_meeting : ByteArray := prog_11_method_33_code
def yX9_meeting : MethodName := ⟨RX9, "meeting", "(II)I"⟩
abbrev cX9_addTime : ByteArray := prog_11_method_34_code
def yX9_addTime : MethodName := ⟨RX9, "addTime", "(JJI)V"⟩
abbrev cX9_beginTimes : ByteArray := prog_11_method_35_code
def yX9_beginTimes : MethodName := ⟨RX9, "beginTimes", "(I)V"⟩
abbrev cX9_addZero : ByteArray := prog_11_method_36_code
def yX9_addZero : MethodName := ⟨RX9, "addZero", "(JJJJI)V"⟩
abbrev cX9_addApart : ByteArray := prog_11_method_37_code
def yX9_addApart : MethodName := ⟨RX9, "addApart", "(IIJI)V"⟩
abbrev cX9_addAt : ByteArray := prog_11_method_38_code
def yX9_addAt : MethodName := ⟨RX9, "addAt", "(IJI)V"⟩
abbrev cX9_isSo : ByteArray := prog_11_method_39_code
def yX9_isSo : MethodName := ⟨RX9, "isSo", "(JJ)Z"⟩
abbrev cX9_addSpan : ByteArray := prog_11_method_40_code
def yX9_addSpan : MethodName := ⟨RX9, "addSpan", "(II)V"⟩
abbrev cX9_findSpans : ByteArray := prog_11_method_41_code
def yX9_findSpans : MethodName := ⟨RX9, "findSpans", "(II)I"⟩
abbrev cX9_isAsked : ByteArray := prog_11_method_42_code
def yX9_isAsked : MethodName := ⟨RX9, "isAsked", "(II)Z"⟩
abbrev cX9_near : ByteArray := prog_11_method_43_code
def yX9_near : MethodName := ⟨RX9, "near", "(IIIIII)I"⟩
abbrev cX9_first : ByteArray := prog_11_method_44_code
def yX9_first : MethodName := ⟨RX9, "first", "(IIII)I"⟩
abbrev cX9_within : ByteArray := prog_11_method_45_code
def yX9_within : MethodName := ⟨RX9, "within", "(IIIIII)I"⟩
def RJ13 : String := "java/lang/Long"
def TJ13 : u_T := fun k => match k with
  | _ => ("", "", "", false)
def tyJ13 : Nat → FieldType := fun k => match k with
  | _ => .int
abbrev wsJ130 : List Cond := u_ws RJ13 TJ13 0
theorem nmJ13 : ∀ a, a < 0 → ∀ b, b < 0 → a ≠ b → (TJ13 a).2.1 ≠ (TJ13 b).2.1 := by decide +kernel
theorem tyJ13_ok : ∀ k, k < 0 → parseFieldDescriptor (TJ13 k).2.2.1 = some (tyJ13 k) := by decide +kernel
abbrev cJ13_compare_74951 : ByteArray := prog_12_method_42_code
def yJ13_compare_74951 : MethodName := ⟨RJ13, "compare", "(JJ)I"⟩
def RJ9 : String := "java/lang/Math"
def TJ9 : u_T := fun k => match k with
  | _ => ("", "", "", false)
def tyJ9 : Nat → FieldType := fun k => match k with
  | _ => .int
abbrev wsJ90 : List Cond := u_ws RJ9 TJ9 0
theorem nmJ9 : ∀ a, a < 0 → ∀ b, b < 0 → a ≠ b → (TJ9 a).2.1 ≠ (TJ9 b).2.1 := by decide +kernel
theorem tyJ9_ok : ∀ k, k < 0 → parseFieldDescriptor (TJ9 k).2.2.1 = some (tyJ9 k) := by decide +kernel
abbrev cJ9_abs_0f7a4 : ByteArray := prog_13_method_59_code
def yJ9_abs_0f7a4 : MethodName := ⟨RJ9, "abs", "(I)I"⟩
abbrev cJ9_max_7cf53 : ByteArray := prog_13_method_65_code
def yJ9_max_7cf53 : MethodName := ⟨RJ9, "max", "(II)I"⟩
abbrev cJ9_min_7cf53 : ByteArray := prog_13_method_69_code
def yJ9_min_7cf53 : MethodName := ⟨RJ9, "min", "(II)I"⟩
def RL : String := "KeptMovingLaw"
abbrev cL_law : ByteArray := code
def yL_law : MethodName := ⟨RL, "law", "([I)Z"⟩
def wsX0_init : List Cond := .code yX0_init cX0_init 1 none :: ([.methodLink RX0 3 objectInit, .instanceMethod objectInit, .code objectInit ⟨#[0xb1]⟩ 1 none, .arrayClass .int, .fieldLink RX0 9 "KeptMoving$Course" "starts" "[I", .fieldLink RX0 15 "KeptMoving$Course" "places" "[I", .fieldLink RX0 18 "KeptMoving$Course" "speeds" "[I", .fieldLink RX0 21 "KeptMoving$Course" "pieces" "I", .fieldLink RX0 25 "KeptMoving$Course" "stopped" "I"] ++ wsX00)
def wsX0_begin : List Cond := .code yX0_begin cX0_begin 4 none :: ([.fieldLink RX0 21 "KeptMoving$Course" "pieces" "I", .fieldLink RX0 25 "KeptMoving$Course" "stopped" "I", .fieldLink RX0 9 "KeptMoving$Course" "starts" "[I", .fieldLink RX0 15 "KeptMoving$Course" "places" "[I", .fieldLink RX0 18 "KeptMoving$Course" "speeds" "[I"] ++ wsX00)
def wsX0_began : List Cond := .code yX0_began cX0_began 1 (some .int) :: ([.fieldLink RX0 9 "KeptMoving$Course" "starts" "[I"] ++ wsX00)
def wsX0_isStopped : List Cond := .code yX0_isStopped cX0_isStopped 1 (some .boolean) :: ([.fieldLink RX0 25 "KeptMoving$Course" "stopped" "I"] ++ wsX00)
def wsX0_stop : List Cond := .code yX0_stop cX0_stop 2 none :: ([.fieldLink RX0 25 "KeptMoving$Course" "stopped" "I"] ++ wsX00)
def wsX0_canTurn : List Cond := .code yX0_canTurn cX0_canTurn 2 (some .boolean) :: ([.fieldLink RX0 21 "KeptMoving$Course" "pieces" "I", .fieldLink RX0 9 "KeptMoving$Course" "starts" "[I"] ++ wsX00)
def wsX0_latestSpeed : List Cond := .code yX0_latestSpeed cX0_latestSpeed 1 (some .int) :: ([.fieldLink RX0 18 "KeptMoving$Course" "speeds" "[I", .fieldLink RX0 21 "KeptMoving$Course" "pieces" "I"] ++ wsX00)
def wsX0_pieceAt : List Cond := .code yX0_pieceAt cX0_pieceAt 5 (some .int) :: ([.fieldLink RX0 21 "KeptMoving$Course" "pieces" "I", .fieldLink RX0 9 "KeptMoving$Course" "starts" "[I"] ++ wsX00)
def wsX0_upperAt : List Cond := .code yX0_upperAt cX0_upperAt 4 (some .int) :: ([.fieldLink RX0 15 "KeptMoving$Course" "places" "[I", .fieldLink RX0 18 "KeptMoving$Course" "speeds" "[I", .fieldLink RX0 9 "KeptMoving$Course" "starts" "[I", .methodLink RX0 32 yX0_pieceAt, .instanceMethod yX0_pieceAt, .selects RX0 yX0_pieceAt yX0_pieceAt, .initialized RX0, .code yX0_pieceAt cX0_pieceAt 5 (some .int), .fieldLink RX0 21 "KeptMoving$Course" "pieces" "I"] ++ wsX00)
def wsX0_placeAt : List Cond := .code yX0_placeAt cX0_placeAt 2 (some .int) :: ([.methodLink RX0 36 yX0_upperAt, .instanceMethod yX0_upperAt, .selects RX0 yX0_upperAt yX0_upperAt, .initialized RX0, .code yX0_upperAt cX0_upperAt 4 (some .int), .fieldLink RX0 15 "KeptMoving$Course" "places" "[I", .fieldLink RX0 18 "KeptMoving$Course" "speeds" "[I", .fieldLink RX0 9 "KeptMoving$Course" "starts" "[I", .methodLink RX0 32 yX0_pieceAt, .instanceMethod yX0_pieceAt, .selects RX0 yX0_pieceAt yX0_pieceAt, .code yX0_pieceAt cX0_pieceAt 5 (some .int), .fieldLink RX0 21 "KeptMoving$Course" "pieces" "I"] ++ wsX00)
def wsX0_turn : List Cond := .code yX0_turn cX0_turn 3 none :: ([.fieldLink RX0 9 "KeptMoving$Course" "starts" "[I", .fieldLink RX0 21 "KeptMoving$Course" "pieces" "I", .fieldLink RX0 15 "KeptMoving$Course" "places" "[I", .fieldLink RX0 18 "KeptMoving$Course" "speeds" "[I", .methodLink RX0 28 yX0_placeAt, .instanceMethod yX0_placeAt, .selects RX0 yX0_placeAt yX0_placeAt, .initialized RX0, .code yX0_placeAt cX0_placeAt 2 (some .int), .methodLink RX0 36 yX0_upperAt, .instanceMethod yX0_upperAt, .selects RX0 yX0_upperAt yX0_upperAt, .code yX0_upperAt cX0_upperAt 4 (some .int), .methodLink RX0 32 yX0_pieceAt, .instanceMethod yX0_pieceAt, .selects RX0 yX0_pieceAt yX0_pieceAt, .code yX0_pieceAt cX0_pieceAt 5 (some .int)] ++ wsX00)
def wsX0_undoFrom : List Cond := .code yX0_undoFrom cX0_undoFrom 2 none :: ([.fieldLink RX0 21 "KeptMoving$Course" "pieces" "I", .fieldLink RX0 9 "KeptMoving$Course" "starts" "[I", .fieldLink RX0 25 "KeptMoving$Course" "stopped" "I"] ++ wsX00)
def wsX0_isThere : List Cond := .code yX0_isThere cX0_isThere 3 (some .boolean) :: ([.fieldLink RX0 9 "KeptMoving$Course" "starts" "[I", .fieldLink RX0 25 "KeptMoving$Course" "stopped" "I"] ++ wsX00)
def wsX0_speedAt : List Cond := .code yX0_speedAt cX0_speedAt 2 (some .int) :: ([.fieldLink RX0 18 "KeptMoving$Course" "speeds" "[I", .methodLink RX0 32 yX0_pieceAt, .instanceMethod yX0_pieceAt, .selects RX0 yX0_pieceAt yX0_pieceAt, .initialized RX0, .code yX0_pieceAt cX0_pieceAt 5 (some .int), .fieldLink RX0 21 "KeptMoving$Course" "pieces" "I", .fieldLink RX0 9 "KeptMoving$Course" "starts" "[I"] ++ wsX00)
def wsX0_nextBend : List Cond := .code yX0_nextBend cX0_nextBend 5 (some .int) :: ([.fieldLink RX0 21 "KeptMoving$Course" "pieces" "I", .fieldLink RX0 9 "KeptMoving$Course" "starts" "[I", .methodLink RX0 39 Lib.Math.min.name, .static Lib.Math.min.name, .initialized "java/lang/Math", .code Lib.Math.min.name Lib.Math.min.code 2 (some .int), .fieldLink RX0 25 "KeptMoving$Course" "stopped" "I"] ++ wsX00)
def wsX1_init : List Cond := .code yX1_init cX1_init 1 none :: ([.methodLink RX1 3 objectInit, .instanceMethod objectInit, .code objectInit ⟨#[0xb1]⟩ 1 none, .arrayClass .long, .fieldLink RX1 9 "KeptMoving$Crowd" "begins" "[J", .fieldLink RX1 15 "KeptMoving$Crowd" "ends" "[J"] ++ wsX10)
def wsX1_clear : List Cond := .code yX1_clear cX1_clear 1 none :: ([.fieldLink RX1 18 "KeptMoving$Crowd" "size" "I"] ++ wsX10)
def wsX2_upper : List Cond := .code yX2_upper cX2_upper 2 (some .int) :: ([])
def wsX2_lower : List Cond := .code yX2_lower cX2_lower 2 (some .int) :: ([.constantLong RX2 27 (255)])
def wsJ13_compare_74951 : List Cond := .code yJ13_compare_74951 cJ13_compare_74951 4 (some .int) :: ([])
def wsX2_compare : List Cond := .code yX2_compare cX2_compare 4 (some .int) :: ([.methodLink RX2 29 yX2_upper, .static yX2_upper, .initialized RX2, .code yX2_upper cX2_upper 2 (some .int), .methodLink RX2 33 yX2_lower, .static yX2_lower, .code yX2_lower cX2_lower 2 (some .int), .constantLong RX2 27 (255), .methodLink RX2 36 yJ13_compare_74951, .static yJ13_compare_74951, .initialized RJ13, .code yJ13_compare_74951 cJ13_compare_74951 4 (some .int)])
def wsX7_isSo : List Cond := .code yX7_isSo cX7_isSo 2 (some .boolean) :: ([.fieldLink RX7 26 "KeptMoving$Stretch" "begin" "J", .fieldLink RX7 19 "KeptMoving$Stretch" "until" "J", .fieldLink RX7 7 "KeptMoving$Stretch" "from" "I", .fieldLink RX7 32 "KeptMoving$Stretch" "isNothing" "Z", .fieldLink RX7 29 "KeptMoving$Stretch" "end" "J", .static yX2_upper, .initialized RX2, .code yX2_upper cX2_upper 2 (some .int), .static yX2_compare, .code yX2_compare cX2_compare 4 (some .int), .methodLink RX2 29 yX2_upper, .methodLink RX2 33 yX2_lower, .static yX2_lower, .code yX2_lower cX2_lower 2 (some .int), .constantLong RX2 27 (255), .methodLink RX2 36 yJ13_compare_74951, .static yJ13_compare_74951, .initialized RJ13, .code yJ13_compare_74951 cJ13_compare_74951 4 (some .int)] ++ wsX70)
def wsX1_insert : List Cond := .code yX1_insert cX1_insert 5 none :: ([.fieldLink RX1 18 "KeptMoving$Crowd" "size" "I", .static yX2_compare, .initialized RX2, .code yX2_compare cX2_compare 4 (some .int), .methodLink RX2 29 yX2_upper, .static yX2_upper, .code yX2_upper cX2_upper 2 (some .int), .methodLink RX2 33 yX2_lower, .static yX2_lower, .code yX2_lower cX2_lower 2 (some .int), .constantLong RX2 27 (255), .methodLink RX2 36 yJ13_compare_74951, .static yJ13_compare_74951, .initialized RJ13, .code yJ13_compare_74951 cJ13_compare_74951 4 (some .int)] ++ wsX10)
def wsX1_addIfSo_r1 : List Cond := [Cond.fieldLink RX1 18 "KeptMoving$Crowd" "size" "I", Cond.fieldLink RX1 9 "KeptMoving$Crowd" "begins" "[J", Cond.fieldLink RX1 15 "KeptMoving$Crowd" "ends" "[J", Cond.instanceMethod yX7_isSo, Cond.initialized RX7, Cond.selects RX7 yX7_isSo yX7_isSo, Cond.code yX7_isSo cX7_isSo 2 (some .boolean), Cond.fieldLink RX7 26 "KeptMoving$Stretch" "begin" "J", Cond.fieldLink RX7 19 "KeptMoving$Stretch" "until" "J", Cond.fieldLink RX7 7 "KeptMoving$Stretch" "from" "I", Cond.fieldLink RX7 32 "KeptMoving$Stretch" "isNothing" "Z", Cond.fieldLink RX7 29 "KeptMoving$Stretch" "end" "J", Cond.static yX2_upper, Cond.initialized RX2, Cond.code yX2_upper cX2_upper 2 (some .int), Cond.static yX2_compare, Cond.code yX2_compare cX2_compare 4 (some .int), Cond.methodLink RX2 29 yX2_upper, Cond.methodLink RX2 33 yX2_lower, Cond.static yX2_lower, Cond.code yX2_lower cX2_lower 2 (some .int), Cond.constantLong RX2 27 (255), Cond.methodLink RX2 36 yJ13_compare_74951, Cond.static yJ13_compare_74951]
def wsX1_addIfSo_r2 : List Cond := [Cond.initialized RJ13, Cond.code yJ13_compare_74951 cJ13_compare_74951 4 (some .int), Cond.methodLink RX1 32 yX1_insert, Cond.instanceMethod yX1_insert, Cond.selects RX1 yX1_insert yX1_insert, Cond.initialized RX1, Cond.code yX1_insert cX1_insert 5 none]
def wsX1_addIfSo : List Cond := .code yX1_addIfSo cX1_addIfSo 2 none :: ((wsX1_addIfSo_r1 ++ wsX1_addIfSo_r2) ++ wsX10 ++ wsX70)
def wsX2_commonDivisor : List Cond := .code yX2_commonDivisor cX2_commonDivisor 6 (some .int) :: ([])
def wsX2_whole : List Cond := .code yX2_whole cX2_whole 1 (some .long) :: ([])
def wsX2_of : List Cond := .code yX2_of cX2_of 3 (some .long) :: ([.methodLink RX2 7 Lib.Math.abs.name, .static Lib.Math.abs.name, .initialized "java/lang/Math", .code Lib.Math.abs.name Lib.Math.abs.code 1 (some .int), .methodLink RX2 13 yX2_commonDivisor, .static yX2_commonDivisor, .initialized RX2, .code yX2_commonDivisor cX2_commonDivisor 6 (some .int), .methodLink RX2 19 yX2_whole, .static yX2_whole, .code yX2_whole cX2_whole 1 (some .long)])
def wsX2_past : List Cond := .code yX2_past cX2_past 3 (some .long) :: ([.methodLink RX2 23 yX2_of, .static yX2_of, .initialized RX2, .code yX2_of cX2_of 3 (some .long), .methodLink RX2 7 Lib.Math.abs.name, .static Lib.Math.abs.name, .initialized "java/lang/Math", .code Lib.Math.abs.name Lib.Math.abs.code 1 (some .int), .methodLink RX2 13 yX2_commonDivisor, .static yX2_commonDivisor, .code yX2_commonDivisor cX2_commonDivisor 6 (some .int), .methodLink RX2 19 yX2_whole, .static yX2_whole, .code yX2_whole cX2_whole 1 (some .long)])
def wsX3_init : List Cond := .code yX3_init cX3_init 1 none :: ([.methodLink RX3 3 objectInit, .instanceMethod objectInit, .code objectInit ⟨#[0xb1]⟩ 1 none, .arrayClass .int, .fieldLink RX3 9 "KeptMoving$Line" "numbers" "[I", .fieldLink RX3 15 "KeptMoving$Line" "uppers" "[I"] ++ wsX30)
def wsX3_clear : List Cond := .code yX3_clear cX3_clear 1 none :: ([.fieldLink RX3 18 "KeptMoving$Line" "size" "I"] ++ wsX30)
def wsX3_insert : List Cond := .code yX3_insert cX3_insert 4 none :: ([.fieldLink RX3 18 "KeptMoving$Line" "size" "I", .fieldLink RX3 15 "KeptMoving$Line" "uppers" "[I", .fieldLink RX3 9 "KeptMoving$Line" "numbers" "[I"] ++ wsX30)
def wsX3_tell : List Cond := .code yX3_tell cX3_tell 2 (some .int) :: ([.fieldLink RX3 18 "KeptMoving$Line" "size" "I", .fieldLink RX3 9 "KeptMoving$Line" "numbers" "[I"] ++ wsX30)
def wsX3_closestUpper : List Cond := .code yX3_closestUpper cX3_closestUpper 5 (some .int) :: ([.fieldLink RX3 18 "KeptMoving$Line" "size" "I", .fieldLink RX3 15 "KeptMoving$Line" "uppers" "[I"] ++ wsX30)
def wsX3_heaps : List Cond := .code yX3_heaps cX3_heaps 4 (some .int) :: ([.fieldLink RX3 18 "KeptMoving$Line" "size" "I", .methodLink RX3 22 Lib.Math.min.name, .static Lib.Math.min.name, .initialized "java/lang/Math", .code Lib.Math.min.name Lib.Math.min.code 2 (some .int), .fieldLink RX3 15 "KeptMoving$Line" "uppers" "[I"] ++ wsX30)
def wsX4_init : List Cond := .code yX4_init cX4_init 1 none :: ([.methodLink RX4 3 objectInit, .instanceMethod objectInit, .code objectInit ⟨#[0xb1]⟩ 1 none, .arrayClass .long, .fieldLink RX4 9 "KeptMoving$Meetings" "times" "[J", .arrayClass .int, .fieldLink RX4 15 "KeptMoving$Meetings" "ones" "[I", .fieldLink RX4 19 "KeptMoving$Meetings" "others" "[I"] ++ wsX40)
def wsX4_clear : List Cond := .code yX4_clear cX4_clear 1 none :: ([.fieldLink RX4 22 "KeptMoving$Meetings" "size" "I", .fieldLink RX4 26 "KeptMoving$Meetings" "passes" "I"] ++ wsX40)
def wsX4_insert : List Cond := .code yX4_insert cX4_insert 7 none :: ([.fieldLink RX4 22 "KeptMoving$Meetings" "size" "I", .fieldLink RX4 9 "KeptMoving$Meetings" "times" "[J", .fieldLink RX4 15 "KeptMoving$Meetings" "ones" "[I", .fieldLink RX4 19 "KeptMoving$Meetings" "others" "[I", .fieldLink RX4 26 "KeptMoving$Meetings" "passes" "I", .static yX2_compare, .initialized RX2, .code yX2_compare cX2_compare 4 (some .int), .methodLink RX2 29 yX2_upper, .static yX2_upper, .code yX2_upper cX2_upper 2 (some .int), .methodLink RX2 33 yX2_lower, .static yX2_lower, .code yX2_lower cX2_lower 2 (some .int), .constantLong RX2 27 (255), .methodLink RX2 36 yJ13_compare_74951, .static yJ13_compare_74951, .initialized RJ13, .code yJ13_compare_74951 cJ13_compare_74951 4 (some .int)] ++ wsX40)
def wsX4_tell : List Cond := .code yX4_tell cX4_tell 3 (some .int) :: ([.fieldLink RX4 22 "KeptMoving$Meetings" "size" "I", .fieldLink RX4 9 "KeptMoving$Meetings" "times" "[J", .fieldLink RX4 15 "KeptMoving$Meetings" "ones" "[I", .fieldLink RX4 19 "KeptMoving$Meetings" "others" "[I", .static yX2_upper, .initialized RX2, .code yX2_upper cX2_upper 2 (some .int), .static yX2_lower, .code yX2_lower cX2_lower 2 (some .int), .constantLong RX2 27 (255)] ++ wsX40)
def wsX5_init : List Cond := .code yX5_init cX5_init 1 none :: ([.methodLink RX5 3 objectInit, .instanceMethod objectInit, .code objectInit ⟨#[0xb1]⟩ 1 none, .arrayClass .boolean, .fieldLink RX5 9 "KeptMoving$Scene" "isThere" "[Z", .arrayClass .int, .fieldLink RX5 15 "KeptMoving$Scene" "places" "[I", .fieldLink RX5 19 "KeptMoving$Scene" "speeds" "[I"] ++ wsX50)
def wsX5_clear : List Cond := .code yX5_clear cX5_clear 1 none :: ([.fieldLink RX5 22 "KeptMoving$Scene" "size" "I"] ++ wsX50)
def wsX5_add_r1 : List Cond := [Cond.fieldLink RX5 22 "KeptMoving$Scene" "size" "I", Cond.fieldLink RX5 9 "KeptMoving$Scene" "isThere" "[Z", Cond.fieldLink RX5 15 "KeptMoving$Scene" "places" "[I", Cond.fieldLink RX5 19 "KeptMoving$Scene" "speeds" "[I", Cond.instanceMethod yX0_isThere, Cond.initialized RX0, Cond.selects RX0 yX0_isThere yX0_isThere, Cond.code yX0_isThere cX0_isThere 3 (some .boolean), Cond.fieldLink RX0 9 "KeptMoving$Course" "starts" "[I", Cond.fieldLink RX0 25 "KeptMoving$Course" "stopped" "I", Cond.instanceMethod yX0_placeAt, Cond.selects RX0 yX0_placeAt yX0_placeAt, Cond.code yX0_placeAt cX0_placeAt 2 (some .int), Cond.methodLink RX0 36 yX0_upperAt, Cond.instanceMethod yX0_upperAt, Cond.selects RX0 yX0_upperAt yX0_upperAt, Cond.code yX0_upperAt cX0_upperAt 4 (some .int), Cond.fieldLink RX0 15 "KeptMoving$Course" "places" "[I", Cond.fieldLink RX0 18 "KeptMoving$Course" "speeds" "[I", Cond.methodLink RX0 32 yX0_pieceAt, Cond.instanceMethod yX0_pieceAt, Cond.selects RX0 yX0_pieceAt yX0_pieceAt, Cond.code yX0_pieceAt cX0_pieceAt 5 (some .int), Cond.fieldLink RX0 21 "KeptMoving$Course" "pieces" "I"]
def wsX5_add_r2 : List Cond := [Cond.instanceMethod yX0_speedAt, Cond.selects RX0 yX0_speedAt yX0_speedAt, Cond.code yX0_speedAt cX0_speedAt 2 (some .int)]
def wsX5_add : List Cond := .code yX5_add cX5_add 3 none :: ((wsX5_add_r1 ++ wsX5_add_r2) ++ wsX50 ++ wsX00)
def wsX5_has : List Cond := .code yX5_has cX5_has 2 (some .boolean) :: ([.fieldLink RX5 22 "KeptMoving$Scene" "size" "I", .fieldLink RX5 9 "KeptMoving$Scene" "isThere" "[Z"] ++ wsX50)
def wsX5_gap : List Cond := .code yX5_gap cX5_gap 3 (some .int) :: ([.fieldLink RX5 15 "KeptMoving$Scene" "places" "[I"] ++ wsX50)
def wsX5_growth : List Cond := .code yX5_growth cX5_growth 3 (some .int) :: ([.fieldLink RX5 19 "KeptMoving$Scene" "speeds" "[I"] ++ wsX50)
def wsX6_init : List Cond := .code yX6_init cX6_init 1 none :: ([.methodLink RX6 3 objectInit, .instanceMethod objectInit, .code objectInit ⟨#[0xb1]⟩ 1 none])
def wsX6_seek : List Cond := .code yX6_seek cX6_seek 2 none :: ([.fieldLink RX6 9 "KeptMoving$Spans" "sought" "I", .fieldLink RX6 15 "KeptMoving$Spans" "size" "I"] ++ wsX60)
def wsX6_add : List Cond := .code yX6_add cX6_add 6 none :: ([.fieldLink RX6 15 "KeptMoving$Spans" "size" "I", .fieldLink RX6 35 "KeptMoving$Spans" "latestEnd" "J", .fieldLink RX6 9 "KeptMoving$Spans" "sought" "I", .fieldLink RX6 44 "KeptMoving$Spans" "foundBegin" "J", .fieldLink RX6 47 "KeptMoving$Spans" "foundEnd" "J", .static yX2_compare, .initialized RX2, .code yX2_compare cX2_compare 4 (some .int), .methodLink RX2 29 yX2_upper, .static yX2_upper, .code yX2_upper cX2_upper 2 (some .int), .methodLink RX2 33 yX2_lower, .static yX2_lower, .code yX2_lower cX2_lower 2 (some .int), .constantLong RX2 27 (255), .methodLink RX2 36 yJ13_compare_74951, .static yJ13_compare_74951, .initialized RJ13, .code yJ13_compare_74951 cJ13_compare_74951 4 (some .int)] ++ wsX60)
def wsX6_addIfSo_r1 : List Cond := [Cond.instanceMethod yX7_isSo, Cond.initialized RX7, Cond.selects RX7 yX7_isSo yX7_isSo, Cond.code yX7_isSo cX7_isSo 2 (some .boolean), Cond.fieldLink RX7 26 "KeptMoving$Stretch" "begin" "J", Cond.fieldLink RX7 19 "KeptMoving$Stretch" "until" "J", Cond.fieldLink RX7 7 "KeptMoving$Stretch" "from" "I", Cond.fieldLink RX7 32 "KeptMoving$Stretch" "isNothing" "Z", Cond.fieldLink RX7 29 "KeptMoving$Stretch" "end" "J", Cond.static yX2_upper, Cond.initialized RX2, Cond.code yX2_upper cX2_upper 2 (some .int), Cond.static yX2_compare, Cond.code yX2_compare cX2_compare 4 (some .int), Cond.methodLink RX2 29 yX2_upper, Cond.methodLink RX2 33 yX2_lower, Cond.static yX2_lower, Cond.code yX2_lower cX2_lower 2 (some .int), Cond.constantLong RX2 27 (255), Cond.methodLink RX2 36 yJ13_compare_74951, Cond.static yJ13_compare_74951, Cond.initialized RJ13, Cond.code yJ13_compare_74951 cJ13_compare_74951 4 (some .int), Cond.methodLink RX6 31 yX6_add]
def wsX6_addIfSo_r2 : List Cond := [Cond.instanceMethod yX6_add, Cond.selects RX6 yX6_add yX6_add, Cond.initialized RX6, Cond.code yX6_add cX6_add 6 none, Cond.fieldLink RX6 15 "KeptMoving$Spans" "size" "I", Cond.fieldLink RX6 35 "KeptMoving$Spans" "latestEnd" "J", Cond.fieldLink RX6 9 "KeptMoving$Spans" "sought" "I", Cond.fieldLink RX6 44 "KeptMoving$Spans" "foundBegin" "J", Cond.fieldLink RX6 47 "KeptMoving$Spans" "foundEnd" "J"]
def wsX6_addIfSo : List Cond := .code yX6_addIfSo cX6_addIfSo 2 none :: ((wsX6_addIfSo_r1 ++ wsX6_addIfSo_r2) ++ wsX70 ++ wsX60)
def wsX6_tell : List Cond := .code yX6_tell cX6_tell 4 (some .int) :: ([.fieldLink RX6 9 "KeptMoving$Spans" "sought" "I", .fieldLink RX6 15 "KeptMoving$Spans" "size" "I", .fieldLink RX6 44 "KeptMoving$Spans" "foundBegin" "J", .fieldLink RX6 47 "KeptMoving$Spans" "foundEnd" "J", .static yX2_upper, .initialized RX2, .code yX2_upper cX2_upper 2 (some .int), .static yX2_lower, .code yX2_lower cX2_lower 2 (some .int), .constantLong RX2 27 (255)] ++ wsX60)
def wsX7_init : List Cond := .code yX7_init cX7_init 1 none :: ([.methodLink RX7 1 objectInit, .instanceMethod objectInit, .code objectInit ⟨#[0xb1]⟩ 1 none])
def wsX7_keepAll : List Cond := .code yX7_keepAll cX7_keepAll 1 none :: ([.fieldLink RX7 7 "KeptMoving$Stretch" "from" "I", .fieldLink RX7 26 "KeptMoving$Stretch" "begin" "J", .fieldLink RX7 19 "KeptMoving$Stretch" "until" "J", .fieldLink RX7 29 "KeptMoving$Stretch" "end" "J", .fieldLink RX7 32 "KeptMoving$Stretch" "isNothing" "Z", .static yX2_whole, .initialized RX2, .code yX2_whole cX2_whole 1 (some .long)] ++ wsX70)
def wsX7_open : List Cond := .code yX7_open cX7_open 3 none :: ([.fieldLink RX7 7 "KeptMoving$Stretch" "from" "I", .fieldLink RX7 19 "KeptMoving$Stretch" "until" "J", .static yX2_whole, .initialized RX2, .code yX2_whole cX2_whole 1 (some .long), .methodLink RX7 23 yX7_keepAll, .instanceMethod yX7_keepAll, .selects RX7 yX7_keepAll yX7_keepAll, .initialized RX7, .code yX7_keepAll cX7_keepAll 1 none, .fieldLink RX7 26 "KeptMoving$Stretch" "begin" "J", .fieldLink RX7 29 "KeptMoving$Stretch" "end" "J", .fieldLink RX7 32 "KeptMoving$Stretch" "isNothing" "Z"] ++ wsX70)
def wsX7_keepNothing : List Cond := .code yX7_keepNothing cX7_keepNothing 1 none :: ([.fieldLink RX7 32 "KeptMoving$Stretch" "isNothing" "Z"] ++ wsX70)
def wsX7_keepAtMost_r1 : List Cond := [Cond.fieldLink RX7 7 "KeptMoving$Stretch" "from" "I", Cond.fieldLink RX7 29 "KeptMoving$Stretch" "end" "J", Cond.fieldLink RX7 26 "KeptMoving$Stretch" "begin" "J", Cond.static yX2_past, Cond.initialized RX2, Cond.code yX2_past cX2_past 3 (some .long), Cond.methodLink RX2 23 yX2_of, Cond.static yX2_of, Cond.code yX2_of cX2_of 3 (some .long), Cond.methodLink RX2 7 Lib.Math.abs.name, Cond.static Lib.Math.abs.name, Cond.initialized "java/lang/Math", Cond.code Lib.Math.abs.name Lib.Math.abs.code 1 (some .int), Cond.methodLink RX2 13 yX2_commonDivisor, Cond.static yX2_commonDivisor, Cond.code yX2_commonDivisor cX2_commonDivisor 6 (some .int), Cond.methodLink RX2 19 yX2_whole, Cond.static yX2_whole, Cond.code yX2_whole cX2_whole 1 (some .long), Cond.static yX2_compare, Cond.code yX2_compare cX2_compare 4 (some .int), Cond.methodLink RX2 29 yX2_upper, Cond.static yX2_upper, Cond.code yX2_upper cX2_upper 2 (some .int)]
def wsX7_keepAtMost_r2 : List Cond := [Cond.methodLink RX2 33 yX2_lower, Cond.static yX2_lower, Cond.code yX2_lower cX2_lower 2 (some .int), Cond.constantLong RX2 27 (255), Cond.methodLink RX2 36 yJ13_compare_74951, Cond.static yJ13_compare_74951, Cond.initialized RJ13, Cond.code yJ13_compare_74951 cJ13_compare_74951 4 (some .int), Cond.methodLink RX7 44 yX7_keepNothing, Cond.instanceMethod yX7_keepNothing, Cond.selects RX7 yX7_keepNothing yX7_keepNothing, Cond.initialized RX7, Cond.code yX7_keepNothing cX7_keepNothing 1 none, Cond.fieldLink RX7 32 "KeptMoving$Stretch" "isNothing" "Z"]
def wsX7_keepAtMost : List Cond := .code yX7_keepAtMost cX7_keepAtMost 6 none :: ((wsX7_keepAtMost_r1 ++ wsX7_keepAtMost_r2) ++ wsX70)
def wsX8_init_r1 : List Cond := [Cond.methodLink RX8 3 objectInit, Cond.instanceMethod objectInit, Cond.code objectInit ⟨#[0xb1]⟩ 1 none, Cond.classLink RX8 9 RX0, Cond.fieldLink RX8 11 "KeptMoving" "courses" "[LKeptMoving$Course;", Cond.instantiable RX0 5, Cond.initialized RX0, Cond.classLink RX8 16 RX3, Cond.instantiable RX3 3, Cond.initialized RX3, Cond.fieldLink RX8 19 "KeptMoving" "line" "LKeptMoving$Line;", Cond.arrayClass .int, Cond.fieldLink RX8 23 "KeptMoving" "bends" "[I", Cond.classLink RX8 27 RX5, Cond.instantiable RX5 4, Cond.initialized RX5, Cond.fieldLink RX8 30 "KeptMoving" "scene" "LKeptMoving$Scene;", Cond.classLink RX8 34 RX4, Cond.instantiable RX4 5, Cond.initialized RX4, Cond.fieldLink RX8 37 "KeptMoving" "meetings" "LKeptMoving$Meetings;", Cond.classLink RX8 41 RX7, Cond.instantiable RX7 5, Cond.initialized RX7]
def wsX8_init_r2 : List Cond := [Cond.fieldLink RX8 44 "KeptMoving" "stretch" "LKeptMoving$Stretch;", Cond.classLink RX8 48 RX1, Cond.instantiable RX1 3, Cond.initialized RX1, Cond.fieldLink RX8 51 "KeptMoving" "crowd" "LKeptMoving$Crowd;", Cond.classLink RX8 55 RX6, Cond.instantiable RX6 5, Cond.initialized RX6, Cond.fieldLink RX8 58 "KeptMoving" "spans" "LKeptMoving$Spans;", Cond.instanceMethod yX0_init, Cond.code yX0_init cX0_init 1 none, Cond.methodLink RX0 3 objectInit, Cond.fieldLink RX0 9 "KeptMoving$Course" "starts" "[I", Cond.fieldLink RX0 15 "KeptMoving$Course" "places" "[I", Cond.fieldLink RX0 18 "KeptMoving$Course" "speeds" "[I", Cond.fieldLink RX0 21 "KeptMoving$Course" "pieces" "I", Cond.fieldLink RX0 25 "KeptMoving$Course" "stopped" "I", Cond.instanceMethod yX3_init, Cond.code yX3_init cX3_init 1 none, Cond.methodLink RX3 3 objectInit, Cond.fieldLink RX3 9 "KeptMoving$Line" "numbers" "[I", Cond.fieldLink RX3 15 "KeptMoving$Line" "uppers" "[I", Cond.instanceMethod yX5_init, Cond.code yX5_init cX5_init 1 none]
def wsX8_init_r3 : List Cond := [Cond.methodLink RX5 3 objectInit, Cond.arrayClass .boolean, Cond.fieldLink RX5 9 "KeptMoving$Scene" "isThere" "[Z", Cond.fieldLink RX5 15 "KeptMoving$Scene" "places" "[I", Cond.fieldLink RX5 19 "KeptMoving$Scene" "speeds" "[I", Cond.instanceMethod yX4_init, Cond.code yX4_init cX4_init 1 none, Cond.methodLink RX4 3 objectInit, Cond.arrayClass .long, Cond.fieldLink RX4 9 "KeptMoving$Meetings" "times" "[J", Cond.fieldLink RX4 15 "KeptMoving$Meetings" "ones" "[I", Cond.fieldLink RX4 19 "KeptMoving$Meetings" "others" "[I", Cond.instanceMethod yX7_init, Cond.code yX7_init cX7_init 1 none, Cond.methodLink RX7 1 objectInit, Cond.instanceMethod yX1_init, Cond.code yX1_init cX1_init 1 none, Cond.methodLink RX1 3 objectInit, Cond.fieldLink RX1 9 "KeptMoving$Crowd" "begins" "[J", Cond.fieldLink RX1 15 "KeptMoving$Crowd" "ends" "[J", Cond.instanceMethod yX6_init, Cond.code yX6_init cX6_init 1 none, Cond.methodLink RX6 3 objectInit]
def wsX8_init : List Cond := .code yX8_init cX8_init 2 none :: ((wsX8_init_r1 ++ (wsX8_init_r2 ++ wsX8_init_r3)) ++ wsX80 ++ wsX00 ++ wsX30 ++ wsX50 ++ wsX40 ++ wsX70 ++ wsX10 ++ wsX60)
def wsX8_isFromTo : List Cond := .code yX8_isFromTo cX8_isFromTo 3 (some .boolean) :: ([])
def wsX8_point : List Cond := .code yX8_point cX8_point 3 (some .int) :: ([.constant RX8 66 (-100002), .fieldLink RX8 67 "KeptMoving" "came" "I", .constant RX8 71 (-100004), .fieldLink RX8 11 "KeptMoving" "courses" "[LKeptMoving$Course;", .fieldLink RX8 72 "KeptMoving" "now" "I", .methodLink RX8 62 yX8_isFromTo, .static yX8_isFromTo, .initialized RX8, .code yX8_isFromTo cX8_isFromTo 3 (some .boolean), .instanceMethod yX0_begin, .initialized RX0, .selects RX0 yX0_begin yX0_begin, .code yX0_begin cX0_begin 4 none, .fieldLink RX0 21 "KeptMoving$Course" "pieces" "I", .fieldLink RX0 25 "KeptMoving$Course" "stopped" "I", .fieldLink RX0 9 "KeptMoving$Course" "starts" "[I", .fieldLink RX0 15 "KeptMoving$Course" "places" "[I", .fieldLink RX0 18 "KeptMoving$Course" "speeds" "[I"] ++ wsX80 ++ wsX00)
def wsX8_isKnown : List Cond := .code yX8_isKnown cX8_isKnown 2 (some .boolean) :: ([.fieldLink RX8 67 "KeptMoving" "came" "I"] ++ wsX80)
def wsX8_speed_r1 : List Cond := [Cond.constant RX8 83 (-100001), Cond.constant RX8 66 (-100002), Cond.fieldLink RX8 11 "KeptMoving" "courses" "[LKeptMoving$Course;", Cond.constant RX8 88 (-100003), Cond.fieldLink RX8 72 "KeptMoving" "now" "I", Cond.constant RX8 71 (-100004), Cond.methodLink RX8 79 yX8_isKnown, Cond.instanceMethod yX8_isKnown, Cond.selects RX8 yX8_isKnown yX8_isKnown, Cond.initialized RX8, Cond.code yX8_isKnown cX8_isKnown 2 (some .boolean), Cond.fieldLink RX8 67 "KeptMoving" "came" "I", Cond.methodLink RX8 62 yX8_isFromTo, Cond.static yX8_isFromTo, Cond.code yX8_isFromTo cX8_isFromTo 3 (some .boolean), Cond.instanceMethod yX0_isStopped, Cond.initialized RX0, Cond.selects RX0 yX0_isStopped yX0_isStopped, Cond.code yX0_isStopped cX0_isStopped 1 (some .boolean), Cond.fieldLink RX0 25 "KeptMoving$Course" "stopped" "I", Cond.instanceMethod yX0_canTurn, Cond.selects RX0 yX0_canTurn yX0_canTurn, Cond.code yX0_canTurn cX0_canTurn 2 (some .boolean), Cond.fieldLink RX0 21 "KeptMoving$Course" "pieces" "I"]
def wsX8_speed_r2 : List Cond := [Cond.fieldLink RX0 9 "KeptMoving$Course" "starts" "[I", Cond.instanceMethod yX0_latestSpeed, Cond.selects RX0 yX0_latestSpeed yX0_latestSpeed, Cond.code yX0_latestSpeed cX0_latestSpeed 1 (some .int), Cond.fieldLink RX0 18 "KeptMoving$Course" "speeds" "[I", Cond.instanceMethod yX0_turn, Cond.selects RX0 yX0_turn yX0_turn, Cond.code yX0_turn cX0_turn 3 none, Cond.fieldLink RX0 15 "KeptMoving$Course" "places" "[I", Cond.methodLink RX0 28 yX0_placeAt, Cond.instanceMethod yX0_placeAt, Cond.selects RX0 yX0_placeAt yX0_placeAt, Cond.code yX0_placeAt cX0_placeAt 2 (some .int), Cond.methodLink RX0 36 yX0_upperAt, Cond.instanceMethod yX0_upperAt, Cond.selects RX0 yX0_upperAt yX0_upperAt, Cond.code yX0_upperAt cX0_upperAt 4 (some .int), Cond.methodLink RX0 32 yX0_pieceAt, Cond.instanceMethod yX0_pieceAt, Cond.selects RX0 yX0_pieceAt yX0_pieceAt, Cond.code yX0_pieceAt cX0_pieceAt 5 (some .int)]
def wsX8_speed : List Cond := .code yX8_speed cX8_speed 5 (some .int) :: ((wsX8_speed_r1 ++ wsX8_speed_r2) ++ wsX80 ++ wsX00)
def wsX8_gone : List Cond := .code yX8_gone cX8_gone 3 (some .int) :: ([.constant RX8 83 (-100001), .fieldLink RX8 11 "KeptMoving" "courses" "[LKeptMoving$Course;", .fieldLink RX8 72 "KeptMoving" "now" "I", .constant RX8 88 (-100003), .methodLink RX8 79 yX8_isKnown, .instanceMethod yX8_isKnown, .selects RX8 yX8_isKnown yX8_isKnown, .initialized RX8, .code yX8_isKnown cX8_isKnown 2 (some .boolean), .fieldLink RX8 67 "KeptMoving" "came" "I", .instanceMethod yX0_isStopped, .initialized RX0, .selects RX0 yX0_isStopped yX0_isStopped, .code yX0_isStopped cX0_isStopped 1 (some .boolean), .fieldLink RX0 25 "KeptMoving$Course" "stopped" "I", .instanceMethod yX0_began, .selects RX0 yX0_began yX0_began, .code yX0_began cX0_began 1 (some .int), .fieldLink RX0 9 "KeptMoving$Course" "starts" "[I", .instanceMethod yX0_stop, .selects RX0 yX0_stop yX0_stop, .code yX0_stop cX0_stop 2 none] ++ wsX80 ++ wsX00)
def wsX8_go : List Cond := .code yX8_go cX8_go 2 (some .int) :: ([.constant RX8 66 (-100002), .fieldLink RX8 72 "KeptMoving" "now" "I", .constant RX8 88 (-100003), .methodLink RX8 62 yX8_isFromTo, .static yX8_isFromTo, .initialized RX8, .code yX8_isFromTo cX8_isFromTo 3 (some .boolean)] ++ wsX80)
def wsX8_undoFromNow : List Cond := .code yX8_undoFromNow cX8_undoFromNow 2 none :: ([.fieldLink RX8 67 "KeptMoving" "came" "I", .fieldLink RX8 11 "KeptMoving" "courses" "[LKeptMoving$Course;", .fieldLink RX8 72 "KeptMoving" "now" "I", .instanceMethod yX0_began, .initialized RX0, .selects RX0 yX0_began yX0_began, .code yX0_began cX0_began 1 (some .int), .fieldLink RX0 9 "KeptMoving$Course" "starts" "[I", .instanceMethod yX0_undoFrom, .selects RX0 yX0_undoFrom yX0_undoFrom, .code yX0_undoFrom cX0_undoFrom 2 none, .fieldLink RX0 21 "KeptMoving$Course" "pieces" "I", .fieldLink RX0 25 "KeptMoving$Course" "stopped" "I"] ++ wsX80 ++ wsX00)
def wsX8_back : List Cond := .code yX8_back cX8_back 2 (some .int) :: ([.constant RX8 66 (-100002), .fieldLink RX8 72 "KeptMoving" "now" "I", .constant RX8 88 (-100003), .methodLink RX8 62 yX8_isFromTo, .static yX8_isFromTo, .initialized RX8, .code yX8_isFromTo cX8_isFromTo 3 (some .boolean), .methodLink RX8 107 yX8_undoFromNow, .instanceMethod yX8_undoFromNow, .selects RX8 yX8_undoFromNow yX8_undoFromNow, .code yX8_undoFromNow cX8_undoFromNow 2 none, .fieldLink RX8 67 "KeptMoving" "came" "I", .fieldLink RX8 11 "KeptMoving" "courses" "[LKeptMoving$Course;", .instanceMethod yX0_began, .initialized RX0, .selects RX0 yX0_began yX0_began, .code yX0_began cX0_began 1 (some .int), .fieldLink RX0 9 "KeptMoving$Course" "starts" "[I", .instanceMethod yX0_undoFrom, .selects RX0 yX0_undoFrom yX0_undoFrom, .code yX0_undoFrom cX0_undoFrom 2 none, .fieldLink RX0 21 "KeptMoving$Course" "pieces" "I", .fieldLink RX0 25 "KeptMoving$Course" "stopped" "I"] ++ wsX80 ++ wsX00)
def wsX8_lineUp_r1 : List Cond := [Cond.fieldLink RX8 19 "KeptMoving" "line" "LKeptMoving$Line;", Cond.fieldLink RX8 67 "KeptMoving" "came" "I", Cond.fieldLink RX8 11 "KeptMoving" "courses" "[LKeptMoving$Course;", Cond.instanceMethod yX3_clear, Cond.initialized RX3, Cond.selects RX3 yX3_clear yX3_clear, Cond.code yX3_clear cX3_clear 1 none, Cond.fieldLink RX3 18 "KeptMoving$Line" "size" "I", Cond.instanceMethod yX0_isThere, Cond.initialized RX0, Cond.selects RX0 yX0_isThere yX0_isThere, Cond.code yX0_isThere cX0_isThere 3 (some .boolean), Cond.fieldLink RX0 9 "KeptMoving$Course" "starts" "[I", Cond.fieldLink RX0 25 "KeptMoving$Course" "stopped" "I", Cond.instanceMethod yX0_upperAt, Cond.selects RX0 yX0_upperAt yX0_upperAt, Cond.code yX0_upperAt cX0_upperAt 4 (some .int), Cond.fieldLink RX0 15 "KeptMoving$Course" "places" "[I", Cond.fieldLink RX0 18 "KeptMoving$Course" "speeds" "[I", Cond.methodLink RX0 32 yX0_pieceAt, Cond.instanceMethod yX0_pieceAt, Cond.selects RX0 yX0_pieceAt yX0_pieceAt, Cond.code yX0_pieceAt cX0_pieceAt 5 (some .int), Cond.fieldLink RX0 21 "KeptMoving$Course" "pieces" "I"]
def wsX8_lineUp_r2 : List Cond := [Cond.instanceMethod yX3_insert, Cond.selects RX3 yX3_insert yX3_insert, Cond.code yX3_insert cX3_insert 4 none, Cond.fieldLink RX3 15 "KeptMoving$Line" "uppers" "[I", Cond.fieldLink RX3 9 "KeptMoving$Line" "numbers" "[I"]
def wsX8_lineUp : List Cond := .code yX8_lineUp cX8_lineUp 4 none :: ((wsX8_lineUp_r1 ++ wsX8_lineUp_r2) ++ wsX80 ++ wsX30 ++ wsX00)
def wsX8_nextBend : List Cond := .code yX8_nextBend cX8_nextBend 5 (some .int) :: ([.fieldLink RX8 67 "KeptMoving" "came" "I", .fieldLink RX8 11 "KeptMoving" "courses" "[LKeptMoving$Course;", .instanceMethod yX0_nextBend, .initialized RX0, .selects RX0 yX0_nextBend yX0_nextBend, .code yX0_nextBend cX0_nextBend 5 (some .int), .fieldLink RX0 21 "KeptMoving$Course" "pieces" "I", .fieldLink RX0 9 "KeptMoving$Course" "starts" "[I", .methodLink RX0 39 Lib.Math.min.name, .static Lib.Math.min.name, .initialized "java/lang/Math", .code Lib.Math.min.name Lib.Math.min.code 2 (some .int), .fieldLink RX0 25 "KeptMoving$Course" "stopped" "I"] ++ wsX80 ++ wsX00)
def wsX8_gatherBends : List Cond := .code yX8_gatherBends cX8_gatherBends 2 none :: ([.fieldLink RX8 23 "KeptMoving" "bends" "[I", .fieldLink RX8 189 "KeptMoving" "bendCount" "I", .methodLink RX8 226 yX8_nextBend, .instanceMethod yX8_nextBend, .selects RX8 yX8_nextBend yX8_nextBend, .initialized RX8, .code yX8_nextBend cX8_nextBend 5 (some .int), .fieldLink RX8 67 "KeptMoving" "came" "I", .fieldLink RX8 11 "KeptMoving" "courses" "[LKeptMoving$Course;", .instanceMethod yX0_nextBend, .initialized RX0, .selects RX0 yX0_nextBend yX0_nextBend, .code yX0_nextBend cX0_nextBend 5 (some .int), .fieldLink RX0 21 "KeptMoving$Course" "pieces" "I", .fieldLink RX0 9 "KeptMoving$Course" "starts" "[I", .methodLink RX0 39 Lib.Math.min.name, .static Lib.Math.min.name, .initialized "java/lang/Math", .code Lib.Math.min.name Lib.Math.min.code 2 (some .int), .fieldLink RX0 25 "KeptMoving$Course" "stopped" "I"] ++ wsX80 ++ wsX00)
def wsX8_look_r1 : List Cond := [Cond.fieldLink RX8 30 "KeptMoving" "scene" "LKeptMoving$Scene;", Cond.fieldLink RX8 67 "KeptMoving" "came" "I", Cond.fieldLink RX8 11 "KeptMoving" "courses" "[LKeptMoving$Course;", Cond.instanceMethod yX5_clear, Cond.initialized RX5, Cond.selects RX5 yX5_clear yX5_clear, Cond.code yX5_clear cX5_clear 1 none, Cond.fieldLink RX5 22 "KeptMoving$Scene" "size" "I", Cond.instanceMethod yX5_add, Cond.selects RX5 yX5_add yX5_add, Cond.code yX5_add cX5_add 3 none, Cond.fieldLink RX5 9 "KeptMoving$Scene" "isThere" "[Z", Cond.fieldLink RX5 15 "KeptMoving$Scene" "places" "[I", Cond.fieldLink RX5 19 "KeptMoving$Scene" "speeds" "[I", Cond.instanceMethod yX0_isThere, Cond.initialized RX0, Cond.selects RX0 yX0_isThere yX0_isThere, Cond.code yX0_isThere cX0_isThere 3 (some .boolean), Cond.fieldLink RX0 9 "KeptMoving$Course" "starts" "[I", Cond.fieldLink RX0 25 "KeptMoving$Course" "stopped" "I", Cond.instanceMethod yX0_placeAt, Cond.selects RX0 yX0_placeAt yX0_placeAt, Cond.code yX0_placeAt cX0_placeAt 2 (some .int), Cond.methodLink RX0 36 yX0_upperAt]
def wsX8_look_r2 : List Cond := [Cond.instanceMethod yX0_upperAt, Cond.selects RX0 yX0_upperAt yX0_upperAt, Cond.code yX0_upperAt cX0_upperAt 4 (some .int), Cond.fieldLink RX0 15 "KeptMoving$Course" "places" "[I", Cond.fieldLink RX0 18 "KeptMoving$Course" "speeds" "[I", Cond.methodLink RX0 32 yX0_pieceAt, Cond.instanceMethod yX0_pieceAt, Cond.selects RX0 yX0_pieceAt yX0_pieceAt, Cond.code yX0_pieceAt cX0_pieceAt 5 (some .int), Cond.fieldLink RX0 21 "KeptMoving$Course" "pieces" "I", Cond.instanceMethod yX0_speedAt, Cond.selects RX0 yX0_speedAt yX0_speedAt, Cond.code yX0_speedAt cX0_speedAt 2 (some .int)]
def wsX8_look : List Cond := .code yX8_look cX8_look 3 none :: ((wsX8_look_r1 ++ wsX8_look_r2) ++ wsX80 ++ wsX50 ++ wsX00)
def wsX8_addMeetingAtBend_r1 : List Cond := [Cond.fieldLink RX8 11 "KeptMoving" "courses" "[LKeptMoving$Course;", Cond.fieldLink RX8 37 "KeptMoving" "meetings" "LKeptMoving$Meetings;", Cond.instanceMethod yX0_isThere, Cond.initialized RX0, Cond.selects RX0 yX0_isThere yX0_isThere, Cond.code yX0_isThere cX0_isThere 3 (some .boolean), Cond.fieldLink RX0 9 "KeptMoving$Course" "starts" "[I", Cond.fieldLink RX0 25 "KeptMoving$Course" "stopped" "I", Cond.instanceMethod yX0_speedAt, Cond.selects RX0 yX0_speedAt yX0_speedAt, Cond.code yX0_speedAt cX0_speedAt 2 (some .int), Cond.fieldLink RX0 18 "KeptMoving$Course" "speeds" "[I", Cond.methodLink RX0 32 yX0_pieceAt, Cond.instanceMethod yX0_pieceAt, Cond.selects RX0 yX0_pieceAt yX0_pieceAt, Cond.code yX0_pieceAt cX0_pieceAt 5 (some .int), Cond.fieldLink RX0 21 "KeptMoving$Course" "pieces" "I", Cond.static yX2_whole, Cond.initialized RX2, Cond.code yX2_whole cX2_whole 1 (some .long), Cond.instanceMethod yX4_insert, Cond.initialized RX4, Cond.selects RX4 yX4_insert yX4_insert, Cond.code yX4_insert cX4_insert 7 none]
def wsX8_addMeetingAtBend_r2 : List Cond := [Cond.fieldLink RX4 22 "KeptMoving$Meetings" "size" "I", Cond.fieldLink RX4 9 "KeptMoving$Meetings" "times" "[J", Cond.fieldLink RX4 15 "KeptMoving$Meetings" "ones" "[I", Cond.fieldLink RX4 19 "KeptMoving$Meetings" "others" "[I", Cond.fieldLink RX4 26 "KeptMoving$Meetings" "passes" "I", Cond.static yX2_compare, Cond.code yX2_compare cX2_compare 4 (some .int), Cond.methodLink RX2 29 yX2_upper, Cond.static yX2_upper, Cond.code yX2_upper cX2_upper 2 (some .int), Cond.methodLink RX2 33 yX2_lower, Cond.static yX2_lower, Cond.code yX2_lower cX2_lower 2 (some .int), Cond.constantLong RX2 27 (255), Cond.methodLink RX2 36 yJ13_compare_74951, Cond.static yJ13_compare_74951, Cond.initialized RJ13, Cond.code yJ13_compare_74951 cJ13_compare_74951 4 (some .int)]
def wsX8_addMeetingAtBend : List Cond := .code yX8_addMeetingAtBend cX8_addMeetingAtBend 8 none :: ((wsX8_addMeetingAtBend_r1 ++ wsX8_addMeetingAtBend_r2) ++ wsX80 ++ wsX00 ++ wsX40)
def wsX8_addMeeting_r1 : List Cond := [Cond.fieldLink RX8 30 "KeptMoving" "scene" "LKeptMoving$Scene;", Cond.methodLink RX8 256 Lib.Math.abs.name, Cond.static Lib.Math.abs.name, Cond.initialized "java/lang/Math", Cond.code Lib.Math.abs.name Lib.Math.abs.code 1 (some .int), Cond.fieldLink RX8 37 "KeptMoving" "meetings" "LKeptMoving$Meetings;", Cond.instanceMethod yX5_gap, Cond.initialized RX5, Cond.selects RX5 yX5_gap yX5_gap, Cond.code yX5_gap cX5_gap 3 (some .int), Cond.fieldLink RX5 15 "KeptMoving$Scene" "places" "[I", Cond.instanceMethod yX5_growth, Cond.selects RX5 yX5_growth yX5_growth, Cond.code yX5_growth cX5_growth 3 (some .int), Cond.fieldLink RX5 19 "KeptMoving$Scene" "speeds" "[I", Cond.static yX2_past, Cond.initialized RX2, Cond.code yX2_past cX2_past 3 (some .long), Cond.methodLink RX2 23 yX2_of, Cond.static yX2_of, Cond.code yX2_of cX2_of 3 (some .long), Cond.methodLink RX2 7 Lib.Math.abs.name, Cond.methodLink RX2 13 yX2_commonDivisor, Cond.static yX2_commonDivisor]
def wsX8_addMeeting_r2 : List Cond := [Cond.code yX2_commonDivisor cX2_commonDivisor 6 (some .int), Cond.methodLink RX2 19 yX2_whole, Cond.static yX2_whole, Cond.code yX2_whole cX2_whole 1 (some .long), Cond.static yX2_compare, Cond.code yX2_compare cX2_compare 4 (some .int), Cond.methodLink RX2 29 yX2_upper, Cond.static yX2_upper, Cond.code yX2_upper cX2_upper 2 (some .int), Cond.methodLink RX2 33 yX2_lower, Cond.static yX2_lower, Cond.code yX2_lower cX2_lower 2 (some .int), Cond.constantLong RX2 27 (255), Cond.methodLink RX2 36 yJ13_compare_74951, Cond.static yJ13_compare_74951, Cond.initialized RJ13, Cond.code yJ13_compare_74951 cJ13_compare_74951 4 (some .int), Cond.instanceMethod yX4_insert, Cond.initialized RX4, Cond.selects RX4 yX4_insert yX4_insert, Cond.code yX4_insert cX4_insert 7 none, Cond.fieldLink RX4 22 "KeptMoving$Meetings" "size" "I", Cond.fieldLink RX4 9 "KeptMoving$Meetings" "times" "[J", Cond.fieldLink RX4 15 "KeptMoving$Meetings" "ones" "[I"]
def wsX8_addMeeting_r3 : List Cond := [Cond.fieldLink RX4 19 "KeptMoving$Meetings" "others" "[I", Cond.fieldLink RX4 26 "KeptMoving$Meetings" "passes" "I", Cond.methodLink RX8 274 yX8_addMeetingAtBend, Cond.instanceMethod yX8_addMeetingAtBend, Cond.selects RX8 yX8_addMeetingAtBend yX8_addMeetingAtBend, Cond.initialized RX8, Cond.code yX8_addMeetingAtBend cX8_addMeetingAtBend 8 none, Cond.fieldLink RX8 11 "KeptMoving" "courses" "[LKeptMoving$Course;", Cond.instanceMethod yX0_isThere, Cond.initialized RX0, Cond.selects RX0 yX0_isThere yX0_isThere, Cond.code yX0_isThere cX0_isThere 3 (some .boolean), Cond.fieldLink RX0 9 "KeptMoving$Course" "starts" "[I", Cond.fieldLink RX0 25 "KeptMoving$Course" "stopped" "I", Cond.instanceMethod yX0_speedAt, Cond.selects RX0 yX0_speedAt yX0_speedAt, Cond.code yX0_speedAt cX0_speedAt 2 (some .int), Cond.fieldLink RX0 18 "KeptMoving$Course" "speeds" "[I", Cond.methodLink RX0 32 yX0_pieceAt, Cond.instanceMethod yX0_pieceAt, Cond.selects RX0 yX0_pieceAt yX0_pieceAt, Cond.code yX0_pieceAt cX0_pieceAt 5 (some .int), Cond.fieldLink RX0 21 "KeptMoving$Course" "pieces" "I"]
def wsX8_addMeeting : List Cond := .code yX8_addMeeting cX8_addMeeting 11 none :: ((wsX8_addMeeting_r1 ++ (wsX8_addMeeting_r2 ++ wsX8_addMeeting_r3)) ++ wsX80 ++ wsX50 ++ wsX40 ++ wsX00)
def wsX8_gatherMeetings_r1 : List Cond := [Cond.fieldLink RX8 37 "KeptMoving" "meetings" "LKeptMoving$Meetings;", Cond.fieldLink RX8 67 "KeptMoving" "came" "I", Cond.fieldLink RX8 30 "KeptMoving" "scene" "LKeptMoving$Scene;", Cond.instanceMethod yX4_clear, Cond.initialized RX4, Cond.selects RX4 yX4_clear yX4_clear, Cond.code yX4_clear cX4_clear 1 none, Cond.fieldLink RX4 22 "KeptMoving$Meetings" "size" "I", Cond.fieldLink RX4 26 "KeptMoving$Meetings" "passes" "I", Cond.methodLink RX8 240 yX8_look, Cond.instanceMethod yX8_look, Cond.selects RX8 yX8_look yX8_look, Cond.initialized RX8, Cond.code yX8_look cX8_look 3 none, Cond.fieldLink RX8 11 "KeptMoving" "courses" "[LKeptMoving$Course;", Cond.instanceMethod yX5_clear, Cond.initialized RX5, Cond.selects RX5 yX5_clear yX5_clear, Cond.code yX5_clear cX5_clear 1 none, Cond.fieldLink RX5 22 "KeptMoving$Scene" "size" "I", Cond.instanceMethod yX5_add, Cond.selects RX5 yX5_add yX5_add, Cond.code yX5_add cX5_add 3 none, Cond.fieldLink RX5 9 "KeptMoving$Scene" "isThere" "[Z"]
def wsX8_gatherMeetings_r2 : List Cond := [Cond.fieldLink RX5 15 "KeptMoving$Scene" "places" "[I", Cond.fieldLink RX5 19 "KeptMoving$Scene" "speeds" "[I", Cond.instanceMethod yX0_isThere, Cond.initialized RX0, Cond.selects RX0 yX0_isThere yX0_isThere, Cond.code yX0_isThere cX0_isThere 3 (some .boolean), Cond.fieldLink RX0 9 "KeptMoving$Course" "starts" "[I", Cond.fieldLink RX0 25 "KeptMoving$Course" "stopped" "I", Cond.instanceMethod yX0_placeAt, Cond.selects RX0 yX0_placeAt yX0_placeAt, Cond.code yX0_placeAt cX0_placeAt 2 (some .int), Cond.methodLink RX0 36 yX0_upperAt, Cond.instanceMethod yX0_upperAt, Cond.selects RX0 yX0_upperAt yX0_upperAt, Cond.code yX0_upperAt cX0_upperAt 4 (some .int), Cond.fieldLink RX0 15 "KeptMoving$Course" "places" "[I", Cond.fieldLink RX0 18 "KeptMoving$Course" "speeds" "[I", Cond.methodLink RX0 32 yX0_pieceAt, Cond.instanceMethod yX0_pieceAt, Cond.selects RX0 yX0_pieceAt yX0_pieceAt, Cond.code yX0_pieceAt cX0_pieceAt 5 (some .int), Cond.fieldLink RX0 21 "KeptMoving$Course" "pieces" "I", Cond.instanceMethod yX0_speedAt, Cond.selects RX0 yX0_speedAt yX0_speedAt]
def wsX8_gatherMeetings_r3 : List Cond := [Cond.code yX0_speedAt cX0_speedAt 2 (some .int), Cond.instanceMethod yX5_has, Cond.selects RX5 yX5_has yX5_has, Cond.code yX5_has cX5_has 2 (some .boolean), Cond.methodLink RX8 246 yX8_addMeeting, Cond.instanceMethod yX8_addMeeting, Cond.selects RX8 yX8_addMeeting yX8_addMeeting, Cond.code yX8_addMeeting cX8_addMeeting 11 none, Cond.methodLink RX8 256 Lib.Math.abs.name, Cond.static Lib.Math.abs.name, Cond.initialized "java/lang/Math", Cond.code Lib.Math.abs.name Lib.Math.abs.code 1 (some .int), Cond.instanceMethod yX5_gap, Cond.selects RX5 yX5_gap yX5_gap, Cond.code yX5_gap cX5_gap 3 (some .int), Cond.instanceMethod yX5_growth, Cond.selects RX5 yX5_growth yX5_growth, Cond.code yX5_growth cX5_growth 3 (some .int), Cond.static yX2_past, Cond.initialized RX2, Cond.code yX2_past cX2_past 3 (some .long), Cond.methodLink RX2 23 yX2_of, Cond.static yX2_of, Cond.code yX2_of cX2_of 3 (some .long)]
def wsX8_gatherMeetings_r4 : List Cond := [Cond.methodLink RX2 7 Lib.Math.abs.name, Cond.methodLink RX2 13 yX2_commonDivisor, Cond.static yX2_commonDivisor, Cond.code yX2_commonDivisor cX2_commonDivisor 6 (some .int), Cond.methodLink RX2 19 yX2_whole, Cond.static yX2_whole, Cond.code yX2_whole cX2_whole 1 (some .long), Cond.static yX2_compare, Cond.code yX2_compare cX2_compare 4 (some .int), Cond.methodLink RX2 29 yX2_upper, Cond.static yX2_upper, Cond.code yX2_upper cX2_upper 2 (some .int), Cond.methodLink RX2 33 yX2_lower, Cond.static yX2_lower, Cond.code yX2_lower cX2_lower 2 (some .int), Cond.constantLong RX2 27 (255), Cond.methodLink RX2 36 yJ13_compare_74951, Cond.static yJ13_compare_74951, Cond.initialized RJ13, Cond.code yJ13_compare_74951 cJ13_compare_74951 4 (some .int), Cond.instanceMethod yX4_insert, Cond.selects RX4 yX4_insert yX4_insert, Cond.code yX4_insert cX4_insert 7 none, Cond.fieldLink RX4 9 "KeptMoving$Meetings" "times" "[J"]
def wsX8_gatherMeetings_r5 : List Cond := [Cond.fieldLink RX4 15 "KeptMoving$Meetings" "ones" "[I", Cond.fieldLink RX4 19 "KeptMoving$Meetings" "others" "[I", Cond.methodLink RX8 274 yX8_addMeetingAtBend, Cond.instanceMethod yX8_addMeetingAtBend, Cond.selects RX8 yX8_addMeetingAtBend yX8_addMeetingAtBend, Cond.code yX8_addMeetingAtBend cX8_addMeetingAtBend 8 none]
def wsX8_gatherMeetings : List Cond := .code yX8_gatherMeetings cX8_gatherMeetings 5 none :: ((wsX8_gatherMeetings_r1 ++ (wsX8_gatherMeetings_r2 ++ (wsX8_gatherMeetings_r3 ++ (wsX8_gatherMeetings_r4 ++ wsX8_gatherMeetings_r5)))) ++ wsX80 ++ wsX40 ++ wsX50 ++ wsX00)
def wsX8_countPast_r1 : List Cond := [Cond.fieldLink RX8 72 "KeptMoving" "now" "I", Cond.fieldLink RX8 189 "KeptMoving" "bendCount" "I", Cond.fieldLink RX8 23 "KeptMoving" "bends" "[I", Cond.fieldLink RX8 37 "KeptMoving" "meetings" "LKeptMoving$Meetings;", Cond.methodLink RX8 186 yX8_gatherBends, Cond.instanceMethod yX8_gatherBends, Cond.selects RX8 yX8_gatherBends yX8_gatherBends, Cond.initialized RX8, Cond.code yX8_gatherBends cX8_gatherBends 2 none, Cond.methodLink RX8 226 yX8_nextBend, Cond.instanceMethod yX8_nextBend, Cond.selects RX8 yX8_nextBend yX8_nextBend, Cond.code yX8_nextBend cX8_nextBend 5 (some .int), Cond.fieldLink RX8 67 "KeptMoving" "came" "I", Cond.fieldLink RX8 11 "KeptMoving" "courses" "[LKeptMoving$Course;", Cond.instanceMethod yX0_nextBend, Cond.initialized RX0, Cond.selects RX0 yX0_nextBend yX0_nextBend, Cond.code yX0_nextBend cX0_nextBend 5 (some .int), Cond.fieldLink RX0 21 "KeptMoving$Course" "pieces" "I", Cond.fieldLink RX0 9 "KeptMoving$Course" "starts" "[I", Cond.methodLink RX0 39 Lib.Math.min.name, Cond.static Lib.Math.min.name, Cond.initialized "java/lang/Math"]
def wsX8_countPast_r2 : List Cond := [Cond.code Lib.Math.min.name Lib.Math.min.code 2 (some .int), Cond.fieldLink RX0 25 "KeptMoving$Course" "stopped" "I", Cond.methodLink RX8 172 yX8_gatherMeetings, Cond.instanceMethod yX8_gatherMeetings, Cond.selects RX8 yX8_gatherMeetings yX8_gatherMeetings, Cond.code yX8_gatherMeetings cX8_gatherMeetings 5 none, Cond.fieldLink RX8 30 "KeptMoving" "scene" "LKeptMoving$Scene;", Cond.instanceMethod yX4_clear, Cond.initialized RX4, Cond.selects RX4 yX4_clear yX4_clear, Cond.code yX4_clear cX4_clear 1 none, Cond.fieldLink RX4 22 "KeptMoving$Meetings" "size" "I", Cond.fieldLink RX4 26 "KeptMoving$Meetings" "passes" "I", Cond.methodLink RX8 240 yX8_look, Cond.instanceMethod yX8_look, Cond.selects RX8 yX8_look yX8_look, Cond.code yX8_look cX8_look 3 none, Cond.instanceMethod yX5_clear, Cond.initialized RX5, Cond.selects RX5 yX5_clear yX5_clear, Cond.code yX5_clear cX5_clear 1 none, Cond.fieldLink RX5 22 "KeptMoving$Scene" "size" "I", Cond.instanceMethod yX5_add, Cond.selects RX5 yX5_add yX5_add]
def wsX8_countPast_r3 : List Cond := [Cond.code yX5_add cX5_add 3 none, Cond.fieldLink RX5 9 "KeptMoving$Scene" "isThere" "[Z", Cond.fieldLink RX5 15 "KeptMoving$Scene" "places" "[I", Cond.fieldLink RX5 19 "KeptMoving$Scene" "speeds" "[I", Cond.instanceMethod yX0_isThere, Cond.selects RX0 yX0_isThere yX0_isThere, Cond.code yX0_isThere cX0_isThere 3 (some .boolean), Cond.instanceMethod yX0_placeAt, Cond.selects RX0 yX0_placeAt yX0_placeAt, Cond.code yX0_placeAt cX0_placeAt 2 (some .int), Cond.methodLink RX0 36 yX0_upperAt, Cond.instanceMethod yX0_upperAt, Cond.selects RX0 yX0_upperAt yX0_upperAt, Cond.code yX0_upperAt cX0_upperAt 4 (some .int), Cond.fieldLink RX0 15 "KeptMoving$Course" "places" "[I", Cond.fieldLink RX0 18 "KeptMoving$Course" "speeds" "[I", Cond.methodLink RX0 32 yX0_pieceAt, Cond.instanceMethod yX0_pieceAt, Cond.selects RX0 yX0_pieceAt yX0_pieceAt, Cond.code yX0_pieceAt cX0_pieceAt 5 (some .int), Cond.instanceMethod yX0_speedAt, Cond.selects RX0 yX0_speedAt yX0_speedAt, Cond.code yX0_speedAt cX0_speedAt 2 (some .int), Cond.instanceMethod yX5_has]
def wsX8_countPast_r4 : List Cond := [Cond.selects RX5 yX5_has yX5_has, Cond.code yX5_has cX5_has 2 (some .boolean), Cond.methodLink RX8 246 yX8_addMeeting, Cond.instanceMethod yX8_addMeeting, Cond.selects RX8 yX8_addMeeting yX8_addMeeting, Cond.code yX8_addMeeting cX8_addMeeting 11 none, Cond.methodLink RX8 256 Lib.Math.abs.name, Cond.static Lib.Math.abs.name, Cond.code Lib.Math.abs.name Lib.Math.abs.code 1 (some .int), Cond.instanceMethod yX5_gap, Cond.selects RX5 yX5_gap yX5_gap, Cond.code yX5_gap cX5_gap 3 (some .int), Cond.instanceMethod yX5_growth, Cond.selects RX5 yX5_growth yX5_growth, Cond.code yX5_growth cX5_growth 3 (some .int), Cond.static yX2_past, Cond.initialized RX2, Cond.code yX2_past cX2_past 3 (some .long), Cond.methodLink RX2 23 yX2_of, Cond.static yX2_of, Cond.code yX2_of cX2_of 3 (some .long), Cond.methodLink RX2 7 Lib.Math.abs.name, Cond.methodLink RX2 13 yX2_commonDivisor, Cond.static yX2_commonDivisor]
def wsX8_countPast_r5 : List Cond := [Cond.code yX2_commonDivisor cX2_commonDivisor 6 (some .int), Cond.methodLink RX2 19 yX2_whole, Cond.static yX2_whole, Cond.code yX2_whole cX2_whole 1 (some .long), Cond.static yX2_compare, Cond.code yX2_compare cX2_compare 4 (some .int), Cond.methodLink RX2 29 yX2_upper, Cond.static yX2_upper, Cond.code yX2_upper cX2_upper 2 (some .int), Cond.methodLink RX2 33 yX2_lower, Cond.static yX2_lower, Cond.code yX2_lower cX2_lower 2 (some .int), Cond.constantLong RX2 27 (255), Cond.methodLink RX2 36 yJ13_compare_74951, Cond.static yJ13_compare_74951, Cond.initialized RJ13, Cond.code yJ13_compare_74951 cJ13_compare_74951 4 (some .int), Cond.instanceMethod yX4_insert, Cond.selects RX4 yX4_insert yX4_insert, Cond.code yX4_insert cX4_insert 7 none, Cond.fieldLink RX4 9 "KeptMoving$Meetings" "times" "[J", Cond.fieldLink RX4 15 "KeptMoving$Meetings" "ones" "[I", Cond.fieldLink RX4 19 "KeptMoving$Meetings" "others" "[I", Cond.methodLink RX8 274 yX8_addMeetingAtBend]
def wsX8_countPast_r6 : List Cond := [Cond.instanceMethod yX8_addMeetingAtBend, Cond.selects RX8 yX8_addMeetingAtBend yX8_addMeetingAtBend, Cond.code yX8_addMeetingAtBend cX8_addMeetingAtBend 8 none]
def wsX8_countPast : List Cond := .code yX8_countPast cX8_countPast 4 (some .int) :: ((wsX8_countPast_r1 ++ (wsX8_countPast_r2 ++ (wsX8_countPast_r3 ++ (wsX8_countPast_r4 ++ (wsX8_countPast_r5 ++ wsX8_countPast_r6))))) ++ wsX80 ++ wsX40 ++ wsX00 ++ wsX50)
def wsX8_count_r1 : List Cond := [Cond.fieldLink RX8 72 "KeptMoving" "now" "I", Cond.fieldLink RX8 67 "KeptMoving" "came" "I", Cond.fieldLink RX8 19 "KeptMoving" "line" "LKeptMoving$Line;", Cond.methodLink RX8 120 Lib.Math.max.name, Cond.static Lib.Math.max.name, Cond.initialized "java/lang/Math", Cond.code Lib.Math.max.name Lib.Math.max.code 2 (some .int), Cond.constant RX8 66 (-100002), Cond.methodLink RX8 110 yX8_lineUp, Cond.instanceMethod yX8_lineUp, Cond.selects RX8 yX8_lineUp yX8_lineUp, Cond.initialized RX8, Cond.code yX8_lineUp cX8_lineUp 4 none, Cond.fieldLink RX8 11 "KeptMoving" "courses" "[LKeptMoving$Course;", Cond.instanceMethod yX3_clear, Cond.initialized RX3, Cond.selects RX3 yX3_clear yX3_clear, Cond.code yX3_clear cX3_clear 1 none, Cond.fieldLink RX3 18 "KeptMoving$Line" "size" "I", Cond.instanceMethod yX0_isThere, Cond.initialized RX0, Cond.selects RX0 yX0_isThere yX0_isThere, Cond.code yX0_isThere cX0_isThere 3 (some .boolean), Cond.fieldLink RX0 9 "KeptMoving$Course" "starts" "[I"]
def wsX8_count_r2 : List Cond := [Cond.fieldLink RX0 25 "KeptMoving$Course" "stopped" "I", Cond.instanceMethod yX0_upperAt, Cond.selects RX0 yX0_upperAt yX0_upperAt, Cond.code yX0_upperAt cX0_upperAt 4 (some .int), Cond.fieldLink RX0 15 "KeptMoving$Course" "places" "[I", Cond.fieldLink RX0 18 "KeptMoving$Course" "speeds" "[I", Cond.methodLink RX0 32 yX0_pieceAt, Cond.instanceMethod yX0_pieceAt, Cond.selects RX0 yX0_pieceAt yX0_pieceAt, Cond.code yX0_pieceAt cX0_pieceAt 5 (some .int), Cond.fieldLink RX0 21 "KeptMoving$Course" "pieces" "I", Cond.instanceMethod yX3_insert, Cond.selects RX3 yX3_insert yX3_insert, Cond.code yX3_insert cX3_insert 4 none, Cond.fieldLink RX3 15 "KeptMoving$Line" "uppers" "[I", Cond.fieldLink RX3 9 "KeptMoving$Line" "numbers" "[I", Cond.methodLink RX8 116 yX8_countPast, Cond.instanceMethod yX8_countPast, Cond.selects RX8 yX8_countPast yX8_countPast, Cond.code yX8_countPast cX8_countPast 4 (some .int), Cond.fieldLink RX8 189 "KeptMoving" "bendCount" "I", Cond.fieldLink RX8 23 "KeptMoving" "bends" "[I", Cond.fieldLink RX8 37 "KeptMoving" "meetings" "LKeptMoving$Meetings;", Cond.methodLink RX8 186 yX8_gatherBends]
def wsX8_count_r3 : List Cond := [Cond.instanceMethod yX8_gatherBends, Cond.selects RX8 yX8_gatherBends yX8_gatherBends, Cond.code yX8_gatherBends cX8_gatherBends 2 none, Cond.methodLink RX8 226 yX8_nextBend, Cond.instanceMethod yX8_nextBend, Cond.selects RX8 yX8_nextBend yX8_nextBend, Cond.code yX8_nextBend cX8_nextBend 5 (some .int), Cond.instanceMethod yX0_nextBend, Cond.selects RX0 yX0_nextBend yX0_nextBend, Cond.code yX0_nextBend cX0_nextBend 5 (some .int), Cond.methodLink RX0 39 Lib.Math.min.name, Cond.static Lib.Math.min.name, Cond.code Lib.Math.min.name Lib.Math.min.code 2 (some .int), Cond.methodLink RX8 172 yX8_gatherMeetings, Cond.instanceMethod yX8_gatherMeetings, Cond.selects RX8 yX8_gatherMeetings yX8_gatherMeetings, Cond.code yX8_gatherMeetings cX8_gatherMeetings 5 none, Cond.fieldLink RX8 30 "KeptMoving" "scene" "LKeptMoving$Scene;", Cond.instanceMethod yX4_clear, Cond.initialized RX4, Cond.selects RX4 yX4_clear yX4_clear, Cond.code yX4_clear cX4_clear 1 none, Cond.fieldLink RX4 22 "KeptMoving$Meetings" "size" "I", Cond.fieldLink RX4 26 "KeptMoving$Meetings" "passes" "I"]
def wsX8_count_r4 : List Cond := [Cond.methodLink RX8 240 yX8_look, Cond.instanceMethod yX8_look, Cond.selects RX8 yX8_look yX8_look, Cond.code yX8_look cX8_look 3 none, Cond.instanceMethod yX5_clear, Cond.initialized RX5, Cond.selects RX5 yX5_clear yX5_clear, Cond.code yX5_clear cX5_clear 1 none, Cond.fieldLink RX5 22 "KeptMoving$Scene" "size" "I", Cond.instanceMethod yX5_add, Cond.selects RX5 yX5_add yX5_add, Cond.code yX5_add cX5_add 3 none, Cond.fieldLink RX5 9 "KeptMoving$Scene" "isThere" "[Z", Cond.fieldLink RX5 15 "KeptMoving$Scene" "places" "[I", Cond.fieldLink RX5 19 "KeptMoving$Scene" "speeds" "[I", Cond.instanceMethod yX0_placeAt, Cond.selects RX0 yX0_placeAt yX0_placeAt, Cond.code yX0_placeAt cX0_placeAt 2 (some .int), Cond.methodLink RX0 36 yX0_upperAt, Cond.instanceMethod yX0_speedAt, Cond.selects RX0 yX0_speedAt yX0_speedAt, Cond.code yX0_speedAt cX0_speedAt 2 (some .int), Cond.instanceMethod yX5_has, Cond.selects RX5 yX5_has yX5_has]
def wsX8_count_r5 : List Cond := [Cond.code yX5_has cX5_has 2 (some .boolean), Cond.methodLink RX8 246 yX8_addMeeting, Cond.instanceMethod yX8_addMeeting, Cond.selects RX8 yX8_addMeeting yX8_addMeeting, Cond.code yX8_addMeeting cX8_addMeeting 11 none, Cond.methodLink RX8 256 Lib.Math.abs.name, Cond.static Lib.Math.abs.name, Cond.code Lib.Math.abs.name Lib.Math.abs.code 1 (some .int), Cond.instanceMethod yX5_gap, Cond.selects RX5 yX5_gap yX5_gap, Cond.code yX5_gap cX5_gap 3 (some .int), Cond.instanceMethod yX5_growth, Cond.selects RX5 yX5_growth yX5_growth, Cond.code yX5_growth cX5_growth 3 (some .int), Cond.static yX2_past, Cond.initialized RX2, Cond.code yX2_past cX2_past 3 (some .long), Cond.methodLink RX2 23 yX2_of, Cond.static yX2_of, Cond.code yX2_of cX2_of 3 (some .long), Cond.methodLink RX2 7 Lib.Math.abs.name, Cond.methodLink RX2 13 yX2_commonDivisor, Cond.static yX2_commonDivisor, Cond.code yX2_commonDivisor cX2_commonDivisor 6 (some .int)]
def wsX8_count_r6 : List Cond := [Cond.methodLink RX2 19 yX2_whole, Cond.static yX2_whole, Cond.code yX2_whole cX2_whole 1 (some .long), Cond.static yX2_compare, Cond.code yX2_compare cX2_compare 4 (some .int), Cond.methodLink RX2 29 yX2_upper, Cond.static yX2_upper, Cond.code yX2_upper cX2_upper 2 (some .int), Cond.methodLink RX2 33 yX2_lower, Cond.static yX2_lower, Cond.code yX2_lower cX2_lower 2 (some .int), Cond.constantLong RX2 27 (255), Cond.methodLink RX2 36 yJ13_compare_74951, Cond.static yJ13_compare_74951, Cond.initialized RJ13, Cond.code yJ13_compare_74951 cJ13_compare_74951 4 (some .int), Cond.instanceMethod yX4_insert, Cond.selects RX4 yX4_insert yX4_insert, Cond.code yX4_insert cX4_insert 7 none, Cond.fieldLink RX4 9 "KeptMoving$Meetings" "times" "[J", Cond.fieldLink RX4 15 "KeptMoving$Meetings" "ones" "[I", Cond.fieldLink RX4 19 "KeptMoving$Meetings" "others" "[I", Cond.methodLink RX8 274 yX8_addMeetingAtBend, Cond.instanceMethod yX8_addMeetingAtBend]
def wsX8_count_r7 : List Cond := [Cond.selects RX8 yX8_addMeetingAtBend yX8_addMeetingAtBend, Cond.code yX8_addMeetingAtBend cX8_addMeetingAtBend 8 none]
def wsX8_count : List Cond := .code yX8_count cX8_count 2 (some .int) :: ((wsX8_count_r1 ++ (wsX8_count_r2 ++ (wsX8_count_r3 ++ (wsX8_count_r4 ++ (wsX8_count_r5 ++ (wsX8_count_r6 ++ wsX8_count_r7)))))) ++ wsX80 ++ wsX30 ++ wsX00 ++ wsX40 ++ wsX50)
def wsX8_told : List Cond := .code yX8_told cX8_told 4 (some .int) :: ([.constant RX8 83 (-100001), .fieldLink RX8 11 "KeptMoving" "courses" "[LKeptMoving$Course;", .constant RX8 66 (-100002), .methodLink RX8 79 yX8_isKnown, .instanceMethod yX8_isKnown, .selects RX8 yX8_isKnown yX8_isKnown, .initialized RX8, .code yX8_isKnown cX8_isKnown 2 (some .boolean), .fieldLink RX8 67 "KeptMoving" "came" "I", .instanceMethod yX0_began, .initialized RX0, .selects RX0 yX0_began yX0_began, .code yX0_began cX0_began 1 (some .int), .fieldLink RX0 9 "KeptMoving$Course" "starts" "[I", .instanceMethod yX0_latestSpeed, .selects RX0 yX0_latestSpeed yX0_latestSpeed, .code yX0_latestSpeed cX0_latestSpeed 1 (some .int), .fieldLink RX0 18 "KeptMoving$Course" "speeds" "[I", .fieldLink RX0 21 "KeptMoving$Course" "pieces" "I"] ++ wsX80 ++ wsX00)
def wsX8_isMoment : List Cond := .code yX8_isMoment cX8_isMoment 2 (some .boolean) :: ([.methodLink RX8 62 yX8_isFromTo, .static yX8_isFromTo, .initialized RX8, .code yX8_isFromTo cX8_isFromTo 3 (some .boolean)])
def wsX8_place_r1 : List Cond := [Cond.constantLong RX8 132 (-100001), Cond.constantLong RX8 138 (-100002), Cond.fieldLink RX8 11 "KeptMoving" "courses" "[LKeptMoving$Course;", Cond.constantLong RX8 143 (-100003), Cond.methodLink RX8 79 yX8_isKnown, Cond.instanceMethod yX8_isKnown, Cond.selects RX8 yX8_isKnown yX8_isKnown, Cond.initialized RX8, Cond.code yX8_isKnown cX8_isKnown 2 (some .boolean), Cond.fieldLink RX8 67 "KeptMoving" "came" "I", Cond.methodLink RX8 134 yX8_isMoment, Cond.static yX8_isMoment, Cond.code yX8_isMoment cX8_isMoment 2 (some .boolean), Cond.methodLink RX8 62 yX8_isFromTo, Cond.static yX8_isFromTo, Cond.code yX8_isFromTo cX8_isFromTo 3 (some .boolean), Cond.instanceMethod yX0_isThere, Cond.initialized RX0, Cond.selects RX0 yX0_isThere yX0_isThere, Cond.code yX0_isThere cX0_isThere 3 (some .boolean), Cond.fieldLink RX0 9 "KeptMoving$Course" "starts" "[I", Cond.fieldLink RX0 25 "KeptMoving$Course" "stopped" "I", Cond.instanceMethod yX0_upperAt, Cond.selects RX0 yX0_upperAt yX0_upperAt]
def wsX8_place_r2 : List Cond := [Cond.code yX0_upperAt cX0_upperAt 4 (some .int), Cond.fieldLink RX0 15 "KeptMoving$Course" "places" "[I", Cond.fieldLink RX0 18 "KeptMoving$Course" "speeds" "[I", Cond.methodLink RX0 32 yX0_pieceAt, Cond.instanceMethod yX0_pieceAt, Cond.selects RX0 yX0_pieceAt yX0_pieceAt, Cond.code yX0_pieceAt cX0_pieceAt 5 (some .int), Cond.fieldLink RX0 21 "KeptMoving$Course" "pieces" "I", Cond.static yX2_of, Cond.initialized RX2, Cond.code yX2_of cX2_of 3 (some .long), Cond.methodLink RX2 7 Lib.Math.abs.name, Cond.static Lib.Math.abs.name, Cond.initialized "java/lang/Math", Cond.code Lib.Math.abs.name Lib.Math.abs.code 1 (some .int), Cond.methodLink RX2 13 yX2_commonDivisor, Cond.static yX2_commonDivisor, Cond.code yX2_commonDivisor cX2_commonDivisor 6 (some .int), Cond.methodLink RX2 19 yX2_whole, Cond.static yX2_whole, Cond.code yX2_whole cX2_whole 1 (some .long), Cond.static yX2_upper, Cond.code yX2_upper cX2_upper 2 (some .int), Cond.static yX2_lower]
def wsX8_place_r3 : List Cond := [Cond.code yX2_lower cX2_lower 2 (some .int), Cond.constantLong RX2 27 (255)]
def wsX8_place : List Cond := .code yX8_place cX8_place 8 (some .long) :: ((wsX8_place_r1 ++ (wsX8_place_r2 ++ wsX8_place_r3)) ++ wsX80 ++ wsX00)
def wsX8_order_r1 : List Cond := [Cond.constant RX8 66 (-100002), Cond.fieldLink RX8 19 "KeptMoving" "line" "LKeptMoving$Line;", Cond.methodLink RX8 134 yX8_isMoment, Cond.static yX8_isMoment, Cond.initialized RX8, Cond.code yX8_isMoment cX8_isMoment 2 (some .boolean), Cond.methodLink RX8 62 yX8_isFromTo, Cond.static yX8_isFromTo, Cond.code yX8_isFromTo cX8_isFromTo 3 (some .boolean), Cond.methodLink RX8 110 yX8_lineUp, Cond.instanceMethod yX8_lineUp, Cond.selects RX8 yX8_lineUp yX8_lineUp, Cond.code yX8_lineUp cX8_lineUp 4 none, Cond.fieldLink RX8 67 "KeptMoving" "came" "I", Cond.fieldLink RX8 11 "KeptMoving" "courses" "[LKeptMoving$Course;", Cond.instanceMethod yX3_clear, Cond.initialized RX3, Cond.selects RX3 yX3_clear yX3_clear, Cond.code yX3_clear cX3_clear 1 none, Cond.fieldLink RX3 18 "KeptMoving$Line" "size" "I", Cond.instanceMethod yX0_isThere, Cond.initialized RX0, Cond.selects RX0 yX0_isThere yX0_isThere, Cond.code yX0_isThere cX0_isThere 3 (some .boolean)]
def wsX8_order_r2 : List Cond := [Cond.fieldLink RX0 9 "KeptMoving$Course" "starts" "[I", Cond.fieldLink RX0 25 "KeptMoving$Course" "stopped" "I", Cond.instanceMethod yX0_upperAt, Cond.selects RX0 yX0_upperAt yX0_upperAt, Cond.code yX0_upperAt cX0_upperAt 4 (some .int), Cond.fieldLink RX0 15 "KeptMoving$Course" "places" "[I", Cond.fieldLink RX0 18 "KeptMoving$Course" "speeds" "[I", Cond.methodLink RX0 32 yX0_pieceAt, Cond.instanceMethod yX0_pieceAt, Cond.selects RX0 yX0_pieceAt yX0_pieceAt, Cond.code yX0_pieceAt cX0_pieceAt 5 (some .int), Cond.fieldLink RX0 21 "KeptMoving$Course" "pieces" "I", Cond.instanceMethod yX3_insert, Cond.selects RX3 yX3_insert yX3_insert, Cond.code yX3_insert cX3_insert 4 none, Cond.fieldLink RX3 15 "KeptMoving$Line" "uppers" "[I", Cond.fieldLink RX3 9 "KeptMoving$Line" "numbers" "[I", Cond.instanceMethod yX3_tell, Cond.selects RX3 yX3_tell yX3_tell, Cond.code yX3_tell cX3_tell 2 (some .int)]
def wsX8_order : List Cond := .code yX8_order cX8_order 4 (some .int) :: ((wsX8_order_r1 ++ wsX8_order_r2) ++ wsX80 ++ wsX30 ++ wsX00)
def wsX8_kept_r1 : List Cond := [Cond.fieldLink RX8 72 "KeptMoving" "now" "I", Cond.fieldLink RX8 19 "KeptMoving" "line" "LKeptMoving$Line;", Cond.methodLink RX8 110 yX8_lineUp, Cond.instanceMethod yX8_lineUp, Cond.selects RX8 yX8_lineUp yX8_lineUp, Cond.initialized RX8, Cond.code yX8_lineUp cX8_lineUp 4 none, Cond.fieldLink RX8 67 "KeptMoving" "came" "I", Cond.fieldLink RX8 11 "KeptMoving" "courses" "[LKeptMoving$Course;", Cond.instanceMethod yX3_clear, Cond.initialized RX3, Cond.selects RX3 yX3_clear yX3_clear, Cond.code yX3_clear cX3_clear 1 none, Cond.fieldLink RX3 18 "KeptMoving$Line" "size" "I", Cond.instanceMethod yX0_isThere, Cond.initialized RX0, Cond.selects RX0 yX0_isThere yX0_isThere, Cond.code yX0_isThere cX0_isThere 3 (some .boolean), Cond.fieldLink RX0 9 "KeptMoving$Course" "starts" "[I", Cond.fieldLink RX0 25 "KeptMoving$Course" "stopped" "I", Cond.instanceMethod yX0_upperAt, Cond.selects RX0 yX0_upperAt yX0_upperAt, Cond.code yX0_upperAt cX0_upperAt 4 (some .int), Cond.fieldLink RX0 15 "KeptMoving$Course" "places" "[I"]
def wsX8_kept_r2 : List Cond := [Cond.fieldLink RX0 18 "KeptMoving$Course" "speeds" "[I", Cond.methodLink RX0 32 yX0_pieceAt, Cond.instanceMethod yX0_pieceAt, Cond.selects RX0 yX0_pieceAt yX0_pieceAt, Cond.code yX0_pieceAt cX0_pieceAt 5 (some .int), Cond.fieldLink RX0 21 "KeptMoving$Course" "pieces" "I", Cond.instanceMethod yX3_insert, Cond.selects RX3 yX3_insert yX3_insert, Cond.code yX3_insert cX3_insert 4 none, Cond.fieldLink RX3 15 "KeptMoving$Line" "uppers" "[I", Cond.fieldLink RX3 9 "KeptMoving$Line" "numbers" "[I", Cond.instanceMethod yX3_tell, Cond.selects RX3 yX3_tell yX3_tell, Cond.code yX3_tell cX3_tell 2 (some .int)]
def wsX8_kept : List Cond := .code yX8_kept cX8_kept 2 (some .int) :: ((wsX8_kept_r1 ++ wsX8_kept_r2) ++ wsX80 ++ wsX30 ++ wsX00)
def wsX8_at_r1 : List Cond := [Cond.constant RX8 66 (-100002), Cond.fieldLink RX8 19 "KeptMoving" "line" "LKeptMoving$Line;", Cond.methodLink RX8 134 yX8_isMoment, Cond.static yX8_isMoment, Cond.initialized RX8, Cond.code yX8_isMoment cX8_isMoment 2 (some .boolean), Cond.methodLink RX8 62 yX8_isFromTo, Cond.static yX8_isFromTo, Cond.code yX8_isFromTo cX8_isFromTo 3 (some .boolean), Cond.methodLink RX8 110 yX8_lineUp, Cond.instanceMethod yX8_lineUp, Cond.selects RX8 yX8_lineUp yX8_lineUp, Cond.code yX8_lineUp cX8_lineUp 4 none, Cond.fieldLink RX8 67 "KeptMoving" "came" "I", Cond.fieldLink RX8 11 "KeptMoving" "courses" "[LKeptMoving$Course;", Cond.instanceMethod yX3_clear, Cond.initialized RX3, Cond.selects RX3 yX3_clear yX3_clear, Cond.code yX3_clear cX3_clear 1 none, Cond.fieldLink RX3 18 "KeptMoving$Line" "size" "I", Cond.instanceMethod yX0_isThere, Cond.initialized RX0, Cond.selects RX0 yX0_isThere yX0_isThere, Cond.code yX0_isThere cX0_isThere 3 (some .boolean)]
def wsX8_at_r2 : List Cond := [Cond.fieldLink RX0 9 "KeptMoving$Course" "starts" "[I", Cond.fieldLink RX0 25 "KeptMoving$Course" "stopped" "I", Cond.instanceMethod yX0_upperAt, Cond.selects RX0 yX0_upperAt yX0_upperAt, Cond.code yX0_upperAt cX0_upperAt 4 (some .int), Cond.fieldLink RX0 15 "KeptMoving$Course" "places" "[I", Cond.fieldLink RX0 18 "KeptMoving$Course" "speeds" "[I", Cond.methodLink RX0 32 yX0_pieceAt, Cond.instanceMethod yX0_pieceAt, Cond.selects RX0 yX0_pieceAt yX0_pieceAt, Cond.code yX0_pieceAt cX0_pieceAt 5 (some .int), Cond.fieldLink RX0 21 "KeptMoving$Course" "pieces" "I", Cond.instanceMethod yX3_insert, Cond.selects RX3 yX3_insert yX3_insert, Cond.code yX3_insert cX3_insert 4 none, Cond.fieldLink RX3 15 "KeptMoving$Line" "uppers" "[I", Cond.fieldLink RX3 9 "KeptMoving$Line" "numbers" "[I", Cond.instanceMethod yX3_tell, Cond.selects RX3 yX3_tell yX3_tell, Cond.code yX3_tell cX3_tell 2 (some .int), Cond.instanceMethod yX3_closestUpper, Cond.selects RX3 yX3_closestUpper yX3_closestUpper, Cond.code yX3_closestUpper cX3_closestUpper 5 (some .int), Cond.instanceMethod yX3_heaps]
def wsX8_at_r3 : List Cond := [Cond.selects RX3 yX3_heaps yX3_heaps, Cond.code yX3_heaps cX3_heaps 4 (some .int), Cond.methodLink RX3 22 Lib.Math.min.name, Cond.static Lib.Math.min.name, Cond.initialized "java/lang/Math", Cond.code Lib.Math.min.name Lib.Math.min.code 2 (some .int)]
def wsX8_at : List Cond := .code yX8_at cX8_at 5 (some .int) :: ((wsX8_at_r1 ++ (wsX8_at_r2 ++ wsX8_at_r3)) ++ wsX80 ++ wsX30 ++ wsX00)
def wsX8_gatherAround_r1 : List Cond := [Cond.fieldLink RX8 72 "KeptMoving" "now" "I", Cond.fieldLink RX8 189 "KeptMoving" "bendCount" "I", Cond.fieldLink RX8 23 "KeptMoving" "bends" "[I", Cond.fieldLink RX8 37 "KeptMoving" "meetings" "LKeptMoving$Meetings;", Cond.methodLink RX8 186 yX8_gatherBends, Cond.instanceMethod yX8_gatherBends, Cond.selects RX8 yX8_gatherBends yX8_gatherBends, Cond.initialized RX8, Cond.code yX8_gatherBends cX8_gatherBends 2 none, Cond.methodLink RX8 226 yX8_nextBend, Cond.instanceMethod yX8_nextBend, Cond.selects RX8 yX8_nextBend yX8_nextBend, Cond.code yX8_nextBend cX8_nextBend 5 (some .int), Cond.fieldLink RX8 67 "KeptMoving" "came" "I", Cond.fieldLink RX8 11 "KeptMoving" "courses" "[LKeptMoving$Course;", Cond.instanceMethod yX0_nextBend, Cond.initialized RX0, Cond.selects RX0 yX0_nextBend yX0_nextBend, Cond.code yX0_nextBend cX0_nextBend 5 (some .int), Cond.fieldLink RX0 21 "KeptMoving$Course" "pieces" "I", Cond.fieldLink RX0 9 "KeptMoving$Course" "starts" "[I", Cond.methodLink RX0 39 Lib.Math.min.name, Cond.static Lib.Math.min.name, Cond.initialized "java/lang/Math"]
def wsX8_gatherAround_r2 : List Cond := [Cond.code Lib.Math.min.name Lib.Math.min.code 2 (some .int), Cond.fieldLink RX0 25 "KeptMoving$Course" "stopped" "I", Cond.methodLink RX8 172 yX8_gatherMeetings, Cond.instanceMethod yX8_gatherMeetings, Cond.selects RX8 yX8_gatherMeetings yX8_gatherMeetings, Cond.code yX8_gatherMeetings cX8_gatherMeetings 5 none, Cond.fieldLink RX8 30 "KeptMoving" "scene" "LKeptMoving$Scene;", Cond.instanceMethod yX4_clear, Cond.initialized RX4, Cond.selects RX4 yX4_clear yX4_clear, Cond.code yX4_clear cX4_clear 1 none, Cond.fieldLink RX4 22 "KeptMoving$Meetings" "size" "I", Cond.fieldLink RX4 26 "KeptMoving$Meetings" "passes" "I", Cond.methodLink RX8 240 yX8_look, Cond.instanceMethod yX8_look, Cond.selects RX8 yX8_look yX8_look, Cond.code yX8_look cX8_look 3 none, Cond.instanceMethod yX5_clear, Cond.initialized RX5, Cond.selects RX5 yX5_clear yX5_clear, Cond.code yX5_clear cX5_clear 1 none, Cond.fieldLink RX5 22 "KeptMoving$Scene" "size" "I", Cond.instanceMethod yX5_add, Cond.selects RX5 yX5_add yX5_add]
def wsX8_gatherAround_r3 : List Cond := [Cond.code yX5_add cX5_add 3 none, Cond.fieldLink RX5 9 "KeptMoving$Scene" "isThere" "[Z", Cond.fieldLink RX5 15 "KeptMoving$Scene" "places" "[I", Cond.fieldLink RX5 19 "KeptMoving$Scene" "speeds" "[I", Cond.instanceMethod yX0_isThere, Cond.selects RX0 yX0_isThere yX0_isThere, Cond.code yX0_isThere cX0_isThere 3 (some .boolean), Cond.instanceMethod yX0_placeAt, Cond.selects RX0 yX0_placeAt yX0_placeAt, Cond.code yX0_placeAt cX0_placeAt 2 (some .int), Cond.methodLink RX0 36 yX0_upperAt, Cond.instanceMethod yX0_upperAt, Cond.selects RX0 yX0_upperAt yX0_upperAt, Cond.code yX0_upperAt cX0_upperAt 4 (some .int), Cond.fieldLink RX0 15 "KeptMoving$Course" "places" "[I", Cond.fieldLink RX0 18 "KeptMoving$Course" "speeds" "[I", Cond.methodLink RX0 32 yX0_pieceAt, Cond.instanceMethod yX0_pieceAt, Cond.selects RX0 yX0_pieceAt yX0_pieceAt, Cond.code yX0_pieceAt cX0_pieceAt 5 (some .int), Cond.instanceMethod yX0_speedAt, Cond.selects RX0 yX0_speedAt yX0_speedAt, Cond.code yX0_speedAt cX0_speedAt 2 (some .int), Cond.instanceMethod yX5_has]
def wsX8_gatherAround_r4 : List Cond := [Cond.selects RX5 yX5_has yX5_has, Cond.code yX5_has cX5_has 2 (some .boolean), Cond.methodLink RX8 246 yX8_addMeeting, Cond.instanceMethod yX8_addMeeting, Cond.selects RX8 yX8_addMeeting yX8_addMeeting, Cond.code yX8_addMeeting cX8_addMeeting 11 none, Cond.methodLink RX8 256 Lib.Math.abs.name, Cond.static Lib.Math.abs.name, Cond.code Lib.Math.abs.name Lib.Math.abs.code 1 (some .int), Cond.instanceMethod yX5_gap, Cond.selects RX5 yX5_gap yX5_gap, Cond.code yX5_gap cX5_gap 3 (some .int), Cond.instanceMethod yX5_growth, Cond.selects RX5 yX5_growth yX5_growth, Cond.code yX5_growth cX5_growth 3 (some .int), Cond.static yX2_past, Cond.initialized RX2, Cond.code yX2_past cX2_past 3 (some .long), Cond.methodLink RX2 23 yX2_of, Cond.static yX2_of, Cond.code yX2_of cX2_of 3 (some .long), Cond.methodLink RX2 7 Lib.Math.abs.name, Cond.methodLink RX2 13 yX2_commonDivisor, Cond.static yX2_commonDivisor]
def wsX8_gatherAround_r5 : List Cond := [Cond.code yX2_commonDivisor cX2_commonDivisor 6 (some .int), Cond.methodLink RX2 19 yX2_whole, Cond.static yX2_whole, Cond.code yX2_whole cX2_whole 1 (some .long), Cond.static yX2_compare, Cond.code yX2_compare cX2_compare 4 (some .int), Cond.methodLink RX2 29 yX2_upper, Cond.static yX2_upper, Cond.code yX2_upper cX2_upper 2 (some .int), Cond.methodLink RX2 33 yX2_lower, Cond.static yX2_lower, Cond.code yX2_lower cX2_lower 2 (some .int), Cond.constantLong RX2 27 (255), Cond.methodLink RX2 36 yJ13_compare_74951, Cond.static yJ13_compare_74951, Cond.initialized RJ13, Cond.code yJ13_compare_74951 cJ13_compare_74951 4 (some .int), Cond.instanceMethod yX4_insert, Cond.selects RX4 yX4_insert yX4_insert, Cond.code yX4_insert cX4_insert 7 none, Cond.fieldLink RX4 9 "KeptMoving$Meetings" "times" "[J", Cond.fieldLink RX4 15 "KeptMoving$Meetings" "ones" "[I", Cond.fieldLink RX4 19 "KeptMoving$Meetings" "others" "[I", Cond.methodLink RX8 274 yX8_addMeetingAtBend]
def wsX8_gatherAround_r6 : List Cond := [Cond.instanceMethod yX8_addMeetingAtBend, Cond.selects RX8 yX8_addMeetingAtBend yX8_addMeetingAtBend, Cond.code yX8_addMeetingAtBend cX8_addMeetingAtBend 8 none]
def wsX8_gatherAround : List Cond := .code yX8_gatherAround cX8_gatherAround 4 (some .int) :: ((wsX8_gatherAround_r1 ++ (wsX8_gatherAround_r2 ++ (wsX8_gatherAround_r3 ++ (wsX8_gatherAround_r4 ++ (wsX8_gatherAround_r5 ++ wsX8_gatherAround_r6))))) ++ wsX80 ++ wsX40 ++ wsX00 ++ wsX50)
def wsX8_meeting_r1 : List Cond := [Cond.constant RX8 66 (-100002), Cond.fieldLink RX8 72 "KeptMoving" "now" "I", Cond.constant RX8 171 (100000), Cond.fieldLink RX8 37 "KeptMoving" "meetings" "LKeptMoving$Meetings;", Cond.methodLink RX8 62 yX8_isFromTo, Cond.static yX8_isFromTo, Cond.initialized RX8, Cond.code yX8_isFromTo cX8_isFromTo 3 (some .boolean), Cond.methodLink RX8 172 yX8_gatherMeetings, Cond.instanceMethod yX8_gatherMeetings, Cond.selects RX8 yX8_gatherMeetings yX8_gatherMeetings, Cond.code yX8_gatherMeetings cX8_gatherMeetings 5 none, Cond.fieldLink RX8 67 "KeptMoving" "came" "I", Cond.fieldLink RX8 30 "KeptMoving" "scene" "LKeptMoving$Scene;", Cond.instanceMethod yX4_clear, Cond.initialized RX4, Cond.selects RX4 yX4_clear yX4_clear, Cond.code yX4_clear cX4_clear 1 none, Cond.fieldLink RX4 22 "KeptMoving$Meetings" "size" "I", Cond.fieldLink RX4 26 "KeptMoving$Meetings" "passes" "I", Cond.methodLink RX8 240 yX8_look, Cond.instanceMethod yX8_look, Cond.selects RX8 yX8_look yX8_look, Cond.code yX8_look cX8_look 3 none]
def wsX8_meeting_r2 : List Cond := [Cond.fieldLink RX8 11 "KeptMoving" "courses" "[LKeptMoving$Course;", Cond.instanceMethod yX5_clear, Cond.initialized RX5, Cond.selects RX5 yX5_clear yX5_clear, Cond.code yX5_clear cX5_clear 1 none, Cond.fieldLink RX5 22 "KeptMoving$Scene" "size" "I", Cond.instanceMethod yX5_add, Cond.selects RX5 yX5_add yX5_add, Cond.code yX5_add cX5_add 3 none, Cond.fieldLink RX5 9 "KeptMoving$Scene" "isThere" "[Z", Cond.fieldLink RX5 15 "KeptMoving$Scene" "places" "[I", Cond.fieldLink RX5 19 "KeptMoving$Scene" "speeds" "[I", Cond.instanceMethod yX0_isThere, Cond.initialized RX0, Cond.selects RX0 yX0_isThere yX0_isThere, Cond.code yX0_isThere cX0_isThere 3 (some .boolean), Cond.fieldLink RX0 9 "KeptMoving$Course" "starts" "[I", Cond.fieldLink RX0 25 "KeptMoving$Course" "stopped" "I", Cond.instanceMethod yX0_placeAt, Cond.selects RX0 yX0_placeAt yX0_placeAt, Cond.code yX0_placeAt cX0_placeAt 2 (some .int), Cond.methodLink RX0 36 yX0_upperAt, Cond.instanceMethod yX0_upperAt, Cond.selects RX0 yX0_upperAt yX0_upperAt]
def wsX8_meeting_r3 : List Cond := [Cond.code yX0_upperAt cX0_upperAt 4 (some .int), Cond.fieldLink RX0 15 "KeptMoving$Course" "places" "[I", Cond.fieldLink RX0 18 "KeptMoving$Course" "speeds" "[I", Cond.methodLink RX0 32 yX0_pieceAt, Cond.instanceMethod yX0_pieceAt, Cond.selects RX0 yX0_pieceAt yX0_pieceAt, Cond.code yX0_pieceAt cX0_pieceAt 5 (some .int), Cond.fieldLink RX0 21 "KeptMoving$Course" "pieces" "I", Cond.instanceMethod yX0_speedAt, Cond.selects RX0 yX0_speedAt yX0_speedAt, Cond.code yX0_speedAt cX0_speedAt 2 (some .int), Cond.instanceMethod yX5_has, Cond.selects RX5 yX5_has yX5_has, Cond.code yX5_has cX5_has 2 (some .boolean), Cond.methodLink RX8 246 yX8_addMeeting, Cond.instanceMethod yX8_addMeeting, Cond.selects RX8 yX8_addMeeting yX8_addMeeting, Cond.code yX8_addMeeting cX8_addMeeting 11 none, Cond.methodLink RX8 256 Lib.Math.abs.name, Cond.static Lib.Math.abs.name, Cond.initialized "java/lang/Math", Cond.code Lib.Math.abs.name Lib.Math.abs.code 1 (some .int), Cond.instanceMethod yX5_gap, Cond.selects RX5 yX5_gap yX5_gap]
def wsX8_meeting_r4 : List Cond := [Cond.code yX5_gap cX5_gap 3 (some .int), Cond.instanceMethod yX5_growth, Cond.selects RX5 yX5_growth yX5_growth, Cond.code yX5_growth cX5_growth 3 (some .int), Cond.static yX2_past, Cond.initialized RX2, Cond.code yX2_past cX2_past 3 (some .long), Cond.methodLink RX2 23 yX2_of, Cond.static yX2_of, Cond.code yX2_of cX2_of 3 (some .long), Cond.methodLink RX2 7 Lib.Math.abs.name, Cond.methodLink RX2 13 yX2_commonDivisor, Cond.static yX2_commonDivisor, Cond.code yX2_commonDivisor cX2_commonDivisor 6 (some .int), Cond.methodLink RX2 19 yX2_whole, Cond.static yX2_whole, Cond.code yX2_whole cX2_whole 1 (some .long), Cond.static yX2_compare, Cond.code yX2_compare cX2_compare 4 (some .int), Cond.methodLink RX2 29 yX2_upper, Cond.static yX2_upper, Cond.code yX2_upper cX2_upper 2 (some .int), Cond.methodLink RX2 33 yX2_lower, Cond.static yX2_lower]
def wsX8_meeting_r5 : List Cond := [Cond.code yX2_lower cX2_lower 2 (some .int), Cond.constantLong RX2 27 (255), Cond.methodLink RX2 36 yJ13_compare_74951, Cond.static yJ13_compare_74951, Cond.initialized RJ13, Cond.code yJ13_compare_74951 cJ13_compare_74951 4 (some .int), Cond.instanceMethod yX4_insert, Cond.selects RX4 yX4_insert yX4_insert, Cond.code yX4_insert cX4_insert 7 none, Cond.fieldLink RX4 9 "KeptMoving$Meetings" "times" "[J", Cond.fieldLink RX4 15 "KeptMoving$Meetings" "ones" "[I", Cond.fieldLink RX4 19 "KeptMoving$Meetings" "others" "[I", Cond.methodLink RX8 274 yX8_addMeetingAtBend, Cond.instanceMethod yX8_addMeetingAtBend, Cond.selects RX8 yX8_addMeetingAtBend yX8_addMeetingAtBend, Cond.code yX8_addMeetingAtBend cX8_addMeetingAtBend 8 none, Cond.instanceMethod yX4_tell, Cond.selects RX4 yX4_tell yX4_tell, Cond.code yX4_tell cX4_tell 3 (some .int), Cond.methodLink RX8 177 yX8_gatherAround, Cond.instanceMethod yX8_gatherAround, Cond.selects RX8 yX8_gatherAround yX8_gatherAround, Cond.code yX8_gatherAround cX8_gatherAround 4 (some .int), Cond.fieldLink RX8 189 "KeptMoving" "bendCount" "I"]
def wsX8_meeting_r6 : List Cond := [Cond.fieldLink RX8 23 "KeptMoving" "bends" "[I", Cond.methodLink RX8 186 yX8_gatherBends, Cond.instanceMethod yX8_gatherBends, Cond.selects RX8 yX8_gatherBends yX8_gatherBends, Cond.code yX8_gatherBends cX8_gatherBends 2 none, Cond.methodLink RX8 226 yX8_nextBend, Cond.instanceMethod yX8_nextBend, Cond.selects RX8 yX8_nextBend yX8_nextBend, Cond.code yX8_nextBend cX8_nextBend 5 (some .int), Cond.instanceMethod yX0_nextBend, Cond.selects RX0 yX0_nextBend yX0_nextBend, Cond.code yX0_nextBend cX0_nextBend 5 (some .int), Cond.methodLink RX0 39 Lib.Math.min.name, Cond.static Lib.Math.min.name, Cond.code Lib.Math.min.name Lib.Math.min.code 2 (some .int)]
def wsX8_meeting : List Cond := .code yX8_meeting cX8_meeting 3 (some .int) :: ((wsX8_meeting_r1 ++ (wsX8_meeting_r2 ++ (wsX8_meeting_r3 ++ (wsX8_meeting_r4 ++ (wsX8_meeting_r5 ++ wsX8_meeting_r6))))) ++ wsX80 ++ wsX40 ++ wsX50 ++ wsX00)
def wsX8_isSpanAsked : List Cond := .code yX8_isSpanAsked cX8_isSpanAsked 2 (some .boolean) :: ([.methodLink RX8 62 yX8_isFromTo, .static yX8_isFromTo, .initialized RX8, .code yX8_isFromTo cX8_isFromTo 3 (some .boolean)])
def wsX8_openStretch_r1 : List Cond := [Cond.fieldLink RX8 23 "KeptMoving" "bends" "[I", Cond.fieldLink RX8 44 "KeptMoving" "stretch" "LKeptMoving$Stretch;", Cond.fieldLink RX8 189 "KeptMoving" "bendCount" "I", Cond.methodLink RX8 240 yX8_look, Cond.instanceMethod yX8_look, Cond.selects RX8 yX8_look yX8_look, Cond.initialized RX8, Cond.code yX8_look cX8_look 3 none, Cond.fieldLink RX8 30 "KeptMoving" "scene" "LKeptMoving$Scene;", Cond.fieldLink RX8 67 "KeptMoving" "came" "I", Cond.fieldLink RX8 11 "KeptMoving" "courses" "[LKeptMoving$Course;", Cond.instanceMethod yX5_clear, Cond.initialized RX5, Cond.selects RX5 yX5_clear yX5_clear, Cond.code yX5_clear cX5_clear 1 none, Cond.fieldLink RX5 22 "KeptMoving$Scene" "size" "I", Cond.instanceMethod yX5_add, Cond.selects RX5 yX5_add yX5_add, Cond.code yX5_add cX5_add 3 none, Cond.fieldLink RX5 9 "KeptMoving$Scene" "isThere" "[Z", Cond.fieldLink RX5 15 "KeptMoving$Scene" "places" "[I", Cond.fieldLink RX5 19 "KeptMoving$Scene" "speeds" "[I", Cond.instanceMethod yX0_isThere, Cond.initialized RX0]
def wsX8_openStretch_r2 : List Cond := [Cond.selects RX0 yX0_isThere yX0_isThere, Cond.code yX0_isThere cX0_isThere 3 (some .boolean), Cond.fieldLink RX0 9 "KeptMoving$Course" "starts" "[I", Cond.fieldLink RX0 25 "KeptMoving$Course" "stopped" "I", Cond.instanceMethod yX0_placeAt, Cond.selects RX0 yX0_placeAt yX0_placeAt, Cond.code yX0_placeAt cX0_placeAt 2 (some .int), Cond.methodLink RX0 36 yX0_upperAt, Cond.instanceMethod yX0_upperAt, Cond.selects RX0 yX0_upperAt yX0_upperAt, Cond.code yX0_upperAt cX0_upperAt 4 (some .int), Cond.fieldLink RX0 15 "KeptMoving$Course" "places" "[I", Cond.fieldLink RX0 18 "KeptMoving$Course" "speeds" "[I", Cond.methodLink RX0 32 yX0_pieceAt, Cond.instanceMethod yX0_pieceAt, Cond.selects RX0 yX0_pieceAt yX0_pieceAt, Cond.code yX0_pieceAt cX0_pieceAt 5 (some .int), Cond.fieldLink RX0 21 "KeptMoving$Course" "pieces" "I", Cond.instanceMethod yX0_speedAt, Cond.selects RX0 yX0_speedAt yX0_speedAt, Cond.code yX0_speedAt cX0_speedAt 2 (some .int), Cond.instanceMethod yX7_open, Cond.initialized RX7, Cond.selects RX7 yX7_open yX7_open]
def wsX8_openStretch_r3 : List Cond := [Cond.code yX7_open cX7_open 3 none, Cond.fieldLink RX7 7 "KeptMoving$Stretch" "from" "I", Cond.fieldLink RX7 19 "KeptMoving$Stretch" "until" "J", Cond.static yX2_whole, Cond.initialized RX2, Cond.code yX2_whole cX2_whole 1 (some .long), Cond.methodLink RX7 23 yX7_keepAll, Cond.instanceMethod yX7_keepAll, Cond.selects RX7 yX7_keepAll yX7_keepAll, Cond.code yX7_keepAll cX7_keepAll 1 none, Cond.fieldLink RX7 26 "KeptMoving$Stretch" "begin" "J", Cond.fieldLink RX7 29 "KeptMoving$Stretch" "end" "J", Cond.fieldLink RX7 32 "KeptMoving$Stretch" "isNothing" "Z"]
def wsX8_openStretch : List Cond := .code yX8_openStretch cX8_openStretch 2 none :: ((wsX8_openStretch_r1 ++ (wsX8_openStretch_r2 ++ wsX8_openStretch_r3)) ++ wsX80 ++ wsX50 ++ wsX00 ++ wsX70)
def wsX8_keepNear_r1 : List Cond := [Cond.fieldLink RX8 30 "KeptMoving" "scene" "LKeptMoving$Scene;", Cond.fieldLink RX8 44 "KeptMoving" "stretch" "LKeptMoving$Stretch;", Cond.instanceMethod yX5_has, Cond.initialized RX5, Cond.selects RX5 yX5_has yX5_has, Cond.code yX5_has cX5_has 2 (some .boolean), Cond.fieldLink RX5 22 "KeptMoving$Scene" "size" "I", Cond.fieldLink RX5 9 "KeptMoving$Scene" "isThere" "[Z", Cond.instanceMethod yX7_keepNothing, Cond.initialized RX7, Cond.selects RX7 yX7_keepNothing yX7_keepNothing, Cond.code yX7_keepNothing cX7_keepNothing 1 none, Cond.fieldLink RX7 32 "KeptMoving$Stretch" "isNothing" "Z", Cond.instanceMethod yX5_gap, Cond.selects RX5 yX5_gap yX5_gap, Cond.code yX5_gap cX5_gap 3 (some .int), Cond.fieldLink RX5 15 "KeptMoving$Scene" "places" "[I", Cond.instanceMethod yX5_growth, Cond.selects RX5 yX5_growth yX5_growth, Cond.code yX5_growth cX5_growth 3 (some .int), Cond.fieldLink RX5 19 "KeptMoving$Scene" "speeds" "[I", Cond.instanceMethod yX7_keepAtMost, Cond.selects RX7 yX7_keepAtMost yX7_keepAtMost, Cond.code yX7_keepAtMost cX7_keepAtMost 6 none]
def wsX8_keepNear_r2 : List Cond := [Cond.fieldLink RX7 7 "KeptMoving$Stretch" "from" "I", Cond.fieldLink RX7 29 "KeptMoving$Stretch" "end" "J", Cond.fieldLink RX7 26 "KeptMoving$Stretch" "begin" "J", Cond.static yX2_past, Cond.initialized RX2, Cond.code yX2_past cX2_past 3 (some .long), Cond.methodLink RX2 23 yX2_of, Cond.static yX2_of, Cond.code yX2_of cX2_of 3 (some .long), Cond.methodLink RX2 7 Lib.Math.abs.name, Cond.static Lib.Math.abs.name, Cond.initialized "java/lang/Math", Cond.code Lib.Math.abs.name Lib.Math.abs.code 1 (some .int), Cond.methodLink RX2 13 yX2_commonDivisor, Cond.static yX2_commonDivisor, Cond.code yX2_commonDivisor cX2_commonDivisor 6 (some .int), Cond.methodLink RX2 19 yX2_whole, Cond.static yX2_whole, Cond.code yX2_whole cX2_whole 1 (some .long), Cond.static yX2_compare, Cond.code yX2_compare cX2_compare 4 (some .int), Cond.methodLink RX2 29 yX2_upper, Cond.static yX2_upper, Cond.code yX2_upper cX2_upper 2 (some .int)]
def wsX8_keepNear_r3 : List Cond := [Cond.methodLink RX2 33 yX2_lower, Cond.static yX2_lower, Cond.code yX2_lower cX2_lower 2 (some .int), Cond.constantLong RX2 27 (255), Cond.methodLink RX2 36 yJ13_compare_74951, Cond.static yJ13_compare_74951, Cond.initialized RJ13, Cond.code yJ13_compare_74951 cJ13_compare_74951 4 (some .int), Cond.methodLink RX7 44 yX7_keepNothing]
def wsX8_keepNear : List Cond := .code yX8_keepNear cX8_keepNear 4 none :: ((wsX8_keepNear_r1 ++ (wsX8_keepNear_r2 ++ wsX8_keepNear_r3)) ++ wsX80 ++ wsX50 ++ wsX70)
def wsX8_near_r1 : List Cond := [Cond.constant RX8 83 (-100001), Cond.constant RX8 66 (-100002), Cond.constant RX8 88 (-100003), Cond.fieldLink RX8 58 "KeptMoving" "spans" "LKeptMoving$Spans;", Cond.fieldLink RX8 189 "KeptMoving" "bendCount" "I", Cond.fieldLink RX8 44 "KeptMoving" "stretch" "LKeptMoving$Stretch;", Cond.methodLink RX8 79 yX8_isKnown, Cond.instanceMethod yX8_isKnown, Cond.selects RX8 yX8_isKnown yX8_isKnown, Cond.initialized RX8, Cond.code yX8_isKnown cX8_isKnown 2 (some .boolean), Cond.fieldLink RX8 67 "KeptMoving" "came" "I", Cond.methodLink RX8 62 yX8_isFromTo, Cond.static yX8_isFromTo, Cond.code yX8_isFromTo cX8_isFromTo 3 (some .boolean), Cond.methodLink RX8 180 yX8_isSpanAsked, Cond.static yX8_isSpanAsked, Cond.code yX8_isSpanAsked cX8_isSpanAsked 2 (some .boolean), Cond.instanceMethod yX6_seek, Cond.initialized RX6, Cond.selects RX6 yX6_seek yX6_seek, Cond.code yX6_seek cX6_seek 2 none, Cond.fieldLink RX6 9 "KeptMoving$Spans" "sought" "I", Cond.fieldLink RX6 15 "KeptMoving$Spans" "size" "I"]
def wsX8_near_r2 : List Cond := [Cond.methodLink RX8 186 yX8_gatherBends, Cond.instanceMethod yX8_gatherBends, Cond.selects RX8 yX8_gatherBends yX8_gatherBends, Cond.code yX8_gatherBends cX8_gatherBends 2 none, Cond.fieldLink RX8 23 "KeptMoving" "bends" "[I", Cond.methodLink RX8 226 yX8_nextBend, Cond.instanceMethod yX8_nextBend, Cond.selects RX8 yX8_nextBend yX8_nextBend, Cond.code yX8_nextBend cX8_nextBend 5 (some .int), Cond.fieldLink RX8 11 "KeptMoving" "courses" "[LKeptMoving$Course;", Cond.instanceMethod yX0_nextBend, Cond.initialized RX0, Cond.selects RX0 yX0_nextBend yX0_nextBend, Cond.code yX0_nextBend cX0_nextBend 5 (some .int), Cond.fieldLink RX0 21 "KeptMoving$Course" "pieces" "I", Cond.fieldLink RX0 9 "KeptMoving$Course" "starts" "[I", Cond.methodLink RX0 39 Lib.Math.min.name, Cond.static Lib.Math.min.name, Cond.initialized "java/lang/Math", Cond.code Lib.Math.min.name Lib.Math.min.code 2 (some .int), Cond.fieldLink RX0 25 "KeptMoving$Course" "stopped" "I", Cond.methodLink RX8 192 yX8_openStretch, Cond.instanceMethod yX8_openStretch, Cond.selects RX8 yX8_openStretch yX8_openStretch]
def wsX8_near_r3 : List Cond := [Cond.code yX8_openStretch cX8_openStretch 2 none, Cond.methodLink RX8 240 yX8_look, Cond.instanceMethod yX8_look, Cond.selects RX8 yX8_look yX8_look, Cond.code yX8_look cX8_look 3 none, Cond.fieldLink RX8 30 "KeptMoving" "scene" "LKeptMoving$Scene;", Cond.instanceMethod yX5_clear, Cond.initialized RX5, Cond.selects RX5 yX5_clear yX5_clear, Cond.code yX5_clear cX5_clear 1 none, Cond.fieldLink RX5 22 "KeptMoving$Scene" "size" "I", Cond.instanceMethod yX5_add, Cond.selects RX5 yX5_add yX5_add, Cond.code yX5_add cX5_add 3 none, Cond.fieldLink RX5 9 "KeptMoving$Scene" "isThere" "[Z", Cond.fieldLink RX5 15 "KeptMoving$Scene" "places" "[I", Cond.fieldLink RX5 19 "KeptMoving$Scene" "speeds" "[I", Cond.instanceMethod yX0_isThere, Cond.selects RX0 yX0_isThere yX0_isThere, Cond.code yX0_isThere cX0_isThere 3 (some .boolean), Cond.instanceMethod yX0_placeAt, Cond.selects RX0 yX0_placeAt yX0_placeAt, Cond.code yX0_placeAt cX0_placeAt 2 (some .int), Cond.methodLink RX0 36 yX0_upperAt]
def wsX8_near_r4 : List Cond := [Cond.instanceMethod yX0_upperAt, Cond.selects RX0 yX0_upperAt yX0_upperAt, Cond.code yX0_upperAt cX0_upperAt 4 (some .int), Cond.fieldLink RX0 15 "KeptMoving$Course" "places" "[I", Cond.fieldLink RX0 18 "KeptMoving$Course" "speeds" "[I", Cond.methodLink RX0 32 yX0_pieceAt, Cond.instanceMethod yX0_pieceAt, Cond.selects RX0 yX0_pieceAt yX0_pieceAt, Cond.code yX0_pieceAt cX0_pieceAt 5 (some .int), Cond.instanceMethod yX0_speedAt, Cond.selects RX0 yX0_speedAt yX0_speedAt, Cond.code yX0_speedAt cX0_speedAt 2 (some .int), Cond.instanceMethod yX7_open, Cond.initialized RX7, Cond.selects RX7 yX7_open yX7_open, Cond.code yX7_open cX7_open 3 none, Cond.fieldLink RX7 7 "KeptMoving$Stretch" "from" "I", Cond.fieldLink RX7 19 "KeptMoving$Stretch" "until" "J", Cond.static yX2_whole, Cond.initialized RX2, Cond.code yX2_whole cX2_whole 1 (some .long), Cond.methodLink RX7 23 yX7_keepAll, Cond.instanceMethod yX7_keepAll, Cond.selects RX7 yX7_keepAll yX7_keepAll]
def wsX8_near_r5 : List Cond := [Cond.code yX7_keepAll cX7_keepAll 1 none, Cond.fieldLink RX7 26 "KeptMoving$Stretch" "begin" "J", Cond.fieldLink RX7 29 "KeptMoving$Stretch" "end" "J", Cond.fieldLink RX7 32 "KeptMoving$Stretch" "isNothing" "Z", Cond.methodLink RX8 195 yX8_keepNear, Cond.instanceMethod yX8_keepNear, Cond.selects RX8 yX8_keepNear yX8_keepNear, Cond.code yX8_keepNear cX8_keepNear 4 none, Cond.instanceMethod yX5_has, Cond.selects RX5 yX5_has yX5_has, Cond.code yX5_has cX5_has 2 (some .boolean), Cond.instanceMethod yX7_keepNothing, Cond.selects RX7 yX7_keepNothing yX7_keepNothing, Cond.code yX7_keepNothing cX7_keepNothing 1 none, Cond.instanceMethod yX5_gap, Cond.selects RX5 yX5_gap yX5_gap, Cond.code yX5_gap cX5_gap 3 (some .int), Cond.instanceMethod yX5_growth, Cond.selects RX5 yX5_growth yX5_growth, Cond.code yX5_growth cX5_growth 3 (some .int), Cond.instanceMethod yX7_keepAtMost, Cond.selects RX7 yX7_keepAtMost yX7_keepAtMost, Cond.code yX7_keepAtMost cX7_keepAtMost 6 none, Cond.static yX2_past]
def wsX8_near_r6 : List Cond := [Cond.code yX2_past cX2_past 3 (some .long), Cond.methodLink RX2 23 yX2_of, Cond.static yX2_of, Cond.code yX2_of cX2_of 3 (some .long), Cond.methodLink RX2 7 Lib.Math.abs.name, Cond.static Lib.Math.abs.name, Cond.code Lib.Math.abs.name Lib.Math.abs.code 1 (some .int), Cond.methodLink RX2 13 yX2_commonDivisor, Cond.static yX2_commonDivisor, Cond.code yX2_commonDivisor cX2_commonDivisor 6 (some .int), Cond.methodLink RX2 19 yX2_whole, Cond.static yX2_compare, Cond.code yX2_compare cX2_compare 4 (some .int), Cond.methodLink RX2 29 yX2_upper, Cond.static yX2_upper, Cond.code yX2_upper cX2_upper 2 (some .int), Cond.methodLink RX2 33 yX2_lower, Cond.static yX2_lower, Cond.code yX2_lower cX2_lower 2 (some .int), Cond.constantLong RX2 27 (255), Cond.methodLink RX2 36 yJ13_compare_74951, Cond.static yJ13_compare_74951, Cond.initialized RJ13, Cond.code yJ13_compare_74951 cJ13_compare_74951 4 (some .int)]
def wsX8_near_r7 : List Cond := [Cond.methodLink RX7 44 yX7_keepNothing, Cond.instanceMethod yX6_addIfSo, Cond.selects RX6 yX6_addIfSo yX6_addIfSo, Cond.code yX6_addIfSo cX6_addIfSo 2 none, Cond.instanceMethod yX7_isSo, Cond.selects RX7 yX7_isSo yX7_isSo, Cond.code yX7_isSo cX7_isSo 2 (some .boolean), Cond.methodLink RX6 31 yX6_add, Cond.instanceMethod yX6_add, Cond.selects RX6 yX6_add yX6_add, Cond.code yX6_add cX6_add 6 none, Cond.fieldLink RX6 35 "KeptMoving$Spans" "latestEnd" "J", Cond.fieldLink RX6 44 "KeptMoving$Spans" "foundBegin" "J", Cond.fieldLink RX6 47 "KeptMoving$Spans" "foundEnd" "J", Cond.instanceMethod yX6_tell, Cond.selects RX6 yX6_tell yX6_tell, Cond.code yX6_tell cX6_tell 4 (some .int)]
def wsX8_near : List Cond := .code yX8_near cX8_near 8 (some .int) :: ((wsX8_near_r1 ++ (wsX8_near_r2 ++ (wsX8_near_r3 ++ (wsX8_near_r4 ++ (wsX8_near_r5 ++ (wsX8_near_r6 ++ wsX8_near_r7)))))) ++ wsX80 ++ wsX60 ++ wsX00 ++ wsX50 ++ wsX70)
def wsX8_keepFirst_r1 : List Cond := [Cond.fieldLink RX8 30 "KeptMoving" "scene" "LKeptMoving$Scene;", Cond.fieldLink RX8 44 "KeptMoving" "stretch" "LKeptMoving$Stretch;", Cond.fieldLink RX8 67 "KeptMoving" "came" "I", Cond.instanceMethod yX5_has, Cond.initialized RX5, Cond.selects RX5 yX5_has yX5_has, Cond.code yX5_has cX5_has 2 (some .boolean), Cond.fieldLink RX5 22 "KeptMoving$Scene" "size" "I", Cond.fieldLink RX5 9 "KeptMoving$Scene" "isThere" "[Z", Cond.instanceMethod yX7_keepNothing, Cond.initialized RX7, Cond.selects RX7 yX7_keepNothing yX7_keepNothing, Cond.code yX7_keepNothing cX7_keepNothing 1 none, Cond.fieldLink RX7 32 "KeptMoving$Stretch" "isNothing" "Z", Cond.instanceMethod yX5_gap, Cond.selects RX5 yX5_gap yX5_gap, Cond.code yX5_gap cX5_gap 3 (some .int), Cond.fieldLink RX5 15 "KeptMoving$Scene" "places" "[I", Cond.instanceMethod yX5_growth, Cond.selects RX5 yX5_growth yX5_growth, Cond.code yX5_growth cX5_growth 3 (some .int), Cond.fieldLink RX5 19 "KeptMoving$Scene" "speeds" "[I", Cond.instanceMethod yX7_keepAtMost, Cond.selects RX7 yX7_keepAtMost yX7_keepAtMost]
def wsX8_keepFirst_r2 : List Cond := [Cond.code yX7_keepAtMost cX7_keepAtMost 6 none, Cond.fieldLink RX7 7 "KeptMoving$Stretch" "from" "I", Cond.fieldLink RX7 29 "KeptMoving$Stretch" "end" "J", Cond.fieldLink RX7 26 "KeptMoving$Stretch" "begin" "J", Cond.static yX2_past, Cond.initialized RX2, Cond.code yX2_past cX2_past 3 (some .long), Cond.methodLink RX2 23 yX2_of, Cond.static yX2_of, Cond.code yX2_of cX2_of 3 (some .long), Cond.methodLink RX2 7 Lib.Math.abs.name, Cond.static Lib.Math.abs.name, Cond.initialized "java/lang/Math", Cond.code Lib.Math.abs.name Lib.Math.abs.code 1 (some .int), Cond.methodLink RX2 13 yX2_commonDivisor, Cond.static yX2_commonDivisor, Cond.code yX2_commonDivisor cX2_commonDivisor 6 (some .int), Cond.methodLink RX2 19 yX2_whole, Cond.static yX2_whole, Cond.code yX2_whole cX2_whole 1 (some .long), Cond.static yX2_compare, Cond.code yX2_compare cX2_compare 4 (some .int), Cond.methodLink RX2 29 yX2_upper, Cond.static yX2_upper]
def wsX8_keepFirst_r3 : List Cond := [Cond.code yX2_upper cX2_upper 2 (some .int), Cond.methodLink RX2 33 yX2_lower, Cond.static yX2_lower, Cond.code yX2_lower cX2_lower 2 (some .int), Cond.constantLong RX2 27 (255), Cond.methodLink RX2 36 yJ13_compare_74951, Cond.static yJ13_compare_74951, Cond.initialized RJ13, Cond.code yJ13_compare_74951 cJ13_compare_74951 4 (some .int), Cond.methodLink RX7 44 yX7_keepNothing]
def wsX8_keepFirst : List Cond := .code yX8_keepFirst cX8_keepFirst 3 none :: ((wsX8_keepFirst_r1 ++ (wsX8_keepFirst_r2 ++ wsX8_keepFirst_r3)) ++ wsX80 ++ wsX50 ++ wsX70)
def wsX8_first_r1 : List Cond := [Cond.constant RX8 83 (-100001), Cond.constant RX8 66 (-100002), Cond.fieldLink RX8 58 "KeptMoving" "spans" "LKeptMoving$Spans;", Cond.fieldLink RX8 189 "KeptMoving" "bendCount" "I", Cond.fieldLink RX8 44 "KeptMoving" "stretch" "LKeptMoving$Stretch;", Cond.methodLink RX8 79 yX8_isKnown, Cond.instanceMethod yX8_isKnown, Cond.selects RX8 yX8_isKnown yX8_isKnown, Cond.initialized RX8, Cond.code yX8_isKnown cX8_isKnown 2 (some .boolean), Cond.fieldLink RX8 67 "KeptMoving" "came" "I", Cond.methodLink RX8 180 yX8_isSpanAsked, Cond.static yX8_isSpanAsked, Cond.code yX8_isSpanAsked cX8_isSpanAsked 2 (some .boolean), Cond.methodLink RX8 62 yX8_isFromTo, Cond.static yX8_isFromTo, Cond.code yX8_isFromTo cX8_isFromTo 3 (some .boolean), Cond.instanceMethod yX6_seek, Cond.initialized RX6, Cond.selects RX6 yX6_seek yX6_seek, Cond.code yX6_seek cX6_seek 2 none, Cond.fieldLink RX6 9 "KeptMoving$Spans" "sought" "I", Cond.fieldLink RX6 15 "KeptMoving$Spans" "size" "I", Cond.methodLink RX8 186 yX8_gatherBends]
def wsX8_first_r2 : List Cond := [Cond.instanceMethod yX8_gatherBends, Cond.selects RX8 yX8_gatherBends yX8_gatherBends, Cond.code yX8_gatherBends cX8_gatherBends 2 none, Cond.fieldLink RX8 23 "KeptMoving" "bends" "[I", Cond.methodLink RX8 226 yX8_nextBend, Cond.instanceMethod yX8_nextBend, Cond.selects RX8 yX8_nextBend yX8_nextBend, Cond.code yX8_nextBend cX8_nextBend 5 (some .int), Cond.fieldLink RX8 11 "KeptMoving" "courses" "[LKeptMoving$Course;", Cond.instanceMethod yX0_nextBend, Cond.initialized RX0, Cond.selects RX0 yX0_nextBend yX0_nextBend, Cond.code yX0_nextBend cX0_nextBend 5 (some .int), Cond.fieldLink RX0 21 "KeptMoving$Course" "pieces" "I", Cond.fieldLink RX0 9 "KeptMoving$Course" "starts" "[I", Cond.methodLink RX0 39 Lib.Math.min.name, Cond.static Lib.Math.min.name, Cond.initialized "java/lang/Math", Cond.code Lib.Math.min.name Lib.Math.min.code 2 (some .int), Cond.fieldLink RX0 25 "KeptMoving$Course" "stopped" "I", Cond.methodLink RX8 192 yX8_openStretch, Cond.instanceMethod yX8_openStretch, Cond.selects RX8 yX8_openStretch yX8_openStretch, Cond.code yX8_openStretch cX8_openStretch 2 none]
def wsX8_first_r3 : List Cond := [Cond.methodLink RX8 240 yX8_look, Cond.instanceMethod yX8_look, Cond.selects RX8 yX8_look yX8_look, Cond.code yX8_look cX8_look 3 none, Cond.fieldLink RX8 30 "KeptMoving" "scene" "LKeptMoving$Scene;", Cond.instanceMethod yX5_clear, Cond.initialized RX5, Cond.selects RX5 yX5_clear yX5_clear, Cond.code yX5_clear cX5_clear 1 none, Cond.fieldLink RX5 22 "KeptMoving$Scene" "size" "I", Cond.instanceMethod yX5_add, Cond.selects RX5 yX5_add yX5_add, Cond.code yX5_add cX5_add 3 none, Cond.fieldLink RX5 9 "KeptMoving$Scene" "isThere" "[Z", Cond.fieldLink RX5 15 "KeptMoving$Scene" "places" "[I", Cond.fieldLink RX5 19 "KeptMoving$Scene" "speeds" "[I", Cond.instanceMethod yX0_isThere, Cond.selects RX0 yX0_isThere yX0_isThere, Cond.code yX0_isThere cX0_isThere 3 (some .boolean), Cond.instanceMethod yX0_placeAt, Cond.selects RX0 yX0_placeAt yX0_placeAt, Cond.code yX0_placeAt cX0_placeAt 2 (some .int), Cond.methodLink RX0 36 yX0_upperAt, Cond.instanceMethod yX0_upperAt]
def wsX8_first_r4 : List Cond := [Cond.selects RX0 yX0_upperAt yX0_upperAt, Cond.code yX0_upperAt cX0_upperAt 4 (some .int), Cond.fieldLink RX0 15 "KeptMoving$Course" "places" "[I", Cond.fieldLink RX0 18 "KeptMoving$Course" "speeds" "[I", Cond.methodLink RX0 32 yX0_pieceAt, Cond.instanceMethod yX0_pieceAt, Cond.selects RX0 yX0_pieceAt yX0_pieceAt, Cond.code yX0_pieceAt cX0_pieceAt 5 (some .int), Cond.instanceMethod yX0_speedAt, Cond.selects RX0 yX0_speedAt yX0_speedAt, Cond.code yX0_speedAt cX0_speedAt 2 (some .int), Cond.instanceMethod yX7_open, Cond.initialized RX7, Cond.selects RX7 yX7_open yX7_open, Cond.code yX7_open cX7_open 3 none, Cond.fieldLink RX7 7 "KeptMoving$Stretch" "from" "I", Cond.fieldLink RX7 19 "KeptMoving$Stretch" "until" "J", Cond.static yX2_whole, Cond.initialized RX2, Cond.code yX2_whole cX2_whole 1 (some .long), Cond.methodLink RX7 23 yX7_keepAll, Cond.instanceMethod yX7_keepAll, Cond.selects RX7 yX7_keepAll yX7_keepAll, Cond.code yX7_keepAll cX7_keepAll 1 none]
def wsX8_first_r5 : List Cond := [Cond.fieldLink RX7 26 "KeptMoving$Stretch" "begin" "J", Cond.fieldLink RX7 29 "KeptMoving$Stretch" "end" "J", Cond.fieldLink RX7 32 "KeptMoving$Stretch" "isNothing" "Z", Cond.methodLink RX8 203 yX8_keepFirst, Cond.instanceMethod yX8_keepFirst, Cond.selects RX8 yX8_keepFirst yX8_keepFirst, Cond.code yX8_keepFirst cX8_keepFirst 3 none, Cond.instanceMethod yX5_has, Cond.selects RX5 yX5_has yX5_has, Cond.code yX5_has cX5_has 2 (some .boolean), Cond.instanceMethod yX7_keepNothing, Cond.selects RX7 yX7_keepNothing yX7_keepNothing, Cond.code yX7_keepNothing cX7_keepNothing 1 none, Cond.instanceMethod yX5_gap, Cond.selects RX5 yX5_gap yX5_gap, Cond.code yX5_gap cX5_gap 3 (some .int), Cond.instanceMethod yX5_growth, Cond.selects RX5 yX5_growth yX5_growth, Cond.code yX5_growth cX5_growth 3 (some .int), Cond.instanceMethod yX7_keepAtMost, Cond.selects RX7 yX7_keepAtMost yX7_keepAtMost, Cond.code yX7_keepAtMost cX7_keepAtMost 6 none, Cond.static yX2_past, Cond.code yX2_past cX2_past 3 (some .long)]
def wsX8_first_r6 : List Cond := [Cond.methodLink RX2 23 yX2_of, Cond.static yX2_of, Cond.code yX2_of cX2_of 3 (some .long), Cond.methodLink RX2 7 Lib.Math.abs.name, Cond.static Lib.Math.abs.name, Cond.code Lib.Math.abs.name Lib.Math.abs.code 1 (some .int), Cond.methodLink RX2 13 yX2_commonDivisor, Cond.static yX2_commonDivisor, Cond.code yX2_commonDivisor cX2_commonDivisor 6 (some .int), Cond.methodLink RX2 19 yX2_whole, Cond.static yX2_compare, Cond.code yX2_compare cX2_compare 4 (some .int), Cond.methodLink RX2 29 yX2_upper, Cond.static yX2_upper, Cond.code yX2_upper cX2_upper 2 (some .int), Cond.methodLink RX2 33 yX2_lower, Cond.static yX2_lower, Cond.code yX2_lower cX2_lower 2 (some .int), Cond.constantLong RX2 27 (255), Cond.methodLink RX2 36 yJ13_compare_74951, Cond.static yJ13_compare_74951, Cond.initialized RJ13, Cond.code yJ13_compare_74951 cJ13_compare_74951 4 (some .int), Cond.methodLink RX7 44 yX7_keepNothing]
def wsX8_first_r7 : List Cond := [Cond.instanceMethod yX6_addIfSo, Cond.selects RX6 yX6_addIfSo yX6_addIfSo, Cond.code yX6_addIfSo cX6_addIfSo 2 none, Cond.instanceMethod yX7_isSo, Cond.selects RX7 yX7_isSo yX7_isSo, Cond.code yX7_isSo cX7_isSo 2 (some .boolean), Cond.methodLink RX6 31 yX6_add, Cond.instanceMethod yX6_add, Cond.selects RX6 yX6_add yX6_add, Cond.code yX6_add cX6_add 6 none, Cond.fieldLink RX6 35 "KeptMoving$Spans" "latestEnd" "J", Cond.fieldLink RX6 44 "KeptMoving$Spans" "foundBegin" "J", Cond.fieldLink RX6 47 "KeptMoving$Spans" "foundEnd" "J", Cond.instanceMethod yX6_tell, Cond.selects RX6 yX6_tell yX6_tell, Cond.code yX6_tell cX6_tell 4 (some .int)]
def wsX8_first : List Cond := .code yX8_first cX8_first 6 (some .int) :: ((wsX8_first_r1 ++ (wsX8_first_r2 ++ (wsX8_first_r3 ++ (wsX8_first_r4 ++ (wsX8_first_r5 ++ (wsX8_first_r6 ++ wsX8_first_r7)))))) ++ wsX80 ++ wsX60 ++ wsX00 ++ wsX50 ++ wsX70)
def wsX8_isWindow : List Cond := .code yX8_isWindow cX8_isWindow 2 (some .boolean) :: ([.constant RX8 215 (-60000), .constant RX8 216 (60000)])
def wsX8_gatherCrowd_r1 : List Cond := [Cond.fieldLink RX8 51 "KeptMoving" "crowd" "LKeptMoving$Crowd;", Cond.fieldLink RX8 67 "KeptMoving" "came" "I", Cond.fieldLink RX8 30 "KeptMoving" "scene" "LKeptMoving$Scene;", Cond.fieldLink RX8 44 "KeptMoving" "stretch" "LKeptMoving$Stretch;", Cond.instanceMethod yX1_clear, Cond.initialized RX1, Cond.selects RX1 yX1_clear yX1_clear, Cond.code yX1_clear cX1_clear 1 none, Cond.fieldLink RX1 18 "KeptMoving$Crowd" "size" "I", Cond.instanceMethod yX5_has, Cond.initialized RX5, Cond.selects RX5 yX5_has yX5_has, Cond.code yX5_has cX5_has 2 (some .boolean), Cond.fieldLink RX5 22 "KeptMoving$Scene" "size" "I", Cond.fieldLink RX5 9 "KeptMoving$Scene" "isThere" "[Z", Cond.instanceMethod yX7_keepAll, Cond.initialized RX7, Cond.selects RX7 yX7_keepAll yX7_keepAll, Cond.code yX7_keepAll cX7_keepAll 1 none, Cond.fieldLink RX7 7 "KeptMoving$Stretch" "from" "I", Cond.fieldLink RX7 26 "KeptMoving$Stretch" "begin" "J", Cond.fieldLink RX7 19 "KeptMoving$Stretch" "until" "J", Cond.fieldLink RX7 29 "KeptMoving$Stretch" "end" "J", Cond.fieldLink RX7 32 "KeptMoving$Stretch" "isNothing" "Z"]
def wsX8_gatherCrowd_r2 : List Cond := [Cond.static yX2_whole, Cond.initialized RX2, Cond.code yX2_whole cX2_whole 1 (some .long), Cond.instanceMethod yX7_keepAtMost, Cond.selects RX7 yX7_keepAtMost yX7_keepAtMost, Cond.code yX7_keepAtMost cX7_keepAtMost 6 none, Cond.static yX2_past, Cond.code yX2_past cX2_past 3 (some .long), Cond.methodLink RX2 23 yX2_of, Cond.static yX2_of, Cond.code yX2_of cX2_of 3 (some .long), Cond.methodLink RX2 7 Lib.Math.abs.name, Cond.static Lib.Math.abs.name, Cond.initialized "java/lang/Math", Cond.code Lib.Math.abs.name Lib.Math.abs.code 1 (some .int), Cond.methodLink RX2 13 yX2_commonDivisor, Cond.static yX2_commonDivisor, Cond.code yX2_commonDivisor cX2_commonDivisor 6 (some .int), Cond.methodLink RX2 19 yX2_whole, Cond.static yX2_compare, Cond.code yX2_compare cX2_compare 4 (some .int), Cond.methodLink RX2 29 yX2_upper, Cond.static yX2_upper, Cond.code yX2_upper cX2_upper 2 (some .int)]
def wsX8_gatherCrowd_r3 : List Cond := [Cond.methodLink RX2 33 yX2_lower, Cond.static yX2_lower, Cond.code yX2_lower cX2_lower 2 (some .int), Cond.constantLong RX2 27 (255), Cond.methodLink RX2 36 yJ13_compare_74951, Cond.static yJ13_compare_74951, Cond.initialized RJ13, Cond.code yJ13_compare_74951 cJ13_compare_74951 4 (some .int), Cond.methodLink RX7 44 yX7_keepNothing, Cond.instanceMethod yX7_keepNothing, Cond.selects RX7 yX7_keepNothing yX7_keepNothing, Cond.code yX7_keepNothing cX7_keepNothing 1 none, Cond.instanceMethod yX1_addIfSo, Cond.selects RX1 yX1_addIfSo yX1_addIfSo, Cond.code yX1_addIfSo cX1_addIfSo 2 none, Cond.fieldLink RX1 9 "KeptMoving$Crowd" "begins" "[J", Cond.fieldLink RX1 15 "KeptMoving$Crowd" "ends" "[J", Cond.instanceMethod yX7_isSo, Cond.selects RX7 yX7_isSo yX7_isSo, Cond.code yX7_isSo cX7_isSo 2 (some .boolean), Cond.methodLink RX1 32 yX1_insert, Cond.instanceMethod yX1_insert, Cond.selects RX1 yX1_insert yX1_insert, Cond.code yX1_insert cX1_insert 5 none]
def wsX8_gatherCrowd : List Cond := .code yX8_gatherCrowd cX8_gatherCrowd 4 none :: ((wsX8_gatherCrowd_r1 ++ (wsX8_gatherCrowd_r2 ++ wsX8_gatherCrowd_r3)) ++ wsX80 ++ wsX50 ++ wsX10 ++ wsX70)
def wsX8_addCrowded_r1 : List Cond := [Cond.fieldLink RX8 51 "KeptMoving" "crowd" "LKeptMoving$Crowd;", Cond.fieldLink RX8 58 "KeptMoving" "spans" "LKeptMoving$Spans;", Cond.static yX2_compare, Cond.initialized RX2, Cond.code yX2_compare cX2_compare 4 (some .int), Cond.methodLink RX2 29 yX2_upper, Cond.static yX2_upper, Cond.code yX2_upper cX2_upper 2 (some .int), Cond.methodLink RX2 33 yX2_lower, Cond.static yX2_lower, Cond.code yX2_lower cX2_lower 2 (some .int), Cond.constantLong RX2 27 (255), Cond.methodLink RX2 36 yJ13_compare_74951, Cond.static yJ13_compare_74951, Cond.initialized RJ13, Cond.code yJ13_compare_74951 cJ13_compare_74951 4 (some .int), Cond.instanceMethod yX6_add, Cond.initialized RX6, Cond.selects RX6 yX6_add yX6_add, Cond.code yX6_add cX6_add 6 none, Cond.fieldLink RX6 15 "KeptMoving$Spans" "size" "I", Cond.fieldLink RX6 35 "KeptMoving$Spans" "latestEnd" "J", Cond.fieldLink RX6 9 "KeptMoving$Spans" "sought" "I", Cond.fieldLink RX6 44 "KeptMoving$Spans" "foundBegin" "J"]
def wsX8_addCrowded_r2 : List Cond := [Cond.fieldLink RX6 47 "KeptMoving$Spans" "foundEnd" "J"]
def wsX8_addCrowded : List Cond := .code yX8_addCrowded cX8_addCrowded 8 none :: ((wsX8_addCrowded_r1 ++ wsX8_addCrowded_r2) ++ wsX80 ++ wsX10 ++ wsX60)
def wsX8_within_r1 : List Cond := [Cond.constant RX8 66 (-100002), Cond.fieldLink RX8 58 "KeptMoving" "spans" "LKeptMoving$Spans;", Cond.fieldLink RX8 189 "KeptMoving" "bendCount" "I", Cond.methodLink RX8 206 yX8_isWindow, Cond.static yX8_isWindow, Cond.initialized RX8, Cond.code yX8_isWindow cX8_isWindow 2 (some .boolean), Cond.constant RX8 215 (-60000), Cond.constant RX8 216 (60000), Cond.methodLink RX8 62 yX8_isFromTo, Cond.static yX8_isFromTo, Cond.code yX8_isFromTo cX8_isFromTo 3 (some .boolean), Cond.methodLink RX8 180 yX8_isSpanAsked, Cond.static yX8_isSpanAsked, Cond.code yX8_isSpanAsked cX8_isSpanAsked 2 (some .boolean), Cond.instanceMethod yX6_seek, Cond.initialized RX6, Cond.selects RX6 yX6_seek yX6_seek, Cond.code yX6_seek cX6_seek 2 none, Cond.fieldLink RX6 9 "KeptMoving$Spans" "sought" "I", Cond.fieldLink RX6 15 "KeptMoving$Spans" "size" "I", Cond.methodLink RX8 186 yX8_gatherBends, Cond.instanceMethod yX8_gatherBends, Cond.selects RX8 yX8_gatherBends yX8_gatherBends]
def wsX8_within_r2 : List Cond := [Cond.code yX8_gatherBends cX8_gatherBends 2 none, Cond.fieldLink RX8 23 "KeptMoving" "bends" "[I", Cond.methodLink RX8 226 yX8_nextBend, Cond.instanceMethod yX8_nextBend, Cond.selects RX8 yX8_nextBend yX8_nextBend, Cond.code yX8_nextBend cX8_nextBend 5 (some .int), Cond.fieldLink RX8 67 "KeptMoving" "came" "I", Cond.fieldLink RX8 11 "KeptMoving" "courses" "[LKeptMoving$Course;", Cond.instanceMethod yX0_nextBend, Cond.initialized RX0, Cond.selects RX0 yX0_nextBend yX0_nextBend, Cond.code yX0_nextBend cX0_nextBend 5 (some .int), Cond.fieldLink RX0 21 "KeptMoving$Course" "pieces" "I", Cond.fieldLink RX0 9 "KeptMoving$Course" "starts" "[I", Cond.methodLink RX0 39 Lib.Math.min.name, Cond.static Lib.Math.min.name, Cond.initialized "java/lang/Math", Cond.code Lib.Math.min.name Lib.Math.min.code 2 (some .int), Cond.fieldLink RX0 25 "KeptMoving$Course" "stopped" "I", Cond.methodLink RX8 192 yX8_openStretch, Cond.instanceMethod yX8_openStretch, Cond.selects RX8 yX8_openStretch yX8_openStretch, Cond.code yX8_openStretch cX8_openStretch 2 none, Cond.fieldLink RX8 44 "KeptMoving" "stretch" "LKeptMoving$Stretch;"]
def wsX8_within_r3 : List Cond := [Cond.methodLink RX8 240 yX8_look, Cond.instanceMethod yX8_look, Cond.selects RX8 yX8_look yX8_look, Cond.code yX8_look cX8_look 3 none, Cond.fieldLink RX8 30 "KeptMoving" "scene" "LKeptMoving$Scene;", Cond.instanceMethod yX5_clear, Cond.initialized RX5, Cond.selects RX5 yX5_clear yX5_clear, Cond.code yX5_clear cX5_clear 1 none, Cond.fieldLink RX5 22 "KeptMoving$Scene" "size" "I", Cond.instanceMethod yX5_add, Cond.selects RX5 yX5_add yX5_add, Cond.code yX5_add cX5_add 3 none, Cond.fieldLink RX5 9 "KeptMoving$Scene" "isThere" "[Z", Cond.fieldLink RX5 15 "KeptMoving$Scene" "places" "[I", Cond.fieldLink RX5 19 "KeptMoving$Scene" "speeds" "[I", Cond.instanceMethod yX0_isThere, Cond.selects RX0 yX0_isThere yX0_isThere, Cond.code yX0_isThere cX0_isThere 3 (some .boolean), Cond.instanceMethod yX0_placeAt, Cond.selects RX0 yX0_placeAt yX0_placeAt, Cond.code yX0_placeAt cX0_placeAt 2 (some .int), Cond.methodLink RX0 36 yX0_upperAt, Cond.instanceMethod yX0_upperAt]
def wsX8_within_r4 : List Cond := [Cond.selects RX0 yX0_upperAt yX0_upperAt, Cond.code yX0_upperAt cX0_upperAt 4 (some .int), Cond.fieldLink RX0 15 "KeptMoving$Course" "places" "[I", Cond.fieldLink RX0 18 "KeptMoving$Course" "speeds" "[I", Cond.methodLink RX0 32 yX0_pieceAt, Cond.instanceMethod yX0_pieceAt, Cond.selects RX0 yX0_pieceAt yX0_pieceAt, Cond.code yX0_pieceAt cX0_pieceAt 5 (some .int), Cond.instanceMethod yX0_speedAt, Cond.selects RX0 yX0_speedAt yX0_speedAt, Cond.code yX0_speedAt cX0_speedAt 2 (some .int), Cond.instanceMethod yX7_open, Cond.initialized RX7, Cond.selects RX7 yX7_open yX7_open, Cond.code yX7_open cX7_open 3 none, Cond.fieldLink RX7 7 "KeptMoving$Stretch" "from" "I", Cond.fieldLink RX7 19 "KeptMoving$Stretch" "until" "J", Cond.static yX2_whole, Cond.initialized RX2, Cond.code yX2_whole cX2_whole 1 (some .long), Cond.methodLink RX7 23 yX7_keepAll, Cond.instanceMethod yX7_keepAll, Cond.selects RX7 yX7_keepAll yX7_keepAll, Cond.code yX7_keepAll cX7_keepAll 1 none]
def wsX8_within_r5 : List Cond := [Cond.fieldLink RX7 26 "KeptMoving$Stretch" "begin" "J", Cond.fieldLink RX7 29 "KeptMoving$Stretch" "end" "J", Cond.fieldLink RX7 32 "KeptMoving$Stretch" "isNothing" "Z", Cond.methodLink RX8 209 yX8_gatherCrowd, Cond.instanceMethod yX8_gatherCrowd, Cond.selects RX8 yX8_gatherCrowd yX8_gatherCrowd, Cond.code yX8_gatherCrowd cX8_gatherCrowd 4 none, Cond.fieldLink RX8 51 "KeptMoving" "crowd" "LKeptMoving$Crowd;", Cond.instanceMethod yX1_clear, Cond.initialized RX1, Cond.selects RX1 yX1_clear yX1_clear, Cond.code yX1_clear cX1_clear 1 none, Cond.fieldLink RX1 18 "KeptMoving$Crowd" "size" "I", Cond.instanceMethod yX5_has, Cond.selects RX5 yX5_has yX5_has, Cond.code yX5_has cX5_has 2 (some .boolean), Cond.instanceMethod yX7_keepAtMost, Cond.selects RX7 yX7_keepAtMost yX7_keepAtMost, Cond.code yX7_keepAtMost cX7_keepAtMost 6 none, Cond.static yX2_past, Cond.code yX2_past cX2_past 3 (some .long), Cond.methodLink RX2 23 yX2_of, Cond.static yX2_of, Cond.code yX2_of cX2_of 3 (some .long)]
def wsX8_within_r6 : List Cond := [Cond.methodLink RX2 7 Lib.Math.abs.name, Cond.static Lib.Math.abs.name, Cond.code Lib.Math.abs.name Lib.Math.abs.code 1 (some .int), Cond.methodLink RX2 13 yX2_commonDivisor, Cond.static yX2_commonDivisor, Cond.code yX2_commonDivisor cX2_commonDivisor 6 (some .int), Cond.methodLink RX2 19 yX2_whole, Cond.static yX2_compare, Cond.code yX2_compare cX2_compare 4 (some .int), Cond.methodLink RX2 29 yX2_upper, Cond.static yX2_upper, Cond.code yX2_upper cX2_upper 2 (some .int), Cond.methodLink RX2 33 yX2_lower, Cond.static yX2_lower, Cond.code yX2_lower cX2_lower 2 (some .int), Cond.constantLong RX2 27 (255), Cond.methodLink RX2 36 yJ13_compare_74951, Cond.static yJ13_compare_74951, Cond.initialized RJ13, Cond.code yJ13_compare_74951 cJ13_compare_74951 4 (some .int), Cond.methodLink RX7 44 yX7_keepNothing, Cond.instanceMethod yX7_keepNothing, Cond.selects RX7 yX7_keepNothing yX7_keepNothing, Cond.code yX7_keepNothing cX7_keepNothing 1 none]
def wsX8_within_r7 : List Cond := [Cond.instanceMethod yX1_addIfSo, Cond.selects RX1 yX1_addIfSo yX1_addIfSo, Cond.code yX1_addIfSo cX1_addIfSo 2 none, Cond.fieldLink RX1 9 "KeptMoving$Crowd" "begins" "[J", Cond.fieldLink RX1 15 "KeptMoving$Crowd" "ends" "[J", Cond.instanceMethod yX7_isSo, Cond.selects RX7 yX7_isSo yX7_isSo, Cond.code yX7_isSo cX7_isSo 2 (some .boolean), Cond.methodLink RX1 32 yX1_insert, Cond.instanceMethod yX1_insert, Cond.selects RX1 yX1_insert yX1_insert, Cond.code yX1_insert cX1_insert 5 none, Cond.methodLink RX8 212 yX8_addCrowded, Cond.instanceMethod yX8_addCrowded, Cond.selects RX8 yX8_addCrowded yX8_addCrowded, Cond.code yX8_addCrowded cX8_addCrowded 8 none, Cond.instanceMethod yX6_add, Cond.selects RX6 yX6_add yX6_add, Cond.code yX6_add cX6_add 6 none, Cond.fieldLink RX6 35 "KeptMoving$Spans" "latestEnd" "J", Cond.fieldLink RX6 44 "KeptMoving$Spans" "foundBegin" "J", Cond.fieldLink RX6 47 "KeptMoving$Spans" "foundEnd" "J", Cond.instanceMethod yX6_tell, Cond.selects RX6 yX6_tell yX6_tell]
def wsX8_within_r8 : List Cond := [Cond.code yX6_tell cX6_tell 4 (some .int)]
def wsX8_within : List Cond := .code yX8_within cX8_within 8 (some .int) :: ((wsX8_within_r1 ++ (wsX8_within_r2 ++ (wsX8_within_r3 ++ (wsX8_within_r4 ++ (wsX8_within_r5 ++ (wsX8_within_r6 ++ (wsX8_within_r7 ++ wsX8_within_r8))))))) ++ wsX80 ++ wsX60 ++ wsX00 ++ wsX50 ++ wsX70 ++ wsX10)
def wsX9_init : List Cond := .code yX9_init cX9_init 1 none :: ([.methodLink RX9 1 objectInit, .instanceMethod objectInit, .code objectInit ⟨#[0xb1]⟩ 1 none, .arrayClass .int, .fieldLink RX9 7 "KeptMovingModel" "goneAt" "[I", .fieldLink RX9 13 "KeptMovingModel" "pieces" "[I", .fieldLink RX9 16 "KeptMovingModel" "begins" "[I", .fieldLink RX9 19 "KeptMovingModel" "places" "[I", .fieldLink RX9 22 "KeptMovingModel" "speeds" "[I", .fieldLink RX9 25 "KeptMovingModel" "row" "[I", .arrayClass .long, .fieldLink RX9 28 "KeptMovingModel" "meetN" "[J", .fieldLink RX9 32 "KeptMovingModel" "meetD" "[J", .fieldLink RX9 35 "KeptMovingModel" "meetI" "[I", .fieldLink RX9 38 "KeptMovingModel" "meetJ" "[I", .arrayClass .boolean, .fieldLink RX9 41 "KeptMovingModel" "isPass" "[Z", .fieldLink RX9 45 "KeptMovingModel" "timeN" "[J", .fieldLink RX9 48 "KeptMovingModel" "timeD" "[J", .fieldLink RX9 51 "KeptMovingModel" "spanN" "[J", .fieldLink RX9 54 "KeptMovingModel" "spanD" "[J"] ++ wsX90)
def wsX9_in : List Cond := .code yX9_in cX9_in 6 (some .boolean) :: ([])
def wsX9_isPoint : List Cond := .code yX9_isPoint cX9_isPoint 2 (some .boolean) :: ([.fieldLink RX9 57 "KeptMovingModel" "points" "I", .methodLink RX9 61 yX9_in, .static yX9_in, .initialized RX9, .code yX9_in cX9_in 6 (some .boolean)] ++ wsX90)
def wsX9_point : List Cond := .code yX9_point cX9_point 4 (some .int) :: ([.constantLong RX9 65 (-1000), .constantLong RX9 67 (1000), .constantLong RX9 69 (-50), .constantLong RX9 71 (50), .constant RX9 73 (-100002), .fieldLink RX9 57 "KeptMovingModel" "points" "I", .constant RX9 74 (-100004), .fieldLink RX9 7 "KeptMovingModel" "goneAt" "[I", .fieldLink RX9 13 "KeptMovingModel" "pieces" "[I", .fieldLink RX9 16 "KeptMovingModel" "begins" "[I", .fieldLink RX9 75 "KeptMovingModel" "now" "I", .fieldLink RX9 19 "KeptMovingModel" "places" "[I", .fieldLink RX9 22 "KeptMovingModel" "speeds" "[I", .methodLink RX9 61 yX9_in, .static yX9_in, .initialized RX9, .code yX9_in cX9_in 6 (some .boolean)] ++ wsX90)
def wsX9_latest : List Cond := .code yX9_latest cX9_latest 2 (some .int) :: ([.fieldLink RX9 13 "KeptMovingModel" "pieces" "[I"] ++ wsX90)
def wsX9_speed_r1 : List Cond := [Cond.constant RX9 82 (-100001), Cond.constantLong RX9 69 (-50), Cond.constantLong RX9 71 (50), Cond.constant RX9 73 (-100002), Cond.fieldLink RX9 7 "KeptMovingModel" "goneAt" "[I", Cond.constant RX9 83 (-100003), Cond.fieldLink RX9 22 "KeptMovingModel" "speeds" "[I", Cond.fieldLink RX9 16 "KeptMovingModel" "begins" "[I", Cond.fieldLink RX9 75 "KeptMovingModel" "now" "I", Cond.fieldLink RX9 13 "KeptMovingModel" "pieces" "[I", Cond.constant RX9 74 (-100004), Cond.fieldLink RX9 19 "KeptMovingModel" "places" "[I", Cond.methodLink RX9 78 yX9_isPoint, Cond.instanceMethod yX9_isPoint, Cond.selects RX9 yX9_isPoint yX9_isPoint, Cond.initialized RX9, Cond.code yX9_isPoint cX9_isPoint 2 (some .boolean), Cond.fieldLink RX9 57 "KeptMovingModel" "points" "I", Cond.methodLink RX9 61 yX9_in, Cond.static yX9_in, Cond.code yX9_in cX9_in 6 (some .boolean), Cond.methodLink RX9 84 yX9_latest, Cond.instanceMethod yX9_latest, Cond.selects RX9 yX9_latest yX9_latest]
def wsX9_speed_r2 : List Cond := [Cond.code yX9_latest cX9_latest 2 (some .int)]
def wsX9_speed : List Cond := .code yX9_speed cX9_speed 5 (some .int) :: ((wsX9_speed_r1 ++ wsX9_speed_r2) ++ wsX90)
def wsX9_gone : List Cond := .code yX9_gone cX9_gone 2 (some .int) :: ([.constant RX9 82 (-100001), .fieldLink RX9 7 "KeptMovingModel" "goneAt" "[I", .fieldLink RX9 16 "KeptMovingModel" "begins" "[I", .fieldLink RX9 75 "KeptMovingModel" "now" "I", .constant RX9 83 (-100003), .methodLink RX9 78 yX9_isPoint, .instanceMethod yX9_isPoint, .selects RX9 yX9_isPoint yX9_isPoint, .initialized RX9, .code yX9_isPoint cX9_isPoint 2 (some .boolean), .fieldLink RX9 57 "KeptMovingModel" "points" "I", .methodLink RX9 61 yX9_in, .static yX9_in, .code yX9_in cX9_in 6 (some .boolean)] ++ wsX90)
def wsX9_go : List Cond := .code yX9_go cX9_go 2 (some .int) :: ([.constantLong RX9 88 (100), .constant RX9 73 (-100002), .fieldLink RX9 75 "KeptMovingModel" "now" "I", .constant RX9 83 (-100003), .methodLink RX9 61 yX9_in, .static yX9_in, .initialized RX9, .code yX9_in cX9_in 6 (some .boolean)] ++ wsX90)
def wsX9_back : List Cond := .code yX9_back cX9_back 3 (some .int) :: ([.constantLong RX9 88 (100), .constant RX9 73 (-100002), .fieldLink RX9 75 "KeptMovingModel" "now" "I", .constant RX9 83 (-100003), .fieldLink RX9 57 "KeptMovingModel" "points" "I", .fieldLink RX9 16 "KeptMovingModel" "begins" "[I", .fieldLink RX9 13 "KeptMovingModel" "pieces" "[I", .fieldLink RX9 7 "KeptMovingModel" "goneAt" "[I", .methodLink RX9 61 yX9_in, .static yX9_in, .initialized RX9, .code yX9_in cX9_in 6 (some .boolean), .methodLink RX9 84 yX9_latest, .instanceMethod yX9_latest, .selects RX9 yX9_latest yX9_latest, .code yX9_latest cX9_latest 2 (some .int)] ++ wsX90)
def wsX9_isThere : List Cond := .code yX9_isThere cX9_isThere 6 (some .boolean) :: ([.fieldLink RX9 16 "KeptMovingModel" "begins" "[I", .fieldLink RX9 7 "KeptMovingModel" "goneAt" "[I"] ++ wsX90)
def wsX9_thereNow : List Cond := .code yX9_thereNow cX9_thereNow 3 (some .int) :: ([.fieldLink RX9 57 "KeptMovingModel" "points" "I", .fieldLink RX9 75 "KeptMovingModel" "now" "I", .methodLink RX9 90 yX9_isThere, .instanceMethod yX9_isThere, .selects RX9 yX9_isThere yX9_isThere, .initialized RX9, .code yX9_isThere cX9_isThere 6 (some .boolean), .fieldLink RX9 16 "KeptMovingModel" "begins" "[I", .fieldLink RX9 7 "KeptMovingModel" "goneAt" "[I"] ++ wsX90)
def wsX9_most : List Cond := .code yX9_most cX9_most 2 (some .int) :: ([])
def wsX9_least : List Cond := .code yX9_least cX9_least 2 (some .int) :: ([])
def wsX9_endOf : List Cond := .code yX9_endOf cX9_endOf 4 (some .int) :: ([.fieldLink RX9 16 "KeptMovingModel" "begins" "[I", .constant RX9 142 (1000000000), .fieldLink RX9 7 "KeptMovingModel" "goneAt" "[I", .methodLink RX9 84 yX9_latest, .instanceMethod yX9_latest, .selects RX9 yX9_latest yX9_latest, .initialized RX9, .code yX9_latest cX9_latest 2 (some .int), .fieldLink RX9 13 "KeptMovingModel" "pieces" "[I", .methodLink RX9 143 yX9_least, .static yX9_least, .code yX9_least cX9_least 2 (some .int)] ++ wsX90)
def wsX9_isThereBoth : List Cond := .code yX9_isThereBoth cX9_isThereBoth 7 (some .boolean) :: ([.methodLink RX9 90 yX9_isThere, .instanceMethod yX9_isThere, .selects RX9 yX9_isThere yX9_isThere, .initialized RX9, .code yX9_isThere cX9_isThere 6 (some .boolean), .fieldLink RX9 16 "KeptMovingModel" "begins" "[I", .fieldLink RX9 7 "KeptMovingModel" "goneAt" "[I"] ++ wsX90)
def wsX9_common : List Cond := .code yX9_common cX9_common 10 (some .long) :: ([])
def wsX9_slopeBehind : List Cond := .code yX9_slopeBehind cX9_slopeBehind 7 (some .int) :: ([.fieldLink RX9 16 "KeptMovingModel" "begins" "[I", .fieldLink RX9 22 "KeptMovingModel" "speeds" "[I", .methodLink RX9 84 yX9_latest, .instanceMethod yX9_latest, .selects RX9 yX9_latest yX9_latest, .initialized RX9, .code yX9_latest cX9_latest 2 (some .int), .fieldLink RX9 13 "KeptMovingModel" "pieces" "[I"] ++ wsX90)
def wsX9_addMeeting : List Cond := .code yX9_addMeeting cX9_addMeeting 9 none :: ([.fieldLink RX9 97 "KeptMovingModel" "meetings" "I", .fieldLink RX9 32 "KeptMovingModel" "meetD" "[J", .fieldLink RX9 28 "KeptMovingModel" "meetN" "[J", .fieldLink RX9 35 "KeptMovingModel" "meetI" "[I", .fieldLink RX9 38 "KeptMovingModel" "meetJ" "[I", .fieldLink RX9 41 "KeptMovingModel" "isPass" "[Z"] ++ wsX90)
def wsX9_meet_r1 : List Cond := [Cond.fieldLink RX9 16 "KeptMovingModel" "begins" "[I", Cond.fieldLink RX9 22 "KeptMovingModel" "speeds" "[I", Cond.fieldLink RX9 19 "KeptMovingModel" "places" "[I", Cond.methodLink RX9 147 yX9_most, Cond.static yX9_most, Cond.initialized RX9, Cond.code yX9_most cX9_most 2 (some .int), Cond.methodLink RX9 150 yX9_endOf, Cond.instanceMethod yX9_endOf, Cond.selects RX9 yX9_endOf yX9_endOf, Cond.code yX9_endOf cX9_endOf 4 (some .int), Cond.constant RX9 142 (1000000000), Cond.fieldLink RX9 7 "KeptMovingModel" "goneAt" "[I", Cond.methodLink RX9 84 yX9_latest, Cond.instanceMethod yX9_latest, Cond.selects RX9 yX9_latest yX9_latest, Cond.code yX9_latest cX9_latest 2 (some .int), Cond.fieldLink RX9 13 "KeptMovingModel" "pieces" "[I", Cond.methodLink RX9 143 yX9_least, Cond.static yX9_least, Cond.code yX9_least cX9_least 2 (some .int), Cond.methodLink RX9 153 yX9_isThereBoth, Cond.instanceMethod yX9_isThereBoth, Cond.selects RX9 yX9_isThereBoth yX9_isThereBoth]
def wsX9_meet_r2 : List Cond := [Cond.code yX9_isThereBoth cX9_isThereBoth 7 (some .boolean), Cond.methodLink RX9 90 yX9_isThere, Cond.instanceMethod yX9_isThere, Cond.selects RX9 yX9_isThere yX9_isThere, Cond.code yX9_isThere cX9_isThere 6 (some .boolean), Cond.methodLink RX9 106 yX9_common, Cond.static yX9_common, Cond.code yX9_common cX9_common 10 (some .long), Cond.methodLink RX9 157 yX9_slopeBehind, Cond.instanceMethod yX9_slopeBehind, Cond.selects RX9 yX9_slopeBehind yX9_slopeBehind, Cond.code yX9_slopeBehind cX9_slopeBehind 7 (some .int), Cond.methodLink RX9 161 yX9_addMeeting, Cond.instanceMethod yX9_addMeeting, Cond.selects RX9 yX9_addMeeting yX9_addMeeting, Cond.code yX9_addMeeting cX9_addMeeting 9 none, Cond.fieldLink RX9 97 "KeptMovingModel" "meetings" "I", Cond.fieldLink RX9 32 "KeptMovingModel" "meetD" "[J", Cond.fieldLink RX9 28 "KeptMovingModel" "meetN" "[J", Cond.fieldLink RX9 35 "KeptMovingModel" "meetI" "[I", Cond.fieldLink RX9 38 "KeptMovingModel" "meetJ" "[I", Cond.fieldLink RX9 41 "KeptMovingModel" "isPass" "[Z"]
def wsX9_meet : List Cond := .code yX9_meet cX9_meet 19 none :: ((wsX9_meet_r1 ++ wsX9_meet_r2) ++ wsX90)
def wsX9_findMeetings_r1 : List Cond := [Cond.fieldLink RX9 97 "KeptMovingModel" "meetings" "I", Cond.fieldLink RX9 57 "KeptMovingModel" "points" "I", Cond.methodLink RX9 84 yX9_latest, Cond.instanceMethod yX9_latest, Cond.selects RX9 yX9_latest yX9_latest, Cond.initialized RX9, Cond.code yX9_latest cX9_latest 2 (some .int), Cond.fieldLink RX9 13 "KeptMovingModel" "pieces" "[I", Cond.methodLink RX9 165 yX9_meet, Cond.instanceMethod yX9_meet, Cond.selects RX9 yX9_meet yX9_meet, Cond.code yX9_meet cX9_meet 19 none, Cond.fieldLink RX9 16 "KeptMovingModel" "begins" "[I", Cond.fieldLink RX9 22 "KeptMovingModel" "speeds" "[I", Cond.fieldLink RX9 19 "KeptMovingModel" "places" "[I", Cond.methodLink RX9 147 yX9_most, Cond.static yX9_most, Cond.code yX9_most cX9_most 2 (some .int), Cond.methodLink RX9 150 yX9_endOf, Cond.instanceMethod yX9_endOf, Cond.selects RX9 yX9_endOf yX9_endOf, Cond.code yX9_endOf cX9_endOf 4 (some .int), Cond.constant RX9 142 (1000000000), Cond.fieldLink RX9 7 "KeptMovingModel" "goneAt" "[I"]
def wsX9_findMeetings_r2 : List Cond := [Cond.methodLink RX9 143 yX9_least, Cond.static yX9_least, Cond.code yX9_least cX9_least 2 (some .int), Cond.methodLink RX9 153 yX9_isThereBoth, Cond.instanceMethod yX9_isThereBoth, Cond.selects RX9 yX9_isThereBoth yX9_isThereBoth, Cond.code yX9_isThereBoth cX9_isThereBoth 7 (some .boolean), Cond.methodLink RX9 90 yX9_isThere, Cond.instanceMethod yX9_isThere, Cond.selects RX9 yX9_isThere yX9_isThere, Cond.code yX9_isThere cX9_isThere 6 (some .boolean), Cond.methodLink RX9 106 yX9_common, Cond.static yX9_common, Cond.code yX9_common cX9_common 10 (some .long), Cond.methodLink RX9 157 yX9_slopeBehind, Cond.instanceMethod yX9_slopeBehind, Cond.selects RX9 yX9_slopeBehind yX9_slopeBehind, Cond.code yX9_slopeBehind cX9_slopeBehind 7 (some .int), Cond.methodLink RX9 161 yX9_addMeeting, Cond.instanceMethod yX9_addMeeting, Cond.selects RX9 yX9_addMeeting yX9_addMeeting, Cond.code yX9_addMeeting cX9_addMeeting 9 none, Cond.fieldLink RX9 32 "KeptMovingModel" "meetD" "[J", Cond.fieldLink RX9 28 "KeptMovingModel" "meetN" "[J"]
def wsX9_findMeetings_r3 : List Cond := [Cond.fieldLink RX9 35 "KeptMovingModel" "meetI" "[I", Cond.fieldLink RX9 38 "KeptMovingModel" "meetJ" "[I", Cond.fieldLink RX9 41 "KeptMovingModel" "isPass" "[Z"]
def wsX9_findMeetings : List Cond := .code yX9_findMeetings cX9_findMeetings 5 none :: ((wsX9_findMeetings_r1 ++ (wsX9_findMeetings_r2 ++ wsX9_findMeetings_r3)) ++ wsX90)
def wsX9_count_r1 : List Cond := [Cond.fieldLink RX9 97 "KeptMovingModel" "meetings" "I", Cond.fieldLink RX9 28 "KeptMovingModel" "meetN" "[J", Cond.fieldLink RX9 75 "KeptMovingModel" "now" "I", Cond.fieldLink RX9 32 "KeptMovingModel" "meetD" "[J", Cond.fieldLink RX9 41 "KeptMovingModel" "isPass" "[Z", Cond.fieldLink RX9 57 "KeptMovingModel" "points" "I", Cond.constant RX9 73 (-100002), Cond.methodLink RX9 94 yX9_findMeetings, Cond.instanceMethod yX9_findMeetings, Cond.selects RX9 yX9_findMeetings yX9_findMeetings, Cond.initialized RX9, Cond.code yX9_findMeetings cX9_findMeetings 5 none, Cond.methodLink RX9 84 yX9_latest, Cond.instanceMethod yX9_latest, Cond.selects RX9 yX9_latest yX9_latest, Cond.code yX9_latest cX9_latest 2 (some .int), Cond.fieldLink RX9 13 "KeptMovingModel" "pieces" "[I", Cond.methodLink RX9 165 yX9_meet, Cond.instanceMethod yX9_meet, Cond.selects RX9 yX9_meet yX9_meet, Cond.code yX9_meet cX9_meet 19 none, Cond.fieldLink RX9 16 "KeptMovingModel" "begins" "[I", Cond.fieldLink RX9 22 "KeptMovingModel" "speeds" "[I", Cond.fieldLink RX9 19 "KeptMovingModel" "places" "[I"]
def wsX9_count_r2 : List Cond := [Cond.methodLink RX9 147 yX9_most, Cond.static yX9_most, Cond.code yX9_most cX9_most 2 (some .int), Cond.methodLink RX9 150 yX9_endOf, Cond.instanceMethod yX9_endOf, Cond.selects RX9 yX9_endOf yX9_endOf, Cond.code yX9_endOf cX9_endOf 4 (some .int), Cond.constant RX9 142 (1000000000), Cond.fieldLink RX9 7 "KeptMovingModel" "goneAt" "[I", Cond.methodLink RX9 143 yX9_least, Cond.static yX9_least, Cond.code yX9_least cX9_least 2 (some .int), Cond.methodLink RX9 153 yX9_isThereBoth, Cond.instanceMethod yX9_isThereBoth, Cond.selects RX9 yX9_isThereBoth yX9_isThereBoth, Cond.code yX9_isThereBoth cX9_isThereBoth 7 (some .boolean), Cond.methodLink RX9 90 yX9_isThere, Cond.instanceMethod yX9_isThere, Cond.selects RX9 yX9_isThere yX9_isThere, Cond.code yX9_isThere cX9_isThere 6 (some .boolean), Cond.methodLink RX9 106 yX9_common, Cond.static yX9_common, Cond.code yX9_common cX9_common 10 (some .long), Cond.methodLink RX9 157 yX9_slopeBehind]
def wsX9_count_r3 : List Cond := [Cond.instanceMethod yX9_slopeBehind, Cond.selects RX9 yX9_slopeBehind yX9_slopeBehind, Cond.code yX9_slopeBehind cX9_slopeBehind 7 (some .int), Cond.methodLink RX9 161 yX9_addMeeting, Cond.instanceMethod yX9_addMeeting, Cond.selects RX9 yX9_addMeeting yX9_addMeeting, Cond.code yX9_addMeeting cX9_addMeeting 9 none, Cond.fieldLink RX9 35 "KeptMovingModel" "meetI" "[I", Cond.fieldLink RX9 38 "KeptMovingModel" "meetJ" "[I", Cond.methodLink RX9 100 yX9_thereNow, Cond.instanceMethod yX9_thereNow, Cond.selects RX9 yX9_thereNow yX9_thereNow, Cond.code yX9_thereNow cX9_thereNow 3 (some .int)]
def wsX9_count : List Cond := .code yX9_count cX9_count 6 (some .int) :: ((wsX9_count_r1 ++ (wsX9_count_r2 ++ wsX9_count_r3)) ++ wsX90)
def wsX9_told : List Cond := .code yX9_told cX9_told 3 (some .int) :: ([.constant RX9 82 (-100001), .fieldLink RX9 16 "KeptMovingModel" "begins" "[I", .fieldLink RX9 7 "KeptMovingModel" "goneAt" "[I", .fieldLink RX9 13 "KeptMovingModel" "pieces" "[I", .fieldLink RX9 22 "KeptMovingModel" "speeds" "[I", .constant RX9 73 (-100002), .methodLink RX9 78 yX9_isPoint, .instanceMethod yX9_isPoint, .selects RX9 yX9_isPoint yX9_isPoint, .initialized RX9, .code yX9_isPoint cX9_isPoint 2 (some .boolean), .fieldLink RX9 57 "KeptMovingModel" "points" "I", .methodLink RX9 61 yX9_in, .static yX9_in, .code yX9_in cX9_in 6 (some .boolean), .methodLink RX9 84 yX9_latest, .instanceMethod yX9_latest, .selects RX9 yX9_latest yX9_latest, .code yX9_latest cX9_latest 2 (some .int)] ++ wsX90)
def wsX9_isMoment : List Cond := .code yX9_isMoment cX9_isMoment 2 (some .boolean) :: ([.constantLong RX9 104 (200), .methodLink RX9 61 yX9_in, .static yX9_in, .initialized RX9, .code yX9_in cX9_in 6 (some .boolean)])
def wsX9_placeAt : List Cond := .code yX9_placeAt cX9_placeAt 7 (some .long) :: ([.fieldLink RX9 16 "KeptMovingModel" "begins" "[I", .fieldLink RX9 19 "KeptMovingModel" "places" "[I", .fieldLink RX9 22 "KeptMovingModel" "speeds" "[I", .methodLink RX9 84 yX9_latest, .instanceMethod yX9_latest, .selects RX9 yX9_latest yX9_latest, .initialized RX9, .code yX9_latest cX9_latest 2 (some .int), .fieldLink RX9 13 "KeptMovingModel" "pieces" "[I"] ++ wsX90)
def wsX9_share : List Cond := .code yX9_share cX9_share 7 (some .long) :: ([.methodLink RX9 106 yX9_common, .static yX9_common, .initialized RX9, .code yX9_common cX9_common 10 (some .long)])
def wsX9_place_r1 : List Cond := [Cond.constantLong RX9 110 (-100001), Cond.constantLong RX9 116 (-100002), Cond.constantLong RX9 126 (-100003), Cond.methodLink RX9 78 yX9_isPoint, Cond.instanceMethod yX9_isPoint, Cond.selects RX9 yX9_isPoint yX9_isPoint, Cond.initialized RX9, Cond.code yX9_isPoint cX9_isPoint 2 (some .boolean), Cond.fieldLink RX9 57 "KeptMovingModel" "points" "I", Cond.methodLink RX9 61 yX9_in, Cond.static yX9_in, Cond.code yX9_in cX9_in 6 (some .boolean), Cond.methodLink RX9 112 yX9_isMoment, Cond.static yX9_isMoment, Cond.code yX9_isMoment cX9_isMoment 2 (some .boolean), Cond.constantLong RX9 104 (200), Cond.methodLink RX9 90 yX9_isThere, Cond.instanceMethod yX9_isThere, Cond.selects RX9 yX9_isThere yX9_isThere, Cond.code yX9_isThere cX9_isThere 6 (some .boolean), Cond.fieldLink RX9 16 "KeptMovingModel" "begins" "[I", Cond.fieldLink RX9 7 "KeptMovingModel" "goneAt" "[I", Cond.methodLink RX9 118 yX9_placeAt, Cond.instanceMethod yX9_placeAt]
def wsX9_place_r2 : List Cond := [Cond.selects RX9 yX9_placeAt yX9_placeAt, Cond.code yX9_placeAt cX9_placeAt 7 (some .long), Cond.fieldLink RX9 19 "KeptMovingModel" "places" "[I", Cond.fieldLink RX9 22 "KeptMovingModel" "speeds" "[I", Cond.methodLink RX9 84 yX9_latest, Cond.instanceMethod yX9_latest, Cond.selects RX9 yX9_latest yX9_latest, Cond.code yX9_latest cX9_latest 2 (some .int), Cond.fieldLink RX9 13 "KeptMovingModel" "pieces" "[I", Cond.methodLink RX9 122 yX9_share, Cond.static yX9_share, Cond.code yX9_share cX9_share 7 (some .long), Cond.methodLink RX9 106 yX9_common, Cond.static yX9_common, Cond.code yX9_common cX9_common 10 (some .long)]
def wsX9_place : List Cond := .code yX9_place cX9_place 5 (some .long) :: ((wsX9_place_r1 ++ wsX9_place_r2) ++ wsX90)
def wsX9_findOrder : List Cond := .code yX9_findOrder cX9_findOrder 7 none :: ([.fieldLink RX9 128 "KeptMovingModel" "rowMany" "I", .fieldLink RX9 57 "KeptMovingModel" "points" "I", .fieldLink RX9 25 "KeptMovingModel" "row" "[I", .methodLink RX9 90 yX9_isThere, .instanceMethod yX9_isThere, .selects RX9 yX9_isThere yX9_isThere, .initialized RX9, .code yX9_isThere cX9_isThere 6 (some .boolean), .fieldLink RX9 16 "KeptMovingModel" "begins" "[I", .fieldLink RX9 7 "KeptMovingModel" "goneAt" "[I", .methodLink RX9 118 yX9_placeAt, .instanceMethod yX9_placeAt, .selects RX9 yX9_placeAt yX9_placeAt, .code yX9_placeAt cX9_placeAt 7 (some .long), .fieldLink RX9 19 "KeptMovingModel" "places" "[I", .fieldLink RX9 22 "KeptMovingModel" "speeds" "[I", .methodLink RX9 84 yX9_latest, .instanceMethod yX9_latest, .selects RX9 yX9_latest yX9_latest, .code yX9_latest cX9_latest 2 (some .int), .fieldLink RX9 13 "KeptMovingModel" "pieces" "[I"] ++ wsX90)
def wsX9_rowAt : List Cond := .code yX9_rowAt cX9_rowAt 2 (some .int) :: ([.fieldLink RX9 128 "KeptMovingModel" "rowMany" "I", .fieldLink RX9 25 "KeptMovingModel" "row" "[I", .methodLink RX9 61 yX9_in, .static yX9_in, .initialized RX9, .code yX9_in cX9_in 6 (some .boolean)] ++ wsX90)
def wsX9_order_r1 : List Cond := [Cond.constant RX9 73 (-100002), Cond.methodLink RX9 112 yX9_isMoment, Cond.static yX9_isMoment, Cond.initialized RX9, Cond.code yX9_isMoment cX9_isMoment 2 (some .boolean), Cond.constantLong RX9 104 (200), Cond.methodLink RX9 61 yX9_in, Cond.static yX9_in, Cond.code yX9_in cX9_in 6 (some .boolean), Cond.methodLink RX9 131 yX9_findOrder, Cond.instanceMethod yX9_findOrder, Cond.selects RX9 yX9_findOrder yX9_findOrder, Cond.code yX9_findOrder cX9_findOrder 7 none, Cond.fieldLink RX9 128 "KeptMovingModel" "rowMany" "I", Cond.fieldLink RX9 57 "KeptMovingModel" "points" "I", Cond.fieldLink RX9 25 "KeptMovingModel" "row" "[I", Cond.methodLink RX9 90 yX9_isThere, Cond.instanceMethod yX9_isThere, Cond.selects RX9 yX9_isThere yX9_isThere, Cond.code yX9_isThere cX9_isThere 6 (some .boolean), Cond.fieldLink RX9 16 "KeptMovingModel" "begins" "[I", Cond.fieldLink RX9 7 "KeptMovingModel" "goneAt" "[I", Cond.methodLink RX9 118 yX9_placeAt, Cond.instanceMethod yX9_placeAt]
def wsX9_order_r2 : List Cond := [Cond.selects RX9 yX9_placeAt yX9_placeAt, Cond.code yX9_placeAt cX9_placeAt 7 (some .long), Cond.fieldLink RX9 19 "KeptMovingModel" "places" "[I", Cond.fieldLink RX9 22 "KeptMovingModel" "speeds" "[I", Cond.methodLink RX9 84 yX9_latest, Cond.instanceMethod yX9_latest, Cond.selects RX9 yX9_latest yX9_latest, Cond.code yX9_latest cX9_latest 2 (some .int), Cond.fieldLink RX9 13 "KeptMovingModel" "pieces" "[I", Cond.methodLink RX9 135 yX9_rowAt, Cond.instanceMethod yX9_rowAt, Cond.selects RX9 yX9_rowAt yX9_rowAt, Cond.code yX9_rowAt cX9_rowAt 2 (some .int)]
def wsX9_order : List Cond := .code yX9_order cX9_order 4 (some .int) :: ((wsX9_order_r1 ++ wsX9_order_r2) ++ wsX90)
def wsX9_kept_r1 : List Cond := [Cond.fieldLink RX9 75 "KeptMovingModel" "now" "I", Cond.methodLink RX9 131 yX9_findOrder, Cond.instanceMethod yX9_findOrder, Cond.selects RX9 yX9_findOrder yX9_findOrder, Cond.initialized RX9, Cond.code yX9_findOrder cX9_findOrder 7 none, Cond.fieldLink RX9 128 "KeptMovingModel" "rowMany" "I", Cond.fieldLink RX9 57 "KeptMovingModel" "points" "I", Cond.fieldLink RX9 25 "KeptMovingModel" "row" "[I", Cond.methodLink RX9 90 yX9_isThere, Cond.instanceMethod yX9_isThere, Cond.selects RX9 yX9_isThere yX9_isThere, Cond.code yX9_isThere cX9_isThere 6 (some .boolean), Cond.fieldLink RX9 16 "KeptMovingModel" "begins" "[I", Cond.fieldLink RX9 7 "KeptMovingModel" "goneAt" "[I", Cond.methodLink RX9 118 yX9_placeAt, Cond.instanceMethod yX9_placeAt, Cond.selects RX9 yX9_placeAt yX9_placeAt, Cond.code yX9_placeAt cX9_placeAt 7 (some .long), Cond.fieldLink RX9 19 "KeptMovingModel" "places" "[I", Cond.fieldLink RX9 22 "KeptMovingModel" "speeds" "[I", Cond.methodLink RX9 84 yX9_latest, Cond.instanceMethod yX9_latest, Cond.selects RX9 yX9_latest yX9_latest]
def wsX9_kept_r2 : List Cond := [Cond.code yX9_latest cX9_latest 2 (some .int), Cond.fieldLink RX9 13 "KeptMovingModel" "pieces" "[I", Cond.methodLink RX9 135 yX9_rowAt, Cond.instanceMethod yX9_rowAt, Cond.selects RX9 yX9_rowAt yX9_rowAt, Cond.code yX9_rowAt cX9_rowAt 2 (some .int), Cond.methodLink RX9 61 yX9_in, Cond.static yX9_in, Cond.code yX9_in cX9_in 6 (some .boolean)]
def wsX9_kept : List Cond := .code yX9_kept cX9_kept 2 (some .int) :: ((wsX9_kept_r1 ++ wsX9_kept_r2) ++ wsX90)
def wsX9_at_r1 : List Cond := [Cond.constantLong RX9 138 (4), Cond.constantLong RX9 140 (2000), Cond.constant RX9 73 (-100002), Cond.fieldLink RX9 128 "KeptMovingModel" "rowMany" "I", Cond.fieldLink RX9 25 "KeptMovingModel" "row" "[I", Cond.methodLink RX9 112 yX9_isMoment, Cond.static yX9_isMoment, Cond.initialized RX9, Cond.code yX9_isMoment cX9_isMoment 2 (some .boolean), Cond.constantLong RX9 104 (200), Cond.methodLink RX9 61 yX9_in, Cond.static yX9_in, Cond.code yX9_in cX9_in 6 (some .boolean), Cond.methodLink RX9 131 yX9_findOrder, Cond.instanceMethod yX9_findOrder, Cond.selects RX9 yX9_findOrder yX9_findOrder, Cond.code yX9_findOrder cX9_findOrder 7 none, Cond.fieldLink RX9 57 "KeptMovingModel" "points" "I", Cond.methodLink RX9 90 yX9_isThere, Cond.instanceMethod yX9_isThere, Cond.selects RX9 yX9_isThere yX9_isThere, Cond.code yX9_isThere cX9_isThere 6 (some .boolean), Cond.fieldLink RX9 16 "KeptMovingModel" "begins" "[I", Cond.fieldLink RX9 7 "KeptMovingModel" "goneAt" "[I"]
def wsX9_at_r2 : List Cond := [Cond.methodLink RX9 118 yX9_placeAt, Cond.instanceMethod yX9_placeAt, Cond.selects RX9 yX9_placeAt yX9_placeAt, Cond.code yX9_placeAt cX9_placeAt 7 (some .long), Cond.fieldLink RX9 19 "KeptMovingModel" "places" "[I", Cond.fieldLink RX9 22 "KeptMovingModel" "speeds" "[I", Cond.methodLink RX9 84 yX9_latest, Cond.instanceMethod yX9_latest, Cond.selects RX9 yX9_latest yX9_latest, Cond.code yX9_latest cX9_latest 2 (some .int), Cond.fieldLink RX9 13 "KeptMovingModel" "pieces" "[I", Cond.methodLink RX9 135 yX9_rowAt, Cond.instanceMethod yX9_rowAt, Cond.selects RX9 yX9_rowAt yX9_rowAt, Cond.code yX9_rowAt cX9_rowAt 2 (some .int)]
def wsX9_at : List Cond := .code yX9_at cX9_at 12 (some .int) :: ((wsX9_at_r1 ++ wsX9_at_r2) ++ wsX90)
def wsX9_meeting_r1 : List Cond := [Cond.constantLong RX9 169 (3), Cond.constant RX9 73 (-100002), Cond.fieldLink RX9 97 "KeptMovingModel" "meetings" "I", Cond.fieldLink RX9 28 "KeptMovingModel" "meetN" "[J", Cond.fieldLink RX9 75 "KeptMovingModel" "now" "I", Cond.fieldLink RX9 32 "KeptMovingModel" "meetD" "[J", Cond.fieldLink RX9 35 "KeptMovingModel" "meetI" "[I", Cond.fieldLink RX9 38 "KeptMovingModel" "meetJ" "[I", Cond.methodLink RX9 61 yX9_in, Cond.static yX9_in, Cond.initialized RX9, Cond.code yX9_in cX9_in 6 (some .boolean), Cond.methodLink RX9 94 yX9_findMeetings, Cond.instanceMethod yX9_findMeetings, Cond.selects RX9 yX9_findMeetings yX9_findMeetings, Cond.code yX9_findMeetings cX9_findMeetings 5 none, Cond.fieldLink RX9 57 "KeptMovingModel" "points" "I", Cond.methodLink RX9 84 yX9_latest, Cond.instanceMethod yX9_latest, Cond.selects RX9 yX9_latest yX9_latest, Cond.code yX9_latest cX9_latest 2 (some .int), Cond.fieldLink RX9 13 "KeptMovingModel" "pieces" "[I", Cond.methodLink RX9 165 yX9_meet, Cond.instanceMethod yX9_meet]
def wsX9_meeting_r2 : List Cond := [Cond.selects RX9 yX9_meet yX9_meet, Cond.code yX9_meet cX9_meet 19 none, Cond.fieldLink RX9 16 "KeptMovingModel" "begins" "[I", Cond.fieldLink RX9 22 "KeptMovingModel" "speeds" "[I", Cond.fieldLink RX9 19 "KeptMovingModel" "places" "[I", Cond.methodLink RX9 147 yX9_most, Cond.static yX9_most, Cond.code yX9_most cX9_most 2 (some .int), Cond.methodLink RX9 150 yX9_endOf, Cond.instanceMethod yX9_endOf, Cond.selects RX9 yX9_endOf yX9_endOf, Cond.code yX9_endOf cX9_endOf 4 (some .int), Cond.constant RX9 142 (1000000000), Cond.fieldLink RX9 7 "KeptMovingModel" "goneAt" "[I", Cond.methodLink RX9 143 yX9_least, Cond.static yX9_least, Cond.code yX9_least cX9_least 2 (some .int), Cond.methodLink RX9 153 yX9_isThereBoth, Cond.instanceMethod yX9_isThereBoth, Cond.selects RX9 yX9_isThereBoth yX9_isThereBoth, Cond.code yX9_isThereBoth cX9_isThereBoth 7 (some .boolean), Cond.methodLink RX9 90 yX9_isThere, Cond.instanceMethod yX9_isThere, Cond.selects RX9 yX9_isThere yX9_isThere]
def wsX9_meeting_r3 : List Cond := [Cond.code yX9_isThere cX9_isThere 6 (some .boolean), Cond.methodLink RX9 106 yX9_common, Cond.static yX9_common, Cond.code yX9_common cX9_common 10 (some .long), Cond.methodLink RX9 157 yX9_slopeBehind, Cond.instanceMethod yX9_slopeBehind, Cond.selects RX9 yX9_slopeBehind yX9_slopeBehind, Cond.code yX9_slopeBehind cX9_slopeBehind 7 (some .int), Cond.methodLink RX9 161 yX9_addMeeting, Cond.instanceMethod yX9_addMeeting, Cond.selects RX9 yX9_addMeeting yX9_addMeeting, Cond.code yX9_addMeeting cX9_addMeeting 9 none, Cond.fieldLink RX9 41 "KeptMovingModel" "isPass" "[Z"]
def wsX9_meeting : List Cond := .code yX9_meeting cX9_meeting 5 (some .int) :: ((wsX9_meeting_r1 ++ (wsX9_meeting_r2 ++ wsX9_meeting_r3)) ++ wsX90)
def wsX9_addTime : List Cond := .code yX9_addTime cX9_addTime 8 none :: ([.fieldLink RX9 171 "KeptMovingModel" "times" "I", .fieldLink RX9 48 "KeptMovingModel" "timeD" "[J", .fieldLink RX9 45 "KeptMovingModel" "timeN" "[J"] ++ wsX90)
def wsX9_beginTimes : List Cond := .code yX9_beginTimes cX9_beginTimes 4 none :: ([.fieldLink RX9 171 "KeptMovingModel" "times" "I", .fieldLink RX9 57 "KeptMovingModel" "points" "I", .fieldLink RX9 16 "KeptMovingModel" "begins" "[I", .fieldLink RX9 7 "KeptMovingModel" "goneAt" "[I", .methodLink RX9 174 yX9_addTime, .instanceMethod yX9_addTime, .selects RX9 yX9_addTime yX9_addTime, .initialized RX9, .code yX9_addTime cX9_addTime 8 none, .fieldLink RX9 48 "KeptMovingModel" "timeD" "[J", .fieldLink RX9 45 "KeptMovingModel" "timeN" "[J", .methodLink RX9 84 yX9_latest, .instanceMethod yX9_latest, .selects RX9 yX9_latest yX9_latest, .code yX9_latest cX9_latest 2 (some .int), .fieldLink RX9 13 "KeptMovingModel" "pieces" "[I"] ++ wsX90)
def wsX9_addZero : List Cond := .code yX9_addZero cX9_addZero 14 none :: ([.methodLink RX9 174 yX9_addTime, .instanceMethod yX9_addTime, .selects RX9 yX9_addTime yX9_addTime, .initialized RX9, .code yX9_addTime cX9_addTime 8 none, .fieldLink RX9 171 "KeptMovingModel" "times" "I", .fieldLink RX9 48 "KeptMovingModel" "timeD" "[J", .fieldLink RX9 45 "KeptMovingModel" "timeN" "[J"] ++ wsX90)
def wsX9_addApart_r1 : List Cond := [Cond.fieldLink RX9 16 "KeptMovingModel" "begins" "[I", Cond.fieldLink RX9 19 "KeptMovingModel" "places" "[I", Cond.fieldLink RX9 22 "KeptMovingModel" "speeds" "[I", Cond.methodLink RX9 84 yX9_latest, Cond.instanceMethod yX9_latest, Cond.selects RX9 yX9_latest yX9_latest, Cond.initialized RX9, Cond.code yX9_latest cX9_latest 2 (some .int), Cond.fieldLink RX9 13 "KeptMovingModel" "pieces" "[I", Cond.methodLink RX9 147 yX9_most, Cond.static yX9_most, Cond.code yX9_most cX9_most 2 (some .int), Cond.methodLink RX9 150 yX9_endOf, Cond.instanceMethod yX9_endOf, Cond.selects RX9 yX9_endOf yX9_endOf, Cond.code yX9_endOf cX9_endOf 4 (some .int), Cond.constant RX9 142 (1000000000), Cond.fieldLink RX9 7 "KeptMovingModel" "goneAt" "[I", Cond.methodLink RX9 143 yX9_least, Cond.static yX9_least, Cond.code yX9_least cX9_least 2 (some .int), Cond.methodLink RX9 178 yX9_addZero, Cond.instanceMethod yX9_addZero, Cond.selects RX9 yX9_addZero yX9_addZero]
def wsX9_addApart_r2 : List Cond := [Cond.code yX9_addZero cX9_addZero 14 none, Cond.methodLink RX9 174 yX9_addTime, Cond.instanceMethod yX9_addTime, Cond.selects RX9 yX9_addTime yX9_addTime, Cond.code yX9_addTime cX9_addTime 8 none, Cond.fieldLink RX9 171 "KeptMovingModel" "times" "I", Cond.fieldLink RX9 48 "KeptMovingModel" "timeD" "[J", Cond.fieldLink RX9 45 "KeptMovingModel" "timeN" "[J"]
def wsX9_addApart : List Cond := .code yX9_addApart cX9_addApart 12 none :: ((wsX9_addApart_r1 ++ wsX9_addApart_r2) ++ wsX90)
def wsX9_addAt_r1 : List Cond := [Cond.fieldLink RX9 19 "KeptMovingModel" "places" "[I", Cond.fieldLink RX9 22 "KeptMovingModel" "speeds" "[I", Cond.fieldLink RX9 16 "KeptMovingModel" "begins" "[I", Cond.methodLink RX9 84 yX9_latest, Cond.instanceMethod yX9_latest, Cond.selects RX9 yX9_latest yX9_latest, Cond.initialized RX9, Cond.code yX9_latest cX9_latest 2 (some .int), Cond.fieldLink RX9 13 "KeptMovingModel" "pieces" "[I", Cond.methodLink RX9 150 yX9_endOf, Cond.instanceMethod yX9_endOf, Cond.selects RX9 yX9_endOf yX9_endOf, Cond.code yX9_endOf cX9_endOf 4 (some .int), Cond.constant RX9 142 (1000000000), Cond.fieldLink RX9 7 "KeptMovingModel" "goneAt" "[I", Cond.methodLink RX9 143 yX9_least, Cond.static yX9_least, Cond.code yX9_least cX9_least 2 (some .int), Cond.methodLink RX9 178 yX9_addZero, Cond.instanceMethod yX9_addZero, Cond.selects RX9 yX9_addZero yX9_addZero, Cond.code yX9_addZero cX9_addZero 14 none, Cond.methodLink RX9 174 yX9_addTime, Cond.instanceMethod yX9_addTime]
def wsX9_addAt_r2 : List Cond := [Cond.selects RX9 yX9_addTime yX9_addTime, Cond.code yX9_addTime cX9_addTime 8 none, Cond.fieldLink RX9 171 "KeptMovingModel" "times" "I", Cond.fieldLink RX9 48 "KeptMovingModel" "timeD" "[J", Cond.fieldLink RX9 45 "KeptMovingModel" "timeN" "[J"]
def wsX9_addAt : List Cond := .code yX9_addAt cX9_addAt 6 none :: ((wsX9_addAt_r1 ++ wsX9_addAt_r2) ++ wsX90)
def wsX9_isSo_r1 : List Cond := [Cond.fieldLink RX9 182 "KeptMovingModel" "thing" "I", Cond.fieldLink RX9 185 "KeptMovingModel" "one" "I", Cond.fieldLink RX9 188 "KeptMovingModel" "two" "I", Cond.fieldLink RX9 191 "KeptMovingModel" "high" "J", Cond.fieldLink RX9 57 "KeptMovingModel" "points" "I", Cond.fieldLink RX9 195 "KeptMovingModel" "low" "J", Cond.methodLink RX9 118 yX9_placeAt, Cond.instanceMethod yX9_placeAt, Cond.selects RX9 yX9_placeAt yX9_placeAt, Cond.initialized RX9, Cond.code yX9_placeAt cX9_placeAt 7 (some .long), Cond.fieldLink RX9 16 "KeptMovingModel" "begins" "[I", Cond.fieldLink RX9 19 "KeptMovingModel" "places" "[I", Cond.fieldLink RX9 22 "KeptMovingModel" "speeds" "[I", Cond.methodLink RX9 84 yX9_latest, Cond.instanceMethod yX9_latest, Cond.selects RX9 yX9_latest yX9_latest, Cond.code yX9_latest cX9_latest 2 (some .int), Cond.fieldLink RX9 13 "KeptMovingModel" "pieces" "[I", Cond.methodLink RX9 153 yX9_isThereBoth, Cond.instanceMethod yX9_isThereBoth, Cond.selects RX9 yX9_isThereBoth yX9_isThereBoth, Cond.code yX9_isThereBoth cX9_isThereBoth 7 (some .boolean), Cond.methodLink RX9 90 yX9_isThere]
def wsX9_isSo_r2 : List Cond := [Cond.instanceMethod yX9_isThere, Cond.selects RX9 yX9_isThere yX9_isThere, Cond.code yX9_isThere cX9_isThere 6 (some .boolean), Cond.fieldLink RX9 7 "KeptMovingModel" "goneAt" "[I"]
def wsX9_isSo : List Cond := .code yX9_isSo cX9_isSo 10 (some .boolean) :: ((wsX9_isSo_r1 ++ wsX9_isSo_r2) ++ wsX90)
def wsX9_addSpan : List Cond := .code yX9_addSpan cX9_addSpan 4 none :: ([.fieldLink RX9 198 "KeptMovingModel" "spans" "I", .fieldLink RX9 51 "KeptMovingModel" "spanN" "[J", .fieldLink RX9 48 "KeptMovingModel" "timeD" "[J", .fieldLink RX9 45 "KeptMovingModel" "timeN" "[J", .fieldLink RX9 54 "KeptMovingModel" "spanD" "[J"] ++ wsX90)
def wsX9_findSpans_r1 : List Cond := [Cond.fieldLink RX9 198 "KeptMovingModel" "spans" "I", Cond.fieldLink RX9 171 "KeptMovingModel" "times" "I", Cond.fieldLink RX9 45 "KeptMovingModel" "timeN" "[J", Cond.fieldLink RX9 48 "KeptMovingModel" "timeD" "[J", Cond.constantLong RX9 209 (2), Cond.fieldLink RX9 51 "KeptMovingModel" "spanN" "[J", Cond.fieldLink RX9 54 "KeptMovingModel" "spanD" "[J", Cond.methodLink RX9 201 yX9_isSo, Cond.instanceMethod yX9_isSo, Cond.selects RX9 yX9_isSo yX9_isSo, Cond.initialized RX9, Cond.code yX9_isSo cX9_isSo 10 (some .boolean), Cond.fieldLink RX9 182 "KeptMovingModel" "thing" "I", Cond.fieldLink RX9 185 "KeptMovingModel" "one" "I", Cond.fieldLink RX9 188 "KeptMovingModel" "two" "I", Cond.fieldLink RX9 191 "KeptMovingModel" "high" "J", Cond.fieldLink RX9 57 "KeptMovingModel" "points" "I", Cond.fieldLink RX9 195 "KeptMovingModel" "low" "J", Cond.methodLink RX9 118 yX9_placeAt, Cond.instanceMethod yX9_placeAt, Cond.selects RX9 yX9_placeAt yX9_placeAt, Cond.code yX9_placeAt cX9_placeAt 7 (some .long), Cond.fieldLink RX9 16 "KeptMovingModel" "begins" "[I", Cond.fieldLink RX9 19 "KeptMovingModel" "places" "[I"]
def wsX9_findSpans_r2 : List Cond := [Cond.fieldLink RX9 22 "KeptMovingModel" "speeds" "[I", Cond.methodLink RX9 84 yX9_latest, Cond.instanceMethod yX9_latest, Cond.selects RX9 yX9_latest yX9_latest, Cond.code yX9_latest cX9_latest 2 (some .int), Cond.fieldLink RX9 13 "KeptMovingModel" "pieces" "[I", Cond.methodLink RX9 153 yX9_isThereBoth, Cond.instanceMethod yX9_isThereBoth, Cond.selects RX9 yX9_isThereBoth yX9_isThereBoth, Cond.code yX9_isThereBoth cX9_isThereBoth 7 (some .boolean), Cond.methodLink RX9 90 yX9_isThere, Cond.instanceMethod yX9_isThere, Cond.selects RX9 yX9_isThere yX9_isThere, Cond.code yX9_isThere cX9_isThere 6 (some .boolean), Cond.fieldLink RX9 7 "KeptMovingModel" "goneAt" "[I", Cond.methodLink RX9 205 yX9_addSpan, Cond.instanceMethod yX9_addSpan, Cond.selects RX9 yX9_addSpan yX9_addSpan, Cond.code yX9_addSpan cX9_addSpan 4 none, Cond.methodLink RX9 61 yX9_in, Cond.static yX9_in, Cond.code yX9_in cX9_in 6 (some .boolean), Cond.methodLink RX9 122 yX9_share, Cond.static yX9_share]
def wsX9_findSpans_r3 : List Cond := [Cond.code yX9_share cX9_share 7 (some .long), Cond.methodLink RX9 106 yX9_common, Cond.static yX9_common, Cond.code yX9_common cX9_common 10 (some .long)]
def wsX9_findSpans : List Cond := .code yX9_findSpans cX9_findSpans 4 (some .int) :: ((wsX9_findSpans_r1 ++ (wsX9_findSpans_r2 ++ wsX9_findSpans_r3)) ++ wsX90)
def wsX9_isAsked : List Cond := .code yX9_isAsked cX9_isAsked 2 (some .boolean) :: ([.constantLong RX9 211 (600), .constantLong RX9 169 (3), .methodLink RX9 61 yX9_in, .static yX9_in, .initialized RX9, .code yX9_in cX9_in 6 (some .boolean)])
def wsX9_near_r1 : List Cond := [Cond.constant RX9 82 (-100001), Cond.constantLong RX9 140 (2000), Cond.constant RX9 73 (-100002), Cond.constant RX9 83 (-100003), Cond.fieldLink RX9 182 "KeptMovingModel" "thing" "I", Cond.fieldLink RX9 185 "KeptMovingModel" "one" "I", Cond.fieldLink RX9 188 "KeptMovingModel" "two" "I", Cond.fieldLink RX9 191 "KeptMovingModel" "high" "J", Cond.methodLink RX9 78 yX9_isPoint, Cond.instanceMethod yX9_isPoint, Cond.selects RX9 yX9_isPoint yX9_isPoint, Cond.initialized RX9, Cond.code yX9_isPoint cX9_isPoint 2 (some .boolean), Cond.fieldLink RX9 57 "KeptMovingModel" "points" "I", Cond.methodLink RX9 61 yX9_in, Cond.static yX9_in, Cond.code yX9_in cX9_in 6 (some .boolean), Cond.methodLink RX9 213 yX9_isAsked, Cond.static yX9_isAsked, Cond.code yX9_isAsked cX9_isAsked 2 (some .boolean), Cond.constantLong RX9 211 (600), Cond.constantLong RX9 169 (3), Cond.methodLink RX9 216 yX9_beginTimes, Cond.instanceMethod yX9_beginTimes]
def wsX9_near_r2 : List Cond := [Cond.selects RX9 yX9_beginTimes yX9_beginTimes, Cond.code yX9_beginTimes cX9_beginTimes 4 none, Cond.fieldLink RX9 171 "KeptMovingModel" "times" "I", Cond.fieldLink RX9 16 "KeptMovingModel" "begins" "[I", Cond.fieldLink RX9 7 "KeptMovingModel" "goneAt" "[I", Cond.methodLink RX9 174 yX9_addTime, Cond.instanceMethod yX9_addTime, Cond.selects RX9 yX9_addTime yX9_addTime, Cond.code yX9_addTime cX9_addTime 8 none, Cond.fieldLink RX9 48 "KeptMovingModel" "timeD" "[J", Cond.fieldLink RX9 45 "KeptMovingModel" "timeN" "[J", Cond.methodLink RX9 84 yX9_latest, Cond.instanceMethod yX9_latest, Cond.selects RX9 yX9_latest yX9_latest, Cond.code yX9_latest cX9_latest 2 (some .int), Cond.fieldLink RX9 13 "KeptMovingModel" "pieces" "[I", Cond.methodLink RX9 220 yX9_addApart, Cond.instanceMethod yX9_addApart, Cond.selects RX9 yX9_addApart yX9_addApart, Cond.code yX9_addApart cX9_addApart 12 none, Cond.fieldLink RX9 19 "KeptMovingModel" "places" "[I", Cond.fieldLink RX9 22 "KeptMovingModel" "speeds" "[I", Cond.methodLink RX9 147 yX9_most, Cond.static yX9_most]
def wsX9_near_r3 : List Cond := [Cond.code yX9_most cX9_most 2 (some .int), Cond.methodLink RX9 150 yX9_endOf, Cond.instanceMethod yX9_endOf, Cond.selects RX9 yX9_endOf yX9_endOf, Cond.code yX9_endOf cX9_endOf 4 (some .int), Cond.constant RX9 142 (1000000000), Cond.methodLink RX9 143 yX9_least, Cond.static yX9_least, Cond.code yX9_least cX9_least 2 (some .int), Cond.methodLink RX9 178 yX9_addZero, Cond.instanceMethod yX9_addZero, Cond.selects RX9 yX9_addZero yX9_addZero, Cond.code yX9_addZero cX9_addZero 14 none, Cond.methodLink RX9 224 yX9_findSpans, Cond.instanceMethod yX9_findSpans, Cond.selects RX9 yX9_findSpans yX9_findSpans, Cond.code yX9_findSpans cX9_findSpans 4 (some .int), Cond.fieldLink RX9 198 "KeptMovingModel" "spans" "I", Cond.constantLong RX9 209 (2), Cond.fieldLink RX9 51 "KeptMovingModel" "spanN" "[J", Cond.fieldLink RX9 54 "KeptMovingModel" "spanD" "[J", Cond.methodLink RX9 201 yX9_isSo, Cond.instanceMethod yX9_isSo, Cond.selects RX9 yX9_isSo yX9_isSo]
def wsX9_near_r4 : List Cond := [Cond.code yX9_isSo cX9_isSo 10 (some .boolean), Cond.fieldLink RX9 195 "KeptMovingModel" "low" "J", Cond.methodLink RX9 118 yX9_placeAt, Cond.instanceMethod yX9_placeAt, Cond.selects RX9 yX9_placeAt yX9_placeAt, Cond.code yX9_placeAt cX9_placeAt 7 (some .long), Cond.methodLink RX9 153 yX9_isThereBoth, Cond.instanceMethod yX9_isThereBoth, Cond.selects RX9 yX9_isThereBoth yX9_isThereBoth, Cond.code yX9_isThereBoth cX9_isThereBoth 7 (some .boolean), Cond.methodLink RX9 90 yX9_isThere, Cond.instanceMethod yX9_isThere, Cond.selects RX9 yX9_isThere yX9_isThere, Cond.code yX9_isThere cX9_isThere 6 (some .boolean), Cond.methodLink RX9 205 yX9_addSpan, Cond.instanceMethod yX9_addSpan, Cond.selects RX9 yX9_addSpan yX9_addSpan, Cond.code yX9_addSpan cX9_addSpan 4 none, Cond.methodLink RX9 122 yX9_share, Cond.static yX9_share, Cond.code yX9_share cX9_share 7 (some .long), Cond.methodLink RX9 106 yX9_common, Cond.static yX9_common, Cond.code yX9_common cX9_common 10 (some .long)]
def wsX9_near : List Cond := .code yX9_near cX9_near 7 (some .int) :: ((wsX9_near_r1 ++ (wsX9_near_r2 ++ (wsX9_near_r3 ++ wsX9_near_r4))) ++ wsX90)
def wsX9_first_r1 : List Cond := [Cond.constant RX9 82 (-100001), Cond.constant RX9 73 (-100002), Cond.fieldLink RX9 182 "KeptMovingModel" "thing" "I", Cond.fieldLink RX9 185 "KeptMovingModel" "one" "I", Cond.fieldLink RX9 57 "KeptMovingModel" "points" "I", Cond.methodLink RX9 78 yX9_isPoint, Cond.instanceMethod yX9_isPoint, Cond.selects RX9 yX9_isPoint yX9_isPoint, Cond.initialized RX9, Cond.code yX9_isPoint cX9_isPoint 2 (some .boolean), Cond.methodLink RX9 61 yX9_in, Cond.static yX9_in, Cond.code yX9_in cX9_in 6 (some .boolean), Cond.methodLink RX9 213 yX9_isAsked, Cond.static yX9_isAsked, Cond.code yX9_isAsked cX9_isAsked 2 (some .boolean), Cond.constantLong RX9 211 (600), Cond.constantLong RX9 169 (3), Cond.methodLink RX9 216 yX9_beginTimes, Cond.instanceMethod yX9_beginTimes, Cond.selects RX9 yX9_beginTimes yX9_beginTimes, Cond.code yX9_beginTimes cX9_beginTimes 4 none, Cond.fieldLink RX9 171 "KeptMovingModel" "times" "I", Cond.fieldLink RX9 16 "KeptMovingModel" "begins" "[I"]
def wsX9_first_r2 : List Cond := [Cond.fieldLink RX9 7 "KeptMovingModel" "goneAt" "[I", Cond.methodLink RX9 174 yX9_addTime, Cond.instanceMethod yX9_addTime, Cond.selects RX9 yX9_addTime yX9_addTime, Cond.code yX9_addTime cX9_addTime 8 none, Cond.fieldLink RX9 48 "KeptMovingModel" "timeD" "[J", Cond.fieldLink RX9 45 "KeptMovingModel" "timeN" "[J", Cond.methodLink RX9 84 yX9_latest, Cond.instanceMethod yX9_latest, Cond.selects RX9 yX9_latest yX9_latest, Cond.code yX9_latest cX9_latest 2 (some .int), Cond.fieldLink RX9 13 "KeptMovingModel" "pieces" "[I", Cond.methodLink RX9 220 yX9_addApart, Cond.instanceMethod yX9_addApart, Cond.selects RX9 yX9_addApart yX9_addApart, Cond.code yX9_addApart cX9_addApart 12 none, Cond.fieldLink RX9 19 "KeptMovingModel" "places" "[I", Cond.fieldLink RX9 22 "KeptMovingModel" "speeds" "[I", Cond.methodLink RX9 147 yX9_most, Cond.static yX9_most, Cond.code yX9_most cX9_most 2 (some .int), Cond.methodLink RX9 150 yX9_endOf, Cond.instanceMethod yX9_endOf, Cond.selects RX9 yX9_endOf yX9_endOf]
def wsX9_first_r3 : List Cond := [Cond.code yX9_endOf cX9_endOf 4 (some .int), Cond.constant RX9 142 (1000000000), Cond.methodLink RX9 143 yX9_least, Cond.static yX9_least, Cond.code yX9_least cX9_least 2 (some .int), Cond.methodLink RX9 178 yX9_addZero, Cond.instanceMethod yX9_addZero, Cond.selects RX9 yX9_addZero yX9_addZero, Cond.code yX9_addZero cX9_addZero 14 none, Cond.methodLink RX9 224 yX9_findSpans, Cond.instanceMethod yX9_findSpans, Cond.selects RX9 yX9_findSpans yX9_findSpans, Cond.code yX9_findSpans cX9_findSpans 4 (some .int), Cond.fieldLink RX9 198 "KeptMovingModel" "spans" "I", Cond.constantLong RX9 209 (2), Cond.fieldLink RX9 51 "KeptMovingModel" "spanN" "[J", Cond.fieldLink RX9 54 "KeptMovingModel" "spanD" "[J", Cond.methodLink RX9 201 yX9_isSo, Cond.instanceMethod yX9_isSo, Cond.selects RX9 yX9_isSo yX9_isSo, Cond.code yX9_isSo cX9_isSo 10 (some .boolean), Cond.fieldLink RX9 188 "KeptMovingModel" "two" "I", Cond.fieldLink RX9 191 "KeptMovingModel" "high" "J", Cond.fieldLink RX9 195 "KeptMovingModel" "low" "J"]
def wsX9_first_r4 : List Cond := [Cond.methodLink RX9 118 yX9_placeAt, Cond.instanceMethod yX9_placeAt, Cond.selects RX9 yX9_placeAt yX9_placeAt, Cond.code yX9_placeAt cX9_placeAt 7 (some .long), Cond.methodLink RX9 153 yX9_isThereBoth, Cond.instanceMethod yX9_isThereBoth, Cond.selects RX9 yX9_isThereBoth yX9_isThereBoth, Cond.code yX9_isThereBoth cX9_isThereBoth 7 (some .boolean), Cond.methodLink RX9 90 yX9_isThere, Cond.instanceMethod yX9_isThere, Cond.selects RX9 yX9_isThere yX9_isThere, Cond.code yX9_isThere cX9_isThere 6 (some .boolean), Cond.methodLink RX9 205 yX9_addSpan, Cond.instanceMethod yX9_addSpan, Cond.selects RX9 yX9_addSpan yX9_addSpan, Cond.code yX9_addSpan cX9_addSpan 4 none, Cond.methodLink RX9 122 yX9_share, Cond.static yX9_share, Cond.code yX9_share cX9_share 7 (some .long), Cond.methodLink RX9 106 yX9_common, Cond.static yX9_common, Cond.code yX9_common cX9_common 10 (some .long)]
def wsX9_first : List Cond := .code yX9_first cX9_first 6 (some .int) :: ((wsX9_first_r1 ++ (wsX9_first_r2 ++ (wsX9_first_r3 ++ wsX9_first_r4))) ++ wsX90)
def wsX9_within_r1 : List Cond := [Cond.constantLong RX9 227 (-60000), Cond.constantLong RX9 229 (60000), Cond.constantLong RX9 231 (10), Cond.constant RX9 73 (-100002), Cond.fieldLink RX9 182 "KeptMovingModel" "thing" "I", Cond.fieldLink RX9 185 "KeptMovingModel" "one" "I", Cond.fieldLink RX9 195 "KeptMovingModel" "low" "J", Cond.fieldLink RX9 191 "KeptMovingModel" "high" "J", Cond.fieldLink RX9 57 "KeptMovingModel" "points" "I", Cond.methodLink RX9 61 yX9_in, Cond.static yX9_in, Cond.initialized RX9, Cond.code yX9_in cX9_in 6 (some .boolean), Cond.methodLink RX9 213 yX9_isAsked, Cond.static yX9_isAsked, Cond.code yX9_isAsked cX9_isAsked 2 (some .boolean), Cond.constantLong RX9 211 (600), Cond.constantLong RX9 169 (3), Cond.methodLink RX9 216 yX9_beginTimes, Cond.instanceMethod yX9_beginTimes, Cond.selects RX9 yX9_beginTimes yX9_beginTimes, Cond.code yX9_beginTimes cX9_beginTimes 4 none, Cond.fieldLink RX9 171 "KeptMovingModel" "times" "I", Cond.fieldLink RX9 16 "KeptMovingModel" "begins" "[I"]
def wsX9_within_r2 : List Cond := [Cond.fieldLink RX9 7 "KeptMovingModel" "goneAt" "[I", Cond.methodLink RX9 174 yX9_addTime, Cond.instanceMethod yX9_addTime, Cond.selects RX9 yX9_addTime yX9_addTime, Cond.code yX9_addTime cX9_addTime 8 none, Cond.fieldLink RX9 48 "KeptMovingModel" "timeD" "[J", Cond.fieldLink RX9 45 "KeptMovingModel" "timeN" "[J", Cond.methodLink RX9 84 yX9_latest, Cond.instanceMethod yX9_latest, Cond.selects RX9 yX9_latest yX9_latest, Cond.code yX9_latest cX9_latest 2 (some .int), Cond.fieldLink RX9 13 "KeptMovingModel" "pieces" "[I", Cond.methodLink RX9 233 yX9_addAt, Cond.instanceMethod yX9_addAt, Cond.selects RX9 yX9_addAt yX9_addAt, Cond.code yX9_addAt cX9_addAt 6 none, Cond.fieldLink RX9 19 "KeptMovingModel" "places" "[I", Cond.fieldLink RX9 22 "KeptMovingModel" "speeds" "[I", Cond.methodLink RX9 150 yX9_endOf, Cond.instanceMethod yX9_endOf, Cond.selects RX9 yX9_endOf yX9_endOf, Cond.code yX9_endOf cX9_endOf 4 (some .int), Cond.constant RX9 142 (1000000000), Cond.methodLink RX9 143 yX9_least]
def wsX9_within_r3 : List Cond := [Cond.static yX9_least, Cond.code yX9_least cX9_least 2 (some .int), Cond.methodLink RX9 178 yX9_addZero, Cond.instanceMethod yX9_addZero, Cond.selects RX9 yX9_addZero yX9_addZero, Cond.code yX9_addZero cX9_addZero 14 none, Cond.methodLink RX9 224 yX9_findSpans, Cond.instanceMethod yX9_findSpans, Cond.selects RX9 yX9_findSpans yX9_findSpans, Cond.code yX9_findSpans cX9_findSpans 4 (some .int), Cond.fieldLink RX9 198 "KeptMovingModel" "spans" "I", Cond.constantLong RX9 209 (2), Cond.fieldLink RX9 51 "KeptMovingModel" "spanN" "[J", Cond.fieldLink RX9 54 "KeptMovingModel" "spanD" "[J", Cond.methodLink RX9 201 yX9_isSo, Cond.instanceMethod yX9_isSo, Cond.selects RX9 yX9_isSo yX9_isSo, Cond.code yX9_isSo cX9_isSo 10 (some .boolean), Cond.fieldLink RX9 188 "KeptMovingModel" "two" "I", Cond.methodLink RX9 118 yX9_placeAt, Cond.instanceMethod yX9_placeAt, Cond.selects RX9 yX9_placeAt yX9_placeAt, Cond.code yX9_placeAt cX9_placeAt 7 (some .long), Cond.methodLink RX9 153 yX9_isThereBoth]
def wsX9_within_r4 : List Cond := [Cond.instanceMethod yX9_isThereBoth, Cond.selects RX9 yX9_isThereBoth yX9_isThereBoth, Cond.code yX9_isThereBoth cX9_isThereBoth 7 (some .boolean), Cond.methodLink RX9 90 yX9_isThere, Cond.instanceMethod yX9_isThere, Cond.selects RX9 yX9_isThere yX9_isThere, Cond.code yX9_isThere cX9_isThere 6 (some .boolean), Cond.methodLink RX9 205 yX9_addSpan, Cond.instanceMethod yX9_addSpan, Cond.selects RX9 yX9_addSpan yX9_addSpan, Cond.code yX9_addSpan cX9_addSpan 4 none, Cond.methodLink RX9 122 yX9_share, Cond.static yX9_share, Cond.code yX9_share cX9_share 7 (some .long), Cond.methodLink RX9 106 yX9_common, Cond.static yX9_common, Cond.code yX9_common cX9_common 10 (some .long)]
def wsX9_within : List Cond := .code yX9_within cX9_within 8 (some .int) :: ((wsX9_within_r1 ++ (wsX9_within_r2 ++ (wsX9_within_r3 ++ wsX9_within_r4))) ++ wsX90)
def wsJ9_abs_0f7a4 : List Cond := .code yJ9_abs_0f7a4 cJ9_abs_0f7a4 1 (some .int) :: ([])
def wsJ9_max_7cf53 : List Cond := .code yJ9_max_7cf53 cJ9_max_7cf53 2 (some .int) :: ([])
def wsJ9_min_7cf53 : List Cond := .code yJ9_min_7cf53 cJ9_min_7cf53 2 (some .int) :: ([])
def wsL_law_r1 : List Cond := [Cond.classLink RL 7 RX8, Cond.instantiable RX8 11, Cond.initialized RX8, Cond.classLink RL 10 RX9, Cond.instantiable RX9 26, Cond.initialized RX9, Cond.methodLink RL 9 yX8_init, Cond.instanceMethod yX8_init, Cond.code yX8_init cX8_init 2 none, Cond.methodLink RX8 3 objectInit, Cond.instanceMethod objectInit, Cond.code objectInit ⟨#[0xb1]⟩ 1 none, Cond.classLink RX8 9 RX0, Cond.fieldLink RX8 11 "KeptMoving" "courses" "[LKeptMoving$Course;", Cond.instantiable RX0 5, Cond.initialized RX0, Cond.classLink RX8 16 RX3, Cond.instantiable RX3 3, Cond.initialized RX3, Cond.fieldLink RX8 19 "KeptMoving" "line" "LKeptMoving$Line;", Cond.arrayClass .int, Cond.fieldLink RX8 23 "KeptMoving" "bends" "[I", Cond.classLink RX8 27 RX5, Cond.instantiable RX5 4]
def wsL_law_r2 : List Cond := [Cond.initialized RX5, Cond.fieldLink RX8 30 "KeptMoving" "scene" "LKeptMoving$Scene;", Cond.classLink RX8 34 RX4, Cond.instantiable RX4 5, Cond.initialized RX4, Cond.fieldLink RX8 37 "KeptMoving" "meetings" "LKeptMoving$Meetings;", Cond.classLink RX8 41 RX7, Cond.instantiable RX7 5, Cond.initialized RX7, Cond.fieldLink RX8 44 "KeptMoving" "stretch" "LKeptMoving$Stretch;", Cond.classLink RX8 48 RX1, Cond.instantiable RX1 3, Cond.initialized RX1, Cond.fieldLink RX8 51 "KeptMoving" "crowd" "LKeptMoving$Crowd;", Cond.classLink RX8 55 RX6, Cond.instantiable RX6 5, Cond.initialized RX6, Cond.fieldLink RX8 58 "KeptMoving" "spans" "LKeptMoving$Spans;", Cond.instanceMethod yX0_init, Cond.code yX0_init cX0_init 1 none, Cond.methodLink RX0 3 objectInit, Cond.fieldLink RX0 9 "KeptMoving$Course" "starts" "[I", Cond.fieldLink RX0 15 "KeptMoving$Course" "places" "[I", Cond.fieldLink RX0 18 "KeptMoving$Course" "speeds" "[I"]
def wsL_law_r3 : List Cond := [Cond.fieldLink RX0 21 "KeptMoving$Course" "pieces" "I", Cond.fieldLink RX0 25 "KeptMoving$Course" "stopped" "I", Cond.instanceMethod yX3_init, Cond.code yX3_init cX3_init 1 none, Cond.methodLink RX3 3 objectInit, Cond.fieldLink RX3 9 "KeptMoving$Line" "numbers" "[I", Cond.fieldLink RX3 15 "KeptMoving$Line" "uppers" "[I", Cond.instanceMethod yX5_init, Cond.code yX5_init cX5_init 1 none, Cond.methodLink RX5 3 objectInit, Cond.arrayClass .boolean, Cond.fieldLink RX5 9 "KeptMoving$Scene" "isThere" "[Z", Cond.fieldLink RX5 15 "KeptMoving$Scene" "places" "[I", Cond.fieldLink RX5 19 "KeptMoving$Scene" "speeds" "[I", Cond.instanceMethod yX4_init, Cond.code yX4_init cX4_init 1 none, Cond.methodLink RX4 3 objectInit, Cond.arrayClass .long, Cond.fieldLink RX4 9 "KeptMoving$Meetings" "times" "[J", Cond.fieldLink RX4 15 "KeptMoving$Meetings" "ones" "[I", Cond.fieldLink RX4 19 "KeptMoving$Meetings" "others" "[I", Cond.instanceMethod yX7_init, Cond.code yX7_init cX7_init 1 none, Cond.methodLink RX7 1 objectInit]
def wsL_law_r4 : List Cond := [Cond.instanceMethod yX1_init, Cond.code yX1_init cX1_init 1 none, Cond.methodLink RX1 3 objectInit, Cond.fieldLink RX1 9 "KeptMoving$Crowd" "begins" "[J", Cond.fieldLink RX1 15 "KeptMoving$Crowd" "ends" "[J", Cond.instanceMethod yX6_init, Cond.code yX6_init cX6_init 1 none, Cond.methodLink RX6 3 objectInit, Cond.methodLink RL 12 yX9_init, Cond.instanceMethod yX9_init, Cond.code yX9_init cX9_init 1 none, Cond.methodLink RX9 1 objectInit, Cond.fieldLink RX9 7 "KeptMovingModel" "goneAt" "[I", Cond.fieldLink RX9 13 "KeptMovingModel" "pieces" "[I", Cond.fieldLink RX9 16 "KeptMovingModel" "begins" "[I", Cond.fieldLink RX9 19 "KeptMovingModel" "places" "[I", Cond.fieldLink RX9 22 "KeptMovingModel" "speeds" "[I", Cond.fieldLink RX9 25 "KeptMovingModel" "row" "[I", Cond.fieldLink RX9 28 "KeptMovingModel" "meetN" "[J", Cond.fieldLink RX9 32 "KeptMovingModel" "meetD" "[J", Cond.fieldLink RX9 35 "KeptMovingModel" "meetI" "[I", Cond.fieldLink RX9 38 "KeptMovingModel" "meetJ" "[I", Cond.fieldLink RX9 41 "KeptMovingModel" "isPass" "[Z", Cond.fieldLink RX9 45 "KeptMovingModel" "timeN" "[J"]
def wsL_law_r5 : List Cond := [Cond.fieldLink RX9 48 "KeptMovingModel" "timeD" "[J", Cond.fieldLink RX9 51 "KeptMovingModel" "spanN" "[J", Cond.fieldLink RX9 54 "KeptMovingModel" "spanD" "[J", Cond.methodLink RL 13 yX8_point, Cond.instanceMethod yX8_point, Cond.selects RX8 yX8_point yX8_point, Cond.code yX8_point cX8_point 3 (some .int), Cond.constant RX8 66 (-100002), Cond.fieldLink RX8 67 "KeptMoving" "came" "I", Cond.constant RX8 71 (-100004), Cond.fieldLink RX8 72 "KeptMoving" "now" "I", Cond.methodLink RX8 62 yX8_isFromTo, Cond.static yX8_isFromTo, Cond.code yX8_isFromTo cX8_isFromTo 3 (some .boolean), Cond.instanceMethod yX0_begin, Cond.selects RX0 yX0_begin yX0_begin, Cond.code yX0_begin cX0_begin 4 none, Cond.methodLink RL 17 yX9_point, Cond.instanceMethod yX9_point, Cond.selects RX9 yX9_point yX9_point, Cond.code yX9_point cX9_point 4 (some .int), Cond.constantLong RX9 65 (-1000), Cond.constantLong RX9 67 (1000), Cond.constantLong RX9 69 (-50)]
def wsL_law_r6 : List Cond := [Cond.constantLong RX9 71 (50), Cond.constant RX9 73 (-100002), Cond.fieldLink RX9 57 "KeptMovingModel" "points" "I", Cond.constant RX9 74 (-100004), Cond.fieldLink RX9 75 "KeptMovingModel" "now" "I", Cond.methodLink RX9 61 yX9_in, Cond.static yX9_in, Cond.code yX9_in cX9_in 6 (some .boolean), Cond.methodLink RL 18 yX8_speed, Cond.instanceMethod yX8_speed, Cond.selects RX8 yX8_speed yX8_speed, Cond.code yX8_speed cX8_speed 5 (some .int), Cond.constant RX8 83 (-100001), Cond.constant RX8 88 (-100003), Cond.methodLink RX8 79 yX8_isKnown, Cond.instanceMethod yX8_isKnown, Cond.selects RX8 yX8_isKnown yX8_isKnown, Cond.code yX8_isKnown cX8_isKnown 2 (some .boolean), Cond.instanceMethod yX0_isStopped, Cond.selects RX0 yX0_isStopped yX0_isStopped, Cond.code yX0_isStopped cX0_isStopped 1 (some .boolean), Cond.instanceMethod yX0_canTurn, Cond.selects RX0 yX0_canTurn yX0_canTurn, Cond.code yX0_canTurn cX0_canTurn 2 (some .boolean)]
def wsL_law_r7 : List Cond := [Cond.instanceMethod yX0_latestSpeed, Cond.selects RX0 yX0_latestSpeed yX0_latestSpeed, Cond.code yX0_latestSpeed cX0_latestSpeed 1 (some .int), Cond.instanceMethod yX0_turn, Cond.selects RX0 yX0_turn yX0_turn, Cond.code yX0_turn cX0_turn 3 none, Cond.methodLink RX0 28 yX0_placeAt, Cond.instanceMethod yX0_placeAt, Cond.selects RX0 yX0_placeAt yX0_placeAt, Cond.code yX0_placeAt cX0_placeAt 2 (some .int), Cond.methodLink RX0 36 yX0_upperAt, Cond.instanceMethod yX0_upperAt, Cond.selects RX0 yX0_upperAt yX0_upperAt, Cond.code yX0_upperAt cX0_upperAt 4 (some .int), Cond.methodLink RX0 32 yX0_pieceAt, Cond.instanceMethod yX0_pieceAt, Cond.selects RX0 yX0_pieceAt yX0_pieceAt, Cond.code yX0_pieceAt cX0_pieceAt 5 (some .int), Cond.methodLink RL 21 yX9_speed, Cond.instanceMethod yX9_speed, Cond.selects RX9 yX9_speed yX9_speed, Cond.code yX9_speed cX9_speed 5 (some .int), Cond.constant RX9 82 (-100001), Cond.constant RX9 83 (-100003)]
def wsL_law_r8 : List Cond := [Cond.methodLink RX9 78 yX9_isPoint, Cond.instanceMethod yX9_isPoint, Cond.selects RX9 yX9_isPoint yX9_isPoint, Cond.code yX9_isPoint cX9_isPoint 2 (some .boolean), Cond.methodLink RX9 84 yX9_latest, Cond.instanceMethod yX9_latest, Cond.selects RX9 yX9_latest yX9_latest, Cond.code yX9_latest cX9_latest 2 (some .int), Cond.methodLink RL 22 yX8_gone, Cond.instanceMethod yX8_gone, Cond.selects RX8 yX8_gone yX8_gone, Cond.code yX8_gone cX8_gone 3 (some .int), Cond.instanceMethod yX0_began, Cond.selects RX0 yX0_began yX0_began, Cond.code yX0_began cX0_began 1 (some .int), Cond.instanceMethod yX0_stop, Cond.selects RX0 yX0_stop yX0_stop, Cond.code yX0_stop cX0_stop 2 none, Cond.methodLink RL 26 yX9_gone, Cond.instanceMethod yX9_gone, Cond.selects RX9 yX9_gone yX9_gone, Cond.code yX9_gone cX9_gone 2 (some .int), Cond.methodLink RL 27 yX8_go, Cond.instanceMethod yX8_go]
def wsL_law_r9 : List Cond := [Cond.selects RX8 yX8_go yX8_go, Cond.code yX8_go cX8_go 2 (some .int), Cond.methodLink RL 30 yX9_go, Cond.instanceMethod yX9_go, Cond.selects RX9 yX9_go yX9_go, Cond.code yX9_go cX9_go 2 (some .int), Cond.constantLong RX9 88 (100), Cond.methodLink RL 31 yX8_back, Cond.instanceMethod yX8_back, Cond.selects RX8 yX8_back yX8_back, Cond.code yX8_back cX8_back 2 (some .int), Cond.methodLink RX8 107 yX8_undoFromNow, Cond.instanceMethod yX8_undoFromNow, Cond.selects RX8 yX8_undoFromNow yX8_undoFromNow, Cond.code yX8_undoFromNow cX8_undoFromNow 2 none, Cond.instanceMethod yX0_undoFrom, Cond.selects RX0 yX0_undoFrom yX0_undoFrom, Cond.code yX0_undoFrom cX0_undoFrom 2 none, Cond.methodLink RL 34 yX9_back, Cond.instanceMethod yX9_back, Cond.selects RX9 yX9_back yX9_back, Cond.code yX9_back cX9_back 3 (some .int), Cond.methodLink RL 35 yX8_count, Cond.instanceMethod yX8_count]
def wsL_law_r10 : List Cond := [Cond.selects RX8 yX8_count yX8_count, Cond.code yX8_count cX8_count 2 (some .int), Cond.methodLink RX8 120 Lib.Math.max.name, Cond.static Lib.Math.max.name, Cond.initialized "java/lang/Math", Cond.code Lib.Math.max.name Lib.Math.max.code 2 (some .int), Cond.methodLink RX8 110 yX8_lineUp, Cond.instanceMethod yX8_lineUp, Cond.selects RX8 yX8_lineUp yX8_lineUp, Cond.code yX8_lineUp cX8_lineUp 4 none, Cond.instanceMethod yX3_clear, Cond.selects RX3 yX3_clear yX3_clear, Cond.code yX3_clear cX3_clear 1 none, Cond.fieldLink RX3 18 "KeptMoving$Line" "size" "I", Cond.instanceMethod yX0_isThere, Cond.selects RX0 yX0_isThere yX0_isThere, Cond.code yX0_isThere cX0_isThere 3 (some .boolean), Cond.instanceMethod yX3_insert, Cond.selects RX3 yX3_insert yX3_insert, Cond.code yX3_insert cX3_insert 4 none, Cond.methodLink RX8 116 yX8_countPast, Cond.instanceMethod yX8_countPast, Cond.selects RX8 yX8_countPast yX8_countPast, Cond.code yX8_countPast cX8_countPast 4 (some .int)]
def wsL_law_r11 : List Cond := [Cond.fieldLink RX8 189 "KeptMoving" "bendCount" "I", Cond.methodLink RX8 186 yX8_gatherBends, Cond.instanceMethod yX8_gatherBends, Cond.selects RX8 yX8_gatherBends yX8_gatherBends, Cond.code yX8_gatherBends cX8_gatherBends 2 none, Cond.methodLink RX8 226 yX8_nextBend, Cond.instanceMethod yX8_nextBend, Cond.selects RX8 yX8_nextBend yX8_nextBend, Cond.code yX8_nextBend cX8_nextBend 5 (some .int), Cond.instanceMethod yX0_nextBend, Cond.selects RX0 yX0_nextBend yX0_nextBend, Cond.code yX0_nextBend cX0_nextBend 5 (some .int), Cond.methodLink RX0 39 Lib.Math.min.name, Cond.static Lib.Math.min.name, Cond.code Lib.Math.min.name Lib.Math.min.code 2 (some .int), Cond.methodLink RX8 172 yX8_gatherMeetings, Cond.instanceMethod yX8_gatherMeetings, Cond.selects RX8 yX8_gatherMeetings yX8_gatherMeetings, Cond.code yX8_gatherMeetings cX8_gatherMeetings 5 none, Cond.instanceMethod yX4_clear, Cond.selects RX4 yX4_clear yX4_clear, Cond.code yX4_clear cX4_clear 1 none, Cond.fieldLink RX4 22 "KeptMoving$Meetings" "size" "I", Cond.fieldLink RX4 26 "KeptMoving$Meetings" "passes" "I"]
def wsL_law_r12 : List Cond := [Cond.methodLink RX8 240 yX8_look, Cond.instanceMethod yX8_look, Cond.selects RX8 yX8_look yX8_look, Cond.code yX8_look cX8_look 3 none, Cond.instanceMethod yX5_clear, Cond.selects RX5 yX5_clear yX5_clear, Cond.code yX5_clear cX5_clear 1 none, Cond.fieldLink RX5 22 "KeptMoving$Scene" "size" "I", Cond.instanceMethod yX5_add, Cond.selects RX5 yX5_add yX5_add, Cond.code yX5_add cX5_add 3 none, Cond.instanceMethod yX0_speedAt, Cond.selects RX0 yX0_speedAt yX0_speedAt, Cond.code yX0_speedAt cX0_speedAt 2 (some .int), Cond.instanceMethod yX5_has, Cond.selects RX5 yX5_has yX5_has, Cond.code yX5_has cX5_has 2 (some .boolean), Cond.methodLink RX8 246 yX8_addMeeting, Cond.instanceMethod yX8_addMeeting, Cond.selects RX8 yX8_addMeeting yX8_addMeeting, Cond.code yX8_addMeeting cX8_addMeeting 11 none, Cond.methodLink RX8 256 Lib.Math.abs.name, Cond.static Lib.Math.abs.name, Cond.code Lib.Math.abs.name Lib.Math.abs.code 1 (some .int)]
def wsL_law_r13 : List Cond := [Cond.instanceMethod yX5_gap, Cond.selects RX5 yX5_gap yX5_gap, Cond.code yX5_gap cX5_gap 3 (some .int), Cond.instanceMethod yX5_growth, Cond.selects RX5 yX5_growth yX5_growth, Cond.code yX5_growth cX5_growth 3 (some .int), Cond.static yX2_past, Cond.initialized RX2, Cond.code yX2_past cX2_past 3 (some .long), Cond.methodLink RX2 23 yX2_of, Cond.static yX2_of, Cond.code yX2_of cX2_of 3 (some .long), Cond.methodLink RX2 7 Lib.Math.abs.name, Cond.methodLink RX2 13 yX2_commonDivisor, Cond.static yX2_commonDivisor, Cond.code yX2_commonDivisor cX2_commonDivisor 6 (some .int), Cond.methodLink RX2 19 yX2_whole, Cond.static yX2_whole, Cond.code yX2_whole cX2_whole 1 (some .long), Cond.static yX2_compare, Cond.code yX2_compare cX2_compare 4 (some .int), Cond.methodLink RX2 29 yX2_upper, Cond.static yX2_upper, Cond.code yX2_upper cX2_upper 2 (some .int)]
def wsL_law_r14 : List Cond := [Cond.methodLink RX2 33 yX2_lower, Cond.static yX2_lower, Cond.code yX2_lower cX2_lower 2 (some .int), Cond.constantLong RX2 27 (255), Cond.methodLink RX2 36 yJ13_compare_74951, Cond.static yJ13_compare_74951, Cond.initialized RJ13, Cond.code yJ13_compare_74951 cJ13_compare_74951 4 (some .int), Cond.instanceMethod yX4_insert, Cond.selects RX4 yX4_insert yX4_insert, Cond.code yX4_insert cX4_insert 7 none, Cond.methodLink RX8 274 yX8_addMeetingAtBend, Cond.instanceMethod yX8_addMeetingAtBend, Cond.selects RX8 yX8_addMeetingAtBend yX8_addMeetingAtBend, Cond.code yX8_addMeetingAtBend cX8_addMeetingAtBend 8 none, Cond.methodLink RL 38 yX9_count, Cond.instanceMethod yX9_count, Cond.selects RX9 yX9_count yX9_count, Cond.code yX9_count cX9_count 6 (some .int), Cond.fieldLink RX9 97 "KeptMovingModel" "meetings" "I", Cond.methodLink RX9 94 yX9_findMeetings, Cond.instanceMethod yX9_findMeetings, Cond.selects RX9 yX9_findMeetings yX9_findMeetings, Cond.code yX9_findMeetings cX9_findMeetings 5 none]
def wsL_law_r15 : List Cond := [Cond.methodLink RX9 165 yX9_meet, Cond.instanceMethod yX9_meet, Cond.selects RX9 yX9_meet yX9_meet, Cond.code yX9_meet cX9_meet 19 none, Cond.methodLink RX9 147 yX9_most, Cond.static yX9_most, Cond.code yX9_most cX9_most 2 (some .int), Cond.methodLink RX9 150 yX9_endOf, Cond.instanceMethod yX9_endOf, Cond.selects RX9 yX9_endOf yX9_endOf, Cond.code yX9_endOf cX9_endOf 4 (some .int), Cond.constant RX9 142 (1000000000), Cond.methodLink RX9 143 yX9_least, Cond.static yX9_least, Cond.code yX9_least cX9_least 2 (some .int), Cond.methodLink RX9 153 yX9_isThereBoth, Cond.instanceMethod yX9_isThereBoth, Cond.selects RX9 yX9_isThereBoth yX9_isThereBoth, Cond.code yX9_isThereBoth cX9_isThereBoth 7 (some .boolean), Cond.methodLink RX9 90 yX9_isThere, Cond.instanceMethod yX9_isThere, Cond.selects RX9 yX9_isThere yX9_isThere, Cond.code yX9_isThere cX9_isThere 6 (some .boolean), Cond.methodLink RX9 106 yX9_common]
def wsL_law_r16 : List Cond := [Cond.static yX9_common, Cond.code yX9_common cX9_common 10 (some .long), Cond.methodLink RX9 157 yX9_slopeBehind, Cond.instanceMethod yX9_slopeBehind, Cond.selects RX9 yX9_slopeBehind yX9_slopeBehind, Cond.code yX9_slopeBehind cX9_slopeBehind 7 (some .int), Cond.methodLink RX9 161 yX9_addMeeting, Cond.instanceMethod yX9_addMeeting, Cond.selects RX9 yX9_addMeeting yX9_addMeeting, Cond.code yX9_addMeeting cX9_addMeeting 9 none, Cond.methodLink RX9 100 yX9_thereNow, Cond.instanceMethod yX9_thereNow, Cond.selects RX9 yX9_thereNow yX9_thereNow, Cond.code yX9_thereNow cX9_thereNow 3 (some .int), Cond.methodLink RL 39 yX8_told, Cond.instanceMethod yX8_told, Cond.selects RX8 yX8_told yX8_told, Cond.code yX8_told cX8_told 4 (some .int), Cond.methodLink RL 42 yX9_told, Cond.instanceMethod yX9_told, Cond.selects RX9 yX9_told yX9_told, Cond.code yX9_told cX9_told 3 (some .int), Cond.methodLink RL 43 yX8_place, Cond.instanceMethod yX8_place]
def wsL_law_r17 : List Cond := [Cond.selects RX8 yX8_place yX8_place, Cond.code yX8_place cX8_place 8 (some .long), Cond.constantLong RX8 132 (-100001), Cond.constantLong RX8 138 (-100002), Cond.constantLong RX8 143 (-100003), Cond.methodLink RX8 134 yX8_isMoment, Cond.static yX8_isMoment, Cond.code yX8_isMoment cX8_isMoment 2 (some .boolean), Cond.methodLink RL 47 yX9_place, Cond.instanceMethod yX9_place, Cond.selects RX9 yX9_place yX9_place, Cond.code yX9_place cX9_place 5 (some .long), Cond.constantLong RX9 110 (-100001), Cond.constantLong RX9 116 (-100002), Cond.constantLong RX9 126 (-100003), Cond.methodLink RX9 112 yX9_isMoment, Cond.static yX9_isMoment, Cond.code yX9_isMoment cX9_isMoment 2 (some .boolean), Cond.constantLong RX9 104 (200), Cond.methodLink RX9 118 yX9_placeAt, Cond.instanceMethod yX9_placeAt, Cond.selects RX9 yX9_placeAt yX9_placeAt, Cond.code yX9_placeAt cX9_placeAt 7 (some .long), Cond.methodLink RX9 122 yX9_share]
def wsL_law_r18 : List Cond := [Cond.static yX9_share, Cond.code yX9_share cX9_share 7 (some .long), Cond.methodLink RL 48 yX8_order, Cond.instanceMethod yX8_order, Cond.selects RX8 yX8_order yX8_order, Cond.code yX8_order cX8_order 4 (some .int), Cond.instanceMethod yX3_tell, Cond.selects RX3 yX3_tell yX3_tell, Cond.code yX3_tell cX3_tell 2 (some .int), Cond.methodLink RL 52 yX9_order, Cond.instanceMethod yX9_order, Cond.selects RX9 yX9_order yX9_order, Cond.code yX9_order cX9_order 4 (some .int), Cond.methodLink RX9 131 yX9_findOrder, Cond.instanceMethod yX9_findOrder, Cond.selects RX9 yX9_findOrder yX9_findOrder, Cond.code yX9_findOrder cX9_findOrder 7 none, Cond.fieldLink RX9 128 "KeptMovingModel" "rowMany" "I", Cond.methodLink RX9 135 yX9_rowAt, Cond.instanceMethod yX9_rowAt, Cond.selects RX9 yX9_rowAt yX9_rowAt, Cond.code yX9_rowAt cX9_rowAt 2 (some .int), Cond.methodLink RL 53 yX8_kept, Cond.instanceMethod yX8_kept]
def wsL_law_r19 : List Cond := [Cond.selects RX8 yX8_kept yX8_kept, Cond.code yX8_kept cX8_kept 2 (some .int), Cond.methodLink RL 56 yX9_kept, Cond.instanceMethod yX9_kept, Cond.selects RX9 yX9_kept yX9_kept, Cond.code yX9_kept cX9_kept 2 (some .int), Cond.methodLink RL 57 yX8_at, Cond.instanceMethod yX8_at, Cond.selects RX8 yX8_at yX8_at, Cond.code yX8_at cX8_at 5 (some .int), Cond.instanceMethod yX3_closestUpper, Cond.selects RX3 yX3_closestUpper yX3_closestUpper, Cond.code yX3_closestUpper cX3_closestUpper 5 (some .int), Cond.instanceMethod yX3_heaps, Cond.selects RX3 yX3_heaps yX3_heaps, Cond.code yX3_heaps cX3_heaps 4 (some .int), Cond.methodLink RX3 22 Lib.Math.min.name, Cond.methodLink RL 61 yX9_at, Cond.instanceMethod yX9_at, Cond.selects RX9 yX9_at yX9_at, Cond.code yX9_at cX9_at 12 (some .int), Cond.constantLong RX9 138 (4), Cond.constantLong RX9 140 (2000), Cond.methodLink RL 62 yX8_meeting]
def wsL_law_r20 : List Cond := [Cond.instanceMethod yX8_meeting, Cond.selects RX8 yX8_meeting yX8_meeting, Cond.code yX8_meeting cX8_meeting 3 (some .int), Cond.constant RX8 171 (100000), Cond.instanceMethod yX4_tell, Cond.selects RX4 yX4_tell yX4_tell, Cond.code yX4_tell cX4_tell 3 (some .int), Cond.methodLink RX8 177 yX8_gatherAround, Cond.instanceMethod yX8_gatherAround, Cond.selects RX8 yX8_gatherAround yX8_gatherAround, Cond.code yX8_gatherAround cX8_gatherAround 4 (some .int), Cond.methodLink RL 65 yX9_meeting, Cond.instanceMethod yX9_meeting, Cond.selects RX9 yX9_meeting yX9_meeting, Cond.code yX9_meeting cX9_meeting 5 (some .int), Cond.constantLong RX9 169 (3), Cond.methodLink RL 66 yX8_near, Cond.instanceMethod yX8_near, Cond.selects RX8 yX8_near yX8_near, Cond.code yX8_near cX8_near 8 (some .int), Cond.methodLink RX8 180 yX8_isSpanAsked, Cond.static yX8_isSpanAsked, Cond.code yX8_isSpanAsked cX8_isSpanAsked 2 (some .boolean), Cond.instanceMethod yX6_seek]
def wsL_law_r21 : List Cond := [Cond.selects RX6 yX6_seek yX6_seek, Cond.code yX6_seek cX6_seek 2 none, Cond.fieldLink RX6 9 "KeptMoving$Spans" "sought" "I", Cond.fieldLink RX6 15 "KeptMoving$Spans" "size" "I", Cond.methodLink RX8 192 yX8_openStretch, Cond.instanceMethod yX8_openStretch, Cond.selects RX8 yX8_openStretch yX8_openStretch, Cond.code yX8_openStretch cX8_openStretch 2 none, Cond.instanceMethod yX7_open, Cond.selects RX7 yX7_open yX7_open, Cond.code yX7_open cX7_open 3 none, Cond.fieldLink RX7 7 "KeptMoving$Stretch" "from" "I", Cond.fieldLink RX7 19 "KeptMoving$Stretch" "until" "J", Cond.methodLink RX7 23 yX7_keepAll, Cond.instanceMethod yX7_keepAll, Cond.selects RX7 yX7_keepAll yX7_keepAll, Cond.code yX7_keepAll cX7_keepAll 1 none, Cond.fieldLink RX7 26 "KeptMoving$Stretch" "begin" "J", Cond.fieldLink RX7 29 "KeptMoving$Stretch" "end" "J", Cond.fieldLink RX7 32 "KeptMoving$Stretch" "isNothing" "Z", Cond.methodLink RX8 195 yX8_keepNear, Cond.instanceMethod yX8_keepNear, Cond.selects RX8 yX8_keepNear yX8_keepNear, Cond.code yX8_keepNear cX8_keepNear 4 none]
def wsL_law_r22 : List Cond := [Cond.instanceMethod yX7_keepNothing, Cond.selects RX7 yX7_keepNothing yX7_keepNothing, Cond.code yX7_keepNothing cX7_keepNothing 1 none, Cond.instanceMethod yX7_keepAtMost, Cond.selects RX7 yX7_keepAtMost yX7_keepAtMost, Cond.code yX7_keepAtMost cX7_keepAtMost 6 none, Cond.methodLink RX7 44 yX7_keepNothing, Cond.instanceMethod yX6_addIfSo, Cond.selects RX6 yX6_addIfSo yX6_addIfSo, Cond.code yX6_addIfSo cX6_addIfSo 2 none, Cond.instanceMethod yX7_isSo, Cond.selects RX7 yX7_isSo yX7_isSo, Cond.code yX7_isSo cX7_isSo 2 (some .boolean), Cond.methodLink RX6 31 yX6_add, Cond.instanceMethod yX6_add, Cond.selects RX6 yX6_add yX6_add, Cond.code yX6_add cX6_add 6 none, Cond.fieldLink RX6 35 "KeptMoving$Spans" "latestEnd" "J", Cond.fieldLink RX6 44 "KeptMoving$Spans" "foundBegin" "J", Cond.fieldLink RX6 47 "KeptMoving$Spans" "foundEnd" "J", Cond.instanceMethod yX6_tell, Cond.selects RX6 yX6_tell yX6_tell, Cond.code yX6_tell cX6_tell 4 (some .int), Cond.methodLink RL 70 yX9_near]
def wsL_law_r23 : List Cond := [Cond.instanceMethod yX9_near, Cond.selects RX9 yX9_near yX9_near, Cond.code yX9_near cX9_near 7 (some .int), Cond.fieldLink RX9 182 "KeptMovingModel" "thing" "I", Cond.fieldLink RX9 185 "KeptMovingModel" "one" "I", Cond.fieldLink RX9 188 "KeptMovingModel" "two" "I", Cond.fieldLink RX9 191 "KeptMovingModel" "high" "J", Cond.methodLink RX9 213 yX9_isAsked, Cond.static yX9_isAsked, Cond.code yX9_isAsked cX9_isAsked 2 (some .boolean), Cond.constantLong RX9 211 (600), Cond.methodLink RX9 216 yX9_beginTimes, Cond.instanceMethod yX9_beginTimes, Cond.selects RX9 yX9_beginTimes yX9_beginTimes, Cond.code yX9_beginTimes cX9_beginTimes 4 none, Cond.fieldLink RX9 171 "KeptMovingModel" "times" "I", Cond.methodLink RX9 174 yX9_addTime, Cond.instanceMethod yX9_addTime, Cond.selects RX9 yX9_addTime yX9_addTime, Cond.code yX9_addTime cX9_addTime 8 none, Cond.methodLink RX9 220 yX9_addApart, Cond.instanceMethod yX9_addApart, Cond.selects RX9 yX9_addApart yX9_addApart, Cond.code yX9_addApart cX9_addApart 12 none]
def wsL_law_r24 : List Cond := [Cond.methodLink RX9 178 yX9_addZero, Cond.instanceMethod yX9_addZero, Cond.selects RX9 yX9_addZero yX9_addZero, Cond.code yX9_addZero cX9_addZero 14 none, Cond.methodLink RX9 224 yX9_findSpans, Cond.instanceMethod yX9_findSpans, Cond.selects RX9 yX9_findSpans yX9_findSpans, Cond.code yX9_findSpans cX9_findSpans 4 (some .int), Cond.fieldLink RX9 198 "KeptMovingModel" "spans" "I", Cond.constantLong RX9 209 (2), Cond.methodLink RX9 201 yX9_isSo, Cond.instanceMethod yX9_isSo, Cond.selects RX9 yX9_isSo yX9_isSo, Cond.code yX9_isSo cX9_isSo 10 (some .boolean), Cond.fieldLink RX9 195 "KeptMovingModel" "low" "J", Cond.methodLink RX9 205 yX9_addSpan, Cond.instanceMethod yX9_addSpan, Cond.selects RX9 yX9_addSpan yX9_addSpan, Cond.code yX9_addSpan cX9_addSpan 4 none, Cond.methodLink RL 71 yX8_first, Cond.instanceMethod yX8_first, Cond.selects RX8 yX8_first yX8_first, Cond.code yX8_first cX8_first 6 (some .int), Cond.methodLink RX8 203 yX8_keepFirst]
def wsL_law_r25 : List Cond := [Cond.instanceMethod yX8_keepFirst, Cond.selects RX8 yX8_keepFirst yX8_keepFirst, Cond.code yX8_keepFirst cX8_keepFirst 3 none, Cond.methodLink RL 74 yX9_first, Cond.instanceMethod yX9_first, Cond.selects RX9 yX9_first yX9_first, Cond.code yX9_first cX9_first 6 (some .int), Cond.methodLink RL 75 yX8_within, Cond.instanceMethod yX8_within, Cond.selects RX8 yX8_within yX8_within, Cond.code yX8_within cX8_within 8 (some .int), Cond.methodLink RX8 206 yX8_isWindow, Cond.static yX8_isWindow, Cond.code yX8_isWindow cX8_isWindow 2 (some .boolean), Cond.constant RX8 215 (-60000), Cond.constant RX8 216 (60000), Cond.methodLink RX8 209 yX8_gatherCrowd, Cond.instanceMethod yX8_gatherCrowd, Cond.selects RX8 yX8_gatherCrowd yX8_gatherCrowd, Cond.code yX8_gatherCrowd cX8_gatherCrowd 4 none, Cond.instanceMethod yX1_clear, Cond.selects RX1 yX1_clear yX1_clear, Cond.code yX1_clear cX1_clear 1 none, Cond.fieldLink RX1 18 "KeptMoving$Crowd" "size" "I"]
def wsL_law_r26 : List Cond := [Cond.instanceMethod yX1_addIfSo, Cond.selects RX1 yX1_addIfSo yX1_addIfSo, Cond.code yX1_addIfSo cX1_addIfSo 2 none, Cond.methodLink RX1 32 yX1_insert, Cond.instanceMethod yX1_insert, Cond.selects RX1 yX1_insert yX1_insert, Cond.code yX1_insert cX1_insert 5 none, Cond.methodLink RX8 212 yX8_addCrowded, Cond.instanceMethod yX8_addCrowded, Cond.selects RX8 yX8_addCrowded yX8_addCrowded, Cond.code yX8_addCrowded cX8_addCrowded 8 none, Cond.methodLink RL 78 yX9_within, Cond.instanceMethod yX9_within, Cond.selects RX9 yX9_within yX9_within, Cond.code yX9_within cX9_within 8 (some .int), Cond.constantLong RX9 227 (-60000), Cond.constantLong RX9 229 (60000), Cond.constantLong RX9 231 (10), Cond.methodLink RX9 233 yX9_addAt, Cond.instanceMethod yX9_addAt, Cond.selects RX9 yX9_addAt yX9_addAt, Cond.code yX9_addAt cX9_addAt 6 none]
def wsL_law : List Cond := (wsL_law_r1 ++ (wsL_law_r2 ++ (wsL_law_r3 ++ (wsL_law_r4 ++ (wsL_law_r5 ++ (wsL_law_r6 ++ (wsL_law_r7 ++ (wsL_law_r8 ++ (wsL_law_r9 ++ (wsL_law_r10 ++ (wsL_law_r11 ++ (wsL_law_r12 ++ (wsL_law_r13 ++ (wsL_law_r14 ++ (wsL_law_r15 ++ (wsL_law_r16 ++ (wsL_law_r17 ++ (wsL_law_r18 ++ (wsL_law_r19 ++ (wsL_law_r20 ++ (wsL_law_r21 ++ (wsL_law_r22 ++ (wsL_law_r23 ++ (wsL_law_r24 ++ (wsL_law_r25 ++ wsL_law_r26))))))))))))))))))))))))) ++ wsX80 ++ wsX90 ++ wsX00 ++ wsX30 ++ wsX50 ++ wsX40 ++ wsX70 ++ wsX10 ++ wsX60 ++ ([] : List Cond)
end
section
theorem dX0_init_0 : decode cX0_init 0 = .ok (.aload_n 0, 1) := by decide +kernel
theorem dX0_init_1 : decode cX0_init 1 = .ok (.invokespecial 3, 3) := by decide +kernel
theorem dX0_init_4 : decode cX0_init 4 = .ok (.aload_n 0, 1) := by decide +kernel
theorem dX0_init_5 : decode cX0_init 5 = .ok (.bipush 8, 2) := by decide +kernel
theorem dX0_init_7 : decode cX0_init 7 = .ok (.newarray .int, 2) := by decide +kernel
theorem dX0_init_9 : decode cX0_init 9 = .ok (.putfield 9, 3) := by decide +kernel
theorem dX0_init_12 : decode cX0_init 12 = .ok (.aload_n 0, 1) := by decide +kernel
theorem dX0_init_13 : decode cX0_init 13 = .ok (.bipush 8, 2) := by decide +kernel
theorem dX0_init_15 : decode cX0_init 15 = .ok (.newarray .int, 2) := by decide +kernel
theorem dX0_init_17 : decode cX0_init 17 = .ok (.putfield 15, 3) := by decide +kernel
theorem dX0_init_20 : decode cX0_init 20 = .ok (.aload_n 0, 1) := by decide +kernel
theorem dX0_init_21 : decode cX0_init 21 = .ok (.bipush 8, 2) := by decide +kernel
theorem dX0_init_23 : decode cX0_init 23 = .ok (.newarray .int, 2) := by decide +kernel
theorem dX0_init_25 : decode cX0_init 25 = .ok (.putfield 18, 3) := by decide +kernel
theorem dX0_init_28 : decode cX0_init 28 = .ok (.aload_n 0, 1) := by decide +kernel
theorem dX0_init_29 : decode cX0_init 29 = .ok (.iconst 1, 1) := by decide +kernel
theorem dX0_init_30 : decode cX0_init 30 = .ok (.putfield 21, 3) := by decide +kernel
theorem dX0_init_33 : decode cX0_init 33 = .ok (.aload_n 0, 1) := by decide +kernel
theorem dX0_init_34 : decode cX0_init 34 = .ok (.iconst (-1), 1) := by decide +kernel
theorem dX0_init_35 : decode cX0_init 35 = .ok (.putfield 25, 3) := by decide +kernel
theorem dX0_init_38 : decode cX0_init 38 = .ok (.return_, 1) := by decide +kernel
theorem dX0_begin_0 : decode cX0_begin 0 = .ok (.aload_n 0, 1) := by decide +kernel
theorem dX0_begin_1 : decode cX0_begin 1 = .ok (.iconst 1, 1) := by decide +kernel
theorem dX0_begin_2 : decode cX0_begin 2 = .ok (.putfield 21, 3) := by decide +kernel
theorem dX0_begin_5 : decode cX0_begin 5 = .ok (.aload_n 0, 1) := by decide +kernel
theorem dX0_begin_6 : decode cX0_begin 6 = .ok (.iconst (-1), 1) := by decide +kernel
theorem dX0_begin_7 : decode cX0_begin 7 = .ok (.putfield 25, 3) := by decide +kernel
theorem dX0_begin_10 : decode cX0_begin 10 = .ok (.aload_n 0, 1) := by decide +kernel
theorem dX0_begin_11 : decode cX0_begin 11 = .ok (.getfield 9, 3) := by decide +kernel
theorem dX0_begin_14 : decode cX0_begin 14 = .ok (.iconst 0, 1) := by decide +kernel
theorem dX0_begin_15 : decode cX0_begin 15 = .ok (.iload_n 1, 1) := by decide +kernel
theorem dX0_begin_16 : decode cX0_begin 16 = .ok (.iastore, 1) := by decide +kernel
theorem dX0_begin_17 : decode cX0_begin 17 = .ok (.aload_n 0, 1) := by decide +kernel
theorem dX0_begin_18 : decode cX0_begin 18 = .ok (.getfield 15, 3) := by decide +kernel
theorem dX0_begin_21 : decode cX0_begin 21 = .ok (.iconst 0, 1) := by decide +kernel
theorem dX0_begin_22 : decode cX0_begin 22 = .ok (.iload_n 2, 1) := by decide +kernel
theorem dX0_begin_23 : decode cX0_begin 23 = .ok (.iastore, 1) := by decide +kernel
theorem dX0_begin_24 : decode cX0_begin 24 = .ok (.aload_n 0, 1) := by decide +kernel
theorem dX0_begin_25 : decode cX0_begin 25 = .ok (.getfield 18, 3) := by decide +kernel
theorem dX0_begin_28 : decode cX0_begin 28 = .ok (.iconst 0, 1) := by decide +kernel
theorem dX0_begin_29 : decode cX0_begin 29 = .ok (.iload_n 3, 1) := by decide +kernel
theorem dX0_begin_30 : decode cX0_begin 30 = .ok (.iastore, 1) := by decide +kernel
theorem dX0_begin_31 : decode cX0_begin 31 = .ok (.return_, 1) := by decide +kernel
theorem dX0_began_0 : decode cX0_began 0 = .ok (.aload_n 0, 1) := by decide +kernel
theorem dX0_began_1 : decode cX0_began 1 = .ok (.getfield 9, 3) := by decide +kernel
theorem dX0_began_4 : decode cX0_began 4 = .ok (.iconst 0, 1) := by decide +kernel
theorem dX0_began_5 : decode cX0_began 5 = .ok (.iaload, 1) := by decide +kernel
theorem dX0_began_6 : decode cX0_began 6 = .ok (.ireturn, 1) := by decide +kernel
theorem dX0_isStopped_0 : decode cX0_isStopped 0 = .ok (.aload_n 0, 1) := by decide +kernel
theorem dX0_isStopped_1 : decode cX0_isStopped 1 = .ok (.getfield 25, 3) := by decide +kernel
theorem dX0_isStopped_4 : decode cX0_isStopped 4 = .ok (.iconst (-1), 1) := by decide +kernel
theorem dX0_isStopped_5 : decode cX0_isStopped 5 = .ok (.if_icmp .eq 7, 3) := by decide +kernel
theorem dX0_isStopped_8 : decode cX0_isStopped 8 = .ok (.iconst 1, 1) := by decide +kernel
theorem dX0_isStopped_9 : decode cX0_isStopped 9 = .ok (.goto 4, 3) := by decide +kernel
theorem dX0_isStopped_12 : decode cX0_isStopped 12 = .ok (.iconst 0, 1) := by decide +kernel
theorem dX0_isStopped_13 : decode cX0_isStopped 13 = .ok (.ireturn, 1) := by decide +kernel
theorem dX0_stop_0 : decode cX0_stop 0 = .ok (.aload_n 0, 1) := by decide +kernel
theorem dX0_stop_1 : decode cX0_stop 1 = .ok (.iload_n 1, 1) := by decide +kernel
theorem dX0_stop_2 : decode cX0_stop 2 = .ok (.putfield 25, 3) := by decide +kernel
theorem dX0_stop_5 : decode cX0_stop 5 = .ok (.return_, 1) := by decide +kernel
theorem dX0_canTurn_0 : decode cX0_canTurn 0 = .ok (.aload_n 0, 1) := by decide +kernel
theorem dX0_canTurn_1 : decode cX0_canTurn 1 = .ok (.getfield 21, 3) := by decide +kernel
theorem dX0_canTurn_4 : decode cX0_canTurn 4 = .ok (.bipush 8, 2) := by decide +kernel
theorem dX0_canTurn_6 : decode cX0_canTurn 6 = .ok (.if_icmp .lt 14, 3) := by decide +kernel
theorem dX0_canTurn_9 : decode cX0_canTurn 9 = .ok (.aload_n 0, 1) := by decide +kernel
theorem dX0_canTurn_10 : decode cX0_canTurn 10 = .ok (.getfield 9, 3) := by decide +kernel
theorem dX0_canTurn_13 : decode cX0_canTurn 13 = .ok (.bipush 7, 2) := by decide +kernel
theorem dX0_canTurn_15 : decode cX0_canTurn 15 = .ok (.iaload, 1) := by decide +kernel
theorem dX0_canTurn_16 : decode cX0_canTurn 16 = .ok (.iload_n 1, 1) := by decide +kernel
theorem dX0_canTurn_17 : decode cX0_canTurn 17 = .ok (.if_icmp .ne 7, 3) := by decide +kernel
theorem dX0_canTurn_20 : decode cX0_canTurn 20 = .ok (.iconst 1, 1) := by decide +kernel
theorem dX0_canTurn_21 : decode cX0_canTurn 21 = .ok (.goto 4, 3) := by decide +kernel
theorem dX0_canTurn_24 : decode cX0_canTurn 24 = .ok (.iconst 0, 1) := by decide +kernel
theorem dX0_canTurn_25 : decode cX0_canTurn 25 = .ok (.ireturn, 1) := by decide +kernel
theorem dX0_latestSpeed_0 : decode cX0_latestSpeed 0 = .ok (.aload_n 0, 1) := by decide +kernel
theorem dX0_latestSpeed_1 : decode cX0_latestSpeed 1 = .ok (.getfield 18, 3) := by decide +kernel
theorem dX0_latestSpeed_4 : decode cX0_latestSpeed 4 = .ok (.aload_n 0, 1) := by decide +kernel
theorem dX0_latestSpeed_5 : decode cX0_latestSpeed 5 = .ok (.getfield 21, 3) := by decide +kernel
theorem dX0_latestSpeed_8 : decode cX0_latestSpeed 8 = .ok (.iconst 1, 1) := by decide +kernel
theorem dX0_latestSpeed_9 : decode cX0_latestSpeed 9 = .ok (.isub, 1) := by decide +kernel
theorem dX0_latestSpeed_10 : decode cX0_latestSpeed 10 = .ok (.iaload, 1) := by decide +kernel
theorem dX0_latestSpeed_11 : decode cX0_latestSpeed 11 = .ok (.ireturn, 1) := by decide +kernel
set_option maxRecDepth 20000 in
theorem ggX0_turn_X0_placeAt : GoodIn wsX0_turn wsX0_placeAt := goodIn_r _ [9, 10, 11, 12, 8, 13, 3, 4, 1, 14, 15, 16, 17, 2, 18, 19, 20, 21, 22] (by decide +kernel) (by decide +kernel)
set_option maxRecDepth 20000 in
theorem gX0_turn_X0_placeAt : GoodIn wsX0_turn (wsV RX0 28 RX0 yX0_placeAt wsX0_placeAt) := goodIn_app (goodIn_of _ (by decide +kernel)) ggX0_turn_X0_placeAt
theorem dX0_turn_0 : decode cX0_turn 0 = .ok (.aload_n 0, 1) := by decide +kernel
theorem dX0_turn_1 : decode cX0_turn 1 = .ok (.getfield 9, 3) := by decide +kernel
theorem dX0_turn_4 : decode cX0_turn 4 = .ok (.aload_n 0, 1) := by decide +kernel
theorem dX0_turn_5 : decode cX0_turn 5 = .ok (.getfield 21, 3) := by decide +kernel
theorem dX0_turn_8 : decode cX0_turn 8 = .ok (.iconst 1, 1) := by decide +kernel
theorem dX0_turn_9 : decode cX0_turn 9 = .ok (.isub, 1) := by decide +kernel
theorem dX0_turn_10 : decode cX0_turn 10 = .ok (.iaload, 1) := by decide +kernel
theorem dX0_turn_11 : decode cX0_turn 11 = .ok (.iload_n 1, 1) := by decide +kernel
theorem dX0_turn_12 : decode cX0_turn 12 = .ok (.if_icmp .eq 46, 3) := by decide +kernel
theorem dX0_turn_15 : decode cX0_turn 15 = .ok (.aload_n 0, 1) := by decide +kernel
theorem dX0_turn_16 : decode cX0_turn 16 = .ok (.getfield 21, 3) := by decide +kernel
theorem dX0_turn_19 : decode cX0_turn 19 = .ok (.bipush 8, 2) := by decide +kernel
theorem dX0_turn_21 : decode cX0_turn 21 = .ok (.if_icmp .ge 37, 3) := by decide +kernel
theorem dX0_turn_24 : decode cX0_turn 24 = .ok (.aload_n 0, 1) := by decide +kernel
theorem dX0_turn_25 : decode cX0_turn 25 = .ok (.getfield 9, 3) := by decide +kernel
theorem dX0_turn_28 : decode cX0_turn 28 = .ok (.aload_n 0, 1) := by decide +kernel
theorem dX0_turn_29 : decode cX0_turn 29 = .ok (.getfield 21, 3) := by decide +kernel
theorem dX0_turn_32 : decode cX0_turn 32 = .ok (.iload_n 1, 1) := by decide +kernel
theorem dX0_turn_33 : decode cX0_turn 33 = .ok (.iastore, 1) := by decide +kernel
theorem dX0_turn_34 : decode cX0_turn 34 = .ok (.aload_n 0, 1) := by decide +kernel
theorem dX0_turn_35 : decode cX0_turn 35 = .ok (.getfield 15, 3) := by decide +kernel
theorem dX0_turn_38 : decode cX0_turn 38 = .ok (.aload_n 0, 1) := by decide +kernel
theorem dX0_turn_39 : decode cX0_turn 39 = .ok (.getfield 21, 3) := by decide +kernel
theorem dX0_turn_42 : decode cX0_turn 42 = .ok (.aload_n 0, 1) := by decide +kernel
theorem dX0_turn_43 : decode cX0_turn 43 = .ok (.iload_n 1, 1) := by decide +kernel
theorem dX0_turn_44 : decode cX0_turn 44 = .ok (.invokevirtual 28, 3) := by decide +kernel
theorem dX0_turn_47 : decode cX0_turn 47 = .ok (.iastore, 1) := by decide +kernel
theorem dX0_turn_48 : decode cX0_turn 48 = .ok (.aload_n 0, 1) := by decide +kernel
theorem dX0_turn_49 : decode cX0_turn 49 = .ok (.dup, 1) := by decide +kernel
theorem dX0_turn_50 : decode cX0_turn 50 = .ok (.getfield 21, 3) := by decide +kernel
theorem dX0_turn_53 : decode cX0_turn 53 = .ok (.iconst 1, 1) := by decide +kernel
theorem dX0_turn_54 : decode cX0_turn 54 = .ok (.iadd, 1) := by decide +kernel
theorem dX0_turn_55 : decode cX0_turn 55 = .ok (.putfield 21, 3) := by decide +kernel
theorem dX0_turn_58 : decode cX0_turn 58 = .ok (.aload_n 0, 1) := by decide +kernel
theorem dX0_turn_59 : decode cX0_turn 59 = .ok (.getfield 18, 3) := by decide +kernel
theorem dX0_turn_62 : decode cX0_turn 62 = .ok (.aload_n 0, 1) := by decide +kernel
theorem dX0_turn_63 : decode cX0_turn 63 = .ok (.getfield 21, 3) := by decide +kernel
theorem dX0_turn_66 : decode cX0_turn 66 = .ok (.iconst 1, 1) := by decide +kernel
theorem dX0_turn_67 : decode cX0_turn 67 = .ok (.isub, 1) := by decide +kernel
theorem dX0_turn_68 : decode cX0_turn 68 = .ok (.iload_n 2, 1) := by decide +kernel
theorem dX0_turn_69 : decode cX0_turn 69 = .ok (.iastore, 1) := by decide +kernel
theorem dX0_turn_70 : decode cX0_turn 70 = .ok (.return_, 1) := by decide +kernel
theorem dX0_undoFrom_0 : decode cX0_undoFrom 0 = .ok (.aload_n 0, 1) := by decide +kernel
theorem dX0_undoFrom_1 : decode cX0_undoFrom 1 = .ok (.getfield 21, 3) := by decide +kernel
theorem dX0_undoFrom_4 : decode cX0_undoFrom 4 = .ok (.iconst 1, 1) := by decide +kernel
theorem dX0_undoFrom_5 : decode cX0_undoFrom 5 = .ok (.if_icmp .le 31, 3) := by decide +kernel
theorem dX0_undoFrom_8 : decode cX0_undoFrom 8 = .ok (.aload_n 0, 1) := by decide +kernel
theorem dX0_undoFrom_9 : decode cX0_undoFrom 9 = .ok (.getfield 9, 3) := by decide +kernel
theorem dX0_undoFrom_12 : decode cX0_undoFrom 12 = .ok (.aload_n 0, 1) := by decide +kernel
theorem dX0_undoFrom_13 : decode cX0_undoFrom 13 = .ok (.getfield 21, 3) := by decide +kernel
theorem dX0_undoFrom_16 : decode cX0_undoFrom 16 = .ok (.iconst 1, 1) := by decide +kernel
theorem dX0_undoFrom_17 : decode cX0_undoFrom 17 = .ok (.isub, 1) := by decide +kernel
theorem dX0_undoFrom_18 : decode cX0_undoFrom 18 = .ok (.iaload, 1) := by decide +kernel
theorem dX0_undoFrom_19 : decode cX0_undoFrom 19 = .ok (.iload_n 1, 1) := by decide +kernel
theorem dX0_undoFrom_20 : decode cX0_undoFrom 20 = .ok (.if_icmp .lt 16, 3) := by decide +kernel
theorem dX0_undoFrom_23 : decode cX0_undoFrom 23 = .ok (.aload_n 0, 1) := by decide +kernel
theorem dX0_undoFrom_24 : decode cX0_undoFrom 24 = .ok (.dup, 1) := by decide +kernel
theorem dX0_undoFrom_25 : decode cX0_undoFrom 25 = .ok (.getfield 21, 3) := by decide +kernel
theorem dX0_undoFrom_28 : decode cX0_undoFrom 28 = .ok (.iconst 1, 1) := by decide +kernel
theorem dX0_undoFrom_29 : decode cX0_undoFrom 29 = .ok (.isub, 1) := by decide +kernel
theorem dX0_undoFrom_30 : decode cX0_undoFrom 30 = .ok (.putfield 21, 3) := by decide +kernel
theorem dX0_undoFrom_33 : decode cX0_undoFrom 33 = .ok (.goto (-33), 3) := by decide +kernel
theorem dX0_undoFrom_36 : decode cX0_undoFrom 36 = .ok (.aload_n 0, 1) := by decide +kernel
theorem dX0_undoFrom_37 : decode cX0_undoFrom 37 = .ok (.getfield 25, 3) := by decide +kernel
theorem dX0_undoFrom_40 : decode cX0_undoFrom 40 = .ok (.iload_n 1, 1) := by decide +kernel
theorem dX0_undoFrom_41 : decode cX0_undoFrom 41 = .ok (.if_icmp .lt 8, 3) := by decide +kernel
theorem dX0_undoFrom_44 : decode cX0_undoFrom 44 = .ok (.aload_n 0, 1) := by decide +kernel
theorem dX0_undoFrom_45 : decode cX0_undoFrom 45 = .ok (.iconst (-1), 1) := by decide +kernel
theorem dX0_undoFrom_46 : decode cX0_undoFrom 46 = .ok (.putfield 25, 3) := by decide +kernel
theorem dX0_undoFrom_49 : decode cX0_undoFrom 49 = .ok (.return_, 1) := by decide +kernel
theorem dX0_isThere_0 : decode cX0_isThere 0 = .ok (.aload_n 0, 1) := by decide +kernel
theorem dX0_isThere_1 : decode cX0_isThere 1 = .ok (.getfield 9, 3) := by decide +kernel
theorem dX0_isThere_4 : decode cX0_isThere 4 = .ok (.iconst 0, 1) := by decide +kernel
theorem dX0_isThere_5 : decode cX0_isThere 5 = .ok (.iaload, 1) := by decide +kernel
theorem dX0_isThere_6 : decode cX0_isThere 6 = .ok (.iload_n 2, 1) := by decide +kernel
theorem dX0_isThere_7 : decode cX0_isThere 7 = .ok (.imul, 1) := by decide +kernel
theorem dX0_isThere_8 : decode cX0_isThere 8 = .ok (.iload_n 1, 1) := by decide +kernel
theorem dX0_isThere_9 : decode cX0_isThere 9 = .ok (.if_icmp .gt 25, 3) := by decide +kernel
theorem dX0_isThere_12 : decode cX0_isThere 12 = .ok (.aload_n 0, 1) := by decide +kernel
theorem dX0_isThere_13 : decode cX0_isThere 13 = .ok (.getfield 25, 3) := by decide +kernel
theorem dX0_isThere_16 : decode cX0_isThere 16 = .ok (.iconst (-1), 1) := by decide +kernel
theorem dX0_isThere_17 : decode cX0_isThere 17 = .ok (.if_icmp .eq 13, 3) := by decide +kernel
theorem dX0_isThere_20 : decode cX0_isThere 20 = .ok (.iload_n 1, 1) := by decide +kernel
theorem dX0_isThere_21 : decode cX0_isThere 21 = .ok (.aload_n 0, 1) := by decide +kernel
theorem dX0_isThere_22 : decode cX0_isThere 22 = .ok (.getfield 25, 3) := by decide +kernel
theorem dX0_isThere_25 : decode cX0_isThere 25 = .ok (.iload_n 2, 1) := by decide +kernel
theorem dX0_isThere_26 : decode cX0_isThere 26 = .ok (.imul, 1) := by decide +kernel
theorem dX0_isThere_27 : decode cX0_isThere 27 = .ok (.if_icmp .ge 7, 3) := by decide +kernel
theorem dX0_isThere_30 : decode cX0_isThere 30 = .ok (.iconst 1, 1) := by decide +kernel
theorem dX0_isThere_31 : decode cX0_isThere 31 = .ok (.goto 4, 3) := by decide +kernel
theorem dX0_isThere_34 : decode cX0_isThere 34 = .ok (.iconst 0, 1) := by decide +kernel
theorem dX0_isThere_35 : decode cX0_isThere 35 = .ok (.ireturn, 1) := by decide +kernel
theorem dX0_pieceAt_0 : decode cX0_pieceAt 0 = .ok (.iconst 0, 1) := by decide +kernel
theorem dX0_pieceAt_1 : decode cX0_pieceAt 1 = .ok (.istore_n 3, 1) := by decide +kernel
theorem dX0_pieceAt_2 : decode cX0_pieceAt 2 = .ok (.iconst 1, 1) := by decide +kernel
theorem dX0_pieceAt_3 : decode cX0_pieceAt 3 = .ok (.istore 4, 2) := by decide +kernel
theorem dX0_pieceAt_5 : decode cX0_pieceAt 5 = .ok (.iload 4, 2) := by decide +kernel
theorem dX0_pieceAt_7 : decode cX0_pieceAt 7 = .ok (.aload_n 0, 1) := by decide +kernel
theorem dX0_pieceAt_8 : decode cX0_pieceAt 8 = .ok (.getfield 21, 3) := by decide +kernel
theorem dX0_pieceAt_11 : decode cX0_pieceAt 11 = .ok (.if_icmp .ge 25, 3) := by decide +kernel
theorem dX0_pieceAt_14 : decode cX0_pieceAt 14 = .ok (.aload_n 0, 1) := by decide +kernel
theorem dX0_pieceAt_15 : decode cX0_pieceAt 15 = .ok (.getfield 9, 3) := by decide +kernel
theorem dX0_pieceAt_18 : decode cX0_pieceAt 18 = .ok (.iload 4, 2) := by decide +kernel
theorem dX0_pieceAt_20 : decode cX0_pieceAt 20 = .ok (.iaload, 1) := by decide +kernel
theorem dX0_pieceAt_21 : decode cX0_pieceAt 21 = .ok (.iload_n 2, 1) := by decide +kernel
theorem dX0_pieceAt_22 : decode cX0_pieceAt 22 = .ok (.imul, 1) := by decide +kernel
theorem dX0_pieceAt_23 : decode cX0_pieceAt 23 = .ok (.iload_n 1, 1) := by decide +kernel
theorem dX0_pieceAt_24 : decode cX0_pieceAt 24 = .ok (.if_icmp .gt 6, 3) := by decide +kernel
theorem dX0_pieceAt_27 : decode cX0_pieceAt 27 = .ok (.iload 4, 2) := by decide +kernel
theorem dX0_pieceAt_29 : decode cX0_pieceAt 29 = .ok (.istore_n 3, 1) := by decide +kernel
theorem dX0_pieceAt_30 : decode cX0_pieceAt 30 = .ok (.iinc 4 1, 3) := by decide +kernel
theorem dX0_pieceAt_33 : decode cX0_pieceAt 33 = .ok (.goto (-28), 3) := by decide +kernel
theorem dX0_pieceAt_36 : decode cX0_pieceAt 36 = .ok (.iload_n 3, 1) := by decide +kernel
theorem dX0_pieceAt_37 : decode cX0_pieceAt 37 = .ok (.ireturn, 1) := by decide +kernel
set_option maxRecDepth 20000 in
theorem ggX0_upperAt_X0_pieceAt : GoodIn wsX0_upperAt wsX0_pieceAt := goodIn_r _ [8, 9, 3, 10, 11, 12, 13, 14] (by decide +kernel) (by decide +kernel)
set_option maxRecDepth 20000 in
theorem gX0_upperAt_X0_pieceAt : GoodIn wsX0_upperAt (wsV RX0 32 RX0 yX0_pieceAt wsX0_pieceAt) := goodIn_app (goodIn_of _ (by decide +kernel)) ggX0_upperAt_X0_pieceAt
theorem dX0_upperAt_0 : decode cX0_upperAt 0 = .ok (.aload_n 0, 1) := by decide +kernel
theorem dX0_upperAt_1 : decode cX0_upperAt 1 = .ok (.iload_n 1, 1) := by decide +kernel
theorem dX0_upperAt_2 : decode cX0_upperAt 2 = .ok (.iload_n 2, 1) := by decide +kernel
theorem dX0_upperAt_3 : decode cX0_upperAt 3 = .ok (.invokevirtual 32, 3) := by decide +kernel
theorem dX0_upperAt_6 : decode cX0_upperAt 6 = .ok (.istore_n 3, 1) := by decide +kernel
theorem dX0_upperAt_7 : decode cX0_upperAt 7 = .ok (.aload_n 0, 1) := by decide +kernel
theorem dX0_upperAt_8 : decode cX0_upperAt 8 = .ok (.getfield 15, 3) := by decide +kernel
theorem dX0_upperAt_11 : decode cX0_upperAt 11 = .ok (.iload_n 3, 1) := by decide +kernel
theorem dX0_upperAt_12 : decode cX0_upperAt 12 = .ok (.iaload, 1) := by decide +kernel
theorem dX0_upperAt_13 : decode cX0_upperAt 13 = .ok (.iload_n 2, 1) := by decide +kernel
theorem dX0_upperAt_14 : decode cX0_upperAt 14 = .ok (.imul, 1) := by decide +kernel
theorem dX0_upperAt_15 : decode cX0_upperAt 15 = .ok (.aload_n 0, 1) := by decide +kernel
theorem dX0_upperAt_16 : decode cX0_upperAt 16 = .ok (.getfield 18, 3) := by decide +kernel
theorem dX0_upperAt_19 : decode cX0_upperAt 19 = .ok (.iload_n 3, 1) := by decide +kernel
theorem dX0_upperAt_20 : decode cX0_upperAt 20 = .ok (.iaload, 1) := by decide +kernel
theorem dX0_upperAt_21 : decode cX0_upperAt 21 = .ok (.iload_n 1, 1) := by decide +kernel
theorem dX0_upperAt_22 : decode cX0_upperAt 22 = .ok (.aload_n 0, 1) := by decide +kernel
theorem dX0_upperAt_23 : decode cX0_upperAt 23 = .ok (.getfield 9, 3) := by decide +kernel
theorem dX0_upperAt_26 : decode cX0_upperAt 26 = .ok (.iload_n 3, 1) := by decide +kernel
theorem dX0_upperAt_27 : decode cX0_upperAt 27 = .ok (.iaload, 1) := by decide +kernel
theorem dX0_upperAt_28 : decode cX0_upperAt 28 = .ok (.iload_n 2, 1) := by decide +kernel
theorem dX0_upperAt_29 : decode cX0_upperAt 29 = .ok (.imul, 1) := by decide +kernel
theorem dX0_upperAt_30 : decode cX0_upperAt 30 = .ok (.isub, 1) := by decide +kernel
theorem dX0_upperAt_31 : decode cX0_upperAt 31 = .ok (.imul, 1) := by decide +kernel
theorem dX0_upperAt_32 : decode cX0_upperAt 32 = .ok (.iadd, 1) := by decide +kernel
theorem dX0_upperAt_33 : decode cX0_upperAt 33 = .ok (.ireturn, 1) := by decide +kernel
set_option maxRecDepth 20000 in
theorem ggX0_placeAt_X0_upperAt : GoodIn wsX0_placeAt wsX0_upperAt := goodIn_r _ [5, 6, 7, 8, 9, 10, 11, 4, 12, 13, 14, 15, 16, 17, 18] (by decide +kernel) (by decide +kernel)
set_option maxRecDepth 20000 in
theorem gX0_placeAt_X0_upperAt : GoodIn wsX0_placeAt (wsV RX0 36 RX0 yX0_upperAt wsX0_upperAt) := goodIn_app (goodIn_of _ (by decide +kernel)) ggX0_placeAt_X0_upperAt
theorem dX0_placeAt_0 : decode cX0_placeAt 0 = .ok (.aload_n 0, 1) := by decide +kernel
theorem dX0_placeAt_1 : decode cX0_placeAt 1 = .ok (.iload_n 1, 1) := by decide +kernel
theorem dX0_placeAt_2 : decode cX0_placeAt 2 = .ok (.iconst 1, 1) := by decide +kernel
theorem dX0_placeAt_3 : decode cX0_placeAt 3 = .ok (.invokevirtual 36, 3) := by decide +kernel
theorem dX0_placeAt_6 : decode cX0_placeAt 6 = .ok (.ireturn, 1) := by decide +kernel
set_option maxRecDepth 20000 in
theorem ggX0_speedAt_X0_pieceAt : GoodIn wsX0_speedAt wsX0_pieceAt := goodIn_r _ [6, 7, 8, 9, 10, 11, 12, 13] (by decide +kernel) (by decide +kernel)
set_option maxRecDepth 20000 in
theorem gX0_speedAt_X0_pieceAt : GoodIn wsX0_speedAt (wsV RX0 32 RX0 yX0_pieceAt wsX0_pieceAt) := goodIn_app (goodIn_of _ (by decide +kernel)) ggX0_speedAt_X0_pieceAt
theorem dX0_speedAt_0 : decode cX0_speedAt 0 = .ok (.aload_n 0, 1) := by decide +kernel
theorem dX0_speedAt_1 : decode cX0_speedAt 1 = .ok (.getfield 18, 3) := by decide +kernel
theorem dX0_speedAt_4 : decode cX0_speedAt 4 = .ok (.aload_n 0, 1) := by decide +kernel
theorem dX0_speedAt_5 : decode cX0_speedAt 5 = .ok (.iload_n 1, 1) := by decide +kernel
theorem dX0_speedAt_6 : decode cX0_speedAt 6 = .ok (.iconst 1, 1) := by decide +kernel
theorem dX0_speedAt_7 : decode cX0_speedAt 7 = .ok (.invokevirtual 32, 3) := by decide +kernel
theorem dX0_speedAt_10 : decode cX0_speedAt 10 = .ok (.iaload, 1) := by decide +kernel
theorem dX0_speedAt_11 : decode cX0_speedAt 11 = .ok (.ireturn, 1) := by decide +kernel
theorem dX0_nextBend_0 : decode cX0_nextBend 0 = .ok (.iload_n 2, 1) := by decide +kernel
theorem dX0_nextBend_1 : decode cX0_nextBend 1 = .ok (.istore_n 3, 1) := by decide +kernel
theorem dX0_nextBend_2 : decode cX0_nextBend 2 = .ok (.iconst 0, 1) := by decide +kernel
theorem dX0_nextBend_3 : decode cX0_nextBend 3 = .ok (.istore 4, 2) := by decide +kernel
theorem dX0_nextBend_5 : decode cX0_nextBend 5 = .ok (.iload 4, 2) := by decide +kernel
theorem dX0_nextBend_7 : decode cX0_nextBend 7 = .ok (.aload_n 0, 1) := by decide +kernel
theorem dX0_nextBend_8 : decode cX0_nextBend 8 = .ok (.getfield 21, 3) := by decide +kernel
theorem dX0_nextBend_11 : decode cX0_nextBend 11 = .ok (.if_icmp .ge 32, 3) := by decide +kernel
theorem dX0_nextBend_14 : decode cX0_nextBend 14 = .ok (.aload_n 0, 1) := by decide +kernel
theorem dX0_nextBend_15 : decode cX0_nextBend 15 = .ok (.getfield 9, 3) := by decide +kernel
theorem dX0_nextBend_18 : decode cX0_nextBend 18 = .ok (.iload 4, 2) := by decide +kernel
theorem dX0_nextBend_20 : decode cX0_nextBend 20 = .ok (.iaload, 1) := by decide +kernel
theorem dX0_nextBend_21 : decode cX0_nextBend 21 = .ok (.iload_n 1, 1) := by decide +kernel
theorem dX0_nextBend_22 : decode cX0_nextBend 22 = .ok (.if_icmp .le 15, 3) := by decide +kernel
theorem dX0_nextBend_25 : decode cX0_nextBend 25 = .ok (.iload_n 3, 1) := by decide +kernel
theorem dX0_nextBend_26 : decode cX0_nextBend 26 = .ok (.aload_n 0, 1) := by decide +kernel
theorem dX0_nextBend_27 : decode cX0_nextBend 27 = .ok (.getfield 9, 3) := by decide +kernel
theorem dX0_nextBend_30 : decode cX0_nextBend 30 = .ok (.iload 4, 2) := by decide +kernel
theorem dX0_nextBend_32 : decode cX0_nextBend 32 = .ok (.iaload, 1) := by decide +kernel
theorem dX0_nextBend_33 : decode cX0_nextBend 33 = .ok (.invokestatic 39, 3) := by decide +kernel
theorem dX0_nextBend_36 : decode cX0_nextBend 36 = .ok (.istore_n 3, 1) := by decide +kernel
theorem dX0_nextBend_37 : decode cX0_nextBend 37 = .ok (.iinc 4 1, 3) := by decide +kernel
theorem dX0_nextBend_40 : decode cX0_nextBend 40 = .ok (.goto (-35), 3) := by decide +kernel
theorem dX0_nextBend_43 : decode cX0_nextBend 43 = .ok (.aload_n 0, 1) := by decide +kernel
theorem dX0_nextBend_44 : decode cX0_nextBend 44 = .ok (.getfield 25, 3) := by decide +kernel
theorem dX0_nextBend_47 : decode cX0_nextBend 47 = .ok (.iload_n 1, 1) := by decide +kernel
theorem dX0_nextBend_48 : decode cX0_nextBend 48 = .ok (.if_icmp .le 12, 3) := by decide +kernel
theorem dX0_nextBend_51 : decode cX0_nextBend 51 = .ok (.iload_n 3, 1) := by decide +kernel
theorem dX0_nextBend_52 : decode cX0_nextBend 52 = .ok (.aload_n 0, 1) := by decide +kernel
theorem dX0_nextBend_53 : decode cX0_nextBend 53 = .ok (.getfield 25, 3) := by decide +kernel
theorem dX0_nextBend_56 : decode cX0_nextBend 56 = .ok (.invokestatic 39, 3) := by decide +kernel
theorem dX0_nextBend_59 : decode cX0_nextBend 59 = .ok (.istore_n 3, 1) := by decide +kernel
theorem dX0_nextBend_60 : decode cX0_nextBend 60 = .ok (.iload_n 3, 1) := by decide +kernel
theorem dX0_nextBend_61 : decode cX0_nextBend 61 = .ok (.ireturn, 1) := by decide +kernel
theorem dX1_init_0 : decode cX1_init 0 = .ok (.aload_n 0, 1) := by decide +kernel
theorem dX1_init_1 : decode cX1_init 1 = .ok (.invokespecial 3, 3) := by decide +kernel
theorem dX1_init_4 : decode cX1_init 4 = .ok (.aload_n 0, 1) := by decide +kernel
theorem dX1_init_5 : decode cX1_init 5 = .ok (.bipush 10, 2) := by decide +kernel
theorem dX1_init_7 : decode cX1_init 7 = .ok (.newarray .long, 2) := by decide +kernel
theorem dX1_init_9 : decode cX1_init 9 = .ok (.putfield 9, 3) := by decide +kernel
theorem dX1_init_12 : decode cX1_init 12 = .ok (.aload_n 0, 1) := by decide +kernel
theorem dX1_init_13 : decode cX1_init 13 = .ok (.bipush 10, 2) := by decide +kernel
theorem dX1_init_15 : decode cX1_init 15 = .ok (.newarray .long, 2) := by decide +kernel
theorem dX1_init_17 : decode cX1_init 17 = .ok (.putfield 15, 3) := by decide +kernel
theorem dX1_init_20 : decode cX1_init 20 = .ok (.return_, 1) := by decide +kernel
theorem dX1_clear_0 : decode cX1_clear 0 = .ok (.aload_n 0, 1) := by decide +kernel
theorem dX1_clear_1 : decode cX1_clear 1 = .ok (.iconst 0, 1) := by decide +kernel
theorem dX1_clear_2 : decode cX1_clear 2 = .ok (.putfield 18, 3) := by decide +kernel
theorem dX1_clear_5 : decode cX1_clear 5 = .ok (.return_, 1) := by decide +kernel
set_option maxRecDepth 20000 in
theorem ggX1_addIfSo_X7_isSo : GoodIn wsX1_addIfSo wsX7_isSo := goodIn_r _ [7, 8, 9, 10, 11, 12, 13, 14, 15, 16, 17, 18, 19, 20, 21, 22, 23, 24, 25, 26, 35, 36, 37, 38, 39] (by decide +kernel) (by decide +kernel)
set_option maxRecDepth 20000 in
theorem gX1_addIfSo_X7_isSo_n22 : GoodIn wsX1_addIfSo (wsX7_isSo) := ggX1_addIfSo_X7_isSo
set_option maxRecDepth 20000 in
theorem ggX1_addIfSo_X1_insert : GoodIn wsX1_addIfSo wsX1_insert := goodIn_r _ [31, 1, 16, 14, 17, 18, 13, 15, 19, 20, 21, 22, 23, 24, 25, 26, 32, 33, 34] (by decide +kernel) (by decide +kernel)
set_option maxRecDepth 20000 in
theorem gX1_addIfSo_X1_insert : GoodIn wsX1_addIfSo (wsV RX1 32 RX1 yX1_insert wsX1_insert) := goodIn_app (goodIn_of _ (by decide +kernel)) ggX1_addIfSo_X1_insert
theorem dX1_addIfSo_0 : decode cX1_addIfSo 0 = .ok (.aload_n 0, 1) := by decide +kernel
theorem dX1_addIfSo_1 : decode cX1_addIfSo 1 = .ok (.getfield 18, 3) := by decide +kernel
theorem dX1_addIfSo_4 : decode cX1_addIfSo 4 = .ok (.bipush 10, 2) := by decide +kernel
theorem dX1_addIfSo_6 : decode cX1_addIfSo 6 = .ok (.if_icmp .ge 44, 3) := by decide +kernel
theorem dX1_addIfSo_9 : decode cX1_addIfSo 9 = .ok (.aload_n 1, 1) := by decide +kernel
theorem dX1_addIfSo_10 : decode cX1_addIfSo 10 = .ok (.invokevirtual 22, 3) := by decide +kernel
theorem dX1_addIfSo_13 : decode cX1_addIfSo 13 = .ok (.ifCond .eq 37, 3) := by decide +kernel
theorem dX1_addIfSo_16 : decode cX1_addIfSo 16 = .ok (.aload_n 0, 1) := by decide +kernel
theorem dX1_addIfSo_17 : decode cX1_addIfSo 17 = .ok (.aload_n 0, 1) := by decide +kernel
theorem dX1_addIfSo_18 : decode cX1_addIfSo 18 = .ok (.getfield 9, 3) := by decide +kernel
theorem dX1_addIfSo_21 : decode cX1_addIfSo 21 = .ok (.aload_n 1, 1) := by decide +kernel
theorem dX1_addIfSo_22 : decode cX1_addIfSo 22 = .ok (.getfield 28, 3) := by decide +kernel
theorem dX1_addIfSo_25 : decode cX1_addIfSo 25 = .ok (.invokevirtual 32, 3) := by decide +kernel
theorem dX1_addIfSo_28 : decode cX1_addIfSo 28 = .ok (.aload_n 0, 1) := by decide +kernel
theorem dX1_addIfSo_29 : decode cX1_addIfSo 29 = .ok (.aload_n 0, 1) := by decide +kernel
theorem dX1_addIfSo_30 : decode cX1_addIfSo 30 = .ok (.getfield 15, 3) := by decide +kernel
theorem dX1_addIfSo_33 : decode cX1_addIfSo 33 = .ok (.aload_n 1, 1) := by decide +kernel
theorem dX1_addIfSo_34 : decode cX1_addIfSo 34 = .ok (.getfield 36, 3) := by decide +kernel
theorem dX1_addIfSo_37 : decode cX1_addIfSo 37 = .ok (.invokevirtual 32, 3) := by decide +kernel
theorem dX1_addIfSo_40 : decode cX1_addIfSo 40 = .ok (.aload_n 0, 1) := by decide +kernel
theorem dX1_addIfSo_41 : decode cX1_addIfSo 41 = .ok (.dup, 1) := by decide +kernel
theorem dX1_addIfSo_42 : decode cX1_addIfSo 42 = .ok (.getfield 18, 3) := by decide +kernel
theorem dX1_addIfSo_45 : decode cX1_addIfSo 45 = .ok (.iconst 1, 1) := by decide +kernel
theorem dX1_addIfSo_46 : decode cX1_addIfSo 46 = .ok (.iadd, 1) := by decide +kernel
theorem dX1_addIfSo_47 : decode cX1_addIfSo 47 = .ok (.putfield 18, 3) := by decide +kernel
theorem dX1_addIfSo_50 : decode cX1_addIfSo 50 = .ok (.return_, 1) := by decide +kernel
set_option maxRecDepth 20000 in
theorem ggX1_insert_X2_compare : GoodIn wsX1_insert wsX2_compare := goodIn_r _ [4, 5, 6, 3, 7, 8, 9, 10, 11, 12, 13, 14, 15] (by decide +kernel) (by decide +kernel)
set_option maxRecDepth 20000 in
theorem gX1_insert_X2_compare_n39 : GoodIn wsX1_insert (wsX2_compare) := ggX1_insert_X2_compare
theorem dX1_insert_0 : decode cX1_insert 0 = .ok (.aload_n 0, 1) := by decide +kernel
theorem dX1_insert_1 : decode cX1_insert 1 = .ok (.getfield 18, 3) := by decide +kernel
theorem dX1_insert_4 : decode cX1_insert 4 = .ok (.istore 4, 2) := by decide +kernel
theorem dX1_insert_6 : decode cX1_insert 6 = .ok (.iload 4, 2) := by decide +kernel
theorem dX1_insert_8 : decode cX1_insert 8 = .ok (.ifCond .le 32, 3) := by decide +kernel
theorem dX1_insert_11 : decode cX1_insert 11 = .ok (.aload_n 1, 1) := by decide +kernel
theorem dX1_insert_12 : decode cX1_insert 12 = .ok (.iload 4, 2) := by decide +kernel
theorem dX1_insert_14 : decode cX1_insert 14 = .ok (.iconst 1, 1) := by decide +kernel
theorem dX1_insert_15 : decode cX1_insert 15 = .ok (.isub, 1) := by decide +kernel
theorem dX1_insert_16 : decode cX1_insert 16 = .ok (.laload, 1) := by decide +kernel
theorem dX1_insert_17 : decode cX1_insert 17 = .ok (.lload_n 2, 1) := by decide +kernel
theorem dX1_insert_18 : decode cX1_insert 18 = .ok (.invokestatic 39, 3) := by decide +kernel
theorem dX1_insert_21 : decode cX1_insert 21 = .ok (.ifCond .le 19, 3) := by decide +kernel
theorem dX1_insert_24 : decode cX1_insert 24 = .ok (.aload_n 1, 1) := by decide +kernel
theorem dX1_insert_25 : decode cX1_insert 25 = .ok (.iload 4, 2) := by decide +kernel
theorem dX1_insert_27 : decode cX1_insert 27 = .ok (.aload_n 1, 1) := by decide +kernel
theorem dX1_insert_28 : decode cX1_insert 28 = .ok (.iload 4, 2) := by decide +kernel
theorem dX1_insert_30 : decode cX1_insert 30 = .ok (.iconst 1, 1) := by decide +kernel
theorem dX1_insert_31 : decode cX1_insert 31 = .ok (.isub, 1) := by decide +kernel
theorem dX1_insert_32 : decode cX1_insert 32 = .ok (.laload, 1) := by decide +kernel
theorem dX1_insert_33 : decode cX1_insert 33 = .ok (.lastore, 1) := by decide +kernel
theorem dX1_insert_34 : decode cX1_insert 34 = .ok (.iinc 4 (-1), 3) := by decide +kernel
theorem dX1_insert_37 : decode cX1_insert 37 = .ok (.goto (-31), 3) := by decide +kernel
theorem dX1_insert_40 : decode cX1_insert 40 = .ok (.aload_n 1, 1) := by decide +kernel
theorem dX1_insert_41 : decode cX1_insert 41 = .ok (.iload 4, 2) := by decide +kernel
theorem dX1_insert_43 : decode cX1_insert 43 = .ok (.lload_n 2, 1) := by decide +kernel
theorem dX1_insert_44 : decode cX1_insert 44 = .ok (.lastore, 1) := by decide +kernel
theorem dX1_insert_45 : decode cX1_insert 45 = .ok (.return_, 1) := by decide +kernel
set_option maxRecDepth 20000 in
theorem ggX2_of_X2_commonDivisor : GoodIn wsX2_of wsX2_commonDivisor := goodIn_r _ [8] (by decide +kernel) (by decide +kernel)
set_option maxRecDepth 20000 in
theorem gX2_of_X2_commonDivisor : GoodIn wsX2_of (va_wsS RX2 13 yX2_commonDivisor wsX2_commonDivisor) := goodIn_app (goodIn_of _ (by decide +kernel)) ggX2_of_X2_commonDivisor
set_option maxRecDepth 20000 in
theorem ggX2_of_X2_whole : GoodIn wsX2_of wsX2_whole := goodIn_r _ [11] (by decide +kernel) (by decide +kernel)
set_option maxRecDepth 20000 in
theorem gX2_of_X2_whole : GoodIn wsX2_of (va_wsS RX2 19 yX2_whole wsX2_whole) := goodIn_app (goodIn_of _ (by decide +kernel)) ggX2_of_X2_whole
theorem dX2_of_0 : decode cX2_of 0 = .ok (.iload_n 0, 1) := by decide +kernel
theorem dX2_of_1 : decode cX2_of 1 = .ok (.invokestatic 7, 3) := by decide +kernel
theorem dX2_of_4 : decode cX2_of 4 = .ok (.iload_n 1, 1) := by decide +kernel
theorem dX2_of_5 : decode cX2_of 5 = .ok (.invokestatic 13, 3) := by decide +kernel
theorem dX2_of_8 : decode cX2_of 8 = .ok (.istore_n 2, 1) := by decide +kernel
theorem dX2_of_9 : decode cX2_of 9 = .ok (.iload_n 2, 1) := by decide +kernel
theorem dX2_of_10 : decode cX2_of 10 = .ok (.iconst 1, 1) := by decide +kernel
theorem dX2_of_11 : decode cX2_of 11 = .ok (.if_icmp .ge 8, 3) := by decide +kernel
theorem dX2_of_14 : decode cX2_of 14 = .ok (.iconst 0, 1) := by decide +kernel
theorem dX2_of_15 : decode cX2_of 15 = .ok (.invokestatic 19, 3) := by decide +kernel
theorem dX2_of_18 : decode cX2_of 18 = .ok (.lreturn, 1) := by decide +kernel
theorem dX2_of_19 : decode cX2_of 19 = .ok (.iload_n 0, 1) := by decide +kernel
theorem dX2_of_20 : decode cX2_of 20 = .ok (.iload_n 2, 1) := by decide +kernel
theorem dX2_of_21 : decode cX2_of 21 = .ok (.idiv, 1) := by decide +kernel
theorem dX2_of_22 : decode cX2_of 22 = .ok (.i2l, 1) := by decide +kernel
theorem dX2_of_23 : decode cX2_of 23 = .ok (.bipush 8, 2) := by decide +kernel
theorem dX2_of_25 : decode cX2_of 25 = .ok (.lshl, 1) := by decide +kernel
theorem dX2_of_26 : decode cX2_of 26 = .ok (.iload_n 1, 1) := by decide +kernel
theorem dX2_of_27 : decode cX2_of 27 = .ok (.iload_n 2, 1) := by decide +kernel
theorem dX2_of_28 : decode cX2_of 28 = .ok (.idiv, 1) := by decide +kernel
theorem dX2_of_29 : decode cX2_of 29 = .ok (.i2l, 1) := by decide +kernel
theorem dX2_of_30 : decode cX2_of 30 = .ok (.lor, 1) := by decide +kernel
theorem dX2_of_31 : decode cX2_of 31 = .ok (.lreturn, 1) := by decide +kernel
theorem dX2_whole_0 : decode cX2_whole 0 = .ok (.iload_n 0, 1) := by decide +kernel
theorem dX2_whole_1 : decode cX2_whole 1 = .ok (.i2l, 1) := by decide +kernel
theorem dX2_whole_2 : decode cX2_whole 2 = .ok (.bipush 8, 2) := by decide +kernel
theorem dX2_whole_4 : decode cX2_whole 4 = .ok (.lshl, 1) := by decide +kernel
theorem dX2_whole_5 : decode cX2_whole 5 = .ok (.lconst 1, 1) := by decide +kernel
theorem dX2_whole_6 : decode cX2_whole 6 = .ok (.lor, 1) := by decide +kernel
theorem dX2_whole_7 : decode cX2_whole 7 = .ok (.lreturn, 1) := by decide +kernel
set_option maxRecDepth 20000 in
theorem ggX2_past_X2_of : GoodIn wsX2_past wsX2_of := goodIn_r _ [4, 5, 6, 7, 8, 9, 10, 3, 11, 12, 13, 14] (by decide +kernel) (by decide +kernel)
set_option maxRecDepth 20000 in
theorem gX2_past_X2_of : GoodIn wsX2_past (va_wsS RX2 23 yX2_of wsX2_of) := goodIn_app (goodIn_of _ (by decide +kernel)) ggX2_past_X2_of
theorem dX2_past_0 : decode cX2_past 0 = .ok (.iload_n 0, 1) := by decide +kernel
theorem dX2_past_1 : decode cX2_past 1 = .ok (.iload_n 2, 1) := by decide +kernel
theorem dX2_past_2 : decode cX2_past 2 = .ok (.imul, 1) := by decide +kernel
theorem dX2_past_3 : decode cX2_past 3 = .ok (.iload_n 1, 1) := by decide +kernel
theorem dX2_past_4 : decode cX2_past 4 = .ok (.iadd, 1) := by decide +kernel
theorem dX2_past_5 : decode cX2_past 5 = .ok (.iload_n 2, 1) := by decide +kernel
theorem dX2_past_6 : decode cX2_past 6 = .ok (.invokestatic 23, 3) := by decide +kernel
theorem dX2_past_9 : decode cX2_past 9 = .ok (.lreturn, 1) := by decide +kernel
theorem dX2_upper_0 : decode cX2_upper 0 = .ok (.lload_n 0, 1) := by decide +kernel
theorem dX2_upper_1 : decode cX2_upper 1 = .ok (.bipush 8, 2) := by decide +kernel
theorem dX2_upper_3 : decode cX2_upper 3 = .ok (.lshr, 1) := by decide +kernel
theorem dX2_upper_4 : decode cX2_upper 4 = .ok (.l2i, 1) := by decide +kernel
theorem dX2_upper_5 : decode cX2_upper 5 = .ok (.ireturn, 1) := by decide +kernel
theorem dX2_lower_0 : decode cX2_lower 0 = .ok (.lload_n 0, 1) := by decide +kernel
theorem dX2_lower_1 : decode cX2_lower 1 = .ok (.ldc2_w 27, 3) := by decide +kernel
theorem dX2_lower_4 : decode cX2_lower 4 = .ok (.land, 1) := by decide +kernel
theorem dX2_lower_5 : decode cX2_lower 5 = .ok (.l2i, 1) := by decide +kernel
theorem dX2_lower_6 : decode cX2_lower 6 = .ok (.ireturn, 1) := by decide +kernel
set_option maxRecDepth 20000 in
theorem ggX2_compare_X2_upper : GoodIn wsX2_compare wsX2_upper := goodIn_r _ [4] (by decide +kernel) (by decide +kernel)
set_option maxRecDepth 20000 in
theorem gX2_compare_X2_upper : GoodIn wsX2_compare (va_wsS RX2 29 yX2_upper wsX2_upper) := goodIn_app (goodIn_of _ (by decide +kernel)) ggX2_compare_X2_upper
set_option maxRecDepth 20000 in
theorem ggX2_compare_X2_lower : GoodIn wsX2_compare wsX2_lower := goodIn_r _ [7, 8] (by decide +kernel) (by decide +kernel)
set_option maxRecDepth 20000 in
theorem gX2_compare_X2_lower : GoodIn wsX2_compare (va_wsS RX2 33 yX2_lower wsX2_lower) := goodIn_app (goodIn_of _ (by decide +kernel)) ggX2_compare_X2_lower
set_option maxRecDepth 20000 in
theorem ggX2_compare_J13_compare_74951 : GoodIn wsX2_compare wsJ13_compare_74951 := goodIn_r _ [12] (by decide +kernel) (by decide +kernel)
set_option maxRecDepth 20000 in
theorem gX2_compare_J13_compare_74951 : GoodIn wsX2_compare (va_wsS RX2 36 yJ13_compare_74951 wsJ13_compare_74951) := goodIn_app (goodIn_of _ (by decide +kernel)) ggX2_compare_J13_compare_74951
theorem dX2_compare_0 : decode cX2_compare 0 = .ok (.lload_n 0, 1) := by decide +kernel
theorem dX2_compare_1 : decode cX2_compare 1 = .ok (.invokestatic 29, 3) := by decide +kernel
theorem dX2_compare_4 : decode cX2_compare 4 = .ok (.i2l, 1) := by decide +kernel
theorem dX2_compare_5 : decode cX2_compare 5 = .ok (.lload_n 2, 1) := by decide +kernel
theorem dX2_compare_6 : decode cX2_compare 6 = .ok (.invokestatic 33, 3) := by decide +kernel
theorem dX2_compare_9 : decode cX2_compare 9 = .ok (.i2l, 1) := by decide +kernel
theorem dX2_compare_10 : decode cX2_compare 10 = .ok (.lmul, 1) := by decide +kernel
theorem dX2_compare_11 : decode cX2_compare 11 = .ok (.lload_n 2, 1) := by decide +kernel
theorem dX2_compare_12 : decode cX2_compare 12 = .ok (.invokestatic 29, 3) := by decide +kernel
theorem dX2_compare_15 : decode cX2_compare 15 = .ok (.i2l, 1) := by decide +kernel
theorem dX2_compare_16 : decode cX2_compare 16 = .ok (.lload_n 0, 1) := by decide +kernel
theorem dX2_compare_17 : decode cX2_compare 17 = .ok (.invokestatic 33, 3) := by decide +kernel
theorem dX2_compare_20 : decode cX2_compare 20 = .ok (.i2l, 1) := by decide +kernel
theorem dX2_compare_21 : decode cX2_compare 21 = .ok (.lmul, 1) := by decide +kernel
theorem dX2_compare_22 : decode cX2_compare 22 = .ok (.invokestatic 36, 3) := by decide +kernel
theorem dX2_compare_25 : decode cX2_compare 25 = .ok (.ireturn, 1) := by decide +kernel
theorem dX2_commonDivisor_0 : decode cX2_commonDivisor 0 = .ok (.iload_n 0, 1) := by decide +kernel
theorem dX2_commonDivisor_1 : decode cX2_commonDivisor 1 = .ok (.istore_n 2, 1) := by decide +kernel
theorem dX2_commonDivisor_2 : decode cX2_commonDivisor 2 = .ok (.iload_n 1, 1) := by decide +kernel
theorem dX2_commonDivisor_3 : decode cX2_commonDivisor 3 = .ok (.istore_n 3, 1) := by decide +kernel
theorem dX2_commonDivisor_4 : decode cX2_commonDivisor 4 = .ok (.iconst 0, 1) := by decide +kernel
theorem dX2_commonDivisor_5 : decode cX2_commonDivisor 5 = .ok (.istore 4, 2) := by decide +kernel
theorem dX2_commonDivisor_7 : decode cX2_commonDivisor 7 = .ok (.iload 4, 2) := by decide +kernel
theorem dX2_commonDivisor_9 : decode cX2_commonDivisor 9 = .ok (.bipush 64, 2) := by decide +kernel
theorem dX2_commonDivisor_11 : decode cX2_commonDivisor 11 = .ok (.if_icmp .ge 23, 3) := by decide +kernel
theorem dX2_commonDivisor_14 : decode cX2_commonDivisor 14 = .ok (.iload_n 3, 1) := by decide +kernel
theorem dX2_commonDivisor_15 : decode cX2_commonDivisor 15 = .ok (.ifCond .le 19, 3) := by decide +kernel
theorem dX2_commonDivisor_18 : decode cX2_commonDivisor 18 = .ok (.iload_n 2, 1) := by decide +kernel
theorem dX2_commonDivisor_19 : decode cX2_commonDivisor 19 = .ok (.iload_n 3, 1) := by decide +kernel
theorem dX2_commonDivisor_20 : decode cX2_commonDivisor 20 = .ok (.irem, 1) := by decide +kernel
theorem dX2_commonDivisor_21 : decode cX2_commonDivisor 21 = .ok (.istore 5, 2) := by decide +kernel
theorem dX2_commonDivisor_23 : decode cX2_commonDivisor 23 = .ok (.iload_n 3, 1) := by decide +kernel
theorem dX2_commonDivisor_24 : decode cX2_commonDivisor 24 = .ok (.istore_n 2, 1) := by decide +kernel
theorem dX2_commonDivisor_25 : decode cX2_commonDivisor 25 = .ok (.iload 5, 2) := by decide +kernel
theorem dX2_commonDivisor_27 : decode cX2_commonDivisor 27 = .ok (.istore_n 3, 1) := by decide +kernel
theorem dX2_commonDivisor_28 : decode cX2_commonDivisor 28 = .ok (.iinc 4 1, 3) := by decide +kernel
theorem dX2_commonDivisor_31 : decode cX2_commonDivisor 31 = .ok (.goto (-24), 3) := by decide +kernel
theorem dX2_commonDivisor_34 : decode cX2_commonDivisor 34 = .ok (.iload_n 2, 1) := by decide +kernel
theorem dX2_commonDivisor_35 : decode cX2_commonDivisor 35 = .ok (.ireturn, 1) := by decide +kernel
theorem dX3_init_0 : decode cX3_init 0 = .ok (.aload_n 0, 1) := by decide +kernel
theorem dX3_init_1 : decode cX3_init 1 = .ok (.invokespecial 3, 3) := by decide +kernel
theorem dX3_init_4 : decode cX3_init 4 = .ok (.aload_n 0, 1) := by decide +kernel
theorem dX3_init_5 : decode cX3_init 5 = .ok (.bipush 10, 2) := by decide +kernel
theorem dX3_init_7 : decode cX3_init 7 = .ok (.newarray .int, 2) := by decide +kernel
theorem dX3_init_9 : decode cX3_init 9 = .ok (.putfield 9, 3) := by decide +kernel
theorem dX3_init_12 : decode cX3_init 12 = .ok (.aload_n 0, 1) := by decide +kernel
theorem dX3_init_13 : decode cX3_init 13 = .ok (.bipush 10, 2) := by decide +kernel
theorem dX3_init_15 : decode cX3_init 15 = .ok (.newarray .int, 2) := by decide +kernel
theorem dX3_init_17 : decode cX3_init 17 = .ok (.putfield 15, 3) := by decide +kernel
theorem dX3_init_20 : decode cX3_init 20 = .ok (.return_, 1) := by decide +kernel
theorem dX3_clear_0 : decode cX3_clear 0 = .ok (.aload_n 0, 1) := by decide +kernel
theorem dX3_clear_1 : decode cX3_clear 1 = .ok (.iconst 0, 1) := by decide +kernel
theorem dX3_clear_2 : decode cX3_clear 2 = .ok (.putfield 18, 3) := by decide +kernel
theorem dX3_clear_5 : decode cX3_clear 5 = .ok (.return_, 1) := by decide +kernel
theorem dX3_insert_0 : decode cX3_insert 0 = .ok (.aload_n 0, 1) := by decide +kernel
theorem dX3_insert_1 : decode cX3_insert 1 = .ok (.getfield 18, 3) := by decide +kernel
theorem dX3_insert_4 : decode cX3_insert 4 = .ok (.bipush 10, 2) := by decide +kernel
theorem dX3_insert_6 : decode cX3_insert 6 = .ok (.if_icmp .lt 4, 3) := by decide +kernel
theorem dX3_insert_9 : decode cX3_insert 9 = .ok (.return_, 1) := by decide +kernel
theorem dX3_insert_10 : decode cX3_insert 10 = .ok (.aload_n 0, 1) := by decide +kernel
theorem dX3_insert_11 : decode cX3_insert 11 = .ok (.getfield 18, 3) := by decide +kernel
theorem dX3_insert_14 : decode cX3_insert 14 = .ok (.istore_n 3, 1) := by decide +kernel
theorem dX3_insert_15 : decode cX3_insert 15 = .ok (.iload_n 3, 1) := by decide +kernel
theorem dX3_insert_16 : decode cX3_insert 16 = .ok (.ifCond .le 49, 3) := by decide +kernel
theorem dX3_insert_19 : decode cX3_insert 19 = .ok (.aload_n 0, 1) := by decide +kernel
theorem dX3_insert_20 : decode cX3_insert 20 = .ok (.getfield 15, 3) := by decide +kernel
theorem dX3_insert_23 : decode cX3_insert 23 = .ok (.iload_n 3, 1) := by decide +kernel
theorem dX3_insert_24 : decode cX3_insert 24 = .ok (.iconst 1, 1) := by decide +kernel
theorem dX3_insert_25 : decode cX3_insert 25 = .ok (.isub, 1) := by decide +kernel
theorem dX3_insert_26 : decode cX3_insert 26 = .ok (.iaload, 1) := by decide +kernel
theorem dX3_insert_27 : decode cX3_insert 27 = .ok (.iload_n 2, 1) := by decide +kernel
theorem dX3_insert_28 : decode cX3_insert 28 = .ok (.if_icmp .le 37, 3) := by decide +kernel
theorem dX3_insert_31 : decode cX3_insert 31 = .ok (.aload_n 0, 1) := by decide +kernel
theorem dX3_insert_32 : decode cX3_insert 32 = .ok (.getfield 9, 3) := by decide +kernel
theorem dX3_insert_35 : decode cX3_insert 35 = .ok (.iload_n 3, 1) := by decide +kernel
theorem dX3_insert_36 : decode cX3_insert 36 = .ok (.aload_n 0, 1) := by decide +kernel
theorem dX3_insert_37 : decode cX3_insert 37 = .ok (.getfield 9, 3) := by decide +kernel
theorem dX3_insert_40 : decode cX3_insert 40 = .ok (.iload_n 3, 1) := by decide +kernel
theorem dX3_insert_41 : decode cX3_insert 41 = .ok (.iconst 1, 1) := by decide +kernel
theorem dX3_insert_42 : decode cX3_insert 42 = .ok (.isub, 1) := by decide +kernel
theorem dX3_insert_43 : decode cX3_insert 43 = .ok (.iaload, 1) := by decide +kernel
theorem dX3_insert_44 : decode cX3_insert 44 = .ok (.iastore, 1) := by decide +kernel
theorem dX3_insert_45 : decode cX3_insert 45 = .ok (.aload_n 0, 1) := by decide +kernel
theorem dX3_insert_46 : decode cX3_insert 46 = .ok (.getfield 15, 3) := by decide +kernel
theorem dX3_insert_49 : decode cX3_insert 49 = .ok (.iload_n 3, 1) := by decide +kernel
theorem dX3_insert_50 : decode cX3_insert 50 = .ok (.aload_n 0, 1) := by decide +kernel
theorem dX3_insert_51 : decode cX3_insert 51 = .ok (.getfield 15, 3) := by decide +kernel
theorem dX3_insert_54 : decode cX3_insert 54 = .ok (.iload_n 3, 1) := by decide +kernel
theorem dX3_insert_55 : decode cX3_insert 55 = .ok (.iconst 1, 1) := by decide +kernel
theorem dX3_insert_56 : decode cX3_insert 56 = .ok (.isub, 1) := by decide +kernel
theorem dX3_insert_57 : decode cX3_insert 57 = .ok (.iaload, 1) := by decide +kernel
theorem dX3_insert_58 : decode cX3_insert 58 = .ok (.iastore, 1) := by decide +kernel
theorem dX3_insert_59 : decode cX3_insert 59 = .ok (.iinc 3 (-1), 3) := by decide +kernel
theorem dX3_insert_62 : decode cX3_insert 62 = .ok (.goto (-47), 3) := by decide +kernel
theorem dX3_insert_65 : decode cX3_insert 65 = .ok (.aload_n 0, 1) := by decide +kernel
theorem dX3_insert_66 : decode cX3_insert 66 = .ok (.getfield 9, 3) := by decide +kernel
theorem dX3_insert_69 : decode cX3_insert 69 = .ok (.iload_n 3, 1) := by decide +kernel
theorem dX3_insert_70 : decode cX3_insert 70 = .ok (.iload_n 1, 1) := by decide +kernel
theorem dX3_insert_71 : decode cX3_insert 71 = .ok (.iastore, 1) := by decide +kernel
theorem dX3_insert_72 : decode cX3_insert 72 = .ok (.aload_n 0, 1) := by decide +kernel
theorem dX3_insert_73 : decode cX3_insert 73 = .ok (.getfield 15, 3) := by decide +kernel
theorem dX3_insert_76 : decode cX3_insert 76 = .ok (.iload_n 3, 1) := by decide +kernel
theorem dX3_insert_77 : decode cX3_insert 77 = .ok (.iload_n 2, 1) := by decide +kernel
theorem dX3_insert_78 : decode cX3_insert 78 = .ok (.iastore, 1) := by decide +kernel
theorem dX3_insert_79 : decode cX3_insert 79 = .ok (.aload_n 0, 1) := by decide +kernel
theorem dX3_insert_80 : decode cX3_insert 80 = .ok (.dup, 1) := by decide +kernel
theorem dX3_insert_81 : decode cX3_insert 81 = .ok (.getfield 18, 3) := by decide +kernel
theorem dX3_insert_84 : decode cX3_insert 84 = .ok (.iconst 1, 1) := by decide +kernel
theorem dX3_insert_85 : decode cX3_insert 85 = .ok (.iadd, 1) := by decide +kernel
theorem dX3_insert_86 : decode cX3_insert 86 = .ok (.putfield 18, 3) := by decide +kernel
theorem dX3_insert_89 : decode cX3_insert 89 = .ok (.return_, 1) := by decide +kernel
theorem dX3_tell_0 : decode cX3_tell 0 = .ok (.iload_n 1, 1) := by decide +kernel
theorem dX3_tell_1 : decode cX3_tell 1 = .ok (.ifCond .lt 20, 3) := by decide +kernel
theorem dX3_tell_4 : decode cX3_tell 4 = .ok (.iload_n 1, 1) := by decide +kernel
theorem dX3_tell_5 : decode cX3_tell 5 = .ok (.aload_n 0, 1) := by decide +kernel
theorem dX3_tell_6 : decode cX3_tell 6 = .ok (.getfield 18, 3) := by decide +kernel
theorem dX3_tell_9 : decode cX3_tell 9 = .ok (.if_icmp .ge 12, 3) := by decide +kernel
theorem dX3_tell_12 : decode cX3_tell 12 = .ok (.aload_n 0, 1) := by decide +kernel
theorem dX3_tell_13 : decode cX3_tell 13 = .ok (.getfield 9, 3) := by decide +kernel
theorem dX3_tell_16 : decode cX3_tell 16 = .ok (.iload_n 1, 1) := by decide +kernel
theorem dX3_tell_17 : decode cX3_tell 17 = .ok (.iaload, 1) := by decide +kernel
theorem dX3_tell_18 : decode cX3_tell 18 = .ok (.goto 4, 3) := by decide +kernel
theorem dX3_tell_21 : decode cX3_tell 21 = .ok (.iconst (-1), 1) := by decide +kernel
theorem dX3_tell_22 : decode cX3_tell 22 = .ok (.ireturn, 1) := by decide +kernel
theorem dX3_closestUpper_0 : decode cX3_closestUpper 0 = .ok (.iconst (-1), 1) := by decide +kernel
theorem dX3_closestUpper_1 : decode cX3_closestUpper 1 = .ok (.istore_n 1, 1) := by decide +kernel
theorem dX3_closestUpper_2 : decode cX3_closestUpper 2 = .ok (.iconst 0, 1) := by decide +kernel
theorem dX3_closestUpper_3 : decode cX3_closestUpper 3 = .ok (.istore_n 2, 1) := by decide +kernel
theorem dX3_closestUpper_4 : decode cX3_closestUpper 4 = .ok (.iconst 1, 1) := by decide +kernel
theorem dX3_closestUpper_5 : decode cX3_closestUpper 5 = .ok (.istore_n 3, 1) := by decide +kernel
theorem dX3_closestUpper_6 : decode cX3_closestUpper 6 = .ok (.iload_n 3, 1) := by decide +kernel
theorem dX3_closestUpper_7 : decode cX3_closestUpper 7 = .ok (.aload_n 0, 1) := by decide +kernel
theorem dX3_closestUpper_8 : decode cX3_closestUpper 8 = .ok (.getfield 18, 3) := by decide +kernel
theorem dX3_closestUpper_11 : decode cX3_closestUpper 11 = .ok (.if_icmp .ge 42, 3) := by decide +kernel
theorem dX3_closestUpper_14 : decode cX3_closestUpper 14 = .ok (.aload_n 0, 1) := by decide +kernel
theorem dX3_closestUpper_15 : decode cX3_closestUpper 15 = .ok (.getfield 15, 3) := by decide +kernel
theorem dX3_closestUpper_18 : decode cX3_closestUpper 18 = .ok (.iload_n 3, 1) := by decide +kernel
theorem dX3_closestUpper_19 : decode cX3_closestUpper 19 = .ok (.iaload, 1) := by decide +kernel
theorem dX3_closestUpper_20 : decode cX3_closestUpper 20 = .ok (.aload_n 0, 1) := by decide +kernel
theorem dX3_closestUpper_21 : decode cX3_closestUpper 21 = .ok (.getfield 15, 3) := by decide +kernel
theorem dX3_closestUpper_24 : decode cX3_closestUpper 24 = .ok (.iload_n 3, 1) := by decide +kernel
theorem dX3_closestUpper_25 : decode cX3_closestUpper 25 = .ok (.iconst 1, 1) := by decide +kernel
theorem dX3_closestUpper_26 : decode cX3_closestUpper 26 = .ok (.isub, 1) := by decide +kernel
theorem dX3_closestUpper_27 : decode cX3_closestUpper 27 = .ok (.iaload, 1) := by decide +kernel
theorem dX3_closestUpper_28 : decode cX3_closestUpper 28 = .ok (.isub, 1) := by decide +kernel
theorem dX3_closestUpper_29 : decode cX3_closestUpper 29 = .ok (.istore 4, 2) := by decide +kernel
theorem dX3_closestUpper_31 : decode cX3_closestUpper 31 = .ok (.iload_n 1, 1) := by decide +kernel
theorem dX3_closestUpper_32 : decode cX3_closestUpper 32 = .ok (.iconst (-1), 1) := by decide +kernel
theorem dX3_closestUpper_33 : decode cX3_closestUpper 33 = .ok (.if_icmp .eq 9, 3) := by decide +kernel
theorem dX3_closestUpper_36 : decode cX3_closestUpper 36 = .ok (.iload 4, 2) := by decide +kernel
theorem dX3_closestUpper_38 : decode cX3_closestUpper 38 = .ok (.iload_n 2, 1) := by decide +kernel
theorem dX3_closestUpper_39 : decode cX3_closestUpper 39 = .ok (.if_icmp .ge 8, 3) := by decide +kernel
theorem dX3_closestUpper_42 : decode cX3_closestUpper 42 = .ok (.iload_n 3, 1) := by decide +kernel
theorem dX3_closestUpper_43 : decode cX3_closestUpper 43 = .ok (.istore_n 1, 1) := by decide +kernel
theorem dX3_closestUpper_44 : decode cX3_closestUpper 44 = .ok (.iload 4, 2) := by decide +kernel
theorem dX3_closestUpper_46 : decode cX3_closestUpper 46 = .ok (.istore_n 2, 1) := by decide +kernel
theorem dX3_closestUpper_47 : decode cX3_closestUpper 47 = .ok (.iinc 3 1, 3) := by decide +kernel
theorem dX3_closestUpper_50 : decode cX3_closestUpper 50 = .ok (.goto (-44), 3) := by decide +kernel
theorem dX3_closestUpper_53 : decode cX3_closestUpper 53 = .ok (.iload_n 1, 1) := by decide +kernel
theorem dX3_closestUpper_54 : decode cX3_closestUpper 54 = .ok (.ireturn, 1) := by decide +kernel
theorem dX3_heaps_0 : decode cX3_heaps 0 = .ok (.aload_n 0, 1) := by decide +kernel
theorem dX3_heaps_1 : decode cX3_heaps 1 = .ok (.getfield 18, 3) := by decide +kernel
theorem dX3_heaps_4 : decode cX3_heaps 4 = .ok (.iconst 1, 1) := by decide +kernel
theorem dX3_heaps_5 : decode cX3_heaps 5 = .ok (.invokestatic 22, 3) := by decide +kernel
theorem dX3_heaps_8 : decode cX3_heaps 8 = .ok (.istore_n 2, 1) := by decide +kernel
theorem dX3_heaps_9 : decode cX3_heaps 9 = .ok (.iconst 1, 1) := by decide +kernel
theorem dX3_heaps_10 : decode cX3_heaps 10 = .ok (.istore_n 3, 1) := by decide +kernel
theorem dX3_heaps_11 : decode cX3_heaps 11 = .ok (.iload_n 3, 1) := by decide +kernel
theorem dX3_heaps_12 : decode cX3_heaps 12 = .ok (.aload_n 0, 1) := by decide +kernel
theorem dX3_heaps_13 : decode cX3_heaps 13 = .ok (.getfield 18, 3) := by decide +kernel
theorem dX3_heaps_16 : decode cX3_heaps 16 = .ok (.if_icmp .ge 31, 3) := by decide +kernel
theorem dX3_heaps_19 : decode cX3_heaps 19 = .ok (.aload_n 0, 1) := by decide +kernel
theorem dX3_heaps_20 : decode cX3_heaps 20 = .ok (.getfield 15, 3) := by decide +kernel
theorem dX3_heaps_23 : decode cX3_heaps 23 = .ok (.iload_n 3, 1) := by decide +kernel
theorem dX3_heaps_24 : decode cX3_heaps 24 = .ok (.iaload, 1) := by decide +kernel
theorem dX3_heaps_25 : decode cX3_heaps 25 = .ok (.aload_n 0, 1) := by decide +kernel
theorem dX3_heaps_26 : decode cX3_heaps 26 = .ok (.getfield 15, 3) := by decide +kernel
theorem dX3_heaps_29 : decode cX3_heaps 29 = .ok (.iload_n 3, 1) := by decide +kernel
theorem dX3_heaps_30 : decode cX3_heaps 30 = .ok (.iconst 1, 1) := by decide +kernel
theorem dX3_heaps_31 : decode cX3_heaps 31 = .ok (.isub, 1) := by decide +kernel
theorem dX3_heaps_32 : decode cX3_heaps 32 = .ok (.iaload, 1) := by decide +kernel
theorem dX3_heaps_33 : decode cX3_heaps 33 = .ok (.isub, 1) := by decide +kernel
theorem dX3_heaps_34 : decode cX3_heaps 34 = .ok (.iload_n 1, 1) := by decide +kernel
theorem dX3_heaps_35 : decode cX3_heaps 35 = .ok (.if_icmp .le 6, 3) := by decide +kernel
theorem dX3_heaps_38 : decode cX3_heaps 38 = .ok (.iinc 2 1, 3) := by decide +kernel
theorem dX3_heaps_41 : decode cX3_heaps 41 = .ok (.iinc 3 1, 3) := by decide +kernel
theorem dX3_heaps_44 : decode cX3_heaps 44 = .ok (.goto (-33), 3) := by decide +kernel
theorem dX3_heaps_47 : decode cX3_heaps 47 = .ok (.iload_n 2, 1) := by decide +kernel
theorem dX3_heaps_48 : decode cX3_heaps 48 = .ok (.ireturn, 1) := by decide +kernel
theorem dX4_init_0 : decode cX4_init 0 = .ok (.aload_n 0, 1) := by decide +kernel
theorem dX4_init_1 : decode cX4_init 1 = .ok (.invokespecial 3, 3) := by decide +kernel
theorem dX4_init_4 : decode cX4_init 4 = .ok (.aload_n 0, 1) := by decide +kernel
theorem dX4_init_5 : decode cX4_init 5 = .ok (.bipush 45, 2) := by decide +kernel
theorem dX4_init_7 : decode cX4_init 7 = .ok (.newarray .long, 2) := by decide +kernel
theorem dX4_init_9 : decode cX4_init 9 = .ok (.putfield 9, 3) := by decide +kernel
theorem dX4_init_12 : decode cX4_init 12 = .ok (.aload_n 0, 1) := by decide +kernel
theorem dX4_init_13 : decode cX4_init 13 = .ok (.bipush 45, 2) := by decide +kernel
theorem dX4_init_15 : decode cX4_init 15 = .ok (.newarray .int, 2) := by decide +kernel
theorem dX4_init_17 : decode cX4_init 17 = .ok (.putfield 15, 3) := by decide +kernel
theorem dX4_init_20 : decode cX4_init 20 = .ok (.aload_n 0, 1) := by decide +kernel
theorem dX4_init_21 : decode cX4_init 21 = .ok (.bipush 45, 2) := by decide +kernel
theorem dX4_init_23 : decode cX4_init 23 = .ok (.newarray .int, 2) := by decide +kernel
theorem dX4_init_25 : decode cX4_init 25 = .ok (.putfield 19, 3) := by decide +kernel
theorem dX4_init_28 : decode cX4_init 28 = .ok (.return_, 1) := by decide +kernel
theorem dX4_clear_0 : decode cX4_clear 0 = .ok (.aload_n 0, 1) := by decide +kernel
theorem dX4_clear_1 : decode cX4_clear 1 = .ok (.iconst 0, 1) := by decide +kernel
theorem dX4_clear_2 : decode cX4_clear 2 = .ok (.putfield 22, 3) := by decide +kernel
theorem dX4_clear_5 : decode cX4_clear 5 = .ok (.aload_n 0, 1) := by decide +kernel
theorem dX4_clear_6 : decode cX4_clear 6 = .ok (.iconst 0, 1) := by decide +kernel
theorem dX4_clear_7 : decode cX4_clear 7 = .ok (.putfield 26, 3) := by decide +kernel
theorem dX4_clear_10 : decode cX4_clear 10 = .ok (.return_, 1) := by decide +kernel
set_option maxRecDepth 20000 in
theorem ggX4_insert_X2_compare : GoodIn wsX4_insert wsX2_compare := goodIn_r _ [8, 9, 10, 7, 11, 12, 13, 14, 15, 16, 17, 18, 19] (by decide +kernel) (by decide +kernel)
set_option maxRecDepth 20000 in
theorem gX4_insert_X2_compare_n29 : GoodIn wsX4_insert (wsX2_compare) := ggX4_insert_X2_compare
theorem dX4_insert_0 : decode cX4_insert 0 = .ok (.aload_n 0, 1) := by decide +kernel
theorem dX4_insert_1 : decode cX4_insert 1 = .ok (.getfield 22, 3) := by decide +kernel
theorem dX4_insert_4 : decode cX4_insert 4 = .ok (.bipush 45, 2) := by decide +kernel
theorem dX4_insert_6 : decode cX4_insert 6 = .ok (.if_icmp .lt 4, 3) := by decide +kernel
theorem dX4_insert_9 : decode cX4_insert 9 = .ok (.return_, 1) := by decide +kernel
theorem dX4_insert_10 : decode cX4_insert 10 = .ok (.aload_n 0, 1) := by decide +kernel
theorem dX4_insert_11 : decode cX4_insert 11 = .ok (.getfield 22, 3) := by decide +kernel
theorem dX4_insert_14 : decode cX4_insert 14 = .ok (.istore 6, 2) := by decide +kernel
theorem dX4_insert_16 : decode cX4_insert 16 = .ok (.iload 6, 2) := by decide +kernel
theorem dX4_insert_18 : decode cX4_insert 18 = .ok (.ifCond .le 73, 3) := by decide +kernel
theorem dX4_insert_21 : decode cX4_insert 21 = .ok (.aload_n 0, 1) := by decide +kernel
theorem dX4_insert_22 : decode cX4_insert 22 = .ok (.getfield 9, 3) := by decide +kernel
theorem dX4_insert_25 : decode cX4_insert 25 = .ok (.iload 6, 2) := by decide +kernel
theorem dX4_insert_27 : decode cX4_insert 27 = .ok (.iconst 1, 1) := by decide +kernel
theorem dX4_insert_28 : decode cX4_insert 28 = .ok (.isub, 1) := by decide +kernel
theorem dX4_insert_29 : decode cX4_insert 29 = .ok (.laload, 1) := by decide +kernel
theorem dX4_insert_30 : decode cX4_insert 30 = .ok (.lload_n 1, 1) := by decide +kernel
theorem dX4_insert_31 : decode cX4_insert 31 = .ok (.invokestatic 29, 3) := by decide +kernel
theorem dX4_insert_34 : decode cX4_insert 34 = .ok (.ifCond .le 57, 3) := by decide +kernel
theorem dX4_insert_37 : decode cX4_insert 37 = .ok (.aload_n 0, 1) := by decide +kernel
theorem dX4_insert_38 : decode cX4_insert 38 = .ok (.getfield 9, 3) := by decide +kernel
theorem dX4_insert_41 : decode cX4_insert 41 = .ok (.iload 6, 2) := by decide +kernel
theorem dX4_insert_43 : decode cX4_insert 43 = .ok (.aload_n 0, 1) := by decide +kernel
theorem dX4_insert_44 : decode cX4_insert 44 = .ok (.getfield 9, 3) := by decide +kernel
theorem dX4_insert_47 : decode cX4_insert 47 = .ok (.iload 6, 2) := by decide +kernel
theorem dX4_insert_49 : decode cX4_insert 49 = .ok (.iconst 1, 1) := by decide +kernel
theorem dX4_insert_50 : decode cX4_insert 50 = .ok (.isub, 1) := by decide +kernel
theorem dX4_insert_51 : decode cX4_insert 51 = .ok (.laload, 1) := by decide +kernel
theorem dX4_insert_52 : decode cX4_insert 52 = .ok (.lastore, 1) := by decide +kernel
theorem dX4_insert_53 : decode cX4_insert 53 = .ok (.aload_n 0, 1) := by decide +kernel
theorem dX4_insert_54 : decode cX4_insert 54 = .ok (.getfield 15, 3) := by decide +kernel
theorem dX4_insert_57 : decode cX4_insert 57 = .ok (.iload 6, 2) := by decide +kernel
theorem dX4_insert_59 : decode cX4_insert 59 = .ok (.aload_n 0, 1) := by decide +kernel
theorem dX4_insert_60 : decode cX4_insert 60 = .ok (.getfield 15, 3) := by decide +kernel
theorem dX4_insert_63 : decode cX4_insert 63 = .ok (.iload 6, 2) := by decide +kernel
theorem dX4_insert_65 : decode cX4_insert 65 = .ok (.iconst 1, 1) := by decide +kernel
theorem dX4_insert_66 : decode cX4_insert 66 = .ok (.isub, 1) := by decide +kernel
theorem dX4_insert_67 : decode cX4_insert 67 = .ok (.iaload, 1) := by decide +kernel
theorem dX4_insert_68 : decode cX4_insert 68 = .ok (.iastore, 1) := by decide +kernel
theorem dX4_insert_69 : decode cX4_insert 69 = .ok (.aload_n 0, 1) := by decide +kernel
theorem dX4_insert_70 : decode cX4_insert 70 = .ok (.getfield 19, 3) := by decide +kernel
theorem dX4_insert_73 : decode cX4_insert 73 = .ok (.iload 6, 2) := by decide +kernel
theorem dX4_insert_75 : decode cX4_insert 75 = .ok (.aload_n 0, 1) := by decide +kernel
theorem dX4_insert_76 : decode cX4_insert 76 = .ok (.getfield 19, 3) := by decide +kernel
theorem dX4_insert_79 : decode cX4_insert 79 = .ok (.iload 6, 2) := by decide +kernel
theorem dX4_insert_81 : decode cX4_insert 81 = .ok (.iconst 1, 1) := by decide +kernel
theorem dX4_insert_82 : decode cX4_insert 82 = .ok (.isub, 1) := by decide +kernel
theorem dX4_insert_83 : decode cX4_insert 83 = .ok (.iaload, 1) := by decide +kernel
theorem dX4_insert_84 : decode cX4_insert 84 = .ok (.iastore, 1) := by decide +kernel
theorem dX4_insert_85 : decode cX4_insert 85 = .ok (.iinc 6 (-1), 3) := by decide +kernel
theorem dX4_insert_88 : decode cX4_insert 88 = .ok (.goto (-72), 3) := by decide +kernel
theorem dX4_insert_91 : decode cX4_insert 91 = .ok (.aload_n 0, 1) := by decide +kernel
theorem dX4_insert_92 : decode cX4_insert 92 = .ok (.getfield 9, 3) := by decide +kernel
theorem dX4_insert_95 : decode cX4_insert 95 = .ok (.iload 6, 2) := by decide +kernel
theorem dX4_insert_97 : decode cX4_insert 97 = .ok (.lload_n 1, 1) := by decide +kernel
theorem dX4_insert_98 : decode cX4_insert 98 = .ok (.lastore, 1) := by decide +kernel
theorem dX4_insert_99 : decode cX4_insert 99 = .ok (.aload_n 0, 1) := by decide +kernel
theorem dX4_insert_100 : decode cX4_insert 100 = .ok (.getfield 15, 3) := by decide +kernel
theorem dX4_insert_103 : decode cX4_insert 103 = .ok (.iload 6, 2) := by decide +kernel
theorem dX4_insert_105 : decode cX4_insert 105 = .ok (.iload_n 3, 1) := by decide +kernel
theorem dX4_insert_106 : decode cX4_insert 106 = .ok (.iastore, 1) := by decide +kernel
theorem dX4_insert_107 : decode cX4_insert 107 = .ok (.aload_n 0, 1) := by decide +kernel
theorem dX4_insert_108 : decode cX4_insert 108 = .ok (.getfield 19, 3) := by decide +kernel
theorem dX4_insert_111 : decode cX4_insert 111 = .ok (.iload 6, 2) := by decide +kernel
theorem dX4_insert_113 : decode cX4_insert 113 = .ok (.iload 4, 2) := by decide +kernel
theorem dX4_insert_115 : decode cX4_insert 115 = .ok (.iastore, 1) := by decide +kernel
theorem dX4_insert_116 : decode cX4_insert 116 = .ok (.aload_n 0, 1) := by decide +kernel
theorem dX4_insert_117 : decode cX4_insert 117 = .ok (.dup, 1) := by decide +kernel
theorem dX4_insert_118 : decode cX4_insert 118 = .ok (.getfield 22, 3) := by decide +kernel
theorem dX4_insert_121 : decode cX4_insert 121 = .ok (.iconst 1, 1) := by decide +kernel
theorem dX4_insert_122 : decode cX4_insert 122 = .ok (.iadd, 1) := by decide +kernel
theorem dX4_insert_123 : decode cX4_insert 123 = .ok (.putfield 22, 3) := by decide +kernel
theorem dX4_insert_126 : decode cX4_insert 126 = .ok (.iload 5, 2) := by decide +kernel
theorem dX4_insert_128 : decode cX4_insert 128 = .ok (.ifCond .eq 13, 3) := by decide +kernel
theorem dX4_insert_131 : decode cX4_insert 131 = .ok (.aload_n 0, 1) := by decide +kernel
theorem dX4_insert_132 : decode cX4_insert 132 = .ok (.dup, 1) := by decide +kernel
theorem dX4_insert_133 : decode cX4_insert 133 = .ok (.getfield 26, 3) := by decide +kernel
theorem dX4_insert_136 : decode cX4_insert 136 = .ok (.iconst 1, 1) := by decide +kernel
theorem dX4_insert_137 : decode cX4_insert 137 = .ok (.iadd, 1) := by decide +kernel
theorem dX4_insert_138 : decode cX4_insert 138 = .ok (.putfield 26, 3) := by decide +kernel
theorem dX4_insert_141 : decode cX4_insert 141 = .ok (.return_, 1) := by decide +kernel
set_option maxRecDepth 20000 in
theorem ggX4_tell_X2_upper : GoodIn wsX4_tell wsX2_upper := goodIn_r _ [7] (by decide +kernel) (by decide +kernel)
set_option maxRecDepth 20000 in
theorem gX4_tell_X2_upper_n35 : GoodIn wsX4_tell (wsX2_upper) := ggX4_tell_X2_upper
set_option maxRecDepth 20000 in
theorem ggX4_tell_X2_lower : GoodIn wsX4_tell wsX2_lower := goodIn_r _ [9, 10] (by decide +kernel) (by decide +kernel)
set_option maxRecDepth 20000 in
theorem gX4_tell_X2_lower_n39 : GoodIn wsX4_tell (wsX2_lower) := ggX4_tell_X2_lower
theorem dX4_tell_0 : decode cX4_tell 0 = .ok (.iload_n 1, 1) := by decide +kernel
theorem dX4_tell_1 : decode cX4_tell 1 = .ok (.ifCond .lt 11, 3) := by decide +kernel
theorem dX4_tell_4 : decode cX4_tell 4 = .ok (.iload_n 1, 1) := by decide +kernel
theorem dX4_tell_5 : decode cX4_tell 5 = .ok (.aload_n 0, 1) := by decide +kernel
theorem dX4_tell_6 : decode cX4_tell 6 = .ok (.getfield 22, 3) := by decide +kernel
theorem dX4_tell_9 : decode cX4_tell 9 = .ok (.if_icmp .lt 5, 3) := by decide +kernel
theorem dX4_tell_12 : decode cX4_tell 12 = .ok (.iconst (-1), 1) := by decide +kernel
theorem dX4_tell_13 : decode cX4_tell 13 = .ok (.ireturn, 1) := by decide +kernel
theorem dX4_tell_14 : decode cX4_tell 14 = .ok (.iload_n 2, 1) := by decide +kernel
theorem dX4_tell_15 : decode cX4_tell 15 = .ok (.tableswitch 52 0 2 #[25, 35, 45], 25) := by decide +kernel
theorem dX4_tell_40 : decode cX4_tell 40 = .ok (.aload_n 0, 1) := by decide +kernel
theorem dX4_tell_41 : decode cX4_tell 41 = .ok (.getfield 9, 3) := by decide +kernel
theorem dX4_tell_44 : decode cX4_tell 44 = .ok (.iload_n 1, 1) := by decide +kernel
theorem dX4_tell_45 : decode cX4_tell 45 = .ok (.laload, 1) := by decide +kernel
theorem dX4_tell_46 : decode cX4_tell 46 = .ok (.invokestatic 35, 3) := by decide +kernel
theorem dX4_tell_49 : decode cX4_tell 49 = .ok (.ireturn, 1) := by decide +kernel
theorem dX4_tell_50 : decode cX4_tell 50 = .ok (.aload_n 0, 1) := by decide +kernel
theorem dX4_tell_51 : decode cX4_tell 51 = .ok (.getfield 9, 3) := by decide +kernel
theorem dX4_tell_54 : decode cX4_tell 54 = .ok (.iload_n 1, 1) := by decide +kernel
theorem dX4_tell_55 : decode cX4_tell 55 = .ok (.laload, 1) := by decide +kernel
theorem dX4_tell_56 : decode cX4_tell 56 = .ok (.invokestatic 39, 3) := by decide +kernel
theorem dX4_tell_59 : decode cX4_tell 59 = .ok (.ireturn, 1) := by decide +kernel
theorem dX4_tell_60 : decode cX4_tell 60 = .ok (.aload_n 0, 1) := by decide +kernel
theorem dX4_tell_61 : decode cX4_tell 61 = .ok (.getfield 15, 3) := by decide +kernel
theorem dX4_tell_64 : decode cX4_tell 64 = .ok (.iload_n 1, 1) := by decide +kernel
theorem dX4_tell_65 : decode cX4_tell 65 = .ok (.iaload, 1) := by decide +kernel
theorem dX4_tell_66 : decode cX4_tell 66 = .ok (.ireturn, 1) := by decide +kernel
theorem dX4_tell_67 : decode cX4_tell 67 = .ok (.aload_n 0, 1) := by decide +kernel
theorem dX4_tell_68 : decode cX4_tell 68 = .ok (.getfield 19, 3) := by decide +kernel
theorem dX4_tell_71 : decode cX4_tell 71 = .ok (.iload_n 1, 1) := by decide +kernel
theorem dX4_tell_72 : decode cX4_tell 72 = .ok (.iaload, 1) := by decide +kernel
theorem dX4_tell_73 : decode cX4_tell 73 = .ok (.ireturn, 1) := by decide +kernel
theorem dX5_init_0 : decode cX5_init 0 = .ok (.aload_n 0, 1) := by decide +kernel
theorem dX5_init_1 : decode cX5_init 1 = .ok (.invokespecial 3, 3) := by decide +kernel
theorem dX5_init_4 : decode cX5_init 4 = .ok (.aload_n 0, 1) := by decide +kernel
theorem dX5_init_5 : decode cX5_init 5 = .ok (.bipush 10, 2) := by decide +kernel
theorem dX5_init_7 : decode cX5_init 7 = .ok (.newarray .boolean, 2) := by decide +kernel
theorem dX5_init_9 : decode cX5_init 9 = .ok (.putfield 9, 3) := by decide +kernel
theorem dX5_init_12 : decode cX5_init 12 = .ok (.aload_n 0, 1) := by decide +kernel
theorem dX5_init_13 : decode cX5_init 13 = .ok (.bipush 10, 2) := by decide +kernel
theorem dX5_init_15 : decode cX5_init 15 = .ok (.newarray .int, 2) := by decide +kernel
theorem dX5_init_17 : decode cX5_init 17 = .ok (.putfield 15, 3) := by decide +kernel
theorem dX5_init_20 : decode cX5_init 20 = .ok (.aload_n 0, 1) := by decide +kernel
theorem dX5_init_21 : decode cX5_init 21 = .ok (.bipush 10, 2) := by decide +kernel
theorem dX5_init_23 : decode cX5_init 23 = .ok (.newarray .int, 2) := by decide +kernel
theorem dX5_init_25 : decode cX5_init 25 = .ok (.putfield 19, 3) := by decide +kernel
theorem dX5_init_28 : decode cX5_init 28 = .ok (.return_, 1) := by decide +kernel
theorem dX5_clear_0 : decode cX5_clear 0 = .ok (.aload_n 0, 1) := by decide +kernel
theorem dX5_clear_1 : decode cX5_clear 1 = .ok (.iconst 0, 1) := by decide +kernel
theorem dX5_clear_2 : decode cX5_clear 2 = .ok (.putfield 22, 3) := by decide +kernel
theorem dX5_clear_5 : decode cX5_clear 5 = .ok (.return_, 1) := by decide +kernel
set_option maxRecDepth 20000 in
theorem ggX5_add_X0_isThere : GoodIn wsX5_add wsX0_isThere := goodIn_r _ [8, 9, 10, 32, 33, 34, 35, 36] (by decide +kernel) (by decide +kernel)
set_option maxRecDepth 20000 in
theorem gX5_add_X0_isThere_n26 : GoodIn wsX5_add (wsX0_isThere) := ggX5_add_X0_isThere
set_option maxRecDepth 20000 in
theorem ggX5_add_X0_placeAt : GoodIn wsX5_add wsX0_placeAt := goodIn_r _ [13, 14, 15, 16, 6, 17, 18, 19, 9, 20, 21, 22, 23, 24, 32, 33, 34, 35, 36] (by decide +kernel) (by decide +kernel)
set_option maxRecDepth 20000 in
theorem gX5_add_X0_placeAt_n31 : GoodIn wsX5_add (wsX0_placeAt) := ggX5_add_X0_placeAt
set_option maxRecDepth 20000 in
theorem ggX5_add_X0_speedAt : GoodIn wsX5_add wsX0_speedAt := goodIn_r _ [27, 19, 20, 21, 22, 6, 23, 24, 9, 32, 33, 34, 35, 36] (by decide +kernel) (by decide +kernel)
set_option maxRecDepth 20000 in
theorem gX5_add_X0_speedAt_n35 : GoodIn wsX5_add (wsX0_speedAt) := ggX5_add_X0_speedAt
theorem dX5_add_0 : decode cX5_add 0 = .ok (.aload_n 0, 1) := by decide +kernel
theorem dX5_add_1 : decode cX5_add 1 = .ok (.getfield 22, 3) := by decide +kernel
theorem dX5_add_4 : decode cX5_add 4 = .ok (.bipush 10, 2) := by decide +kernel
theorem dX5_add_6 : decode cX5_add 6 = .ok (.if_icmp .lt 4, 3) := by decide +kernel
theorem dX5_add_9 : decode cX5_add 9 = .ok (.return_, 1) := by decide +kernel
theorem dX5_add_10 : decode cX5_add 10 = .ok (.aload_n 0, 1) := by decide +kernel
theorem dX5_add_11 : decode cX5_add 11 = .ok (.getfield 9, 3) := by decide +kernel
theorem dX5_add_14 : decode cX5_add 14 = .ok (.aload_n 0, 1) := by decide +kernel
theorem dX5_add_15 : decode cX5_add 15 = .ok (.getfield 22, 3) := by decide +kernel
theorem dX5_add_18 : decode cX5_add 18 = .ok (.aload_n 1, 1) := by decide +kernel
theorem dX5_add_19 : decode cX5_add 19 = .ok (.iload_n 2, 1) := by decide +kernel
theorem dX5_add_20 : decode cX5_add 20 = .ok (.iconst 1, 1) := by decide +kernel
theorem dX5_add_21 : decode cX5_add 21 = .ok (.invokevirtual 26, 3) := by decide +kernel
theorem dX5_add_24 : decode cX5_add 24 = .ok (.bastore, 1) := by decide +kernel
theorem dX5_add_25 : decode cX5_add 25 = .ok (.aload_n 0, 1) := by decide +kernel
theorem dX5_add_26 : decode cX5_add 26 = .ok (.getfield 15, 3) := by decide +kernel
theorem dX5_add_29 : decode cX5_add 29 = .ok (.aload_n 0, 1) := by decide +kernel
theorem dX5_add_30 : decode cX5_add 30 = .ok (.getfield 22, 3) := by decide +kernel
theorem dX5_add_33 : decode cX5_add 33 = .ok (.aload_n 1, 1) := by decide +kernel
theorem dX5_add_34 : decode cX5_add 34 = .ok (.iload_n 2, 1) := by decide +kernel
theorem dX5_add_35 : decode cX5_add 35 = .ok (.invokevirtual 31, 3) := by decide +kernel
theorem dX5_add_38 : decode cX5_add 38 = .ok (.iastore, 1) := by decide +kernel
theorem dX5_add_39 : decode cX5_add 39 = .ok (.aload_n 0, 1) := by decide +kernel
theorem dX5_add_40 : decode cX5_add 40 = .ok (.getfield 19, 3) := by decide +kernel
theorem dX5_add_43 : decode cX5_add 43 = .ok (.aload_n 0, 1) := by decide +kernel
theorem dX5_add_44 : decode cX5_add 44 = .ok (.getfield 22, 3) := by decide +kernel
theorem dX5_add_47 : decode cX5_add 47 = .ok (.aload_n 1, 1) := by decide +kernel
theorem dX5_add_48 : decode cX5_add 48 = .ok (.iload_n 2, 1) := by decide +kernel
theorem dX5_add_49 : decode cX5_add 49 = .ok (.invokevirtual 35, 3) := by decide +kernel
theorem dX5_add_52 : decode cX5_add 52 = .ok (.iastore, 1) := by decide +kernel
theorem dX5_add_53 : decode cX5_add 53 = .ok (.aload_n 0, 1) := by decide +kernel
theorem dX5_add_54 : decode cX5_add 54 = .ok (.dup, 1) := by decide +kernel
theorem dX5_add_55 : decode cX5_add 55 = .ok (.getfield 22, 3) := by decide +kernel
theorem dX5_add_58 : decode cX5_add 58 = .ok (.iconst 1, 1) := by decide +kernel
theorem dX5_add_59 : decode cX5_add 59 = .ok (.iadd, 1) := by decide +kernel
theorem dX5_add_60 : decode cX5_add 60 = .ok (.putfield 22, 3) := by decide +kernel
theorem dX5_add_63 : decode cX5_add 63 = .ok (.return_, 1) := by decide +kernel
theorem dX5_has_0 : decode cX5_has 0 = .ok (.iload_n 1, 1) := by decide +kernel
theorem dX5_has_1 : decode cX5_has 1 = .ok (.ifCond .lt 24, 3) := by decide +kernel
theorem dX5_has_4 : decode cX5_has 4 = .ok (.iload_n 1, 1) := by decide +kernel
theorem dX5_has_5 : decode cX5_has 5 = .ok (.aload_n 0, 1) := by decide +kernel
theorem dX5_has_6 : decode cX5_has 6 = .ok (.getfield 22, 3) := by decide +kernel
theorem dX5_has_9 : decode cX5_has 9 = .ok (.if_icmp .ge 16, 3) := by decide +kernel
theorem dX5_has_12 : decode cX5_has 12 = .ok (.aload_n 0, 1) := by decide +kernel
theorem dX5_has_13 : decode cX5_has 13 = .ok (.getfield 9, 3) := by decide +kernel
theorem dX5_has_16 : decode cX5_has 16 = .ok (.iload_n 1, 1) := by decide +kernel
theorem dX5_has_17 : decode cX5_has 17 = .ok (.baload, 1) := by decide +kernel
theorem dX5_has_18 : decode cX5_has 18 = .ok (.ifCond .eq 7, 3) := by decide +kernel
theorem dX5_has_21 : decode cX5_has 21 = .ok (.iconst 1, 1) := by decide +kernel
theorem dX5_has_22 : decode cX5_has 22 = .ok (.goto 4, 3) := by decide +kernel
theorem dX5_has_25 : decode cX5_has 25 = .ok (.iconst 0, 1) := by decide +kernel
theorem dX5_has_26 : decode cX5_has 26 = .ok (.ireturn, 1) := by decide +kernel
theorem dX5_gap_0 : decode cX5_gap 0 = .ok (.aload_n 0, 1) := by decide +kernel
theorem dX5_gap_1 : decode cX5_gap 1 = .ok (.getfield 15, 3) := by decide +kernel
theorem dX5_gap_4 : decode cX5_gap 4 = .ok (.iload_n 2, 1) := by decide +kernel
theorem dX5_gap_5 : decode cX5_gap 5 = .ok (.iaload, 1) := by decide +kernel
theorem dX5_gap_6 : decode cX5_gap 6 = .ok (.aload_n 0, 1) := by decide +kernel
theorem dX5_gap_7 : decode cX5_gap 7 = .ok (.getfield 15, 3) := by decide +kernel
theorem dX5_gap_10 : decode cX5_gap 10 = .ok (.iload_n 1, 1) := by decide +kernel
theorem dX5_gap_11 : decode cX5_gap 11 = .ok (.iaload, 1) := by decide +kernel
theorem dX5_gap_12 : decode cX5_gap 12 = .ok (.isub, 1) := by decide +kernel
theorem dX5_gap_13 : decode cX5_gap 13 = .ok (.ireturn, 1) := by decide +kernel
theorem dX5_growth_0 : decode cX5_growth 0 = .ok (.aload_n 0, 1) := by decide +kernel
theorem dX5_growth_1 : decode cX5_growth 1 = .ok (.getfield 19, 3) := by decide +kernel
theorem dX5_growth_4 : decode cX5_growth 4 = .ok (.iload_n 2, 1) := by decide +kernel
theorem dX5_growth_5 : decode cX5_growth 5 = .ok (.iaload, 1) := by decide +kernel
theorem dX5_growth_6 : decode cX5_growth 6 = .ok (.aload_n 0, 1) := by decide +kernel
theorem dX5_growth_7 : decode cX5_growth 7 = .ok (.getfield 19, 3) := by decide +kernel
theorem dX5_growth_10 : decode cX5_growth 10 = .ok (.iload_n 1, 1) := by decide +kernel
theorem dX5_growth_11 : decode cX5_growth 11 = .ok (.iaload, 1) := by decide +kernel
theorem dX5_growth_12 : decode cX5_growth 12 = .ok (.isub, 1) := by decide +kernel
theorem dX5_growth_13 : decode cX5_growth 13 = .ok (.ireturn, 1) := by decide +kernel
theorem dX6_init_0 : decode cX6_init 0 = .ok (.aload_n 0, 1) := by decide +kernel
theorem dX6_init_1 : decode cX6_init 1 = .ok (.invokespecial 3, 3) := by decide +kernel
theorem dX6_init_4 : decode cX6_init 4 = .ok (.return_, 1) := by decide +kernel
theorem dX6_seek_0 : decode cX6_seek 0 = .ok (.aload_n 0, 1) := by decide +kernel
theorem dX6_seek_1 : decode cX6_seek 1 = .ok (.iload_n 1, 1) := by decide +kernel
theorem dX6_seek_2 : decode cX6_seek 2 = .ok (.putfield 9, 3) := by decide +kernel
theorem dX6_seek_5 : decode cX6_seek 5 = .ok (.aload_n 0, 1) := by decide +kernel
theorem dX6_seek_6 : decode cX6_seek 6 = .ok (.iconst 0, 1) := by decide +kernel
theorem dX6_seek_7 : decode cX6_seek 7 = .ok (.putfield 15, 3) := by decide +kernel
theorem dX6_seek_10 : decode cX6_seek 10 = .ok (.return_, 1) := by decide +kernel
set_option maxRecDepth 20000 in
theorem ggX6_addIfSo_X7_isSo : GoodIn wsX6_addIfSo wsX7_isSo := goodIn_r _ [4, 5, 6, 7, 8, 9, 10, 11, 12, 13, 14, 15, 16, 17, 18, 19, 20, 21, 22, 23, 34, 35, 36, 37, 38] (by decide +kernel) (by decide +kernel)
set_option maxRecDepth 20000 in
theorem gX6_addIfSo_X7_isSo_n18 : GoodIn wsX6_addIfSo (wsX7_isSo) := ggX6_addIfSo_X7_isSo
set_option maxRecDepth 20000 in
theorem ggX6_addIfSo_X6_add : GoodIn wsX6_addIfSo wsX6_add := goodIn_r _ [28, 29, 30, 31, 32, 33, 13, 11, 14, 15, 10, 12, 16, 17, 18, 19, 20, 21, 22, 23, 39, 40, 41, 42, 43] (by decide +kernel) (by decide +kernel)
set_option maxRecDepth 20000 in
theorem gX6_addIfSo_X6_add : GoodIn wsX6_addIfSo (wsV RX6 31 RX6 yX6_add wsX6_add) := goodIn_app (goodIn_of _ (by decide +kernel)) ggX6_addIfSo_X6_add
theorem dX6_addIfSo_0 : decode cX6_addIfSo 0 = .ok (.aload_n 1, 1) := by decide +kernel
theorem dX6_addIfSo_1 : decode cX6_addIfSo 1 = .ok (.invokevirtual 18, 3) := by decide +kernel
theorem dX6_addIfSo_4 : decode cX6_addIfSo 4 = .ok (.ifCond .eq 15, 3) := by decide +kernel
theorem dX6_addIfSo_7 : decode cX6_addIfSo 7 = .ok (.aload_n 0, 1) := by decide +kernel
theorem dX6_addIfSo_8 : decode cX6_addIfSo 8 = .ok (.aload_n 1, 1) := by decide +kernel
theorem dX6_addIfSo_9 : decode cX6_addIfSo 9 = .ok (.getfield 24, 3) := by decide +kernel
theorem dX6_addIfSo_12 : decode cX6_addIfSo 12 = .ok (.aload_n 1, 1) := by decide +kernel
theorem dX6_addIfSo_13 : decode cX6_addIfSo 13 = .ok (.getfield 28, 3) := by decide +kernel
theorem dX6_addIfSo_16 : decode cX6_addIfSo 16 = .ok (.invokevirtual 31, 3) := by decide +kernel
theorem dX6_addIfSo_19 : decode cX6_addIfSo 19 = .ok (.return_, 1) := by decide +kernel
set_option maxRecDepth 20000 in
theorem ggX6_add_X2_compare : GoodIn wsX6_add wsX2_compare := goodIn_r _ [8, 9, 10, 7, 11, 12, 13, 14, 15, 16, 17, 18, 19] (by decide +kernel) (by decide +kernel)
set_option maxRecDepth 20000 in
theorem gX6_add_X2_compare_n38 : GoodIn wsX6_add (wsX2_compare) := ggX6_add_X2_compare
theorem dX6_add_0 : decode cX6_add 0 = .ok (.aload_n 0, 1) := by decide +kernel
theorem dX6_add_1 : decode cX6_add 1 = .ok (.getfield 15, 3) := by decide +kernel
theorem dX6_add_4 : decode cX6_add 4 = .ok (.ifCond .le 18, 3) := by decide +kernel
theorem dX6_add_7 : decode cX6_add 7 = .ok (.lload_n 1, 1) := by decide +kernel
theorem dX6_add_8 : decode cX6_add 8 = .ok (.aload_n 0, 1) := by decide +kernel
theorem dX6_add_9 : decode cX6_add 9 = .ok (.getfield 35, 3) := by decide +kernel
theorem dX6_add_12 : decode cX6_add 12 = .ok (.invokestatic 38, 3) := by decide +kernel
theorem dX6_add_15 : decode cX6_add 15 = .ok (.ifCond .gt 7, 3) := by decide +kernel
theorem dX6_add_18 : decode cX6_add 18 = .ok (.iconst 1, 1) := by decide +kernel
theorem dX6_add_19 : decode cX6_add 19 = .ok (.goto 4, 3) := by decide +kernel
theorem dX6_add_22 : decode cX6_add 22 = .ok (.iconst 0, 1) := by decide +kernel
theorem dX6_add_23 : decode cX6_add 23 = .ok (.istore 5, 2) := by decide +kernel
theorem dX6_add_25 : decode cX6_add 25 = .ok (.iload 5, 2) := by decide +kernel
theorem dX6_add_27 : decode cX6_add 27 = .ok (.ifCond .ne 31, 3) := by decide +kernel
theorem dX6_add_30 : decode cX6_add 30 = .ok (.aload_n 0, 1) := by decide +kernel
theorem dX6_add_31 : decode cX6_add 31 = .ok (.dup, 1) := by decide +kernel
theorem dX6_add_32 : decode cX6_add 32 = .ok (.getfield 15, 3) := by decide +kernel
theorem dX6_add_35 : decode cX6_add 35 = .ok (.iconst 1, 1) := by decide +kernel
theorem dX6_add_36 : decode cX6_add 36 = .ok (.iadd, 1) := by decide +kernel
theorem dX6_add_37 : decode cX6_add 37 = .ok (.putfield 15, 3) := by decide +kernel
theorem dX6_add_40 : decode cX6_add 40 = .ok (.aload_n 0, 1) := by decide +kernel
theorem dX6_add_41 : decode cX6_add 41 = .ok (.getfield 15, 3) := by decide +kernel
theorem dX6_add_44 : decode cX6_add 44 = .ok (.iconst 1, 1) := by decide +kernel
theorem dX6_add_45 : decode cX6_add 45 = .ok (.isub, 1) := by decide +kernel
theorem dX6_add_46 : decode cX6_add 46 = .ok (.aload_n 0, 1) := by decide +kernel
theorem dX6_add_47 : decode cX6_add 47 = .ok (.getfield 9, 3) := by decide +kernel
theorem dX6_add_50 : decode cX6_add 50 = .ok (.if_icmp .ne 8, 3) := by decide +kernel
theorem dX6_add_53 : decode cX6_add 53 = .ok (.aload_n 0, 1) := by decide +kernel
theorem dX6_add_54 : decode cX6_add 54 = .ok (.lload_n 1, 1) := by decide +kernel
theorem dX6_add_55 : decode cX6_add 55 = .ok (.putfield 44, 3) := by decide +kernel
theorem dX6_add_58 : decode cX6_add 58 = .ok (.aload_n 0, 1) := by decide +kernel
theorem dX6_add_59 : decode cX6_add 59 = .ok (.lload_n 3, 1) := by decide +kernel
theorem dX6_add_60 : decode cX6_add 60 = .ok (.putfield 35, 3) := by decide +kernel
theorem dX6_add_63 : decode cX6_add 63 = .ok (.aload_n 0, 1) := by decide +kernel
theorem dX6_add_64 : decode cX6_add 64 = .ok (.getfield 15, 3) := by decide +kernel
theorem dX6_add_67 : decode cX6_add 67 = .ok (.iconst 1, 1) := by decide +kernel
theorem dX6_add_68 : decode cX6_add 68 = .ok (.isub, 1) := by decide +kernel
theorem dX6_add_69 : decode cX6_add 69 = .ok (.aload_n 0, 1) := by decide +kernel
theorem dX6_add_70 : decode cX6_add 70 = .ok (.getfield 9, 3) := by decide +kernel
theorem dX6_add_73 : decode cX6_add 73 = .ok (.if_icmp .ne 8, 3) := by decide +kernel
theorem dX6_add_76 : decode cX6_add 76 = .ok (.aload_n 0, 1) := by decide +kernel
theorem dX6_add_77 : decode cX6_add 77 = .ok (.lload_n 3, 1) := by decide +kernel
theorem dX6_add_78 : decode cX6_add 78 = .ok (.putfield 47, 3) := by decide +kernel
theorem dX6_add_81 : decode cX6_add 81 = .ok (.return_, 1) := by decide +kernel
set_option maxRecDepth 20000 in
theorem ggX6_tell_X2_upper : GoodIn wsX6_tell wsX2_upper := goodIn_r _ [7] (by decide +kernel) (by decide +kernel)
set_option maxRecDepth 20000 in
theorem gX6_tell_X2_upper_n50 : GoodIn wsX6_tell (wsX2_upper) := ggX6_tell_X2_upper
set_option maxRecDepth 20000 in
theorem ggX6_tell_X2_lower : GoodIn wsX6_tell wsX2_lower := goodIn_r _ [9, 10] (by decide +kernel) (by decide +kernel)
set_option maxRecDepth 20000 in
theorem gX6_tell_X2_lower_n54 : GoodIn wsX6_tell (wsX2_lower) := ggX6_tell_X2_lower
theorem dX6_tell_0 : decode cX6_tell 0 = .ok (.aload_n 0, 1) := by decide +kernel
theorem dX6_tell_1 : decode cX6_tell 1 = .ok (.getfield 9, 3) := by decide +kernel
theorem dX6_tell_4 : decode cX6_tell 4 = .ok (.iconst (-1), 1) := by decide +kernel
theorem dX6_tell_5 : decode cX6_tell 5 = .ok (.if_icmp .ne 8, 3) := by decide +kernel
theorem dX6_tell_8 : decode cX6_tell 8 = .ok (.aload_n 0, 1) := by decide +kernel
theorem dX6_tell_9 : decode cX6_tell 9 = .ok (.getfield 15, 3) := by decide +kernel
theorem dX6_tell_12 : decode cX6_tell 12 = .ok (.ireturn, 1) := by decide +kernel
theorem dX6_tell_13 : decode cX6_tell 13 = .ok (.aload_n 0, 1) := by decide +kernel
theorem dX6_tell_14 : decode cX6_tell 14 = .ok (.getfield 9, 3) := by decide +kernel
theorem dX6_tell_17 : decode cX6_tell 17 = .ok (.ifCond .lt 14, 3) := by decide +kernel
theorem dX6_tell_20 : decode cX6_tell 20 = .ok (.aload_n 0, 1) := by decide +kernel
theorem dX6_tell_21 : decode cX6_tell 21 = .ok (.getfield 9, 3) := by decide +kernel
theorem dX6_tell_24 : decode cX6_tell 24 = .ok (.aload_n 0, 1) := by decide +kernel
theorem dX6_tell_25 : decode cX6_tell 25 = .ok (.getfield 15, 3) := by decide +kernel
theorem dX6_tell_28 : decode cX6_tell 28 = .ok (.if_icmp .lt 5, 3) := by decide +kernel
theorem dX6_tell_31 : decode cX6_tell 31 = .ok (.iconst (-1), 1) := by decide +kernel
theorem dX6_tell_32 : decode cX6_tell 32 = .ok (.ireturn, 1) := by decide +kernel
theorem dX6_tell_33 : decode cX6_tell 33 = .ok (.iload_n 1, 1) := by decide +kernel
theorem dX6_tell_34 : decode cX6_tell 34 = .ok (.iconst 2, 1) := by decide +kernel
theorem dX6_tell_35 : decode cX6_tell 35 = .ok (.if_icmp .ge 10, 3) := by decide +kernel
theorem dX6_tell_38 : decode cX6_tell 38 = .ok (.aload_n 0, 1) := by decide +kernel
theorem dX6_tell_39 : decode cX6_tell 39 = .ok (.getfield 44, 3) := by decide +kernel
theorem dX6_tell_42 : decode cX6_tell 42 = .ok (.goto 7, 3) := by decide +kernel
theorem dX6_tell_45 : decode cX6_tell 45 = .ok (.aload_n 0, 1) := by decide +kernel
theorem dX6_tell_46 : decode cX6_tell 46 = .ok (.getfield 47, 3) := by decide +kernel
theorem dX6_tell_49 : decode cX6_tell 49 = .ok (.lstore_n 2, 1) := by decide +kernel
theorem dX6_tell_50 : decode cX6_tell 50 = .ok (.iload_n 1, 1) := by decide +kernel
theorem dX6_tell_51 : decode cX6_tell 51 = .ok (.iconst 2, 1) := by decide +kernel
theorem dX6_tell_52 : decode cX6_tell 52 = .ok (.irem, 1) := by decide +kernel
theorem dX6_tell_53 : decode cX6_tell 53 = .ok (.ifCond .ne 10, 3) := by decide +kernel
theorem dX6_tell_56 : decode cX6_tell 56 = .ok (.lload_n 2, 1) := by decide +kernel
theorem dX6_tell_57 : decode cX6_tell 57 = .ok (.invokestatic 50, 3) := by decide +kernel
theorem dX6_tell_60 : decode cX6_tell 60 = .ok (.goto 7, 3) := by decide +kernel
theorem dX6_tell_63 : decode cX6_tell 63 = .ok (.lload_n 2, 1) := by decide +kernel
theorem dX6_tell_64 : decode cX6_tell 64 = .ok (.invokestatic 54, 3) := by decide +kernel
theorem dX6_tell_67 : decode cX6_tell 67 = .ok (.ireturn, 1) := by decide +kernel
theorem dX7_init_0 : decode cX7_init 0 = .ok (.aload_n 0, 1) := by decide +kernel
theorem dX7_init_1 : decode cX7_init 1 = .ok (.invokespecial 1, 3) := by decide +kernel
theorem dX7_init_4 : decode cX7_init 4 = .ok (.return_, 1) := by decide +kernel
set_option maxRecDepth 20000 in
theorem ggX7_open_X2_whole : GoodIn wsX7_open wsX2_whole := goodIn_r _ [5] (by decide +kernel) (by decide +kernel)
set_option maxRecDepth 20000 in
theorem gX7_open_X2_whole_n13 : GoodIn wsX7_open (wsX2_whole) := ggX7_open_X2_whole
set_option maxRecDepth 20000 in
theorem ggX7_open_X7_keepAll : GoodIn wsX7_open wsX7_keepAll := goodIn_r _ [10, 1, 11, 2, 12, 13, 3, 4, 5, 14, 15, 16, 17, 18] (by decide +kernel) (by decide +kernel)
set_option maxRecDepth 20000 in
theorem gX7_open_X7_keepAll : GoodIn wsX7_open (wsV RX7 23 RX7 yX7_keepAll wsX7_keepAll) := goodIn_app (goodIn_of _ (by decide +kernel)) ggX7_open_X7_keepAll
theorem dX7_open_0 : decode cX7_open 0 = .ok (.aload_n 0, 1) := by decide +kernel
theorem dX7_open_1 : decode cX7_open 1 = .ok (.iload_n 1, 1) := by decide +kernel
theorem dX7_open_2 : decode cX7_open 2 = .ok (.putfield 7, 3) := by decide +kernel
theorem dX7_open_5 : decode cX7_open 5 = .ok (.aload_n 0, 1) := by decide +kernel
theorem dX7_open_6 : decode cX7_open 6 = .ok (.iload_n 2, 1) := by decide +kernel
theorem dX7_open_7 : decode cX7_open 7 = .ok (.invokestatic 13, 3) := by decide +kernel
theorem dX7_open_10 : decode cX7_open 10 = .ok (.putfield 19, 3) := by decide +kernel
theorem dX7_open_13 : decode cX7_open 13 = .ok (.aload_n 0, 1) := by decide +kernel
theorem dX7_open_14 : decode cX7_open 14 = .ok (.invokevirtual 23, 3) := by decide +kernel
theorem dX7_open_17 : decode cX7_open 17 = .ok (.return_, 1) := by decide +kernel
set_option maxRecDepth 20000 in
theorem ggX7_keepAll_X2_whole : GoodIn wsX7_keepAll wsX2_whole := goodIn_r _ [8] (by decide +kernel) (by decide +kernel)
set_option maxRecDepth 20000 in
theorem gX7_keepAll_X2_whole_n13 : GoodIn wsX7_keepAll (wsX2_whole) := ggX7_keepAll_X2_whole
theorem dX7_keepAll_0 : decode cX7_keepAll 0 = .ok (.aload_n 0, 1) := by decide +kernel
theorem dX7_keepAll_1 : decode cX7_keepAll 1 = .ok (.aload_n 0, 1) := by decide +kernel
theorem dX7_keepAll_2 : decode cX7_keepAll 2 = .ok (.getfield 7, 3) := by decide +kernel
theorem dX7_keepAll_5 : decode cX7_keepAll 5 = .ok (.invokestatic 13, 3) := by decide +kernel
theorem dX7_keepAll_8 : decode cX7_keepAll 8 = .ok (.putfield 26, 3) := by decide +kernel
theorem dX7_keepAll_11 : decode cX7_keepAll 11 = .ok (.aload_n 0, 1) := by decide +kernel
theorem dX7_keepAll_12 : decode cX7_keepAll 12 = .ok (.aload_n 0, 1) := by decide +kernel
theorem dX7_keepAll_13 : decode cX7_keepAll 13 = .ok (.getfield 19, 3) := by decide +kernel
theorem dX7_keepAll_16 : decode cX7_keepAll 16 = .ok (.putfield 29, 3) := by decide +kernel
theorem dX7_keepAll_19 : decode cX7_keepAll 19 = .ok (.aload_n 0, 1) := by decide +kernel
theorem dX7_keepAll_20 : decode cX7_keepAll 20 = .ok (.iconst 0, 1) := by decide +kernel
theorem dX7_keepAll_21 : decode cX7_keepAll 21 = .ok (.putfield 32, 3) := by decide +kernel
theorem dX7_keepAll_24 : decode cX7_keepAll 24 = .ok (.return_, 1) := by decide +kernel
theorem dX7_keepNothing_0 : decode cX7_keepNothing 0 = .ok (.aload_n 0, 1) := by decide +kernel
theorem dX7_keepNothing_1 : decode cX7_keepNothing 1 = .ok (.iconst 1, 1) := by decide +kernel
theorem dX7_keepNothing_2 : decode cX7_keepNothing 2 = .ok (.putfield 32, 3) := by decide +kernel
theorem dX7_keepNothing_5 : decode cX7_keepNothing 5 = .ok (.return_, 1) := by decide +kernel
set_option maxRecDepth 20000 in
theorem ggX7_keepAtMost_X2_past : GoodIn wsX7_keepAtMost wsX2_past := goodIn_r _ [6, 7, 8, 5, 9, 10, 11, 12, 13, 14, 15, 16, 17, 18, 19] (by decide +kernel) (by decide +kernel)
set_option maxRecDepth 20000 in
theorem gX7_keepAtMost_X2_past_n36 : GoodIn wsX7_keepAtMost (wsX2_past) := ggX7_keepAtMost_X2_past
set_option maxRecDepth 20000 in
theorem ggX7_keepAtMost_X2_compare : GoodIn wsX7_keepAtMost wsX2_compare := goodIn_r _ [21, 22, 23, 5, 24, 25, 26, 27, 28, 29, 30, 31, 32] (by decide +kernel) (by decide +kernel)
set_option maxRecDepth 20000 in
theorem gX7_keepAtMost_X2_compare_n40 : GoodIn wsX7_keepAtMost (wsX2_compare) := ggX7_keepAtMost_X2_compare
set_option maxRecDepth 20000 in
theorem ggX7_keepAtMost_X7_keepNothing : GoodIn wsX7_keepAtMost wsX7_keepNothing := goodIn_r _ [37, 38, 39, 40, 41, 42, 43] (by decide +kernel) (by decide +kernel)
set_option maxRecDepth 20000 in
theorem gX7_keepAtMost_X7_keepNothing : GoodIn wsX7_keepAtMost (wsV RX7 44 RX7 yX7_keepNothing wsX7_keepNothing) := goodIn_app (goodIn_of _ (by decide +kernel)) ggX7_keepAtMost_X7_keepNothing
theorem dX7_keepAtMost_0 : decode cX7_keepAtMost 0 = .ok (.iload_n 2, 1) := by decide +kernel
theorem dX7_keepAtMost_1 : decode cX7_keepAtMost 1 = .ok (.ifCond .le 44, 3) := by decide +kernel
theorem dX7_keepAtMost_4 : decode cX7_keepAtMost 4 = .ok (.aload_n 0, 1) := by decide +kernel
theorem dX7_keepAtMost_5 : decode cX7_keepAtMost 5 = .ok (.getfield 7, 3) := by decide +kernel
theorem dX7_keepAtMost_8 : decode cX7_keepAtMost 8 = .ok (.iload_n 3, 1) := by decide +kernel
theorem dX7_keepAtMost_9 : decode cX7_keepAtMost 9 = .ok (.iload_n 1, 1) := by decide +kernel
theorem dX7_keepAtMost_10 : decode cX7_keepAtMost 10 = .ok (.isub, 1) := by decide +kernel
theorem dX7_keepAtMost_11 : decode cX7_keepAtMost 11 = .ok (.iload_n 2, 1) := by decide +kernel
theorem dX7_keepAtMost_12 : decode cX7_keepAtMost 12 = .ok (.invokestatic 36, 3) := by decide +kernel
theorem dX7_keepAtMost_15 : decode cX7_keepAtMost 15 = .ok (.lstore 4, 2) := by decide +kernel
theorem dX7_keepAtMost_17 : decode cX7_keepAtMost 17 = .ok (.aload_n 0, 1) := by decide +kernel
theorem dX7_keepAtMost_18 : decode cX7_keepAtMost 18 = .ok (.lload 4, 2) := by decide +kernel
theorem dX7_keepAtMost_20 : decode cX7_keepAtMost 20 = .ok (.aload_n 0, 1) := by decide +kernel
theorem dX7_keepAtMost_21 : decode cX7_keepAtMost 21 = .ok (.getfield 29, 3) := by decide +kernel
theorem dX7_keepAtMost_24 : decode cX7_keepAtMost 24 = .ok (.invokestatic 40, 3) := by decide +kernel
theorem dX7_keepAtMost_27 : decode cX7_keepAtMost 27 = .ok (.ifCond .ge 8, 3) := by decide +kernel
theorem dX7_keepAtMost_30 : decode cX7_keepAtMost 30 = .ok (.lload 4, 2) := by decide +kernel
theorem dX7_keepAtMost_32 : decode cX7_keepAtMost 32 = .ok (.goto 7, 3) := by decide +kernel
theorem dX7_keepAtMost_35 : decode cX7_keepAtMost 35 = .ok (.aload_n 0, 1) := by decide +kernel
theorem dX7_keepAtMost_36 : decode cX7_keepAtMost 36 = .ok (.getfield 29, 3) := by decide +kernel
theorem dX7_keepAtMost_39 : decode cX7_keepAtMost 39 = .ok (.putfield 29, 3) := by decide +kernel
theorem dX7_keepAtMost_42 : decode cX7_keepAtMost 42 = .ok (.goto 58, 3) := by decide +kernel
theorem dX7_keepAtMost_45 : decode cX7_keepAtMost 45 = .ok (.iload_n 2, 1) := by decide +kernel
theorem dX7_keepAtMost_46 : decode cX7_keepAtMost 46 = .ok (.ifCond .ge 45, 3) := by decide +kernel
theorem dX7_keepAtMost_49 : decode cX7_keepAtMost 49 = .ok (.aload_n 0, 1) := by decide +kernel
theorem dX7_keepAtMost_50 : decode cX7_keepAtMost 50 = .ok (.getfield 7, 3) := by decide +kernel
theorem dX7_keepAtMost_53 : decode cX7_keepAtMost 53 = .ok (.iload_n 1, 1) := by decide +kernel
theorem dX7_keepAtMost_54 : decode cX7_keepAtMost 54 = .ok (.iload_n 3, 1) := by decide +kernel
theorem dX7_keepAtMost_55 : decode cX7_keepAtMost 55 = .ok (.isub, 1) := by decide +kernel
theorem dX7_keepAtMost_56 : decode cX7_keepAtMost 56 = .ok (.iload_n 2, 1) := by decide +kernel
theorem dX7_keepAtMost_57 : decode cX7_keepAtMost 57 = .ok (.ineg, 1) := by decide +kernel
theorem dX7_keepAtMost_58 : decode cX7_keepAtMost 58 = .ok (.invokestatic 36, 3) := by decide +kernel
theorem dX7_keepAtMost_61 : decode cX7_keepAtMost 61 = .ok (.lstore 4, 2) := by decide +kernel
theorem dX7_keepAtMost_63 : decode cX7_keepAtMost 63 = .ok (.aload_n 0, 1) := by decide +kernel
theorem dX7_keepAtMost_64 : decode cX7_keepAtMost 64 = .ok (.lload 4, 2) := by decide +kernel
theorem dX7_keepAtMost_66 : decode cX7_keepAtMost 66 = .ok (.aload_n 0, 1) := by decide +kernel
theorem dX7_keepAtMost_67 : decode cX7_keepAtMost 67 = .ok (.getfield 26, 3) := by decide +kernel
theorem dX7_keepAtMost_70 : decode cX7_keepAtMost 70 = .ok (.invokestatic 40, 3) := by decide +kernel
theorem dX7_keepAtMost_73 : decode cX7_keepAtMost 73 = .ok (.ifCond .le 8, 3) := by decide +kernel
theorem dX7_keepAtMost_76 : decode cX7_keepAtMost 76 = .ok (.lload 4, 2) := by decide +kernel
theorem dX7_keepAtMost_78 : decode cX7_keepAtMost 78 = .ok (.goto 7, 3) := by decide +kernel
theorem dX7_keepAtMost_81 : decode cX7_keepAtMost 81 = .ok (.aload_n 0, 1) := by decide +kernel
theorem dX7_keepAtMost_82 : decode cX7_keepAtMost 82 = .ok (.getfield 26, 3) := by decide +kernel
theorem dX7_keepAtMost_85 : decode cX7_keepAtMost 85 = .ok (.putfield 26, 3) := by decide +kernel
theorem dX7_keepAtMost_88 : decode cX7_keepAtMost 88 = .ok (.goto 12, 3) := by decide +kernel
theorem dX7_keepAtMost_91 : decode cX7_keepAtMost 91 = .ok (.iload_n 1, 1) := by decide +kernel
theorem dX7_keepAtMost_92 : decode cX7_keepAtMost 92 = .ok (.iload_n 3, 1) := by decide +kernel
theorem dX7_keepAtMost_93 : decode cX7_keepAtMost 93 = .ok (.if_icmp .le 7, 3) := by decide +kernel
theorem dX7_keepAtMost_96 : decode cX7_keepAtMost 96 = .ok (.aload_n 0, 1) := by decide +kernel
theorem dX7_keepAtMost_97 : decode cX7_keepAtMost 97 = .ok (.invokevirtual 44, 3) := by decide +kernel
theorem dX7_keepAtMost_100 : decode cX7_keepAtMost 100 = .ok (.return_, 1) := by decide +kernel
set_option maxRecDepth 20000 in
theorem ggX7_isSo_X2_upper : GoodIn wsX7_isSo wsX2_upper := goodIn_r _ [8] (by decide +kernel) (by decide +kernel)
set_option maxRecDepth 20000 in
theorem gX7_isSo_X2_upper_n47 : GoodIn wsX7_isSo (wsX2_upper) := ggX7_isSo_X2_upper
set_option maxRecDepth 20000 in
theorem ggX7_isSo_X2_compare : GoodIn wsX7_isSo wsX2_compare := goodIn_r _ [10, 11, 6, 7, 8, 12, 13, 14, 15, 16, 17, 18, 19] (by decide +kernel) (by decide +kernel)
set_option maxRecDepth 20000 in
theorem gX7_isSo_X2_compare_n40 : GoodIn wsX7_isSo (wsX2_compare) := ggX7_isSo_X2_compare
theorem dX7_isSo_0 : decode cX7_isSo 0 = .ok (.aload_n 0, 1) := by decide +kernel
theorem dX7_isSo_1 : decode cX7_isSo 1 = .ok (.getfield 26, 3) := by decide +kernel
theorem dX7_isSo_4 : decode cX7_isSo 4 = .ok (.aload_n 0, 1) := by decide +kernel
theorem dX7_isSo_5 : decode cX7_isSo 5 = .ok (.getfield 19, 3) := by decide +kernel
theorem dX7_isSo_8 : decode cX7_isSo 8 = .ok (.lcmp, 1) := by decide +kernel
theorem dX7_isSo_9 : decode cX7_isSo 9 = .ok (.ifCond .ne 21, 3) := by decide +kernel
theorem dX7_isSo_12 : decode cX7_isSo 12 = .ok (.aload_n 0, 1) := by decide +kernel
theorem dX7_isSo_13 : decode cX7_isSo 13 = .ok (.getfield 7, 3) := by decide +kernel
theorem dX7_isSo_16 : decode cX7_isSo 16 = .ok (.aload_n 0, 1) := by decide +kernel
theorem dX7_isSo_17 : decode cX7_isSo 17 = .ok (.getfield 19, 3) := by decide +kernel
theorem dX7_isSo_20 : decode cX7_isSo 20 = .ok (.invokestatic 47, 3) := by decide +kernel
theorem dX7_isSo_23 : decode cX7_isSo 23 = .ok (.if_icmp .eq 7, 3) := by decide +kernel
theorem dX7_isSo_26 : decode cX7_isSo 26 = .ok (.iconst 1, 1) := by decide +kernel
theorem dX7_isSo_27 : decode cX7_isSo 27 = .ok (.goto 4, 3) := by decide +kernel
theorem dX7_isSo_30 : decode cX7_isSo 30 = .ok (.iconst 0, 1) := by decide +kernel
theorem dX7_isSo_31 : decode cX7_isSo 31 = .ok (.istore_n 1, 1) := by decide +kernel
theorem dX7_isSo_32 : decode cX7_isSo 32 = .ok (.aload_n 0, 1) := by decide +kernel
theorem dX7_isSo_33 : decode cX7_isSo 33 = .ok (.getfield 32, 3) := by decide +kernel
theorem dX7_isSo_36 : decode cX7_isSo 36 = .ok (.ifCond .ne 25, 3) := by decide +kernel
theorem dX7_isSo_39 : decode cX7_isSo 39 = .ok (.iload_n 1, 1) := by decide +kernel
theorem dX7_isSo_40 : decode cX7_isSo 40 = .ok (.ifCond .ne 21, 3) := by decide +kernel
theorem dX7_isSo_43 : decode cX7_isSo 43 = .ok (.aload_n 0, 1) := by decide +kernel
theorem dX7_isSo_44 : decode cX7_isSo 44 = .ok (.getfield 26, 3) := by decide +kernel
theorem dX7_isSo_47 : decode cX7_isSo 47 = .ok (.aload_n 0, 1) := by decide +kernel
theorem dX7_isSo_48 : decode cX7_isSo 48 = .ok (.getfield 29, 3) := by decide +kernel
theorem dX7_isSo_51 : decode cX7_isSo 51 = .ok (.invokestatic 40, 3) := by decide +kernel
theorem dX7_isSo_54 : decode cX7_isSo 54 = .ok (.ifCond .gt 7, 3) := by decide +kernel
theorem dX7_isSo_57 : decode cX7_isSo 57 = .ok (.iconst 1, 1) := by decide +kernel
theorem dX7_isSo_58 : decode cX7_isSo 58 = .ok (.goto 4, 3) := by decide +kernel
theorem dX7_isSo_61 : decode cX7_isSo 61 = .ok (.iconst 0, 1) := by decide +kernel
theorem dX7_isSo_62 : decode cX7_isSo 62 = .ok (.ireturn, 1) := by decide +kernel
end
section
/-! the world of this claim: 75 cells, numbered; what each holds is a function of its number -/
abbrev cls : List vw_C := [(RX0, TX0, 5), (RX1, TX1, 3), (RX3, TX3, 3), (RX4, TX4, 5), (RX5, TX5, 4), (RX6, TX6, 5), (RX7, TX7, 5), (RX8, TX8, 11), (RX9, TX9, 26)]
abbrev GE : Type := va_G × (Nat → Nat) × ClassId × ClassId × ClassId × ClassId
abbrev WF : Type := Nat → va_E
def gD (G : GE) : va_G := G.1
def gad (G : GE) : Nat → Nat := G.2.1
def gI (G : GE) : ClassId := G.2.2.1
def gJ (G : GE) : ClassId := G.2.2.2.1
def gZ (G : GE) : ClassId := G.2.2.2.2.1
def gQ (G : GE) : ClassId := G.2.2.2.2.2
abbrev gtys (G : GE) : List (ClassId × FieldType) := [(gI G, .int), (gJ G, .long), (gZ G, .boolean), (gQ G, .object RX0)]
/-- what a cell holds: ints, longs of an array; an int, a long of an object -/
def eA (e : va_E) : Nat → Int32 := match e with
  | .inl (_, _, .inl f) => f
  | _ => fun _ => 0
def eL (e : va_E) : Nat → Int64 := match e with
  | .inl (_, _, .inr (.inl f)) => f
  | _ => fun _ => 0
def eF (e : va_E) (j : Nat) : Int32 := match e with
  | .inr (_, fs) => (match fs[j]? with
    | some (.int x) => x
    | _ => 0)
  | _ => 0
def eG (e : va_E) (j : Nat) : Int64 := match e with
  | .inr (_, fs) => (match fs[j]? with
    | some (.long x) => x
    | _ => 0)
  | _ => 0
/-- the shape of cell k: what is fixed of it -/
def shpA (G : GE) (k : Nat) (e : va_E) : va_E := match k with
  | 0 => .inr (7, [.ref (gad G 1), .int (eF e 1), .int (eF e 2), .ref (gad G 2), .ref (gad G 5), .int (eF e 5), .ref (gad G 6), .ref (gad G 10), .ref (gad G 14), .ref (gad G 15), .ref (gad G 18)])
  | 1 => .inl (gQ G, 10, .inr (.inr (.inr (.inr (fun i => some (gad G (19 + 4 * i)))))))
  | 2 => .inr (2, [.ref (gad G 3), .ref (gad G 4), .int (eF e 2)])
  | 3 => .inl (gI G, 10, .inl (eA e))
  | 4 => .inl (gI G, 10, .inl (eA e))
  | 5 => .inl (gI G, 92, .inl (eA e))
  | 6 => .inr (4, [.ref (gad G 7), .ref (gad G 8), .ref (gad G 9), .int (eF e 3)])
  | 7 => .inl (gZ G, 10, .inl (eA e))
  | 8 => .inl (gI G, 10, .inl (eA e))
  | 9 => .inl (gI G, 10, .inl (eA e))
  | 10 => .inr (3, [.ref (gad G 11), .ref (gad G 12), .ref (gad G 13), .int (eF e 3), .int (eF e 4)])
  | 11 => .inl (gJ G, 45, .inr (.inl (eL e)))
  | 12 => .inl (gI G, 45, .inl (eA e))
  | 13 => .inl (gI G, 45, .inl (eA e))
  | 14 => .inr (6, [.int (eF e 0), .long (eG e 1), .long (eG e 2), .long (eG e 3), .int (eF e 4)])
  | 15 => .inr (1, [.ref (gad G 16), .ref (gad G 17), .int (eF e 2)])
  | 16 => .inl (gJ G, 10, .inr (.inl (eL e)))
  | 17 => .inl (gJ G, 10, .inr (.inl (eL e)))
  | _ => .inr (5, [.int (eF e 0), .int (eF e 1), .long (eG e 2), .long (eG e 3), .long (eG e 4)])
def shpB (G : GE) (k : Nat) (e : va_E) : va_E := match k % 4 with
  | 3 => .inr (0, [.ref (gad G (k + 1)), .ref (gad G (k + 2)), .ref (gad G (k + 3)), .int (eF e 3), .int (eF e 4)])
  | _ => .inl (gI G, 8, .inl (eA e))
def shpC (G : GE) (k : Nat) (e : va_E) : va_E := match k with
  | 0 => .inr (8, [.int (eF e 0), .int (eF e 1), .ref (gad G 60), .ref (gad G 61), .ref (gad G 62), .ref (gad G 63), .ref (gad G 64), .ref (gad G 65), .int (eF e 8), .int (eF e 9), .ref (gad G 66), .ref (gad G 67), .ref (gad G 68), .ref (gad G 69), .ref (gad G 70), .int (eF e 15), .ref (gad G 71), .ref (gad G 72), .int (eF e 18), .int (eF e 19), .int (eF e 20), .long (eG e 21), .long (eG e 22), .int (eF e 23), .ref (gad G 73), .ref (gad G 74)])
  | 1 => .inl (gI G, 10, .inl (eA e))
  | 2 => .inl (gI G, 10, .inl (eA e))
  | 3 => .inl (gI G, 80, .inl (eA e))
  | 4 => .inl (gI G, 80, .inl (eA e))
  | 5 => .inl (gI G, 80, .inl (eA e))
  | 6 => .inl (gI G, 10, .inl (eA e))
  | 7 => .inl (gJ G, 800, .inr (.inl (eL e)))
  | 8 => .inl (gJ G, 800, .inr (.inl (eL e)))
  | 9 => .inl (gI G, 800, .inl (eA e))
  | 10 => .inl (gI G, 800, .inl (eA e))
  | 11 => .inl (gZ G, 800, .inl (eA e))
  | 12 => .inl (gJ G, 700, .inr (.inl (eL e)))
  | 13 => .inl (gJ G, 700, .inr (.inl (eL e)))
  | 14 => .inl (gJ G, 1400, .inr (.inl (eL e)))
  | _ => .inl (gJ G, 1400, .inr (.inl (eL e)))
def shp (G : GE) (k : Nat) (e : va_E) : va_E := if k < 19 then shpA G k e else if k < 59 then shpB G k e else shpC G (k - 59) e
def PW (G : GE) (w : WF) (H : Heap) : Prop := (∀ k, k < 75 → w k = shp G k (w k)) ∧ ∀ k, k < 75 → va_at (gD G) cls (gad G k, w k) H
def Inj (G : GE) : Prop := ∀ i j, i < 75 → j < 75 → gad G i = gad G j → i = j
def AA (G : GE) : Nat → Prop := fun q => ∃ k, k < 75 ∧ q = gad G k
def nestM : List (String × Nat × MethodName) := [(RX8, 15, yX0_init), (RX8, 18, yX3_init), (RX8, 29, yX5_init), (RX8, 36, yX4_init), (RX8, 43, yX7_init), (RX8, 50, yX1_init), (RX8, 57, yX6_init), (RX8, 75, yX0_begin), (RX8, 84, yX0_isStopped), (RX8, 89, yX0_canTurn), (RX8, 92, yX0_latestSpeed), (RX8, 96, yX0_turn), (RX8, 100, yX0_began), (RX8, 103, yX0_stop), (RX8, 217, yX0_undoFrom), (RX8, 220, yX3_clear), (RX8, 140, yX0_isThere), (RX8, 145, yX0_upperAt), (RX8, 223, yX3_insert), (RX8, 229, yX0_nextBend), (RX8, 239, yX4_clear), (RX8, 234, yX5_clear), (RX8, 235, yX5_add), (RX5, 26, yX0_isThere), (RX5, 31, yX0_placeAt), (RX5, 35, yX0_speedAt), (RX8, 243, yX5_has), (RX8, 250, yX5_gap), (RX8, 253, yX5_growth), (RX8, 259, yX2_past), (RX8, 263, yX2_whole), (RX8, 267, yX2_compare), (RX8, 271, yX4_insert), (RX4, 29, yX2_compare), (RX8, 277, yX0_speedAt), (RX8, 148, yX2_of), (RX8, 154, yX2_upper), (RX8, 158, yX2_lower), (RX8, 161, yX3_tell), (RX8, 165, yX3_closestUpper), (RX8, 168, yX3_heaps), (RX8, 175, yX4_tell), (RX4, 35, yX2_upper), (RX4, 39, yX2_lower), (RX8, 183, yX6_seek), (RX8, 280, yX7_open), (RX7, 13, yX2_whole), (RX8, 283, yX7_keepNothing), (RX8, 286, yX7_keepAtMost), (RX7, 36, yX2_past), (RX7, 40, yX2_compare), (RX8, 198, yX6_addIfSo), (RX6, 18, yX7_isSo), (RX7, 47, yX2_upper), (RX6, 38, yX2_compare), (RX8, 202, yX6_tell), (RX6, 50, yX2_upper), (RX6, 54, yX2_lower), (RX8, 289, yX1_clear), (RX8, 290, yX7_keepAll), (RX8, 299, yX1_addIfSo), (RX1, 22, yX7_isSo), (RX1, 39, yX2_compare), (RX8, 308, yX6_add)]
def nestF : List (String × Nat × String × String × String) := [(RX8, 129, "KeptMoving$Course", "pieces", "I"), (RX8, 126, "KeptMoving$Course", "stopped", "I"), (RX8, 113, "KeptMoving$Line", "size", "I"), (RX8, 293, "KeptMoving$Scene", "places", "[I"), (RX8, 296, "KeptMoving$Scene", "speeds", "[I"), (RX8, 233, "KeptMoving$Meetings", "size", "I"), (RX8, 230, "KeptMoving$Meetings", "passes", "I"), (RX6, 24, "KeptMoving$Stretch", "begin", "J"), (RX1, 28, "KeptMoving$Stretch", "begin", "J"), (RX6, 28, "KeptMoving$Stretch", "end", "J"), (RX1, 36, "KeptMoving$Stretch", "end", "J"), (RX8, 305, "KeptMoving$Crowd", "begins", "[J"), (RX8, 301, "KeptMoving$Crowd", "ends", "[J"), (RX8, 300, "KeptMoving$Crowd", "size", "I")]
def NM (s : State) : Prop := ∀ q ∈ nestM, va_Nw (.methodLinkNest q.1 q.2.1 q.2.2 RX8) s
def NF (s : State) : Prop := ∀ q ∈ nestF, va_Nw (.fieldLinkNest q.1 q.2.1 q.2.2.1 q.2.2.2.1 q.2.2.2.2 RX8) s
def KK (G : GE) (s : State) : Prop := va_K (gD G) cls (gtys G) s ∧ Inj G ∧ NM s ∧ NF s
theorem KK.warm {G : GE} {s U : State} (hW : s.WarmedH U.vm) (h : KK G s) : KK G U := ⟨va_K.moved hW.alike h.1, h.2.1, fun q hq => va_Nw.warmM hW (h.2.2.1 q hq), fun q hq => va_Nw.warmF hW (h.2.2.2 q hq)⟩
theorem KK.same {G : GE} {s U : State} (hv : s.vm = U.vm) (h : KK G s) : KK G U := ⟨va_K.moved (by rw [hv]; exact Vm.Alike.refl U.vm) h.1, h.2.1, fun q hq => va_Nw.same rfl hv (h.2.2.1 q hq), fun q hq => va_Nw.same rfl hv (h.2.2.2 q hq)⟩
theorem KK.nm {G : GE} {s : State} (h : KK G s) (i : Nat) {own : String} {index : Nat} {y : MethodName} (hi : nestM[i]? = some (own, index, y)) : va_Nw (.methodLinkNest own index y RX8) s := h.2.2.1 _ (List.mem_of_getElem? hi)
theorem KK.nf {G : GE} {s : State} (h : KK G s) (i : Nat) {own : String} {index : Nat} {a b c : String} (hi : nestF[i]? = some (own, index, a, b, c)) : va_Nw (.fieldLinkNest own index a b c RX8) s := h.2.2.2 _ (List.mem_of_getElem? hi)
/-- a contract's start: the world w, the arguments -/
def PcG (G : GE) (w : WF) (av : List Value) : Array Value → State → Prop := va_Pc av (fun U => PW G w U.heap ∧ KK G U)
theorem pcG_blind {G : GE} {w : WF} {av : List Value} : FrameBlind (PcG G w av) := fun _ U g mk q => ⟨q.1, q.2.1, KK.same (s := U) (U := U.calling g mk _) rfl q.2.2⟩
theorem pw_one {G : GE} {w : WF} {H : Heap} (h : PW G w H) {k : Nat} (hk : k < 75) : va_P (gD G) cls [(gad G k, w k)] H := fun i q hq => by
  match i, hq with
  | 0, hq => cases hq; exact h.2 k hk
  | i + 1, hq => simp at hq
theorem pw_up {G : GE} {w : WF} {H H1 : Heap} (h : PW G w H) (hJ : Inj G) {k : Nat} (hk : k < 75) {e : va_E} (hs : e = shp G k e) (he : va_at (gD G) cls (gad G k, e) H1) (ho : ∀ q, q ≠ gad G k → H1[q]? = H[q]?) : PW G (va_up w k e) H1 := by
  refine ⟨fun j hj => ?_, fun j hj => ?_⟩
  · by_cases hjk : j = k
    · subst hjk
      rw [va_up_self]
      exact hs
    · rw [va_up_ne w e hjk]
      exact h.1 j hj
  · by_cases hjk : j = k
    · subst hjk
      rw [va_up_self]
      exact he
    · rw [va_up_ne w e hjk]
      exact (h.2 j hj).kept (ho _ (fun q => hjk (hJ j k hj hk q)))
theorem f_preV {G : GE} {w : WF} {s : State} {H : Heap} (hP : PW G w H) (hK : KK G s) (k : Nat) (hk : k < 75) (ci : Nat) {fs : List Value} (he : w k = .inr (ci, fs)) {C : String} {T : u_T} {N : Nat} (hc : cls[ci]? = some (C, T, N)) {As : List Value} : PreV s H C (gad G k) (PcG G w (.ref (gad G k) :: As)) As :=
  ⟨pcG_blind, va_recv (q0 := 0) (q := (C, T, N)) (fs := fs) hK.1 (pw_one hP hk) hc (by rw [he]; rfl), fun U hU hW => ⟨rfl, by rw [hU]; exact hP, hK.warm hW⟩⟩
theorem f_preS {G : GE} {w : WF} {s : State} {H : Heap} (hP : PW G w H) (hK : KK G s) {As : List Value} : PreS s H (PcG G w As) As := ⟨pcG_blind, fun U hU hW => ⟨rfl, by rw [hU]; exact hP, hK.warm hW⟩⟩
/-- a contract's start that needs no cells -/
def PcN (av : List Value) : Array Value → State → Prop := fun v _ => v = av.toArray
/-- a contract's ends, with a world behind it -/
def QV (G : GE) (post : WF → Prop) : Array Value → State → Outcome → State → Prop := fun _ st oc t => (oc = .returned none ∧ ∃ w, post w ∧ PW G w t.heap) ∧ va_F (AA G) st t
def QI (G : GE) (post : Int32 → WF → Prop) : Array Value → State → Outcome → State → Prop := fun _ st oc t => (∃ (r : Int32) (w : WF), oc = .returned (some (.int r)) ∧ post r w ∧ PW G w t.heap) ∧ va_F (AA G) st t
def QL (G : GE) (post : Int64 → WF → Prop) : Array Value → State → Outcome → State → Prop := fun _ st oc t => (∃ (r : Int64) (w : WF), oc = .returned (some (.long r)) ∧ post r w ∧ PW G w t.heap) ∧ va_F (AA G) st t
section FW
variable {p : Program} {l : Launch} {e : Env} {R : Room} {s : State} {m : MethodId} {args : Array Value} {below : List Frame} {meth : Method} {c : Code} {H : Heap} {locs : List Loc} {cells slots : Nat} {Q : State → Prop}
variable {pc : Nat} {ls : Array Slot} {rest st0 : List Value} {a : Array Value} {A0 : Nat → Prop} {H0 : Heap} {G : GE} {w : WF} {cc : ByteArray}
theorem f_keep {t T' : State} {L : List Loc} {st₀ : State} (h0 : st₀.heap = H) (e1 : T'.heap = t.heap) (hS : va_S A0 H0 H locs) (hA : ∀ q, AA G q → A0 q) (hL : ∀ q ∈ L, AA G q.base) (hF : va_F (AA G) st₀ t) : va_S A0 H0 T'.heap (locs ++ L) := by
  obtain ⟨hz, hk⟩ := hF
  rw [h0] at hz hk
  refine ⟨Nat.le_trans hS.1 (by rw [e1]; exact hz), fun q h1 h2 => ?_, fun q hq => ?_⟩
  · rw [e1, hk q (Nat.lt_of_lt_of_le h1 hS.1) (fun z => h2 (hA q z))]
    exact hS.2.1 q h1 h2
  · rcases List.mem_append.mp hq with h | h
    · exact hS.2.2 q h
    · exact hA _ (hL q h)
theorem f_callv {post : WF → Prop} (hr : CallRun p l e R s m args below meth c H locs cells slots 0 0 (F0 m pc ls st0) rest (QV G post a) (AA G)) (hS : va_S A0 H0 H locs) (hA : ∀ q, AA G q → A0 q)
    (kk : ∀ (w1 : WF) (H1 : Heap) (locs1 : List Loc), post w1 → PW G w1 H1 → va_S A0 H0 H1 locs1 → W p l e R s m args below meth c H1 locs1 cells slots Q (F0 m (pc + 3) ls rest)) : W p l e R s m args below meth c H locs cells slots Q (F0 m pc ls st0) := by
  intro T hT X
  obtain ⟨v, st₀, t, T', L, h0, X', hL, e1, ⟨⟨hv, w1, hp, hb⟩, hF⟩, st⟩ := hr T hT X
  cases hv
  obtain ⟨t2, a1, b1⟩ := kk w1 T'.heap (locs ++ L) hp (by rw [e1]; exact hb) (f_keep h0 e1 hS hA hL hF) T' rfl X'
  exact ⟨t2, st t2 a1, b1⟩
theorem f_calli {post : Int32 → WF → Prop} (hr : CallRun p l e R s m args below meth c H locs cells slots 0 0 (F0 m pc ls st0) rest (QI G post a) (AA G)) (hS : va_S A0 H0 H locs) (hA : ∀ q, AA G q → A0 q)
    (kk : ∀ (r : Int32) (w1 : WF) (H1 : Heap) (locs1 : List Loc), post r w1 → PW G w1 H1 → va_S A0 H0 H1 locs1 → W p l e R s m args below meth c H1 locs1 cells slots Q (F0 m (pc + 3) ls (.int r :: rest))) : W p l e R s m args below meth c H locs cells slots Q (F0 m pc ls st0) := by
  intro T hT X
  obtain ⟨v, st₀, t, T', L, h0, X', hL, e1, ⟨⟨r, w1, hv, hp, hb⟩, hF⟩, st⟩ := hr T hT X
  cases hv
  obtain ⟨t2, a1, b1⟩ := kk r w1 T'.heap (locs ++ L) hp (by rw [e1]; exact hb) (f_keep h0 e1 hS hA hL hF) T' rfl X'
  exact ⟨t2, st t2 a1, b1⟩
theorem f_calll {post : Int64 → WF → Prop} (hr : CallRun p l e R s m args below meth c H locs cells slots 0 0 (F0 m pc ls st0) rest (QL G post a) (AA G)) (hS : va_S A0 H0 H locs) (hA : ∀ q, AA G q → A0 q)
    (kk : ∀ (r : Int64) (w1 : WF) (H1 : Heap) (locs1 : List Loc), post r w1 → PW G w1 H1 → va_S A0 H0 H1 locs1 → W p l e R s m args below meth c H1 locs1 cells slots Q (F0 m (pc + 3) ls (.long r :: rest))) : W p l e R s m args below meth c H locs cells slots Q (F0 m pc ls st0) := by
  intro T hT X
  obtain ⟨v, st₀, t, T', L, h0, X', hL, e1, ⟨⟨r, w1, hv, hp, hb⟩, hF⟩, st⟩ := hr T hT X
  cases hv
  obtain ⟨t2, a1, b1⟩ := kk r w1 T'.heap (locs ++ L) hp (by rw [e1]; exact hb) (f_keep h0 e1 hS hA hL hF) T' rfl X'
  exact ⟨t2, st t2 a1, b1⟩
/-- reads -/
theorem f_get (hexec : p.tables.exec = Jvm.exec) (hb : c.code = cc) {own ref C : String} {T : u_T} {N ci index : Nat} {Ts : List Cond} (hts : ∀ w ∈ Ts, w.before args s = true) (hin : ∀ w ∈ u_ws C T N, w ∈ Ts) (hown : s.vm.findClass own = some m.cls) (hK : KK G s) (hP : PW G w H) (k : Nat) (hk : k < 75) {fs : List Value} (he : w k = .inr (ci, fs)) (hc : cls[ci]? = some (C, T, N)) (j : Nat) (hj : j < N) (hlink : (Cond.fieldLink own index ref (T j).2.1 (T j).2.2.1).before args s = true) (hsame : ∀ x, s.fieldFound? (T j).1 (T j).2.1 (T j).2.2.1 = some x → s.fieldFound? ref (T j).2.1 (T j).2.2.1 = some x) {v : Value} (hv : fs[j]? = some v) (hdg : decode cc pc = .ok (.getfield index, 3))
    (kk : W p l e R s m args below meth c H locs cells slots Q (F0 m (pc + 3) ls (v :: rest))) : W p l e R s m args below meth c H locs cells slots Q (F0 m pc ls (.ref (gad G k) :: rest)) :=
  va_get (D := gD G) (ci := ci) (fs := fs) hexec hb hts hin hown hK.1 (pw_one hP hk) 0 (by rw [he]; rfl) hc j hj hlink hsame hv hdg kk
theorem f_getN (hexec : p.tables.exec = Jvm.exec) (hb : c.code = cc) {own ref C host : String} {T : u_T} {N ci index : Nat} {Ts : List Cond} (hts : ∀ w ∈ Ts, w.before args s = true) (hin : ∀ w ∈ u_ws C T N, w ∈ Ts) (hown : s.vm.findClass own = some m.cls) (hK : KK G s) (hP : PW G w H) (k : Nat) (hk : k < 75) {fs : List Value} (he : w k = .inr (ci, fs)) (hc : cls[ci]? = some (C, T, N)) (j : Nat) (hj : j < N) (hlink : va_Nw (.fieldLinkNest own index ref (T j).2.1 (T j).2.2.1 host) s) (hsame : ∀ x, s.fieldFound? (T j).1 (T j).2.1 (T j).2.2.1 = some x → s.fieldFound? ref (T j).2.1 (T j).2.2.1 = some x) {v : Value} (hv : fs[j]? = some v) (hdg : decode cc pc = .ok (.getfield index, 3))
    (kk : W p l e R s m args below meth c H locs cells slots Q (F0 m (pc + 3) ls (v :: rest))) : W p l e R s m args below meth c H locs cells slots Q (F0 m pc ls (.ref (gad G k) :: rest)) :=
  va_getN (D := gD G) (ci := ci) (fs := fs) hexec hb hts hin hown hK.1 (pw_one hP hk) 0 (by rw [he]; rfl) hc j hj (va_Nw.use rfl hlink) hsame hv hdg kk
theorem f_iald (hexec : p.tables.exec = Jvm.exec) (hb : c.code = cc) (hK : KK G s) (hP : PW G w H) (k : Nat) (hk : k < 75) {n : Nat} {f : Nat → Int32} (he : w k = .inl (gI G, n, .inl f)) {i : Int32} (hin : vp_in i n) (hdg : decode cc pc = .ok (.iaload, 1))
    (kk : W p l e R s m args below meth c H locs cells slots Q (F0 m (pc + 1) ls (.int (f i.toNatClampNeg) :: rest))) : W p l e R s m args below meth c H locs cells slots Q (F0 m pc ls (.int i :: .ref (gad G k) :: rest)) :=
  va_iald (D := gD G) (n := n) (f := f) hexec hb hK.1 (pw_one hP hk) 0 0 (by rw [he]; rfl) rfl hin hdg kk
theorem f_lald (hexec : p.tables.exec = Jvm.exec) (hb : c.code = cc) (hK : KK G s) (hP : PW G w H) (k : Nat) (hk : k < 75) {n : Nat} {f : Nat → Int64} (he : w k = .inl (gJ G, n, .inr (.inl f))) {i : Int32} (hin : vp_in i n) (hdg : decode cc pc = .ok (.laload, 1))
    (kk : W p l e R s m args below meth c H locs cells slots Q (F0 m (pc + 1) ls (.long (f i.toNatClampNeg) :: rest))) : W p l e R s m args below meth c H locs cells slots Q (F0 m pc ls (.int i :: .ref (gad G k) :: rest)) :=
  va_lald (D := gD G) (n := n) (f := f) hexec hb hK.1 (pw_one hP hk) 0 1 (by rw [he]; rfl) rfl hin hdg kk
theorem f_zald (hexec : p.tables.exec = Jvm.exec) (hb : c.code = cc) (hK : KK G s) (hP : PW G w H) (k : Nat) (hk : k < 75) {n : Nat} {f : Nat → Int32} (he : w k = .inl (gZ G, n, .inl f)) {i : Int32} (hin : vp_in i n) (hdg : decode cc pc = .ok (.baload, 1))
    (kk : W p l e R s m args below meth c H locs cells slots Q (F0 m (pc + 1) ls (.int (f i.toNatClampNeg) :: rest))) : W p l e R s m args below meth c H locs cells slots Q (F0 m pc ls (.int i :: .ref (gad G k) :: rest)) :=
  va_zald (D := gD G) (n := n) (f := f) hexec hb hK.1 (pw_one hP hk) 0 2 (by rw [he]; rfl) rfl hin hdg kk
theorem f_aldq (hexec : p.tables.exec = Jvm.exec) (hb : c.code = cc) (hK : KK G s) (hP : PW G w H) {i : Int32} {j : Nat} (hj : j < 10) (hij : i = nI j) (hdg : decode cc pc = .ok (.aaload, 1))
    (kk : W p l e R s m args below meth c H locs cells slots Q (F0 m (pc + 1) ls (.ref (gad G (19 + 4 * j)) :: rest))) : W p l e R s m args below meth c H locs cells slots Q (F0 m pc ls (.int i :: .ref (gad G 1) :: rest)) := by
  subst hij
  refine va_aldq (D := gD G) (n := 10) (f := fun i => some (gad G (19 + 4 * i))) (C := RX0) hexec hb hK.1 (pw_one hP (k := 1) (by omega)) 0 3 (by rw [hP.1 1 (by omega)]; rfl) rfl (vp_in_nI hj (by omega)) hdg ?_
  rw [nI_clamp (by omega)]
  exact kk
/-- writes -/
theorem f_put (hexec : p.tables.exec = Jvm.exec) (hb : c.code = cc) {own ref C : String} {T : u_T} {N ci index : Nat} {Ts : List Cond} (hts : ∀ w ∈ Ts, w.before args s = true) (hin : ∀ w ∈ u_ws C T N, w ∈ Ts) (ty0 : Nat → FieldType) (hty : ∀ k, k < N → parseFieldDescriptor (T k).2.2.1 = some (ty0 k)) (hnm : ∀ a, a < N → ∀ b, b < N → a ≠ b → (T a).2.1 ≠ (T b).2.1) (hown : s.vm.findClass own = some m.cls) (hK : KK G s) (hP : PW G w H) (hS0 : va_S A0 H0 H locs) (hA : ∀ q, AA G q → A0 q) (k0 : Nat) (hk0 : k0 < 75) {fs : List Value} (he : w k0 = .inr (ci, fs)) (hc : cls[ci]? = some (C, T, N)) (k : Nat) (hk : k < N) (hlink : (Cond.fieldLink own index ref (T k).2.1 (T k).2.2.1).before args s = true) (hsame : ∀ x, s.fieldFound? (T k).1 (T k).2.1 (T k).2.2.1 = some x → s.fieldFound? ref (T k).2.1 (T k).2.2.1 = some x) (hfin : (T k).2.2.2 = false) {ty : FieldType} {v : Value} (hd : parseFieldDescriptor (T k).2.2.1 = some ty) (hn : narrow ty v = v) (hfit : fits ty v = true) (hl : k < fs.length) (hsh : (.inr (ci, fs.set k v) : va_E) = shp G k0 (.inr (ci, fs.set k v)))
    (hdg : decode cc pc = .ok (.putfield index, 3)) (kk : ∀ (H1 : Heap) (locs1 : List Loc), PW G (va_up w k0 (.inr (ci, fs.set k v))) H1 → va_S A0 H0 H1 locs1 → W p l e R s m args below meth c H1 locs1 cells slots Q (F0 m (pc + 3) ls rest)) : W p l e R s m args below meth c H locs cells slots Q (F0 m pc ls (v :: .ref (gad G k0) :: rest)) := by
  have hap := va_apart (own := own) hts hin ty0 hty hnm hK.1 hc
  obtain ⟨r, h1, cell, q1, q2, q3, q4⟩ := (show va_at (gD G) cls (gad G k0, .inr (ci, fs)) H by rw [← he]; exact hP.2 k0 hk0)
  have hr : r = (C, T, N) := Option.some.inj (h1.symm.trans hc)
  subst hr
  obtain ⟨hS, hfc, kC, hkC, hkind⟩ := hK.1.1 ci _ hc
  obtain ⟨cf, kf, fi, f, hi, hsl⟩ := hS k hk
  have hlay := hts _ (hin _ (u_in_lay hk))
  unfold u_lay at hlay
  rw [if_neg (by rw [hfin]; decide)] at hlay
  have hst := (u_facts hfc hkC (u_lays hts hin hk) hi).1
  have h6 := u_store hfc hkC hkind hlay hi hd hn hfit
  refine W.putK hexec hb (f := f) ⟨hown, hlink, ⟨_, _, _, hsame _ hi⟩, hst⟩ (by rw [q2]; exact h6) q1 q3 (by rw [hsl]; exact k2_hasslot (q4 k hk)) rfl rfl hdg fun H' e1 e2 e3 => ?_
  rw [hsl] at e1 ⊢
  exact kk H' _ (pw_up hP hK.2.1 hk0 hsh ⟨_, hc, t_OB.to (V := updV (vp_V fs) k v) ⟨_, e1, q2, q3, t_set q4 hap hk v⟩ (fun j _ => vp_updV_set hl v j)⟩ e3) (hS0.put e2 e3 (hA _ ⟨k0, hk0, rfl⟩))
theorem f_iast (hexec : p.tables.exec = Jvm.exec) (hb : c.code = cc) (hK : KK G s) (hP : PW G w H) (hS : va_S A0 H0 H locs) (hA : ∀ q, AA G q → A0 q) (k : Nat) (hk : k < 75) {n : Nat} {f : Nat → Int32} (he : w k = .inl (gI G, n, .inl f)) (hsh : ∀ g : Nat → Int32, (.inl (gI G, n, .inl g) : va_E) = shp G k (.inl (gI G, n, .inl g))) {i : Int32} {x : Int32} (hin : vp_in i n) (hdg : decode cc pc = .ok (.iastore, 1))
    (kk : ∀ (H1 : Heap) (locs1 : List Loc), PW G (va_up w k (.inl (gI G, n, .inl (upd f i.toNatClampNeg x)))) H1 → va_S A0 H0 H1 locs1 → W p l e R s m args below meth c H1 locs1 cells slots Q (F0 m (pc + 1) ls rest)) : W p l e R s m args below meth c H locs cells slots Q (F0 m pc ls (.int x :: .int i :: .ref (gad G k) :: rest)) := by
  have ha : H[gad G k]? = some (vp_cell (gI G) (n, .inl f)) := (show va_at (gD G) cls (gad G k, .inl (gI G, n, .inl f)) H by rw [← he]; exact hP.2 k hk)
  refine W.iast hexec hb ha ((hK.1.2 0 _ rfl).1 n (fun j => .int (f j))) (fun q => by cases q) (by show ¬ (i < 0 ∨ (arrV _ _ _).slots.size ≤ _); rw [arrV_size]; exact hin) rfl rfl hdg fun H1 e z oq => ?_
  refine kk H1 _ (pw_up hP hK.2.1 hk (hsh _) ?_ oq) (hS.put z oq (hA _ ⟨k, hk, rfl⟩))
  show H1[gad G k]? = some (vp_cell _ _)
  rw [e]
  rw [vp_cell_i, vp_cell_i, arrV_store]
  congr 2
  funext q
  by_cases hq : q = i.toNatClampNeg
  · subst hq
    simp [updV, upd]
  · simp [updV, upd, hq]
theorem f_zast (hexec : p.tables.exec = Jvm.exec) (hb : c.code = cc) (hK : KK G s) (hP : PW G w H) (hS : va_S A0 H0 H locs) (hA : ∀ q, AA G q → A0 q) (k : Nat) (hk : k < 75) {n : Nat} {f : Nat → Int32} (he : w k = .inl (gZ G, n, .inl f)) (hsh : ∀ g : Nat → Int32, (.inl (gZ G, n, .inl g) : va_E) = shp G k (.inl (gZ G, n, .inl g))) {i : Int32} {x : Int32} (hx1 : vp_nar .boolean x = x) (hin : vp_in i n) (hdg : decode cc pc = .ok (.bastore, 1))
    (kk : ∀ (H1 : Heap) (locs1 : List Loc), PW G (va_up w k (.inl (gZ G, n, .inl (upd f i.toNatClampNeg x)))) H1 → va_S A0 H0 H1 locs1 → W p l e R s m args below meth c H1 locs1 cells slots Q (F0 m (pc + 1) ls rest)) : W p l e R s m args below meth c H locs cells slots Q (F0 m pc ls (.int x :: .int i :: .ref (gad G k) :: rest)) := by
  have ha : H[gad G k]? = some (vp_cell (gZ G) (n, .inl f)) := (show va_at (gD G) cls (gad G k, .inl (gZ G, n, .inl f)) H by rw [← he]; exact hP.2 k hk)
  refine W.zast hexec hb ha ((hK.1.2 2 _ rfl).1 n (fun j => .int (f j))) (fun q => by cases q) (by show ¬ (i < 0 ∨ (arrV _ _ _).slots.size ≤ _); rw [arrV_size]; exact hin) rfl rfl hdg fun H1 e z oq => ?_
  refine kk H1 _ (pw_up hP hK.2.1 hk (hsh _) ?_ oq) (hS.put z oq (hA _ ⟨k, hk, rfl⟩))
  show H1[gad G k]? = some (vp_cell _ _)
  rw [e]
  rw [vp_cell_i, vp_cell_i, arrV_store]
  congr 2
  funext q
  by_cases hq : q = i.toNatClampNeg
  · subst hq
    have h2 : narrow .boolean (.int x) = .int (vp_nar .boolean x) := by
      simp [vp_nar, narrow]
      try rfl
    rw [hx1] at h2
    simp [updV, upd, h2]
  · simp [updV, upd, hq]
theorem f_last (hexec : p.tables.exec = Jvm.exec) (hb : c.code = cc) (hK : KK G s) (hP : PW G w H) (hS : va_S A0 H0 H locs) (hA : ∀ q, AA G q → A0 q) (k : Nat) (hk : k < 75) {n : Nat} {f : Nat → Int64} (he : w k = .inl (gJ G, n, .inr (.inl f))) (hsh : ∀ g : Nat → Int64, (.inl (gJ G, n, .inr (.inl g)) : va_E) = shp G k (.inl (gJ G, n, .inr (.inl g)))) {i : Int32} {x : Int64} (hin : vp_in i n) (hdg : decode cc pc = .ok (.lastore, 1))
    (kk : ∀ (H1 : Heap) (locs1 : List Loc), PW G (va_up w k (.inl (gJ G, n, .inr (.inl (vp_updL f i.toNatClampNeg x))))) H1 → va_S A0 H0 H1 locs1 → W p l e R s m args below meth c H1 locs1 cells slots Q (F0 m (pc + 1) ls rest)) : W p l e R s m args below meth c H locs cells slots Q (F0 m pc ls (.long x :: .int i :: .ref (gad G k) :: rest)) := by
  have ha : H[gad G k]? = some (vp_cell (gJ G) (n, .inr (.inl f))) := (show va_at (gD G) cls (gad G k, .inl (gJ G, n, .inr (.inl f))) H by rw [← he]; exact hP.2 k hk)
  refine W.last hexec hb ha ((hK.1.2 1 _ rfl).1 n (fun j => .long (f j))) (fun q => by cases q) (by show ¬ (i < 0 ∨ (arrV _ _ _).slots.size ≤ _); rw [arrV_size]; exact hin) rfl rfl hdg fun H1 e z oq => ?_
  refine kk H1 _ (pw_up hP hK.2.1 hk (hsh _) ?_ oq) (hS.put z oq (hA _ ⟨k, hk, rfl⟩))
  show H1[gad G k]? = some (vp_cell _ _)
  rw [e]
  rw [vp_cell_l, vp_cell_l, arrV_store]
  congr 2
  funext q
  by_cases hq : q = i.toNatClampNeg
  · subst hq
    simp [updV, vp_updL]
  · simp [updV, vp_updL, hq]
end FW
end
section
/-! numbers of the machine as whole numbers: iN, jN; the instructions over them -/
def iN (z : Int) : Int32 := Int32.ofInt z
def jN (z : Int) : Int64 := Int64.ofInt z
def aN (g : Nat → Int) : Nat → Int32 := fun j => iN (g j)
def aJ (g : Nat → Int) : Nat → Int64 := fun j => jN (g j)
theorem iN_of (x : Int32) : iN x.toInt = x := Int32.ofInt_toInt x
theorem jN_of (x : Int64) : jN x.toInt = x := Int64.ofInt_toInt x
theorem aN_of (f : Nat → Int32) : aN (fun j => (f j).toInt) = f := funext fun j => iN_of (f j)
theorem aJ_of (f : Nat → Int64) : aJ (fun j => (f j).toInt) = f := funext fun j => jN_of (f j)
theorem iN_ti {z : Int} (h1 : -2147483648 ≤ z) (h2 : z < 2147483648) : (iN z).toInt = z := Int32.toInt_ofInt_of_le (by omega) (by omega)
theorem jN_ti {z : Int} (h1 : -9223372036854775808 ≤ z) (h2 : z < 9223372036854775808) : (jN z).toInt = z := Int64.toInt_ofInt_of_le (by omega) (by omega)
theorem iN_add (a b : Int) : iN a + iN b = iN (a + b) := (Int32.ofInt_add a b).symm
theorem iN_sub (a b : Int) : iN a - iN b = iN (a - b) := (Int32.ofInt_sub a b).symm
theorem iN_mul (a b : Int) : iN a * iN b = iN (a * b) := (Int32.ofInt_mul a b).symm
theorem iN_neg (a : Int) : -iN a = iN (-a) := (Int32.ofInt_neg a).symm
theorem jN_add (a b : Int) : jN a + jN b = jN (a + b) := (Int64.ofInt_add a b).symm
theorem jN_sub (a b : Int) : jN a - jN b = jN (a - b) := (Int64.ofInt_sub a b).symm
theorem jN_mul (a b : Int) : jN a * jN b = jN (a * b) := (Int64.ofInt_mul a b).symm
theorem jN_neg (a : Int) : -jN a = jN (-a) := (Int64.ofInt_neg a).symm
theorem iN_inc (a n : Int) : iN a + Int32.ofInt n = iN (a + n) := iN_add a n
theorem iN_nat (n : Nat) : iN (n : Int) = nI n := Int32.ofInt_eq_ofNat
theorem iN_lt {a b : Int} (a1 : -2147483648 ≤ a) (a2 : a < 2147483648) (b1 : -2147483648 ≤ b) (b2 : b < 2147483648) : iN a < iN b ↔ a < b := by
  rw [Int32.lt_iff_toInt_lt, iN_ti a1 a2, iN_ti b1 b2]
theorem iN_le {a b : Int} (a1 : -2147483648 ≤ a) (a2 : a < 2147483648) (b1 : -2147483648 ≤ b) (b2 : b < 2147483648) : iN a ≤ iN b ↔ a ≤ b := by
  rw [Int32.le_iff_toInt_le, iN_ti a1 a2, iN_ti b1 b2]
theorem iN_eq {a b : Int} (a1 : -2147483648 ≤ a) (a2 : a < 2147483648) (b1 : -2147483648 ≤ b) (b2 : b < 2147483648) : iN a = iN b ↔ a = b := by
  rw [← Int32.toInt_inj, iN_ti a1 a2, iN_ti b1 b2]
theorem iN_0 : (0 : Int32) = iN 0 := rfl
theorem iN_idx {n : Nat} {A : Int} {j : Nat} (hA : A = (j : Int)) (hj : j < n) (hn : n < 2147483648) : vp_in (iN A) n ∧ (iN A).toNatClampNeg = j := by
  subst hA
  rw [iN_nat]
  exact ⟨vp_in_nI hj (by omega), nI_clamp (by omega)⟩
theorem i2l_N {a : Int} (a1 : -2147483648 ≤ a) (a2 : a < 2147483648) : (iN a).toInt64 = jN a := Int64.toInt_inj.mp (by rw [Int32.toInt_toInt64, iN_ti a1 a2, jN_ti (by omega) (by omega)])
theorem l2i_N (a : Int) : (jN a).toInt32 = iN a := Int64.toInt32_ofInt
theorem idiv_N {a b : Int} (a1 : -2147483648 < a) (a2 : a < 2147483648) (b1 : -2147483648 ≤ b) (b2 : b < 2147483648) : iN a / iN b = iN (a.tdiv b) := by
  have h : iN a ≠ Int32.minValue := fun q => by
    have := congrArg Int32.toInt q
    rw [iN_ti (by omega) a2] at this
    have h2 : Int32.minValue.toInt = -2147483648 := by decide
    omega
  refine Int32.toInt_inj.mp ?_
  have hb : (a.tdiv b).natAbs ≤ a.natAbs := Int.natAbs_tdiv_le_natAbs a b
  rw [Int32.toInt_div_of_ne_left _ _ h, iN_ti (by omega) a2, iN_ti b1 b2, iN_ti (by omega) (by omega)]
theorem irem_N {a b : Int} (a1 : -2147483648 < a) (a2 : a < 2147483648) (b1 : -2147483648 ≤ b) (b2 : b < 2147483648) : iN a - iN a / iN b * iN b = iN (a.tmod b) := by
  rw [idiv_N a1 a2 b1 b2, iN_mul, iN_sub, Int.tmod_def, Int.mul_comm]
theorem ldiv_N {a b : Int} (a1 : -9223372036854775808 < a) (a2 : a < 9223372036854775808) (b1 : -9223372036854775808 ≤ b) (b2 : b < 9223372036854775808) : jN a / jN b = jN (a.tdiv b) := by
  have h : jN a ≠ Int64.minValue := fun q => by
    have := congrArg Int64.toInt q
    rw [jN_ti (by omega) a2] at this
    have h2 : Int64.minValue.toInt = -9223372036854775808 := by decide
    omega
  refine Int64.toInt_inj.mp ?_
  have hb : (a.tdiv b).natAbs ≤ a.natAbs := Int.natAbs_tdiv_le_natAbs a b
  rw [Int64.toInt_div_of_ne_left _ _ h, jN_ti (by omega) a2, jN_ti b1 b2, jN_ti (by omega) (by omega)]
theorem lrem_N {a b : Int} (a1 : -9223372036854775808 < a) (a2 : a < 9223372036854775808) (b1 : -9223372036854775808 ≤ b) (b2 : b < 9223372036854775808) : jN a - jN a / jN b * jN b = jN (a.tmod b) := by
  rw [ldiv_N a1 a2 b1 b2, jN_mul, jN_sub, Int.tmod_def, Int.mul_comm]
def cmpI (a b : Int) : Int := if b < a then 1 else if a = b then 0 else -1
theorem cmpI_rng (a b : Int) : -1 ≤ cmpI a b ∧ cmpI a b ≤ 1 := by
  unfold cmpI
  repeat' split
  all_goals omega
theorem lcmp_N {a b : Int} (a1 : -9223372036854775808 ≤ a) (a2 : a < 9223372036854775808) (b1 : -9223372036854775808 ≤ b) (b2 : b < 9223372036854775808) : lg_cmp (jN a) (jN b) = iN (cmpI a b) := by
  unfold lg_cmp cmpI
  simp only [gt_iff_lt, Int64.lt_iff_toInt_lt, ← Int64.toInt_inj, jN_ti a1 a2, jN_ti b1 b2]
  repeat' split
  all_goals rfl
theorem cmp_lt (a b : Int) : cmpI a b < 0 ↔ a < b := by
  unfold cmpI
  repeat' split
  all_goals omega
theorem cmp_le (a b : Int) : cmpI a b ≤ 0 ↔ a ≤ b := by
  unfold cmpI
  repeat' split
  all_goals omega
theorem cmp_eq (a b : Int) : cmpI a b = 0 ↔ a = b := by
  unfold cmpI
  repeat' split
  all_goals omega
theorem b01_rng (P : Prop) [Decidable P] : (0 : Int) ≤ (if P then (1 : Int) else 0) ∧ (if P then (1 : Int) else 0) ≤ 1 := by
  split <;> omega
theorem b01_eq (P : Prop) [Decidable P] : (if P then (1 : Int) else 0) = 0 ↔ ¬ P := by
  split <;> simp_all
theorem b01_nar (P : Prop) [Decidable P] : vp_nar .boolean (iN (if P then 1 else 0)) = iN (if P then 1 else 0) := by
  split <;> rfl
theorem b01_narrow (P : Prop) [Decidable P] : narrow .boolean (.int (iN (if P then 1 else 0))) = .int (iN (if P then 1 else 0)) := by
  split <;> rfl
theorem shp_c0 {G : GE} {i : Nat} (e : va_E) (hi : i < 10) : shp G (19 + 4 * i) e = .inr (0, [.ref (gad G (19 + 4 * i + 1)), .ref (gad G (19 + 4 * i + 2)), .ref (gad G (19 + 4 * i + 3)), .int (eF e 3), .int (eF e 4)]) := by
  unfold shp
  rw [if_neg (by omega), if_pos (by omega)]
  unfold shpB
  rw [show (19 + 4 * i) % 4 = 3 by omega]
  rfl
theorem shp_c1 {G : GE} {i j : Nat} (e : va_E) (hi : i < 10) (hj : j = 1 ∨ j = 2 ∨ j = 3) : shp G (19 + 4 * i + j) e = .inl (gI G, 8, .inl (eA e)) := by
  unfold shp
  rw [if_neg (by omega), if_pos (by omega)]
  unfold shpB
  rcases hj with rfl | rfl | rfl
  · rw [show (19 + 4 * i + 1) % 4 = 0 by omega]
    rfl
  · rw [show (19 + 4 * i + 2) % 4 = 1 by omega]
    rfl
  · rw [show (19 + 4 * i + 3) % 4 = 2 by omega]
    rfl
section FN
variable {p : Program} {l : Launch} {e : Env} {R : Room} {s : State} {m : MethodId} {args : Array Value} {below : List Frame} {meth : Method} {c : Code} {H : Heap} {locs : List Loc} {cells slots : Nat} {Q : State → Prop}
variable {pc : Nat} {ls : Array Slot} {rest : List Value} {A0 : Nat → Prop} {H0 : Heap} {G : GE} {w : WF} {cc : ByteArray}
theorem n_iconst (hx : p.tables.exec = Jvm.exec) (hb : c.code = cc) {n : Int} (hdg : decode cc pc = .ok (.iconst n, 1)) (k : W p l e R s m args below meth c H locs cells slots Q (F0 m (pc + 1) ls (.int (iN n) :: rest))) : W p l e R s m args below meth c H locs cells slots Q (F0 m pc ls rest) := lv_iconst hx hb hdg rfl k
theorem n_bipush (hx : p.tables.exec = Jvm.exec) (hb : c.code = cc) {n : Int} (hdg : decode cc pc = .ok (.bipush n, 2)) (hv : (Int8.ofInt n).toInt32 = iN n) (k : W p l e R s m args below meth c H locs cells slots Q (F0 m (pc + 2) ls (.int (iN n) :: rest))) : W p l e R s m args below meth c H locs cells slots Q (F0 m pc ls rest) := lv_bipush hx hb hdg hv k
theorem n_sipush (hx : p.tables.exec = Jvm.exec) (hb : c.code = cc) {n : Int} (hdg : decode cc pc = .ok (.sipush n, 3)) (hv : (Int16.ofInt n).toInt32 = iN n) (k : W p l e R s m args below meth c H locs cells slots Q (F0 m (pc + 3) ls (.int (iN n) :: rest))) : W p l e R s m args below meth c H locs cells slots Q (F0 m pc ls rest) := lv_sipush hx hb hdg hv k
theorem n_ldc (hx : p.tables.exec = Jvm.exec) (hb : c.code = cc) {own : String} {index : Nat} {v : Int32} {z : Int} (hown : s.vm.findClass own = some m.cls) (hc : (Jvm.Cond.constant own index v).before args s = true) (hv : v = iN z) (hdg : decode cc pc = .ok (.ldc index, 2)) (k : W p l e R s m args below meth c H locs cells slots Q (F0 m (pc + 2) ls (.int (iN z) :: rest))) : W p l e R s m args below meth c H locs cells slots Q (F0 m pc ls rest) := by
  subst hv
  exact lv_ldc hx hb hown hc hdg k
theorem n_ldc2 (hx : p.tables.exec = Jvm.exec) (hb : c.code = cc) {own : String} {index : Nat} {v : Int64} {z : Int} (hown : s.vm.findClass own = some m.cls) (hc : (Jvm.Cond.constantLong own index v).before args s = true) (hv : v = jN z) (hdg : decode cc pc = .ok (.ldc2_w index, 3)) (k : W p l e R s m args below meth c H locs cells slots Q (F0 m (pc + 3) ls (.long (jN z) :: rest))) : W p l e R s m args below meth c H locs cells slots Q (F0 m pc ls rest) := by
  subst hv
  exact lv_ldc2 hx hb hown hc hdg k
theorem n_lconst (hx : p.tables.exec = Jvm.exec) (hb : c.code = cc) {n : Fin 2} {z : Int} (hdg : decode cc pc = .ok (.lconst n, 1)) (hv : Int64.ofNat (n : Nat) = jN z) (k : W p l e R s m args below meth c H locs cells slots Q (F0 m (pc + 1) ls (.long (jN z) :: rest))) : W p l e R s m args below meth c H locs cells slots Q (F0 m pc ls rest) := lv_lconst hx hb hdg hv k
theorem n_iadd (hx : p.tables.exec = Jvm.exec) (hb : c.code = cc) {A B : Int} (hdg : decode cc pc = .ok (.iadd, 1)) (k : W p l e R s m args below meth c H locs cells slots Q (F0 m (pc + 1) ls (.int (iN (A + B)) :: rest))) : W p l e R s m args below meth c H locs cells slots Q (F0 m pc ls (.int (iN B) :: .int (iN A) :: rest)) := lv_iadd hx hb hdg (by rw [iN_add]; exact k)
theorem n_isub (hx : p.tables.exec = Jvm.exec) (hb : c.code = cc) {A B : Int} (hdg : decode cc pc = .ok (.isub, 1)) (k : W p l e R s m args below meth c H locs cells slots Q (F0 m (pc + 1) ls (.int (iN (A - B)) :: rest))) : W p l e R s m args below meth c H locs cells slots Q (F0 m pc ls (.int (iN B) :: .int (iN A) :: rest)) := lv_isub hx hb hdg (by rw [iN_sub]; exact k)
theorem n_imul (hx : p.tables.exec = Jvm.exec) (hb : c.code = cc) {A B : Int} (hdg : decode cc pc = .ok (.imul, 1)) (k : W p l e R s m args below meth c H locs cells slots Q (F0 m (pc + 1) ls (.int (iN (A * B)) :: rest))) : W p l e R s m args below meth c H locs cells slots Q (F0 m pc ls (.int (iN B) :: .int (iN A) :: rest)) := lv_imul hx hb hdg (by rw [iN_mul]; exact k)
theorem n_ineg (hx : p.tables.exec = Jvm.exec) (hb : c.code = cc) {A : Int} (hdg : decode cc pc = .ok (.ineg, 1)) (k : W p l e R s m args below meth c H locs cells slots Q (F0 m (pc + 1) ls (.int (iN (-A)) :: rest))) : W p l e R s m args below meth c H locs cells slots Q (F0 m pc ls (.int (iN A) :: rest)) := lv_ineg hx hb hdg (by rw [iN_neg]; exact k)
theorem n_idiv (hx : p.tables.exec = Jvm.exec) (hb : c.code = cc) {A B : Int} (a1 : -2147483648 < A) (a2 : A < 2147483648) (b1 : -2147483648 ≤ B) (b2 : B < 2147483648) (h0 : B ≠ 0) (hdg : decode cc pc = .ok (.idiv, 1)) (k : W p l e R s m args below meth c H locs cells slots Q (F0 m (pc + 1) ls (.int (iN (A.tdiv B)) :: rest))) : W p l e R s m args below meth c H locs cells slots Q (F0 m pc ls (.int (iN B) :: .int (iN A) :: rest)) := lv_idiv hx hb hdg (fun q => h0 ((iN_eq b1 b2 (by omega) (by omega)).mp (q.trans iN_0))) (by rw [idiv_N a1 a2 b1 b2]; exact k)
theorem n_irem (hx : p.tables.exec = Jvm.exec) (hb : c.code = cc) {A B : Int} (a1 : -2147483648 < A) (a2 : A < 2147483648) (b1 : -2147483648 ≤ B) (b2 : B < 2147483648) (h0 : B ≠ 0) (hdg : decode cc pc = .ok (.irem, 1)) (k : W p l e R s m args below meth c H locs cells slots Q (F0 m (pc + 1) ls (.int (iN (A.tmod B)) :: rest))) : W p l e R s m args below meth c H locs cells slots Q (F0 m pc ls (.int (iN B) :: .int (iN A) :: rest)) := lv_irem hx hb hdg (fun q => h0 ((iN_eq b1 b2 (by omega) (by omega)).mp (q.trans iN_0))) (by rw [irem_N a1 a2 b1 b2]; exact k)
theorem n_ladd (hx : p.tables.exec = Jvm.exec) (hb : c.code = cc) {A B : Int} (hdg : decode cc pc = .ok (.ladd, 1)) (k : W p l e R s m args below meth c H locs cells slots Q (F0 m (pc + 1) ls (.long (jN (A + B)) :: rest))) : W p l e R s m args below meth c H locs cells slots Q (F0 m pc ls (.long (jN B) :: .long (jN A) :: rest)) := lv_ladd hx hb hdg (by rw [jN_add]; exact k)
theorem n_lsub (hx : p.tables.exec = Jvm.exec) (hb : c.code = cc) {A B : Int} (hdg : decode cc pc = .ok (.lsub, 1)) (k : W p l e R s m args below meth c H locs cells slots Q (F0 m (pc + 1) ls (.long (jN (A - B)) :: rest))) : W p l e R s m args below meth c H locs cells slots Q (F0 m pc ls (.long (jN B) :: .long (jN A) :: rest)) := lv_lsub hx hb hdg (by rw [jN_sub]; exact k)
theorem n_lmul (hx : p.tables.exec = Jvm.exec) (hb : c.code = cc) {A B : Int} (hdg : decode cc pc = .ok (.lmul, 1)) (k : W p l e R s m args below meth c H locs cells slots Q (F0 m (pc + 1) ls (.long (jN (A * B)) :: rest))) : W p l e R s m args below meth c H locs cells slots Q (F0 m pc ls (.long (jN B) :: .long (jN A) :: rest)) := lv_lmul hx hb hdg (by rw [jN_mul]; exact k)
theorem n_lneg (hx : p.tables.exec = Jvm.exec) (hb : c.code = cc) {A : Int} (hdg : decode cc pc = .ok (.lneg, 1)) (k : W p l e R s m args below meth c H locs cells slots Q (F0 m (pc + 1) ls (.long (jN (-A)) :: rest))) : W p l e R s m args below meth c H locs cells slots Q (F0 m pc ls (.long (jN A) :: rest)) := lv_lneg hx hb hdg (by rw [jN_neg]; exact k)
theorem n_ldiv (hx : p.tables.exec = Jvm.exec) (hb : c.code = cc) {A B : Int} (a1 : -9223372036854775808 < A) (a2 : A < 9223372036854775808) (b1 : -9223372036854775808 ≤ B) (b2 : B < 9223372036854775808) (h0 : B ≠ 0) (hdg : decode cc pc = .ok (.ldiv, 1)) (k : W p l e R s m args below meth c H locs cells slots Q (F0 m (pc + 1) ls (.long (jN (A.tdiv B)) :: rest))) : W p l e R s m args below meth c H locs cells slots Q (F0 m pc ls (.long (jN B) :: .long (jN A) :: rest)) := lv_ldiv hx hb hdg (fun q => h0 (by have := congrArg Int64.toInt q; rw [jN_ti b1 b2] at this; exact this)) (by rw [ldiv_N a1 a2 b1 b2]; exact k)
theorem n_lrem (hx : p.tables.exec = Jvm.exec) (hb : c.code = cc) {A B : Int} (a1 : -9223372036854775808 < A) (a2 : A < 9223372036854775808) (b1 : -9223372036854775808 ≤ B) (b2 : B < 9223372036854775808) (h0 : B ≠ 0) (hdg : decode cc pc = .ok (.lrem, 1)) (k : W p l e R s m args below meth c H locs cells slots Q (F0 m (pc + 1) ls (.long (jN (A.tmod B)) :: rest))) : W p l e R s m args below meth c H locs cells slots Q (F0 m pc ls (.long (jN B) :: .long (jN A) :: rest)) := lv_lrem hx hb hdg (fun q => h0 (by have := congrArg Int64.toInt q; rw [jN_ti b1 b2] at this; exact this)) (by rw [lrem_N a1 a2 b1 b2]; exact k)
theorem n_i2l (hx : p.tables.exec = Jvm.exec) (hb : c.code = cc) {A : Int} (a1 : -2147483648 ≤ A) (a2 : A < 2147483648) (hdg : decode cc pc = .ok (.i2l, 1)) (k : W p l e R s m args below meth c H locs cells slots Q (F0 m (pc + 1) ls (.long (jN A) :: rest))) : W p l e R s m args below meth c H locs cells slots Q (F0 m pc ls (.int (iN A) :: rest)) := lv_i2l hx hb hdg (i2l_N a1 a2) k
theorem n_l2i (hx : p.tables.exec = Jvm.exec) (hb : c.code = cc) {A : Int} (hdg : decode cc pc = .ok (.l2i, 1)) (k : W p l e R s m args below meth c H locs cells slots Q (F0 m (pc + 1) ls (.int (iN A) :: rest))) : W p l e R s m args below meth c H locs cells slots Q (F0 m pc ls (.long (jN A) :: rest)) := lv_l2i hx hb hdg (l2i_N A) k
theorem n_lcmp (hx : p.tables.exec = Jvm.exec) (hb : c.code = cc) {A B : Int} (a1 : -9223372036854775808 ≤ A) (a2 : A < 9223372036854775808) (b1 : -9223372036854775808 ≤ B) (b2 : B < 9223372036854775808) (hdg : decode cc pc = .ok (.lcmp, 1)) (k : W p l e R s m args below meth c H locs cells slots Q (F0 m (pc + 1) ls (.int (iN (cmpI A B)) :: rest))) : W p l e R s m args below meth c H locs cells slots Q (F0 m pc ls (.long (jN B) :: .long (jN A) :: rest)) := W.lcmp hx hb hdg (by rw [lcmp_N a1 a2 b1 b2]; exact k)
theorem n_icmp_eq (hx : p.tables.exec = Jvm.exec) (hb : c.code = cc) {A B : Int} {off : Int} {tgt : Nat} (hdg : decode cc pc = .ok (.if_icmp .eq off, 3)) (ht : (pc : Int) + off = (tgt : Int)) (a1 : -2147483648 ≤ A) (a2 : A < 2147483648) (b1 : -2147483648 ≤ B) (b2 : B < 2147483648) (kt : A = B → W p l e R s m args below meth c H locs cells slots Q (F0 m tgt ls rest)) (kf : ¬ A = B → W p l e R s m args below meth c H locs cells slots Q (F0 m (pc + 3) ls rest)) : W p l e R s m args below meth c H locs cells slots Q (F0 m pc ls (.int (iN B) :: .int (iN A) :: rest)) := lv_icmp_eq hx hb hdg ht (fun q => kt ((iN_eq a1 a2 b1 b2).mp q)) (fun q => kf (fun z => q ((iN_eq a1 a2 b1 b2).mpr z)))
theorem n_if_eq (hx : p.tables.exec = Jvm.exec) (hb : c.code = cc) {A : Int} {off : Int} {tgt : Nat} (hdg : decode cc pc = .ok (.ifCond .eq off, 3)) (ht : (pc : Int) + off = (tgt : Int)) (a1 : -2147483648 ≤ A) (a2 : A < 2147483648) (kt : A = 0 → W p l e R s m args below meth c H locs cells slots Q (F0 m tgt ls rest)) (kf : ¬ A = 0 → W p l e R s m args below meth c H locs cells slots Q (F0 m (pc + 3) ls rest)) : W p l e R s m args below meth c H locs cells slots Q (F0 m pc ls (.int (iN A) :: rest)) := lv_if_eq hx hb hdg ht (fun q => kt ((iN_eq a1 a2 (by omega) (by omega)).mp q)) (fun q => kf (fun z => q ((iN_eq a1 a2 (by omega) (by omega)).mpr z)))
theorem n_ifc_eq (hx : p.tables.exec = Jvm.exec) (hb : c.code = cc) {A B : Int} {off : Int} {tgt : Nat} (hdg : decode cc pc = .ok (.ifCond .eq off, 3)) (ht : (pc : Int) + off = (tgt : Int)) (kt : A = B → W p l e R s m args below meth c H locs cells slots Q (F0 m tgt ls rest)) (kf : ¬ A = B → W p l e R s m args below meth c H locs cells slots Q (F0 m (pc + 3) ls rest)) : W p l e R s m args below meth c H locs cells slots Q (F0 m pc ls (.int (iN (cmpI A B)) :: rest)) := n_if_eq hx hb hdg ht (by have := cmpI_rng A B; omega) (by have := cmpI_rng A B; omega) (fun q => kt ((cmp_eq A B).mp q)) (fun q => kf (fun z => q ((cmp_eq A B).mpr z)))
theorem n_icmp_ne (hx : p.tables.exec = Jvm.exec) (hb : c.code = cc) {A B : Int} {off : Int} {tgt : Nat} (hdg : decode cc pc = .ok (.if_icmp .ne off, 3)) (ht : (pc : Int) + off = (tgt : Int)) (a1 : -2147483648 ≤ A) (a2 : A < 2147483648) (b1 : -2147483648 ≤ B) (b2 : B < 2147483648) (kt : ¬ A = B → W p l e R s m args below meth c H locs cells slots Q (F0 m tgt ls rest)) (kf : A = B → W p l e R s m args below meth c H locs cells slots Q (F0 m (pc + 3) ls rest)) : W p l e R s m args below meth c H locs cells slots Q (F0 m pc ls (.int (iN B) :: .int (iN A) :: rest)) := lv_icmp_ne hx hb hdg ht (fun q => kt (fun z => q ((iN_eq a1 a2 b1 b2).mpr z))) (fun q => kf ((iN_eq a1 a2 b1 b2).mp q))
theorem n_if_ne (hx : p.tables.exec = Jvm.exec) (hb : c.code = cc) {A : Int} {off : Int} {tgt : Nat} (hdg : decode cc pc = .ok (.ifCond .ne off, 3)) (ht : (pc : Int) + off = (tgt : Int)) (a1 : -2147483648 ≤ A) (a2 : A < 2147483648) (kt : ¬ A = 0 → W p l e R s m args below meth c H locs cells slots Q (F0 m tgt ls rest)) (kf : A = 0 → W p l e R s m args below meth c H locs cells slots Q (F0 m (pc + 3) ls rest)) : W p l e R s m args below meth c H locs cells slots Q (F0 m pc ls (.int (iN A) :: rest)) := lv_if_ne hx hb hdg ht (fun q => kt (fun z => q ((iN_eq a1 a2 (by omega) (by omega)).mpr z))) (fun q => kf ((iN_eq a1 a2 (by omega) (by omega)).mp q))
theorem n_ifc_ne (hx : p.tables.exec = Jvm.exec) (hb : c.code = cc) {A B : Int} {off : Int} {tgt : Nat} (hdg : decode cc pc = .ok (.ifCond .ne off, 3)) (ht : (pc : Int) + off = (tgt : Int)) (kt : ¬ A = B → W p l e R s m args below meth c H locs cells slots Q (F0 m tgt ls rest)) (kf : A = B → W p l e R s m args below meth c H locs cells slots Q (F0 m (pc + 3) ls rest)) : W p l e R s m args below meth c H locs cells slots Q (F0 m pc ls (.int (iN (cmpI A B)) :: rest)) := n_if_ne hx hb hdg ht (by have := cmpI_rng A B; omega) (by have := cmpI_rng A B; omega) (fun q => kt (fun z => q ((cmp_eq A B).mpr z))) (fun q => kf ((cmp_eq A B).mp q))
theorem n_icmp_lt (hx : p.tables.exec = Jvm.exec) (hb : c.code = cc) {A B : Int} {off : Int} {tgt : Nat} (hdg : decode cc pc = .ok (.if_icmp .lt off, 3)) (ht : (pc : Int) + off = (tgt : Int)) (a1 : -2147483648 ≤ A) (a2 : A < 2147483648) (b1 : -2147483648 ≤ B) (b2 : B < 2147483648) (kt : A < B → W p l e R s m args below meth c H locs cells slots Q (F0 m tgt ls rest)) (kf : ¬ A < B → W p l e R s m args below meth c H locs cells slots Q (F0 m (pc + 3) ls rest)) : W p l e R s m args below meth c H locs cells slots Q (F0 m pc ls (.int (iN B) :: .int (iN A) :: rest)) := lv_icmp_lt hx hb hdg ht (fun q => kt ((iN_lt a1 a2 b1 b2).mp q)) (fun q => kf (fun z => q ((iN_lt a1 a2 b1 b2).mpr z)))
theorem n_if_lt (hx : p.tables.exec = Jvm.exec) (hb : c.code = cc) {A : Int} {off : Int} {tgt : Nat} (hdg : decode cc pc = .ok (.ifCond .lt off, 3)) (ht : (pc : Int) + off = (tgt : Int)) (a1 : -2147483648 ≤ A) (a2 : A < 2147483648) (kt : A < 0 → W p l e R s m args below meth c H locs cells slots Q (F0 m tgt ls rest)) (kf : ¬ A < 0 → W p l e R s m args below meth c H locs cells slots Q (F0 m (pc + 3) ls rest)) : W p l e R s m args below meth c H locs cells slots Q (F0 m pc ls (.int (iN A) :: rest)) := lv_if_lt hx hb hdg ht (fun q => kt ((iN_lt a1 a2 (by omega) (by omega)).mp q)) (fun q => kf (fun z => q ((iN_lt a1 a2 (by omega) (by omega)).mpr z)))
theorem n_ifc_lt (hx : p.tables.exec = Jvm.exec) (hb : c.code = cc) {A B : Int} {off : Int} {tgt : Nat} (hdg : decode cc pc = .ok (.ifCond .lt off, 3)) (ht : (pc : Int) + off = (tgt : Int)) (kt : A < B → W p l e R s m args below meth c H locs cells slots Q (F0 m tgt ls rest)) (kf : ¬ A < B → W p l e R s m args below meth c H locs cells slots Q (F0 m (pc + 3) ls rest)) : W p l e R s m args below meth c H locs cells slots Q (F0 m pc ls (.int (iN (cmpI A B)) :: rest)) := n_if_lt hx hb hdg ht (by have := cmpI_rng A B; omega) (by have := cmpI_rng A B; omega) (fun q => kt ((cmp_lt A B).mp q)) (fun q => kf (fun z => q ((cmp_lt A B).mpr z)))
theorem n_icmp_ge (hx : p.tables.exec = Jvm.exec) (hb : c.code = cc) {A B : Int} {off : Int} {tgt : Nat} (hdg : decode cc pc = .ok (.if_icmp .ge off, 3)) (ht : (pc : Int) + off = (tgt : Int)) (a1 : -2147483648 ≤ A) (a2 : A < 2147483648) (b1 : -2147483648 ≤ B) (b2 : B < 2147483648) (kt : B ≤ A → W p l e R s m args below meth c H locs cells slots Q (F0 m tgt ls rest)) (kf : ¬ B ≤ A → W p l e R s m args below meth c H locs cells slots Q (F0 m (pc + 3) ls rest)) : W p l e R s m args below meth c H locs cells slots Q (F0 m pc ls (.int (iN B) :: .int (iN A) :: rest)) := lv_icmp_ge hx hb hdg ht (fun q => kt ((iN_le b1 b2 a1 a2).mp q)) (fun q => kf (fun z => q ((iN_le b1 b2 a1 a2).mpr z)))
theorem n_if_ge (hx : p.tables.exec = Jvm.exec) (hb : c.code = cc) {A : Int} {off : Int} {tgt : Nat} (hdg : decode cc pc = .ok (.ifCond .ge off, 3)) (ht : (pc : Int) + off = (tgt : Int)) (a1 : -2147483648 ≤ A) (a2 : A < 2147483648) (kt : 0 ≤ A → W p l e R s m args below meth c H locs cells slots Q (F0 m tgt ls rest)) (kf : ¬ 0 ≤ A → W p l e R s m args below meth c H locs cells slots Q (F0 m (pc + 3) ls rest)) : W p l e R s m args below meth c H locs cells slots Q (F0 m pc ls (.int (iN A) :: rest)) := lv_if_ge hx hb hdg ht (fun q => kt ((iN_le (by omega) (by omega) a1 a2).mp q)) (fun q => kf (fun z => q ((iN_le (by omega) (by omega) a1 a2).mpr z)))
theorem n_ifc_ge (hx : p.tables.exec = Jvm.exec) (hb : c.code = cc) {A B : Int} {off : Int} {tgt : Nat} (hdg : decode cc pc = .ok (.ifCond .ge off, 3)) (ht : (pc : Int) + off = (tgt : Int)) (kt : B ≤ A → W p l e R s m args below meth c H locs cells slots Q (F0 m tgt ls rest)) (kf : ¬ B ≤ A → W p l e R s m args below meth c H locs cells slots Q (F0 m (pc + 3) ls rest)) : W p l e R s m args below meth c H locs cells slots Q (F0 m pc ls (.int (iN (cmpI A B)) :: rest)) := n_if_ge hx hb hdg ht (by have := cmpI_rng A B; omega) (by have := cmpI_rng A B; omega) (fun q => kt (Int.not_lt.mp fun z => absurd ((cmp_lt A B).mpr z) (Int.not_lt.mpr q))) (fun q => kf (fun z => absurd ((cmp_lt A B).mp (Int.not_le.mp q)) (Int.not_lt.mpr z)))
theorem n_icmp_gt (hx : p.tables.exec = Jvm.exec) (hb : c.code = cc) {A B : Int} {off : Int} {tgt : Nat} (hdg : decode cc pc = .ok (.if_icmp .gt off, 3)) (ht : (pc : Int) + off = (tgt : Int)) (a1 : -2147483648 ≤ A) (a2 : A < 2147483648) (b1 : -2147483648 ≤ B) (b2 : B < 2147483648) (kt : B < A → W p l e R s m args below meth c H locs cells slots Q (F0 m tgt ls rest)) (kf : ¬ B < A → W p l e R s m args below meth c H locs cells slots Q (F0 m (pc + 3) ls rest)) : W p l e R s m args below meth c H locs cells slots Q (F0 m pc ls (.int (iN B) :: .int (iN A) :: rest)) := lv_icmp_gt hx hb hdg ht (fun q => kt ((iN_lt b1 b2 a1 a2).mp q)) (fun q => kf (fun z => q ((iN_lt b1 b2 a1 a2).mpr z)))
theorem n_if_gt (hx : p.tables.exec = Jvm.exec) (hb : c.code = cc) {A : Int} {off : Int} {tgt : Nat} (hdg : decode cc pc = .ok (.ifCond .gt off, 3)) (ht : (pc : Int) + off = (tgt : Int)) (a1 : -2147483648 ≤ A) (a2 : A < 2147483648) (kt : 0 < A → W p l e R s m args below meth c H locs cells slots Q (F0 m tgt ls rest)) (kf : ¬ 0 < A → W p l e R s m args below meth c H locs cells slots Q (F0 m (pc + 3) ls rest)) : W p l e R s m args below meth c H locs cells slots Q (F0 m pc ls (.int (iN A) :: rest)) := lv_if_gt hx hb hdg ht (fun q => kt ((iN_lt (by omega) (by omega) a1 a2).mp q)) (fun q => kf (fun z => q ((iN_lt (by omega) (by omega) a1 a2).mpr z)))
theorem n_ifc_gt (hx : p.tables.exec = Jvm.exec) (hb : c.code = cc) {A B : Int} {off : Int} {tgt : Nat} (hdg : decode cc pc = .ok (.ifCond .gt off, 3)) (ht : (pc : Int) + off = (tgt : Int)) (kt : B < A → W p l e R s m args below meth c H locs cells slots Q (F0 m tgt ls rest)) (kf : ¬ B < A → W p l e R s m args below meth c H locs cells slots Q (F0 m (pc + 3) ls rest)) : W p l e R s m args below meth c H locs cells slots Q (F0 m pc ls (.int (iN (cmpI A B)) :: rest)) := n_if_gt hx hb hdg ht (by have := cmpI_rng A B; omega) (by have := cmpI_rng A B; omega) (fun q => kt (Int.not_le.mp fun z => absurd ((cmp_le A B).mpr z) (Int.not_le.mpr q))) (fun q => kf (fun z => absurd ((cmp_le A B).mp (Int.not_lt.mp q)) (Int.not_le.mpr z)))
theorem n_icmp_le (hx : p.tables.exec = Jvm.exec) (hb : c.code = cc) {A B : Int} {off : Int} {tgt : Nat} (hdg : decode cc pc = .ok (.if_icmp .le off, 3)) (ht : (pc : Int) + off = (tgt : Int)) (a1 : -2147483648 ≤ A) (a2 : A < 2147483648) (b1 : -2147483648 ≤ B) (b2 : B < 2147483648) (kt : A ≤ B → W p l e R s m args below meth c H locs cells slots Q (F0 m tgt ls rest)) (kf : ¬ A ≤ B → W p l e R s m args below meth c H locs cells slots Q (F0 m (pc + 3) ls rest)) : W p l e R s m args below meth c H locs cells slots Q (F0 m pc ls (.int (iN B) :: .int (iN A) :: rest)) := lv_icmp_le hx hb hdg ht (fun q => kt ((iN_le a1 a2 b1 b2).mp q)) (fun q => kf (fun z => q ((iN_le a1 a2 b1 b2).mpr z)))
theorem n_if_le (hx : p.tables.exec = Jvm.exec) (hb : c.code = cc) {A : Int} {off : Int} {tgt : Nat} (hdg : decode cc pc = .ok (.ifCond .le off, 3)) (ht : (pc : Int) + off = (tgt : Int)) (a1 : -2147483648 ≤ A) (a2 : A < 2147483648) (kt : A ≤ 0 → W p l e R s m args below meth c H locs cells slots Q (F0 m tgt ls rest)) (kf : ¬ A ≤ 0 → W p l e R s m args below meth c H locs cells slots Q (F0 m (pc + 3) ls rest)) : W p l e R s m args below meth c H locs cells slots Q (F0 m pc ls (.int (iN A) :: rest)) := lv_if_le hx hb hdg ht (fun q => kt ((iN_le a1 a2 (by omega) (by omega)).mp q)) (fun q => kf (fun z => q ((iN_le a1 a2 (by omega) (by omega)).mpr z)))
theorem n_ifc_le (hx : p.tables.exec = Jvm.exec) (hb : c.code = cc) {A B : Int} {off : Int} {tgt : Nat} (hdg : decode cc pc = .ok (.ifCond .le off, 3)) (ht : (pc : Int) + off = (tgt : Int)) (kt : A ≤ B → W p l e R s m args below meth c H locs cells slots Q (F0 m tgt ls rest)) (kf : ¬ A ≤ B → W p l e R s m args below meth c H locs cells slots Q (F0 m (pc + 3) ls rest)) : W p l e R s m args below meth c H locs cells slots Q (F0 m pc ls (.int (iN (cmpI A B)) :: rest)) := n_if_le hx hb hdg ht (by have := cmpI_rng A B; omega) (by have := cmpI_rng A B; omega) (fun q => kt ((cmp_le A B).mp q)) (fun q => kf (fun z => q ((cmp_le A B).mpr z)))
theorem n_ifb_eq (hx : p.tables.exec = Jvm.exec) (hb : c.code = cc) {P : Prop} [Decidable P] {off : Int} {tgt : Nat} (hdg : decode cc pc = .ok (.ifCond .eq off, 3)) (ht : (pc : Int) + off = (tgt : Int)) (kt : ¬ P → W p l e R s m args below meth c H locs cells slots Q (F0 m tgt ls rest)) (kf : P → W p l e R s m args below meth c H locs cells slots Q (F0 m (pc + 3) ls rest)) : W p l e R s m args below meth c H locs cells slots Q (F0 m pc ls (.int (iN (if P then 1 else 0)) :: rest)) := n_if_eq hx hb hdg ht (by have := b01_rng P; omega) (by have := b01_rng P; omega) (fun q => kt ((b01_eq P).mp q)) (fun q => kf (Decidable.not_not.mp fun z => q ((b01_eq P).mpr z)))
theorem n_ifb_ne (hx : p.tables.exec = Jvm.exec) (hb : c.code = cc) {P : Prop} [Decidable P] {off : Int} {tgt : Nat} (hdg : decode cc pc = .ok (.ifCond .ne off, 3)) (ht : (pc : Int) + off = (tgt : Int)) (kt : P → W p l e R s m args below meth c H locs cells slots Q (F0 m tgt ls rest)) (kf : ¬ P → W p l e R s m args below meth c H locs cells slots Q (F0 m (pc + 3) ls rest)) : W p l e R s m args below meth c H locs cells slots Q (F0 m pc ls (.int (iN (if P then 1 else 0)) :: rest)) := n_if_ne hx hb hdg ht (by have := b01_rng P; omega) (by have := b01_rng P; omega) (fun q => kt (Decidable.not_not.mp fun z => q ((b01_eq P).mpr z))) (fun q => kf ((b01_eq P).mp q))
theorem n_iald (hx : p.tables.exec = Jvm.exec) (hb : c.code = cc) (hK : KK G s) (hP : PW G w H) (k : Nat) (hk : k < 75) {n : Nat} {g : Nat → Int} (he : w k = .inl (gI G, n, .inl (aN g))) {A : Int} (j : Nat) (hA : A = (j : Int)) (hj : j < n) (hn : n < 2147483648) (hdg : decode cc pc = .ok (.iaload, 1)) (kk : W p l e R s m args below meth c H locs cells slots Q (F0 m (pc + 1) ls (.int (iN (g j)) :: rest))) : W p l e R s m args below meth c H locs cells slots Q (F0 m pc ls (.int (iN A) :: .ref (gad G k) :: rest)) := by
  obtain ⟨h1, h2⟩ := iN_idx hA hj hn
  refine f_iald hx hb hK hP k hk he h1 hdg ?_
  rw [h2]
  exact kk
theorem n_zald (hx : p.tables.exec = Jvm.exec) (hb : c.code = cc) (hK : KK G s) (hP : PW G w H) (k : Nat) (hk : k < 75) {n : Nat} {g : Nat → Int} (he : w k = .inl (gZ G, n, .inl (aN g))) {A : Int} (j : Nat) (hA : A = (j : Int)) (hj : j < n) (hn : n < 2147483648) (hdg : decode cc pc = .ok (.baload, 1)) (kk : W p l e R s m args below meth c H locs cells slots Q (F0 m (pc + 1) ls (.int (iN (g j)) :: rest))) : W p l e R s m args below meth c H locs cells slots Q (F0 m pc ls (.int (iN A) :: .ref (gad G k) :: rest)) := by
  obtain ⟨h1, h2⟩ := iN_idx hA hj hn
  refine f_zald hx hb hK hP k hk he h1 hdg ?_
  rw [h2]
  exact kk
theorem n_lald (hx : p.tables.exec = Jvm.exec) (hb : c.code = cc) (hK : KK G s) (hP : PW G w H) (k : Nat) (hk : k < 75) {n : Nat} {g : Nat → Int} (he : w k = .inl (gJ G, n, .inr (.inl (aJ g)))) {A : Int} (j : Nat) (hA : A = (j : Int)) (hj : j < n) (hn : n < 2147483648) (hdg : decode cc pc = .ok (.laload, 1)) (kk : W p l e R s m args below meth c H locs cells slots Q (F0 m (pc + 1) ls (.long (jN (g j)) :: rest))) : W p l e R s m args below meth c H locs cells slots Q (F0 m pc ls (.int (iN A) :: .ref (gad G k) :: rest)) := by
  obtain ⟨h1, h2⟩ := iN_idx hA hj hn
  refine f_lald hx hb hK hP k hk he h1 hdg ?_
  rw [h2]
  exact kk
theorem n_aldq (hx : p.tables.exec = Jvm.exec) (hb : c.code = cc) (hK : KK G s) (hP : PW G w H) {A : Int} (j : Nat) (hA : A = (j : Int)) (hj : j < 10) (hdg : decode cc pc = .ok (.aaload, 1)) (kk : W p l e R s m args below meth c H locs cells slots Q (F0 m (pc + 1) ls (.ref (gad G (19 + 4 * j)) :: rest))) : W p l e R s m args below meth c H locs cells slots Q (F0 m pc ls (.int (iN A) :: .ref (gad G 1) :: rest)) := f_aldq hx hb hK hP hj (by rw [hA, iN_nat]) hdg kk
theorem upd_aN (g : Nat → Int) (j : Nat) (v : Int) : upd (aN g) j (iN v) = aN (va_up g j v) := funext fun q => by
  unfold upd aN va_up
  split <;> rfl
theorem upd_aJ (g : Nat → Int) (j : Nat) (v : Int) : vp_updL (aJ g) j (jN v) = aJ (va_up g j v) := funext fun q => by
  unfold vp_updL aJ va_up
  split <;> rfl
theorem n_iast (hx : p.tables.exec = Jvm.exec) (hb : c.code = cc) (hK : KK G s) (hP : PW G w H) (hS : va_S A0 s.heap H locs) (hA0 : ∀ q, AA G q → A0 q) (k : Nat) (hk : k < 75) {n : Nat} {g : Nat → Int} (he : w k = .inl (gI G, n, .inl (aN g))) (hsh : ∀ g : Nat → Int32, (.inl (gI G, n, .inl g) : va_E) = shp G k (.inl (gI G, n, .inl g))) {A V : Int} (j : Nat) (hA : A = (j : Int)) (hj : j < n) (hn : n < 2147483648) (hdg : decode cc pc = .ok (.iastore, 1)) (kk : ∀ (H1 : Heap) (locs1 : List Loc), PW G (va_up w k (.inl (gI G, n, .inl (aN (va_up g j V))))) H1 → va_S A0 s.heap H1 locs1 → W p l e R s m args below meth c H1 locs1 cells slots Q (F0 m (pc + 1) ls rest)) : W p l e R s m args below meth c H locs cells slots Q (F0 m pc ls (.int (iN V) :: .int (iN A) :: .ref (gad G k) :: rest)) := by
  obtain ⟨h1, h2⟩ := iN_idx hA hj hn
  refine f_iast hx hb hK hP hS hA0 k hk he hsh h1 hdg fun H1 L1 z1 z2 => kk H1 L1 ?_ z2
  rw [h2, upd_aN] at z1
  exact z1
theorem n_zast (hx : p.tables.exec = Jvm.exec) (hb : c.code = cc) (hK : KK G s) (hP : PW G w H) (hS : va_S A0 s.heap H locs) (hA0 : ∀ q, AA G q → A0 q) (k : Nat) (hk : k < 75) {n : Nat} {g : Nat → Int} (he : w k = .inl (gZ G, n, .inl (aN g))) (hsh : ∀ g : Nat → Int32, (.inl (gZ G, n, .inl g) : va_E) = shp G k (.inl (gZ G, n, .inl g))) {A : Int} {P : Prop} [Decidable P] (j : Nat) (hA : A = (j : Int)) (hj : j < n) (hn : n < 2147483648) (hdg : decode cc pc = .ok (.bastore, 1)) (kk : ∀ (H1 : Heap) (locs1 : List Loc), PW G (va_up w k (.inl (gZ G, n, .inl (aN (va_up g j (if P then 1 else 0)))))) H1 → va_S A0 s.heap H1 locs1 → W p l e R s m args below meth c H1 locs1 cells slots Q (F0 m (pc + 1) ls rest)) : W p l e R s m args below meth c H locs cells slots Q (F0 m pc ls (.int (iN (if P then 1 else 0)) :: .int (iN A) :: .ref (gad G k) :: rest)) := by
  obtain ⟨h1, h2⟩ := iN_idx hA hj hn
  refine f_zast hx hb hK hP hS hA0 k hk he hsh (b01_nar P) h1 hdg fun H1 L1 z1 z2 => kk H1 L1 ?_ z2
  rw [h2, upd_aN] at z1
  exact z1
theorem n_last (hx : p.tables.exec = Jvm.exec) (hb : c.code = cc) (hK : KK G s) (hP : PW G w H) (hS : va_S A0 s.heap H locs) (hA0 : ∀ q, AA G q → A0 q) (k : Nat) (hk : k < 75) {n : Nat} {g : Nat → Int} (he : w k = .inl (gJ G, n, .inr (.inl (aJ g)))) (hsh : ∀ g : Nat → Int64, (.inl (gJ G, n, .inr (.inl g)) : va_E) = shp G k (.inl (gJ G, n, .inr (.inl g)))) {A V : Int} (j : Nat) (hA : A = (j : Int)) (hj : j < n) (hn : n < 2147483648) (hdg : decode cc pc = .ok (.lastore, 1)) (kk : ∀ (H1 : Heap) (locs1 : List Loc), PW G (va_up w k (.inl (gJ G, n, .inr (.inl (aJ (va_up g j V)))))) H1 → va_S A0 s.heap H1 locs1 → W p l e R s m args below meth c H1 locs1 cells slots Q (F0 m (pc + 1) ls rest)) : W p l e R s m args below meth c H locs cells slots Q (F0 m pc ls (.long (jN V) :: .int (iN A) :: .ref (gad G k) :: rest)) := by
  obtain ⟨h1, h2⟩ := iN_idx hA hj hn
  refine f_last hx hb hK hP hS hA0 k hk he hsh h1 hdg fun H1 L1 z1 z2 => kk H1 L1 ?_ z2
  rw [h2, upd_aJ] at z1
  exact z1
theorem n_mmax (hx : p.tables.exec = Jvm.exec) (hb : c.code = cc) (hml : c.maxLocals = ls.size) {own : String} {index : Nat} (hown : s.vm.findClass own = some m.cls) (hlink : (Cond.methodLink own index Lib.Math.max.name).before args s = true) (hstat : (Cond.static Lib.Math.max.name).before args s = true) (hini : (Cond.initialized "java/lang/Math").before args s = true) (hcode : (Cond.code Lib.Math.max.name Lib.Math.max.code 2 (some .int)).before args s = true) (hframes : 1 ≤ R.frames) (hlocals : (rest.map fun v => v.category).sum + 13 ≤ R.locals) (hc : cells ≤ R.cells) (hs : slots ≤ R.slots) {A B : Int} (a1 : -2147483648 ≤ A) (a2 : A < 2147483648) (b1 : -2147483648 ≤ B) (b2 : B < 2147483648) (hdg : decode cc pc = .ok (.invokestatic index, 3)) (kk : W p l e R s m args below meth c H locs cells slots Q (F0 m (pc + 3) ls (.int (iN (max A B)) :: rest))) : W p l e R s m args below meth c H locs cells slots Q (F0 m pc ls (.int (iN B) :: .int (iN A) :: rest)) := by
  refine va_mmax hx hb hml hown hlink hstat hini hcode hframes hlocals hc hs hdg ?_
  rw [show (if iN A < iN B then iN B else iN A) = iN (max A B) by rw [show (if iN A < iN B then iN B else iN A) = (if A < B then iN B else iN A) from by simp only [iN_lt a1 a2 b1 b2]]; by_cases q : A < B <;> simp only [q, if_true, if_false] <;> congr 1 <;> omega]
  exact kk
theorem n_mmin (hx : p.tables.exec = Jvm.exec) (hb : c.code = cc) (hml : c.maxLocals = ls.size) {own : String} {index : Nat} (hown : s.vm.findClass own = some m.cls) (hlink : (Cond.methodLink own index Lib.Math.min.name).before args s = true) (hstat : (Cond.static Lib.Math.min.name).before args s = true) (hini : (Cond.initialized "java/lang/Math").before args s = true) (hcode : (Cond.code Lib.Math.min.name Lib.Math.min.code 2 (some .int)).before args s = true) (hframes : 1 ≤ R.frames) (hlocals : (rest.map fun v => v.category).sum + 13 ≤ R.locals) (hc : cells ≤ R.cells) (hs : slots ≤ R.slots) {A B : Int} (a1 : -2147483648 ≤ A) (a2 : A < 2147483648) (b1 : -2147483648 ≤ B) (b2 : B < 2147483648) (hdg : decode cc pc = .ok (.invokestatic index, 3)) (kk : W p l e R s m args below meth c H locs cells slots Q (F0 m (pc + 3) ls (.int (iN (min A B)) :: rest))) : W p l e R s m args below meth c H locs cells slots Q (F0 m pc ls (.int (iN B) :: .int (iN A) :: rest)) := by
  refine va_mmin hx hb hml hown hlink hstat hini hcode hframes hlocals hc hs hdg ?_
  rw [show (if iN B < iN A then iN B else iN A) = iN (min A B) by rw [show (if iN B < iN A then iN B else iN A) = (if B < A then iN B else iN A) from by simp only [iN_lt b1 b2 a1 a2]]; by_cases q : B < A <;> simp only [q, if_true, if_false] <;> congr 1 <;> omega]
  exact kk
theorem n_mabs (hx : p.tables.exec = Jvm.exec) (hb : c.code = cc) (hml : c.maxLocals = ls.size) {own : String} {index : Nat} (hown : s.vm.findClass own = some m.cls) (hlink : (Cond.methodLink own index Lib.Math.abs.name).before args s = true) (hstat : (Cond.static Lib.Math.abs.name).before args s = true) (hini : (Cond.initialized "java/lang/Math").before args s = true) (hcode : (Cond.code Lib.Math.abs.name Lib.Math.abs.code 1 (some .int)).before args s = true) (hframes : 1 ≤ R.frames) (hlocals : (rest.map fun v => v.category).sum + 13 ≤ R.locals) (hc : cells ≤ R.cells) (hs : slots ≤ R.slots) {A : Int} (a1 : -2147483648 ≤ A) (a2 : A < 2147483648) (hdg : decode cc pc = .ok (.invokestatic index, 3)) (kk : W p l e R s m args below meth c H locs cells slots Q (F0 m (pc + 3) ls (.int (iN (A.natAbs : Int)) :: rest))) : W p l e R s m args below meth c H locs cells slots Q (F0 m pc ls (.int (iN A) :: rest)) := by
  refine va_mabs hx hb hml hown hlink hstat hini hcode hframes hlocals hc hs hdg ?_
  rw [show (if 0 ≤ iN A then iN A else 0 - iN A) = iN (A.natAbs : Int) from ?_]
  · exact kk
  · have h0 : (0 ≤ iN A) ↔ 0 ≤ A := iN_le (a := 0) (by omega) (by omega) a1 a2
    simp only [h0]
    by_cases q : 0 ≤ A
    · rw [if_pos q]
      congr 1
      omega
    · rw [if_neg q, iN_0, iN_sub]
      congr 1
      omega
/-- ends: a method that only reads; a method that changes the world -/
theorem r_si {post : Int32 → Prop} {free : Addr → Prop} {A : Int} (hx : p.tables.exec = Jvm.exec) (hb : c.code = cc) (hr : meth.sig.returnType = some .int) (hdg : decode cc pc = .ok (.ireturn, 1)) (hlocks : meth.locks = false) (hp : post (iN A)) : W p l e R s m args below meth c s.heap [] cells slots (MQ below (vp_Si post) args s cells slots free) (F0 m pc ls [.int (iN A)]) := W.iret hx hb hr (fun _ ht _ => ⟨_, rfl, hp, ht⟩) (fun _ h => absurd h List.not_mem_nil) hdg hlocks
theorem r_sz {post : Int32 → Prop} {free : Addr → Prop} {P : Prop} [Decidable P] (hx : p.tables.exec = Jvm.exec) (hb : c.code = cc) (hr : meth.sig.returnType = some .boolean) (hdg : decode cc pc = .ok (.ireturn, 1)) (hlocks : meth.locks = false) (hp : post (iN (if P then 1 else 0))) : W p l e R s m args below meth c s.heap [] cells slots (MQ below (vp_Si post) args s cells slots free) (F0 m pc ls [.int (iN (if P then 1 else 0))]) := W.zret hx hb hr (b01_narrow P) (fun _ ht _ => ⟨_, rfl, hp, ht⟩) (fun _ h => absurd h List.not_mem_nil) hdg hlocks
theorem r_z1 {post : Int32 → Prop} {free : Addr → Prop} (hx : p.tables.exec = Jvm.exec) (hb : c.code = cc) (hr : meth.sig.returnType = some .boolean) (hdg : decode cc pc = .ok (.ireturn, 1)) (hlocks : meth.locks = false) (hp : post (iN 1)) : W p l e R s m args below meth c s.heap [] cells slots (MQ below (vp_Si post) args s cells slots free) (F0 m pc ls [.int (iN 1)]) := W.zret hx hb hr rfl (fun _ ht _ => ⟨_, rfl, hp, ht⟩) (fun _ h => absurd h List.not_mem_nil) hdg hlocks
theorem r_z0 {post : Int32 → Prop} {free : Addr → Prop} (hx : p.tables.exec = Jvm.exec) (hb : c.code = cc) (hr : meth.sig.returnType = some .boolean) (hdg : decode cc pc = .ok (.ireturn, 1)) (hlocks : meth.locks = false) (hp : post (iN 0)) : W p l e R s m args below meth c s.heap [] cells slots (MQ below (vp_Si post) args s cells slots free) (F0 m pc ls [.int (iN 0)]) := W.zret hx hb hr rfl (fun _ ht _ => ⟨_, rfl, hp, ht⟩) (fun _ h => absurd h List.not_mem_nil) hdg hlocks
theorem r_sl {post : Int64 → Prop} {free : Addr → Prop} {A : Int} (hx : p.tables.exec = Jvm.exec) (hb : c.code = cc) (hr : meth.sig.returnType = some .long) (hdg : decode cc pc = .ok (.lreturn, 1)) (hlocks : meth.locks = false) (hp : post (jN A)) : W p l e R s m args below meth c s.heap [] cells slots (MQ below (vp_Sl post) args s cells slots free) (F0 m pc ls [.long (jN A)]) := W.lret hx hb hr (fun _ ht _ => ⟨_, rfl, hp, ht⟩) (fun _ h => absurd h List.not_mem_nil) hdg hlocks
theorem r_v {post : WF → Prop} (hx : p.tables.exec = Jvm.exec) (hb : c.code = cc) (hr : meth.sig.returnType = none) (hdg : decode cc pc = .ok (.return_, 1)) (hlocks : meth.locks = false) (hP : PW G w H) (hS : va_S (AA G) s.heap H locs) (hp : post w) : W p l e R s m args below meth c H locs cells slots (MQ below (QV G post) args s cells slots (AA G)) (F0 m pc ls []) := W.vret hx hb hr (fun t ht _ => ⟨⟨rfl, w, hp, by rw [ht]; exact hP⟩, hS.F ht⟩) hS.2.2 hdg hlocks
theorem r_i {post : Int32 → WF → Prop} {A : Int} (hx : p.tables.exec = Jvm.exec) (hb : c.code = cc) (hr : meth.sig.returnType = some .int) (hdg : decode cc pc = .ok (.ireturn, 1)) (hlocks : meth.locks = false) (hP : PW G w H) (hS : va_S (AA G) s.heap H locs) (hp : post (iN A) w) : W p l e R s m args below meth c H locs cells slots (MQ below (QI G post) args s cells slots (AA G)) (F0 m pc ls [.int (iN A)]) := W.iret hx hb hr (fun t ht _ => ⟨⟨_, w, rfl, hp, by rw [ht]; exact hP⟩, hS.F ht⟩) hS.2.2 hdg hlocks
end FN
end
section
theorem iN_incN (x : Nat) : iN (x : Int) + Int32.ofInt 1 = iN ((x + 1 : Nat) : Int) := iN_inc _ _
theorem iN_decN {x : Nat} (h : 0 < x) : iN (x : Int) + Int32.ofInt (-1) = iN ((x - 1 : Nat) : Int) := by
  rw [iN_inc]
  congr 1
  omega
theorem mb1 {a d : Int} (ha : 0 ≤ a ∧ a ≤ 400) (hd : 1 ≤ d ∧ d ≤ 200) : 0 ≤ a * d ∧ a * d ≤ 80000 := ⟨Int.mul_nonneg ha.1 (by omega), by
  have h1 : a * d ≤ 400 * d := Int.mul_le_mul_of_nonneg_right ha.2 (by omega)
  omega⟩
/-- the piece of a course at n / d -/
def pcAt (st : Nat → Int) (n d : Int) : Nat → Nat
  | 0 => 0
  | k + 1 => if 0 < k ∧ st k * d ≤ n then k else pcAt st n d k
theorem pcAt_lt (st : Nat → Int) (n d : Int) : ∀ k, 1 ≤ k → pcAt st n d k < k
  | 0, h => absurd h (by omega)
  | 1, _ => by simp [pcAt]
  | k + 2, _ => by
    have := pcAt_lt st n d (k + 1) (by omega)
    unfold pcAt
    split <;> omega
/-- the upper number of the place at n / d -/
def upAt (st pl sp : Nat → Int) (np : Nat) (n d : Int) : Int := pl (pcAt st n d np) * d + sp (pcAt st n d np) * (n - st (pcAt st n d np) * d)
def spAt (st sp : Nat → Int) (np : Nat) (n : Int) : Int := sp (pcAt st n 1 np)
/-- the next bend of a course after a time, at most last -/
def nbP (st : Nat → Int) (after : Int) : Nat → Int → Int
  | 0, last => last
  | k + 1, last => if after < st k then min (nbP st after k last) (st k) else nbP st after k last
def nbC (st : Nat → Int) (np : Nat) (stop after last : Int) : Int := if after < stop then min (nbP st after np last) stop else nbP st after np last
theorem nbP_rng (st : Nat → Int) (after : Int) : ∀ (k : Nat) (last : Int), 0 ≤ last → last ≤ 1000 → (∀ p : Nat, p < k → 0 ≤ st p ∧ st p ≤ 400) → 0 ≤ nbP st after k last ∧ nbP st after k last ≤ last
  | 0, last, h, _, _ => ⟨h, Int.le_refl _⟩
  | k + 1, last, h, h2, hp => by
    have h1 := nbP_rng st after k last h h2 (fun p q => hp p (by omega))
    have h3 := hp k (by omega)
    unfold nbP
    split <;> omega

set_option maxHeartbeats 4000000 in
set_option maxRecDepth 100000 in
theorem c_X0_began (l : Launch) (G : GE) (w : WF) (i : Nat) (st : Nat → Int) (pl : Nat → Int) (sp : Nat → Int) (np : Nat) (stop : Int) (e0 : w (19 + 4 * i) = .inr (0, [.ref (gad G (19 + 4 * i + 1)), .ref (gad G (19 + 4 * i + 2)), .ref (gad G (19 + 4 * i + 3)), .int (iN ((np : Nat) : Int)), .int (iN stop)])) (e1 : w (19 + 4 * i + 1) = .inl (gI G, 8, .inl (aN st))) (e2 : w (19 + 4 * i + 2) = .inl (gI G, 8, .inl (aN pl))) (e3 : w (19 + 4 * i + 3) = .inl (gI G, 8, .inl (aN sp))) (p0 : i < 10) : Met l yX0_began wsX0_began ({ frames := 0, cells := 0, slots := 0, locals := 0 }) (PcG G w [.ref (gad G (19 + 4 * i))]) (vp_Si (fun r => r = iN (st 0))) 0 0 (fun _ => False) := by
  refine Met.ofW (cc := cX0_began) (maxL := 1) (ret := (some .int)) (by decide) rfl ?_
  intro p e s m args below meth c s₁ B hml hv
  obtain ⟨rfl, hP, hK⟩ := hv
  have hx := B.exec
  have hb := B.bytes
  have hr := B.returns
  have hts := atoms_spec (ws := wsX0_began) B.pre
  have hown : s.vm.findClass RX0 = some m.cls := findClass_of_methodNamed B.named
  have hlocks := B.notSynchronized
  have hl := lv_entry ([.ref (gad G (19 + 4 * i))]) (n := 1) (Nat.le_of_ble_eq_true rfl)
  rw [lg_entry_eq]
  generalize (lg_sl ([.ref (gad G (19 + 4 * i))]) ++ List.replicate (1 - (lg_sl ([.ref (gad G (19 + 4 * i))])).length) Slot.unset).toArray = ls at hl ⊢
  have hl : lv_has ls 1 [(0, .ref (gad G (19 + 4 * i)))] := hl
  refine lv_aload_n hx hb dX0_began_0 rfl (lv_at hl 0 rfl) ?_
  refine f_get (C := RX0) (T := TX0) (N := 5) hx hb hts (by decide +kernel) hown hK hP (19 + 4 * i) (by omega) e0 rfl 0 (by decide) (hts (.fieldLink RX0 9 "KeptMoving$Course" "starts" "[I") (by decide +kernel)) (fun _ h9 => h9) rfl dX0_began_1 ?_
  refine n_iconst hx hb dX0_began_4 ?_
  refine n_iald hx hb hK hP (19 + 4 * i + 1) (by omega) e1 0 rfl (by omega) (by decide) dX0_began_5 ?_
  exact r_si hx hb hr dX0_began_6 hlocks (show iN (st 0) = iN (st 0) from congrArg iN (by first | rfl | omega))

set_option maxHeartbeats 4000000 in
set_option maxRecDepth 100000 in
theorem c_X0_isStopped (l : Launch) (G : GE) (w : WF) (i : Nat) (st : Nat → Int) (pl : Nat → Int) (sp : Nat → Int) (np : Nat) (stop : Int) (e0 : w (19 + 4 * i) = .inr (0, [.ref (gad G (19 + 4 * i + 1)), .ref (gad G (19 + 4 * i + 2)), .ref (gad G (19 + 4 * i + 3)), .int (iN ((np : Nat) : Int)), .int (iN stop)])) (e1 : w (19 + 4 * i + 1) = .inl (gI G, 8, .inl (aN st))) (e2 : w (19 + 4 * i + 2) = .inl (gI G, 8, .inl (aN pl))) (e3 : w (19 + 4 * i + 3) = .inl (gI G, 8, .inl (aN sp))) (p0 : i < 10) (p1 : -1 ≤ stop ∧ stop ≤ 400) : Met l yX0_isStopped wsX0_isStopped ({ frames := 0, cells := 0, slots := 0, locals := 0 }) (PcG G w [.ref (gad G (19 + 4 * i))]) (vp_Si (fun r => r = iN (if (stop ≠ -1) then 1 else 0))) 0 0 (fun _ => False) := by
  refine Met.ofW (cc := cX0_isStopped) (maxL := 1) (ret := (some .boolean)) (by decide) rfl ?_
  intro p e s m args below meth c s₁ B hml hv
  obtain ⟨rfl, hP, hK⟩ := hv
  have hx := B.exec
  have hb := B.bytes
  have hr := B.returns
  have hts := atoms_spec (ws := wsX0_isStopped) B.pre
  have hown : s.vm.findClass RX0 = some m.cls := findClass_of_methodNamed B.named
  have hlocks := B.notSynchronized
  have hl := lv_entry ([.ref (gad G (19 + 4 * i))]) (n := 1) (Nat.le_of_ble_eq_true rfl)
  rw [lg_entry_eq]
  generalize (lg_sl ([.ref (gad G (19 + 4 * i))]) ++ List.replicate (1 - (lg_sl ([.ref (gad G (19 + 4 * i))])).length) Slot.unset).toArray = ls at hl ⊢
  have hl : lv_has ls 1 [(0, .ref (gad G (19 + 4 * i)))] := hl
  refine lv_aload_n hx hb dX0_isStopped_0 rfl (lv_at hl 0 rfl) ?_
  refine f_get (C := RX0) (T := TX0) (N := 5) hx hb hts (by decide +kernel) hown hK hP (19 + 4 * i) (by omega) e0 rfl 4 (by decide) (hts (.fieldLink RX0 25 "KeptMoving$Course" "stopped" "I") (by decide +kernel)) (fun _ h9 => h9) rfl dX0_isStopped_1 ?_
  refine n_iconst hx hb dX0_isStopped_4 ?_
  refine n_icmp_eq (tgt := 12) hx hb dX0_isStopped_5 (by decide) (by omega) (by omega) (by omega) (by omega) (fun c_5 => ?_) (fun c_5 => ?_)
  · refine n_iconst hx hb dX0_isStopped_12 ?_
    exact r_z0 hx hb hr dX0_isStopped_13 hlocks (show iN 0 = iN (if (stop ≠ -1) then 1 else 0) by rw [if_neg (by omega)])
  · refine n_iconst hx hb dX0_isStopped_8 ?_
    refine lv_goto (tgt := 13) hx hb dX0_isStopped_9 (by decide) ?_
    exact r_z1 hx hb hr dX0_isStopped_13 hlocks (show iN 1 = iN (if (stop ≠ -1) then 1 else 0) by rw [if_pos (by omega)])

set_option maxHeartbeats 4000000 in
set_option maxRecDepth 100000 in
theorem c_X0_latestSpeed (l : Launch) (G : GE) (w : WF) (i : Nat) (st : Nat → Int) (pl : Nat → Int) (sp : Nat → Int) (np : Nat) (stop : Int) (e0 : w (19 + 4 * i) = .inr (0, [.ref (gad G (19 + 4 * i + 1)), .ref (gad G (19 + 4 * i + 2)), .ref (gad G (19 + 4 * i + 3)), .int (iN ((np : Nat) : Int)), .int (iN stop)])) (e1 : w (19 + 4 * i + 1) = .inl (gI G, 8, .inl (aN st))) (e2 : w (19 + 4 * i + 2) = .inl (gI G, 8, .inl (aN pl))) (e3 : w (19 + 4 * i + 3) = .inl (gI G, 8, .inl (aN sp))) (p0 : i < 10) (p1 : 1 ≤ np ∧ np ≤ 8) : Met l yX0_latestSpeed wsX0_latestSpeed ({ frames := 0, cells := 0, slots := 0, locals := 0 }) (PcG G w [.ref (gad G (19 + 4 * i))]) (vp_Si (fun r => r = iN (sp (np - 1)))) 0 0 (fun _ => False) := by
  refine Met.ofW (cc := cX0_latestSpeed) (maxL := 1) (ret := (some .int)) (by decide) rfl ?_
  intro p e s m args below meth c s₁ B hml hv
  obtain ⟨rfl, hP, hK⟩ := hv
  have hx := B.exec
  have hb := B.bytes
  have hr := B.returns
  have hts := atoms_spec (ws := wsX0_latestSpeed) B.pre
  have hown : s.vm.findClass RX0 = some m.cls := findClass_of_methodNamed B.named
  have hlocks := B.notSynchronized
  have hl := lv_entry ([.ref (gad G (19 + 4 * i))]) (n := 1) (Nat.le_of_ble_eq_true rfl)
  rw [lg_entry_eq]
  generalize (lg_sl ([.ref (gad G (19 + 4 * i))]) ++ List.replicate (1 - (lg_sl ([.ref (gad G (19 + 4 * i))])).length) Slot.unset).toArray = ls at hl ⊢
  have hl : lv_has ls 1 [(0, .ref (gad G (19 + 4 * i)))] := hl
  refine lv_aload_n hx hb dX0_latestSpeed_0 rfl (lv_at hl 0 rfl) ?_
  refine f_get (C := RX0) (T := TX0) (N := 5) hx hb hts (by decide +kernel) hown hK hP (19 + 4 * i) (by omega) e0 rfl 2 (by decide) (hts (.fieldLink RX0 18 "KeptMoving$Course" "speeds" "[I") (by decide +kernel)) (fun _ h9 => h9) rfl dX0_latestSpeed_1 ?_
  refine lv_aload_n hx hb dX0_latestSpeed_4 rfl (lv_at hl 0 rfl) ?_
  refine f_get (C := RX0) (T := TX0) (N := 5) hx hb hts (by decide +kernel) hown hK hP (19 + 4 * i) (by omega) e0 rfl 3 (by decide) (hts (.fieldLink RX0 21 "KeptMoving$Course" "pieces" "I") (by decide +kernel)) (fun _ h9 => h9) rfl dX0_latestSpeed_5 ?_
  refine n_iconst hx hb dX0_latestSpeed_8 ?_
  refine n_isub hx hb dX0_latestSpeed_9 ?_
  refine n_iald hx hb hK hP (19 + 4 * i + 3) (by omega) e3 (np - 1) (by omega) (by omega) (by decide) dX0_latestSpeed_10 ?_
  exact r_si hx hb hr dX0_latestSpeed_11 hlocks (show iN (sp (np - 1)) = iN (sp (np - 1)) from congrArg iN (by first | rfl | omega))

set_option maxHeartbeats 4000000 in
set_option maxRecDepth 100000 in
theorem c_X0_canTurn (l : Launch) (G : GE) (w : WF) (i : Nat) (st : Nat → Int) (pl : Nat → Int) (sp : Nat → Int) (np : Nat) (stop : Int) (t : Int) (e0 : w (19 + 4 * i) = .inr (0, [.ref (gad G (19 + 4 * i + 1)), .ref (gad G (19 + 4 * i + 2)), .ref (gad G (19 + 4 * i + 3)), .int (iN ((np : Nat) : Int)), .int (iN stop)])) (e1 : w (19 + 4 * i + 1) = .inl (gI G, 8, .inl (aN st))) (e2 : w (19 + 4 * i + 2) = .inl (gI G, 8, .inl (aN pl))) (e3 : w (19 + 4 * i + 3) = .inl (gI G, 8, .inl (aN sp))) (p0 : i < 10) (p1 : 1 ≤ np ∧ np ≤ 8) (p2 : ∀ p : Nat, p < np → 0 ≤ st p ∧ st p ≤ 400) (p3 : 0 ≤ t ∧ t ≤ 400) : Met l yX0_canTurn wsX0_canTurn ({ frames := 0, cells := 0, slots := 0, locals := 0 }) (PcG G w [.ref (gad G (19 + 4 * i)), .int (iN t)]) (vp_Si (fun r => r = iN (if (np < 8 ∨ st 7 = t) then 1 else 0))) 0 0 (fun _ => False) := by
  refine Met.ofW (cc := cX0_canTurn) (maxL := 2) (ret := (some .boolean)) (by decide) rfl ?_
  intro p e s m args below meth c s₁ B hml hv
  obtain ⟨rfl, hP, hK⟩ := hv
  have hx := B.exec
  have hb := B.bytes
  have hr := B.returns
  have hts := atoms_spec (ws := wsX0_canTurn) B.pre
  have hown : s.vm.findClass RX0 = some m.cls := findClass_of_methodNamed B.named
  have hlocks := B.notSynchronized
  have hl := lv_entry ([.ref (gad G (19 + 4 * i)), .int (iN t)]) (n := 2) (Nat.le_of_ble_eq_true rfl)
  rw [lg_entry_eq]
  generalize (lg_sl ([.ref (gad G (19 + 4 * i)), .int (iN t)]) ++ List.replicate (2 - (lg_sl ([.ref (gad G (19 + 4 * i)), .int (iN t)])).length) Slot.unset).toArray = ls at hl ⊢
  have hl : lv_has ls 2 [(0, .ref (gad G (19 + 4 * i))), (1, .int (iN t))] := hl
  refine lv_aload_n hx hb dX0_canTurn_0 rfl (lv_at hl 0 rfl) ?_
  refine f_get (C := RX0) (T := TX0) (N := 5) hx hb hts (by decide +kernel) hown hK hP (19 + 4 * i) (by omega) e0 rfl 3 (by decide) (hts (.fieldLink RX0 21 "KeptMoving$Course" "pieces" "I") (by decide +kernel)) (fun _ h9 => h9) rfl dX0_canTurn_1 ?_
  refine n_bipush hx hb dX0_canTurn_4 (by decide) ?_
  refine n_icmp_lt (tgt := 20) hx hb dX0_canTurn_6 (by decide) (by omega) (by omega) (by omega) (by omega) (fun c_6 => ?_) (fun c_6 => ?_)
  · refine n_iconst hx hb dX0_canTurn_20 ?_
    refine lv_goto (tgt := 25) hx hb dX0_canTurn_21 (by decide) ?_
    exact r_z1 hx hb hr dX0_canTurn_25 hlocks (show iN 1 = iN (if (np < 8 ∨ st 7 = t) then 1 else 0) by rw [if_pos (by omega)])
  · have hs7 := p2 7 (by omega)
    refine lv_aload_n hx hb dX0_canTurn_9 rfl (lv_at hl 0 rfl) ?_
    refine f_get (C := RX0) (T := TX0) (N := 5) hx hb hts (by decide +kernel) hown hK hP (19 + 4 * i) (by omega) e0 rfl 0 (by decide) (hts (.fieldLink RX0 9 "KeptMoving$Course" "starts" "[I") (by decide +kernel)) (fun _ h9 => h9) rfl dX0_canTurn_10 ?_
    refine n_bipush hx hb dX0_canTurn_13 (by decide) ?_
    refine n_iald hx hb hK hP (19 + 4 * i + 1) (by omega) e1 7 rfl (by omega) (by decide) dX0_canTurn_15 ?_
    refine lv_iload_n hx hb dX0_canTurn_16 rfl (lv_at hl 1 rfl) ?_
    refine n_icmp_ne (tgt := 24) hx hb dX0_canTurn_17 (by decide) (by omega) (by omega) (by omega) (by omega) (fun c_17 => ?_) (fun c_17 => ?_)
    · refine n_iconst hx hb dX0_canTurn_24 ?_
      exact r_z0 hx hb hr dX0_canTurn_25 hlocks (show iN 0 = iN (if (np < 8 ∨ st 7 = t) then 1 else 0) by rw [if_neg (by omega)])
    · refine n_iconst hx hb dX0_canTurn_20 ?_
      refine lv_goto (tgt := 25) hx hb dX0_canTurn_21 (by decide) ?_
      exact r_z1 hx hb hr dX0_canTurn_25 hlocks (show iN 1 = iN (if (np < 8 ∨ st 7 = t) then 1 else 0) by rw [if_pos (by omega)])

set_option maxHeartbeats 4000000 in
set_option maxRecDepth 100000 in
theorem c_X0_pieceAt (l : Launch) (G : GE) (w : WF) (i : Nat) (st : Nat → Int) (pl : Nat → Int) (sp : Nat → Int) (np : Nat) (stop : Int) (n : Int) (d : Int) (e0 : w (19 + 4 * i) = .inr (0, [.ref (gad G (19 + 4 * i + 1)), .ref (gad G (19 + 4 * i + 2)), .ref (gad G (19 + 4 * i + 3)), .int (iN ((np : Nat) : Int)), .int (iN stop)])) (e1 : w (19 + 4 * i + 1) = .inl (gI G, 8, .inl (aN st))) (e2 : w (19 + 4 * i + 2) = .inl (gI G, 8, .inl (aN pl))) (e3 : w (19 + 4 * i + 3) = .inl (gI G, 8, .inl (aN sp))) (p0 : i < 10) (p1 : 1 ≤ np ∧ np ≤ 8) (p2 : ∀ p : Nat, p < np → 0 ≤ st p ∧ st p ≤ 400) (p3 : 0 ≤ n ∧ n ≤ 120000) (p4 : 1 ≤ d ∧ d ≤ 200) : Met l yX0_pieceAt wsX0_pieceAt ({ frames := 0, cells := 0, slots := 0, locals := 0 }) (PcG G w [.ref (gad G (19 + 4 * i)), .int (iN n), .int (iN d)]) (vp_Si (fun r => r = iN ((pcAt st n d np : Nat) : Int))) 0 0 (fun _ => False) := by
  refine Met.ofW (cc := cX0_pieceAt) (maxL := 5) (ret := (some .int)) (by decide) rfl ?_
  intro p e s m args below meth c s₁ B hml hv
  obtain ⟨rfl, hP, hK⟩ := hv
  have hx := B.exec
  have hb := B.bytes
  have hr := B.returns
  have hts := atoms_spec (ws := wsX0_pieceAt) B.pre
  have hown : s.vm.findClass RX0 = some m.cls := findClass_of_methodNamed B.named
  have hlocks := B.notSynchronized
  have hl := lv_entry ([.ref (gad G (19 + 4 * i)), .int (iN n), .int (iN d)]) (n := 5) (Nat.le_of_ble_eq_true rfl)
  rw [lg_entry_eq]
  generalize (lg_sl ([.ref (gad G (19 + 4 * i)), .int (iN n), .int (iN d)]) ++ List.replicate (5 - (lg_sl ([.ref (gad G (19 + 4 * i)), .int (iN n), .int (iN d)])).length) Slot.unset).toArray = ls at hl ⊢
  have hl : lv_has ls 5 [(0, .ref (gad G (19 + 4 * i))), (1, .int (iN n)), (2, .int (iN d))] := hl
  refine n_iconst hx hb dX0_pieceAt_0 ?_
  refine lv_istore_n (lv' := [(3, .int (iN 0)), (0, .ref (gad G (19 + 4 * i))), (1, .int (iN n)), (2, .int (iN d))]) hx hb dX0_pieceAt_1 rfl hl (by decide) rfl (fun ls hl => ?_)
  refine n_iconst hx hb dX0_pieceAt_2 ?_
  refine lv_istore (lv' := [(4, .int (iN 1)), (3, .int (iN 0)), (0, .ref (gad G (19 + 4 * i))), (1, .int (iN n)), (2, .int (iN d))]) hx hb dX0_pieceAt_3 hl (by decide) rfl (fun ls hl => ?_)
  have K5 : ∀ (N : Nat) (q : Nat) (ls : Array Slot), 1 ≤ q ∧ q ≤ np → 9 - q < N → lv_has ls 5 [(0, .ref (gad G (19 + 4 * i))), (1, .int (iN n)), (2, .int (iN d)), (3, .int (iN ((pcAt st n d q : Nat) : Int))), (4, .int (iN ((q : Nat) : Int)))] → W p l e (headSpec wsX0_pieceAt ({ frames := 0, cells := 0, slots := 0, locals := 0 })).room s m (([.ref (gad G (19 + 4 * i)), .int (iN n), .int (iN d)] : List Value).toArray) below meth c s.heap [] 0 0 (MQ below (vp_Si (fun r => r = iN ((pcAt st n d np : Nat) : Int))) (([.ref (gad G (19 + 4 * i)), .int (iN n), .int (iN d)] : List Value).toArray) s 0 0 (fun _ => False)) (F0 m 5 ls []) := by
    intro N
    induction N with
    | zero =>
      intros
      exfalso
      omega
    | succ N ih5 =>
      intro q ls i5_0 hN5 hl
      refine lv_iload hx hb dX0_pieceAt_5 (lv_at hl 4 rfl) ?_
      refine lv_aload_n hx hb dX0_pieceAt_7 rfl (lv_at hl 0 rfl) ?_
      refine f_get (C := RX0) (T := TX0) (N := 5) hx hb hts (by decide +kernel) hown hK hP (19 + 4 * i) (by omega) e0 rfl 3 (by decide) (hts (.fieldLink RX0 21 "KeptMoving$Course" "pieces" "I") (by decide +kernel)) (fun _ h9 => h9) rfl dX0_pieceAt_8 ?_
      refine n_icmp_ge (tgt := 36) hx hb dX0_pieceAt_11 (by decide) (by omega) (by omega) (by omega) (by omega) (fun c_11 => ?_) (fun c_11 => ?_)
      · refine lv_iload_n hx hb dX0_pieceAt_36 rfl (lv_at hl 3 rfl) ?_
        exact r_si hx hb hr dX0_pieceAt_37 hlocks (show iN ((pcAt st n d q : Nat) : Int) = iN ((pcAt st n d np : Nat) : Int) by rw [show q = np by omega])
      · have hm := mb1 (p2 q (by omega)) p4
        refine lv_aload_n hx hb dX0_pieceAt_14 rfl (lv_at hl 0 rfl) ?_
        refine f_get (C := RX0) (T := TX0) (N := 5) hx hb hts (by decide +kernel) hown hK hP (19 + 4 * i) (by omega) e0 rfl 0 (by decide) (hts (.fieldLink RX0 9 "KeptMoving$Course" "starts" "[I") (by decide +kernel)) (fun _ h9 => h9) rfl dX0_pieceAt_15 ?_
        refine lv_iload hx hb dX0_pieceAt_18 (lv_at hl 4 rfl) ?_
        refine n_iald hx hb hK hP (19 + 4 * i + 1) (by omega) e1 q rfl (by omega) (by decide) dX0_pieceAt_20 ?_
        refine lv_iload_n hx hb dX0_pieceAt_21 rfl (lv_at hl 2 rfl) ?_
        refine n_imul hx hb dX0_pieceAt_22 ?_
        refine lv_iload_n hx hb dX0_pieceAt_23 rfl (lv_at hl 1 rfl) ?_
        refine n_icmp_gt (tgt := 30) hx hb dX0_pieceAt_24 (by decide) (by omega) (by omega) (by omega) (by omega) (fun c_24 => ?_) (fun c_24 => ?_)
        · have hz_1 : pcAt st n d q = pcAt st n d (q + 1) := by show _ = if 0 < q ∧ st q * d ≤ n then q else pcAt st n d q; rw [if_neg (by omega)]
          have hl : lv_has ls 5 [(0, .ref (gad G (19 + 4 * i))), (1, .int (iN n)), (2, .int (iN d)), (3, .int (iN ((pcAt st n d (q + 1) : Nat) : Int))), (4, .int (iN ((q : Nat) : Int)))] := by rw [← hz_1]; exact hl
          refine lv_iinc (v := iN ((q + 1 : Nat) : Int)) (lv' := [(4, .int (iN ((q + 1 : Nat) : Int))), (0, .ref (gad G (19 + 4 * i))), (1, .int (iN n)), (2, .int (iN d)), (3, .int (iN ((pcAt st n d (q + 1) : Nat) : Int)))]) hx hb dX0_pieceAt_30 hl (k := 4) rfl (iN_incN _) (by decide) rfl (fun ls hl => ?_)
          refine lv_goto (tgt := 5) hx hb dX0_pieceAt_33 (by decide) ?_
          exact ih5 (q + 1) _ (by omega) (by omega) (lv_sub hl [1, 2, 3, 4, 0] rfl)
        · refine lv_iload hx hb dX0_pieceAt_27 (lv_at hl 4 rfl) ?_
          refine lv_istore_n (lv' := [(3, .int (iN ((q : Nat) : Int))), (0, .ref (gad G (19 + 4 * i))), (1, .int (iN n)), (2, .int (iN d)), (4, .int (iN ((q : Nat) : Int)))]) hx hb dX0_pieceAt_29 rfl hl (by decide) rfl (fun ls hl => ?_)
          have hz_2 : q = pcAt st n d (q + 1) := by show _ = if 0 < q ∧ st q * d ≤ n then q else pcAt st n d q; rw [if_pos ⟨by omega, by omega⟩]
          have hl : lv_has ls 5 [(3, .int (iN ((pcAt st n d (q + 1) : Nat) : Int))), (0, .ref (gad G (19 + 4 * i))), (1, .int (iN n)), (2, .int (iN d)), (4, .int (iN ((q : Nat) : Int)))] := by rw [← hz_2]; exact hl
          refine lv_iinc (v := iN ((q + 1 : Nat) : Int)) (lv' := [(4, .int (iN ((q + 1 : Nat) : Int))), (3, .int (iN ((pcAt st n d (q + 1) : Nat) : Int))), (0, .ref (gad G (19 + 4 * i))), (1, .int (iN n)), (2, .int (iN d))]) hx hb dX0_pieceAt_30 hl (k := 4) rfl (iN_incN _) (by decide) rfl (fun ls hl => ?_)
          refine lv_goto (tgt := 5) hx hb dX0_pieceAt_33 (by decide) ?_
          exact ih5 (q + 1) _ (by omega) (by omega) (lv_sub hl [2, 3, 4, 1, 0] rfl)
  exact K5 ((9 - 1) + 1) (1) _ (by omega) (by omega) (lv_sub hl [2, 3, 4, 1, 0] rfl)

set_option maxHeartbeats 4000000 in
set_option maxRecDepth 100000 in
theorem c_X0_upperAt (l : Launch) (G : GE) (w : WF) (i : Nat) (st : Nat → Int) (pl : Nat → Int) (sp : Nat → Int) (np : Nat) (stop : Int) (n : Int) (d : Int) (e0 : w (19 + 4 * i) = .inr (0, [.ref (gad G (19 + 4 * i + 1)), .ref (gad G (19 + 4 * i + 2)), .ref (gad G (19 + 4 * i + 3)), .int (iN ((np : Nat) : Int)), .int (iN stop)])) (e1 : w (19 + 4 * i + 1) = .inl (gI G, 8, .inl (aN st))) (e2 : w (19 + 4 * i + 2) = .inl (gI G, 8, .inl (aN pl))) (e3 : w (19 + 4 * i + 3) = .inl (gI G, 8, .inl (aN sp))) (p0 : i < 10) (p1 : 1 ≤ np ∧ np ≤ 8) (p2 : ∀ p : Nat, p < np → 0 ≤ st p ∧ st p ≤ 400) (p3 : 0 ≤ n ∧ n ≤ 120000) (p4 : 1 ≤ d ∧ d ≤ 200) : Met l yX0_upperAt wsX0_upperAt ({ frames := 1, cells := 0, slots := 0, locals := 24 }) (PcG G w [.ref (gad G (19 + 4 * i)), .int (iN n), .int (iN d)]) (vp_Si (fun r => r = iN (upAt st pl sp np n d))) 0 0 (fun _ => False) := by
  refine Met.ofW (cc := cX0_upperAt) (maxL := 4) (ret := (some .int)) (by decide) rfl ?_
  intro p e s m args below meth c s₁ B hml hv
  obtain ⟨rfl, hP, hK⟩ := hv
  have hx := B.exec
  have hb := B.bytes
  have hr := B.returns
  have hts := atoms_spec (ws := wsX0_upperAt) B.pre
  have hown : s.vm.findClass RX0 = some m.cls := findClass_of_methodNamed B.named
  have hlocks := B.notSynchronized
  have hl := lv_entry ([.ref (gad G (19 + 4 * i)), .int (iN n), .int (iN d)]) (n := 4) (Nat.le_of_ble_eq_true rfl)
  rw [lg_entry_eq]
  generalize (lg_sl ([.ref (gad G (19 + 4 * i)), .int (iN n), .int (iN d)]) ++ List.replicate (4 - (lg_sl ([.ref (gad G (19 + 4 * i)), .int (iN n), .int (iN d)])).length) Slot.unset).toArray = ls at hl ⊢
  have hl : lv_has ls 4 [(0, .ref (gad G (19 + 4 * i))), (1, .int (iN n)), (2, .int (iN d))] := hl
  refine lv_aload_n hx hb dX0_upperAt_0 rfl (lv_at hl 0 rfl) ?_
  refine lv_iload_n hx hb dX0_upperAt_1 rfl (lv_at hl 1 rfl) ?_
  refine lv_iload_n hx hb dX0_upperAt_2 rfl (lv_at hl 2 rfl) ?_
  refine vp_callSi (W.runV (As := [.int (iN n), .int (iN d)]) (rest := []) ⟨hx, hb, hml, hown, hts⟩ (c_X0_pieceAt l G w i st pl sp np stop n d e0 e1 e2 e3 (p0) (p1) (p2) (p3) (p4)) (cwV 2 hts gX0_upperAt_X0_pieceAt rfl rfl rfl (by decide +kernel) ⟨Nat.le_of_ble_eq_true rfl, Nat.le_of_ble_eq_true rfl⟩) (f_preV hP hK (19 + 4 * i) (by omega) 0 e0 rfl) rfl rfl hl.1 rfl (lv_room (Nat.le_of_ble_eq_true rfl)) dX0_upperAt_3 ⟨Nat.zero_le _, Nat.zero_le _⟩) (fun r_1 hr_1 => ?_)
  rw [show r_1 = iN ((pcAt st n d np : Nat) : Int) from hr_1]
  have hq := pcAt_lt st n d np (by omega)
  refine lv_istore_n (lv' := [(3, .int (iN ((pcAt st n d np : Nat) : Int))), (0, .ref (gad G (19 + 4 * i))), (1, .int (iN n)), (2, .int (iN d))]) hx hb dX0_upperAt_6 rfl hl (by decide) rfl (fun ls hl => ?_)
  refine lv_aload_n hx hb dX0_upperAt_7 rfl (lv_at hl 1 rfl) ?_
  refine f_get (C := RX0) (T := TX0) (N := 5) hx hb hts (by decide +kernel) hown hK hP (19 + 4 * i) (by omega) e0 rfl 1 (by decide) (hts (.fieldLink RX0 15 "KeptMoving$Course" "places" "[I") (by decide +kernel)) (fun _ h9 => h9) rfl dX0_upperAt_8 ?_
  refine lv_iload_n hx hb dX0_upperAt_11 rfl (lv_at hl 0 rfl) ?_
  refine n_iald hx hb hK hP (19 + 4 * i + 2) (by omega) e2 (pcAt st n d np) rfl (by omega) (by decide) dX0_upperAt_12 ?_
  refine lv_iload_n hx hb dX0_upperAt_13 rfl (lv_at hl 3 rfl) ?_
  refine n_imul hx hb dX0_upperAt_14 ?_
  refine lv_aload_n hx hb dX0_upperAt_15 rfl (lv_at hl 1 rfl) ?_
  refine f_get (C := RX0) (T := TX0) (N := 5) hx hb hts (by decide +kernel) hown hK hP (19 + 4 * i) (by omega) e0 rfl 2 (by decide) (hts (.fieldLink RX0 18 "KeptMoving$Course" "speeds" "[I") (by decide +kernel)) (fun _ h9 => h9) rfl dX0_upperAt_16 ?_
  refine lv_iload_n hx hb dX0_upperAt_19 rfl (lv_at hl 0 rfl) ?_
  refine n_iald hx hb hK hP (19 + 4 * i + 3) (by omega) e3 (pcAt st n d np) rfl (by omega) (by decide) dX0_upperAt_20 ?_
  refine lv_iload_n hx hb dX0_upperAt_21 rfl (lv_at hl 2 rfl) ?_
  refine lv_aload_n hx hb dX0_upperAt_22 rfl (lv_at hl 1 rfl) ?_
  refine f_get (C := RX0) (T := TX0) (N := 5) hx hb hts (by decide +kernel) hown hK hP (19 + 4 * i) (by omega) e0 rfl 0 (by decide) (hts (.fieldLink RX0 9 "KeptMoving$Course" "starts" "[I") (by decide +kernel)) (fun _ h9 => h9) rfl dX0_upperAt_23 ?_
  refine lv_iload_n hx hb dX0_upperAt_26 rfl (lv_at hl 0 rfl) ?_
  refine n_iald hx hb hK hP (19 + 4 * i + 1) (by omega) e1 (pcAt st n d np) rfl (by omega) (by decide) dX0_upperAt_27 ?_
  refine lv_iload_n hx hb dX0_upperAt_28 rfl (lv_at hl 3 rfl) ?_
  refine n_imul hx hb dX0_upperAt_29 ?_
  refine n_isub hx hb dX0_upperAt_30 ?_
  refine n_imul hx hb dX0_upperAt_31 ?_
  refine n_iadd hx hb dX0_upperAt_32 ?_
  exact r_si hx hb hr dX0_upperAt_33 hlocks (show iN (((pl (pcAt st n d np)) * d) + ((sp (pcAt st n d np)) * (n - ((st (pcAt st n d np)) * d)))) = iN (upAt st pl sp np n d) from congrArg iN (by first | rfl | omega))

set_option maxHeartbeats 4000000 in
set_option maxRecDepth 100000 in
theorem c_X0_placeAt (l : Launch) (G : GE) (w : WF) (i : Nat) (st : Nat → Int) (pl : Nat → Int) (sp : Nat → Int) (np : Nat) (stop : Int) (n : Int) (e0 : w (19 + 4 * i) = .inr (0, [.ref (gad G (19 + 4 * i + 1)), .ref (gad G (19 + 4 * i + 2)), .ref (gad G (19 + 4 * i + 3)), .int (iN ((np : Nat) : Int)), .int (iN stop)])) (e1 : w (19 + 4 * i + 1) = .inl (gI G, 8, .inl (aN st))) (e2 : w (19 + 4 * i + 2) = .inl (gI G, 8, .inl (aN pl))) (e3 : w (19 + 4 * i + 3) = .inl (gI G, 8, .inl (aN sp))) (p0 : i < 10) (p1 : 1 ≤ np ∧ np ≤ 8) (p2 : ∀ p : Nat, p < np → 0 ≤ st p ∧ st p ≤ 400) (p3 : 0 ≤ n ∧ n ≤ 120000) : Met l yX0_placeAt wsX0_placeAt ({ frames := 2, cells := 0, slots := 0, locals := 47 }) (PcG G w [.ref (gad G (19 + 4 * i)), .int (iN n)]) (vp_Si (fun r => r = iN (upAt st pl sp np n 1))) 0 0 (fun _ => False) := by
  refine Met.ofW (cc := cX0_placeAt) (maxL := 2) (ret := (some .int)) (by decide) rfl ?_
  intro p e s m args below meth c s₁ B hml hv
  obtain ⟨rfl, hP, hK⟩ := hv
  have hx := B.exec
  have hb := B.bytes
  have hr := B.returns
  have hts := atoms_spec (ws := wsX0_placeAt) B.pre
  have hown : s.vm.findClass RX0 = some m.cls := findClass_of_methodNamed B.named
  have hlocks := B.notSynchronized
  have hl := lv_entry ([.ref (gad G (19 + 4 * i)), .int (iN n)]) (n := 2) (Nat.le_of_ble_eq_true rfl)
  rw [lg_entry_eq]
  generalize (lg_sl ([.ref (gad G (19 + 4 * i)), .int (iN n)]) ++ List.replicate (2 - (lg_sl ([.ref (gad G (19 + 4 * i)), .int (iN n)])).length) Slot.unset).toArray = ls at hl ⊢
  have hl : lv_has ls 2 [(0, .ref (gad G (19 + 4 * i))), (1, .int (iN n))] := hl
  refine lv_aload_n hx hb dX0_placeAt_0 rfl (lv_at hl 0 rfl) ?_
  refine lv_iload_n hx hb dX0_placeAt_1 rfl (lv_at hl 1 rfl) ?_
  refine n_iconst hx hb dX0_placeAt_2 ?_
  refine vp_callSi (W.runV (As := [.int (iN n), .int (iN 1)]) (rest := []) ⟨hx, hb, hml, hown, hts⟩ (c_X0_upperAt l G w i st pl sp np stop n 1 e0 e1 e2 e3 (p0) (p1) (p2) (p3) (by omega)) (cwV 2 hts gX0_placeAt_X0_upperAt rfl rfl rfl (by decide +kernel) ⟨Nat.le_of_ble_eq_true rfl, Nat.le_of_ble_eq_true rfl⟩) (f_preV hP hK (19 + 4 * i) (by omega) 0 e0 rfl) rfl rfl hl.1 rfl (lv_room (Nat.le_of_ble_eq_true rfl)) dX0_placeAt_3 ⟨Nat.zero_le _, Nat.zero_le _⟩) (fun r_1 hr_1 => ?_)
  rw [show r_1 = iN (upAt st pl sp np n 1) from hr_1]
  exact r_si hx hb hr dX0_placeAt_6 hlocks (show iN (upAt st pl sp np n 1) = iN (upAt st pl sp np n 1) from congrArg iN (by first | rfl | omega))

set_option maxHeartbeats 4000000 in
set_option maxRecDepth 100000 in
theorem c_X0_speedAt (l : Launch) (G : GE) (w : WF) (i : Nat) (st : Nat → Int) (pl : Nat → Int) (sp : Nat → Int) (np : Nat) (stop : Int) (n : Int) (e0 : w (19 + 4 * i) = .inr (0, [.ref (gad G (19 + 4 * i + 1)), .ref (gad G (19 + 4 * i + 2)), .ref (gad G (19 + 4 * i + 3)), .int (iN ((np : Nat) : Int)), .int (iN stop)])) (e1 : w (19 + 4 * i + 1) = .inl (gI G, 8, .inl (aN st))) (e2 : w (19 + 4 * i + 2) = .inl (gI G, 8, .inl (aN pl))) (e3 : w (19 + 4 * i + 3) = .inl (gI G, 8, .inl (aN sp))) (p0 : i < 10) (p1 : 1 ≤ np ∧ np ≤ 8) (p2 : ∀ p : Nat, p < np → 0 ≤ st p ∧ st p ≤ 400) (p3 : 0 ≤ n ∧ n ≤ 120000) : Met l yX0_speedAt wsX0_speedAt ({ frames := 1, cells := 0, slots := 0, locals := 24 }) (PcG G w [.ref (gad G (19 + 4 * i)), .int (iN n)]) (vp_Si (fun r => r = iN (spAt st sp np n))) 0 0 (fun _ => False) := by
  refine Met.ofW (cc := cX0_speedAt) (maxL := 2) (ret := (some .int)) (by decide) rfl ?_
  intro p e s m args below meth c s₁ B hml hv
  obtain ⟨rfl, hP, hK⟩ := hv
  have hx := B.exec
  have hb := B.bytes
  have hr := B.returns
  have hts := atoms_spec (ws := wsX0_speedAt) B.pre
  have hown : s.vm.findClass RX0 = some m.cls := findClass_of_methodNamed B.named
  have hlocks := B.notSynchronized
  have hl := lv_entry ([.ref (gad G (19 + 4 * i)), .int (iN n)]) (n := 2) (Nat.le_of_ble_eq_true rfl)
  rw [lg_entry_eq]
  generalize (lg_sl ([.ref (gad G (19 + 4 * i)), .int (iN n)]) ++ List.replicate (2 - (lg_sl ([.ref (gad G (19 + 4 * i)), .int (iN n)])).length) Slot.unset).toArray = ls at hl ⊢
  have hl : lv_has ls 2 [(0, .ref (gad G (19 + 4 * i))), (1, .int (iN n))] := hl
  have hq := pcAt_lt st n 1 np (by omega)
  refine lv_aload_n hx hb dX0_speedAt_0 rfl (lv_at hl 0 rfl) ?_
  refine f_get (C := RX0) (T := TX0) (N := 5) hx hb hts (by decide +kernel) hown hK hP (19 + 4 * i) (by omega) e0 rfl 2 (by decide) (hts (.fieldLink RX0 18 "KeptMoving$Course" "speeds" "[I") (by decide +kernel)) (fun _ h9 => h9) rfl dX0_speedAt_1 ?_
  refine lv_aload_n hx hb dX0_speedAt_4 rfl (lv_at hl 0 rfl) ?_
  refine lv_iload_n hx hb dX0_speedAt_5 rfl (lv_at hl 1 rfl) ?_
  refine n_iconst hx hb dX0_speedAt_6 ?_
  refine vp_callSi (W.runV (As := [.int (iN n), .int (iN 1)]) (rest := [.ref (gad G (19 + 4 * i + 3))]) ⟨hx, hb, hml, hown, hts⟩ (c_X0_pieceAt l G w i st pl sp np stop n 1 e0 e1 e2 e3 (p0) (p1) (p2) (p3) (by omega)) (cwV 2 hts gX0_speedAt_X0_pieceAt rfl rfl rfl (by decide +kernel) ⟨Nat.le_of_ble_eq_true rfl, Nat.le_of_ble_eq_true rfl⟩) (f_preV hP hK (19 + 4 * i) (by omega) 0 e0 rfl) rfl rfl hl.1 rfl (lv_room (Nat.le_of_ble_eq_true rfl)) dX0_speedAt_7 ⟨Nat.zero_le _, Nat.zero_le _⟩) (fun r_1 hr_1 => ?_)
  rw [show r_1 = iN ((pcAt st n 1 np : Nat) : Int) from hr_1]
  refine n_iald hx hb hK hP (19 + 4 * i + 3) (by omega) e3 (pcAt st n 1 np) rfl (by omega) (by decide) dX0_speedAt_10 ?_
  exact r_si hx hb hr dX0_speedAt_11 hlocks (show iN (sp (pcAt st n 1 np)) = iN (spAt st sp np n) from congrArg iN (by first | rfl | omega))

set_option maxHeartbeats 4000000 in
set_option maxRecDepth 100000 in
theorem c_X0_isThere (l : Launch) (G : GE) (w : WF) (i : Nat) (st : Nat → Int) (pl : Nat → Int) (sp : Nat → Int) (np : Nat) (stop : Int) (n : Int) (d : Int) (e0 : w (19 + 4 * i) = .inr (0, [.ref (gad G (19 + 4 * i + 1)), .ref (gad G (19 + 4 * i + 2)), .ref (gad G (19 + 4 * i + 3)), .int (iN ((np : Nat) : Int)), .int (iN stop)])) (e1 : w (19 + 4 * i + 1) = .inl (gI G, 8, .inl (aN st))) (e2 : w (19 + 4 * i + 2) = .inl (gI G, 8, .inl (aN pl))) (e3 : w (19 + 4 * i + 3) = .inl (gI G, 8, .inl (aN sp))) (p0 : i < 10) (p1 : 0 ≤ st 0 ∧ st 0 ≤ 400) (p2 : -1 ≤ stop ∧ stop ≤ 400) (p3 : 0 ≤ n ∧ n ≤ 120000) (p4 : 1 ≤ d ∧ d ≤ 200) : Met l yX0_isThere wsX0_isThere ({ frames := 0, cells := 0, slots := 0, locals := 0 }) (PcG G w [.ref (gad G (19 + 4 * i)), .int (iN n), .int (iN d)]) (vp_Si (fun r => r = iN (if (st 0 * d ≤ n ∧ (stop = -1 ∨ n < stop * d)) then 1 else 0))) 0 0 (fun _ => False) := by
  refine Met.ofW (cc := cX0_isThere) (maxL := 3) (ret := (some .boolean)) (by decide) rfl ?_
  intro p e s m args below meth c s₁ B hml hv
  obtain ⟨rfl, hP, hK⟩ := hv
  have hx := B.exec
  have hb := B.bytes
  have hr := B.returns
  have hts := atoms_spec (ws := wsX0_isThere) B.pre
  have hown : s.vm.findClass RX0 = some m.cls := findClass_of_methodNamed B.named
  have hlocks := B.notSynchronized
  have hl := lv_entry ([.ref (gad G (19 + 4 * i)), .int (iN n), .int (iN d)]) (n := 3) (Nat.le_of_ble_eq_true rfl)
  rw [lg_entry_eq]
  generalize (lg_sl ([.ref (gad G (19 + 4 * i)), .int (iN n), .int (iN d)]) ++ List.replicate (3 - (lg_sl ([.ref (gad G (19 + 4 * i)), .int (iN n), .int (iN d)])).length) Slot.unset).toArray = ls at hl ⊢
  have hl : lv_has ls 3 [(0, .ref (gad G (19 + 4 * i))), (1, .int (iN n)), (2, .int (iN d))] := hl
  have hm := mb1 p1 p4
  have hm2 : stop ≠ -1 → 0 ≤ stop * d ∧ stop * d ≤ 80000 := fun q => mb1 ⟨by omega, by omega⟩ p4
  refine lv_aload_n hx hb dX0_isThere_0 rfl (lv_at hl 0 rfl) ?_
  refine f_get (C := RX0) (T := TX0) (N := 5) hx hb hts (by decide +kernel) hown hK hP (19 + 4 * i) (by omega) e0 rfl 0 (by decide) (hts (.fieldLink RX0 9 "KeptMoving$Course" "starts" "[I") (by decide +kernel)) (fun _ h9 => h9) rfl dX0_isThere_1 ?_
  refine n_iconst hx hb dX0_isThere_4 ?_
  refine n_iald hx hb hK hP (19 + 4 * i + 1) (by omega) e1 0 rfl (by omega) (by decide) dX0_isThere_5 ?_
  refine lv_iload_n hx hb dX0_isThere_6 rfl (lv_at hl 2 rfl) ?_
  refine n_imul hx hb dX0_isThere_7 ?_
  refine lv_iload_n hx hb dX0_isThere_8 rfl (lv_at hl 1 rfl) ?_
  refine n_icmp_gt (tgt := 34) hx hb dX0_isThere_9 (by decide) (by omega) (by omega) (by omega) (by omega) (fun c_9 => ?_) (fun c_9 => ?_)
  · refine n_iconst hx hb dX0_isThere_34 ?_
    exact r_z0 hx hb hr dX0_isThere_35 hlocks (show iN 0 = iN (if (st 0 * d ≤ n ∧ (stop = -1 ∨ n < stop * d)) then 1 else 0) by rw [if_neg (by omega)])
  · refine lv_aload_n hx hb dX0_isThere_12 rfl (lv_at hl 0 rfl) ?_
    refine f_get (C := RX0) (T := TX0) (N := 5) hx hb hts (by decide +kernel) hown hK hP (19 + 4 * i) (by omega) e0 rfl 4 (by decide) (hts (.fieldLink RX0 25 "KeptMoving$Course" "stopped" "I") (by decide +kernel)) (fun _ h9 => h9) rfl dX0_isThere_13 ?_
    refine n_iconst hx hb dX0_isThere_16 ?_
    refine n_icmp_eq (tgt := 30) hx hb dX0_isThere_17 (by decide) (by omega) (by omega) (by omega) (by omega) (fun c_17 => ?_) (fun c_17 => ?_)
    · refine n_iconst hx hb dX0_isThere_30 ?_
      refine lv_goto (tgt := 35) hx hb dX0_isThere_31 (by decide) ?_
      exact r_z1 hx hb hr dX0_isThere_35 hlocks (show iN 1 = iN (if (st 0 * d ≤ n ∧ (stop = -1 ∨ n < stop * d)) then 1 else 0) by rw [if_pos (by omega)])
    · refine lv_iload_n hx hb dX0_isThere_20 rfl (lv_at hl 1 rfl) ?_
      refine lv_aload_n hx hb dX0_isThere_21 rfl (lv_at hl 0 rfl) ?_
      refine f_get (C := RX0) (T := TX0) (N := 5) hx hb hts (by decide +kernel) hown hK hP (19 + 4 * i) (by omega) e0 rfl 4 (by decide) (hts (.fieldLink RX0 25 "KeptMoving$Course" "stopped" "I") (by decide +kernel)) (fun _ h9 => h9) rfl dX0_isThere_22 ?_
      refine lv_iload_n hx hb dX0_isThere_25 rfl (lv_at hl 2 rfl) ?_
      refine n_imul hx hb dX0_isThere_26 ?_
      refine n_icmp_ge (tgt := 34) hx hb dX0_isThere_27 (by decide) (by omega) (by omega) (by omega) (by omega) (fun c_27 => ?_) (fun c_27 => ?_)
      · refine n_iconst hx hb dX0_isThere_34 ?_
        exact r_z0 hx hb hr dX0_isThere_35 hlocks (show iN 0 = iN (if (st 0 * d ≤ n ∧ (stop = -1 ∨ n < stop * d)) then 1 else 0) by rw [if_neg (by omega)])
      · refine n_iconst hx hb dX0_isThere_30 ?_
        refine lv_goto (tgt := 35) hx hb dX0_isThere_31 (by decide) ?_
        exact r_z1 hx hb hr dX0_isThere_35 hlocks (show iN 1 = iN (if (st 0 * d ≤ n ∧ (stop = -1 ∨ n < stop * d)) then 1 else 0) by rw [if_pos (by omega)])

set_option maxHeartbeats 4000000 in
set_option maxRecDepth 100000 in
theorem c_X0_nextBend (l : Launch) (G : GE) (w : WF) (i : Nat) (st : Nat → Int) (pl : Nat → Int) (sp : Nat → Int) (np : Nat) (stop : Int) (after : Int) (last : Int) (e0 : w (19 + 4 * i) = .inr (0, [.ref (gad G (19 + 4 * i + 1)), .ref (gad G (19 + 4 * i + 2)), .ref (gad G (19 + 4 * i + 3)), .int (iN ((np : Nat) : Int)), .int (iN stop)])) (e1 : w (19 + 4 * i + 1) = .inl (gI G, 8, .inl (aN st))) (e2 : w (19 + 4 * i + 2) = .inl (gI G, 8, .inl (aN pl))) (e3 : w (19 + 4 * i + 3) = .inl (gI G, 8, .inl (aN sp))) (p0 : i < 10) (p1 : 1 ≤ np ∧ np ≤ 8) (p2 : ∀ p : Nat, p < np → 0 ≤ st p ∧ st p ≤ 400) (p3 : -1 ≤ stop ∧ stop ≤ 400) (p4 : 0 ≤ after ∧ after ≤ 1000) (p5 : 0 ≤ last ∧ last ≤ 1000) : Met l yX0_nextBend wsX0_nextBend ({ frames := 1, cells := 0, slots := 0, locals := 21 }) (PcG G w [.ref (gad G (19 + 4 * i)), .int (iN after), .int (iN last)]) (vp_Si (fun r => r = iN (nbC st np stop after last))) 0 0 (fun _ => False) := by
  refine Met.ofW (cc := cX0_nextBend) (maxL := 5) (ret := (some .int)) (by decide) rfl ?_
  intro p e s m args below meth c s₁ B hml hv
  obtain ⟨rfl, hP, hK⟩ := hv
  have hx := B.exec
  have hb := B.bytes
  have hr := B.returns
  have hts := atoms_spec (ws := wsX0_nextBend) B.pre
  have hown : s.vm.findClass RX0 = some m.cls := findClass_of_methodNamed B.named
  have hlocks := B.notSynchronized
  have hl := lv_entry ([.ref (gad G (19 + 4 * i)), .int (iN after), .int (iN last)]) (n := 5) (Nat.le_of_ble_eq_true rfl)
  rw [lg_entry_eq]
  generalize (lg_sl ([.ref (gad G (19 + 4 * i)), .int (iN after), .int (iN last)]) ++ List.replicate (5 - (lg_sl ([.ref (gad G (19 + 4 * i)), .int (iN after), .int (iN last)])).length) Slot.unset).toArray = ls at hl ⊢
  have hl : lv_has ls 5 [(0, .ref (gad G (19 + 4 * i))), (1, .int (iN after)), (2, .int (iN last))] := hl
  refine lv_iload_n hx hb dX0_nextBend_0 rfl (lv_at hl 2 rfl) ?_
  refine lv_istore_n (lv' := [(3, .int (iN last)), (0, .ref (gad G (19 + 4 * i))), (1, .int (iN after)), (2, .int (iN last))]) hx hb dX0_nextBend_1 rfl hl (by decide) rfl (fun ls hl => ?_)
  refine n_iconst hx hb dX0_nextBend_2 ?_
  refine lv_istore (lv' := [(4, .int (iN 0)), (3, .int (iN last)), (0, .ref (gad G (19 + 4 * i))), (1, .int (iN after)), (2, .int (iN last))]) hx hb dX0_nextBend_3 hl (by decide) rfl (fun ls hl => ?_)
  have K5 : ∀ (N : Nat) (q : Nat) (ls : Array Slot), q ≤ np → 9 - q < N → lv_has ls 5 [(0, .ref (gad G (19 + 4 * i))), (1, .int (iN after)), (2, .int (iN last)), (3, .int (iN (nbP st after q last))), (4, .int (iN ((q : Nat) : Int)))] → W p l e (headSpec wsX0_nextBend ({ frames := 1, cells := 0, slots := 0, locals := 21 })).room s m (([.ref (gad G (19 + 4 * i)), .int (iN after), .int (iN last)] : List Value).toArray) below meth c s.heap [] 0 0 (MQ below (vp_Si (fun r => r = iN (nbC st np stop after last))) (([.ref (gad G (19 + 4 * i)), .int (iN after), .int (iN last)] : List Value).toArray) s 0 0 (fun _ => False)) (F0 m 5 ls []) := by
    intro N
    induction N with
    | zero =>
      intros
      exfalso
      omega
    | succ N ih5 =>
      intro q ls i5_0 hN5 hl
      refine lv_iload hx hb dX0_nextBend_5 (lv_at hl 4 rfl) ?_
      refine lv_aload_n hx hb dX0_nextBend_7 rfl (lv_at hl 0 rfl) ?_
      refine f_get (C := RX0) (T := TX0) (N := 5) hx hb hts (by decide +kernel) hown hK hP (19 + 4 * i) (by omega) e0 rfl 3 (by decide) (hts (.fieldLink RX0 21 "KeptMoving$Course" "pieces" "I") (by decide +kernel)) (fun _ h9 => h9) rfl dX0_nextBend_8 ?_
      refine n_icmp_ge (tgt := 43) hx hb dX0_nextBend_11 (by decide) (by omega) (by omega) (by omega) (by omega) (fun c_11 => ?_) (fun c_11 => ?_)
      · have hb1 := nbP_rng st after q last (by omega) (by omega) (fun p z => p2 p (by omega))
        obtain rfl : q = np := by omega
        refine lv_aload_n hx hb dX0_nextBend_43 rfl (lv_at hl 0 rfl) ?_
        refine f_get (C := RX0) (T := TX0) (N := 5) hx hb hts (by decide +kernel) hown hK hP (19 + 4 * i) (by omega) e0 rfl 4 (by decide) (hts (.fieldLink RX0 25 "KeptMoving$Course" "stopped" "I") (by decide +kernel)) (fun _ h9 => h9) rfl dX0_nextBend_44 ?_
        refine lv_iload_n hx hb dX0_nextBend_47 rfl (lv_at hl 1 rfl) ?_
        refine n_icmp_le (tgt := 60) hx hb dX0_nextBend_48 (by decide) (by omega) (by omega) (by omega) (by omega) (fun c_48 => ?_) (fun c_48 => ?_)
        · refine lv_iload_n hx hb dX0_nextBend_60 rfl (lv_at hl 3 rfl) ?_
          exact r_si hx hb hr dX0_nextBend_61 hlocks (show _ = iN (nbC st q stop after last) by unfold nbC; rw [if_neg (by omega)])
        · refine lv_iload_n hx hb dX0_nextBend_51 rfl (lv_at hl 3 rfl) ?_
          refine lv_aload_n hx hb dX0_nextBend_52 rfl (lv_at hl 0 rfl) ?_
          refine f_get (C := RX0) (T := TX0) (N := 5) hx hb hts (by decide +kernel) hown hK hP (19 + 4 * i) (by omega) e0 rfl 4 (by decide) (hts (.fieldLink RX0 25 "KeptMoving$Course" "stopped" "I") (by decide +kernel)) (fun _ h9 => h9) rfl dX0_nextBend_53 ?_
          refine n_mmin hx hb (by rw [hml]; exact hl.1.symm) hown (hts (.methodLink RX0 39 Lib.Math.min.name) (by decide +kernel)) (hts (.static Lib.Math.min.name) (by decide +kernel)) (hts (.initialized "java/lang/Math") (by decide +kernel)) (hts (.code Lib.Math.min.name Lib.Math.min.code 2 (some .int)) (by decide +kernel)) (Nat.le_of_ble_eq_true rfl) (Nat.le_of_ble_eq_true rfl) (Nat.zero_le _) (Nat.zero_le _) (by omega) (by omega) (by omega) (by omega) dX0_nextBend_56 ?_
          refine lv_istore_n (lv' := [(3, .int (iN (min (nbP st after q last) stop))), (0, .ref (gad G (19 + 4 * i))), (1, .int (iN after)), (2, .int (iN last)), (4, .int (iN ((q : Nat) : Int)))]) hx hb dX0_nextBend_59 rfl hl (by decide) rfl (fun ls hl => ?_)
          refine lv_iload_n hx hb dX0_nextBend_60 rfl (lv_at hl 0 rfl) ?_
          exact r_si hx hb hr dX0_nextBend_61 hlocks (show _ = iN (nbC st q stop after last) by unfold nbC; rw [if_pos (by omega)])
      · have hs := p2 q (by omega)
        have hb1 := nbP_rng st after q last (by omega) (by omega) (fun p z => p2 p (by omega))
        refine lv_aload_n hx hb dX0_nextBend_14 rfl (lv_at hl 0 rfl) ?_
        refine f_get (C := RX0) (T := TX0) (N := 5) hx hb hts (by decide +kernel) hown hK hP (19 + 4 * i) (by omega) e0 rfl 0 (by decide) (hts (.fieldLink RX0 9 "KeptMoving$Course" "starts" "[I") (by decide +kernel)) (fun _ h9 => h9) rfl dX0_nextBend_15 ?_
        refine lv_iload hx hb dX0_nextBend_18 (lv_at hl 4 rfl) ?_
        refine n_iald hx hb hK hP (19 + 4 * i + 1) (by omega) e1 q rfl (by omega) (by decide) dX0_nextBend_20 ?_
        refine lv_iload_n hx hb dX0_nextBend_21 rfl (lv_at hl 1 rfl) ?_
        refine n_icmp_le (tgt := 37) hx hb dX0_nextBend_22 (by decide) (by omega) (by omega) (by omega) (by omega) (fun c_22 => ?_) (fun c_22 => ?_)
        · have hz_1 : nbP st after q last = nbP st after (q + 1) last := by show _ = if after < st q then min (nbP st after q last) (st q) else nbP st after q last; rw [if_neg (by omega)]
          have hl : lv_has ls 5 [(0, .ref (gad G (19 + 4 * i))), (1, .int (iN after)), (2, .int (iN last)), (3, .int (iN (nbP st after (q + 1) last))), (4, .int (iN ((q : Nat) : Int)))] := by rw [← hz_1]; exact hl
          refine lv_iinc (v := iN ((q + 1 : Nat) : Int)) (lv' := [(4, .int (iN ((q + 1 : Nat) : Int))), (0, .ref (gad G (19 + 4 * i))), (1, .int (iN after)), (2, .int (iN last)), (3, .int (iN (nbP st after (q + 1) last)))]) hx hb dX0_nextBend_37 hl (k := 4) rfl (iN_incN _) (by decide) rfl (fun ls hl => ?_)
          refine lv_goto (tgt := 5) hx hb dX0_nextBend_40 (by decide) ?_
          exact ih5 (q + 1) _ (by omega) (by omega) (lv_sub hl [1, 2, 3, 4, 0] rfl)
        · refine lv_iload_n hx hb dX0_nextBend_25 rfl (lv_at hl 3 rfl) ?_
          refine lv_aload_n hx hb dX0_nextBend_26 rfl (lv_at hl 0 rfl) ?_
          refine f_get (C := RX0) (T := TX0) (N := 5) hx hb hts (by decide +kernel) hown hK hP (19 + 4 * i) (by omega) e0 rfl 0 (by decide) (hts (.fieldLink RX0 9 "KeptMoving$Course" "starts" "[I") (by decide +kernel)) (fun _ h9 => h9) rfl dX0_nextBend_27 ?_
          refine lv_iload hx hb dX0_nextBend_30 (lv_at hl 4 rfl) ?_
          refine n_iald hx hb hK hP (19 + 4 * i + 1) (by omega) e1 q rfl (by omega) (by decide) dX0_nextBend_32 ?_
          refine n_mmin hx hb (by rw [hml]; exact hl.1.symm) hown (hts (.methodLink RX0 39 Lib.Math.min.name) (by decide +kernel)) (hts (.static Lib.Math.min.name) (by decide +kernel)) (hts (.initialized "java/lang/Math") (by decide +kernel)) (hts (.code Lib.Math.min.name Lib.Math.min.code 2 (some .int)) (by decide +kernel)) (Nat.le_of_ble_eq_true rfl) (Nat.le_of_ble_eq_true rfl) (Nat.zero_le _) (Nat.zero_le _) (by omega) (by omega) (by omega) (by omega) dX0_nextBend_33 ?_
          refine lv_istore_n (lv' := [(3, .int (iN (min (nbP st after q last) (st q)))), (0, .ref (gad G (19 + 4 * i))), (1, .int (iN after)), (2, .int (iN last)), (4, .int (iN ((q : Nat) : Int)))]) hx hb dX0_nextBend_36 rfl hl (by decide) rfl (fun ls hl => ?_)
          have hz_2 : min (nbP st after q last) (st q) = nbP st after (q + 1) last := by show _ = if after < st q then min (nbP st after q last) (st q) else nbP st after q last; rw [if_pos (by omega)]
          have hl : lv_has ls 5 [(3, .int (iN (nbP st after (q + 1) last))), (0, .ref (gad G (19 + 4 * i))), (1, .int (iN after)), (2, .int (iN last)), (4, .int (iN ((q : Nat) : Int)))] := by rw [← hz_2]; exact hl
          refine lv_iinc (v := iN ((q + 1 : Nat) : Int)) (lv' := [(4, .int (iN ((q + 1 : Nat) : Int))), (3, .int (iN (nbP st after (q + 1) last))), (0, .ref (gad G (19 + 4 * i))), (1, .int (iN after)), (2, .int (iN last))]) hx hb dX0_nextBend_37 hl (k := 4) rfl (iN_incN _) (by decide) rfl (fun ls hl => ?_)
          refine lv_goto (tgt := 5) hx hb dX0_nextBend_40 (by decide) ?_
          exact ih5 (q + 1) _ (by omega) (by omega) (lv_sub hl [2, 3, 4, 1, 0] rfl)
  exact K5 ((9 - 0) + 1) (0) _ (by omega) (by omega) (lv_sub hl [2, 3, 4, 1, 0] rfl)
end
