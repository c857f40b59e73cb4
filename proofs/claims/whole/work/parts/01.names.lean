-- ===== PART A: goes FIRST, ahead of the names: the tables' words, and 'selects' of the private methods out of them =====
/-- a private method of a class that the tables say can be made, by its rows of tables_1 -/
def lw_okq (q : MethodName × Nat) : Prop := (q.1.cls ≠ "java/lang/invoke/MethodHandle" ∧ q.1.cls ≠ "java/lang/invoke/VarHandle") ∧ Cond.instantiable q.1.cls q.2 ∈ tables_1 ∧ Cond.privateMethod q.1 ∈ tables_1 ∧ Cond.instanceMethod q.1 ∈ tables_1
theorem lw_p0 : lw_okq (⟨"OneWire$Sheet", "faultOfCells", "(III)I"⟩, 4) := ⟨⟨by decide +kernel, by decide +kernel⟩, List.mem_of_getElem? (i := 162) (by decide +kernel), List.mem_of_getElem? (i := 222) (by decide +kernel), List.mem_of_getElem? (i := 223) (by decide +kernel)⟩
theorem lw_p1 : lw_okq (⟨"OneWire$Sheet", "hasCells", "(II)Z"⟩, 4) := ⟨⟨by decide +kernel, by decide +kernel⟩, List.mem_of_getElem? (i := 162) (by decide +kernel), List.mem_of_getElem? (i := 226) (by decide +kernel), List.mem_of_getElem? (i := 227) (by decide +kernel)⟩
theorem lw_p2 : lw_okq (⟨"OneWire", "failed", "(I)I"⟩, 9) := ⟨⟨by decide +kernel, by decide +kernel⟩, List.mem_of_getElem? (i := 14) (by decide +kernel), List.mem_of_getElem? (i := 230) (by decide +kernel), List.mem_of_getElem? (i := 231) (by decide +kernel)⟩
theorem lw_p3 : lw_okq (⟨"OneWire$Sheet", "load", "(I)I"⟩, 4) := ⟨⟨by decide +kernel, by decide +kernel⟩, List.mem_of_getElem? (i := 162) (by decide +kernel), List.mem_of_getElem? (i := 237) (by decide +kernel), List.mem_of_getElem? (i := 238) (by decide +kernel)⟩
theorem lw_p4 : lw_okq (⟨"OneWire$Line", "takeText", "(LOneWire$Sheet;II)V"⟩, 8) := ⟨⟨by decide +kernel, by decide +kernel⟩, List.mem_of_getElem? (i := 24) (by decide +kernel), List.mem_of_getElem? (i := 247) (by decide +kernel), List.mem_of_getElem? (i := 248) (by decide +kernel)⟩
theorem lw_p5 : lw_okq (⟨"OneWire$Line", "isPerson", "(I)Z"⟩, 8) := ⟨⟨by decide +kernel, by decide +kernel⟩, List.mem_of_getElem? (i := 24) (by decide +kernel), List.mem_of_getElem? (i := 262) (by decide +kernel), List.mem_of_getElem? (i := 263) (by decide +kernel)⟩
theorem lw_p6 : lw_okq (⟨"OneWire$Line", "isEdge", "(I)Z"⟩, 8) := ⟨⟨by decide +kernel, by decide +kernel⟩, List.mem_of_getElem? (i := 24) (by decide +kernel), List.mem_of_getElem? (i := 270) (by decide +kernel), List.mem_of_getElem? (i := 271) (by decide +kernel)⟩
theorem lw_p7 : lw_okq (⟨"OneWire$Line", "changeGoods", "(I)V"⟩, 8) := ⟨⟨by decide +kernel, by decide +kernel⟩, List.mem_of_getElem? (i := 24) (by decide +kernel), List.mem_of_getElem? (i := 278) (by decide +kernel), List.mem_of_getElem? (i := 279) (by decide +kernel)⟩
theorem lw_p8 : lw_okq (⟨"OneWire$Line", "rightEnd", "(I)I"⟩, 8) := ⟨⟨by decide +kernel, by decide +kernel⟩, List.mem_of_getElem? (i := 24) (by decide +kernel), List.mem_of_getElem? (i := 283) (by decide +kernel), List.mem_of_getElem? (i := 284) (by decide +kernel)⟩
theorem lw_p9 : lw_okq (⟨"OneWire$Spread", "tellFrom", "(LOneWire$Line;II)V"⟩, 2) := ⟨⟨by decide +kernel, by decide +kernel⟩, List.mem_of_getElem? (i := 75) (by decide +kernel), List.mem_of_getElem? (i := 298) (by decide +kernel), List.mem_of_getElem? (i := 299) (by decide +kernel)⟩
theorem lw_p10 : lw_okq (⟨"OneWire$Line", "altered", "(II)I"⟩, 8) := ⟨⟨by decide +kernel, by decide +kernel⟩, List.mem_of_getElem? (i := 24) (by decide +kernel), List.mem_of_getElem? (i := 306) (by decide +kernel), List.mem_of_getElem? (i := 307) (by decide +kernel)⟩
theorem lw_p11 : lw_okq (⟨"OneWire$Spread", "passOn", "(LOneWire$Line;III)V"⟩, 2) := ⟨⟨by decide +kernel, by decide +kernel⟩, List.mem_of_getElem? (i := 75) (by decide +kernel), List.mem_of_getElem? (i := 311) (by decide +kernel), List.mem_of_getElem? (i := 312) (by decide +kernel)⟩
theorem lw_p12 : lw_okq (⟨"OneWire$Line", "edgeOnLeft", "(I)I"⟩, 8) := ⟨⟨by decide +kernel, by decide +kernel⟩, List.mem_of_getElem? (i := 24) (by decide +kernel), List.mem_of_getElem? (i := 315) (by decide +kernel), List.mem_of_getElem? (i := 316) (by decide +kernel)⟩
theorem lw_p13 : lw_okq (⟨"OneWire$Line", "isOpen", "(I)Z"⟩, 8) := ⟨⟨by decide +kernel, by decide +kernel⟩, List.mem_of_getElem? (i := 24) (by decide +kernel), List.mem_of_getElem? (i := 319) (by decide +kernel), List.mem_of_getElem? (i := 320) (by decide +kernel)⟩
theorem lw_p14 : lw_okq (⟨"OneWire$Spread", "hear", "(III)V"⟩, 2) := ⟨⟨by decide +kernel, by decide +kernel⟩, List.mem_of_getElem? (i := 75) (by decide +kernel), List.mem_of_getElem? (i := 323) (by decide +kernel), List.mem_of_getElem? (i := 324) (by decide +kernel)⟩
theorem lw_p15 : lw_okq (⟨"OneWire$Line", "isThere", "()Z"⟩, 8) := ⟨⟨by decide +kernel, by decide +kernel⟩, List.mem_of_getElem? (i := 24) (by decide +kernel), List.mem_of_getElem? (i := 336) (by decide +kernel), List.mem_of_getElem? (i := 337) (by decide +kernel)⟩
def lw_privs_1 : List (MethodName × Nat) := [(⟨"OneWire$Sheet", "faultOfCells", "(III)I"⟩, 4), (⟨"OneWire$Sheet", "hasCells", "(II)Z"⟩, 4), (⟨"OneWire", "failed", "(I)I"⟩, 9), (⟨"OneWire$Sheet", "load", "(I)I"⟩, 4), (⟨"OneWire$Line", "takeText", "(LOneWire$Sheet;II)V"⟩, 8), (⟨"OneWire$Line", "isPerson", "(I)Z"⟩, 8), (⟨"OneWire$Line", "isEdge", "(I)Z"⟩, 8), (⟨"OneWire$Line", "changeGoods", "(I)V"⟩, 8), (⟨"OneWire$Line", "rightEnd", "(I)I"⟩, 8), (⟨"OneWire$Spread", "tellFrom", "(LOneWire$Line;II)V"⟩, 2), (⟨"OneWire$Line", "altered", "(II)I"⟩, 8), (⟨"OneWire$Spread", "passOn", "(LOneWire$Line;III)V"⟩, 2), (⟨"OneWire$Line", "edgeOnLeft", "(I)I"⟩, 8), (⟨"OneWire$Line", "isOpen", "(I)Z"⟩, 8), (⟨"OneWire$Spread", "hear", "(III)V"⟩, 2), (⟨"OneWire$Line", "isThere", "()Z"⟩, 8)]
theorem lw_r1 : ∀ q ∈ lw_privs_1, lw_okq q := List.forall_mem_cons.mpr ⟨lw_p0, List.forall_mem_cons.mpr ⟨lw_p1, List.forall_mem_cons.mpr ⟨lw_p2, List.forall_mem_cons.mpr ⟨lw_p3, List.forall_mem_cons.mpr ⟨lw_p4, List.forall_mem_cons.mpr ⟨lw_p5, List.forall_mem_cons.mpr ⟨lw_p6, List.forall_mem_cons.mpr ⟨lw_p7, List.forall_mem_cons.mpr ⟨lw_p8, List.forall_mem_cons.mpr ⟨lw_p9, List.forall_mem_cons.mpr ⟨lw_p10, List.forall_mem_cons.mpr ⟨lw_p11, List.forall_mem_cons.mpr ⟨lw_p12, List.forall_mem_cons.mpr ⟨lw_p13, List.forall_mem_cons.mpr ⟨lw_p14, List.forall_mem_cons.mpr ⟨lw_p15, fun _ h => absurd h List.not_mem_nil⟩⟩⟩⟩⟩⟩⟩⟩⟩⟩⟩⟩⟩⟩⟩⟩
theorem lw_p16 : lw_okq (⟨"OneWire$Trade", "leastSteps", "(LOneWire$Line;Z)I"⟩, 6) := ⟨⟨by decide +kernel, by decide +kernel⟩, List.mem_of_getElem? (i := 91) (by decide +kernel), List.mem_of_getElem? (i := 340) (by decide +kernel), List.mem_of_getElem? (i := 341) (by decide +kernel)⟩
theorem lw_p17 : lw_okq (⟨"OneWire$Trade", "gatherSteps", "(LOneWire$Line;Z)V"⟩, 6) := ⟨⟨by decide +kernel, by decide +kernel⟩, List.mem_of_getElem? (i := 91) (by decide +kernel), List.mem_of_getElem? (i := 347) (by decide +kernel), List.mem_of_getElem? (i := 348) (by decide +kernel)⟩
theorem lw_p18 : lw_okq (⟨"OneWire$Trade", "meet", "(I)V"⟩, 6) := ⟨⟨by decide +kernel, by decide +kernel⟩, List.mem_of_getElem? (i := 91) (by decide +kernel), List.mem_of_getElem? (i := 359) (by decide +kernel), List.mem_of_getElem? (i := 360) (by decide +kernel)⟩
theorem lw_p19 : lw_okq (⟨"OneWire$Trade", "goOnFrom", "(LOneWire$Line;I)V"⟩, 6) := ⟨⟨by decide +kernel, by decide +kernel⟩, List.mem_of_getElem? (i := 91) (by decide +kernel), List.mem_of_getElem? (i := 363) (by decide +kernel), List.mem_of_getElem? (i := 364) (by decide +kernel)⟩
theorem lw_p20 : lw_okq (⟨"OneWire$Trade", "mustGoOver", "(LOneWire$Line;I)I"⟩, 6) := ⟨⟨by decide +kernel, by decide +kernel⟩, List.mem_of_getElem? (i := 91) (by decide +kernel), List.mem_of_getElem? (i := 378) (by decide +kernel), List.mem_of_getElem? (i := 379) (by decide +kernel)⟩
theorem lw_p21 : lw_okq (⟨"OneWire$Ranks", "readPlaces", "(LOneWire$Line;LOneWire$Sheet;I)Z"⟩, 2) := ⟨⟨by decide +kernel, by decide +kernel⟩, List.mem_of_getElem? (i := 117) (by decide +kernel), List.mem_of_getElem? (i := 389) (by decide +kernel), List.mem_of_getElem? (i := 390) (by decide +kernel)⟩
theorem lw_p22 : lw_okq (⟨"OneWire$Ranks", "firstBar", "(LOneWire$Line;)I"⟩, 2) := ⟨⟨by decide +kernel, by decide +kernel⟩, List.mem_of_getElem? (i := 117) (by decide +kernel), List.mem_of_getElem? (i := 396) (by decide +kernel), List.mem_of_getElem? (i := 397) (by decide +kernel)⟩
theorem lw_p23 : lw_okq (⟨"OneWire$Ranks", "changes", "(LOneWire$Line;)I"⟩, 2) := ⟨⟨by decide +kernel, by decide +kernel⟩, List.mem_of_getElem? (i := 117) (by decide +kernel), List.mem_of_getElem? (i := 403) (by decide +kernel), List.mem_of_getElem? (i := 404) (by decide +kernel)⟩
theorem lw_p24 : lw_okq (⟨"OneWire$Ranks", "howManyCome", "(LOneWire$Line;)I"⟩, 2) := ⟨⟨by decide +kernel, by decide +kernel⟩, List.mem_of_getElem? (i := 117) (by decide +kernel), List.mem_of_getElem? (i := 411) (by decide +kernel), List.mem_of_getElem? (i := 412) (by decide +kernel)⟩
theorem lw_p25 : lw_okq (⟨"OneWire$Pairing", "leastReaders", "(LOneWire$Line;)I"⟩, 1) := ⟨⟨by decide +kernel, by decide +kernel⟩, List.mem_of_getElem? (i := 130) (by decide +kernel), List.mem_of_getElem? (i := 422) (by decide +kernel), List.mem_of_getElem? (i := 423) (by decide +kernel)⟩
theorem lw_p26 : lw_okq (⟨"OneWire$Pairing", "readersWith", "(LOneWire$Line;III)I"⟩, 1) := ⟨⟨by decide +kernel, by decide +kernel⟩, List.mem_of_getElem? (i := 130) (by decide +kernel), List.mem_of_getElem? (i := 429) (by decide +kernel), List.mem_of_getElem? (i := 430) (by decide +kernel)⟩
theorem lw_p27 : lw_okq (⟨"OneWire$Pairing", "mateOf", "(LOneWire$Line;I)I"⟩, 1) := ⟨⟨by decide +kernel, by decide +kernel⟩, List.mem_of_getElem? (i := 130) (by decide +kernel), List.mem_of_getElem? (i := 437) (by decide +kernel), List.mem_of_getElem? (i := 438) (by decide +kernel)⟩
theorem lw_p28 : lw_okq (⟨"OneWire", "hearers", "(II)J"⟩, 9) := ⟨⟨by decide +kernel, by decide +kernel⟩, List.mem_of_getElem? (i := 14) (by decide +kernel), List.mem_of_getElem? (i := 449) (by decide +kernel), List.mem_of_getElem? (i := 450) (by decide +kernel)⟩
theorem lw_p29 : lw_okq (⟨"OneWire$Line", "wayRight", "(II)I"⟩, 8) := ⟨⟨by decide +kernel, by decide +kernel⟩, List.mem_of_getElem? (i := 24) (by decide +kernel), List.mem_of_getElem? (i := 453) (by decide +kernel), List.mem_of_getElem? (i := 454) (by decide +kernel)⟩
theorem lw_p30 : lw_okq (⟨"OneWire", "reaching", "(III)J"⟩, 9) := ⟨⟨by decide +kernel, by decide +kernel⟩, List.mem_of_getElem? (i := 14) (by decide +kernel), List.mem_of_getElem? (i := 458) (by decide +kernel), List.mem_of_getElem? (i := 459) (by decide +kernel)⟩
theorem lw_p31 : lw_okq (⟨"OneWire", "allWhole", "(II)J"⟩, 9) := ⟨⟨by decide +kernel, by decide +kernel⟩, List.mem_of_getElem? (i := 14) (by decide +kernel), List.mem_of_getElem? (i := 462) (by decide +kernel), List.mem_of_getElem? (i := 463) (by decide +kernel)⟩
def lw_privs_2 : List (MethodName × Nat) := [(⟨"OneWire$Trade", "leastSteps", "(LOneWire$Line;Z)I"⟩, 6), (⟨"OneWire$Trade", "gatherSteps", "(LOneWire$Line;Z)V"⟩, 6), (⟨"OneWire$Trade", "meet", "(I)V"⟩, 6), (⟨"OneWire$Trade", "goOnFrom", "(LOneWire$Line;I)V"⟩, 6), (⟨"OneWire$Trade", "mustGoOver", "(LOneWire$Line;I)I"⟩, 6), (⟨"OneWire$Ranks", "readPlaces", "(LOneWire$Line;LOneWire$Sheet;I)Z"⟩, 2), (⟨"OneWire$Ranks", "firstBar", "(LOneWire$Line;)I"⟩, 2), (⟨"OneWire$Ranks", "changes", "(LOneWire$Line;)I"⟩, 2), (⟨"OneWire$Ranks", "howManyCome", "(LOneWire$Line;)I"⟩, 2), (⟨"OneWire$Pairing", "leastReaders", "(LOneWire$Line;)I"⟩, 1), (⟨"OneWire$Pairing", "readersWith", "(LOneWire$Line;III)I"⟩, 1), (⟨"OneWire$Pairing", "mateOf", "(LOneWire$Line;I)I"⟩, 1), (⟨"OneWire", "hearers", "(II)J"⟩, 9), (⟨"OneWire$Line", "wayRight", "(II)I"⟩, 8), (⟨"OneWire", "reaching", "(III)J"⟩, 9), (⟨"OneWire", "allWhole", "(II)J"⟩, 9)]
theorem lw_r2 : ∀ q ∈ lw_privs_2, lw_okq q := List.forall_mem_cons.mpr ⟨lw_p16, List.forall_mem_cons.mpr ⟨lw_p17, List.forall_mem_cons.mpr ⟨lw_p18, List.forall_mem_cons.mpr ⟨lw_p19, List.forall_mem_cons.mpr ⟨lw_p20, List.forall_mem_cons.mpr ⟨lw_p21, List.forall_mem_cons.mpr ⟨lw_p22, List.forall_mem_cons.mpr ⟨lw_p23, List.forall_mem_cons.mpr ⟨lw_p24, List.forall_mem_cons.mpr ⟨lw_p25, List.forall_mem_cons.mpr ⟨lw_p26, List.forall_mem_cons.mpr ⟨lw_p27, List.forall_mem_cons.mpr ⟨lw_p28, List.forall_mem_cons.mpr ⟨lw_p29, List.forall_mem_cons.mpr ⟨lw_p30, List.forall_mem_cons.mpr ⟨lw_p31, fun _ h => absurd h List.not_mem_nil⟩⟩⟩⟩⟩⟩⟩⟩⟩⟩⟩⟩⟩⟩⟩⟩
theorem lw_p32 : lw_okq (⟨"OneWire", "whole", "()J"⟩, 9) := ⟨⟨by decide +kernel, by decide +kernel⟩, List.mem_of_getElem? (i := 14) (by decide +kernel), List.mem_of_getElem? (i := 467) (by decide +kernel), List.mem_of_getElem? (i := 468) (by decide +kernel)⟩
theorem lw_p33 : lw_okq (⟨"OneWire$Readings", "takeOne", "(IIII)I"⟩, 5) := ⟨⟨by decide +kernel, by decide +kernel⟩, List.mem_of_getElem? (i := 140) (by decide +kernel), List.mem_of_getElem? (i := 482) (by decide +kernel), List.mem_of_getElem? (i := 483) (by decide +kernel)⟩
theorem lw_p34 : lw_okq (⟨"OneWire$Readings", "areAllSo", "(LOneWire$Line;LOneWire$Spread;)Z"⟩, 5) := ⟨⟨by decide +kernel, by decide +kernel⟩, List.mem_of_getElem? (i := 140) (by decide +kernel), List.mem_of_getElem? (i := 494) (by decide +kernel), List.mem_of_getElem? (i := 495) (by decide +kernel)⟩
theorem lw_p35 : lw_okq (⟨"OneWire$Sheet", "becomeNew", "(II)V"⟩, 4) := ⟨⟨by decide +kernel, by decide +kernel⟩, List.mem_of_getElem? (i := 162) (by decide +kernel), List.mem_of_getElem? (i := 507) (by decide +kernel), List.mem_of_getElem? (i := 508) (by decide +kernel)⟩
theorem lw_p36 : lw_okq (⟨"OneWire$Sheet", "store", "(II)V"⟩, 4) := ⟨⟨by decide +kernel, by decide +kernel⟩, List.mem_of_getElem? (i := 162) (by decide +kernel), List.mem_of_getElem? (i := 521) (by decide +kernel), List.mem_of_getElem? (i := 522) (by decide +kernel)⟩
theorem lw_p37 : lw_okq (⟨"OneWire", "tellTalker", "(I)I"⟩, 9) := ⟨⟨by decide +kernel, by decide +kernel⟩, List.mem_of_getElem? (i := 14) (by decide +kernel), List.mem_of_getElem? (i := 540) (by decide +kernel), List.mem_of_getElem? (i := 541) (by decide +kernel)⟩
theorem lw_p38 : lw_okq (⟨"OneWire", "leaveTrace", "(I)V"⟩, 9) := ⟨⟨by decide +kernel, by decide +kernel⟩, List.mem_of_getElem? (i := 14) (by decide +kernel), List.mem_of_getElem? (i := 544) (by decide +kernel), List.mem_of_getElem? (i := 545) (by decide +kernel)⟩
theorem lw_p39 : lw_okq (⟨"OneWire", "tellGrudger", "(I)I"⟩, 9) := ⟨⟨by decide +kernel, by decide +kernel⟩, List.mem_of_getElem? (i := 14) (by decide +kernel), List.mem_of_getElem? (i := 548) (by decide +kernel), List.mem_of_getElem? (i := 549) (by decide +kernel)⟩
theorem lw_p40 : lw_okq (⟨"OneWire", "tellPerson", "(I)I"⟩, 9) := ⟨⟨by decide +kernel, by decide +kernel⟩, List.mem_of_getElem? (i := 14) (by decide +kernel), List.mem_of_getElem? (i := 552) (by decide +kernel), List.mem_of_getElem? (i := 553) (by decide +kernel)⟩
theorem lw_p41 : lw_okq (⟨"OneWire$Line", "howManyWalled", "()I"⟩, 8) := ⟨⟨by decide +kernel, by decide +kernel⟩, List.mem_of_getElem? (i := 24) (by decide +kernel), List.mem_of_getElem? (i := 576) (by decide +kernel), List.mem_of_getElem? (i := 577) (by decide +kernel)⟩
theorem lw_p42 : lw_okq (⟨"OneWireModel", "against", "(IIII)I"⟩, 32) := ⟨⟨by decide +kernel, by decide +kernel⟩, List.mem_of_getElem? (i := 580) (by decide +kernel), List.mem_of_getElem? (i := 696) (by decide +kernel), List.mem_of_getElem? (i := 697) (by decide +kernel)⟩
theorem lw_p43 : lw_okq (⟨"OneWireModel", "fails", "(I)I"⟩, 32) := ⟨⟨by decide +kernel, by decide +kernel⟩, List.mem_of_getElem? (i := 580) (by decide +kernel), List.mem_of_getElem? (i := 700) (by decide +kernel), List.mem_of_getElem? (i := 701) (by decide +kernel)⟩
theorem lw_p44 : lw_okq (⟨"OneWireModel", "readWire", "(I)Z"⟩, 32) := ⟨⟨by decide +kernel, by decide +kernel⟩, List.mem_of_getElem? (i := 580) (by decide +kernel), List.mem_of_getElem? (i := 704) (by decide +kernel), List.mem_of_getElem? (i := 705) (by decide +kernel)⟩
theorem lw_p45 : lw_okq (⟨"OneWireModel", "digit", "(III)I"⟩, 32) := ⟨⟨by decide +kernel, by decide +kernel⟩, List.mem_of_getElem? (i := 580) (by decide +kernel), List.mem_of_getElem? (i := 708) (by decide +kernel), List.mem_of_getElem? (i := 709) (by decide +kernel)⟩
theorem lw_p46 : lw_okq (⟨"OneWireModel", "readPerson", "(II)Z"⟩, 32) := ⟨⟨by decide +kernel, by decide +kernel⟩, List.mem_of_getElem? (i := 580) (by decide +kernel), List.mem_of_getElem? (i := 712) (by decide +kernel), List.mem_of_getElem? (i := 713) (by decide +kernel)⟩
theorem lw_p47 : lw_okq (⟨"OneWireModel", "isPerson", "(I)Z"⟩, 32) := ⟨⟨by decide +kernel, by decide +kernel⟩, List.mem_of_getElem? (i := 580) (by decide +kernel), List.mem_of_getElem? (i := 720) (by decide +kernel), List.mem_of_getElem? (i := 721) (by decide +kernel)⟩
def lw_privs_3 : List (MethodName × Nat) := [(⟨"OneWire", "whole", "()J"⟩, 9), (⟨"OneWire$Readings", "takeOne", "(IIII)I"⟩, 5), (⟨"OneWire$Readings", "areAllSo", "(LOneWire$Line;LOneWire$Spread;)Z"⟩, 5), (⟨"OneWire$Sheet", "becomeNew", "(II)V"⟩, 4), (⟨"OneWire$Sheet", "store", "(II)V"⟩, 4), (⟨"OneWire", "tellTalker", "(I)I"⟩, 9), (⟨"OneWire", "leaveTrace", "(I)V"⟩, 9), (⟨"OneWire", "tellGrudger", "(I)I"⟩, 9), (⟨"OneWire", "tellPerson", "(I)I"⟩, 9), (⟨"OneWire$Line", "howManyWalled", "()I"⟩, 8), (⟨"OneWireModel", "against", "(IIII)I"⟩, 32), (⟨"OneWireModel", "fails", "(I)I"⟩, 32), (⟨"OneWireModel", "readWire", "(I)Z"⟩, 32), (⟨"OneWireModel", "digit", "(III)I"⟩, 32), (⟨"OneWireModel", "readPerson", "(II)Z"⟩, 32), (⟨"OneWireModel", "isPerson", "(I)Z"⟩, 32)]
theorem lw_r3 : ∀ q ∈ lw_privs_3, lw_okq q := List.forall_mem_cons.mpr ⟨lw_p32, List.forall_mem_cons.mpr ⟨lw_p33, List.forall_mem_cons.mpr ⟨lw_p34, List.forall_mem_cons.mpr ⟨lw_p35, List.forall_mem_cons.mpr ⟨lw_p36, List.forall_mem_cons.mpr ⟨lw_p37, List.forall_mem_cons.mpr ⟨lw_p38, List.forall_mem_cons.mpr ⟨lw_p39, List.forall_mem_cons.mpr ⟨lw_p40, List.forall_mem_cons.mpr ⟨lw_p41, List.forall_mem_cons.mpr ⟨lw_p42, List.forall_mem_cons.mpr ⟨lw_p43, List.forall_mem_cons.mpr ⟨lw_p44, List.forall_mem_cons.mpr ⟨lw_p45, List.forall_mem_cons.mpr ⟨lw_p46, List.forall_mem_cons.mpr ⟨lw_p47, fun _ h => absurd h List.not_mem_nil⟩⟩⟩⟩⟩⟩⟩⟩⟩⟩⟩⟩⟩⟩⟩⟩
theorem lw_p48 : lw_okq (⟨"OneWireModel", "isEdge", "(I)Z"⟩, 32) := ⟨⟨by decide +kernel, by decide +kernel⟩, List.mem_of_getElem? (i := 580) (by decide +kernel), List.mem_of_getElem? (i := 728) (by decide +kernel), List.mem_of_getElem? (i := 729) (by decide +kernel)⟩
theorem lw_p49 : lw_okq (⟨"OneWireModel", "edges", "()I"⟩, 32) := ⟨⟨by decide +kernel, by decide +kernel⟩, List.mem_of_getElem? (i := 580) (by decide +kernel), List.mem_of_getElem? (i := 732) (by decide +kernel), List.mem_of_getElem? (i := 733) (by decide +kernel)⟩
theorem lw_p50 : lw_okq (⟨"OneWireModel", "isOpen", "(I)Z"⟩, 32) := ⟨⟨by decide +kernel, by decide +kernel⟩, List.mem_of_getElem? (i := 580) (by decide +kernel), List.mem_of_getElem? (i := 736) (by decide +kernel), List.mem_of_getElem? (i := 737) (by decide +kernel)⟩
theorem lw_p51 : lw_okq (⟨"OneWireModel", "farEnd", "(I)I"⟩, 32) := ⟨⟨by decide +kernel, by decide +kernel⟩, List.mem_of_getElem? (i := 580) (by decide +kernel), List.mem_of_getElem? (i := 744) (by decide +kernel), List.mem_of_getElem? (i := 745) (by decide +kernel)⟩
theorem lw_p52 : lw_okq (⟨"OneWireModel", "spread", "(II)V"⟩, 32) := ⟨⟨by decide +kernel, by decide +kernel⟩, List.mem_of_getElem? (i := 580) (by decide +kernel), List.mem_of_getElem? (i := 759) (by decide +kernel), List.mem_of_getElem? (i := 760) (by decide +kernel)⟩
theorem lw_p53 : lw_okq (⟨"OneWireModel", "isBeside", "(II)Z"⟩, 32) := ⟨⟨by decide +kernel, by decide +kernel⟩, List.mem_of_getElem? (i := 580) (by decide +kernel), List.mem_of_getElem? (i := 763) (by decide +kernel), List.mem_of_getElem? (i := 764) (by decide +kernel)⟩
theorem lw_p54 : lw_okq (⟨"OneWireModel", "pass", "(IIII)V"⟩, 32) := ⟨⟨by decide +kernel, by decide +kernel⟩, List.mem_of_getElem? (i := 580) (by decide +kernel), List.mem_of_getElem? (i := 767) (by decide +kernel), List.mem_of_getElem? (i := 768) (by decide +kernel)⟩
theorem lw_p55 : lw_okq (⟨"OneWireModel", "altered", "(II)I"⟩, 32) := ⟨⟨by decide +kernel, by decide +kernel⟩, List.mem_of_getElem? (i := 580) (by decide +kernel), List.mem_of_getElem? (i := 771) (by decide +kernel), List.mem_of_getElem? (i := 772) (by decide +kernel)⟩
theorem lw_p56 : lw_okq (⟨"OneWireModel", "findSteps", "(Z)I"⟩, 32) := ⟨⟨by decide +kernel, by decide +kernel⟩, List.mem_of_getElem? (i := 580) (by decide +kernel), List.mem_of_getElem? (i := 783) (by decide +kernel), List.mem_of_getElem? (i := 784) (by decide +kernel)⟩
theorem lw_p57 : lw_okq (⟨"OneWireModel", "reach", "(II)V"⟩, 32) := ⟨⟨by decide +kernel, by decide +kernel⟩, List.mem_of_getElem? (i := 580) (by decide +kernel), List.mem_of_getElem? (i := 787) (by decide +kernel), List.mem_of_getElem? (i := 788) (by decide +kernel)⟩
theorem lw_p58 : lw_okq (⟨"OneWireModel", "mayBe", "(I)Z"⟩, 32) := ⟨⟨by decide +kernel, by decide +kernel⟩, List.mem_of_getElem? (i := 580) (by decide +kernel), List.mem_of_getElem? (i := 791) (by decide +kernel), List.mem_of_getElem? (i := 792) (by decide +kernel)⟩
theorem lw_p59 : lw_okq (⟨"OneWireModel", "after", "(II)I"⟩, 32) := ⟨⟨by decide +kernel, by decide +kernel⟩, List.mem_of_getElem? (i := 580) (by decide +kernel), List.mem_of_getElem? (i := 795) (by decide +kernel), List.mem_of_getElem? (i := 796) (by decide +kernel)⟩
theorem lw_p60 : lw_okq (⟨"OneWireModel", "exchanged", "(II)I"⟩, 32) := ⟨⟨by decide +kernel, by decide +kernel⟩, List.mem_of_getElem? (i := 580) (by decide +kernel), List.mem_of_getElem? (i := 799) (by decide +kernel), List.mem_of_getElem? (i := 800) (by decide +kernel)⟩
theorem lw_p61 : lw_okq (⟨"OneWireModel", "barred", "()I"⟩, 32) := ⟨⟨by decide +kernel, by decide +kernel⟩, List.mem_of_getElem? (i := 580) (by decide +kernel), List.mem_of_getElem? (i := 818) (by decide +kernel), List.mem_of_getElem? (i := 819) (by decide +kernel)⟩
theorem lw_p62 : lw_okq (⟨"OneWireModel", "changes", "()I"⟩, 32) := ⟨⟨by decide +kernel, by decide +kernel⟩, List.mem_of_getElem? (i := 580) (by decide +kernel), List.mem_of_getElem? (i := 822) (by decide +kernel), List.mem_of_getElem? (i := 823) (by decide +kernel)⟩
theorem lw_p63 : lw_okq (⟨"OneWireModel", "mayStand", "(II)Z"⟩, 32) := ⟨⟨by decide +kernel, by decide +kernel⟩, List.mem_of_getElem? (i := 580) (by decide +kernel), List.mem_of_getElem? (i := 830) (by decide +kernel), List.mem_of_getElem? (i := 831) (by decide +kernel)⟩
def lw_privs_4 : List (MethodName × Nat) := [(⟨"OneWireModel", "isEdge", "(I)Z"⟩, 32), (⟨"OneWireModel", "edges", "()I"⟩, 32), (⟨"OneWireModel", "isOpen", "(I)Z"⟩, 32), (⟨"OneWireModel", "farEnd", "(I)I"⟩, 32), (⟨"OneWireModel", "spread", "(II)V"⟩, 32), (⟨"OneWireModel", "isBeside", "(II)Z"⟩, 32), (⟨"OneWireModel", "pass", "(IIII)V"⟩, 32), (⟨"OneWireModel", "altered", "(II)I"⟩, 32), (⟨"OneWireModel", "findSteps", "(Z)I"⟩, 32), (⟨"OneWireModel", "reach", "(II)V"⟩, 32), (⟨"OneWireModel", "mayBe", "(I)Z"⟩, 32), (⟨"OneWireModel", "after", "(II)I"⟩, 32), (⟨"OneWireModel", "exchanged", "(II)I"⟩, 32), (⟨"OneWireModel", "barred", "()I"⟩, 32), (⟨"OneWireModel", "changes", "()I"⟩, 32), (⟨"OneWireModel", "mayStand", "(II)Z"⟩, 32)]
theorem lw_r4 : ∀ q ∈ lw_privs_4, lw_okq q := List.forall_mem_cons.mpr ⟨lw_p48, List.forall_mem_cons.mpr ⟨lw_p49, List.forall_mem_cons.mpr ⟨lw_p50, List.forall_mem_cons.mpr ⟨lw_p51, List.forall_mem_cons.mpr ⟨lw_p52, List.forall_mem_cons.mpr ⟨lw_p53, List.forall_mem_cons.mpr ⟨lw_p54, List.forall_mem_cons.mpr ⟨lw_p55, List.forall_mem_cons.mpr ⟨lw_p56, List.forall_mem_cons.mpr ⟨lw_p57, List.forall_mem_cons.mpr ⟨lw_p58, List.forall_mem_cons.mpr ⟨lw_p59, List.forall_mem_cons.mpr ⟨lw_p60, List.forall_mem_cons.mpr ⟨lw_p61, List.forall_mem_cons.mpr ⟨lw_p62, List.forall_mem_cons.mpr ⟨lw_p63, fun _ h => absurd h List.not_mem_nil⟩⟩⟩⟩⟩⟩⟩⟩⟩⟩⟩⟩⟩⟩⟩⟩
theorem lw_p64 : lw_okq (⟨"OneWireModel", "layLetters", "()V"⟩, 32) := ⟨⟨by decide +kernel, by decide +kernel⟩, List.mem_of_getElem? (i := 580) (by decide +kernel), List.mem_of_getElem? (i := 838) (by decide +kernel), List.mem_of_getElem? (i := 839) (by decide +kernel)⟩
theorem lw_p65 : lw_okq (⟨"OneWireModel", "readers", "(II)I"⟩, 32) := ⟨⟨by decide +kernel, by decide +kernel⟩, List.mem_of_getElem? (i := 580) (by decide +kernel), List.mem_of_getElem? (i := 842) (by decide +kernel), List.mem_of_getElem? (i := 843) (by decide +kernel)⟩
theorem lw_p66 : lw_okq (⟨"OneWireModel", "mateOf", "(I)I"⟩, 32) := ⟨⟨by decide +kernel, by decide +kernel⟩, List.mem_of_getElem? (i := 580) (by decide +kernel), List.mem_of_getElem? (i := 846) (by decide +kernel), List.mem_of_getElem? (i := 847) (by decide +kernel)⟩
theorem lw_p67 : lw_okq (⟨"OneWireModel", "hearing", "(II)J"⟩, 32) := ⟨⟨by decide +kernel, by decide +kernel⟩, List.mem_of_getElem? (i := 580) (by decide +kernel), List.mem_of_getElem? (i := 856) (by decide +kernel), List.mem_of_getElem? (i := 857) (by decide +kernel)⟩
theorem lw_p68 : lw_okq (⟨"OneWireModel", "reached", "(II)I"⟩, 32) := ⟨⟨by decide +kernel, by decide +kernel⟩, List.mem_of_getElem? (i := 580) (by decide +kernel), List.mem_of_getElem? (i := 860) (by decide +kernel), List.mem_of_getElem? (i := 861) (by decide +kernel)⟩
theorem lw_p69 : lw_okq (⟨"OneWireModel", "areSo", "()Z"⟩, 32) := ⟨⟨by decide +kernel, by decide +kernel⟩, List.mem_of_getElem? (i := 580) (by decide +kernel), List.mem_of_getElem? (i := 883) (by decide +kernel), List.mem_of_getElem? (i := 884) (by decide +kernel)⟩
theorem lw_p70 : lw_okq (⟨"OneWireModel", "lost", "(I)J"⟩, 32) := ⟨⟨by decide +kernel, by decide +kernel⟩, List.mem_of_getElem? (i := 580) (by decide +kernel), List.mem_of_getElem? (i := 907) (by decide +kernel), List.mem_of_getElem? (i := 908) (by decide +kernel)⟩
theorem lw_p71 : lw_okq (⟨"OneWireModel", "begins", "(I)V"⟩, 32) := ⟨⟨by decide +kernel, by decide +kernel⟩, List.mem_of_getElem? (i := 580) (by decide +kernel), List.mem_of_getElem? (i := 919) (by decide +kernel), List.mem_of_getElem? (i := 920) (by decide +kernel)⟩
theorem lw_p72 : lw_okq (⟨"OneWireModel", "walled", "()I"⟩, 32) := ⟨⟨by decide +kernel, by decide +kernel⟩, List.mem_of_getElem? (i := 580) (by decide +kernel), List.mem_of_getElem? (i := 943) (by decide +kernel), List.mem_of_getElem? (i := 944) (by decide +kernel)⟩
def lw_privs_5 : List (MethodName × Nat) := [(⟨"OneWireModel", "layLetters", "()V"⟩, 32), (⟨"OneWireModel", "readers", "(II)I"⟩, 32), (⟨"OneWireModel", "mateOf", "(I)I"⟩, 32), (⟨"OneWireModel", "hearing", "(II)J"⟩, 32), (⟨"OneWireModel", "reached", "(II)I"⟩, 32), (⟨"OneWireModel", "areSo", "()Z"⟩, 32), (⟨"OneWireModel", "lost", "(I)J"⟩, 32), (⟨"OneWireModel", "begins", "(I)V"⟩, 32), (⟨"OneWireModel", "walled", "()I"⟩, 32)]
theorem lw_r5 : ∀ q ∈ lw_privs_5, lw_okq q := List.forall_mem_cons.mpr ⟨lw_p64, List.forall_mem_cons.mpr ⟨lw_p65, List.forall_mem_cons.mpr ⟨lw_p66, List.forall_mem_cons.mpr ⟨lw_p67, List.forall_mem_cons.mpr ⟨lw_p68, List.forall_mem_cons.mpr ⟨lw_p69, List.forall_mem_cons.mpr ⟨lw_p70, List.forall_mem_cons.mpr ⟨lw_p71, List.forall_mem_cons.mpr ⟨lw_p72, fun _ h => absurd h List.not_mem_nil⟩⟩⟩⟩⟩⟩⟩⟩⟩
def lw_privs : List (MethodName × Nat) := lw_privs_1 ++ (lw_privs_2 ++ (lw_privs_3 ++ (lw_privs_4 ++ (lw_privs_5))))
def lw_tbl : List Cond := k2_sels lw_privs ++ tables_1
theorem lw_privs_ok : ∀ q ∈ lw_privs, lw_okq q := by
  show ∀ q ∈ lw_privs_1 ++ (lw_privs_2 ++ (lw_privs_3 ++ (lw_privs_4 ++ (lw_privs_5)))), lw_okq q
  exact List.forall_mem_append.mpr ⟨lw_r1, List.forall_mem_append.mpr ⟨lw_r2, List.forall_mem_append.mpr ⟨lw_r3, List.forall_mem_append.mpr ⟨lw_r4, lw_r5⟩⟩⟩⟩
def RX0 : String := "OneWire$Line"
def TX0 : u_T := fun k => match k with
  | 0 => ("OneWire$Line", "persons", "I", false)
  | 1 => ("OneWire$Line", "edges", "I", false)
  | 2 => ("OneWire$Line", "loop", "Z", false)
  | 3 => ("OneWire$Line", "kind", "[I", true)
  | 4 => ("OneWire$Line", "strength", "[I", true)
  | 5 => ("OneWire$Line", "has", "[I", true)
  | 6 => ("OneWire$Line", "wishes", "[I", true)
  | _ => ("OneWire$Line", "walled", "[Z", true)
def tyX0 : Nat → FieldType := fun k => match k with
  | 0 => .int
  | 1 => .int
  | 2 => .boolean
  | 3 => .array .int
  | 4 => .array .int
  | 5 => .array .int
  | 6 => .array .int
  | _ => .array .boolean
theorem nmX0 : ∀ a, a < 8 → ∀ b, b < 8 → a ≠ b → (TX0 a).2.1 ≠ (TX0 b).2.1 := by decide +kernel
theorem tyX0_ok : ∀ k, k < 8 → parseFieldDescriptor (TX0 k).2.2.1 = some (tyX0 k) := by decide +kernel
abbrev cX0_init : ByteArray := prog_2_method_1_code
def yX0_init : MethodName := ⟨RX0, "<init>", "()V"⟩
abbrev cX0_takeText : ByteArray := prog_2_method_2_code
def yX0_takeText : MethodName := ⟨RX0, "takeText", "(LOneWire$Sheet;II)V"⟩
abbrev cX0_kindOf : ByteArray := prog_2_method_3_code
def yX0_kindOf : MethodName := ⟨RX0, "kindOf", "(I)I"⟩
abbrev cX0_isThere : ByteArray := prog_2_method_4_code
def yX0_isThere : MethodName := ⟨RX0, "isThere", "()Z"⟩
abbrev cX0_isPerson : ByteArray := prog_2_method_5_code
def yX0_isPerson : MethodName := ⟨RX0, "isPerson", "(I)Z"⟩
abbrev cX0_isEdge : ByteArray := prog_2_method_6_code
def yX0_isEdge : MethodName := ⟨RX0, "isEdge", "(I)Z"⟩
abbrev cX0_isOpen : ByteArray := prog_2_method_7_code
def yX0_isOpen : MethodName := ⟨RX0, "isOpen", "(I)Z"⟩
abbrev cX0_rightEnd : ByteArray := prog_2_method_8_code
def yX0_rightEnd : MethodName := ⟨RX0, "rightEnd", "(I)I"⟩
abbrev cX0_edgeOnLeft : ByteArray := prog_2_method_9_code
def yX0_edgeOnLeft : MethodName := ⟨RX0, "edgeOnLeft", "(I)I"⟩
abbrev cX0_howManyWalled : ByteArray := prog_2_method_10_code
def yX0_howManyWalled : MethodName := ⟨RX0, "howManyWalled", "()I"⟩
abbrev cX0_changeGoods : ByteArray := prog_2_method_11_code
def yX0_changeGoods : MethodName := ⟨RX0, "changeGoods", "(I)V"⟩
abbrev cX0_wayRight : ByteArray := prog_2_method_12_code
def yX0_wayRight : MethodName := ⟨RX0, "wayRight", "(II)I"⟩
abbrev cX0_altered : ByteArray := prog_2_method_13_code
def yX0_altered : MethodName := ⟨RX0, "altered", "(II)I"⟩
def RX1 : String := "OneWire$Pairing"
def TX1 : u_T := fun k => match k with
  | _ => ("OneWire$Pairing", "fewestOf", "[I", true)
def tyX1 : Nat → FieldType := fun k => match k with
  | _ => .array .int
theorem nmX1 : ∀ a, a < 1 → ∀ b, b < 1 → a ≠ b → (TX1 a).2.1 ≠ (TX1 b).2.1 := by decide +kernel
theorem tyX1_ok : ∀ k, k < 1 → parseFieldDescriptor (TX1 k).2.2.1 = some (tyX1 k) := by decide +kernel
abbrev cX1_init : ByteArray := prog_3_method_1_code
def yX1_init : MethodName := ⟨RX1, "<init>", "()V"⟩
abbrev cX1_leastReaders : ByteArray := prog_3_method_2_code
def yX1_leastReaders : MethodName := ⟨RX1, "leastReaders", "(LOneWire$Line;)I"⟩
abbrev cX1_readersWith : ByteArray := prog_3_method_3_code
def yX1_readersWith : MethodName := ⟨RX1, "readersWith", "(LOneWire$Line;III)I"⟩
abbrev cX1_between : ByteArray := prog_3_method_4_code
def yX1_between : MethodName := ⟨RX1, "between", "(LOneWire$Line;II)I"⟩
abbrev cX1_leastOf : ByteArray := prog_3_method_5_code
def yX1_leastOf : MethodName := ⟨RX1, "leastOf", "(I)I"⟩
abbrev cX1_mateOf : ByteArray := prog_3_method_6_code
def yX1_mateOf : MethodName := ⟨RX1, "mateOf", "(LOneWire$Line;I)I"⟩
def RX2 : String := "OneWire$Ranks"
def TX2 : u_T := fun k => match k with
  | 0 => ("OneWire$Ranks", "place", "[I", true)
  | _ => ("OneWire$Ranks", "ways", "[I", true)
def tyX2 : Nat → FieldType := fun k => match k with
  | 0 => .array .int
  | _ => .array .int
theorem nmX2 : ∀ a, a < 2 → ∀ b, b < 2 → a ≠ b → (TX2 a).2.1 ≠ (TX2 b).2.1 := by decide +kernel
theorem tyX2_ok : ∀ k, k < 2 → parseFieldDescriptor (TX2 k).2.2.1 = some (tyX2 k) := by decide +kernel
abbrev cX2_init : ByteArray := prog_4_method_1_code
def yX2_init : MethodName := ⟨RX2, "<init>", "()V"⟩
abbrev cX2_readPlaces : ByteArray := prog_4_method_2_code
def yX2_readPlaces : MethodName := ⟨RX2, "readPlaces", "(LOneWire$Line;LOneWire$Sheet;I)Z"⟩
abbrev cX2_mayChange : ByteArray := prog_4_method_3_code
def yX2_mayChange : MethodName := ⟨RX2, "mayChange", "(LOneWire$Line;II)Z"⟩
abbrev cX2_firstBar : ByteArray := prog_4_method_4_code
def yX2_firstBar : MethodName := ⟨RX2, "firstBar", "(LOneWire$Line;)I"⟩
abbrev cX2_changes : ByteArray := prog_4_method_5_code
def yX2_changes : MethodName := ⟨RX2, "changes", "(LOneWire$Line;)I"⟩
abbrev cX2_howManyCome : ByteArray := prog_4_method_6_code
def yX2_howManyCome : MethodName := ⟨RX2, "howManyCome", "(LOneWire$Line;)I"⟩
abbrev cX2_mustBeAhead : ByteArray := prog_4_method_7_code
def yX2_mustBeAhead : MethodName := ⟨RX2, "mustBeAhead", "(LOneWire$Line;I)I"⟩
def RX3 : String := "OneWire$Readings"
def TX3 : u_T := fun k => match k with
  | 0 => ("OneWire$Readings", "count", "I", false)
  | 1 => ("OneWire$Readings", "teller", "[I", true)
  | 2 => ("OneWire$Readings", "told", "[I", true)
  | 3 => ("OneWire$Readings", "hearer", "[I", true)
  | _ => ("OneWire$Readings", "had", "[I", true)
def tyX3 : Nat → FieldType := fun k => match k with
  | 0 => .int
  | 1 => .array .int
  | 2 => .array .int
  | 3 => .array .int
  | _ => .array .int
theorem nmX3 : ∀ a, a < 5 → ∀ b, b < 5 → a ≠ b → (TX3 a).2.1 ≠ (TX3 b).2.1 := by decide +kernel
theorem tyX3_ok : ∀ k, k < 5 → parseFieldDescriptor (TX3 k).2.2.1 = some (tyX3 k) := by decide +kernel
abbrev cX3_init : ByteArray := prog_5_method_1_code
def yX3_init : MethodName := ⟨RX3, "<init>", "()V"⟩
abbrev cX3_takeOne : ByteArray := prog_5_method_2_code
def yX3_takeOne : MethodName := ⟨RX3, "takeOne", "(IIII)I"⟩
abbrev cX3_areAllSo : ByteArray := prog_5_method_3_code
def yX3_areAllSo : MethodName := ⟨RX3, "areAllSo", "(LOneWire$Line;LOneWire$Spread;)Z"⟩
def RX4 : String := "OneWire$Sheet"
def TX4 : u_T := fun k => match k with
  | 0 => ("OneWire$Sheet", "there", "Z", false)
  | 1 => ("OneWire$Sheet", "lane", "I", false)
  | 2 => ("OneWire$Sheet", "length", "I", false)
  | _ => ("OneWire$Sheet", "cells", "[I", true)
def tyX4 : Nat → FieldType := fun k => match k with
  | 0 => .boolean
  | 1 => .int
  | 2 => .int
  | _ => .array .int
theorem nmX4 : ∀ a, a < 4 → ∀ b, b < 4 → a ≠ b → (TX4 a).2.1 ≠ (TX4 b).2.1 := by decide +kernel
theorem tyX4_ok : ∀ k, k < 4 → parseFieldDescriptor (TX4 k).2.2.1 = some (tyX4 k) := by decide +kernel
abbrev cX4_init : ByteArray := prog_6_method_1_code
def yX4_init : MethodName := ⟨RX4, "<init>", "()V"⟩
abbrev cX4_becomeNew : ByteArray := prog_6_method_2_code
def yX4_becomeNew : MethodName := ⟨RX4, "becomeNew", "(II)V"⟩
abbrev cX4_hasCells : ByteArray := prog_6_method_3_code
def yX4_hasCells : MethodName := ⟨RX4, "hasCells", "(II)Z"⟩
abbrev cX4_faultOfCells : ByteArray := prog_6_method_4_code
def yX4_faultOfCells : MethodName := ⟨RX4, "faultOfCells", "(III)I"⟩
abbrev cX4_load : ByteArray := prog_6_method_5_code
def yX4_load : MethodName := ⟨RX4, "load", "(I)I"⟩
abbrev cX4_store : ByteArray := prog_6_method_6_code
def yX4_store : MethodName := ⟨RX4, "store", "(II)V"⟩
def RX5 : String := "OneWire$Spread"
def TX5 : u_T := fun k => match k with
  | 0 => ("OneWire$Spread", "value", "[I", true)
  | _ => ("OneWire$Spread", "day", "[I", true)
def tyX5 : Nat → FieldType := fun k => match k with
  | 0 => .array .int
  | _ => .array .int
theorem nmX5 : ∀ a, a < 2 → ∀ b, b < 2 → a ≠ b → (TX5 a).2.1 ≠ (TX5 b).2.1 := by decide +kernel
theorem tyX5_ok : ∀ k, k < 2 → parseFieldDescriptor (TX5 k).2.2.1 = some (tyX5 k) := by decide +kernel
abbrev cX5_init : ByteArray := prog_7_method_1_code
def yX5_init : MethodName := ⟨RX5, "<init>", "()V"⟩
abbrev cX5_tellFrom : ByteArray := prog_7_method_2_code
def yX5_tellFrom : MethodName := ⟨RX5, "tellFrom", "(LOneWire$Line;II)V"⟩
abbrev cX5_passOn : ByteArray := prog_7_method_3_code
def yX5_passOn : MethodName := ⟨RX5, "passOn", "(LOneWire$Line;III)V"⟩
abbrev cX5_hear : ByteArray := prog_7_method_4_code
def yX5_hear : MethodName := ⟨RX5, "hear", "(III)V"⟩
def RX6 : String := "OneWire$Trade"
def TX6 : u_T := fun k => match k with
  | 0 => ("OneWire$Trade", "seen", "[J", true)
  | 1 => ("OneWire$Trade", "queue", "[I", true)
  | 2 => ("OneWire$Trade", "queued", "I", false)
  | 3 => ("OneWire$Trade", "steps", "[I", true)
  | 4 => ("OneWire$Trade", "howManySteps", "I", false)
  | _ => ("OneWire$Trade", "turned", "[I", true)
def tyX6 : Nat → FieldType := fun k => match k with
  | 0 => .array .long
  | 1 => .array .int
  | 2 => .int
  | 3 => .array .int
  | 4 => .int
  | _ => .array .int
theorem nmX6 : ∀ a, a < 6 → ∀ b, b < 6 → a ≠ b → (TX6 a).2.1 ≠ (TX6 b).2.1 := by decide +kernel
theorem tyX6_ok : ∀ k, k < 6 → parseFieldDescriptor (TX6 k).2.2.1 = some (tyX6 k) := by decide +kernel
abbrev cX6_init : ByteArray := prog_8_method_1_code
def yX6_init : MethodName := ⟨RX6, "<init>", "()V"⟩
abbrev cX6_leastSteps : ByteArray := prog_8_method_2_code
def yX6_leastSteps : MethodName := ⟨RX6, "leastSteps", "(LOneWire$Line;Z)I"⟩
abbrev cX6_held : ByteArray := prog_8_method_3_code
def yX6_held : MethodName := ⟨RX6, "held", "([II)I"⟩
abbrev cX6_gatherSteps : ByteArray := prog_8_method_4_code
def yX6_gatherSteps : MethodName := ⟨RX6, "gatherSteps", "(LOneWire$Line;Z)V"⟩
abbrev cX6_isOneDay : ByteArray := prog_8_method_5_code
def yX6_isOneDay : MethodName := ⟨RX6, "isOneDay", "(LOneWire$Line;I)Z"⟩
abbrev cX6_goOnFrom : ByteArray := prog_8_method_6_code
def yX6_goOnFrom : MethodName := ⟨RX6, "goOnFrom", "(LOneWire$Line;I)V"⟩
abbrev cX6_turnedBy : ByteArray := prog_8_method_7_code
def yX6_turnedBy : MethodName := ⟨RX6, "turnedBy", "(III)I"⟩
abbrev cX6_meet : ByteArray := prog_8_method_8_code
def yX6_meet : MethodName := ⟨RX6, "meet", "(I)V"⟩
abbrev cX6_mustGoOver : ByteArray := prog_8_method_9_code
def yX6_mustGoOver : MethodName := ⟨RX6, "mustGoOver", "(LOneWire$Line;I)I"⟩
def RX7 : String := "OneWire"
def TX7 : u_T := fun k => match k with
  | 0 => ("OneWire", "sheets", "[LOneWire$Sheet;", true)
  | 1 => ("OneWire", "line", "LOneWire$Line;", true)
  | 2 => ("OneWire", "spread", "LOneWire$Spread;", true)
  | 3 => ("OneWire", "trade", "LOneWire$Trade;", true)
  | 4 => ("OneWire", "ranks", "LOneWire$Ranks;", true)
  | 5 => ("OneWire", "pairing", "LOneWire$Pairing;", true)
  | 6 => ("OneWire", "readings", "LOneWire$Readings;", true)
  | 7 => ("OneWire", "traced", "I", false)
  | _ => ("OneWire", "latestFault", "I", false)
def tyX7 : Nat → FieldType := fun k => match k with
  | 0 => .array (.object "OneWire$Sheet")
  | 1 => .object "OneWire$Line"
  | 2 => .object "OneWire$Spread"
  | 3 => .object "OneWire$Trade"
  | 4 => .object "OneWire$Ranks"
  | 5 => .object "OneWire$Pairing"
  | 6 => .object "OneWire$Readings"
  | 7 => .int
  | _ => .int
theorem nmX7 : ∀ a, a < 9 → ∀ b, b < 9 → a ≠ b → (TX7 a).2.1 ≠ (TX7 b).2.1 := by decide +kernel
theorem tyX7_ok : ∀ k, k < 9 → parseFieldDescriptor (TX7 k).2.2.1 = some (tyX7 k) := by decide +kernel
abbrev cX7_init : ByteArray := prog_1_method_1_code
def yX7_init : MethodName := ⟨RX7, "<init>", "()V"⟩
abbrev cX7_wire : ByteArray := prog_1_method_2_code
def yX7_wire : MethodName := ⟨RX7, "wire", "(IIII)I"⟩
abbrev cX7_ofPerson : ByteArray := prog_1_method_3_code
def yX7_ofPerson : MethodName := ⟨RX7, "ofPerson", "(II)I"⟩
abbrev cX7_grudge : ByteArray := prog_1_method_4_code
def yX7_grudge : MethodName := ⟨RX7, "grudge", "(IZ)I"⟩
abbrev cX7_hand : ByteArray := prog_1_method_5_code
def yX7_hand : MethodName := ⟨RX7, "hand", "(I)I"⟩
abbrev cX7_wish : ByteArray := prog_1_method_6_code
def yX7_wish : MethodName := ⟨RX7, "wish", "(II)I"⟩
abbrev cX7_news : ByteArray := prog_1_method_7_code
def yX7_news : MethodName := ⟨RX7, "news", "(IIII)I"⟩
abbrev cX7_said : ByteArray := prog_1_method_8_code
def yX7_said : MethodName := ⟨RX7, "said", "(IIII)I"⟩
abbrev cX7_fewest : ByteArray := prog_1_method_9_code
def yX7_fewest : MethodName := ⟨RX7, "fewest", "()I"⟩
abbrev cX7_soonest : ByteArray := prog_1_method_10_code
def yX7_soonest : MethodName := ⟨RX7, "soonest", "()I"⟩
abbrev cX7_cut : ByteArray := prog_1_method_11_code
def yX7_cut : MethodName := ⟨RX7, "cut", "(I)I"⟩
abbrev cX7_order : ByteArray := prog_1_method_12_code
def yX7_order : MethodName := ⟨RX7, "order", "(IIIII)I"⟩
abbrev cX7_coming : ByteArray := prog_1_method_13_code
def yX7_coming : MethodName := ⟨RX7, "coming", "()I"⟩
abbrev cX7_letters : ByteArray := prog_1_method_14_code
def yX7_letters : MethodName := ⟨RX7, "letters", "(I)I"⟩
abbrev cX7_heard : ByteArray := prog_1_method_15_code
def yX7_heard : MethodName := ⟨RX7, "heard", "(III)J"⟩
abbrev cX7_stand : ByteArray := prog_1_method_16_code
def yX7_stand : MethodName := ⟨RX7, "stand", "(I)I"⟩
abbrev cX7_reading : ByteArray := prog_1_method_17_code
def yX7_reading : MethodName := ⟨RX7, "reading", "(IIII)I"⟩
abbrev cX7_back : ByteArray := prog_1_method_18_code
def yX7_back : MethodName := ⟨RX7, "back", "(I)I"⟩
abbrev cX7_kinds : ByteArray := prog_1_method_19_code
def yX7_kinds : MethodName := ⟨RX7, "kinds", "(I)I"⟩
abbrev cX7_walls : ByteArray := prog_1_method_20_code
def yX7_walls : MethodName := ⟨RX7, "walls", "()I"⟩
abbrev cX7_sheet : ByteArray := prog_1_method_21_code
def yX7_sheet : MethodName := ⟨RX7, "sheet", "(III)I"⟩
abbrev cX7_lose : ByteArray := prog_1_method_22_code
def yX7_lose : MethodName := ⟨RX7, "lose", "(I)I"⟩
abbrev cX7_put : ByteArray := prog_1_method_23_code
def yX7_put : MethodName := ⟨RX7, "put", "(III)I"⟩
abbrev cX7_cell : ByteArray := prog_1_method_24_code
def yX7_cell : MethodName := ⟨RX7, "cell", "(III)J"⟩
abbrev cX7_copy : ByteArray := prog_1_method_25_code
def yX7_copy : MethodName := ⟨RX7, "copy", "(IIIII)I"⟩
abbrev cX7_tell : ByteArray := prog_1_method_26_code
def yX7_tell : MethodName := ⟨RX7, "tell", "(I)I"⟩
abbrev cX7_lean : ByteArray := prog_1_method_27_code
def yX7_lean : MethodName := ⟨RX7, "lean", "(I)I"⟩
abbrev cX7_as : ByteArray := prog_1_method_28_code
def yX7_as : MethodName := ⟨RX7, "as", "(II)I"⟩
abbrev cX7_trace : ByteArray := prog_1_method_29_code
def yX7_trace : MethodName := ⟨RX7, "trace", "()I"⟩
abbrev cX7_fault : ByteArray := prog_1_method_30_code
def yX7_fault : MethodName := ⟨RX7, "fault", "()I"⟩
abbrev cX7_many : ByteArray := prog_1_method_31_code
def yX7_many : MethodName := ⟨RX7, "many", "(I)I"⟩
abbrev cX7_failed : ByteArray := prog_1_method_32_code
def yX7_failed : MethodName := ⟨RX7, "failed", "(I)I"⟩
abbrev cX7_isSheet : ByteArray := prog_1_method_33_code
def yX7_isSheet : MethodName := ⟨RX7, "isSheet", "(I)Z"⟩
abbrev cX7_isLane : ByteArray := prog_1_method_34_code
def yX7_isLane : MethodName := ⟨RX7, "isLane", "(I)Z"⟩
abbrev cX7_isNumber : ByteArray := prog_1_method_35_code
def yX7_isNumber : MethodName := ⟨RX7, "isNumber", "(I)Z"⟩
abbrev cX7_isTenths : ByteArray := prog_1_method_36_code
def yX7_isTenths : MethodName := ⟨RX7, "isTenths", "(I)Z"⟩
abbrev cX7_firstFault : ByteArray := prog_1_method_37_code
def yX7_firstFault : MethodName := ⟨RX7, "firstFault", "(LOneWire$Sheet;II)I"⟩
abbrev cX7_goesOn : ByteArray := prog_1_method_38_code
def yX7_goesOn : MethodName := ⟨RX7, "goesOn", "(II)Z"⟩
abbrev cX7_isDigit : ByteArray := prog_1_method_39_code
def yX7_isDigit : MethodName := ⟨RX7, "isDigit", "(II)Z"⟩
abbrev cX7_hearers : ByteArray := prog_1_method_40_code
def yX7_hearers : MethodName := ⟨RX7, "hearers", "(II)J"⟩
abbrev cX7_reaching : ByteArray := prog_1_method_41_code
def yX7_reaching : MethodName := ⟨RX7, "reaching", "(III)J"⟩
abbrev cX7_allWhole : ByteArray := prog_1_method_42_code
def yX7_allWhole : MethodName := ⟨RX7, "allWhole", "(II)J"⟩
abbrev cX7_whole : ByteArray := prog_1_method_43_code
def yX7_whole : MethodName := ⟨RX7, "whole", "()J"⟩
abbrev cX7_commonDivisor : ByteArray := prog_1_method_44_code
def yX7_commonDivisor : MethodName := ⟨RX7, "commonDivisor", "(JJ)J"⟩
abbrev cX7_leaveTrace : ByteArray := prog_1_method_45_code
def yX7_leaveTrace : MethodName := ⟨RX7, "leaveTrace", "(I)V"⟩
abbrev cX7_tellPerson : ByteArray := prog_1_method_46_code
def yX7_tellPerson : MethodName := ⟨RX7, "tellPerson", "(I)I"⟩
abbrev cX7_tellGrudger : ByteArray := prog_1_method_47_code
def yX7_tellGrudger : MethodName := ⟨RX7, "tellGrudger", "(I)I"⟩
abbrev cX7_tellTalker : ByteArray := prog_1_method_48_code
def yX7_tellTalker : MethodName := ⟨RX7, "tellTalker", "(I)I"⟩
def RX8 : String := "OneWireModel"
def TX8 : u_T := fun k => match k with
  | 0 => ("OneWireModel", "fault", "I", false)
  | 1 => ("OneWireModel", "trace", "I", false)
  | 2 => ("OneWireModel", "sorts", "[I", true)
  | 3 => ("OneWireModel", "sheetLong", "[I", true)
  | 4 => ("OneWireModel", "cells", "[I", true)
  | 5 => ("OneWireModel", "persons", "I", false)
  | 6 => ("OneWireModel", "isLoop", "Z", false)
  | 7 => ("OneWireModel", "grudges", "I", false)
  | 8 => ("OneWireModel", "kind", "[I", true)
  | 9 => ("OneWireModel", "strength", "[I", true)
  | 10 => ("OneWireModel", "good", "[I", true)
  | 11 => ("OneWireModel", "wished", "[I", true)
  | 12 => ("OneWireModel", "at", "I", false)
  | 13 => ("OneWireModel", "readMany", "I", false)
  | 14 => ("OneWireModel", "readLoop", "I", false)
  | 15 => ("OneWireModel", "readKind", "[I", true)
  | 16 => ("OneWireModel", "readStrength", "[I", true)
  | 17 => ("OneWireModel", "readGood", "[I", true)
  | 18 => ("OneWireModel", "readWish", "[I", true)
  | 19 => ("OneWireModel", "has", "[I", true)
  | 20 => ("OneWireModel", "since", "[I", true)
  | 21 => ("OneWireModel", "steps", "[I", true)
  | 22 => ("OneWireModel", "queue", "[I", true)
  | 23 => ("OneWireModel", "many", "I", false)
  | 24 => ("OneWireModel", "placeOf", "[I", true)
  | 25 => ("OneWireModel", "ways", "[I", true)
  | 26 => ("OneWireModel", "leastOf", "[I", true)
  | 27 => ("OneWireModel", "readings", "I", false)
  | 28 => ("OneWireModel", "readFrom", "[I", true)
  | 29 => ("OneWireModel", "readSaid", "[I", true)
  | 30 => ("OneWireModel", "readTo", "[I", true)
  | _ => ("OneWireModel", "readHeard", "[I", true)
def tyX8 : Nat → FieldType := fun k => match k with
  | 0 => .int
  | 1 => .int
  | 2 => .array .int
  | 3 => .array .int
  | 4 => .array .int
  | 5 => .int
  | 6 => .boolean
  | 7 => .int
  | 8 => .array .int
  | 9 => .array .int
  | 10 => .array .int
  | 11 => .array .int
  | 12 => .int
  | 13 => .int
  | 14 => .int
  | 15 => .array .int
  | 16 => .array .int
  | 17 => .array .int
  | 18 => .array .int
  | 19 => .array .int
  | 20 => .array .int
  | 21 => .array .int
  | 22 => .array .int
  | 23 => .int
  | 24 => .array .int
  | 25 => .array .int
  | 26 => .array .int
  | 27 => .int
  | 28 => .array .int
  | 29 => .array .int
  | 30 => .array .int
  | _ => .array .int
theorem nmX8 : ∀ a, a < 32 → ∀ b, b < 32 → a ≠ b → (TX8 a).2.1 ≠ (TX8 b).2.1 := by decide +kernel
theorem tyX8_ok : ∀ k, k < 32 → parseFieldDescriptor (TX8 k).2.2.1 = some (tyX8 k) := by decide +kernel
abbrev cX8_init : ByteArray := prog_10_method_1_code
def yX8_init : MethodName := ⟨RX8, "<init>", "()V"⟩
abbrev cX8_fails : ByteArray := prog_10_method_3_code
def yX8_fails : MethodName := ⟨RX8, "fails", "(I)I"⟩
abbrev cX8_lost : ByteArray := prog_10_method_4_code
def yX8_lost : MethodName := ⟨RX8, "lost", "(I)J"⟩
abbrev cX8_within : ByteArray := prog_10_method_5_code
def yX8_within : MethodName := ⟨RX8, "within", "(III)Z"⟩
abbrev cX8_isSheet : ByteArray := prog_10_method_6_code
def yX8_isSheet : MethodName := ⟨RX8, "isSheet", "(I)Z"⟩
abbrev cX8_isSort : ByteArray := prog_10_method_7_code
def yX8_isSort : MethodName := ⟨RX8, "isSort", "(I)Z"⟩
abbrev cX8_against : ByteArray := prog_10_method_8_code
def yX8_against : MethodName := ⟨RX8, "against", "(IIII)I"⟩
abbrev cX8_isPerson : ByteArray := prog_10_method_9_code
def yX8_isPerson : MethodName := ⟨RX8, "isPerson", "(I)Z"⟩
abbrev cX8_edges : ByteArray := prog_10_method_10_code
def yX8_edges : MethodName := ⟨RX8, "edges", "()I"⟩
abbrev cX8_isEdge : ByteArray := prog_10_method_11_code
def yX8_isEdge : MethodName := ⟨RX8, "isEdge", "(I)Z"⟩
abbrev cX8_farEnd : ByteArray := prog_10_method_12_code
def yX8_farEnd : MethodName := ⟨RX8, "farEnd", "(I)I"⟩
abbrev cX8_isOpen : ByteArray := prog_10_method_13_code
def yX8_isOpen : MethodName := ⟨RX8, "isOpen", "(I)Z"⟩
abbrev cX8_digit : ByteArray := prog_10_method_14_code
def yX8_digit : MethodName := ⟨RX8, "digit", "(III)I"⟩
abbrev cX8_wire : ByteArray := prog_10_method_15_code
def yX8_wire : MethodName := ⟨RX8, "wire", "(IIII)I"⟩
abbrev cX8_readWire : ByteArray := prog_10_method_16_code
def yX8_readWire : MethodName := ⟨RX8, "readWire", "(I)Z"⟩
abbrev cX8_readPerson : ByteArray := prog_10_method_17_code
def yX8_readPerson : MethodName := ⟨RX8, "readPerson", "(II)Z"⟩
abbrev cX8_ofPerson : ByteArray := prog_10_method_18_code
def yX8_ofPerson : MethodName := ⟨RX8, "ofPerson", "(II)I"⟩
abbrev cX8_grudge : ByteArray := prog_10_method_19_code
def yX8_grudge : MethodName := ⟨RX8, "grudge", "(IZ)I"⟩
abbrev cX8_hand : ByteArray := prog_10_method_20_code
def yX8_hand : MethodName := ⟨RX8, "hand", "(I)I"⟩
abbrev cX8_wish : ByteArray := prog_10_method_21_code
def yX8_wish : MethodName := ⟨RX8, "wish", "(II)I"⟩
abbrev cX8_altered : ByteArray := prog_10_method_22_code
def yX8_altered : MethodName := ⟨RX8, "altered", "(II)I"⟩
abbrev cX8_pass : ByteArray := prog_10_method_23_code
def yX8_pass : MethodName := ⟨RX8, "pass", "(IIII)V"⟩
abbrev cX8_isBeside : ByteArray := prog_10_method_24_code
def yX8_isBeside : MethodName := ⟨RX8, "isBeside", "(II)Z"⟩
abbrev cX8_spread : ByteArray := prog_10_method_25_code
def yX8_spread : MethodName := ⟨RX8, "spread", "(II)V"⟩
abbrev cX8_isNumber : ByteArray := prog_10_method_26_code
def yX8_isNumber : MethodName := ⟨RX8, "isNumber", "(I)Z"⟩
abbrev cX8_news : ByteArray := prog_10_method_27_code
def yX8_news : MethodName := ⟨RX8, "news", "(IIII)I"⟩
abbrev cX8_said : ByteArray := prog_10_method_28_code
def yX8_said : MethodName := ⟨RX8, "said", "(IIII)I"⟩
abbrev cX8_goodIn : ByteArray := prog_10_method_29_code
def yX8_goodIn : MethodName := ⟨RX8, "goodIn", "(II)I"⟩
abbrev cX8_exchanged : ByteArray := prog_10_method_30_code
def yX8_exchanged : MethodName := ⟨RX8, "exchanged", "(II)I"⟩
abbrev cX8_mayBe : ByteArray := prog_10_method_31_code
def yX8_mayBe : MethodName := ⟨RX8, "mayBe", "(I)Z"⟩
abbrev cX8_after : ByteArray := prog_10_method_32_code
def yX8_after : MethodName := ⟨RX8, "after", "(II)I"⟩
abbrev cX8_reach : ByteArray := prog_10_method_33_code
def yX8_reach : MethodName := ⟨RX8, "reach", "(II)V"⟩
abbrev cX8_findSteps : ByteArray := prog_10_method_34_code
def yX8_findSteps : MethodName := ⟨RX8, "findSteps", "(Z)I"⟩
abbrev cX8_fewest : ByteArray := prog_10_method_35_code
def yX8_fewest : MethodName := ⟨RX8, "fewest", "()I"⟩
abbrev cX8_soonest : ByteArray := prog_10_method_36_code
def yX8_soonest : MethodName := ⟨RX8, "soonest", "()I"⟩
abbrev cX8_cut : ByteArray := prog_10_method_37_code
def yX8_cut : MethodName := ⟨RX8, "cut", "(I)I"⟩
abbrev cX8_order : ByteArray := prog_10_method_38_code
def yX8_order : MethodName := ⟨RX8, "order", "(IIIII)I"⟩
abbrev cX8_changes : ByteArray := prog_10_method_39_code
def yX8_changes : MethodName := ⟨RX8, "changes", "()I"⟩
abbrev cX8_barred : ByteArray := prog_10_method_40_code
def yX8_barred : MethodName := ⟨RX8, "barred", "()I"⟩
abbrev cX8_mayStand : ByteArray := prog_10_method_41_code
def yX8_mayStand : MethodName := ⟨RX8, "mayStand", "(II)Z"⟩
abbrev cX8_coming : ByteArray := prog_10_method_42_code
def yX8_coming : MethodName := ⟨RX8, "coming", "()I"⟩
abbrev cX8_readers : ByteArray := prog_10_method_43_code
def yX8_readers : MethodName := ⟨RX8, "readers", "(II)I"⟩
abbrev cX8_layLetters : ByteArray := prog_10_method_44_code
def yX8_layLetters : MethodName := ⟨RX8, "layLetters", "()V"⟩
abbrev cX8_mateOf : ByteArray := prog_10_method_45_code
def yX8_mateOf : MethodName := ⟨RX8, "mateOf", "(I)I"⟩
abbrev cX8_letters : ByteArray := prog_10_method_46_code
def yX8_letters : MethodName := ⟨RX8, "letters", "(I)I"⟩
abbrev cX8_reached : ByteArray := prog_10_method_47_code
def yX8_reached : MethodName := ⟨RX8, "reached", "(II)I"⟩
abbrev cX8_hearing : ByteArray := prog_10_method_48_code
def yX8_hearing : MethodName := ⟨RX8, "hearing", "(II)J"⟩
abbrev cX8_inLeastTerms : ByteArray := prog_10_method_49_code
def yX8_inLeastTerms : MethodName := ⟨RX8, "inLeastTerms", "(JJI)J"⟩
abbrev cX8_heard : ByteArray := prog_10_method_50_code
def yX8_heard : MethodName := ⟨RX8, "heard", "(III)J"⟩
abbrev cX8_stand : ByteArray := prog_10_method_51_code
def yX8_stand : MethodName := ⟨RX8, "stand", "(I)I"⟩
abbrev cX8_reading : ByteArray := prog_10_method_52_code
def yX8_reading : MethodName := ⟨RX8, "reading", "(IIII)I"⟩
abbrev cX8_back : ByteArray := prog_10_method_53_code
def yX8_back : MethodName := ⟨RX8, "back", "(I)I"⟩
abbrev cX8_areSo : ByteArray := prog_10_method_54_code
def yX8_areSo : MethodName := ⟨RX8, "areSo", "()Z"⟩
abbrev cX8_kinds : ByteArray := prog_10_method_55_code
def yX8_kinds : MethodName := ⟨RX8, "kinds", "(I)I"⟩
abbrev cX8_walls : ByteArray := prog_10_method_56_code
def yX8_walls : MethodName := ⟨RX8, "walls", "()I"⟩
abbrev cX8_sheet : ByteArray := prog_10_method_57_code
def yX8_sheet : MethodName := ⟨RX8, "sheet", "(III)I"⟩
abbrev cX8_lose : ByteArray := prog_10_method_58_code
def yX8_lose : MethodName := ⟨RX8, "lose", "(I)I"⟩
abbrev cX8_put : ByteArray := prog_10_method_59_code
def yX8_put : MethodName := ⟨RX8, "put", "(III)I"⟩
abbrev cX8_cell : ByteArray := prog_10_method_60_code
def yX8_cell : MethodName := ⟨RX8, "cell", "(III)J"⟩
abbrev cX8_copy : ByteArray := prog_10_method_61_code
def yX8_copy : MethodName := ⟨RX8, "copy", "(IIIII)I"⟩
abbrev cX8_begins : ByteArray := prog_10_method_62_code
def yX8_begins : MethodName := ⟨RX8, "begins", "(I)V"⟩
abbrev cX8_tell : ByteArray := prog_10_method_63_code
def yX8_tell : MethodName := ⟨RX8, "tell", "(I)I"⟩
abbrev cX8_lean : ByteArray := prog_10_method_64_code
def yX8_lean : MethodName := ⟨RX8, "lean", "(I)I"⟩
abbrev cX8_as : ByteArray := prog_10_method_65_code
def yX8_as : MethodName := ⟨RX8, "as", "(II)I"⟩
abbrev cX8_trace : ByteArray := prog_10_method_66_code
def yX8_trace : MethodName := ⟨RX8, "trace", "()I"⟩
abbrev cX8_fault : ByteArray := prog_10_method_67_code
def yX8_fault : MethodName := ⟨RX8, "fault", "()I"⟩
abbrev cX8_many : ByteArray := prog_10_method_68_code
def yX8_many : MethodName := ⟨RX8, "many", "(I)I"⟩
abbrev cX8_walled : ByteArray := prog_10_method_69_code
def yX8_walled : MethodName := ⟨RX8, "walled", "()I"⟩
def RJ9 : String := "java/lang/Math"
def TJ9 : u_T := fun k => match k with
  | _ => ("", "", "", false)
def tyJ9 : Nat → FieldType := fun k => match k with
  | _ => .int
theorem nmJ9 : ∀ a, a < 0 → ∀ b, b < 0 → a ≠ b → (TJ9 a).2.1 ≠ (TJ9 b).2.1 := by decide +kernel
theorem tyJ9_ok : ∀ k, k < 0 → parseFieldDescriptor (TJ9 k).2.2.1 = some (tyJ9 k) := by decide +kernel
abbrev cJ9_max_7cf53 : ByteArray := prog_11_method_65_code
def yJ9_max_7cf53 : MethodName := ⟨RJ9, "max", "(II)I"⟩
abbrev cJ9_min_7cf53 : ByteArray := prog_11_method_69_code
def yJ9_min_7cf53 : MethodName := ⟨RJ9, "min", "(II)I"⟩
def RJ10 : String := "java/lang/System"
def TJ10 : u_T := fun k => match k with
  | _ => ("", "", "", false)
def tyJ10 : Nat → FieldType := fun k => match k with
  | _ => .int
theorem nmJ10 : ∀ a, a < 0 → ∀ b, b < 0 → a ≠ b → (TJ10 a).2.1 ≠ (TJ10 b).2.1 := by decide +kernel
theorem tyJ10_ok : ∀ k, k < 0 → parseFieldDescriptor (TJ10 k).2.2.1 = some (tyJ10 k) := by decide +kernel
def RJ7 : String := "java/util/Arrays"
def TJ7 : u_T := fun k => match k with
  | _ => ("", "", "", false)
def tyJ7 : Nat → FieldType := fun k => match k with
  | _ => .int
theorem nmJ7 : ∀ a, a < 0 → ∀ b, b < 0 → a ≠ b → (TJ7 a).2.1 ≠ (TJ7 b).2.1 := by decide +kernel
theorem tyJ7_ok : ∀ k, k < 0 → parseFieldDescriptor (TJ7 k).2.2.1 = some (tyJ7 k) := by decide +kernel
abbrev cJ7_fill_d0a16 : ByteArray := prog_13_method_101_code
def yJ7_fill_d0a16 : MethodName := ⟨RJ7, "fill", "([JJ)V"⟩
abbrev cJ7_fill_53178 : ByteArray := prog_13_method_103_code
def yJ7_fill_53178 : MethodName := ⟨RJ7, "fill", "([II)V"⟩
def RL : String := "OneWireLaw"
abbrev cL_law : ByteArray := code
def yL_law : MethodName := ⟨RL, "law", "([I)Z"⟩
abbrev vwCl : List vw_C := [(RX0, TX0, 8), (RX1, TX1, 1), (RX2, TX2, 2), (RX3, TX3, 5), (RX4, TX4, 4), (RX5, TX5, 2), (RX6, TX6, 6), (RX7, TX7, 9), (RX8, TX8, 32)]
