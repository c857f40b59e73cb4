section
-- ===== PART A: goes FIRST, ahead of the names: the tables' words, and 'selects' of the private methods out of them =====
/-- a private method of a class that the tables say can be made, by its rows of tables_1 -/
def lw_okq (q : MethodName × Nat) : Prop := (q.1.cls ≠ "java/lang/invoke/MethodHandle" ∧ q.1.cls ≠ "java/lang/invoke/VarHandle") ∧ Cond.instantiable q.1.cls q.2 ∈ tables_1 ∧ Cond.privateMethod q.1 ∈ tables_1 ∧ Cond.instanceMethod q.1 ∈ tables_1
theorem lw_p0 : lw_okq (⟨"OneWire$Sheet", "faultOfCells", "(III)I"⟩, 4) := ⟨⟨by decide +kernel, by decide +kernel⟩, List.mem_of_getElem? (i := 162) (by decide +kernel), List.mem_of_getElem? (i := 222) (by decide +kernel), List.mem_of_getElem? (i := 223) (by decide +kernel)⟩
theorem lw_p1 : lw_okq (⟨"OneWire$Sheet", "hasCells", "(II)Z"⟩, 4) := ⟨⟨by decide +kernel, by decide +kernel⟩, List.mem_of_getElem? (i := 162) (by decide +kernel), List.mem_of_getElem? (i := 226) (by decide +kernel), List.mem_of_getElem? (i := 227) (by decide +kernel)⟩
theorem lw_p2 : lw_okq (⟨"OneWire", "failed", "(I)I"⟩, 9) := ⟨⟨by decide +kernel, by decide +kernel⟩, List.mem_of_getElem? (i := 14) (by decide +kernel), List.mem_of_getElem? (i := 230) (by decide +kernel), List.mem_of_getElem? (i := 231) (by decide +kernel)⟩
theorem lw_p3 : lw_okq (⟨"OneWire$Sheet", "load", "(I)I"⟩, 4) := ⟨⟨by decide +kernel, by decide +kernel⟩, List.mem_of_getElem? (i := 162) (by decide +kernel), List.mem_of_getElem? (i := 237) (by decide +kernel), List.mem_of_getElem? (i := 238) (by decide +kernel)⟩
theorem lw_p4 : lw_okq (⟨"OneWire$Line", "takeText", "(LOneWire$Sheet;II)V"⟩, 8) := ⟨⟨by decide +kernel, by decide +kernel⟩, List.mem_of_getElem? (i := 24) (by decide +kernel), List.mem_of_getElem? (i := 247) (by decide +kernel), List.mem_of_getElem? (i := 248) (by decide +kernel)⟩
theorem lw_p5 : lw_okq (⟨"OneWire$Line", "isPerson", "(I)Z"⟩, 8) := ⟨⟨by decide +kernel, by decide +kernel⟩, List.mem_of_getElem? (i := 24) (by decide +kernel), List.mem_of_getElem? (i := 262) (by decide +kernel), List.mem_of_getElem? (i := 263) (by decide +kernel)⟩
theorem lw_p6 : lw_okq (⟨"OneWire$Line", "isEdge", "(I)Z"⟩, 8) := ⟨⟨by decide +kernel, by decide +kernel⟩, List.mem_of_getElem? (i := 24) (by decide +kernel), List.mem_of_getElem? (i := 270) (by decide +kernel), List.mem_of_getElem? (i := 271) (by decide +kernel)⟩
theorem lw_p7 : lw_okq (⟨"OneWire$Line", "changeGoods", "(I)V"⟩, 8) := ⟨⟨by decide +kernel, by decide +kernel⟩, List.mem_of_getElem? (i := 24) (by decide +kernel), List.mem_of_getElem? (i := 278) (by decide +kernel), List.mem_of_getElem? (i := 279) (by decide +kernel)⟩
theorem lw_p8 : lw_okq (⟨"OneWire$Line", "rightEnd", "(I)I"⟩, 8) := ⟨⟨by decide +kernel, by decide +kernel⟩, List.mem_of_getElem? (i := 24) (by decide +kernel), List.mem_of_getElem? (i := 283) (by decide +kernel), List.mem_of_getElem? (i := 284) (by decide +kernel)⟩
theorem lw_p9 : lw_okq (⟨"OneWire$Spread", "tellFrom", "(LOneWire$Line;II)V"⟩, 2) := ⟨⟨by decide +kernel, by decide +kernel⟩, List.mem_of_getElem? (i := 75) (by decide +kernel), List.mem_of_getElem? (i := 298) (by decide +kernel), List.mem_of_getElem? (i := 299) (by decide +kernel)⟩
theorem lw_p10 : lw_okq (⟨"OneWire$Line", "altered", "(II)I"⟩, 8) := ⟨⟨by decide +kernel, by decide +kernel⟩, List.mem_of_getElem? (i := 24) (by decide +kernel), List.mem_of_getElem? (i := 306) (by decide +kernel), List.mem_of_getElem? (i := 307) (by decide +kernel)⟩
theorem lw_p11 : lw_okq (⟨"OneWire$Spread", "passOn", "(LOneWire$Line;III)V"⟩, 2) := ⟨⟨by decide +kernel, by decide +kernel⟩, List.mem_of_getElem? (i := 75) (by decide +kernel), List.mem_of_getElem? (i := 311) (by decide +kernel), List.mem_of_getElem? (i := 312) (by decide +kernel)⟩
theorem lw_p12 : lw_okq (⟨"OneWire$Line", "edgeOnLeft", "(I)I"⟩, 8) := ⟨⟨by decide +kernel, by decide +kernel⟩, List.mem_of_getElem? (i := 24) (by decide +kernel), List.mem_of_getElem? (i := 315) (by decide +kernel), List.mem_of_getElem? (i := 316) (by decide +kernel)⟩
theorem lw_p13 : lw_okq (⟨"OneWire$Line", "isOpen", "(I)Z"⟩, 8) := ⟨⟨by decide +kernel, by decide +kernel⟩, List.mem_of_getElem? (i := 24) (by decide +kernel), List.mem_of_getElem? (i := 319) (by decide +kernel), List.mem_of_getElem? (i := 320) (by decide +kernel)⟩
theorem lw_p14 : lw_okq (⟨"OneWire$Spread", "hear", "(III)V"⟩, 2) := ⟨⟨by decide +kernel, by decide +kernel⟩, List.mem_of_getElem? (i := 75) (by decide +kernel), List.mem_of_getElem? (i := 323) (by decide +kernel), List.mem_of_getElem? (i := 324) (by decide +kernel)⟩
theorem lw_p15 : lw_okq (⟨"OneWire$Line", "isThere", "()Z"⟩, 8) := ⟨⟨by decide +kernel, by decide +kernel⟩, List.mem_of_getElem? (i := 24) (by decide +kernel), List.mem_of_getElem? (i := 336) (by decide +kernel), List.mem_of_getElem? (i := 337) (by decide +kernel)⟩
def lw_privs_1 : List (MethodName × Nat) := [(⟨"OneWire$Sheet", "faultOfCells", "(III)I"⟩, 4), (⟨"OneWire$Sheet", "hasCells", "(II)Z"⟩, 4), (⟨"OneWire", "failed", "(I)I"⟩, 9), (⟨"OneWire$Sheet", "load", "(I)I"⟩, 4), (⟨"OneWire$Line", "takeText", "(LOneWire$Sheet;II)V"⟩, 8), (⟨"OneWire$Line", "isPerson", "(I)Z"⟩, 8), (⟨"OneWire$Line", "isEdge", "(I)Z"⟩, 8), (⟨"OneWire$Line", "changeGoods", "(I)V"⟩, 8), (⟨"OneWire$Line", "rightEnd", "(I)I"⟩, 8), (⟨"OneWire$Spread", "tellFrom", "(LOneWire$Line;II)V"⟩, 2), (⟨"OneWire$Line", "altered", "(II)I"⟩, 8), (⟨"OneWire$Spread", "passOn", "(LOneWire$Line;III)V"⟩, 2), (⟨"OneWire$Line", "edgeOnLeft", "(I)I"⟩, 8), (⟨"OneWire$Line", "isOpen", "(I)Z"⟩, 8), (⟨"OneWire$Spread", "hear", "(III)V"⟩, 2), (⟨"OneWire$Line", "isThere", "()Z"⟩, 8)]
theorem lw_r1 : ∀ q ∈ lw_privs_1, lw_okq q := List.forall_mem_cons.mpr ⟨lw_p0, List.forall_mem_cons.mpr ⟨lw_p1, List.forall_mem_cons.mpr ⟨lw_p2, List.forall_mem_cons.mpr ⟨lw_p3, List.forall_mem_cons.mpr ⟨lw_p4, List.forall_mem_cons.mpr ⟨lw_p5, List.forall_mem_cons.mpr ⟨lw_p6, List.forall_mem_cons.mpr ⟨lw_p7, List.forall_mem_cons.mpr ⟨lw_p8, List.forall_mem_cons.mpr ⟨lw_p9, List.forall_mem_cons.mpr ⟨lw_p10, List.forall_mem_cons.mpr ⟨lw_p11, List.forall_mem_cons.mpr ⟨lw_p12, List.forall_mem_cons.mpr ⟨lw_p13, List.forall_mem_cons.mpr ⟨lw_p14, List.forall_mem_cons.mpr ⟨lw_p15, fun _ h => absurd h List.not_mem_nil⟩⟩⟩⟩⟩⟩⟩⟩⟩⟩⟩⟩⟩⟩⟩⟩
theorem lw_p16 : lw_okq (⟨"OneWire$Trade", "leastSteps", "(LOneWire$Line;Z)I"⟩, 6) := ⟨⟨by decide +kernel, by decide +kernel⟩, List.mem_of_getElem? (i := 91) (by decide +kernel), List.mem_of_getElem? (i := 340) (by decide +kernel), List.mem_of_getElem? (i := 341) (by decide +kernel)⟩
theorem lw_p17 : lw_okq (⟨"OneWire$Trade", "gatherSteps", "(LOneWire$Line;Z)V"⟩, 6) := ⟨⟨by decide +kernel, by decide +kernel⟩, List.mem_of_getElem? (i := 91) (by decide +kernel), List.mem_of_getElem? (i := 347) (by decide +kernel), List.mem_of_getElem? (i := 348) (by decide +kernel)⟩
theorem lw_p18 : lw_okq (⟨"OneWire$Trade", "meet", "(I)V"⟩, 6) := ⟨⟨by decide +kernel, by decide +kernel⟩, List.mem_of_getElem? (i := 91) (by decide +kernel), List.mem_of_getElem? (i := 359) (by decide +kernel), List.mem_of_getElem? (i := 360) (by decide +kernel)⟩
theorem lw_p19 : lw_okq (⟨"OneWire$Trade", "goOnFrom", "(LOneWire$Line;I)V"⟩, 6) := ⟨⟨by decide +kernel, by decide +kernel⟩, List.mem_of_getElem? (i := 91) (by decide +kernel), List.mem_of_getElem? (i := 363) (by decide +kernel), List.mem_of_getElem? (i := 364) (by decide +kernel)⟩
theorem lw_p20 : lw_okq (⟨"OneWire$Trade", "mustGoOver", "(LOneWire$Line;I)I"⟩, 6) := ⟨⟨by decide +kernel, by decide +kernel⟩, List.mem_of_getElem? (i := 91) (by decide +kernel), List.mem_of_getElem? (i := 378) (by decide +kernel), List.mem_of_getElem? (i := 379) (by decide +kernel)⟩
theorem lw_p21 : lw_okq (⟨"OneWire$Ranks", "readPlaces", "(LOneWire$Line;LOneWire$Sheet;I)Z"⟩, 2) := ⟨⟨by decide +kernel, by decide +kernel⟩, List.mem_of_getElem? (i := 117) (by decide +kernel), List.mem_of_getElem? (i := 389) (by decide +kernel), List.mem_of_getElem? (i := 390) (by decide +kernel)⟩
theorem lw_p22 : lw_okq (⟨"OneWire$Ranks", "firstBar", "(LOneWire$Line;)I"⟩, 2) := ⟨⟨by decide +kernel, by decide +kernel⟩, List.mem_of_getElem? (i := 117) (by decide +kernel), List.mem_of_getElem? (i := 396) (by decide +kernel), List.mem_of_getElem? (i := 397) (by decide +kernel)⟩
theorem lw_p23 : lw_okq (⟨"OneWire$Ranks", "changes", "(LOneWire$Line;)I"⟩, 2) := ⟨⟨by decide +kernel, by decide +kernel⟩, List.mem_of_getElem? (i := 117) (by decide +kernel), List.mem_of_getElem? (i := 403) (by decide +kernel), List.mem_of_getElem? (i := 404) (by decide +kernel)⟩
theorem lw_p24 : lw_okq (⟨"OneWire$Ranks", "howManyCome", "(LOneWire$Line;)I"⟩, 2) := ⟨⟨by decide +kernel, by decide +kernel⟩, List.mem_of_getElem? (i := 117) (by decide +kernel), List.mem_of_getElem? (i := 411) (by decide +kernel), List.mem_of_getElem? (i := 412) (by decide +kernel)⟩
theorem lw_p25 : lw_okq (⟨"OneWire$Pairing", "leastReaders", "(LOneWire$Line;)I"⟩, 1) := ⟨⟨by decide +kernel, by decide +kernel⟩, List.mem_of_getElem? (i := 130) (by decide +kernel), List.mem_of_getElem? (i := 422) (by decide +kernel), List.mem_of_getElem? (i := 423) (by decide +kernel)⟩
theorem lw_p26 : lw_okq (⟨"OneWire$Pairing", "readersWith", "(LOneWire$Line;III)I"⟩, 1) := ⟨⟨by decide +kernel, by decide +kernel⟩, List.mem_of_getElem? (i := 130) (by decide +kernel), List.mem_of_getElem? (i := 429) (by decide +kernel), List.mem_of_getElem? (i := 430) (by decide +kernel)⟩
theorem lw_p27 : lw_okq (⟨"OneWire$Pairing", "mateOf", "(LOneWire$Line;I)I"⟩, 1) := ⟨⟨by decide +kernel, by decide +kernel⟩, List.mem_of_getElem? (i := 130) (by decide +kernel), List.mem_of_getElem? (i := 437) (by decide +kernel), List.mem_of_getElem? (i := 438) (by decide +kernel)⟩
theorem lw_p28 : lw_okq (⟨"OneWire", "hearers", "(II)J"⟩, 9) := ⟨⟨by decide +kernel, by decide +kernel⟩, List.mem_of_getElem? (i := 14) (by decide +kernel), List.mem_of_getElem? (i := 449) (by decide +kernel), List.mem_of_getElem? (i := 450) (by decide +kernel)⟩
theorem lw_p29 : lw_okq (⟨"OneWire$Line", "wayRight", "(II)I"⟩, 8) := ⟨⟨by decide +kernel, by decide +kernel⟩, List.mem_of_getElem? (i := 24) (by decide +kernel), List.mem_of_getElem? (i := 453) (by decide +kernel), List.mem_of_getElem? (i := 454) (by decide +kernel)⟩
theorem lw_p30 : lw_okq (⟨"OneWire", "reaching", "(III)J"⟩, 9) := ⟨⟨by decide +kernel, by decide +kernel⟩, List.mem_of_getElem? (i := 14) (by decide +kernel), List.mem_of_getElem? (i := 458) (by decide +kernel), List.mem_of_getElem? (i := 459) (by decide +kernel)⟩
theorem lw_p31 : lw_okq (⟨"OneWire", "allWhole", "(II)J"⟩, 9) := ⟨⟨by decide +kernel, by decide +kernel⟩, List.mem_of_getElem? (i := 14) (by decide +kernel), List.mem_of_getElem? (i := 462) (by decide +kernel), List.mem_of_getElem? (i := 463) (by decide +kernel)⟩
def lw_privs_2 : List (MethodName × Nat) := [(⟨"OneWire$Trade", "leastSteps", "(LOneWire$Line;Z)I"⟩, 6), (⟨"OneWire$Trade", "gatherSteps", "(LOneWire$Line;Z)V"⟩, 6), (⟨"OneWire$Trade", "meet", "(I)V"⟩, 6), (⟨"OneWire$Trade", "goOnFrom", "(LOneWire$Line;I)V"⟩, 6), (⟨"OneWire$Trade", "mustGoOver", "(LOneWire$Line;I)I"⟩, 6), (⟨"OneWire$Ranks", "readPlaces", "(LOneWire$Line;LOneWire$Sheet;I)Z"⟩, 2), (⟨"OneWire$Ranks", "firstBar", "(LOneWire$Line;)I"⟩, 2), (⟨"OneWire$Ranks", "changes", "(LOneWire$Line;)I"⟩, 2), (⟨"OneWire$Ranks", "howManyCome", "(LOneWire$Line;)I"⟩, 2), (⟨"OneWire$Pairing", "leastReaders", "(LOneWire$Line;)I"⟩, 1), (⟨"OneWire$Pairing", "readersWith", "(LOneWire$Line;III)I"⟩, 1), (⟨"OneWire$Pairing", "mateOf", "(LOneWire$Line;I)I"⟩, 1), (⟨"OneWire", "hearers", "(II)J"⟩, 9), (⟨"OneWire$Line", "wayRight", "(II)I"⟩, 8), (⟨"OneWire", "reaching", "(III)J"⟩, 9), (⟨"OneWire", "allWhole", "(II)J"⟩, 9)]
theorem lw_r2 : ∀ q ∈ lw_privs_2, lw_okq q := List.forall_mem_cons.mpr ⟨lw_p16, List.forall_mem_cons.mpr ⟨lw_p17, List.forall_mem_cons.mpr ⟨lw_p18, List.forall_mem_cons.mpr ⟨lw_p19, List.forall_mem_cons.mpr ⟨lw_p20, List.forall_mem_cons.mpr ⟨lw_p21, List.forall_mem_cons.mpr ⟨lw_p22, List.forall_mem_cons.mpr ⟨lw_p23, List.forall_mem_cons.mpr ⟨lw_p24, List.forall_mem_cons.mpr ⟨lw_p25, List.forall_mem_cons.mpr ⟨lw_p26, List.forall_mem_cons.mpr ⟨lw_p27, List.forall_mem_cons.mpr ⟨lw_p28, List.forall_mem_cons.mpr ⟨lw_p29, List.forall_mem_cons.mpr ⟨lw_p30, List.forall_mem_cons.mpr ⟨lw_p31, fun _ h => absurd h List.not_mem_nil⟩⟩⟩⟩⟩⟩⟩⟩⟩⟩⟩⟩⟩⟩⟩⟩
theorem lw_p32 : lw_okq (⟨"OneWire", "whole", "()J"⟩, 9) := ⟨⟨by decide +kernel, by decide +kernel⟩, List.mem_of_getElem? (i := 14) (by decide +kernel), List.mem_of_getElem? (i := 467) (by decide +kernel), List.mem_of_getElem? (i := 468) (by decide +kernel)⟩
theorem lw_p33 : lw_okq (⟨"OneWire$Readings", "takeOne", "(IIII)I"⟩, 5) := ⟨⟨by decide +kernel, by decide +kernel⟩, List.mem_of_getElem? (i := 140) (by decide +kernel), List.mem_of_getElem? (i := 482) (by decide +kernel), List.mem_of_getElem? (i := 483) (by decide +kernel)⟩
theorem lw_p34 : lw_okq (⟨"OneWire$Readings", "areAllSo", "(LOneWire$Line;LOneWire$Spread;)Z"⟩, 5) := ⟨⟨by decide +kernel, by decide +kernel⟩, List.mem_of_getElem? (i := 140) (by decide +kernel), List.mem_of_getElem? (i := 494) (by decide +kernel), List.mem_of_getElem? (i := 495) (by decide +kernel)⟩
theorem lw_p35 : lw_okq (⟨"OneWire$Sheet", "becomeNew", "(II)V"⟩, 4) := ⟨⟨by decide +kernel, by decide +kernel⟩, List.mem_of_getElem? (i := 162) (by decide +kernel), List.mem_of_getElem? (i := 507) (by decide +kernel), List.mem_of_getElem? (i := 508) (by decide +kernel)⟩
theorem lw_p36 : lw_okq (⟨"OneWire$Sheet", "store", "(II)V"⟩, 4) := ⟨⟨by decide +kernel, by decide +kernel⟩, List.mem_of_getElem? (i := 162) (by decide +kernel), List.mem_of_getElem? (i := 521) (by decide +kernel), List.mem_of_getElem? (i := 522) (by decide +kernel)⟩
theorem lw_p37 : lw_okq (⟨"OneWire", "tellTalker", "(I)I"⟩, 9) := ⟨⟨by decide +kernel, by decide +kernel⟩, List.mem_of_getElem? (i := 14) (by decide +kernel), List.mem_of_getElem? (i := 540) (by decide +kernel), List.mem_of_getElem? (i := 541) (by decide +kernel)⟩
theorem lw_p38 : lw_okq (⟨"OneWire", "leaveTrace", "(I)V"⟩, 9) := ⟨⟨by decide +kernel, by decide +kernel⟩, List.mem_of_getElem? (i := 14) (by decide +kernel), List.mem_of_getElem? (i := 544) (by decide +kernel), List.mem_of_getElem? (i := 545) (by decide +kernel)⟩
theorem lw_p39 : lw_okq (⟨"OneWire", "tellGrudger", "(I)I"⟩, 9) := ⟨⟨by decide +kernel, by decide +kernel⟩, List.mem_of_getElem? (i := 14) (by decide +kernel), List.mem_of_getElem? (i := 548) (by decide +kernel), List.mem_of_getElem? (i := 549) (by decide +kernel)⟩
theorem lw_p40 : lw_okq (⟨"OneWire", "tellPerson", "(I)I"⟩, 9) := ⟨⟨by decide +kernel, by decide +kernel⟩, List.mem_of_getElem? (i := 14) (by decide +kernel), List.mem_of_getElem? (i := 552) (by decide +kernel), List.mem_of_getElem? (i := 553) (by decide +kernel)⟩
theorem lw_p41 : lw_okq (⟨"OneWire$Line", "howManyWalled", "()I"⟩, 8) := ⟨⟨by decide +kernel, by decide +kernel⟩, List.mem_of_getElem? (i := 24) (by decide +kernel), List.mem_of_getElem? (i := 576) (by decide +kernel), List.mem_of_getElem? (i := 577) (by decide +kernel)⟩
theorem lw_p42 : lw_okq (⟨"OneWireModel", "against", "(IIII)I"⟩, 32) := ⟨⟨by decide +kernel, by decide +kernel⟩, List.mem_of_getElem? (i := 580) (by decide +kernel), List.mem_of_getElem? (i := 696) (by decide +kernel), List.mem_of_getElem? (i := 697) (by decide +kernel)⟩
theorem lw_p43 : lw_okq (⟨"OneWireModel", "fails", "(I)I"⟩, 32) := ⟨⟨by decide +kernel, by decide +kernel⟩, List.mem_of_getElem? (i := 580) (by decide +kernel), List.mem_of_getElem? (i := 700) (by decide +kernel), List.mem_of_getElem? (i := 701) (by decide +kernel)⟩
theorem lw_p44 : lw_okq (⟨"OneWireModel", "readWire", "(I)Z"⟩, 32) := ⟨⟨by decide +kernel, by decide +kernel⟩, List.mem_of_getElem? (i := 580) (by decide +kernel), List.mem_of_getElem? (i := 704) (by decide +kernel), List.mem_of_getElem? (i := 705) (by decide +kernel)⟩
theorem lw_p45 : lw_okq (⟨"OneWireModel", "digit", "(III)I"⟩, 32) := ⟨⟨by decide +kernel, by decide +kernel⟩, List.mem_of_getElem? (i := 580) (by decide +kernel), List.mem_of_getElem? (i := 708) (by decide +kernel), List.mem_of_getElem? (i := 709) (by decide +kernel)⟩
theorem lw_p46 : lw_okq (⟨"OneWireModel", "readPerson", "(II)Z"⟩, 32) := ⟨⟨by decide +kernel, by decide +kernel⟩, List.mem_of_getElem? (i := 580) (by decide +kernel), List.mem_of_getElem? (i := 712) (by decide +kernel), List.mem_of_getElem? (i := 713) (by decide +kernel)⟩
theorem lw_p47 : lw_okq (⟨"OneWireModel", "isPerson", "(I)Z"⟩, 32) := ⟨⟨by decide +kernel, by decide +kernel⟩, List.mem_of_getElem? (i := 580) (by decide +kernel), List.mem_of_getElem? (i := 720) (by decide +kernel), List.mem_of_getElem? (i := 721) (by decide +kernel)⟩
def lw_privs_3 : List (MethodName × Nat) := [(⟨"OneWire", "whole", "()J"⟩, 9), (⟨"OneWire$Readings", "takeOne", "(IIII)I"⟩, 5), (⟨"OneWire$Readings", "areAllSo", "(LOneWire$Line;LOneWire$Spread;)Z"⟩, 5), (⟨"OneWire$Sheet", "becomeNew", "(II)V"⟩, 4), (⟨"OneWire$Sheet", "store", "(II)V"⟩, 4), (⟨"OneWire", "tellTalker", "(I)I"⟩, 9), (⟨"OneWire", "leaveTrace", "(I)V"⟩, 9), (⟨"OneWire", "tellGrudger", "(I)I"⟩, 9), (⟨"OneWire", "tellPerson", "(I)I"⟩, 9), (⟨"OneWire$Line", "howManyWalled", "()I"⟩, 8), (⟨"OneWireModel", "against", "(IIII)I"⟩, 32), (⟨"OneWireModel", "fails", "(I)I"⟩, 32), (⟨"OneWireModel", "readWire", "(I)Z"⟩, 32), (⟨"OneWireModel", "digit", "(III)I"⟩, 32), (⟨"OneWireModel", "readPerson", "(II)Z"⟩, 32), (⟨"OneWireModel", "isPerson", "(I)Z"⟩, 32)]
theorem lw_r3 : ∀ q ∈ lw_privs_3, lw_okq q := List.forall_mem_cons.mpr ⟨lw_p32, List.forall_mem_cons.mpr ⟨lw_p33, List.forall_mem_cons.mpr ⟨lw_p34, List.forall_mem_cons.mpr ⟨lw_p35, List.forall_mem_cons.mpr ⟨lw_p36, List.forall_mem_cons.mpr ⟨lw_p37, List.forall_mem_cons.mpr ⟨lw_p38, List.forall_mem_cons.mpr ⟨lw_p39, List.forall_mem_cons.mpr ⟨lw_p40, List.forall_mem_cons.mpr ⟨lw_p41, List.forall_mem_cons.mpr ⟨lw_p42, List.forall_mem_cons.mpr ⟨lw_p43, List.forall_mem_cons.mpr ⟨lw_p44, List.forall_mem_cons.mpr ⟨lw_p45, List.forall_mem_cons.mpr ⟨lw_p46, List.forall_mem_cons.mpr ⟨lw_p47, fun _ h => absurd h List.not_mem_nil⟩⟩⟩⟩⟩⟩⟩⟩⟩⟩⟩⟩⟩⟩⟩⟩
theorem lw_p48 : lw_okq (⟨"OneWireModel", "isEdge", "(I)Z"⟩, 32) := ⟨⟨by decide +kernel, by decide +kernel⟩, List.mem_of_getElem? (i := 580) (by decide +kernel), List.mem_of_getElem? (i := 728) (by decide +kernel), List.mem_of_getElem? (i := 729) (by decide +kernel)⟩
theorem lw_p49 : lw_okq (⟨"OneWireModel", "edges", "()I"⟩, 32) := ⟨⟨by decide +kernel, by decide +kernel⟩, List.mem_of_getElem? (i := 580) (by decide +kernel), List.mem_of_getElem? (i := 732) (by decide +kernel), List.mem_of_getElem? (i := 733) (by decide +kernel)⟩
theorem lw_p50 : lw_okq (⟨"OneWireModel", "isOpen", "(I)Z"⟩, 32) := ⟨⟨by decide +kernel, by decide +kernel⟩, List.mem_of_getElem? (i := 580) (by decide +kernel), List.mem_of_getElem? (i := 736) (by decide +kernel), List.mem_of_getElem? (i := 737) (by decide +kernel)⟩
theorem lw_p51 : lw_okq (⟨"OneWireModel", "farEnd", "(I)I"⟩, 32) := ⟨⟨by decide +kernel, by decide +kernel⟩, List.mem_of_getElem? (i := 580) (by decide +kernel), List.mem_of_getElem? (i := 744) (by decide +kernel), List.mem_of_getElem? (i := 745) (by decide +kernel)⟩
theorem lw_p52 : lw_okq (⟨"OneWireModel", "spread", "(II)V"⟩, 32) := ⟨⟨by decide +kernel, by decide +kernel⟩, List.mem_of_getElem? (i := 580) (by decide +kernel), List.mem_of_getElem? (i := 759) (by decide +kernel), List.mem_of_getElem? (i := 760) (by decide +kernel)⟩
theorem lw_p53 : lw_okq (⟨"OneWireModel", "isBeside", "(II)Z"⟩, 32) := ⟨⟨by decide +kernel, by decide +kernel⟩, List.mem_of_getElem? (i := 580) (by decide +kernel), List.mem_of_getElem? (i := 763) (by decide +kernel), List.mem_of_getElem? (i := 764) (by decide +kernel)⟩
theorem lw_p54 : lw_okq (⟨"OneWireModel", "pass", "(IIII)V"⟩, 32) := ⟨⟨by decide +kernel, by decide +kernel⟩, List.mem_of_getElem? (i := 580) (by decide +kernel), List.mem_of_getElem? (i := 767) (by decide +kernel), List.mem_of_getElem? (i := 768) (by decide +kernel)⟩
theorem lw_p55 : lw_okq (⟨"OneWireModel", "altered", "(II)I"⟩, 32) := ⟨⟨by decide +kernel, by decide +kernel⟩, List.mem_of_getElem? (i := 580) (by decide +kernel), List.mem_of_getElem? (i := 771) (by decide +kernel), List.mem_of_getElem? (i := 772) (by decide +kernel)⟩
theorem lw_p56 : lw_okq (⟨"OneWireModel", "findSteps", "(Z)I"⟩, 32) := ⟨⟨by decide +kernel, by decide +kernel⟩, List.mem_of_getElem? (i := 580) (by decide +kernel), List.mem_of_getElem? (i := 783) (by decide +kernel), List.mem_of_getElem? (i := 784) (by decide +kernel)⟩
theorem lw_p57 : lw_okq (⟨"OneWireModel", "reach", "(II)V"⟩, 32) := ⟨⟨by decide +kernel, by decide +kernel⟩, List.mem_of_getElem? (i := 580) (by decide +kernel), List.mem_of_getElem? (i := 787) (by decide +kernel), List.mem_of_getElem? (i := 788) (by decide +kernel)⟩
theorem lw_p58 : lw_okq (⟨"OneWireModel", "mayBe", "(I)Z"⟩, 32) := ⟨⟨by decide +kernel, by decide +kernel⟩, List.mem_of_getElem? (i := 580) (by decide +kernel), List.mem_of_getElem? (i := 791) (by decide +kernel), List.mem_of_getElem? (i := 792) (by decide +kernel)⟩
theorem lw_p59 : lw_okq (⟨"OneWireModel", "after", "(II)I"⟩, 32) := ⟨⟨by decide +kernel, by decide +kernel⟩, List.mem_of_getElem? (i := 580) (by decide +kernel), List.mem_of_getElem? (i := 795) (by decide +kernel), List.mem_of_getElem? (i := 796) (by decide +kernel)⟩
theorem lw_p60 : lw_okq (⟨"OneWireModel", "exchanged", "(II)I"⟩, 32) := ⟨⟨by decide +kernel, by decide +kernel⟩, List.mem_of_getElem? (i := 580) (by decide +kernel), List.mem_of_getElem? (i := 799) (by decide +kernel), List.mem_of_getElem? (i := 800) (by decide +kernel)⟩
theorem lw_p61 : lw_okq (⟨"OneWireModel", "barred", "()I"⟩, 32) := ⟨⟨by decide +kernel, by decide +kernel⟩, List.mem_of_getElem? (i := 580) (by decide +kernel), List.mem_of_getElem? (i := 818) (by decide +kernel), List.mem_of_getElem? (i := 819) (by decide +kernel)⟩
theorem lw_p62 : lw_okq (⟨"OneWireModel", "changes", "()I"⟩, 32) := ⟨⟨by decide +kernel, by decide +kernel⟩, List.mem_of_getElem? (i := 580) (by decide +kernel), List.mem_of_getElem? (i := 822) (by decide +kernel), List.mem_of_getElem? (i := 823) (by decide +kernel)⟩
theorem lw_p63 : lw_okq (⟨"OneWireModel", "mayStand", "(II)Z"⟩, 32) := ⟨⟨by decide +kernel, by decide +kernel⟩, List.mem_of_getElem? (i := 580) (by decide +kernel), List.mem_of_getElem? (i := 830) (by decide +kernel), List.mem_of_getElem? (i := 831) (by decide +kernel)⟩
def lw_privs_4 : List (MethodName × Nat) := [(⟨"OneWireModel", "isEdge", "(I)Z"⟩, 32), (⟨"OneWireModel", "edges", "()I"⟩, 32), (⟨"OneWireModel", "isOpen", "(I)Z"⟩, 32), (⟨"OneWireModel", "farEnd", "(I)I"⟩, 32), (⟨"OneWireModel", "spread", "(II)V"⟩, 32), (⟨"OneWireModel", "isBeside", "(II)Z"⟩, 32), (⟨"OneWireModel", "pass", "(IIII)V"⟩, 32), (⟨"OneWireModel", "altered", "(II)I"⟩, 32), (⟨"OneWireModel", "findSteps", "(Z)I"⟩, 32), (⟨"OneWireModel", "reach", "(II)V"⟩, 32), (⟨"OneWireModel", "mayBe", "(I)Z"⟩, 32), (⟨"OneWireModel", "after", "(II)I"⟩, 32), (⟨"OneWireModel", "exchanged", "(II)I"⟩, 32), (⟨"OneWireModel", "barred", "()I"⟩, 32), (⟨"OneWireModel", "changes", "()I"⟩, 32), (⟨"OneWireModel", "mayStand", "(II)Z"⟩, 32)]
theorem lw_r4 : ∀ q ∈ lw_privs_4, lw_okq q := List.forall_mem_cons.mpr ⟨lw_p48, List.forall_mem_cons.mpr ⟨lw_p49, List.forall_mem_cons.mpr ⟨lw_p50, List.forall_mem_cons.mpr ⟨lw_p51, List.forall_mem_cons.mpr ⟨lw_p52, List.forall_mem_cons.mpr ⟨lw_p53, List.forall_mem_cons.mpr ⟨lw_p54, List.forall_mem_cons.mpr ⟨lw_p55, List.forall_mem_cons.mpr ⟨lw_p56, List.forall_mem_cons.mpr ⟨lw_p57, List.forall_mem_cons.mpr ⟨lw_p58, List.forall_mem_cons.mpr ⟨lw_p59, List.forall_mem_cons.mpr ⟨lw_p60, List.forall_mem_cons.mpr ⟨lw_p61, List.forall_mem_cons.mpr ⟨lw_p62, List.forall_mem_cons.mpr ⟨lw_p63, fun _ h => absurd h List.not_mem_nil⟩⟩⟩⟩⟩⟩⟩⟩⟩⟩⟩⟩⟩⟩⟩⟩
theorem lw_p64 : lw_okq (⟨"OneWireModel", "layLetters", "()V"⟩, 32) := ⟨⟨by decide +kernel, by decide +kernel⟩, List.mem_of_getElem? (i := 580) (by decide +kernel), List.mem_of_getElem? (i := 838) (by decide +kernel), List.mem_of_getElem? (i := 839) (by decide +kernel)⟩
theorem lw_p65 : lw_okq (⟨"OneWireModel", "readers", "(II)I"⟩, 32) := ⟨⟨by decide +kernel, by decide +kernel⟩, List.mem_of_getElem? (i := 580) (by decide +kernel), List.mem_of_getElem? (i := 842) (by decide +kernel), List.mem_of_getElem? (i := 843) (by decide +kernel)⟩
theorem lw_p66 : lw_okq (⟨"OneWireModel", "mateOf", "(I)I"⟩, 32) := ⟨⟨by decide +kernel, by decide +kernel⟩, List.mem_of_getElem? (i := 580) (by decide +kernel), List.mem_of_getElem? (i := 846) (by decide +kernel), List.mem_of_getElem? (i := 847) (by decide +kernel)⟩
theorem lw_p67 : lw_okq (⟨"OneWireModel", "hearing", "(II)J"⟩, 32) := ⟨⟨by decide +kernel, by decide +kernel⟩, List.mem_of_getElem? (i := 580) (by decide +kernel), List.mem_of_getElem? (i := 856) (by decide +kernel), List.mem_of_getElem? (i := 857) (by decide +kernel)⟩
theorem lw_p68 : lw_okq (⟨"OneWireModel", "reached", "(II)I"⟩, 32) := ⟨⟨by decide +kernel, by decide +kernel⟩, List.mem_of_getElem? (i := 580) (by decide +kernel), List.mem_of_getElem? (i := 860) (by decide +kernel), List.mem_of_getElem? (i := 861) (by decide +kernel)⟩
theorem lw_p69 : lw_okq (⟨"OneWireModel", "areSo", "()Z"⟩, 32) := ⟨⟨by decide +kernel, by decide +kernel⟩, List.mem_of_getElem? (i := 580) (by decide +kernel), List.mem_of_getElem? (i := 883) (by decide +kernel), List.mem_of_getElem? (i := 884) (by decide +kernel)⟩
theorem lw_p70 : lw_okq (⟨"OneWireModel", "lost", "(I)J"⟩, 32) := ⟨⟨by decide +kernel, by decide +kernel⟩, List.mem_of_getElem? (i := 580) (by decide +kernel), List.mem_of_getElem? (i := 907) (by decide +kernel), List.mem_of_getElem? (i := 908) (by decide +kernel)⟩
theorem lw_p71 : lw_okq (⟨"OneWireModel", "begins", "(I)V"⟩, 32) := ⟨⟨by decide +kernel, by decide +kernel⟩, List.mem_of_getElem? (i := 580) (by decide +kernel), List.mem_of_getElem? (i := 919) (by decide +kernel), List.mem_of_getElem? (i := 920) (by decide +kernel)⟩
theorem lw_p72 : lw_okq (⟨"OneWireModel", "walled", "()I"⟩, 32) := ⟨⟨by decide +kernel, by decide +kernel⟩, List.mem_of_getElem? (i := 580) (by decide +kernel), List.mem_of_getElem? (i := 943) (by decide +kernel), List.mem_of_getElem? (i := 944) (by decide +kernel)⟩
def lw_privs_5 : List (MethodName × Nat) := [(⟨"OneWireModel", "layLetters", "()V"⟩, 32), (⟨"OneWireModel", "readers", "(II)I"⟩, 32), (⟨"OneWireModel", "mateOf", "(I)I"⟩, 32), (⟨"OneWireModel", "hearing", "(II)J"⟩, 32), (⟨"OneWireModel", "reached", "(II)I"⟩, 32), (⟨"OneWireModel", "areSo", "()Z"⟩, 32), (⟨"OneWireModel", "lost", "(I)J"⟩, 32), (⟨"OneWireModel", "begins", "(I)V"⟩, 32), (⟨"OneWireModel", "walled", "()I"⟩, 32)]
theorem lw_r5 : ∀ q ∈ lw_privs_5, lw_okq q := List.forall_mem_cons.mpr ⟨lw_p64, List.forall_mem_cons.mpr ⟨lw_p65, List.forall_mem_cons.mpr ⟨lw_p66, List.forall_mem_cons.mpr ⟨lw_p67, List.forall_mem_cons.mpr ⟨lw_p68, List.forall_mem_cons.mpr ⟨lw_p69, List.forall_mem_cons.mpr ⟨lw_p70, List.forall_mem_cons.mpr ⟨lw_p71, List.forall_mem_cons.mpr ⟨lw_p72, fun _ h => absurd h List.not_mem_nil⟩⟩⟩⟩⟩⟩⟩⟩⟩
def lw_privs : List (MethodName × Nat) := lw_privs_1 ++ (lw_privs_2 ++ (lw_privs_3 ++ (lw_privs_4 ++ (lw_privs_5))))
def lw_tbl : List Cond := k2_sels lw_privs ++ tables_1
theorem lw_privs_ok : ∀ q ∈ lw_privs, lw_okq q := by
  show ∀ q ∈ lw_privs_1 ++ (lw_privs_2 ++ (lw_privs_3 ++ (lw_privs_4 ++ (lw_privs_5)))), lw_okq q
  exact List.forall_mem_append.mpr ⟨lw_r1, List.forall_mem_append.mpr ⟨lw_r2, List.forall_mem_append.mpr ⟨lw_r3, List.forall_mem_append.mpr ⟨lw_r4, lw_r5⟩⟩⟩⟩
def RX0 : String := "OneWire$Line"
def TX0 : u_T := fun k => match k with
  | 0 => ("OneWire$Line", "persons", "I", false)
  | 1 => ("OneWire$Line", "edges", "I", false)
  | 2 => ("OneWire$Line", "loop", "Z", false)
  | 3 => ("OneWire$Line", "kind", "[I", true)
  | 4 => ("OneWire$Line", "strength", "[I", true)
  | 5 => ("OneWire$Line", "has", "[I", true)
  | 6 => ("OneWire$Line", "wishes", "[I", true)
  | _ => ("OneWire$Line", "walled", "[Z", true)
def tyX0 : Nat → FieldType := fun k => match k with
  | 0 => .int
  | 1 => .int
  | 2 => .boolean
  | 3 => .array .int
  | 4 => .array .int
  | 5 => .array .int
  | 6 => .array .int
  | _ => .array .boolean
theorem nmX0 : ∀ a, a < 8 → ∀ b, b < 8 → a ≠ b → (TX0 a).2.1 ≠ (TX0 b).2.1 := by decide +kernel
theorem tyX0_ok : ∀ k, k < 8 → parseFieldDescriptor (TX0 k).2.2.1 = some (tyX0 k) := by decide +kernel
abbrev cX0_init : ByteArray := prog_2_method_1_code
def yX0_init : MethodName := ⟨RX0, "<init>", "()V"⟩
abbrev cX0_takeText : ByteArray := prog_2_method_2_code
def yX0_takeText : MethodName := ⟨RX0, "takeText", "(LOneWire$Sheet;II)V"⟩
abbrev cX0_kindOf : ByteArray := prog_2_method_3_code
def yX0_kindOf : MethodName := ⟨RX0, "kindOf", "(I)I"⟩
abbrev cX0_isThere : ByteArray := prog_2_method_4_code
def yX0_isThere : MethodName := ⟨RX0, "isThere", "()Z"⟩
abbrev cX0_isPerson : ByteArray := prog_2_method_5_code
def yX0_isPerson : MethodName := ⟨RX0, "isPerson", "(I)Z"⟩
abbrev cX0_isEdge : ByteArray := prog_2_method_6_code
def yX0_isEdge : MethodName := ⟨RX0, "isEdge", "(I)Z"⟩
abbrev cX0_isOpen : ByteArray := prog_2_method_7_code
def yX0_isOpen : MethodName := ⟨RX0, "isOpen", "(I)Z"⟩
abbrev cX0_rightEnd : ByteArray := prog_2_method_8_code
def yX0_rightEnd : MethodName := ⟨RX0, "rightEnd", "(I)I"⟩
abbrev cX0_edgeOnLeft : ByteArray := prog_2_method_9_code
def yX0_edgeOnLeft : MethodName := ⟨RX0, "edgeOnLeft", "(I)I"⟩
abbrev cX0_howManyWalled : ByteArray := prog_2_method_10_code
def yX0_howManyWalled : MethodName := ⟨RX0, "howManyWalled", "()I"⟩
abbrev cX0_changeGoods : ByteArray := prog_2_method_11_code
def yX0_changeGoods : MethodName := ⟨RX0, "changeGoods", "(I)V"⟩
abbrev cX0_wayRight : ByteArray := prog_2_method_12_code
def yX0_wayRight : MethodName := ⟨RX0, "wayRight", "(II)I"⟩
abbrev cX0_altered : ByteArray := prog_2_method_13_code
def yX0_altered : MethodName := ⟨RX0, "altered", "(II)I"⟩
def RX1 : String := "OneWire$Pairing"
def TX1 : u_T := fun k => match k with
  | _ => ("OneWire$Pairing", "fewestOf", "[I", true)
def tyX1 : Nat → FieldType := fun k => match k with
  | _ => .array .int
theorem nmX1 : ∀ a, a < 1 → ∀ b, b < 1 → a ≠ b → (TX1 a).2.1 ≠ (TX1 b).2.1 := by decide +kernel
theorem tyX1_ok : ∀ k, k < 1 → parseFieldDescriptor (TX1 k).2.2.1 = some (tyX1 k) := by decide +kernel
abbrev cX1_init : ByteArray := prog_3_method_1_code
def yX1_init : MethodName := ⟨RX1, "<init>", "()V"⟩
abbrev cX1_leastReaders : ByteArray := prog_3_method_2_code
def yX1_leastReaders : MethodName := ⟨RX1, "leastReaders", "(LOneWire$Line;)I"⟩
abbrev cX1_readersWith : ByteArray := prog_3_method_3_code
def yX1_readersWith : MethodName := ⟨RX1, "readersWith", "(LOneWire$Line;III)I"⟩
abbrev cX1_between : ByteArray := prog_3_method_4_code
def yX1_between : MethodName := ⟨RX1, "between", "(LOneWire$Line;II)I"⟩
abbrev cX1_leastOf : ByteArray := prog_3_method_5_code
def yX1_leastOf : MethodName := ⟨RX1, "leastOf", "(I)I"⟩
abbrev cX1_mateOf : ByteArray := prog_3_method_6_code
def yX1_mateOf : MethodName := ⟨RX1, "mateOf", "(LOneWire$Line;I)I"⟩
def RX2 : String := "OneWire$Ranks"
def TX2 : u_T := fun k => match k with
  | 0 => ("OneWire$Ranks", "place", "[I", true)
  | _ => ("OneWire$Ranks", "ways", "[I", true)
def tyX2 : Nat → FieldType := fun k => match k with
  | 0 => .array .int
  | _ => .array .int
theorem nmX2 : ∀ a, a < 2 → ∀ b, b < 2 → a ≠ b → (TX2 a).2.1 ≠ (TX2 b).2.1 := by decide +kernel
theorem tyX2_ok : ∀ k, k < 2 → parseFieldDescriptor (TX2 k).2.2.1 = some (tyX2 k) := by decide +kernel
abbrev cX2_init : ByteArray := prog_4_method_1_code
def yX2_init : MethodName := ⟨RX2, "<init>", "()V"⟩
abbrev cX2_readPlaces : ByteArray := prog_4_method_2_code
def yX2_readPlaces : MethodName := ⟨RX2, "readPlaces", "(LOneWire$Line;LOneWire$Sheet;I)Z"⟩
abbrev cX2_mayChange : ByteArray := prog_4_method_3_code
def yX2_mayChange : MethodName := ⟨RX2, "mayChange", "(LOneWire$Line;II)Z"⟩
abbrev cX2_firstBar : ByteArray := prog_4_method_4_code
def yX2_firstBar : MethodName := ⟨RX2, "firstBar", "(LOneWire$Line;)I"⟩
abbrev cX2_changes : ByteArray := prog_4_method_5_code
def yX2_changes : MethodName := ⟨RX2, "changes", "(LOneWire$Line;)I"⟩
abbrev cX2_howManyCome : ByteArray := prog_4_method_6_code
def yX2_howManyCome : MethodName := ⟨RX2, "howManyCome", "(LOneWire$Line;)I"⟩
abbrev cX2_mustBeAhead : ByteArray := prog_4_method_7_code
def yX2_mustBeAhead : MethodName := ⟨RX2, "mustBeAhead", "(LOneWire$Line;I)I"⟩
def RX3 : String := "OneWire$Readings"
def TX3 : u_T := fun k => match k with
  | 0 => ("OneWire$Readings", "count", "I", false)
  | 1 => ("OneWire$Readings", "teller", "[I", true)
  | 2 => ("OneWire$Readings", "told", "[I", true)
  | 3 => ("OneWire$Readings", "hearer", "[I", true)
  | _ => ("OneWire$Readings", "had", "[I", true)
def tyX3 : Nat → FieldType := fun k => match k with
  | 0 => .int
  | 1 => .array .int
  | 2 => .array .int
  | 3 => .array .int
  | _ => .array .int
theorem nmX3 : ∀ a, a < 5 → ∀ b, b < 5 → a ≠ b → (TX3 a).2.1 ≠ (TX3 b).2.1 := by decide +kernel
theorem tyX3_ok : ∀ k, k < 5 → parseFieldDescriptor (TX3 k).2.2.1 = some (tyX3 k) := by decide +kernel
abbrev cX3_init : ByteArray := prog_5_method_1_code
def yX3_init : MethodName := ⟨RX3, "<init>", "()V"⟩
abbrev cX3_takeOne : ByteArray := prog_5_method_2_code
def yX3_takeOne : MethodName := ⟨RX3, "takeOne", "(IIII)I"⟩
abbrev cX3_areAllSo : ByteArray := prog_5_method_3_code
def yX3_areAllSo : MethodName := ⟨RX3, "areAllSo", "(LOneWire$Line;LOneWire$Spread;)Z"⟩
def RX4 : String := "OneWire$Sheet"
def TX4 : u_T := fun k => match k with
  | 0 => ("OneWire$Sheet", "there", "Z", false)
  | 1 => ("OneWire$Sheet", "lane", "I", false)
  | 2 => ("OneWire$Sheet", "length", "I", false)
  | _ => ("OneWire$Sheet", "cells", "[I", true)
def tyX4 : Nat → FieldType := fun k => match k with
  | 0 => .boolean
  | 1 => .int
  | 2 => .int
  | _ => .array .int
theorem nmX4 : ∀ a, a < 4 → ∀ b, b < 4 → a ≠ b → (TX4 a).2.1 ≠ (TX4 b).2.1 := by decide +kernel
theorem tyX4_ok : ∀ k, k < 4 → parseFieldDescriptor (TX4 k).2.2.1 = some (tyX4 k) := by decide +kernel
abbrev cX4_init : ByteArray := prog_6_method_1_code
def yX4_init : MethodName := ⟨RX4, "<init>", "()V"⟩
abbrev cX4_becomeNew : ByteArray := prog_6_method_2_code
def yX4_becomeNew : MethodName := ⟨RX4, "becomeNew", "(II)V"⟩
abbrev cX4_hasCells : ByteArray := prog_6_method_3_code
def yX4_hasCells : MethodName := ⟨RX4, "hasCells", "(II)Z"⟩
abbrev cX4_faultOfCells : ByteArray := prog_6_method_4_code
def yX4_faultOfCells : MethodName := ⟨RX4, "faultOfCells", "(III)I"⟩
abbrev cX4_load : ByteArray := prog_6_method_5_code
def yX4_load : MethodName := ⟨RX4, "load", "(I)I"⟩
abbrev cX4_store : ByteArray := prog_6_method_6_code
def yX4_store : MethodName := ⟨RX4, "store", "(II)V"⟩
def RX5 : String := "OneWire$Spread"
def TX5 : u_T := fun k => match k with
  | 0 => ("OneWire$Spread", "value", "[I", true)
  | _ => ("OneWire$Spread", "day", "[I", true)
def tyX5 : Nat → FieldType := fun k => match k with
  | 0 => .array .int
  | _ => .array .int
theorem nmX5 : ∀ a, a < 2 → ∀ b, b < 2 → a ≠ b → (TX5 a).2.1 ≠ (TX5 b).2.1 := by decide +kernel
theorem tyX5_ok : ∀ k, k < 2 → parseFieldDescriptor (TX5 k).2.2.1 = some (tyX5 k) := by decide +kernel
abbrev cX5_init : ByteArray := prog_7_method_1_code
def yX5_init : MethodName := ⟨RX5, "<init>", "()V"⟩
abbrev cX5_tellFrom : ByteArray := prog_7_method_2_code
def yX5_tellFrom : MethodName := ⟨RX5, "tellFrom", "(LOneWire$Line;II)V"⟩
abbrev cX5_passOn : ByteArray := prog_7_method_3_code
def yX5_passOn : MethodName := ⟨RX5, "passOn", "(LOneWire$Line;III)V"⟩
abbrev cX5_hear : ByteArray := prog_7_method_4_code
def yX5_hear : MethodName := ⟨RX5, "hear", "(III)V"⟩
def RX6 : String := "OneWire$Trade"
def TX6 : u_T := fun k => match k with
  | 0 => ("OneWire$Trade", "seen", "[J", true)
  | 1 => ("OneWire$Trade", "queue", "[I", true)
  | 2 => ("OneWire$Trade", "queued", "I", false)
  | 3 => ("OneWire$Trade", "steps", "[I", true)
  | 4 => ("OneWire$Trade", "howManySteps", "I", false)
  | _ => ("OneWire$Trade", "turned", "[I", true)
def tyX6 : Nat → FieldType := fun k => match k with
  | 0 => .array .long
  | 1 => .array .int
  | 2 => .int
  | 3 => .array .int
  | 4 => .int
  | _ => .array .int
theorem nmX6 : ∀ a, a < 6 → ∀ b, b < 6 → a ≠ b → (TX6 a).2.1 ≠ (TX6 b).2.1 := by decide +kernel
theorem tyX6_ok : ∀ k, k < 6 → parseFieldDescriptor (TX6 k).2.2.1 = some (tyX6 k) := by decide +kernel
abbrev cX6_init : ByteArray := prog_8_method_1_code
def yX6_init : MethodName := ⟨RX6, "<init>", "()V"⟩
abbrev cX6_leastSteps : ByteArray := prog_8_method_2_code
def yX6_leastSteps : MethodName := ⟨RX6, "leastSteps", "(LOneWire$Line;Z)I"⟩
abbrev cX6_held : ByteArray := prog_8_method_3_code
def yX6_held : MethodName := ⟨RX6, "held", "([II)I"⟩
abbrev cX6_gatherSteps : ByteArray := prog_8_method_4_code
def yX6_gatherSteps : MethodName := ⟨RX6, "gatherSteps", "(LOneWire$Line;Z)V"⟩
abbrev cX6_isOneDay : ByteArray := prog_8_method_5_code
def yX6_isOneDay : MethodName := ⟨RX6, "isOneDay", "(LOneWire$Line;I)Z"⟩
abbrev cX6_goOnFrom : ByteArray := prog_8_method_6_code
def yX6_goOnFrom : MethodName := ⟨RX6, "goOnFrom", "(LOneWire$Line;I)V"⟩
abbrev cX6_turnedBy : ByteArray := prog_8_method_7_code
def yX6_turnedBy : MethodName := ⟨RX6, "turnedBy", "(III)I"⟩
abbrev cX6_meet : ByteArray := prog_8_method_8_code
def yX6_meet : MethodName := ⟨RX6, "meet", "(I)V"⟩
abbrev cX6_mustGoOver : ByteArray := prog_8_method_9_code
def yX6_mustGoOver : MethodName := ⟨RX6, "mustGoOver", "(LOneWire$Line;I)I"⟩
def RX7 : String := "OneWire"
def TX7 : u_T := fun k => match k with
  | 0 => ("OneWire", "sheets", "[LOneWire$Sheet;", true)
  | 1 => ("OneWire", "line", "LOneWire$Line;", true)
  | 2 => ("OneWire", "spread", "LOneWire$Spread;", true)
  | 3 => ("OneWire", "trade", "LOneWire$Trade;", true)
  | 4 => ("OneWire", "ranks", "LOneWire$Ranks;", true)
  | 5 => ("OneWire", "pairing", "LOneWire$Pairing;", true)
  | 6 => ("OneWire", "readings", "LOneWire$Readings;", true)
  | 7 => ("OneWire", "traced", "I", false)
  | _ => ("OneWire", "latestFault", "I", false)
def tyX7 : Nat → FieldType := fun k => match k with
  | 0 => .array (.object "OneWire$Sheet")
  | 1 => .object "OneWire$Line"
  | 2 => .object "OneWire$Spread"
  | 3 => .object "OneWire$Trade"
  | 4 => .object "OneWire$Ranks"
  | 5 => .object "OneWire$Pairing"
  | 6 => .object "OneWire$Readings"
  | 7 => .int
  | _ => .int
theorem nmX7 : ∀ a, a < 9 → ∀ b, b < 9 → a ≠ b → (TX7 a).2.1 ≠ (TX7 b).2.1 := by decide +kernel
theorem tyX7_ok : ∀ k, k < 9 → parseFieldDescriptor (TX7 k).2.2.1 = some (tyX7 k) := by decide +kernel
abbrev cX7_init : ByteArray := prog_1_method_1_code
def yX7_init : MethodName := ⟨RX7, "<init>", "()V"⟩
abbrev cX7_wire : ByteArray := prog_1_method_2_code
def yX7_wire : MethodName := ⟨RX7, "wire", "(IIII)I"⟩
abbrev cX7_ofPerson : ByteArray := prog_1_method_3_code
def yX7_ofPerson : MethodName := ⟨RX7, "ofPerson", "(II)I"⟩
abbrev cX7_grudge : ByteArray := prog_1_method_4_code
def yX7_grudge : MethodName := ⟨RX7, "grudge", "(IZ)I"⟩
abbrev cX7_hand : ByteArray := prog_1_method_5_code
def yX7_hand : MethodName := ⟨RX7, "hand", "(I)I"⟩
abbrev cX7_wish : ByteArray := prog_1_method_6_code
def yX7_wish : MethodName := ⟨RX7, "wish", "(II)I"⟩
abbrev cX7_news : ByteArray := prog_1_method_7_code
def yX7_news : MethodName := ⟨RX7, "news", "(IIII)I"⟩
abbrev cX7_said : ByteArray := prog_1_method_8_code
def yX7_said : MethodName := ⟨RX7, "said", "(IIII)I"⟩
abbrev cX7_fewest : ByteArray := prog_1_method_9_code
def yX7_fewest : MethodName := ⟨RX7, "fewest", "()I"⟩
abbrev cX7_soonest : ByteArray := prog_1_method_10_code
def yX7_soonest : MethodName := ⟨RX7, "soonest", "()I"⟩
abbrev cX7_cut : ByteArray := prog_1_method_11_code
def yX7_cut : MethodName := ⟨RX7, "cut", "(I)I"⟩
abbrev cX7_order : ByteArray := prog_1_method_12_code
def yX7_order : MethodName := ⟨RX7, "order", "(IIIII)I"⟩
abbrev cX7_coming : ByteArray := prog_1_method_13_code
def yX7_coming : MethodName := ⟨RX7, "coming", "()I"⟩
abbrev cX7_letters : ByteArray := prog_1_method_14_code
def yX7_letters : MethodName := ⟨RX7, "letters", "(I)I"⟩
abbrev cX7_heard : ByteArray := prog_1_method_15_code
def yX7_heard : MethodName := ⟨RX7, "heard", "(III)J"⟩
abbrev cX7_stand : ByteArray := prog_1_method_16_code
def yX7_stand : MethodName := ⟨RX7, "stand", "(I)I"⟩
abbrev cX7_reading : ByteArray := prog_1_method_17_code
def yX7_reading : MethodName := ⟨RX7, "reading", "(IIII)I"⟩
abbrev cX7_back : ByteArray := prog_1_method_18_code
def yX7_back : MethodName := ⟨RX7, "back", "(I)I"⟩
abbrev cX7_kinds : ByteArray := prog_1_method_19_code
def yX7_kinds : MethodName := ⟨RX7, "kinds", "(I)I"⟩
abbrev cX7_walls : ByteArray := prog_1_method_20_code
def yX7_walls : MethodName := ⟨RX7, "walls", "()I"⟩
abbrev cX7_sheet : ByteArray := prog_1_method_21_code
def yX7_sheet : MethodName := ⟨RX7, "sheet", "(III)I"⟩
abbrev cX7_lose : ByteArray := prog_1_method_22_code
def yX7_lose : MethodName := ⟨RX7, "lose", "(I)I"⟩
abbrev cX7_put : ByteArray := prog_1_method_23_code
def yX7_put : MethodName := ⟨RX7, "put", "(III)I"⟩
abbrev cX7_cell : ByteArray := prog_1_method_24_code
def yX7_cell : MethodName := ⟨RX7, "cell", "(III)J"⟩
abbrev cX7_copy : ByteArray := prog_1_method_25_code
def yX7_copy : MethodName := ⟨RX7, "copy", "(IIIII)I"⟩
abbrev cX7_tell : ByteArray := prog_1_method_26_code
def yX7_tell : MethodName := ⟨RX7, "tell", "(I)I"⟩
abbrev cX7_lean : ByteArray := prog_1_method_27_code
def yX7_lean : MethodName := ⟨RX7, "lean", "(I)I"⟩
abbrev cX7_as : ByteArray := prog_1_method_28_code
def yX7_as : MethodName := ⟨RX7, "as", "(II)I"⟩
abbrev cX7_trace : ByteArray := prog_1_method_29_code
def yX7_trace : MethodName := ⟨RX7, "trace", "()I"⟩
abbrev cX7_fault : ByteArray := prog_1_method_30_code
def yX7_fault : MethodName := ⟨RX7, "fault", "()I"⟩
abbrev cX7_many : ByteArray := prog_1_method_31_code
def yX7_many : MethodName := ⟨RX7, "many", "(I)I"⟩
abbrev cX7_failed : ByteArray := prog_1_method_32_code
def yX7_failed : MethodName := ⟨RX7, "failed", "(I)I"⟩
abbrev cX7_isSheet : ByteArray := prog_1_method_33_code
def yX7_isSheet : MethodName := ⟨RX7, "isSheet", "(I)Z"⟩
abbrev cX7_isLane : ByteArray := prog_1_method_34_code
def yX7_isLane : MethodName := ⟨RX7, "isLane", "(I)Z"⟩
abbrev cX7_isNumber : ByteArray := prog_1_method_35_code
def yX7_isNumber : MethodName := ⟨RX7, "isNumber", "(I)Z"⟩
abbrev cX7_isTenths : ByteArray := prog_1_method_36_code
def yX7_isTenths : MethodName := ⟨RX7, "isTenths", "(I)Z"⟩
abbrev cX7_firstFault : ByteArray := prog_1_method_37_code
def yX7_firstFault : MethodName := ⟨RX7, "firstFault", "(LOneWire$Sheet;II)I"⟩
abbrev cX7_goesOn : ByteArray := prog_1_method_38_code
def yX7_goesOn : MethodName := ⟨RX7, "goesOn", "(II)Z"⟩
abbrev cX7_isDigit : ByteArray := prog_1_method_39_code
def yX7_isDigit : MethodName := ⟨RX7, "isDigit", "(II)Z"⟩
abbrev cX7_hearers : ByteArray := prog_1_method_40_code
def yX7_hearers : MethodName := ⟨RX7, "hearers", "(II)J"⟩
abbrev cX7_reaching : ByteArray := prog_1_method_41_code
def yX7_reaching : MethodName := ⟨RX7, "reaching", "(III)J"⟩
abbrev cX7_allWhole : ByteArray := prog_1_method_42_code
def yX7_allWhole : MethodName := ⟨RX7, "allWhole", "(II)J"⟩
abbrev cX7_whole : ByteArray := prog_1_method_43_code
def yX7_whole : MethodName := ⟨RX7, "whole", "()J"⟩
abbrev cX7_commonDivisor : ByteArray := prog_1_method_44_code
def yX7_commonDivisor : MethodName := ⟨RX7, "commonDivisor", "(JJ)J"⟩
abbrev cX7_leaveTrace : ByteArray := prog_1_method_45_code
def yX7_leaveTrace : MethodName := ⟨RX7, "leaveTrace", "(I)V"⟩
abbrev cX7_tellPerson : ByteArray := prog_1_method_46_code
def yX7_tellPerson : MethodName := ⟨RX7, "tellPerson", "(I)I"⟩
abbrev cX7_tellGrudger : ByteArray := prog_1_method_47_code
def yX7_tellGrudger : MethodName := ⟨RX7, "tellGrudger", "(I)I"⟩
abbrev cX7_tellTalker : ByteArray := prog_1_method_48_code
def yX7_tellTalker : MethodName := ⟨RX7, "tellTalker", "(I)I"⟩
def RX8 : String := "OneWireModel"
def TX8 : u_T := fun k => match k with
  | 0 => ("OneWireModel", "fault", "I", false)
  | 1 => ("OneWireModel", "trace", "I", false)
  | 2 => ("OneWireModel", "sorts", "[I", true)
  | 3 => ("OneWireModel", "sheetLong", "[I", true)
  | 4 => ("OneWireModel", "cells", "[I", true)
  | 5 => ("OneWireModel", "persons", "I", false)
  | 6 => ("OneWireModel", "isLoop", "Z", false)
  | 7 => ("OneWireModel", "grudges", "I", false)
  | 8 => ("OneWireModel", "kind", "[I", true)
  | 9 => ("OneWireModel", "strength", "[I", true)
  | 10 => ("OneWireModel", "good", "[I", true)
  | 11 => ("OneWireModel", "wished", "[I", true)
  | 12 => ("OneWireModel", "at", "I", false)
  | 13 => ("OneWireModel", "readMany", "I", false)
  | 14 => ("OneWireModel", "readLoop", "I", false)
  | 15 => ("OneWireModel", "readKind", "[I", true)
  | 16 => ("OneWireModel", "readStrength", "[I", true)
  | 17 => ("OneWireModel", "readGood", "[I", true)
  | 18 => ("OneWireModel", "readWish", "[I", true)
  | 19 => ("OneWireModel", "has", "[I", true)
  | 20 => ("OneWireModel", "since", "[I", true)
  | 21 => ("OneWireModel", "steps", "[I", true)
  | 22 => ("OneWireModel", "queue", "[I", true)
  | 23 => ("OneWireModel", "many", "I", false)
  | 24 => ("OneWireModel", "placeOf", "[I", true)
  | 25 => ("OneWireModel", "ways", "[I", true)
  | 26 => ("OneWireModel", "leastOf", "[I", true)
  | 27 => ("OneWireModel", "readings", "I", false)
  | 28 => ("OneWireModel", "readFrom", "[I", true)
  | 29 => ("OneWireModel", "readSaid", "[I", true)
  | 30 => ("OneWireModel", "readTo", "[I", true)
  | _ => ("OneWireModel", "readHeard", "[I", true)
def tyX8 : Nat → FieldType := fun k => match k with
  | 0 => .int
  | 1 => .int
  | 2 => .array .int
  | 3 => .array .int
  | 4 => .array .int
  | 5 => .int
  | 6 => .boolean
  | 7 => .int
  | 8 => .array .int
  | 9 => .array .int
  | 10 => .array .int
  | 11 => .array .int
  | 12 => .int
  | 13 => .int
  | 14 => .int
  | 15 => .array .int
  | 16 => .array .int
  | 17 => .array .int
  | 18 => .array .int
  | 19 => .array .int
  | 20 => .array .int
  | 21 => .array .int
  | 22 => .array .int
  | 23 => .int
  | 24 => .array .int
  | 25 => .array .int
  | 26 => .array .int
  | 27 => .int
  | 28 => .array .int
  | 29 => .array .int
  | 30 => .array .int
  | _ => .array .int
theorem nmX8 : ∀ a, a < 32 → ∀ b, b < 32 → a ≠ b → (TX8 a).2.1 ≠ (TX8 b).2.1 := by decide +kernel
theorem tyX8_ok : ∀ k, k < 32 → parseFieldDescriptor (TX8 k).2.2.1 = some (tyX8 k) := by decide +kernel
abbrev cX8_init : ByteArray := prog_10_method_1_code
def yX8_init : MethodName := ⟨RX8, "<init>", "()V"⟩
abbrev cX8_fails : ByteArray := prog_10_method_3_code
def yX8_fails : MethodName := ⟨RX8, "fails", "(I)I"⟩
abbrev cX8_lost : ByteArray := prog_10_method_4_code
def yX8_lost : MethodName := ⟨RX8, "lost", "(I)J"⟩
abbrev cX8_within : ByteArray := prog_10_method_5_code
def yX8_within : MethodName := ⟨RX8, "within", "(III)Z"⟩
abbrev cX8_isSheet : ByteArray := prog_10_method_6_code
def yX8_isSheet : MethodName := ⟨RX8, "isSheet", "(I)Z"⟩
abbrev cX8_isSort : ByteArray := prog_10_method_7_code
def yX8_isSort : MethodName := ⟨RX8, "isSort", "(I)Z"⟩
abbrev cX8_against : ByteArray := prog_10_method_8_code
def yX8_against : MethodName := ⟨RX8, "against", "(IIII)I"⟩
abbrev cX8_isPerson : ByteArray := prog_10_method_9_code
def yX8_isPerson : MethodName := ⟨RX8, "isPerson", "(I)Z"⟩
abbrev cX8_edges : ByteArray := prog_10_method_10_code
def yX8_edges : MethodName := ⟨RX8, "edges", "()I"⟩
abbrev cX8_isEdge : ByteArray := prog_10_method_11_code
def yX8_isEdge : MethodName := ⟨RX8, "isEdge", "(I)Z"⟩
abbrev cX8_farEnd : ByteArray := prog_10_method_12_code
def yX8_farEnd : MethodName := ⟨RX8, "farEnd", "(I)I"⟩
abbrev cX8_isOpen : ByteArray := prog_10_method_13_code
def yX8_isOpen : MethodName := ⟨RX8, "isOpen", "(I)Z"⟩
abbrev cX8_digit : ByteArray := prog_10_method_14_code
def yX8_digit : MethodName := ⟨RX8, "digit", "(III)I"⟩
abbrev cX8_wire : ByteArray := prog_10_method_15_code
def yX8_wire : MethodName := ⟨RX8, "wire", "(IIII)I"⟩
abbrev cX8_readWire : ByteArray := prog_10_method_16_code
def yX8_readWire : MethodName := ⟨RX8, "readWire", "(I)Z"⟩
abbrev cX8_readPerson : ByteArray := prog_10_method_17_code
def yX8_readPerson : MethodName := ⟨RX8, "readPerson", "(II)Z"⟩
abbrev cX8_ofPerson : ByteArray := prog_10_method_18_code
def yX8_ofPerson : MethodName := ⟨RX8, "ofPerson", "(II)I"⟩
abbrev cX8_grudge : ByteArray := prog_10_method_19_code
def yX8_grudge : MethodName := ⟨RX8, "grudge", "(IZ)I"⟩
abbrev cX8_hand : ByteArray := prog_10_method_20_code
def yX8_hand : MethodName := ⟨RX8, "hand", "(I)I"⟩
abbrev cX8_wish : ByteArray := prog_10_method_21_code
def yX8_wish : MethodName := ⟨RX8, "wish", "(II)I"⟩
abbrev cX8_altered : ByteArray := prog_10_method_22_code
def yX8_altered : MethodName := ⟨RX8, "altered", "(II)I"⟩
abbrev cX8_pass : ByteArray := prog_10_method_23_code
def yX8_pass : MethodName := ⟨RX8, "pass", "(IIII)V"⟩
abbrev cX8_isBeside : ByteArray := prog_10_method_24_code
def yX8_isBeside : MethodName := ⟨RX8, "isBeside", "(II)Z"⟩
abbrev cX8_spread : ByteArray := prog_10_method_25_code
def yX8_spread : MethodName := ⟨RX8, "spread", "(II)V"⟩
abbrev cX8_isNumber : ByteArray := prog_10_method_26_code
def yX8_isNumber : MethodName := ⟨RX8, "isNumber", "(I)Z"⟩
abbrev cX8_news : ByteArray := prog_10_method_27_code
def yX8_news : MethodName := ⟨RX8, "news", "(IIII)I"⟩
abbrev cX8_said : ByteArray := prog_10_method_28_code
def yX8_said : MethodName := ⟨RX8, "said", "(IIII)I"⟩
abbrev cX8_goodIn : ByteArray := prog_10_method_29_code
def yX8_goodIn : MethodName := ⟨RX8, "goodIn", "(II)I"⟩
abbrev cX8_exchanged : ByteArray := prog_10_method_30_code
def yX8_exchanged : MethodName := ⟨RX8, "exchanged", "(II)I"⟩
abbrev cX8_mayBe : ByteArray := prog_10_method_31_code
def yX8_mayBe : MethodName := ⟨RX8, "mayBe", "(I)Z"⟩
abbrev cX8_after : ByteArray := prog_10_method_32_code
def yX8_after : MethodName := ⟨RX8, "after", "(II)I"⟩
abbrev cX8_reach : ByteArray := prog_10_method_33_code
def yX8_reach : MethodName := ⟨RX8, "reach", "(II)V"⟩
abbrev cX8_findSteps : ByteArray := prog_10_method_34_code
def yX8_findSteps : MethodName := ⟨RX8, "findSteps", "(Z)I"⟩
abbrev cX8_fewest : ByteArray := prog_10_method_35_code
def yX8_fewest : MethodName := ⟨RX8, "fewest", "()I"⟩
abbrev cX8_soonest : ByteArray := prog_10_method_36_code
def yX8_soonest : MethodName := ⟨RX8, "soonest", "()I"⟩
abbrev cX8_cut : ByteArray := prog_10_method_37_code
def yX8_cut : MethodName := ⟨RX8, "cut", "(I)I"⟩
abbrev cX8_order : ByteArray := prog_10_method_38_code
def yX8_order : MethodName := ⟨RX8, "order", "(IIIII)I"⟩
abbrev cX8_changes : ByteArray := prog_10_method_39_code
def yX8_changes : MethodName := ⟨RX8, "changes", "()I"⟩
abbrev cX8_barred : ByteArray := prog_10_method_40_code
def yX8_barred : MethodName := ⟨RX8, "barred", "()I"⟩
abbrev cX8_mayStand : ByteArray := prog_10_method_41_code
def yX8_mayStand : MethodName := ⟨RX8, "mayStand", "(II)Z"⟩
abbrev cX8_coming : ByteArray := prog_10_method_42_code
def yX8_coming : MethodName := ⟨RX8, "coming", "()I"⟩
abbrev cX8_readers : ByteArray := prog_10_method_43_code
def yX8_readers : MethodName := ⟨RX8, "readers", "(II)I"⟩
abbrev cX8_layLetters : ByteArray := prog_10_method_44_code
def yX8_layLetters : MethodName := ⟨RX8, "layLetters", "()V"⟩
abbrev cX8_mateOf : ByteArray := prog_10_method_45_code
def yX8_mateOf : MethodName := ⟨RX8, "mateOf", "(I)I"⟩
abbrev cX8_letters : ByteArray := prog_10_method_46_code
def yX8_letters : MethodName := ⟨RX8, "letters", "(I)I"⟩
abbrev cX8_reached : ByteArray := prog_10_method_47_code
def yX8_reached : MethodName := ⟨RX8, "reached", "(II)I"⟩
abbrev cX8_hearing : ByteArray := prog_10_method_48_code
def yX8_hearing : MethodName := ⟨RX8, "hearing", "(II)J"⟩
abbrev cX8_inLeastTerms : ByteArray := prog_10_method_49_code
def yX8_inLeastTerms : MethodName := ⟨RX8, "inLeastTerms", "(JJI)J"⟩
abbrev cX8_heard : ByteArray := prog_10_method_50_code
def yX8_heard : MethodName := ⟨RX8, "heard", "(III)J"⟩
abbrev cX8_stand : ByteArray := prog_10_method_51_code
def yX8_stand : MethodName := ⟨RX8, "stand", "(I)I"⟩
abbrev cX8_reading : ByteArray := prog_10_method_52_code
def yX8_reading : MethodName := ⟨RX8, "reading", "(IIII)I"⟩
abbrev cX8_back : ByteArray := prog_10_method_53_code
def yX8_back : MethodName := ⟨RX8, "back", "(I)I"⟩
abbrev cX8_areSo : ByteArray := prog_10_method_54_code
def yX8_areSo : MethodName := ⟨RX8, "areSo", "()Z"⟩
abbrev cX8_kinds : ByteArray := prog_10_method_55_code
def yX8_kinds : MethodName := ⟨RX8, "kinds", "(I)I"⟩
abbrev cX8_walls : ByteArray := prog_10_method_56_code
def yX8_walls : MethodName := ⟨RX8, "walls", "()I"⟩
abbrev cX8_sheet : ByteArray := prog_10_method_57_code
def yX8_sheet : MethodName := ⟨RX8, "sheet", "(III)I"⟩
abbrev cX8_lose : ByteArray := prog_10_method_58_code
def yX8_lose : MethodName := ⟨RX8, "lose", "(I)I"⟩
abbrev cX8_put : ByteArray := prog_10_method_59_code
def yX8_put : MethodName := ⟨RX8, "put", "(III)I"⟩
abbrev cX8_cell : ByteArray := prog_10_method_60_code
def yX8_cell : MethodName := ⟨RX8, "cell", "(III)J"⟩
abbrev cX8_copy : ByteArray := prog_10_method_61_code
def yX8_copy : MethodName := ⟨RX8, "copy", "(IIIII)I"⟩
abbrev cX8_begins : ByteArray := prog_10_method_62_code
def yX8_begins : MethodName := ⟨RX8, "begins", "(I)V"⟩
abbrev cX8_tell : ByteArray := prog_10_method_63_code
def yX8_tell : MethodName := ⟨RX8, "tell", "(I)I"⟩
abbrev cX8_lean : ByteArray := prog_10_method_64_code
def yX8_lean : MethodName := ⟨RX8, "lean", "(I)I"⟩
abbrev cX8_as : ByteArray := prog_10_method_65_code
def yX8_as : MethodName := ⟨RX8, "as", "(II)I"⟩
abbrev cX8_trace : ByteArray := prog_10_method_66_code
def yX8_trace : MethodName := ⟨RX8, "trace", "()I"⟩
abbrev cX8_fault : ByteArray := prog_10_method_67_code
def yX8_fault : MethodName := ⟨RX8, "fault", "()I"⟩
abbrev cX8_many : ByteArray := prog_10_method_68_code
def yX8_many : MethodName := ⟨RX8, "many", "(I)I"⟩
abbrev cX8_walled : ByteArray := prog_10_method_69_code
def yX8_walled : MethodName := ⟨RX8, "walled", "()I"⟩
def RJ9 : String := "java/lang/Math"
def TJ9 : u_T := fun k => match k with
  | _ => ("", "", "", false)
def tyJ9 : Nat → FieldType := fun k => match k with
  | _ => .int
theorem nmJ9 : ∀ a, a < 0 → ∀ b, b < 0 → a ≠ b → (TJ9 a).2.1 ≠ (TJ9 b).2.1 := by decide +kernel
theorem tyJ9_ok : ∀ k, k < 0 → parseFieldDescriptor (TJ9 k).2.2.1 = some (tyJ9 k) := by decide +kernel
abbrev cJ9_max_7cf53 : ByteArray := prog_11_method_65_code
def yJ9_max_7cf53 : MethodName := ⟨RJ9, "max", "(II)I"⟩
abbrev cJ9_min_7cf53 : ByteArray := prog_11_method_69_code
def yJ9_min_7cf53 : MethodName := ⟨RJ9, "min", "(II)I"⟩
def RJ10 : String := "java/lang/System"
def TJ10 : u_T := fun k => match k with
  | _ => ("", "", "", false)
def tyJ10 : Nat → FieldType := fun k => match k with
  | _ => .int
theorem nmJ10 : ∀ a, a < 0 → ∀ b, b < 0 → a ≠ b → (TJ10 a).2.1 ≠ (TJ10 b).2.1 := by decide +kernel
theorem tyJ10_ok : ∀ k, k < 0 → parseFieldDescriptor (TJ10 k).2.2.1 = some (tyJ10 k) := by decide +kernel
def RJ7 : String := "java/util/Arrays"
def TJ7 : u_T := fun k => match k with
  | _ => ("", "", "", false)
def tyJ7 : Nat → FieldType := fun k => match k with
  | _ => .int
theorem nmJ7 : ∀ a, a < 0 → ∀ b, b < 0 → a ≠ b → (TJ7 a).2.1 ≠ (TJ7 b).2.1 := by decide +kernel
theorem tyJ7_ok : ∀ k, k < 0 → parseFieldDescriptor (TJ7 k).2.2.1 = some (tyJ7 k) := by decide +kernel
abbrev cJ7_fill_d0a16 : ByteArray := prog_13_method_101_code
def yJ7_fill_d0a16 : MethodName := ⟨RJ7, "fill", "([JJ)V"⟩
abbrev cJ7_fill_53178 : ByteArray := prog_13_method_103_code
def yJ7_fill_53178 : MethodName := ⟨RJ7, "fill", "([II)V"⟩
def RL : String := "OneWireLaw"
abbrev cL_law : ByteArray := code
def yL_law : MethodName := ⟨RL, "law", "([I)Z"⟩
abbrev vwCl : List vw_C := [(RX0, TX0, 8), (RX1, TX1, 1), (RX2, TX2, 2), (RX3, TX3, 5), (RX4, TX4, 4), (RX5, TX5, 2), (RX6, TX6, 6), (RX7, TX7, 9), (RX8, TX8, 32)]
end
section
theorem dX0_init_0 : decode cX0_init 0 = .ok (.aload_n 0, 1) := by decide +kernel
theorem dX0_init_1 : decode cX0_init 1 = .ok (.invokespecial 3, 3) := by decide +kernel
theorem dX0_init_4 : decode cX0_init 4 = .ok (.aload_n 0, 1) := by decide +kernel
theorem dX0_init_5 : decode cX0_init 5 = .ok (.iconst 0, 1) := by decide +kernel
theorem dX0_init_6 : decode cX0_init 6 = .ok (.putfield 9, 3) := by decide +kernel
theorem dX0_init_9 : decode cX0_init 9 = .ok (.aload_n 0, 1) := by decide +kernel
theorem dX0_init_10 : decode cX0_init 10 = .ok (.iconst 0, 1) := by decide +kernel
theorem dX0_init_11 : decode cX0_init 11 = .ok (.putfield 15, 3) := by decide +kernel
theorem dX0_init_14 : decode cX0_init 14 = .ok (.aload_n 0, 1) := by decide +kernel
theorem dX0_init_15 : decode cX0_init 15 = .ok (.iconst 0, 1) := by decide +kernel
theorem dX0_init_16 : decode cX0_init 16 = .ok (.putfield 18, 3) := by decide +kernel
theorem dX0_init_19 : decode cX0_init 19 = .ok (.aload_n 0, 1) := by decide +kernel
theorem dX0_init_20 : decode cX0_init 20 = .ok (.bipush 7, 2) := by decide +kernel
theorem dX0_init_22 : decode cX0_init 22 = .ok (.newarray .int, 2) := by decide +kernel
theorem dX0_init_24 : decode cX0_init 24 = .ok (.putfield 22, 3) := by decide +kernel
theorem dX0_init_27 : decode cX0_init 27 = .ok (.aload_n 0, 1) := by decide +kernel
theorem dX0_init_28 : decode cX0_init 28 = .ok (.bipush 7, 2) := by decide +kernel
theorem dX0_init_30 : decode cX0_init 30 = .ok (.newarray .int, 2) := by decide +kernel
theorem dX0_init_32 : decode cX0_init 32 = .ok (.putfield 26, 3) := by decide +kernel
theorem dX0_init_35 : decode cX0_init 35 = .ok (.aload_n 0, 1) := by decide +kernel
theorem dX0_init_36 : decode cX0_init 36 = .ok (.bipush 7, 2) := by decide +kernel
theorem dX0_init_38 : decode cX0_init 38 = .ok (.newarray .int, 2) := by decide +kernel
theorem dX0_init_40 : decode cX0_init 40 = .ok (.putfield 29, 3) := by decide +kernel
theorem dX0_init_43 : decode cX0_init 43 = .ok (.aload_n 0, 1) := by decide +kernel
theorem dX0_init_44 : decode cX0_init 44 = .ok (.bipush 7, 2) := by decide +kernel
theorem dX0_init_46 : decode cX0_init 46 = .ok (.newarray .int, 2) := by decide +kernel
theorem dX0_init_48 : decode cX0_init 48 = .ok (.putfield 32, 3) := by decide +kernel
theorem dX0_init_51 : decode cX0_init 51 = .ok (.aload_n 0, 1) := by decide +kernel
theorem dX0_init_52 : decode cX0_init 52 = .ok (.bipush 7, 2) := by decide +kernel
theorem dX0_init_54 : decode cX0_init 54 = .ok (.newarray .boolean, 2) := by decide +kernel
theorem dX0_init_56 : decode cX0_init 56 = .ok (.putfield 35, 3) := by decide +kernel
theorem dX0_init_59 : decode cX0_init 59 = .ok (.return_, 1) := by decide +kernel
theorem dX0_takeText_0 : decode cX0_takeText 0 = .ok (.aload_n 0, 1) := by decide +kernel
theorem dX0_takeText_1 : decode cX0_takeText 1 = .ok (.aload_n 1, 1) := by decide +kernel
theorem dX0_takeText_2 : decode cX0_takeText 2 = .ok (.iload_n 2, 1) := by decide +kernel
theorem dX0_takeText_3 : decode cX0_takeText 3 = .ok (.iconst 1, 1) := by decide +kernel
theorem dX0_takeText_4 : decode cX0_takeText 4 = .ok (.iadd, 1) := by decide +kernel
theorem dX0_takeText_5 : decode cX0_takeText 5 = .ok (.invokevirtual 39, 3) := by decide +kernel
theorem dX0_takeText_8 : decode cX0_takeText 8 = .ok (.bipush 49, 2) := by decide +kernel
theorem dX0_takeText_10 : decode cX0_takeText 10 = .ok (.if_icmp .ne 7, 3) := by decide +kernel
theorem dX0_takeText_13 : decode cX0_takeText 13 = .ok (.iconst 1, 1) := by decide +kernel
theorem dX0_takeText_14 : decode cX0_takeText 14 = .ok (.goto 4, 3) := by decide +kernel
theorem dX0_takeText_17 : decode cX0_takeText 17 = .ok (.iconst 0, 1) := by decide +kernel
theorem dX0_takeText_18 : decode cX0_takeText 18 = .ok (.putfield 18, 3) := by decide +kernel
theorem dX0_takeText_21 : decode cX0_takeText 21 = .ok (.aload_n 0, 1) := by decide +kernel
theorem dX0_takeText_22 : decode cX0_takeText 22 = .ok (.iload_n 3, 1) := by decide +kernel
theorem dX0_takeText_23 : decode cX0_takeText 23 = .ok (.iconst 2, 1) := by decide +kernel
theorem dX0_takeText_24 : decode cX0_takeText 24 = .ok (.isub, 1) := by decide +kernel
theorem dX0_takeText_25 : decode cX0_takeText 25 = .ok (.iconst 5, 1) := by decide +kernel
theorem dX0_takeText_26 : decode cX0_takeText 26 = .ok (.idiv, 1) := by decide +kernel
theorem dX0_takeText_27 : decode cX0_takeText 27 = .ok (.bipush 7, 2) := by decide +kernel
theorem dX0_takeText_29 : decode cX0_takeText 29 = .ok (.invokestatic 45, 3) := by decide +kernel
theorem dX0_takeText_32 : decode cX0_takeText 32 = .ok (.putfield 9, 3) := by decide +kernel
theorem dX0_takeText_35 : decode cX0_takeText 35 = .ok (.aload_n 0, 1) := by decide +kernel
theorem dX0_takeText_36 : decode cX0_takeText 36 = .ok (.aload_n 0, 1) := by decide +kernel
theorem dX0_takeText_37 : decode cX0_takeText 37 = .ok (.getfield 18, 3) := by decide +kernel
theorem dX0_takeText_40 : decode cX0_takeText 40 = .ok (.ifCond .eq 10, 3) := by decide +kernel
theorem dX0_takeText_43 : decode cX0_takeText 43 = .ok (.aload_n 0, 1) := by decide +kernel
theorem dX0_takeText_44 : decode cX0_takeText 44 = .ok (.getfield 9, 3) := by decide +kernel
theorem dX0_takeText_47 : decode cX0_takeText 47 = .ok (.goto 9, 3) := by decide +kernel
theorem dX0_takeText_50 : decode cX0_takeText 50 = .ok (.aload_n 0, 1) := by decide +kernel
theorem dX0_takeText_51 : decode cX0_takeText 51 = .ok (.getfield 9, 3) := by decide +kernel
theorem dX0_takeText_54 : decode cX0_takeText 54 = .ok (.iconst 1, 1) := by decide +kernel
theorem dX0_takeText_55 : decode cX0_takeText 55 = .ok (.isub, 1) := by decide +kernel
theorem dX0_takeText_56 : decode cX0_takeText 56 = .ok (.putfield 15, 3) := by decide +kernel
theorem dX0_takeText_59 : decode cX0_takeText 59 = .ok (.iconst 0, 1) := by decide +kernel
theorem dX0_takeText_60 : decode cX0_takeText 60 = .ok (.istore 4, 2) := by decide +kernel
theorem dX0_takeText_62 : decode cX0_takeText 62 = .ok (.iload 4, 2) := by decide +kernel
theorem dX0_takeText_64 : decode cX0_takeText 64 = .ok (.aload_n 0, 1) := by decide +kernel
theorem dX0_takeText_65 : decode cX0_takeText 65 = .ok (.getfield 9, 3) := by decide +kernel
theorem dX0_takeText_68 : decode cX0_takeText 68 = .ok (.if_icmp .ge 91, 3) := by decide +kernel
theorem dX0_takeText_71 : decode cX0_takeText 71 = .ok (.iload_n 2, 1) := by decide +kernel
theorem dX0_takeText_72 : decode cX0_takeText 72 = .ok (.iconst 2, 1) := by decide +kernel
theorem dX0_takeText_73 : decode cX0_takeText 73 = .ok (.iadd, 1) := by decide +kernel
theorem dX0_takeText_74 : decode cX0_takeText 74 = .ok (.iload 4, 2) := by decide +kernel
theorem dX0_takeText_76 : decode cX0_takeText 76 = .ok (.iconst 5, 1) := by decide +kernel
theorem dX0_takeText_77 : decode cX0_takeText 77 = .ok (.imul, 1) := by decide +kernel
theorem dX0_takeText_78 : decode cX0_takeText 78 = .ok (.iadd, 1) := by decide +kernel
theorem dX0_takeText_79 : decode cX0_takeText 79 = .ok (.istore 5, 2) := by decide +kernel
theorem dX0_takeText_81 : decode cX0_takeText 81 = .ok (.aload_n 0, 1) := by decide +kernel
theorem dX0_takeText_82 : decode cX0_takeText 82 = .ok (.getfield 22, 3) := by decide +kernel
theorem dX0_takeText_85 : decode cX0_takeText 85 = .ok (.iload 4, 2) := by decide +kernel
theorem dX0_takeText_87 : decode cX0_takeText 87 = .ok (.aload_n 1, 1) := by decide +kernel
theorem dX0_takeText_88 : decode cX0_takeText 88 = .ok (.iload 5, 2) := by decide +kernel
theorem dX0_takeText_90 : decode cX0_takeText 90 = .ok (.iconst 1, 1) := by decide +kernel
theorem dX0_takeText_91 : decode cX0_takeText 91 = .ok (.iadd, 1) := by decide +kernel
theorem dX0_takeText_92 : decode cX0_takeText 92 = .ok (.invokevirtual 39, 3) := by decide +kernel
theorem dX0_takeText_95 : decode cX0_takeText 95 = .ok (.invokestatic 51, 3) := by decide +kernel
theorem dX0_takeText_98 : decode cX0_takeText 98 = .ok (.iastore, 1) := by decide +kernel
theorem dX0_takeText_99 : decode cX0_takeText 99 = .ok (.aload_n 0, 1) := by decide +kernel
theorem dX0_takeText_100 : decode cX0_takeText 100 = .ok (.getfield 26, 3) := by decide +kernel
theorem dX0_takeText_103 : decode cX0_takeText 103 = .ok (.iload 4, 2) := by decide +kernel
theorem dX0_takeText_105 : decode cX0_takeText 105 = .ok (.aload_n 1, 1) := by decide +kernel
theorem dX0_takeText_106 : decode cX0_takeText 106 = .ok (.iload 5, 2) := by decide +kernel
theorem dX0_takeText_108 : decode cX0_takeText 108 = .ok (.iconst 2, 1) := by decide +kernel
theorem dX0_takeText_109 : decode cX0_takeText 109 = .ok (.iadd, 1) := by decide +kernel
theorem dX0_takeText_110 : decode cX0_takeText 110 = .ok (.invokevirtual 39, 3) := by decide +kernel
theorem dX0_takeText_113 : decode cX0_takeText 113 = .ok (.bipush 48, 2) := by decide +kernel
theorem dX0_takeText_115 : decode cX0_takeText 115 = .ok (.isub, 1) := by decide +kernel
theorem dX0_takeText_116 : decode cX0_takeText 116 = .ok (.iastore, 1) := by decide +kernel
theorem dX0_takeText_117 : decode cX0_takeText 117 = .ok (.aload_n 0, 1) := by decide +kernel
theorem dX0_takeText_118 : decode cX0_takeText 118 = .ok (.getfield 29, 3) := by decide +kernel
theorem dX0_takeText_121 : decode cX0_takeText 121 = .ok (.iload 4, 2) := by decide +kernel
theorem dX0_takeText_123 : decode cX0_takeText 123 = .ok (.aload_n 1, 1) := by decide +kernel
theorem dX0_takeText_124 : decode cX0_takeText 124 = .ok (.iload 5, 2) := by decide +kernel
theorem dX0_takeText_126 : decode cX0_takeText 126 = .ok (.iconst 3, 1) := by decide +kernel
theorem dX0_takeText_127 : decode cX0_takeText 127 = .ok (.iadd, 1) := by decide +kernel
theorem dX0_takeText_128 : decode cX0_takeText 128 = .ok (.invokevirtual 39, 3) := by decide +kernel
theorem dX0_takeText_131 : decode cX0_takeText 131 = .ok (.bipush 48, 2) := by decide +kernel
theorem dX0_takeText_133 : decode cX0_takeText 133 = .ok (.isub, 1) := by decide +kernel
theorem dX0_takeText_134 : decode cX0_takeText 134 = .ok (.iastore, 1) := by decide +kernel
theorem dX0_takeText_135 : decode cX0_takeText 135 = .ok (.aload_n 0, 1) := by decide +kernel
theorem dX0_takeText_136 : decode cX0_takeText 136 = .ok (.getfield 32, 3) := by decide +kernel
theorem dX0_takeText_139 : decode cX0_takeText 139 = .ok (.iload 4, 2) := by decide +kernel
theorem dX0_takeText_141 : decode cX0_takeText 141 = .ok (.aload_n 1, 1) := by decide +kernel
theorem dX0_takeText_142 : decode cX0_takeText 142 = .ok (.iload 5, 2) := by decide +kernel
theorem dX0_takeText_144 : decode cX0_takeText 144 = .ok (.iconst 4, 1) := by decide +kernel
theorem dX0_takeText_145 : decode cX0_takeText 145 = .ok (.iadd, 1) := by decide +kernel
theorem dX0_takeText_146 : decode cX0_takeText 146 = .ok (.invokevirtual 39, 3) := by decide +kernel
theorem dX0_takeText_149 : decode cX0_takeText 149 = .ok (.bipush 48, 2) := by decide +kernel
theorem dX0_takeText_151 : decode cX0_takeText 151 = .ok (.isub, 1) := by decide +kernel
theorem dX0_takeText_152 : decode cX0_takeText 152 = .ok (.iastore, 1) := by decide +kernel
theorem dX0_takeText_153 : decode cX0_takeText 153 = .ok (.iinc 4 1, 3) := by decide +kernel
theorem dX0_takeText_156 : decode cX0_takeText 156 = .ok (.goto (-94), 3) := by decide +kernel
theorem dX0_takeText_159 : decode cX0_takeText 159 = .ok (.iconst 0, 1) := by decide +kernel
theorem dX0_takeText_160 : decode cX0_takeText 160 = .ok (.istore 4, 2) := by decide +kernel
theorem dX0_takeText_162 : decode cX0_takeText 162 = .ok (.iload 4, 2) := by decide +kernel
theorem dX0_takeText_164 : decode cX0_takeText 164 = .ok (.aload_n 0, 1) := by decide +kernel
theorem dX0_takeText_165 : decode cX0_takeText 165 = .ok (.getfield 35, 3) := by decide +kernel
theorem dX0_takeText_168 : decode cX0_takeText 168 = .ok (.arraylength, 1) := by decide +kernel
theorem dX0_takeText_169 : decode cX0_takeText 169 = .ok (.if_icmp .ge 17, 3) := by decide +kernel
theorem dX0_takeText_172 : decode cX0_takeText 172 = .ok (.aload_n 0, 1) := by decide +kernel
theorem dX0_takeText_173 : decode cX0_takeText 173 = .ok (.getfield 35, 3) := by decide +kernel
theorem dX0_takeText_176 : decode cX0_takeText 176 = .ok (.iload 4, 2) := by decide +kernel
theorem dX0_takeText_178 : decode cX0_takeText 178 = .ok (.iconst 0, 1) := by decide +kernel
theorem dX0_takeText_179 : decode cX0_takeText 179 = .ok (.bastore, 1) := by decide +kernel
theorem dX0_takeText_180 : decode cX0_takeText 180 = .ok (.iinc 4 1, 3) := by decide +kernel
theorem dX0_takeText_183 : decode cX0_takeText 183 = .ok (.goto (-21), 3) := by decide +kernel
theorem dX0_takeText_186 : decode cX0_takeText 186 = .ok (.return_, 1) := by decide +kernel
theorem dX0_kindOf_0 : decode cX0_kindOf 0 = .ok (.iload_n 0, 1) := by decide +kernel
theorem dX0_kindOf_1 : decode cX0_kindOf 1 = .ok (.bipush 116, 2) := by decide +kernel
theorem dX0_kindOf_3 : decode cX0_kindOf 3 = .ok (.if_icmp .ne 7, 3) := by decide +kernel
theorem dX0_kindOf_6 : decode cX0_kindOf 6 = .ok (.iconst 2, 1) := by decide +kernel
theorem dX0_kindOf_7 : decode cX0_kindOf 7 = .ok (.goto 14, 3) := by decide +kernel
theorem dX0_kindOf_10 : decode cX0_kindOf 10 = .ok (.iload_n 0, 1) := by decide +kernel
theorem dX0_kindOf_11 : decode cX0_kindOf 11 = .ok (.bipush 103, 2) := by decide +kernel
theorem dX0_kindOf_13 : decode cX0_kindOf 13 = .ok (.if_icmp .ne 7, 3) := by decide +kernel
theorem dX0_kindOf_16 : decode cX0_kindOf 16 = .ok (.iconst 1, 1) := by decide +kernel
theorem dX0_kindOf_17 : decode cX0_kindOf 17 = .ok (.goto 4, 3) := by decide +kernel
theorem dX0_kindOf_20 : decode cX0_kindOf 20 = .ok (.iconst 0, 1) := by decide +kernel
theorem dX0_kindOf_21 : decode cX0_kindOf 21 = .ok (.ireturn, 1) := by decide +kernel
theorem dX0_isThere_0 : decode cX0_isThere 0 = .ok (.aload_n 0, 1) := by decide +kernel
theorem dX0_isThere_1 : decode cX0_isThere 1 = .ok (.getfield 9, 3) := by decide +kernel
theorem dX0_isThere_4 : decode cX0_isThere 4 = .ok (.ifCond .le 7, 3) := by decide +kernel
theorem dX0_isThere_7 : decode cX0_isThere 7 = .ok (.iconst 1, 1) := by decide +kernel
theorem dX0_isThere_8 : decode cX0_isThere 8 = .ok (.goto 4, 3) := by decide +kernel
theorem dX0_isThere_11 : decode cX0_isThere 11 = .ok (.iconst 0, 1) := by decide +kernel
theorem dX0_isThere_12 : decode cX0_isThere 12 = .ok (.ireturn, 1) := by decide +kernel
theorem dX0_isPerson_0 : decode cX0_isPerson 0 = .ok (.iload_n 1, 1) := by decide +kernel
theorem dX0_isPerson_1 : decode cX0_isPerson 1 = .ok (.ifCond .lt 15, 3) := by decide +kernel
theorem dX0_isPerson_4 : decode cX0_isPerson 4 = .ok (.iload_n 1, 1) := by decide +kernel
theorem dX0_isPerson_5 : decode cX0_isPerson 5 = .ok (.aload_n 0, 1) := by decide +kernel
theorem dX0_isPerson_6 : decode cX0_isPerson 6 = .ok (.getfield 9, 3) := by decide +kernel
theorem dX0_isPerson_9 : decode cX0_isPerson 9 = .ok (.if_icmp .ge 7, 3) := by decide +kernel
theorem dX0_isPerson_12 : decode cX0_isPerson 12 = .ok (.iconst 1, 1) := by decide +kernel
theorem dX0_isPerson_13 : decode cX0_isPerson 13 = .ok (.goto 4, 3) := by decide +kernel
theorem dX0_isPerson_16 : decode cX0_isPerson 16 = .ok (.iconst 0, 1) := by decide +kernel
theorem dX0_isPerson_17 : decode cX0_isPerson 17 = .ok (.ireturn, 1) := by decide +kernel
theorem dX0_isEdge_0 : decode cX0_isEdge 0 = .ok (.iload_n 1, 1) := by decide +kernel
theorem dX0_isEdge_1 : decode cX0_isEdge 1 = .ok (.ifCond .lt 15, 3) := by decide +kernel
theorem dX0_isEdge_4 : decode cX0_isEdge 4 = .ok (.iload_n 1, 1) := by decide +kernel
theorem dX0_isEdge_5 : decode cX0_isEdge 5 = .ok (.aload_n 0, 1) := by decide +kernel
theorem dX0_isEdge_6 : decode cX0_isEdge 6 = .ok (.getfield 15, 3) := by decide +kernel
theorem dX0_isEdge_9 : decode cX0_isEdge 9 = .ok (.if_icmp .ge 7, 3) := by decide +kernel
theorem dX0_isEdge_12 : decode cX0_isEdge 12 = .ok (.iconst 1, 1) := by decide +kernel
theorem dX0_isEdge_13 : decode cX0_isEdge 13 = .ok (.goto 4, 3) := by decide +kernel
theorem dX0_isEdge_16 : decode cX0_isEdge 16 = .ok (.iconst 0, 1) := by decide +kernel
theorem dX0_isEdge_17 : decode cX0_isEdge 17 = .ok (.ireturn, 1) := by decide +kernel
theorem dX0_isOpen_0 : decode cX0_isOpen 0 = .ok (.aload_n 0, 1) := by decide +kernel
theorem dX0_isOpen_1 : decode cX0_isOpen 1 = .ok (.iload_n 1, 1) := by decide +kernel
theorem dX0_isOpen_2 : decode cX0_isOpen 2 = .ok (.invokevirtual 54, 3) := by decide +kernel
theorem dX0_isOpen_5 : decode cX0_isOpen 5 = .ok (.ifCond .eq 16, 3) := by decide +kernel
theorem dX0_isOpen_8 : decode cX0_isOpen 8 = .ok (.aload_n 0, 1) := by decide +kernel
theorem dX0_isOpen_9 : decode cX0_isOpen 9 = .ok (.getfield 35, 3) := by decide +kernel
theorem dX0_isOpen_12 : decode cX0_isOpen 12 = .ok (.iload_n 1, 1) := by decide +kernel
theorem dX0_isOpen_13 : decode cX0_isOpen 13 = .ok (.baload, 1) := by decide +kernel
theorem dX0_isOpen_14 : decode cX0_isOpen 14 = .ok (.ifCond .ne 7, 3) := by decide +kernel
theorem dX0_isOpen_17 : decode cX0_isOpen 17 = .ok (.iconst 1, 1) := by decide +kernel
theorem dX0_isOpen_18 : decode cX0_isOpen 18 = .ok (.goto 4, 3) := by decide +kernel
theorem dX0_isOpen_21 : decode cX0_isOpen 21 = .ok (.iconst 0, 1) := by decide +kernel
theorem dX0_isOpen_22 : decode cX0_isOpen 22 = .ok (.ireturn, 1) := by decide +kernel
theorem dX0_rightEnd_0 : decode cX0_rightEnd 0 = .ok (.iload_n 1, 1) := by decide +kernel
theorem dX0_rightEnd_1 : decode cX0_rightEnd 1 = .ok (.iconst 1, 1) := by decide +kernel
theorem dX0_rightEnd_2 : decode cX0_rightEnd 2 = .ok (.iadd, 1) := by decide +kernel
theorem dX0_rightEnd_3 : decode cX0_rightEnd 3 = .ok (.aload_n 0, 1) := by decide +kernel
theorem dX0_rightEnd_4 : decode cX0_rightEnd 4 = .ok (.getfield 9, 3) := by decide +kernel
theorem dX0_rightEnd_7 : decode cX0_rightEnd 7 = .ok (.if_icmp .ge 9, 3) := by decide +kernel
theorem dX0_rightEnd_10 : decode cX0_rightEnd 10 = .ok (.iload_n 1, 1) := by decide +kernel
theorem dX0_rightEnd_11 : decode cX0_rightEnd 11 = .ok (.iconst 1, 1) := by decide +kernel
theorem dX0_rightEnd_12 : decode cX0_rightEnd 12 = .ok (.iadd, 1) := by decide +kernel
theorem dX0_rightEnd_13 : decode cX0_rightEnd 13 = .ok (.goto 4, 3) := by decide +kernel
theorem dX0_rightEnd_16 : decode cX0_rightEnd 16 = .ok (.iconst 0, 1) := by decide +kernel
theorem dX0_rightEnd_17 : decode cX0_rightEnd 17 = .ok (.ireturn, 1) := by decide +kernel
theorem dX0_edgeOnLeft_0 : decode cX0_edgeOnLeft 0 = .ok (.iload_n 1, 1) := by decide +kernel
theorem dX0_edgeOnLeft_1 : decode cX0_edgeOnLeft 1 = .ok (.ifCond .le 9, 3) := by decide +kernel
theorem dX0_edgeOnLeft_4 : decode cX0_edgeOnLeft 4 = .ok (.iload_n 1, 1) := by decide +kernel
theorem dX0_edgeOnLeft_5 : decode cX0_edgeOnLeft 5 = .ok (.iconst 1, 1) := by decide +kernel
theorem dX0_edgeOnLeft_6 : decode cX0_edgeOnLeft 6 = .ok (.isub, 1) := by decide +kernel
theorem dX0_edgeOnLeft_7 : decode cX0_edgeOnLeft 7 = .ok (.goto 9, 3) := by decide +kernel
theorem dX0_edgeOnLeft_10 : decode cX0_edgeOnLeft 10 = .ok (.aload_n 0, 1) := by decide +kernel
theorem dX0_edgeOnLeft_11 : decode cX0_edgeOnLeft 11 = .ok (.getfield 9, 3) := by decide +kernel
theorem dX0_edgeOnLeft_14 : decode cX0_edgeOnLeft 14 = .ok (.iconst 1, 1) := by decide +kernel
theorem dX0_edgeOnLeft_15 : decode cX0_edgeOnLeft 15 = .ok (.isub, 1) := by decide +kernel
theorem dX0_edgeOnLeft_16 : decode cX0_edgeOnLeft 16 = .ok (.ireturn, 1) := by decide +kernel
theorem dX0_howManyWalled_0 : decode cX0_howManyWalled 0 = .ok (.iconst 0, 1) := by decide +kernel
theorem dX0_howManyWalled_1 : decode cX0_howManyWalled 1 = .ok (.istore_n 1, 1) := by decide +kernel
theorem dX0_howManyWalled_2 : decode cX0_howManyWalled 2 = .ok (.iconst 0, 1) := by decide +kernel
theorem dX0_howManyWalled_3 : decode cX0_howManyWalled 3 = .ok (.istore_n 2, 1) := by decide +kernel
theorem dX0_howManyWalled_4 : decode cX0_howManyWalled 4 = .ok (.iload_n 2, 1) := by decide +kernel
theorem dX0_howManyWalled_5 : decode cX0_howManyWalled 5 = .ok (.aload_n 0, 1) := by decide +kernel
theorem dX0_howManyWalled_6 : decode cX0_howManyWalled 6 = .ok (.getfield 15, 3) := by decide +kernel
theorem dX0_howManyWalled_9 : decode cX0_howManyWalled 9 = .ok (.if_icmp .ge 21, 3) := by decide +kernel
theorem dX0_howManyWalled_12 : decode cX0_howManyWalled 12 = .ok (.aload_n 0, 1) := by decide +kernel
theorem dX0_howManyWalled_13 : decode cX0_howManyWalled 13 = .ok (.getfield 35, 3) := by decide +kernel
theorem dX0_howManyWalled_16 : decode cX0_howManyWalled 16 = .ok (.iload_n 2, 1) := by decide +kernel
theorem dX0_howManyWalled_17 : decode cX0_howManyWalled 17 = .ok (.baload, 1) := by decide +kernel
theorem dX0_howManyWalled_18 : decode cX0_howManyWalled 18 = .ok (.ifCond .eq 6, 3) := by decide +kernel
theorem dX0_howManyWalled_21 : decode cX0_howManyWalled 21 = .ok (.iinc 1 1, 3) := by decide +kernel
theorem dX0_howManyWalled_24 : decode cX0_howManyWalled 24 = .ok (.iinc 2 1, 3) := by decide +kernel
theorem dX0_howManyWalled_27 : decode cX0_howManyWalled 27 = .ok (.goto (-23), 3) := by decide +kernel
theorem dX0_howManyWalled_30 : decode cX0_howManyWalled 30 = .ok (.iload_n 1, 1) := by decide +kernel
theorem dX0_howManyWalled_31 : decode cX0_howManyWalled 31 = .ok (.ireturn, 1) := by decide +kernel
theorem dX0_changeGoods_0 : decode cX0_changeGoods 0 = .ok (.aload_n 0, 1) := by decide +kernel
theorem dX0_changeGoods_1 : decode cX0_changeGoods 1 = .ok (.iload_n 1, 1) := by decide +kernel
theorem dX0_changeGoods_2 : decode cX0_changeGoods 2 = .ok (.invokevirtual 54, 3) := by decide +kernel
theorem dX0_changeGoods_5 : decode cX0_changeGoods 5 = .ok (.ifCond .eq 35, 3) := by decide +kernel
theorem dX0_changeGoods_8 : decode cX0_changeGoods 8 = .ok (.aload_n 0, 1) := by decide +kernel
theorem dX0_changeGoods_9 : decode cX0_changeGoods 9 = .ok (.iload_n 1, 1) := by decide +kernel
theorem dX0_changeGoods_10 : decode cX0_changeGoods 10 = .ok (.invokevirtual 58, 3) := by decide +kernel
theorem dX0_changeGoods_13 : decode cX0_changeGoods 13 = .ok (.istore_n 2, 1) := by decide +kernel
theorem dX0_changeGoods_14 : decode cX0_changeGoods 14 = .ok (.aload_n 0, 1) := by decide +kernel
theorem dX0_changeGoods_15 : decode cX0_changeGoods 15 = .ok (.getfield 29, 3) := by decide +kernel
theorem dX0_changeGoods_18 : decode cX0_changeGoods 18 = .ok (.iload_n 1, 1) := by decide +kernel
theorem dX0_changeGoods_19 : decode cX0_changeGoods 19 = .ok (.iaload, 1) := by decide +kernel
theorem dX0_changeGoods_20 : decode cX0_changeGoods 20 = .ok (.istore_n 3, 1) := by decide +kernel
theorem dX0_changeGoods_21 : decode cX0_changeGoods 21 = .ok (.aload_n 0, 1) := by decide +kernel
theorem dX0_changeGoods_22 : decode cX0_changeGoods 22 = .ok (.getfield 29, 3) := by decide +kernel
theorem dX0_changeGoods_25 : decode cX0_changeGoods 25 = .ok (.iload_n 1, 1) := by decide +kernel
theorem dX0_changeGoods_26 : decode cX0_changeGoods 26 = .ok (.aload_n 0, 1) := by decide +kernel
theorem dX0_changeGoods_27 : decode cX0_changeGoods 27 = .ok (.getfield 29, 3) := by decide +kernel
theorem dX0_changeGoods_30 : decode cX0_changeGoods 30 = .ok (.iload_n 2, 1) := by decide +kernel
theorem dX0_changeGoods_31 : decode cX0_changeGoods 31 = .ok (.iaload, 1) := by decide +kernel
theorem dX0_changeGoods_32 : decode cX0_changeGoods 32 = .ok (.iastore, 1) := by decide +kernel
theorem dX0_changeGoods_33 : decode cX0_changeGoods 33 = .ok (.aload_n 0, 1) := by decide +kernel
theorem dX0_changeGoods_34 : decode cX0_changeGoods 34 = .ok (.getfield 29, 3) := by decide +kernel
theorem dX0_changeGoods_37 : decode cX0_changeGoods 37 = .ok (.iload_n 2, 1) := by decide +kernel
theorem dX0_changeGoods_38 : decode cX0_changeGoods 38 = .ok (.iload_n 3, 1) := by decide +kernel
theorem dX0_changeGoods_39 : decode cX0_changeGoods 39 = .ok (.iastore, 1) := by decide +kernel
theorem dX0_changeGoods_40 : decode cX0_changeGoods 40 = .ok (.return_, 1) := by decide +kernel
theorem dX0_wayRight_0 : decode cX0_wayRight 0 = .ok (.iload_n 1, 1) := by decide +kernel
theorem dX0_wayRight_1 : decode cX0_wayRight 1 = .ok (.istore_n 3, 1) := by decide +kernel
theorem dX0_wayRight_2 : decode cX0_wayRight 2 = .ok (.iconst 0, 1) := by decide +kernel
theorem dX0_wayRight_3 : decode cX0_wayRight 3 = .ok (.istore 4, 2) := by decide +kernel
theorem dX0_wayRight_5 : decode cX0_wayRight 5 = .ok (.iload 4, 2) := by decide +kernel
theorem dX0_wayRight_7 : decode cX0_wayRight 7 = .ok (.aload_n 0, 1) := by decide +kernel
theorem dX0_wayRight_8 : decode cX0_wayRight 8 = .ok (.getfield 9, 3) := by decide +kernel
theorem dX0_wayRight_11 : decode cX0_wayRight 11 = .ok (.if_icmp .gt 34, 3) := by decide +kernel
theorem dX0_wayRight_14 : decode cX0_wayRight 14 = .ok (.iload_n 3, 1) := by decide +kernel
theorem dX0_wayRight_15 : decode cX0_wayRight 15 = .ok (.iload_n 2, 1) := by decide +kernel
theorem dX0_wayRight_16 : decode cX0_wayRight 16 = .ok (.if_icmp .ne 6, 3) := by decide +kernel
theorem dX0_wayRight_19 : decode cX0_wayRight 19 = .ok (.iload 4, 2) := by decide +kernel
theorem dX0_wayRight_21 : decode cX0_wayRight 21 = .ok (.ireturn, 1) := by decide +kernel
theorem dX0_wayRight_22 : decode cX0_wayRight 22 = .ok (.aload_n 0, 1) := by decide +kernel
theorem dX0_wayRight_23 : decode cX0_wayRight 23 = .ok (.iload_n 3, 1) := by decide +kernel
theorem dX0_wayRight_24 : decode cX0_wayRight 24 = .ok (.invokevirtual 61, 3) := by decide +kernel
theorem dX0_wayRight_27 : decode cX0_wayRight 27 = .ok (.ifCond .ne 6, 3) := by decide +kernel
theorem dX0_wayRight_30 : decode cX0_wayRight 30 = .ok (.bipush (-9), 2) := by decide +kernel
theorem dX0_wayRight_32 : decode cX0_wayRight 32 = .ok (.ireturn, 1) := by decide +kernel
theorem dX0_wayRight_33 : decode cX0_wayRight 33 = .ok (.aload_n 0, 1) := by decide +kernel
theorem dX0_wayRight_34 : decode cX0_wayRight 34 = .ok (.iload_n 3, 1) := by decide +kernel
theorem dX0_wayRight_35 : decode cX0_wayRight 35 = .ok (.invokevirtual 58, 3) := by decide +kernel
theorem dX0_wayRight_38 : decode cX0_wayRight 38 = .ok (.istore_n 3, 1) := by decide +kernel
theorem dX0_wayRight_39 : decode cX0_wayRight 39 = .ok (.iinc 4 1, 3) := by decide +kernel
theorem dX0_wayRight_42 : decode cX0_wayRight 42 = .ok (.goto (-37), 3) := by decide +kernel
theorem dX0_wayRight_45 : decode cX0_wayRight 45 = .ok (.bipush (-9), 2) := by decide +kernel
theorem dX0_wayRight_47 : decode cX0_wayRight 47 = .ok (.ireturn, 1) := by decide +kernel
theorem dX0_altered_0 : decode cX0_altered 0 = .ok (.aload_n 0, 1) := by decide +kernel
theorem dX0_altered_1 : decode cX0_altered 1 = .ok (.iload_n 1, 1) := by decide +kernel
theorem dX0_altered_2 : decode cX0_altered 2 = .ok (.invokevirtual 64, 3) := by decide +kernel
theorem dX0_altered_5 : decode cX0_altered 5 = .ok (.ifCond .eq 12, 3) := by decide +kernel
theorem dX0_altered_8 : decode cX0_altered 8 = .ok (.aload_n 0, 1) := by decide +kernel
theorem dX0_altered_9 : decode cX0_altered 9 = .ok (.getfield 22, 3) := by decide +kernel
theorem dX0_altered_12 : decode cX0_altered 12 = .ok (.iload_n 1, 1) := by decide +kernel
theorem dX0_altered_13 : decode cX0_altered 13 = .ok (.iaload, 1) := by decide +kernel
theorem dX0_altered_14 : decode cX0_altered 14 = .ok (.ifCond .ne 5, 3) := by decide +kernel
theorem dX0_altered_17 : decode cX0_altered 17 = .ok (.iload_n 2, 1) := by decide +kernel
theorem dX0_altered_18 : decode cX0_altered 18 = .ok (.ireturn, 1) := by decide +kernel
theorem dX0_altered_19 : decode cX0_altered 19 = .ok (.iload_n 2, 1) := by decide +kernel
theorem dX0_altered_20 : decode cX0_altered 20 = .ok (.aload_n 0, 1) := by decide +kernel
theorem dX0_altered_21 : decode cX0_altered 21 = .ok (.getfield 26, 3) := by decide +kernel
theorem dX0_altered_24 : decode cX0_altered 24 = .ok (.iload_n 1, 1) := by decide +kernel
theorem dX0_altered_25 : decode cX0_altered 25 = .ok (.iaload, 1) := by decide +kernel
theorem dX0_altered_26 : decode cX0_altered 26 = .ok (.iadd, 1) := by decide +kernel
theorem dX0_altered_27 : decode cX0_altered 27 = .ok (.bipush 100, 2) := by decide +kernel
theorem dX0_altered_29 : decode cX0_altered 29 = .ok (.irem, 1) := by decide +kernel
theorem dX0_altered_30 : decode cX0_altered 30 = .ok (.istore_n 3, 1) := by decide +kernel
theorem dX0_altered_31 : decode cX0_altered 31 = .ok (.aload_n 0, 1) := by decide +kernel
theorem dX0_altered_32 : decode cX0_altered 32 = .ok (.getfield 22, 3) := by decide +kernel
theorem dX0_altered_35 : decode cX0_altered 35 = .ok (.iload_n 1, 1) := by decide +kernel
theorem dX0_altered_36 : decode cX0_altered 36 = .ok (.iaload, 1) := by decide +kernel
theorem dX0_altered_37 : decode cX0_altered 37 = .ok (.iconst 2, 1) := by decide +kernel
theorem dX0_altered_38 : decode cX0_altered 38 = .ok (.if_icmp .ne 12, 3) := by decide +kernel
theorem dX0_altered_41 : decode cX0_altered 41 = .ok (.iconst 2, 1) := by decide +kernel
theorem dX0_altered_42 : decode cX0_altered 42 = .ok (.iload_n 3, 1) := by decide +kernel
theorem dX0_altered_43 : decode cX0_altered 43 = .ok (.imul, 1) := by decide +kernel
theorem dX0_altered_44 : decode cX0_altered 44 = .ok (.bipush 100, 2) := by decide +kernel
theorem dX0_altered_46 : decode cX0_altered 46 = .ok (.irem, 1) := by decide +kernel
theorem dX0_altered_47 : decode cX0_altered 47 = .ok (.goto 4, 3) := by decide +kernel
theorem dX0_altered_50 : decode cX0_altered 50 = .ok (.iload_n 3, 1) := by decide +kernel
theorem dX0_altered_51 : decode cX0_altered 51 = .ok (.ireturn, 1) := by decide +kernel
theorem dX1_init_0 : decode cX1_init 0 = .ok (.aload_n 0, 1) := by decide +kernel
theorem dX1_init_1 : decode cX1_init 1 = .ok (.invokespecial 3, 3) := by decide +kernel
theorem dX1_init_4 : decode cX1_init 4 = .ok (.aload_n 0, 1) := by decide +kernel
theorem dX1_init_5 : decode cX1_init 5 = .ok (.sipush 128, 3) := by decide +kernel
theorem dX1_init_8 : decode cX1_init 8 = .ok (.newarray .int, 2) := by decide +kernel
theorem dX1_init_10 : decode cX1_init 10 = .ok (.putfield 9, 3) := by decide +kernel
theorem dX1_init_13 : decode cX1_init 13 = .ok (.return_, 1) := by decide +kernel
theorem dX1_leastReaders_0 : decode cX1_leastReaders 0 = .ok (.iconst 1, 1) := by decide +kernel
theorem dX1_leastReaders_1 : decode cX1_leastReaders 1 = .ok (.aload_n 1, 1) := by decide +kernel
theorem dX1_leastReaders_2 : decode cX1_leastReaders 2 = .ok (.getfield 15, 3) := by decide +kernel
theorem dX1_leastReaders_5 : decode cX1_leastReaders 5 = .ok (.ishl, 1) := by decide +kernel
theorem dX1_leastReaders_6 : decode cX1_leastReaders 6 = .ok (.istore_n 2, 1) := by decide +kernel
theorem dX1_leastReaders_7 : decode cX1_leastReaders 7 = .ok (.aload_n 0, 1) := by decide +kernel
theorem dX1_leastReaders_8 : decode cX1_leastReaders 8 = .ok (.getfield 9, 3) := by decide +kernel
theorem dX1_leastReaders_11 : decode cX1_leastReaders 11 = .ok (.iconst 0, 1) := by decide +kernel
theorem dX1_leastReaders_12 : decode cX1_leastReaders 12 = .ok (.iconst 0, 1) := by decide +kernel
theorem dX1_leastReaders_13 : decode cX1_leastReaders 13 = .ok (.iastore, 1) := by decide +kernel
theorem dX1_leastReaders_14 : decode cX1_leastReaders 14 = .ok (.iconst 1, 1) := by decide +kernel
theorem dX1_leastReaders_15 : decode cX1_leastReaders 15 = .ok (.istore_n 3, 1) := by decide +kernel
theorem dX1_leastReaders_16 : decode cX1_leastReaders 16 = .ok (.iload_n 3, 1) := by decide +kernel
theorem dX1_leastReaders_17 : decode cX1_leastReaders 17 = .ok (.iload_n 2, 1) := by decide +kernel
theorem dX1_leastReaders_18 : decode cX1_leastReaders 18 = .ok (.if_icmp .ge 102, 3) := by decide +kernel
theorem dX1_leastReaders_21 : decode cX1_leastReaders 21 = .ok (.iload_n 3, 1) := by decide +kernel
theorem dX1_leastReaders_22 : decode cX1_leastReaders 22 = .ok (.aload_n 0, 1) := by decide +kernel
theorem dX1_leastReaders_23 : decode cX1_leastReaders 23 = .ok (.getfield 9, 3) := by decide +kernel
theorem dX1_leastReaders_26 : decode cX1_leastReaders 26 = .ok (.arraylength, 1) := by decide +kernel
theorem dX1_leastReaders_27 : decode cX1_leastReaders 27 = .ok (.if_icmp .ge 93, 3) := by decide +kernel
theorem dX1_leastReaders_30 : decode cX1_leastReaders 30 = .ok (.aload_n 0, 1) := by decide +kernel
theorem dX1_leastReaders_31 : decode cX1_leastReaders 31 = .ok (.getfield 9, 3) := by decide +kernel
theorem dX1_leastReaders_34 : decode cX1_leastReaders 34 = .ok (.iload_n 3, 1) := by decide +kernel
theorem dX1_leastReaders_35 : decode cX1_leastReaders 35 = .ok (.bipush (-9), 2) := by decide +kernel
theorem dX1_leastReaders_37 : decode cX1_leastReaders 37 = .ok (.iastore, 1) := by decide +kernel
theorem dX1_leastReaders_38 : decode cX1_leastReaders 38 = .ok (.iload_n 3, 1) := by decide +kernel
theorem dX1_leastReaders_39 : decode cX1_leastReaders 39 = .ok (.invokestatic 21, 3) := by decide +kernel
theorem dX1_leastReaders_42 : decode cX1_leastReaders 42 = .ok (.istore 4, 2) := by decide +kernel
theorem dX1_leastReaders_44 : decode cX1_leastReaders 44 = .ok (.iload 4, 2) := by decide +kernel
theorem dX1_leastReaders_46 : decode cX1_leastReaders 46 = .ok (.iconst 1, 1) := by decide +kernel
theorem dX1_leastReaders_47 : decode cX1_leastReaders 47 = .ok (.iadd, 1) := by decide +kernel
theorem dX1_leastReaders_48 : decode cX1_leastReaders 48 = .ok (.istore 5, 2) := by decide +kernel
theorem dX1_leastReaders_50 : decode cX1_leastReaders 50 = .ok (.iload 5, 2) := by decide +kernel
theorem dX1_leastReaders_52 : decode cX1_leastReaders 52 = .ok (.aload_n 1, 1) := by decide +kernel
theorem dX1_leastReaders_53 : decode cX1_leastReaders 53 = .ok (.getfield 15, 3) := by decide +kernel
theorem dX1_leastReaders_56 : decode cX1_leastReaders 56 = .ok (.if_icmp .ge 58, 3) := by decide +kernel
theorem dX1_leastReaders_59 : decode cX1_leastReaders 59 = .ok (.aload_n 0, 1) := by decide +kernel
theorem dX1_leastReaders_60 : decode cX1_leastReaders 60 = .ok (.aload_n 1, 1) := by decide +kernel
theorem dX1_leastReaders_61 : decode cX1_leastReaders 61 = .ok (.iload_n 3, 1) := by decide +kernel
theorem dX1_leastReaders_62 : decode cX1_leastReaders 62 = .ok (.iload 4, 2) := by decide +kernel
theorem dX1_leastReaders_64 : decode cX1_leastReaders 64 = .ok (.iload 5, 2) := by decide +kernel
theorem dX1_leastReaders_66 : decode cX1_leastReaders 66 = .ok (.invokevirtual 25, 3) := by decide +kernel
theorem dX1_leastReaders_69 : decode cX1_leastReaders 69 = .ok (.istore 6, 2) := by decide +kernel
theorem dX1_leastReaders_71 : decode cX1_leastReaders 71 = .ok (.iload 6, 2) := by decide +kernel
theorem dX1_leastReaders_73 : decode cX1_leastReaders 73 = .ok (.bipush (-9), 2) := by decide +kernel
theorem dX1_leastReaders_75 : decode cX1_leastReaders 75 = .ok (.if_icmp .eq 33, 3) := by decide +kernel
theorem dX1_leastReaders_78 : decode cX1_leastReaders 78 = .ok (.aload_n 0, 1) := by decide +kernel
theorem dX1_leastReaders_79 : decode cX1_leastReaders 79 = .ok (.getfield 9, 3) := by decide +kernel
theorem dX1_leastReaders_82 : decode cX1_leastReaders 82 = .ok (.iload_n 3, 1) := by decide +kernel
theorem dX1_leastReaders_83 : decode cX1_leastReaders 83 = .ok (.iaload, 1) := by decide +kernel
theorem dX1_leastReaders_84 : decode cX1_leastReaders 84 = .ok (.bipush (-9), 2) := by decide +kernel
theorem dX1_leastReaders_86 : decode cX1_leastReaders 86 = .ok (.if_icmp .eq 14, 3) := by decide +kernel
theorem dX1_leastReaders_89 : decode cX1_leastReaders 89 = .ok (.iload 6, 2) := by decide +kernel
theorem dX1_leastReaders_91 : decode cX1_leastReaders 91 = .ok (.aload_n 0, 1) := by decide +kernel
theorem dX1_leastReaders_92 : decode cX1_leastReaders 92 = .ok (.getfield 9, 3) := by decide +kernel
theorem dX1_leastReaders_95 : decode cX1_leastReaders 95 = .ok (.iload_n 3, 1) := by decide +kernel
theorem dX1_leastReaders_96 : decode cX1_leastReaders 96 = .ok (.iaload, 1) := by decide +kernel
theorem dX1_leastReaders_97 : decode cX1_leastReaders 97 = .ok (.if_icmp .ge 11, 3) := by decide +kernel
theorem dX1_leastReaders_100 : decode cX1_leastReaders 100 = .ok (.aload_n 0, 1) := by decide +kernel
theorem dX1_leastReaders_101 : decode cX1_leastReaders 101 = .ok (.getfield 9, 3) := by decide +kernel
theorem dX1_leastReaders_104 : decode cX1_leastReaders 104 = .ok (.iload_n 3, 1) := by decide +kernel
theorem dX1_leastReaders_105 : decode cX1_leastReaders 105 = .ok (.iload 6, 2) := by decide +kernel
theorem dX1_leastReaders_107 : decode cX1_leastReaders 107 = .ok (.iastore, 1) := by decide +kernel
theorem dX1_leastReaders_108 : decode cX1_leastReaders 108 = .ok (.iinc 5 1, 3) := by decide +kernel
theorem dX1_leastReaders_111 : decode cX1_leastReaders 111 = .ok (.goto (-61), 3) := by decide +kernel
theorem dX1_leastReaders_114 : decode cX1_leastReaders 114 = .ok (.iinc 3 1, 3) := by decide +kernel
theorem dX1_leastReaders_117 : decode cX1_leastReaders 117 = .ok (.goto (-101), 3) := by decide +kernel
theorem dX1_leastReaders_120 : decode cX1_leastReaders 120 = .ok (.aload_n 0, 1) := by decide +kernel
theorem dX1_leastReaders_121 : decode cX1_leastReaders 121 = .ok (.getfield 9, 3) := by decide +kernel
theorem dX1_leastReaders_124 : decode cX1_leastReaders 124 = .ok (.iload_n 2, 1) := by decide +kernel
theorem dX1_leastReaders_125 : decode cX1_leastReaders 125 = .ok (.iconst 1, 1) := by decide +kernel
theorem dX1_leastReaders_126 : decode cX1_leastReaders 126 = .ok (.isub, 1) := by decide +kernel
theorem dX1_leastReaders_127 : decode cX1_leastReaders 127 = .ok (.iaload, 1) := by decide +kernel
theorem dX1_leastReaders_128 : decode cX1_leastReaders 128 = .ok (.ireturn, 1) := by decide +kernel
theorem dX1_readersWith_0 : decode cX1_readersWith 0 = .ok (.iload_n 2, 1) := by decide +kernel
theorem dX1_readersWith_1 : decode cX1_readersWith 1 = .ok (.iload 4, 2) := by decide +kernel
theorem dX1_readersWith_3 : decode cX1_readersWith 3 = .ok (.ishr, 1) := by decide +kernel
theorem dX1_readersWith_4 : decode cX1_readersWith 4 = .ok (.iconst 1, 1) := by decide +kernel
theorem dX1_readersWith_5 : decode cX1_readersWith 5 = .ok (.iand, 1) := by decide +kernel
theorem dX1_readersWith_6 : decode cX1_readersWith 6 = .ok (.ifCond .eq 23, 3) := by decide +kernel
theorem dX1_readersWith_9 : decode cX1_readersWith 9 = .ok (.aload_n 1, 1) := by decide +kernel
theorem dX1_readersWith_10 : decode cX1_readersWith 10 = .ok (.getfield 29, 3) := by decide +kernel
theorem dX1_readersWith_13 : decode cX1_readersWith 13 = .ok (.iload_n 3, 1) := by decide +kernel
theorem dX1_readersWith_14 : decode cX1_readersWith 14 = .ok (.iaload, 1) := by decide +kernel
theorem dX1_readersWith_15 : decode cX1_readersWith 15 = .ok (.aload_n 1, 1) := by decide +kernel
theorem dX1_readersWith_16 : decode cX1_readersWith 16 = .ok (.getfield 29, 3) := by decide +kernel
theorem dX1_readersWith_19 : decode cX1_readersWith 19 = .ok (.iload 4, 2) := by decide +kernel
theorem dX1_readersWith_21 : decode cX1_readersWith 21 = .ok (.iaload, 1) := by decide +kernel
theorem dX1_readersWith_22 : decode cX1_readersWith 22 = .ok (.if_icmp .eq 7, 3) := by decide +kernel
theorem dX1_readersWith_25 : decode cX1_readersWith 25 = .ok (.iconst 1, 1) := by decide +kernel
theorem dX1_readersWith_26 : decode cX1_readersWith 26 = .ok (.goto 4, 3) := by decide +kernel
theorem dX1_readersWith_29 : decode cX1_readersWith 29 = .ok (.iconst 0, 1) := by decide +kernel
theorem dX1_readersWith_30 : decode cX1_readersWith 30 = .ok (.istore 5, 2) := by decide +kernel
theorem dX1_readersWith_32 : decode cX1_readersWith 32 = .ok (.iload 5, 2) := by decide +kernel
theorem dX1_readersWith_34 : decode cX1_readersWith 34 = .ok (.ifCond .ne 6, 3) := by decide +kernel
theorem dX1_readersWith_37 : decode cX1_readersWith 37 = .ok (.bipush (-9), 2) := by decide +kernel
theorem dX1_readersWith_39 : decode cX1_readersWith 39 = .ok (.ireturn, 1) := by decide +kernel
theorem dX1_readersWith_40 : decode cX1_readersWith 40 = .ok (.aload_n 0, 1) := by decide +kernel
theorem dX1_readersWith_41 : decode cX1_readersWith 41 = .ok (.getfield 9, 3) := by decide +kernel
theorem dX1_readersWith_44 : decode cX1_readersWith 44 = .ok (.iload_n 2, 1) := by decide +kernel
theorem dX1_readersWith_45 : decode cX1_readersWith 45 = .ok (.iconst 1, 1) := by decide +kernel
theorem dX1_readersWith_46 : decode cX1_readersWith 46 = .ok (.iload_n 3, 1) := by decide +kernel
theorem dX1_readersWith_47 : decode cX1_readersWith 47 = .ok (.ishl, 1) := by decide +kernel
theorem dX1_readersWith_48 : decode cX1_readersWith 48 = .ok (.ixor, 1) := by decide +kernel
theorem dX1_readersWith_49 : decode cX1_readersWith 49 = .ok (.iconst 1, 1) := by decide +kernel
theorem dX1_readersWith_50 : decode cX1_readersWith 50 = .ok (.iload 4, 2) := by decide +kernel
theorem dX1_readersWith_52 : decode cX1_readersWith 52 = .ok (.ishl, 1) := by decide +kernel
theorem dX1_readersWith_53 : decode cX1_readersWith 53 = .ok (.ixor, 1) := by decide +kernel
theorem dX1_readersWith_54 : decode cX1_readersWith 54 = .ok (.iaload, 1) := by decide +kernel
theorem dX1_readersWith_55 : decode cX1_readersWith 55 = .ok (.istore 6, 2) := by decide +kernel
theorem dX1_readersWith_57 : decode cX1_readersWith 57 = .ok (.iload 6, 2) := by decide +kernel
theorem dX1_readersWith_59 : decode cX1_readersWith 59 = .ok (.bipush (-9), 2) := by decide +kernel
theorem dX1_readersWith_61 : decode cX1_readersWith 61 = .ok (.if_icmp .ne 8, 3) := by decide +kernel
theorem dX1_readersWith_64 : decode cX1_readersWith 64 = .ok (.bipush (-9), 2) := by decide +kernel
theorem dX1_readersWith_66 : decode cX1_readersWith 66 = .ok (.goto 13, 3) := by decide +kernel
theorem dX1_readersWith_69 : decode cX1_readersWith 69 = .ok (.iload 6, 2) := by decide +kernel
theorem dX1_readersWith_71 : decode cX1_readersWith 71 = .ok (.aload_n 1, 1) := by decide +kernel
theorem dX1_readersWith_72 : decode cX1_readersWith 72 = .ok (.iload_n 3, 1) := by decide +kernel
theorem dX1_readersWith_73 : decode cX1_readersWith 73 = .ok (.iload 4, 2) := by decide +kernel
theorem dX1_readersWith_75 : decode cX1_readersWith 75 = .ok (.invokestatic 32, 3) := by decide +kernel
theorem dX1_readersWith_78 : decode cX1_readersWith 78 = .ok (.iadd, 1) := by decide +kernel
theorem dX1_readersWith_79 : decode cX1_readersWith 79 = .ok (.ireturn, 1) := by decide +kernel
theorem dX1_between_0 : decode cX1_between 0 = .ok (.iload_n 2, 1) := by decide +kernel
theorem dX1_between_1 : decode cX1_between 1 = .ok (.iload_n 1, 1) := by decide +kernel
theorem dX1_between_2 : decode cX1_between 2 = .ok (.isub, 1) := by decide +kernel
theorem dX1_between_3 : decode cX1_between 3 = .ok (.iconst 1, 1) := by decide +kernel
theorem dX1_between_4 : decode cX1_between 4 = .ok (.isub, 1) := by decide +kernel
theorem dX1_between_5 : decode cX1_between 5 = .ok (.istore_n 3, 1) := by decide +kernel
theorem dX1_between_6 : decode cX1_between 6 = .ok (.aload_n 0, 1) := by decide +kernel
theorem dX1_between_7 : decode cX1_between 7 = .ok (.getfield 36, 3) := by decide +kernel
theorem dX1_between_10 : decode cX1_between 10 = .ok (.ifCond .eq 18, 3) := by decide +kernel
theorem dX1_between_13 : decode cX1_between 13 = .ok (.iload_n 3, 1) := by decide +kernel
theorem dX1_between_14 : decode cX1_between 14 = .ok (.aload_n 0, 1) := by decide +kernel
theorem dX1_between_15 : decode cX1_between 15 = .ok (.getfield 15, 3) := by decide +kernel
theorem dX1_between_18 : decode cX1_between 18 = .ok (.iconst 2, 1) := by decide +kernel
theorem dX1_between_19 : decode cX1_between 19 = .ok (.isub, 1) := by decide +kernel
theorem dX1_between_20 : decode cX1_between 20 = .ok (.iload_n 3, 1) := by decide +kernel
theorem dX1_between_21 : decode cX1_between 21 = .ok (.isub, 1) := by decide +kernel
theorem dX1_between_22 : decode cX1_between 22 = .ok (.invokestatic 40, 3) := by decide +kernel
theorem dX1_between_25 : decode cX1_between 25 = .ok (.goto 4, 3) := by decide +kernel
theorem dX1_between_28 : decode cX1_between 28 = .ok (.iload_n 3, 1) := by decide +kernel
theorem dX1_between_29 : decode cX1_between 29 = .ok (.ireturn, 1) := by decide +kernel
theorem dX1_leastOf_0 : decode cX1_leastOf 0 = .ok (.iconst 0, 1) := by decide +kernel
theorem dX1_leastOf_1 : decode cX1_leastOf 1 = .ok (.istore_n 1, 1) := by decide +kernel
theorem dX1_leastOf_2 : decode cX1_leastOf 2 = .ok (.iload_n 1, 1) := by decide +kernel
theorem dX1_leastOf_3 : decode cX1_leastOf 3 = .ok (.bipush 6, 2) := by decide +kernel
theorem dX1_leastOf_5 : decode cX1_leastOf 5 = .ok (.if_icmp .ge 17, 3) := by decide +kernel
theorem dX1_leastOf_8 : decode cX1_leastOf 8 = .ok (.iload_n 0, 1) := by decide +kernel
theorem dX1_leastOf_9 : decode cX1_leastOf 9 = .ok (.iload_n 1, 1) := by decide +kernel
theorem dX1_leastOf_10 : decode cX1_leastOf 10 = .ok (.ishr, 1) := by decide +kernel
theorem dX1_leastOf_11 : decode cX1_leastOf 11 = .ok (.iconst 1, 1) := by decide +kernel
theorem dX1_leastOf_12 : decode cX1_leastOf 12 = .ok (.iand, 1) := by decide +kernel
theorem dX1_leastOf_13 : decode cX1_leastOf 13 = .ok (.ifCond .ne 9, 3) := by decide +kernel
theorem dX1_leastOf_16 : decode cX1_leastOf 16 = .ok (.iinc 1 1, 3) := by decide +kernel
theorem dX1_leastOf_19 : decode cX1_leastOf 19 = .ok (.goto (-17), 3) := by decide +kernel
theorem dX1_leastOf_22 : decode cX1_leastOf 22 = .ok (.iload_n 1, 1) := by decide +kernel
theorem dX1_leastOf_23 : decode cX1_leastOf 23 = .ok (.ireturn, 1) := by decide +kernel
theorem dX1_mateOf_0 : decode cX1_mateOf 0 = .ok (.iconst 1, 1) := by decide +kernel
theorem dX1_mateOf_1 : decode cX1_mateOf 1 = .ok (.aload_n 1, 1) := by decide +kernel
theorem dX1_mateOf_2 : decode cX1_mateOf 2 = .ok (.getfield 15, 3) := by decide +kernel
theorem dX1_mateOf_5 : decode cX1_mateOf 5 = .ok (.ishl, 1) := by decide +kernel
theorem dX1_mateOf_6 : decode cX1_mateOf 6 = .ok (.iconst 1, 1) := by decide +kernel
theorem dX1_mateOf_7 : decode cX1_mateOf 7 = .ok (.isub, 1) := by decide +kernel
theorem dX1_mateOf_8 : decode cX1_mateOf 8 = .ok (.istore_n 3, 1) := by decide +kernel
theorem dX1_mateOf_9 : decode cX1_mateOf 9 = .ok (.iconst 0, 1) := by decide +kernel
theorem dX1_mateOf_10 : decode cX1_mateOf 10 = .ok (.istore 4, 2) := by decide +kernel
theorem dX1_mateOf_12 : decode cX1_mateOf 12 = .ok (.iload 4, 2) := by decide +kernel
theorem dX1_mateOf_14 : decode cX1_mateOf 14 = .ok (.aload_n 1, 1) := by decide +kernel
theorem dX1_mateOf_15 : decode cX1_mateOf 15 = .ok (.getfield 15, 3) := by decide +kernel
theorem dX1_mateOf_18 : decode cX1_mateOf 18 = .ok (.if_icmp .ge 101, 3) := by decide +kernel
theorem dX1_mateOf_21 : decode cX1_mateOf 21 = .ok (.iload_n 3, 1) := by decide +kernel
theorem dX1_mateOf_22 : decode cX1_mateOf 22 = .ok (.ifCond .eq 97, 3) := by decide +kernel
theorem dX1_mateOf_25 : decode cX1_mateOf 25 = .ok (.iload_n 3, 1) := by decide +kernel
theorem dX1_mateOf_26 : decode cX1_mateOf 26 = .ok (.invokestatic 21, 3) := by decide +kernel
theorem dX1_mateOf_29 : decode cX1_mateOf 29 = .ok (.istore 5, 2) := by decide +kernel
theorem dX1_mateOf_31 : decode cX1_mateOf 31 = .ok (.iload 5, 2) := by decide +kernel
theorem dX1_mateOf_33 : decode cX1_mateOf 33 = .ok (.iconst 1, 1) := by decide +kernel
theorem dX1_mateOf_34 : decode cX1_mateOf 34 = .ok (.iadd, 1) := by decide +kernel
theorem dX1_mateOf_35 : decode cX1_mateOf 35 = .ok (.istore 6, 2) := by decide +kernel
theorem dX1_mateOf_37 : decode cX1_mateOf 37 = .ok (.iload 6, 2) := by decide +kernel
theorem dX1_mateOf_39 : decode cX1_mateOf 39 = .ok (.aload_n 1, 1) := by decide +kernel
theorem dX1_mateOf_40 : decode cX1_mateOf 40 = .ok (.getfield 15, 3) := by decide +kernel
theorem dX1_mateOf_43 : decode cX1_mateOf 43 = .ok (.iconst 1, 1) := by decide +kernel
theorem dX1_mateOf_44 : decode cX1_mateOf 44 = .ok (.isub, 1) := by decide +kernel
theorem dX1_mateOf_45 : decode cX1_mateOf 45 = .ok (.if_icmp .ge 28, 3) := by decide +kernel
theorem dX1_mateOf_48 : decode cX1_mateOf 48 = .ok (.aload_n 0, 1) := by decide +kernel
theorem dX1_mateOf_49 : decode cX1_mateOf 49 = .ok (.aload_n 1, 1) := by decide +kernel
theorem dX1_mateOf_50 : decode cX1_mateOf 50 = .ok (.iload_n 3, 1) := by decide +kernel
theorem dX1_mateOf_51 : decode cX1_mateOf 51 = .ok (.iload 5, 2) := by decide +kernel
theorem dX1_mateOf_53 : decode cX1_mateOf 53 = .ok (.iload 6, 2) := by decide +kernel
theorem dX1_mateOf_55 : decode cX1_mateOf 55 = .ok (.invokevirtual 25, 3) := by decide +kernel
theorem dX1_mateOf_58 : decode cX1_mateOf 58 = .ok (.aload_n 0, 1) := by decide +kernel
theorem dX1_mateOf_59 : decode cX1_mateOf 59 = .ok (.getfield 9, 3) := by decide +kernel
theorem dX1_mateOf_62 : decode cX1_mateOf 62 = .ok (.iload_n 3, 1) := by decide +kernel
theorem dX1_mateOf_63 : decode cX1_mateOf 63 = .ok (.iaload, 1) := by decide +kernel
theorem dX1_mateOf_64 : decode cX1_mateOf 64 = .ok (.if_icmp .eq 9, 3) := by decide +kernel
theorem dX1_mateOf_67 : decode cX1_mateOf 67 = .ok (.iinc 6 1, 3) := by decide +kernel
theorem dX1_mateOf_70 : decode cX1_mateOf 70 = .ok (.goto (-33), 3) := by decide +kernel
theorem dX1_mateOf_73 : decode cX1_mateOf 73 = .ok (.iload_n 2, 1) := by decide +kernel
theorem dX1_mateOf_74 : decode cX1_mateOf 74 = .ok (.iload 5, 2) := by decide +kernel
theorem dX1_mateOf_76 : decode cX1_mateOf 76 = .ok (.if_icmp .eq 9, 3) := by decide +kernel
theorem dX1_mateOf_79 : decode cX1_mateOf 79 = .ok (.iload_n 2, 1) := by decide +kernel
theorem dX1_mateOf_80 : decode cX1_mateOf 80 = .ok (.iload 6, 2) := by decide +kernel
theorem dX1_mateOf_82 : decode cX1_mateOf 82 = .ok (.if_icmp .ne 17, 3) := by decide +kernel
theorem dX1_mateOf_85 : decode cX1_mateOf 85 = .ok (.iload_n 2, 1) := by decide +kernel
theorem dX1_mateOf_86 : decode cX1_mateOf 86 = .ok (.iload 5, 2) := by decide +kernel
theorem dX1_mateOf_88 : decode cX1_mateOf 88 = .ok (.if_icmp .ne 8, 3) := by decide +kernel
theorem dX1_mateOf_91 : decode cX1_mateOf 91 = .ok (.iload 6, 2) := by decide +kernel
theorem dX1_mateOf_93 : decode cX1_mateOf 93 = .ok (.goto 5, 3) := by decide +kernel
theorem dX1_mateOf_96 : decode cX1_mateOf 96 = .ok (.iload 5, 2) := by decide +kernel
theorem dX1_mateOf_98 : decode cX1_mateOf 98 = .ok (.ireturn, 1) := by decide +kernel
theorem dX1_mateOf_99 : decode cX1_mateOf 99 = .ok (.iload_n 3, 1) := by decide +kernel
theorem dX1_mateOf_100 : decode cX1_mateOf 100 = .ok (.iconst 1, 1) := by decide +kernel
theorem dX1_mateOf_101 : decode cX1_mateOf 101 = .ok (.iload 5, 2) := by decide +kernel
theorem dX1_mateOf_103 : decode cX1_mateOf 103 = .ok (.ishl, 1) := by decide +kernel
theorem dX1_mateOf_104 : decode cX1_mateOf 104 = .ok (.iconst 1, 1) := by decide +kernel
theorem dX1_mateOf_105 : decode cX1_mateOf 105 = .ok (.iload 6, 2) := by decide +kernel
theorem dX1_mateOf_107 : decode cX1_mateOf 107 = .ok (.ishl, 1) := by decide +kernel
theorem dX1_mateOf_108 : decode cX1_mateOf 108 = .ok (.ior, 1) := by decide +kernel
theorem dX1_mateOf_109 : decode cX1_mateOf 109 = .ok (.iconst (-1), 1) := by decide +kernel
theorem dX1_mateOf_110 : decode cX1_mateOf 110 = .ok (.ixor, 1) := by decide +kernel
theorem dX1_mateOf_111 : decode cX1_mateOf 111 = .ok (.iand, 1) := by decide +kernel
theorem dX1_mateOf_112 : decode cX1_mateOf 112 = .ok (.istore_n 3, 1) := by decide +kernel
theorem dX1_mateOf_113 : decode cX1_mateOf 113 = .ok (.iinc 4 1, 3) := by decide +kernel
theorem dX1_mateOf_116 : decode cX1_mateOf 116 = .ok (.goto (-104), 3) := by decide +kernel
theorem dX1_mateOf_119 : decode cX1_mateOf 119 = .ok (.bipush (-9), 2) := by decide +kernel
theorem dX1_mateOf_121 : decode cX1_mateOf 121 = .ok (.ireturn, 1) := by decide +kernel
theorem dX2_init_0 : decode cX2_init 0 = .ok (.aload_n 0, 1) := by decide +kernel
theorem dX2_init_1 : decode cX2_init 1 = .ok (.invokespecial 3, 3) := by decide +kernel
theorem dX2_init_4 : decode cX2_init 4 = .ok (.aload_n 0, 1) := by decide +kernel
theorem dX2_init_5 : decode cX2_init 5 = .ok (.bipush 7, 2) := by decide +kernel
theorem dX2_init_7 : decode cX2_init 7 = .ok (.newarray .int, 2) := by decide +kernel
theorem dX2_init_9 : decode cX2_init 9 = .ok (.putfield 9, 3) := by decide +kernel
theorem dX2_init_12 : decode cX2_init 12 = .ok (.aload_n 0, 1) := by decide +kernel
theorem dX2_init_13 : decode cX2_init 13 = .ok (.sipush 128, 3) := by decide +kernel
theorem dX2_init_16 : decode cX2_init 16 = .ok (.newarray .int, 2) := by decide +kernel
theorem dX2_init_18 : decode cX2_init 18 = .ok (.putfield 15, 3) := by decide +kernel
theorem dX2_init_21 : decode cX2_init 21 = .ok (.return_, 1) := by decide +kernel
theorem dX2_readPlaces_0 : decode cX2_readPlaces 0 = .ok (.aload_n 0, 1) := by decide +kernel
theorem dX2_readPlaces_1 : decode cX2_readPlaces 1 = .ok (.getfield 9, 3) := by decide +kernel
theorem dX2_readPlaces_4 : decode cX2_readPlaces 4 = .ok (.bipush (-9), 2) := by decide +kernel
theorem dX2_readPlaces_6 : decode cX2_readPlaces 6 = .ok (.invokestatic 18, 3) := by decide +kernel
theorem dX2_readPlaces_9 : decode cX2_readPlaces 9 = .ok (.iconst 0, 1) := by decide +kernel
theorem dX2_readPlaces_10 : decode cX2_readPlaces 10 = .ok (.istore 4, 2) := by decide +kernel
theorem dX2_readPlaces_12 : decode cX2_readPlaces 12 = .ok (.iload 4, 2) := by decide +kernel
theorem dX2_readPlaces_14 : decode cX2_readPlaces 14 = .ok (.aload_n 1, 1) := by decide +kernel
theorem dX2_readPlaces_15 : decode cX2_readPlaces 15 = .ok (.getfield 24, 3) := by decide +kernel
theorem dX2_readPlaces_18 : decode cX2_readPlaces 18 = .ok (.if_icmp .ge 51, 3) := by decide +kernel
theorem dX2_readPlaces_21 : decode cX2_readPlaces 21 = .ok (.aload_n 2, 1) := by decide +kernel
theorem dX2_readPlaces_22 : decode cX2_readPlaces 22 = .ok (.iload_n 3, 1) := by decide +kernel
theorem dX2_readPlaces_23 : decode cX2_readPlaces 23 = .ok (.iload 4, 2) := by decide +kernel
theorem dX2_readPlaces_25 : decode cX2_readPlaces 25 = .ok (.iadd, 1) := by decide +kernel
theorem dX2_readPlaces_26 : decode cX2_readPlaces 26 = .ok (.invokevirtual 30, 3) := by decide +kernel
theorem dX2_readPlaces_29 : decode cX2_readPlaces 29 = .ok (.istore 5, 2) := by decide +kernel
theorem dX2_readPlaces_31 : decode cX2_readPlaces 31 = .ok (.aload_n 1, 1) := by decide +kernel
theorem dX2_readPlaces_32 : decode cX2_readPlaces 32 = .ok (.iload 5, 2) := by decide +kernel
theorem dX2_readPlaces_34 : decode cX2_readPlaces 34 = .ok (.invokevirtual 36, 3) := by decide +kernel
theorem dX2_readPlaces_37 : decode cX2_readPlaces 37 = .ok (.ifCond .eq 15, 3) := by decide +kernel
theorem dX2_readPlaces_40 : decode cX2_readPlaces 40 = .ok (.aload_n 0, 1) := by decide +kernel
theorem dX2_readPlaces_41 : decode cX2_readPlaces 41 = .ok (.getfield 9, 3) := by decide +kernel
theorem dX2_readPlaces_44 : decode cX2_readPlaces 44 = .ok (.iload 5, 2) := by decide +kernel
theorem dX2_readPlaces_46 : decode cX2_readPlaces 46 = .ok (.iaload, 1) := by decide +kernel
theorem dX2_readPlaces_47 : decode cX2_readPlaces 47 = .ok (.bipush (-9), 2) := by decide +kernel
theorem dX2_readPlaces_49 : decode cX2_readPlaces 49 = .ok (.if_icmp .eq 5, 3) := by decide +kernel
theorem dX2_readPlaces_52 : decode cX2_readPlaces 52 = .ok (.iconst 0, 1) := by decide +kernel
theorem dX2_readPlaces_53 : decode cX2_readPlaces 53 = .ok (.ireturn, 1) := by decide +kernel
theorem dX2_readPlaces_54 : decode cX2_readPlaces 54 = .ok (.aload_n 0, 1) := by decide +kernel
theorem dX2_readPlaces_55 : decode cX2_readPlaces 55 = .ok (.getfield 9, 3) := by decide +kernel
theorem dX2_readPlaces_58 : decode cX2_readPlaces 58 = .ok (.iload 5, 2) := by decide +kernel
theorem dX2_readPlaces_60 : decode cX2_readPlaces 60 = .ok (.iload 4, 2) := by decide +kernel
theorem dX2_readPlaces_62 : decode cX2_readPlaces 62 = .ok (.iastore, 1) := by decide +kernel
theorem dX2_readPlaces_63 : decode cX2_readPlaces 63 = .ok (.iinc 4 1, 3) := by decide +kernel
theorem dX2_readPlaces_66 : decode cX2_readPlaces 66 = .ok (.goto (-54), 3) := by decide +kernel
theorem dX2_readPlaces_69 : decode cX2_readPlaces 69 = .ok (.iconst 1, 1) := by decide +kernel
theorem dX2_readPlaces_70 : decode cX2_readPlaces 70 = .ok (.ireturn, 1) := by decide +kernel
theorem dX2_mayChange_0 : decode cX2_mayChange 0 = .ok (.aload_n 0, 1) := by decide +kernel
theorem dX2_mayChange_1 : decode cX2_mayChange 1 = .ok (.getfield 40, 3) := by decide +kernel
theorem dX2_mayChange_4 : decode cX2_mayChange 4 = .ok (.iload_n 2, 1) := by decide +kernel
theorem dX2_mayChange_5 : decode cX2_mayChange 5 = .ok (.iaload, 1) := by decide +kernel
theorem dX2_mayChange_6 : decode cX2_mayChange 6 = .ok (.aload_n 0, 1) := by decide +kernel
theorem dX2_mayChange_7 : decode cX2_mayChange 7 = .ok (.getfield 40, 3) := by decide +kernel
theorem dX2_mayChange_10 : decode cX2_mayChange 10 = .ok (.iload_n 1, 1) := by decide +kernel
theorem dX2_mayChange_11 : decode cX2_mayChange 11 = .ok (.iaload, 1) := by decide +kernel
theorem dX2_mayChange_12 : decode cX2_mayChange 12 = .ok (.if_icmp .lt 7, 3) := by decide +kernel
theorem dX2_mayChange_15 : decode cX2_mayChange 15 = .ok (.iconst 1, 1) := by decide +kernel
theorem dX2_mayChange_16 : decode cX2_mayChange 16 = .ok (.goto 4, 3) := by decide +kernel
theorem dX2_mayChange_19 : decode cX2_mayChange 19 = .ok (.iconst 0, 1) := by decide +kernel
theorem dX2_mayChange_20 : decode cX2_mayChange 20 = .ok (.ireturn, 1) := by decide +kernel
theorem dX2_firstBar_0 : decode cX2_firstBar 0 = .ok (.iconst 0, 1) := by decide +kernel
theorem dX2_firstBar_1 : decode cX2_firstBar 1 = .ok (.istore_n 2, 1) := by decide +kernel
theorem dX2_firstBar_2 : decode cX2_firstBar 2 = .ok (.iload_n 2, 1) := by decide +kernel
theorem dX2_firstBar_3 : decode cX2_firstBar 3 = .ok (.aload_n 1, 1) := by decide +kernel
theorem dX2_firstBar_4 : decode cX2_firstBar 4 = .ok (.getfield 24, 3) := by decide +kernel
theorem dX2_firstBar_7 : decode cX2_firstBar 7 = .ok (.if_icmp .ge 58, 3) := by decide +kernel
theorem dX2_firstBar_10 : decode cX2_firstBar 10 = .ok (.iload_n 2, 1) := by decide +kernel
theorem dX2_firstBar_11 : decode cX2_firstBar 11 = .ok (.iconst 1, 1) := by decide +kernel
theorem dX2_firstBar_12 : decode cX2_firstBar 12 = .ok (.iadd, 1) := by decide +kernel
theorem dX2_firstBar_13 : decode cX2_firstBar 13 = .ok (.istore_n 3, 1) := by decide +kernel
theorem dX2_firstBar_14 : decode cX2_firstBar 14 = .ok (.iload_n 3, 1) := by decide +kernel
theorem dX2_firstBar_15 : decode cX2_firstBar 15 = .ok (.aload_n 1, 1) := by decide +kernel
theorem dX2_firstBar_16 : decode cX2_firstBar 16 = .ok (.getfield 24, 3) := by decide +kernel
theorem dX2_firstBar_19 : decode cX2_firstBar 19 = .ok (.if_icmp .ge 40, 3) := by decide +kernel
theorem dX2_firstBar_22 : decode cX2_firstBar 22 = .ok (.aload_n 0, 1) := by decide +kernel
theorem dX2_firstBar_23 : decode cX2_firstBar 23 = .ok (.getfield 9, 3) := by decide +kernel
theorem dX2_firstBar_26 : decode cX2_firstBar 26 = .ok (.iload_n 3, 1) := by decide +kernel
theorem dX2_firstBar_27 : decode cX2_firstBar 27 = .ok (.iaload, 1) := by decide +kernel
theorem dX2_firstBar_28 : decode cX2_firstBar 28 = .ok (.aload_n 0, 1) := by decide +kernel
theorem dX2_firstBar_29 : decode cX2_firstBar 29 = .ok (.getfield 9, 3) := by decide +kernel
theorem dX2_firstBar_32 : decode cX2_firstBar 32 = .ok (.iload_n 2, 1) := by decide +kernel
theorem dX2_firstBar_33 : decode cX2_firstBar 33 = .ok (.iaload, 1) := by decide +kernel
theorem dX2_firstBar_34 : decode cX2_firstBar 34 = .ok (.if_icmp .ge 19, 3) := by decide +kernel
theorem dX2_firstBar_37 : decode cX2_firstBar 37 = .ok (.aload_n 1, 1) := by decide +kernel
theorem dX2_firstBar_38 : decode cX2_firstBar 38 = .ok (.iload_n 2, 1) := by decide +kernel
theorem dX2_firstBar_39 : decode cX2_firstBar 39 = .ok (.iload_n 3, 1) := by decide +kernel
theorem dX2_firstBar_40 : decode cX2_firstBar 40 = .ok (.invokestatic 43, 3) := by decide +kernel
theorem dX2_firstBar_43 : decode cX2_firstBar 43 = .ok (.ifCond .ne 10, 3) := by decide +kernel
theorem dX2_firstBar_46 : decode cX2_firstBar 46 = .ok (.bipush 10, 2) := by decide +kernel
theorem dX2_firstBar_48 : decode cX2_firstBar 48 = .ok (.iload_n 2, 1) := by decide +kernel
theorem dX2_firstBar_49 : decode cX2_firstBar 49 = .ok (.imul, 1) := by decide +kernel
theorem dX2_firstBar_50 : decode cX2_firstBar 50 = .ok (.iload_n 3, 1) := by decide +kernel
theorem dX2_firstBar_51 : decode cX2_firstBar 51 = .ok (.iadd, 1) := by decide +kernel
theorem dX2_firstBar_52 : decode cX2_firstBar 52 = .ok (.ireturn, 1) := by decide +kernel
theorem dX2_firstBar_53 : decode cX2_firstBar 53 = .ok (.iinc 3 1, 3) := by decide +kernel
theorem dX2_firstBar_56 : decode cX2_firstBar 56 = .ok (.goto (-42), 3) := by decide +kernel
theorem dX2_firstBar_59 : decode cX2_firstBar 59 = .ok (.iinc 2 1, 3) := by decide +kernel
theorem dX2_firstBar_62 : decode cX2_firstBar 62 = .ok (.goto (-60), 3) := by decide +kernel
theorem dX2_firstBar_65 : decode cX2_firstBar 65 = .ok (.bipush (-9), 2) := by decide +kernel
theorem dX2_firstBar_67 : decode cX2_firstBar 67 = .ok (.ireturn, 1) := by decide +kernel
theorem dX2_changes_0 : decode cX2_changes 0 = .ok (.iconst 0, 1) := by decide +kernel
theorem dX2_changes_1 : decode cX2_changes 1 = .ok (.istore_n 2, 1) := by decide +kernel
theorem dX2_changes_2 : decode cX2_changes 2 = .ok (.iconst 0, 1) := by decide +kernel
theorem dX2_changes_3 : decode cX2_changes 3 = .ok (.istore_n 3, 1) := by decide +kernel
theorem dX2_changes_4 : decode cX2_changes 4 = .ok (.iload_n 3, 1) := by decide +kernel
theorem dX2_changes_5 : decode cX2_changes 5 = .ok (.aload_n 1, 1) := by decide +kernel
theorem dX2_changes_6 : decode cX2_changes 6 = .ok (.getfield 24, 3) := by decide +kernel
theorem dX2_changes_9 : decode cX2_changes 9 = .ok (.if_icmp .ge 48, 3) := by decide +kernel
theorem dX2_changes_12 : decode cX2_changes 12 = .ok (.iload_n 3, 1) := by decide +kernel
theorem dX2_changes_13 : decode cX2_changes 13 = .ok (.iconst 1, 1) := by decide +kernel
theorem dX2_changes_14 : decode cX2_changes 14 = .ok (.iadd, 1) := by decide +kernel
theorem dX2_changes_15 : decode cX2_changes 15 = .ok (.istore 4, 2) := by decide +kernel
theorem dX2_changes_17 : decode cX2_changes 17 = .ok (.iload 4, 2) := by decide +kernel
theorem dX2_changes_19 : decode cX2_changes 19 = .ok (.aload_n 1, 1) := by decide +kernel
theorem dX2_changes_20 : decode cX2_changes 20 = .ok (.getfield 24, 3) := by decide +kernel
theorem dX2_changes_23 : decode cX2_changes 23 = .ok (.if_icmp .ge 28, 3) := by decide +kernel
theorem dX2_changes_26 : decode cX2_changes 26 = .ok (.aload_n 0, 1) := by decide +kernel
theorem dX2_changes_27 : decode cX2_changes 27 = .ok (.getfield 9, 3) := by decide +kernel
theorem dX2_changes_30 : decode cX2_changes 30 = .ok (.iload 4, 2) := by decide +kernel
theorem dX2_changes_32 : decode cX2_changes 32 = .ok (.iaload, 1) := by decide +kernel
theorem dX2_changes_33 : decode cX2_changes 33 = .ok (.aload_n 0, 1) := by decide +kernel
theorem dX2_changes_34 : decode cX2_changes 34 = .ok (.getfield 9, 3) := by decide +kernel
theorem dX2_changes_37 : decode cX2_changes 37 = .ok (.iload_n 3, 1) := by decide +kernel
theorem dX2_changes_38 : decode cX2_changes 38 = .ok (.iaload, 1) := by decide +kernel
theorem dX2_changes_39 : decode cX2_changes 39 = .ok (.if_icmp .ge 6, 3) := by decide +kernel
theorem dX2_changes_42 : decode cX2_changes 42 = .ok (.iinc 2 1, 3) := by decide +kernel
theorem dX2_changes_45 : decode cX2_changes 45 = .ok (.iinc 4 1, 3) := by decide +kernel
theorem dX2_changes_48 : decode cX2_changes 48 = .ok (.goto (-31), 3) := by decide +kernel
theorem dX2_changes_51 : decode cX2_changes 51 = .ok (.iinc 3 1, 3) := by decide +kernel
theorem dX2_changes_54 : decode cX2_changes 54 = .ok (.goto (-50), 3) := by decide +kernel
theorem dX2_changes_57 : decode cX2_changes 57 = .ok (.iload_n 2, 1) := by decide +kernel
theorem dX2_changes_58 : decode cX2_changes 58 = .ok (.ireturn, 1) := by decide +kernel
theorem dX2_howManyCome_0 : decode cX2_howManyCome 0 = .ok (.iconst 1, 1) := by decide +kernel
theorem dX2_howManyCome_1 : decode cX2_howManyCome 1 = .ok (.aload_n 1, 1) := by decide +kernel
theorem dX2_howManyCome_2 : decode cX2_howManyCome 2 = .ok (.getfield 24, 3) := by decide +kernel
theorem dX2_howManyCome_5 : decode cX2_howManyCome 5 = .ok (.ishl, 1) := by decide +kernel
theorem dX2_howManyCome_6 : decode cX2_howManyCome 6 = .ok (.istore_n 2, 1) := by decide +kernel
theorem dX2_howManyCome_7 : decode cX2_howManyCome 7 = .ok (.aload_n 0, 1) := by decide +kernel
theorem dX2_howManyCome_8 : decode cX2_howManyCome 8 = .ok (.getfield 15, 3) := by decide +kernel
theorem dX2_howManyCome_11 : decode cX2_howManyCome 11 = .ok (.iconst 0, 1) := by decide +kernel
theorem dX2_howManyCome_12 : decode cX2_howManyCome 12 = .ok (.iconst 1, 1) := by decide +kernel
theorem dX2_howManyCome_13 : decode cX2_howManyCome 13 = .ok (.iastore, 1) := by decide +kernel
theorem dX2_howManyCome_14 : decode cX2_howManyCome 14 = .ok (.iconst 1, 1) := by decide +kernel
theorem dX2_howManyCome_15 : decode cX2_howManyCome 15 = .ok (.istore_n 3, 1) := by decide +kernel
theorem dX2_howManyCome_16 : decode cX2_howManyCome 16 = .ok (.iload_n 3, 1) := by decide +kernel
theorem dX2_howManyCome_17 : decode cX2_howManyCome 17 = .ok (.iload_n 2, 1) := by decide +kernel
theorem dX2_howManyCome_18 : decode cX2_howManyCome 18 = .ok (.if_icmp .ge 87, 3) := by decide +kernel
theorem dX2_howManyCome_21 : decode cX2_howManyCome 21 = .ok (.iload_n 3, 1) := by decide +kernel
theorem dX2_howManyCome_22 : decode cX2_howManyCome 22 = .ok (.aload_n 0, 1) := by decide +kernel
theorem dX2_howManyCome_23 : decode cX2_howManyCome 23 = .ok (.getfield 15, 3) := by decide +kernel
theorem dX2_howManyCome_26 : decode cX2_howManyCome 26 = .ok (.arraylength, 1) := by decide +kernel
theorem dX2_howManyCome_27 : decode cX2_howManyCome 27 = .ok (.if_icmp .ge 78, 3) := by decide +kernel
theorem dX2_howManyCome_30 : decode cX2_howManyCome 30 = .ok (.aload_n 0, 1) := by decide +kernel
theorem dX2_howManyCome_31 : decode cX2_howManyCome 31 = .ok (.getfield 15, 3) := by decide +kernel
theorem dX2_howManyCome_34 : decode cX2_howManyCome 34 = .ok (.iload_n 3, 1) := by decide +kernel
theorem dX2_howManyCome_35 : decode cX2_howManyCome 35 = .ok (.iconst 0, 1) := by decide +kernel
theorem dX2_howManyCome_36 : decode cX2_howManyCome 36 = .ok (.iastore, 1) := by decide +kernel
theorem dX2_howManyCome_37 : decode cX2_howManyCome 37 = .ok (.iconst 0, 1) := by decide +kernel
theorem dX2_howManyCome_38 : decode cX2_howManyCome 38 = .ok (.istore 4, 2) := by decide +kernel
theorem dX2_howManyCome_40 : decode cX2_howManyCome 40 = .ok (.iload 4, 2) := by decide +kernel
theorem dX2_howManyCome_42 : decode cX2_howManyCome 42 = .ok (.aload_n 1, 1) := by decide +kernel
theorem dX2_howManyCome_43 : decode cX2_howManyCome 43 = .ok (.getfield 24, 3) := by decide +kernel
theorem dX2_howManyCome_46 : decode cX2_howManyCome 46 = .ok (.if_icmp .ge 53, 3) := by decide +kernel
theorem dX2_howManyCome_49 : decode cX2_howManyCome 49 = .ok (.iconst 1, 1) := by decide +kernel
theorem dX2_howManyCome_50 : decode cX2_howManyCome 50 = .ok (.iload 4, 2) := by decide +kernel
theorem dX2_howManyCome_52 : decode cX2_howManyCome 52 = .ok (.ishl, 1) := by decide +kernel
theorem dX2_howManyCome_53 : decode cX2_howManyCome 53 = .ok (.istore 5, 2) := by decide +kernel
theorem dX2_howManyCome_55 : decode cX2_howManyCome 55 = .ok (.iload_n 3, 1) := by decide +kernel
theorem dX2_howManyCome_56 : decode cX2_howManyCome 56 = .ok (.iload 5, 2) := by decide +kernel
theorem dX2_howManyCome_58 : decode cX2_howManyCome 58 = .ok (.iand, 1) := by decide +kernel
theorem dX2_howManyCome_59 : decode cX2_howManyCome 59 = .ok (.ifCond .eq 34, 3) := by decide +kernel
theorem dX2_howManyCome_62 : decode cX2_howManyCome 62 = .ok (.aload_n 1, 1) := by decide +kernel
theorem dX2_howManyCome_63 : decode cX2_howManyCome 63 = .ok (.iload 4, 2) := by decide +kernel
theorem dX2_howManyCome_65 : decode cX2_howManyCome 65 = .ok (.invokestatic 47, 3) := by decide +kernel
theorem dX2_howManyCome_68 : decode cX2_howManyCome 68 = .ok (.iload_n 3, 1) := by decide +kernel
theorem dX2_howManyCome_69 : decode cX2_howManyCome 69 = .ok (.iconst (-1), 1) := by decide +kernel
theorem dX2_howManyCome_70 : decode cX2_howManyCome 70 = .ok (.ixor, 1) := by decide +kernel
theorem dX2_howManyCome_71 : decode cX2_howManyCome 71 = .ok (.iand, 1) := by decide +kernel
theorem dX2_howManyCome_72 : decode cX2_howManyCome 72 = .ok (.ifCond .ne 21, 3) := by decide +kernel
theorem dX2_howManyCome_75 : decode cX2_howManyCome 75 = .ok (.aload_n 0, 1) := by decide +kernel
theorem dX2_howManyCome_76 : decode cX2_howManyCome 76 = .ok (.getfield 15, 3) := by decide +kernel
theorem dX2_howManyCome_79 : decode cX2_howManyCome 79 = .ok (.iload_n 3, 1) := by decide +kernel
theorem dX2_howManyCome_80 : decode cX2_howManyCome 80 = .ok (.dup2, 1) := by decide +kernel
theorem dX2_howManyCome_81 : decode cX2_howManyCome 81 = .ok (.iaload, 1) := by decide +kernel
theorem dX2_howManyCome_82 : decode cX2_howManyCome 82 = .ok (.aload_n 0, 1) := by decide +kernel
theorem dX2_howManyCome_83 : decode cX2_howManyCome 83 = .ok (.getfield 15, 3) := by decide +kernel
theorem dX2_howManyCome_86 : decode cX2_howManyCome 86 = .ok (.iload_n 3, 1) := by decide +kernel
theorem dX2_howManyCome_87 : decode cX2_howManyCome 87 = .ok (.iload 5, 2) := by decide +kernel
theorem dX2_howManyCome_89 : decode cX2_howManyCome 89 = .ok (.ixor, 1) := by decide +kernel
theorem dX2_howManyCome_90 : decode cX2_howManyCome 90 = .ok (.iaload, 1) := by decide +kernel
theorem dX2_howManyCome_91 : decode cX2_howManyCome 91 = .ok (.iadd, 1) := by decide +kernel
theorem dX2_howManyCome_92 : decode cX2_howManyCome 92 = .ok (.iastore, 1) := by decide +kernel
theorem dX2_howManyCome_93 : decode cX2_howManyCome 93 = .ok (.iinc 4 1, 3) := by decide +kernel
theorem dX2_howManyCome_96 : decode cX2_howManyCome 96 = .ok (.goto (-56), 3) := by decide +kernel
theorem dX2_howManyCome_99 : decode cX2_howManyCome 99 = .ok (.iinc 3 1, 3) := by decide +kernel
theorem dX2_howManyCome_102 : decode cX2_howManyCome 102 = .ok (.goto (-86), 3) := by decide +kernel
theorem dX2_howManyCome_105 : decode cX2_howManyCome 105 = .ok (.aload_n 0, 1) := by decide +kernel
theorem dX2_howManyCome_106 : decode cX2_howManyCome 106 = .ok (.getfield 15, 3) := by decide +kernel
theorem dX2_howManyCome_109 : decode cX2_howManyCome 109 = .ok (.iload_n 2, 1) := by decide +kernel
theorem dX2_howManyCome_110 : decode cX2_howManyCome 110 = .ok (.iconst 1, 1) := by decide +kernel
theorem dX2_howManyCome_111 : decode cX2_howManyCome 111 = .ok (.isub, 1) := by decide +kernel
theorem dX2_howManyCome_112 : decode cX2_howManyCome 112 = .ok (.iaload, 1) := by decide +kernel
theorem dX2_howManyCome_113 : decode cX2_howManyCome 113 = .ok (.ireturn, 1) := by decide +kernel
theorem dX2_mustBeAhead_0 : decode cX2_mustBeAhead 0 = .ok (.iconst 0, 1) := by decide +kernel
theorem dX2_mustBeAhead_1 : decode cX2_mustBeAhead 1 = .ok (.istore_n 2, 1) := by decide +kernel
theorem dX2_mustBeAhead_2 : decode cX2_mustBeAhead 2 = .ok (.iconst 0, 1) := by decide +kernel
theorem dX2_mustBeAhead_3 : decode cX2_mustBeAhead 3 = .ok (.istore_n 3, 1) := by decide +kernel
theorem dX2_mustBeAhead_4 : decode cX2_mustBeAhead 4 = .ok (.iload_n 3, 1) := by decide +kernel
theorem dX2_mustBeAhead_5 : decode cX2_mustBeAhead 5 = .ok (.iload_n 1, 1) := by decide +kernel
theorem dX2_mustBeAhead_6 : decode cX2_mustBeAhead 6 = .ok (.if_icmp .ge 24, 3) := by decide +kernel
theorem dX2_mustBeAhead_9 : decode cX2_mustBeAhead 9 = .ok (.aload_n 0, 1) := by decide +kernel
theorem dX2_mustBeAhead_10 : decode cX2_mustBeAhead 10 = .ok (.iload_n 3, 1) := by decide +kernel
theorem dX2_mustBeAhead_11 : decode cX2_mustBeAhead 11 = .ok (.iload_n 1, 1) := by decide +kernel
theorem dX2_mustBeAhead_12 : decode cX2_mustBeAhead 12 = .ok (.invokestatic 43, 3) := by decide +kernel
theorem dX2_mustBeAhead_15 : decode cX2_mustBeAhead 15 = .ok (.ifCond .ne 9, 3) := by decide +kernel
theorem dX2_mustBeAhead_18 : decode cX2_mustBeAhead 18 = .ok (.iload_n 2, 1) := by decide +kernel
theorem dX2_mustBeAhead_19 : decode cX2_mustBeAhead 19 = .ok (.iconst 1, 1) := by decide +kernel
theorem dX2_mustBeAhead_20 : decode cX2_mustBeAhead 20 = .ok (.iload_n 3, 1) := by decide +kernel
theorem dX2_mustBeAhead_21 : decode cX2_mustBeAhead 21 = .ok (.ishl, 1) := by decide +kernel
theorem dX2_mustBeAhead_22 : decode cX2_mustBeAhead 22 = .ok (.ior, 1) := by decide +kernel
theorem dX2_mustBeAhead_23 : decode cX2_mustBeAhead 23 = .ok (.istore_n 2, 1) := by decide +kernel
theorem dX2_mustBeAhead_24 : decode cX2_mustBeAhead 24 = .ok (.iinc 3 1, 3) := by decide +kernel
theorem dX2_mustBeAhead_27 : decode cX2_mustBeAhead 27 = .ok (.goto (-23), 3) := by decide +kernel
theorem dX2_mustBeAhead_30 : decode cX2_mustBeAhead 30 = .ok (.iload_n 2, 1) := by decide +kernel
theorem dX2_mustBeAhead_31 : decode cX2_mustBeAhead 31 = .ok (.ireturn, 1) := by decide +kernel
theorem dX3_init_0 : decode cX3_init 0 = .ok (.aload_n 0, 1) := by decide +kernel
theorem dX3_init_1 : decode cX3_init 1 = .ok (.invokespecial 3, 3) := by decide +kernel
theorem dX3_init_4 : decode cX3_init 4 = .ok (.aload_n 0, 1) := by decide +kernel
theorem dX3_init_5 : decode cX3_init 5 = .ok (.iconst 0, 1) := by decide +kernel
theorem dX3_init_6 : decode cX3_init 6 = .ok (.putfield 9, 3) := by decide +kernel
theorem dX3_init_9 : decode cX3_init 9 = .ok (.aload_n 0, 1) := by decide +kernel
theorem dX3_init_10 : decode cX3_init 10 = .ok (.bipush 8, 2) := by decide +kernel
theorem dX3_init_12 : decode cX3_init 12 = .ok (.newarray .int, 2) := by decide +kernel
theorem dX3_init_14 : decode cX3_init 14 = .ok (.putfield 15, 3) := by decide +kernel
theorem dX3_init_17 : decode cX3_init 17 = .ok (.aload_n 0, 1) := by decide +kernel
theorem dX3_init_18 : decode cX3_init 18 = .ok (.bipush 8, 2) := by decide +kernel
theorem dX3_init_20 : decode cX3_init 20 = .ok (.newarray .int, 2) := by decide +kernel
theorem dX3_init_22 : decode cX3_init 22 = .ok (.putfield 19, 3) := by decide +kernel
theorem dX3_init_25 : decode cX3_init 25 = .ok (.aload_n 0, 1) := by decide +kernel
theorem dX3_init_26 : decode cX3_init 26 = .ok (.bipush 8, 2) := by decide +kernel
theorem dX3_init_28 : decode cX3_init 28 = .ok (.newarray .int, 2) := by decide +kernel
theorem dX3_init_30 : decode cX3_init 30 = .ok (.putfield 22, 3) := by decide +kernel
theorem dX3_init_33 : decode cX3_init 33 = .ok (.aload_n 0, 1) := by decide +kernel
theorem dX3_init_34 : decode cX3_init 34 = .ok (.bipush 8, 2) := by decide +kernel
theorem dX3_init_36 : decode cX3_init 36 = .ok (.newarray .int, 2) := by decide +kernel
theorem dX3_init_38 : decode cX3_init 38 = .ok (.putfield 25, 3) := by decide +kernel
theorem dX3_init_41 : decode cX3_init 41 = .ok (.return_, 1) := by decide +kernel
theorem dX3_takeOne_0 : decode cX3_takeOne 0 = .ok (.aload_n 0, 1) := by decide +kernel
theorem dX3_takeOne_1 : decode cX3_takeOne 1 = .ok (.getfield 9, 3) := by decide +kernel
theorem dX3_takeOne_4 : decode cX3_takeOne 4 = .ok (.bipush 8, 2) := by decide +kernel
theorem dX3_takeOne_6 : decode cX3_takeOne 6 = .ok (.if_icmp .lt 6, 3) := by decide +kernel
theorem dX3_takeOne_9 : decode cX3_takeOne 9 = .ok (.bipush (-4), 2) := by decide +kernel
theorem dX3_takeOne_11 : decode cX3_takeOne 11 = .ok (.ireturn, 1) := by decide +kernel
theorem dX3_takeOne_12 : decode cX3_takeOne 12 = .ok (.aload_n 0, 1) := by decide +kernel
theorem dX3_takeOne_13 : decode cX3_takeOne 13 = .ok (.getfield 9, 3) := by decide +kernel
theorem dX3_takeOne_16 : decode cX3_takeOne 16 = .ok (.istore 5, 2) := by decide +kernel
theorem dX3_takeOne_18 : decode cX3_takeOne 18 = .ok (.aload_n 0, 1) := by decide +kernel
theorem dX3_takeOne_19 : decode cX3_takeOne 19 = .ok (.getfield 15, 3) := by decide +kernel
theorem dX3_takeOne_22 : decode cX3_takeOne 22 = .ok (.iload 5, 2) := by decide +kernel
theorem dX3_takeOne_24 : decode cX3_takeOne 24 = .ok (.iload_n 1, 1) := by decide +kernel
theorem dX3_takeOne_25 : decode cX3_takeOne 25 = .ok (.iastore, 1) := by decide +kernel
theorem dX3_takeOne_26 : decode cX3_takeOne 26 = .ok (.aload_n 0, 1) := by decide +kernel
theorem dX3_takeOne_27 : decode cX3_takeOne 27 = .ok (.getfield 19, 3) := by decide +kernel
theorem dX3_takeOne_30 : decode cX3_takeOne 30 = .ok (.iload 5, 2) := by decide +kernel
theorem dX3_takeOne_32 : decode cX3_takeOne 32 = .ok (.iload_n 2, 1) := by decide +kernel
theorem dX3_takeOne_33 : decode cX3_takeOne 33 = .ok (.iastore, 1) := by decide +kernel
theorem dX3_takeOne_34 : decode cX3_takeOne 34 = .ok (.aload_n 0, 1) := by decide +kernel
theorem dX3_takeOne_35 : decode cX3_takeOne 35 = .ok (.getfield 22, 3) := by decide +kernel
theorem dX3_takeOne_38 : decode cX3_takeOne 38 = .ok (.iload 5, 2) := by decide +kernel
theorem dX3_takeOne_40 : decode cX3_takeOne 40 = .ok (.iload_n 3, 1) := by decide +kernel
theorem dX3_takeOne_41 : decode cX3_takeOne 41 = .ok (.iastore, 1) := by decide +kernel
theorem dX3_takeOne_42 : decode cX3_takeOne 42 = .ok (.aload_n 0, 1) := by decide +kernel
theorem dX3_takeOne_43 : decode cX3_takeOne 43 = .ok (.getfield 25, 3) := by decide +kernel
theorem dX3_takeOne_46 : decode cX3_takeOne 46 = .ok (.iload 5, 2) := by decide +kernel
theorem dX3_takeOne_48 : decode cX3_takeOne 48 = .ok (.iload 4, 2) := by decide +kernel
theorem dX3_takeOne_50 : decode cX3_takeOne 50 = .ok (.iastore, 1) := by decide +kernel
theorem dX3_takeOne_51 : decode cX3_takeOne 51 = .ok (.aload_n 0, 1) := by decide +kernel
theorem dX3_takeOne_52 : decode cX3_takeOne 52 = .ok (.dup, 1) := by decide +kernel
theorem dX3_takeOne_53 : decode cX3_takeOne 53 = .ok (.getfield 9, 3) := by decide +kernel
theorem dX3_takeOne_56 : decode cX3_takeOne 56 = .ok (.iconst 1, 1) := by decide +kernel
theorem dX3_takeOne_57 : decode cX3_takeOne 57 = .ok (.iadd, 1) := by decide +kernel
theorem dX3_takeOne_58 : decode cX3_takeOne 58 = .ok (.putfield 9, 3) := by decide +kernel
theorem dX3_takeOne_61 : decode cX3_takeOne 61 = .ok (.iload 5, 2) := by decide +kernel
theorem dX3_takeOne_63 : decode cX3_takeOne 63 = .ok (.ireturn, 1) := by decide +kernel
theorem dX3_areAllSo_0 : decode cX3_areAllSo 0 = .ok (.iconst 0, 1) := by decide +kernel
theorem dX3_areAllSo_1 : decode cX3_areAllSo 1 = .ok (.istore_n 3, 1) := by decide +kernel
theorem dX3_areAllSo_2 : decode cX3_areAllSo 2 = .ok (.iload_n 3, 1) := by decide +kernel
theorem dX3_areAllSo_3 : decode cX3_areAllSo 3 = .ok (.aload_n 0, 1) := by decide +kernel
theorem dX3_areAllSo_4 : decode cX3_areAllSo 4 = .ok (.getfield 9, 3) := by decide +kernel
theorem dX3_areAllSo_7 : decode cX3_areAllSo 7 = .ok (.if_icmp .ge 48, 3) := by decide +kernel
theorem dX3_areAllSo_10 : decode cX3_areAllSo 10 = .ok (.aload_n 2, 1) := by decide +kernel
theorem dX3_areAllSo_11 : decode cX3_areAllSo 11 = .ok (.aload_n 1, 1) := by decide +kernel
theorem dX3_areAllSo_12 : decode cX3_areAllSo 12 = .ok (.aload_n 0, 1) := by decide +kernel
theorem dX3_areAllSo_13 : decode cX3_areAllSo 13 = .ok (.getfield 15, 3) := by decide +kernel
theorem dX3_areAllSo_16 : decode cX3_areAllSo 16 = .ok (.iload_n 3, 1) := by decide +kernel
theorem dX3_areAllSo_17 : decode cX3_areAllSo 17 = .ok (.iaload, 1) := by decide +kernel
theorem dX3_areAllSo_18 : decode cX3_areAllSo 18 = .ok (.aload_n 0, 1) := by decide +kernel
theorem dX3_areAllSo_19 : decode cX3_areAllSo 19 = .ok (.getfield 19, 3) := by decide +kernel
theorem dX3_areAllSo_22 : decode cX3_areAllSo 22 = .ok (.iload_n 3, 1) := by decide +kernel
theorem dX3_areAllSo_23 : decode cX3_areAllSo 23 = .ok (.iaload, 1) := by decide +kernel
theorem dX3_areAllSo_24 : decode cX3_areAllSo 24 = .ok (.invokevirtual 28, 3) := by decide +kernel
theorem dX3_areAllSo_27 : decode cX3_areAllSo 27 = .ok (.aload_n 2, 1) := by decide +kernel
theorem dX3_areAllSo_28 : decode cX3_areAllSo 28 = .ok (.getfield 34, 3) := by decide +kernel
theorem dX3_areAllSo_31 : decode cX3_areAllSo 31 = .ok (.aload_n 0, 1) := by decide +kernel
theorem dX3_areAllSo_32 : decode cX3_areAllSo 32 = .ok (.getfield 22, 3) := by decide +kernel
theorem dX3_areAllSo_35 : decode cX3_areAllSo 35 = .ok (.iload_n 3, 1) := by decide +kernel
theorem dX3_areAllSo_36 : decode cX3_areAllSo 36 = .ok (.iaload, 1) := by decide +kernel
theorem dX3_areAllSo_37 : decode cX3_areAllSo 37 = .ok (.iaload, 1) := by decide +kernel
theorem dX3_areAllSo_38 : decode cX3_areAllSo 38 = .ok (.aload_n 0, 1) := by decide +kernel
theorem dX3_areAllSo_39 : decode cX3_areAllSo 39 = .ok (.getfield 25, 3) := by decide +kernel
theorem dX3_areAllSo_42 : decode cX3_areAllSo 42 = .ok (.iload_n 3, 1) := by decide +kernel
theorem dX3_areAllSo_43 : decode cX3_areAllSo 43 = .ok (.iaload, 1) := by decide +kernel
theorem dX3_areAllSo_44 : decode cX3_areAllSo 44 = .ok (.if_icmp .eq 5, 3) := by decide +kernel
theorem dX3_areAllSo_47 : decode cX3_areAllSo 47 = .ok (.iconst 0, 1) := by decide +kernel
theorem dX3_areAllSo_48 : decode cX3_areAllSo 48 = .ok (.ireturn, 1) := by decide +kernel
theorem dX3_areAllSo_49 : decode cX3_areAllSo 49 = .ok (.iinc 3 1, 3) := by decide +kernel
theorem dX3_areAllSo_52 : decode cX3_areAllSo 52 = .ok (.goto (-50), 3) := by decide +kernel
theorem dX3_areAllSo_55 : decode cX3_areAllSo 55 = .ok (.iconst 1, 1) := by decide +kernel
theorem dX3_areAllSo_56 : decode cX3_areAllSo 56 = .ok (.ireturn, 1) := by decide +kernel
theorem dX4_init_0 : decode cX4_init 0 = .ok (.aload_n 0, 1) := by decide +kernel
theorem dX4_init_1 : decode cX4_init 1 = .ok (.invokespecial 3, 3) := by decide +kernel
theorem dX4_init_4 : decode cX4_init 4 = .ok (.aload_n 0, 1) := by decide +kernel
theorem dX4_init_5 : decode cX4_init 5 = .ok (.iconst 0, 1) := by decide +kernel
theorem dX4_init_6 : decode cX4_init 6 = .ok (.putfield 9, 3) := by decide +kernel
theorem dX4_init_9 : decode cX4_init 9 = .ok (.aload_n 0, 1) := by decide +kernel
theorem dX4_init_10 : decode cX4_init 10 = .ok (.iconst 0, 1) := by decide +kernel
theorem dX4_init_11 : decode cX4_init 11 = .ok (.putfield 15, 3) := by decide +kernel
theorem dX4_init_14 : decode cX4_init 14 = .ok (.aload_n 0, 1) := by decide +kernel
theorem dX4_init_15 : decode cX4_init 15 = .ok (.iconst 0, 1) := by decide +kernel
theorem dX4_init_16 : decode cX4_init 16 = .ok (.putfield 19, 3) := by decide +kernel
theorem dX4_init_19 : decode cX4_init 19 = .ok (.aload_n 0, 1) := by decide +kernel
theorem dX4_init_20 : decode cX4_init 20 = .ok (.bipush 50, 2) := by decide +kernel
theorem dX4_init_22 : decode cX4_init 22 = .ok (.newarray .int, 2) := by decide +kernel
theorem dX4_init_24 : decode cX4_init 24 = .ok (.putfield 22, 3) := by decide +kernel
theorem dX4_init_27 : decode cX4_init 27 = .ok (.return_, 1) := by decide +kernel
theorem dX4_becomeNew_0 : decode cX4_becomeNew 0 = .ok (.aload_n 0, 1) := by decide +kernel
theorem dX4_becomeNew_1 : decode cX4_becomeNew 1 = .ok (.iconst 1, 1) := by decide +kernel
theorem dX4_becomeNew_2 : decode cX4_becomeNew 2 = .ok (.putfield 9, 3) := by decide +kernel
theorem dX4_becomeNew_5 : decode cX4_becomeNew 5 = .ok (.aload_n 0, 1) := by decide +kernel
theorem dX4_becomeNew_6 : decode cX4_becomeNew 6 = .ok (.iload_n 1, 1) := by decide +kernel
theorem dX4_becomeNew_7 : decode cX4_becomeNew 7 = .ok (.putfield 15, 3) := by decide +kernel
theorem dX4_becomeNew_10 : decode cX4_becomeNew 10 = .ok (.aload_n 0, 1) := by decide +kernel
theorem dX4_becomeNew_11 : decode cX4_becomeNew 11 = .ok (.iload_n 2, 1) := by decide +kernel
theorem dX4_becomeNew_12 : decode cX4_becomeNew 12 = .ok (.putfield 19, 3) := by decide +kernel
theorem dX4_becomeNew_15 : decode cX4_becomeNew 15 = .ok (.aload_n 0, 1) := by decide +kernel
theorem dX4_becomeNew_16 : decode cX4_becomeNew 16 = .ok (.getfield 22, 3) := by decide +kernel
theorem dX4_becomeNew_19 : decode cX4_becomeNew 19 = .ok (.iconst 0, 1) := by decide +kernel
theorem dX4_becomeNew_20 : decode cX4_becomeNew 20 = .ok (.invokestatic 26, 3) := by decide +kernel
theorem dX4_becomeNew_23 : decode cX4_becomeNew 23 = .ok (.return_, 1) := by decide +kernel
theorem dX4_hasCells_0 : decode cX4_hasCells 0 = .ok (.iload_n 2, 1) := by decide +kernel
theorem dX4_hasCells_1 : decode cX4_hasCells 1 = .ok (.ifCond .lt 21, 3) := by decide +kernel
theorem dX4_hasCells_4 : decode cX4_hasCells 4 = .ok (.iload_n 1, 1) := by decide +kernel
theorem dX4_hasCells_5 : decode cX4_hasCells 5 = .ok (.ifCond .lt 17, 3) := by decide +kernel
theorem dX4_hasCells_8 : decode cX4_hasCells 8 = .ok (.iload_n 1, 1) := by decide +kernel
theorem dX4_hasCells_9 : decode cX4_hasCells 9 = .ok (.aload_n 0, 1) := by decide +kernel
theorem dX4_hasCells_10 : decode cX4_hasCells 10 = .ok (.getfield 19, 3) := by decide +kernel
theorem dX4_hasCells_13 : decode cX4_hasCells 13 = .ok (.iload_n 2, 1) := by decide +kernel
theorem dX4_hasCells_14 : decode cX4_hasCells 14 = .ok (.isub, 1) := by decide +kernel
theorem dX4_hasCells_15 : decode cX4_hasCells 15 = .ok (.if_icmp .gt 7, 3) := by decide +kernel
theorem dX4_hasCells_18 : decode cX4_hasCells 18 = .ok (.iconst 1, 1) := by decide +kernel
theorem dX4_hasCells_19 : decode cX4_hasCells 19 = .ok (.goto 4, 3) := by decide +kernel
theorem dX4_hasCells_22 : decode cX4_hasCells 22 = .ok (.iconst 0, 1) := by decide +kernel
theorem dX4_hasCells_23 : decode cX4_hasCells 23 = .ok (.ireturn, 1) := by decide +kernel
theorem dX4_faultOfCells_0 : decode cX4_faultOfCells 0 = .ok (.aload_n 0, 1) := by decide +kernel
theorem dX4_faultOfCells_1 : decode cX4_faultOfCells 1 = .ok (.getfield 9, 3) := by decide +kernel
theorem dX4_faultOfCells_4 : decode cX4_faultOfCells 4 = .ok (.ifCond .eq 13, 3) := by decide +kernel
theorem dX4_faultOfCells_7 : decode cX4_faultOfCells 7 = .ok (.aload_n 0, 1) := by decide +kernel
theorem dX4_faultOfCells_8 : decode cX4_faultOfCells 8 = .ok (.getfield 15, 3) := by decide +kernel
theorem dX4_faultOfCells_11 : decode cX4_faultOfCells 11 = .ok (.iload_n 1, 1) := by decide +kernel
theorem dX4_faultOfCells_12 : decode cX4_faultOfCells 12 = .ok (.if_icmp .eq 5, 3) := by decide +kernel
theorem dX4_faultOfCells_15 : decode cX4_faultOfCells 15 = .ok (.iconst 2, 1) := by decide +kernel
theorem dX4_faultOfCells_16 : decode cX4_faultOfCells 16 = .ok (.ireturn, 1) := by decide +kernel
theorem dX4_faultOfCells_17 : decode cX4_faultOfCells 17 = .ok (.aload_n 0, 1) := by decide +kernel
theorem dX4_faultOfCells_18 : decode cX4_faultOfCells 18 = .ok (.getfield 9, 3) := by decide +kernel
theorem dX4_faultOfCells_21 : decode cX4_faultOfCells 21 = .ok (.ifCond .ne 5, 3) := by decide +kernel
theorem dX4_faultOfCells_24 : decode cX4_faultOfCells 24 = .ok (.iconst 1, 1) := by decide +kernel
theorem dX4_faultOfCells_25 : decode cX4_faultOfCells 25 = .ok (.ireturn, 1) := by decide +kernel
theorem dX4_faultOfCells_26 : decode cX4_faultOfCells 26 = .ok (.iload_n 3, 1) := by decide +kernel
theorem dX4_faultOfCells_27 : decode cX4_faultOfCells 27 = .ok (.ifCond .ge 5, 3) := by decide +kernel
theorem dX4_faultOfCells_30 : decode cX4_faultOfCells 30 = .ok (.iconst 4, 1) := by decide +kernel
theorem dX4_faultOfCells_31 : decode cX4_faultOfCells 31 = .ok (.ireturn, 1) := by decide +kernel
theorem dX4_faultOfCells_32 : decode cX4_faultOfCells 32 = .ok (.aload_n 0, 1) := by decide +kernel
theorem dX4_faultOfCells_33 : decode cX4_faultOfCells 33 = .ok (.iload_n 2, 1) := by decide +kernel
theorem dX4_faultOfCells_34 : decode cX4_faultOfCells 34 = .ok (.iload_n 3, 1) := by decide +kernel
theorem dX4_faultOfCells_35 : decode cX4_faultOfCells 35 = .ok (.invokevirtual 32, 3) := by decide +kernel
theorem dX4_faultOfCells_38 : decode cX4_faultOfCells 38 = .ok (.ifCond .eq 7, 3) := by decide +kernel
theorem dX4_faultOfCells_41 : decode cX4_faultOfCells 41 = .ok (.iconst 0, 1) := by decide +kernel
theorem dX4_faultOfCells_42 : decode cX4_faultOfCells 42 = .ok (.goto 4, 3) := by decide +kernel
theorem dX4_faultOfCells_45 : decode cX4_faultOfCells 45 = .ok (.iconst 3, 1) := by decide +kernel
theorem dX4_faultOfCells_46 : decode cX4_faultOfCells 46 = .ok (.ireturn, 1) := by decide +kernel
theorem dX4_load_0 : decode cX4_load 0 = .ok (.iload_n 1, 1) := by decide +kernel
theorem dX4_load_1 : decode cX4_load 1 = .ok (.ifCond .lt 20, 3) := by decide +kernel
theorem dX4_load_4 : decode cX4_load 4 = .ok (.iload_n 1, 1) := by decide +kernel
theorem dX4_load_5 : decode cX4_load 5 = .ok (.aload_n 0, 1) := by decide +kernel
theorem dX4_load_6 : decode cX4_load 6 = .ok (.getfield 19, 3) := by decide +kernel
theorem dX4_load_9 : decode cX4_load 9 = .ok (.if_icmp .ge 12, 3) := by decide +kernel
theorem dX4_load_12 : decode cX4_load 12 = .ok (.aload_n 0, 1) := by decide +kernel
theorem dX4_load_13 : decode cX4_load 13 = .ok (.getfield 22, 3) := by decide +kernel
theorem dX4_load_16 : decode cX4_load 16 = .ok (.iload_n 1, 1) := by decide +kernel
theorem dX4_load_17 : decode cX4_load 17 = .ok (.iaload, 1) := by decide +kernel
theorem dX4_load_18 : decode cX4_load 18 = .ok (.goto 4, 3) := by decide +kernel
theorem dX4_load_21 : decode cX4_load 21 = .ok (.iconst 0, 1) := by decide +kernel
theorem dX4_load_22 : decode cX4_load 22 = .ok (.ireturn, 1) := by decide +kernel
theorem dX4_store_0 : decode cX4_store 0 = .ok (.iload_n 1, 1) := by decide +kernel
theorem dX4_store_1 : decode cX4_store 1 = .ok (.ifCond .lt 43, 3) := by decide +kernel
theorem dX4_store_4 : decode cX4_store 4 = .ok (.iload_n 1, 1) := by decide +kernel
theorem dX4_store_5 : decode cX4_store 5 = .ok (.aload_n 0, 1) := by decide +kernel
theorem dX4_store_6 : decode cX4_store 6 = .ok (.getfield 19, 3) := by decide +kernel
theorem dX4_store_9 : decode cX4_store 9 = .ok (.if_icmp .ge 35, 3) := by decide +kernel
theorem dX4_store_12 : decode cX4_store 12 = .ok (.aload_n 0, 1) := by decide +kernel
theorem dX4_store_13 : decode cX4_store 13 = .ok (.getfield 22, 3) := by decide +kernel
theorem dX4_store_16 : decode cX4_store 16 = .ok (.iload_n 1, 1) := by decide +kernel
theorem dX4_store_17 : decode cX4_store 17 = .ok (.aload_n 0, 1) := by decide +kernel
theorem dX4_store_18 : decode cX4_store 18 = .ok (.getfield 15, 3) := by decide +kernel
theorem dX4_store_21 : decode cX4_store 21 = .ok (.ifCond .ne 8, 3) := by decide +kernel
theorem dX4_store_24 : decode cX4_store 24 = .ok (.iload_n 2, 1) := by decide +kernel
theorem dX4_store_25 : decode cX4_store 25 = .ok (.i2b, 1) := by decide +kernel
theorem dX4_store_26 : decode cX4_store 26 = .ok (.goto 17, 3) := by decide +kernel
theorem dX4_store_29 : decode cX4_store 29 = .ok (.aload_n 0, 1) := by decide +kernel
theorem dX4_store_30 : decode cX4_store 30 = .ok (.getfield 15, 3) := by decide +kernel
theorem dX4_store_33 : decode cX4_store 33 = .ok (.iconst 1, 1) := by decide +kernel
theorem dX4_store_34 : decode cX4_store 34 = .ok (.if_icmp .ne 8, 3) := by decide +kernel
theorem dX4_store_37 : decode cX4_store 37 = .ok (.iload_n 2, 1) := by decide +kernel
theorem dX4_store_38 : decode cX4_store 38 = .ok (.i2s, 1) := by decide +kernel
theorem dX4_store_39 : decode cX4_store 39 = .ok (.goto 4, 3) := by decide +kernel
theorem dX4_store_42 : decode cX4_store 42 = .ok (.iload_n 2, 1) := by decide +kernel
theorem dX4_store_43 : decode cX4_store 43 = .ok (.iastore, 1) := by decide +kernel
theorem dX4_store_44 : decode cX4_store 44 = .ok (.return_, 1) := by decide +kernel
theorem dX5_init_0 : decode cX5_init 0 = .ok (.aload_n 0, 1) := by decide +kernel
theorem dX5_init_1 : decode cX5_init 1 = .ok (.invokespecial 3, 3) := by decide +kernel
theorem dX5_init_4 : decode cX5_init 4 = .ok (.aload_n 0, 1) := by decide +kernel
theorem dX5_init_5 : decode cX5_init 5 = .ok (.bipush 7, 2) := by decide +kernel
theorem dX5_init_7 : decode cX5_init 7 = .ok (.newarray .int, 2) := by decide +kernel
theorem dX5_init_9 : decode cX5_init 9 = .ok (.putfield 9, 3) := by decide +kernel
theorem dX5_init_12 : decode cX5_init 12 = .ok (.aload_n 0, 1) := by decide +kernel
theorem dX5_init_13 : decode cX5_init 13 = .ok (.bipush 7, 2) := by decide +kernel
theorem dX5_init_15 : decode cX5_init 15 = .ok (.newarray .int, 2) := by decide +kernel
theorem dX5_init_17 : decode cX5_init 17 = .ok (.putfield 15, 3) := by decide +kernel
theorem dX5_init_20 : decode cX5_init 20 = .ok (.return_, 1) := by decide +kernel
theorem dX5_tellFrom_0 : decode cX5_tellFrom 0 = .ok (.aload_n 0, 1) := by decide +kernel
theorem dX5_tellFrom_1 : decode cX5_tellFrom 1 = .ok (.getfield 9, 3) := by decide +kernel
theorem dX5_tellFrom_4 : decode cX5_tellFrom 4 = .ok (.bipush (-9), 2) := by decide +kernel
theorem dX5_tellFrom_6 : decode cX5_tellFrom 6 = .ok (.invokestatic 18, 3) := by decide +kernel
theorem dX5_tellFrom_9 : decode cX5_tellFrom 9 = .ok (.aload_n 0, 1) := by decide +kernel
theorem dX5_tellFrom_10 : decode cX5_tellFrom 10 = .ok (.getfield 15, 3) := by decide +kernel
theorem dX5_tellFrom_13 : decode cX5_tellFrom 13 = .ok (.bipush (-9), 2) := by decide +kernel
theorem dX5_tellFrom_15 : decode cX5_tellFrom 15 = .ok (.invokestatic 18, 3) := by decide +kernel
theorem dX5_tellFrom_18 : decode cX5_tellFrom 18 = .ok (.aload_n 1, 1) := by decide +kernel
theorem dX5_tellFrom_19 : decode cX5_tellFrom 19 = .ok (.iload_n 2, 1) := by decide +kernel
theorem dX5_tellFrom_20 : decode cX5_tellFrom 20 = .ok (.invokevirtual 24, 3) := by decide +kernel
theorem dX5_tellFrom_23 : decode cX5_tellFrom 23 = .ok (.ifCond .ne 4, 3) := by decide +kernel
theorem dX5_tellFrom_26 : decode cX5_tellFrom 26 = .ok (.return_, 1) := by decide +kernel
theorem dX5_tellFrom_27 : decode cX5_tellFrom 27 = .ok (.aload_n 0, 1) := by decide +kernel
theorem dX5_tellFrom_28 : decode cX5_tellFrom 28 = .ok (.getfield 9, 3) := by decide +kernel
theorem dX5_tellFrom_31 : decode cX5_tellFrom 31 = .ok (.iload_n 2, 1) := by decide +kernel
theorem dX5_tellFrom_32 : decode cX5_tellFrom 32 = .ok (.iload_n 3, 1) := by decide +kernel
theorem dX5_tellFrom_33 : decode cX5_tellFrom 33 = .ok (.iastore, 1) := by decide +kernel
theorem dX5_tellFrom_34 : decode cX5_tellFrom 34 = .ok (.aload_n 0, 1) := by decide +kernel
theorem dX5_tellFrom_35 : decode cX5_tellFrom 35 = .ok (.getfield 15, 3) := by decide +kernel
theorem dX5_tellFrom_38 : decode cX5_tellFrom 38 = .ok (.iload_n 2, 1) := by decide +kernel
theorem dX5_tellFrom_39 : decode cX5_tellFrom 39 = .ok (.iconst 0, 1) := by decide +kernel
theorem dX5_tellFrom_40 : decode cX5_tellFrom 40 = .ok (.iastore, 1) := by decide +kernel
theorem dX5_tellFrom_41 : decode cX5_tellFrom 41 = .ok (.iconst 1, 1) := by decide +kernel
theorem dX5_tellFrom_42 : decode cX5_tellFrom 42 = .ok (.istore 4, 2) := by decide +kernel
theorem dX5_tellFrom_44 : decode cX5_tellFrom 44 = .ok (.iload 4, 2) := by decide +kernel
theorem dX5_tellFrom_46 : decode cX5_tellFrom 46 = .ok (.aload_n 1, 1) := by decide +kernel
theorem dX5_tellFrom_47 : decode cX5_tellFrom 47 = .ok (.getfield 30, 3) := by decide +kernel
theorem dX5_tellFrom_50 : decode cX5_tellFrom 50 = .ok (.if_icmp .ge 73, 3) := by decide +kernel
theorem dX5_tellFrom_53 : decode cX5_tellFrom 53 = .ok (.iconst 0, 1) := by decide +kernel
theorem dX5_tellFrom_54 : decode cX5_tellFrom 54 = .ok (.istore 5, 2) := by decide +kernel
theorem dX5_tellFrom_56 : decode cX5_tellFrom 56 = .ok (.iload 5, 2) := by decide +kernel
theorem dX5_tellFrom_58 : decode cX5_tellFrom 58 = .ok (.aload_n 1, 1) := by decide +kernel
theorem dX5_tellFrom_59 : decode cX5_tellFrom 59 = .ok (.getfield 30, 3) := by decide +kernel
theorem dX5_tellFrom_62 : decode cX5_tellFrom 62 = .ok (.if_icmp .ge 55, 3) := by decide +kernel
theorem dX5_tellFrom_65 : decode cX5_tellFrom 65 = .ok (.aload_n 0, 1) := by decide +kernel
theorem dX5_tellFrom_66 : decode cX5_tellFrom 66 = .ok (.getfield 15, 3) := by decide +kernel
theorem dX5_tellFrom_69 : decode cX5_tellFrom 69 = .ok (.iload 5, 2) := by decide +kernel
theorem dX5_tellFrom_71 : decode cX5_tellFrom 71 = .ok (.iaload, 1) := by decide +kernel
theorem dX5_tellFrom_72 : decode cX5_tellFrom 72 = .ok (.iload 4, 2) := by decide +kernel
theorem dX5_tellFrom_74 : decode cX5_tellFrom 74 = .ok (.iconst 1, 1) := by decide +kernel
theorem dX5_tellFrom_75 : decode cX5_tellFrom 75 = .ok (.isub, 1) := by decide +kernel
theorem dX5_tellFrom_76 : decode cX5_tellFrom 76 = .ok (.if_icmp .ne 35, 3) := by decide +kernel
theorem dX5_tellFrom_79 : decode cX5_tellFrom 79 = .ok (.aload_n 0, 1) := by decide +kernel
theorem dX5_tellFrom_80 : decode cX5_tellFrom 80 = .ok (.aload_n 1, 1) := by decide +kernel
theorem dX5_tellFrom_81 : decode cX5_tellFrom 81 = .ok (.iload 5, 2) := by decide +kernel
theorem dX5_tellFrom_83 : decode cX5_tellFrom 83 = .ok (.iload 5, 2) := by decide +kernel
theorem dX5_tellFrom_85 : decode cX5_tellFrom 85 = .ok (.iload_n 2, 1) := by decide +kernel
theorem dX5_tellFrom_86 : decode cX5_tellFrom 86 = .ok (.if_icmp .ne 7, 3) := by decide +kernel
theorem dX5_tellFrom_89 : decode cX5_tellFrom 89 = .ok (.iload_n 3, 1) := by decide +kernel
theorem dX5_tellFrom_90 : decode cX5_tellFrom 90 = .ok (.goto 16, 3) := by decide +kernel
theorem dX5_tellFrom_93 : decode cX5_tellFrom 93 = .ok (.aload_n 1, 1) := by decide +kernel
theorem dX5_tellFrom_94 : decode cX5_tellFrom 94 = .ok (.iload 5, 2) := by decide +kernel
theorem dX5_tellFrom_96 : decode cX5_tellFrom 96 = .ok (.aload_n 0, 1) := by decide +kernel
theorem dX5_tellFrom_97 : decode cX5_tellFrom 97 = .ok (.getfield 9, 3) := by decide +kernel
theorem dX5_tellFrom_100 : decode cX5_tellFrom 100 = .ok (.iload 5, 2) := by decide +kernel
theorem dX5_tellFrom_102 : decode cX5_tellFrom 102 = .ok (.iaload, 1) := by decide +kernel
theorem dX5_tellFrom_103 : decode cX5_tellFrom 103 = .ok (.invokevirtual 34, 3) := by decide +kernel
theorem dX5_tellFrom_106 : decode cX5_tellFrom 106 = .ok (.iload 4, 2) := by decide +kernel
theorem dX5_tellFrom_108 : decode cX5_tellFrom 108 = .ok (.invokevirtual 38, 3) := by decide +kernel
theorem dX5_tellFrom_111 : decode cX5_tellFrom 111 = .ok (.iinc 5 1, 3) := by decide +kernel
theorem dX5_tellFrom_114 : decode cX5_tellFrom 114 = .ok (.goto (-58), 3) := by decide +kernel
theorem dX5_tellFrom_117 : decode cX5_tellFrom 117 = .ok (.iinc 4 1, 3) := by decide +kernel
theorem dX5_tellFrom_120 : decode cX5_tellFrom 120 = .ok (.goto (-76), 3) := by decide +kernel
theorem dX5_tellFrom_123 : decode cX5_tellFrom 123 = .ok (.return_, 1) := by decide +kernel
theorem dX5_passOn_0 : decode cX5_passOn 0 = .ok (.aload_n 1, 1) := by decide +kernel
theorem dX5_passOn_1 : decode cX5_passOn 1 = .ok (.iload_n 2, 1) := by decide +kernel
theorem dX5_passOn_2 : decode cX5_passOn 2 = .ok (.invokevirtual 42, 3) := by decide +kernel
theorem dX5_passOn_5 : decode cX5_passOn 5 = .ok (.istore 5, 2) := by decide +kernel
theorem dX5_passOn_7 : decode cX5_passOn 7 = .ok (.aload_n 1, 1) := by decide +kernel
theorem dX5_passOn_8 : decode cX5_passOn 8 = .ok (.iload 5, 2) := by decide +kernel
theorem dX5_passOn_10 : decode cX5_passOn 10 = .ok (.invokevirtual 46, 3) := by decide +kernel
theorem dX5_passOn_13 : decode cX5_passOn 13 = .ok (.ifCond .eq 12, 3) := by decide +kernel
theorem dX5_passOn_16 : decode cX5_passOn 16 = .ok (.aload_n 0, 1) := by decide +kernel
theorem dX5_passOn_17 : decode cX5_passOn 17 = .ok (.iload 5, 2) := by decide +kernel
theorem dX5_passOn_19 : decode cX5_passOn 19 = .ok (.iload_n 3, 1) := by decide +kernel
theorem dX5_passOn_20 : decode cX5_passOn 20 = .ok (.iload 4, 2) := by decide +kernel
theorem dX5_passOn_22 : decode cX5_passOn 22 = .ok (.invokevirtual 49, 3) := by decide +kernel
theorem dX5_passOn_25 : decode cX5_passOn 25 = .ok (.aload_n 1, 1) := by decide +kernel
theorem dX5_passOn_26 : decode cX5_passOn 26 = .ok (.iload_n 2, 1) := by decide +kernel
theorem dX5_passOn_27 : decode cX5_passOn 27 = .ok (.invokevirtual 46, 3) := by decide +kernel
theorem dX5_passOn_30 : decode cX5_passOn 30 = .ok (.ifCond .eq 15, 3) := by decide +kernel
theorem dX5_passOn_33 : decode cX5_passOn 33 = .ok (.aload_n 0, 1) := by decide +kernel
theorem dX5_passOn_34 : decode cX5_passOn 34 = .ok (.aload_n 1, 1) := by decide +kernel
theorem dX5_passOn_35 : decode cX5_passOn 35 = .ok (.iload_n 2, 1) := by decide +kernel
theorem dX5_passOn_36 : decode cX5_passOn 36 = .ok (.invokevirtual 53, 3) := by decide +kernel
theorem dX5_passOn_39 : decode cX5_passOn 39 = .ok (.iload_n 3, 1) := by decide +kernel
theorem dX5_passOn_40 : decode cX5_passOn 40 = .ok (.iload 4, 2) := by decide +kernel
theorem dX5_passOn_42 : decode cX5_passOn 42 = .ok (.invokevirtual 49, 3) := by decide +kernel
theorem dX5_passOn_45 : decode cX5_passOn 45 = .ok (.return_, 1) := by decide +kernel
theorem dX5_hear_0 : decode cX5_hear 0 = .ok (.iload_n 1, 1) := by decide +kernel
theorem dX5_hear_1 : decode cX5_hear 1 = .ok (.ifCond .lt 37, 3) := by decide +kernel
theorem dX5_hear_4 : decode cX5_hear 4 = .ok (.iload_n 1, 1) := by decide +kernel
theorem dX5_hear_5 : decode cX5_hear 5 = .ok (.aload_n 0, 1) := by decide +kernel
theorem dX5_hear_6 : decode cX5_hear 6 = .ok (.getfield 15, 3) := by decide +kernel
theorem dX5_hear_9 : decode cX5_hear 9 = .ok (.arraylength, 1) := by decide +kernel
theorem dX5_hear_10 : decode cX5_hear 10 = .ok (.if_icmp .ge 28, 3) := by decide +kernel
theorem dX5_hear_13 : decode cX5_hear 13 = .ok (.aload_n 0, 1) := by decide +kernel
theorem dX5_hear_14 : decode cX5_hear 14 = .ok (.getfield 15, 3) := by decide +kernel
theorem dX5_hear_17 : decode cX5_hear 17 = .ok (.iload_n 1, 1) := by decide +kernel
theorem dX5_hear_18 : decode cX5_hear 18 = .ok (.iaload, 1) := by decide +kernel
theorem dX5_hear_19 : decode cX5_hear 19 = .ok (.bipush (-9), 2) := by decide +kernel
theorem dX5_hear_21 : decode cX5_hear 21 = .ok (.if_icmp .ne 17, 3) := by decide +kernel
theorem dX5_hear_24 : decode cX5_hear 24 = .ok (.aload_n 0, 1) := by decide +kernel
theorem dX5_hear_25 : decode cX5_hear 25 = .ok (.getfield 9, 3) := by decide +kernel
theorem dX5_hear_28 : decode cX5_hear 28 = .ok (.iload_n 1, 1) := by decide +kernel
theorem dX5_hear_29 : decode cX5_hear 29 = .ok (.iload_n 2, 1) := by decide +kernel
theorem dX5_hear_30 : decode cX5_hear 30 = .ok (.iastore, 1) := by decide +kernel
theorem dX5_hear_31 : decode cX5_hear 31 = .ok (.aload_n 0, 1) := by decide +kernel
theorem dX5_hear_32 : decode cX5_hear 32 = .ok (.getfield 15, 3) := by decide +kernel
theorem dX5_hear_35 : decode cX5_hear 35 = .ok (.iload_n 1, 1) := by decide +kernel
theorem dX5_hear_36 : decode cX5_hear 36 = .ok (.iload_n 3, 1) := by decide +kernel
theorem dX5_hear_37 : decode cX5_hear 37 = .ok (.iastore, 1) := by decide +kernel
theorem dX5_hear_38 : decode cX5_hear 38 = .ok (.return_, 1) := by decide +kernel
theorem dX6_init_0 : decode cX6_init 0 = .ok (.aload_n 0, 1) := by decide +kernel
theorem dX6_init_1 : decode cX6_init 1 = .ok (.invokespecial 5, 3) := by decide +kernel
theorem dX6_init_4 : decode cX6_init 4 = .ok (.aload_n 0, 1) := by decide +kernel
theorem dX6_init_5 : decode cX6_init 5 = .ok (.sipush 256, 3) := by decide +kernel
theorem dX6_init_8 : decode cX6_init 8 = .ok (.newarray .long, 2) := by decide +kernel
theorem dX6_init_10 : decode cX6_init 10 = .ok (.putfield 11, 3) := by decide +kernel
theorem dX6_init_13 : decode cX6_init 13 = .ok (.aload_n 0, 1) := by decide +kernel
theorem dX6_init_14 : decode cX6_init 14 = .ok (.sipush 630, 3) := by decide +kernel
theorem dX6_init_17 : decode cX6_init 17 = .ok (.newarray .int, 2) := by decide +kernel
theorem dX6_init_19 : decode cX6_init 19 = .ok (.putfield 15, 3) := by decide +kernel
theorem dX6_init_22 : decode cX6_init 22 = .ok (.aload_n 0, 1) := by decide +kernel
theorem dX6_init_23 : decode cX6_init 23 = .ok (.iconst 0, 1) := by decide +kernel
theorem dX6_init_24 : decode cX6_init 24 = .ok (.putfield 19, 3) := by decide +kernel
theorem dX6_init_27 : decode cX6_init 27 = .ok (.aload_n 0, 1) := by decide +kernel
theorem dX6_init_28 : decode cX6_init 28 = .ok (.sipush 128, 3) := by decide +kernel
theorem dX6_init_31 : decode cX6_init 31 = .ok (.newarray .int, 2) := by decide +kernel
theorem dX6_init_33 : decode cX6_init 33 = .ok (.putfield 23, 3) := by decide +kernel
theorem dX6_init_36 : decode cX6_init 36 = .ok (.aload_n 0, 1) := by decide +kernel
theorem dX6_init_37 : decode cX6_init 37 = .ok (.iconst 0, 1) := by decide +kernel
theorem dX6_init_38 : decode cX6_init 38 = .ok (.putfield 26, 3) := by decide +kernel
theorem dX6_init_41 : decode cX6_init 41 = .ok (.aload_n 0, 1) := by decide +kernel
theorem dX6_init_42 : decode cX6_init 42 = .ok (.sipush 128, 3) := by decide +kernel
theorem dX6_init_45 : decode cX6_init 45 = .ok (.newarray .int, 2) := by decide +kernel
theorem dX6_init_47 : decode cX6_init 47 = .ok (.putfield 29, 3) := by decide +kernel
theorem dX6_init_50 : decode cX6_init 50 = .ok (.return_, 1) := by decide +kernel
theorem dX6_leastSteps_0 : decode cX6_leastSteps 0 = .ok (.aload_n 1, 1) := by decide +kernel
theorem dX6_leastSteps_1 : decode cX6_leastSteps 1 = .ok (.getfield 32, 3) := by decide +kernel
theorem dX6_leastSteps_4 : decode cX6_leastSteps 4 = .ok (.aload_n 1, 1) := by decide +kernel
theorem dX6_leastSteps_5 : decode cX6_leastSteps 5 = .ok (.getfield 37, 3) := by decide +kernel
theorem dX6_leastSteps_8 : decode cX6_leastSteps 8 = .ok (.invokestatic 40, 3) := by decide +kernel
theorem dX6_leastSteps_11 : decode cX6_leastSteps 11 = .ok (.istore_n 3, 1) := by decide +kernel
theorem dX6_leastSteps_12 : decode cX6_leastSteps 12 = .ok (.aload_n 0, 1) := by decide +kernel
theorem dX6_leastSteps_13 : decode cX6_leastSteps 13 = .ok (.aload_n 1, 1) := by decide +kernel
theorem dX6_leastSteps_14 : decode cX6_leastSteps 14 = .ok (.iload_n 2, 1) := by decide +kernel
theorem dX6_leastSteps_15 : decode cX6_leastSteps 15 = .ok (.invokevirtual 44, 3) := by decide +kernel
theorem dX6_leastSteps_18 : decode cX6_leastSteps 18 = .ok (.aload_n 0, 1) := by decide +kernel
theorem dX6_leastSteps_19 : decode cX6_leastSteps 19 = .ok (.getfield 11, 3) := by decide +kernel
theorem dX6_leastSteps_22 : decode cX6_leastSteps 22 = .ok (.lconst 0, 1) := by decide +kernel
theorem dX6_leastSteps_23 : decode cX6_leastSteps 23 = .ok (.invokestatic 48, 3) := by decide +kernel
theorem dX6_leastSteps_26 : decode cX6_leastSteps 26 = .ok (.aload_n 0, 1) := by decide +kernel
theorem dX6_leastSteps_27 : decode cX6_leastSteps 27 = .ok (.iconst 0, 1) := by decide +kernel
theorem dX6_leastSteps_28 : decode cX6_leastSteps 28 = .ok (.putfield 19, 3) := by decide +kernel
theorem dX6_leastSteps_31 : decode cX6_leastSteps 31 = .ok (.aload_n 0, 1) := by decide +kernel
theorem dX6_leastSteps_32 : decode cX6_leastSteps 32 = .ok (.aload_n 1, 1) := by decide +kernel
theorem dX6_leastSteps_33 : decode cX6_leastSteps 33 = .ok (.getfield 54, 3) := by decide +kernel
theorem dX6_leastSteps_36 : decode cX6_leastSteps 36 = .ok (.aload_n 1, 1) := by decide +kernel
theorem dX6_leastSteps_37 : decode cX6_leastSteps 37 = .ok (.getfield 37, 3) := by decide +kernel
theorem dX6_leastSteps_40 : decode cX6_leastSteps 40 = .ok (.invokestatic 40, 3) := by decide +kernel
theorem dX6_leastSteps_43 : decode cX6_leastSteps 43 = .ok (.invokevirtual 57, 3) := by decide +kernel
theorem dX6_leastSteps_46 : decode cX6_leastSteps 46 = .ok (.iconst 0, 1) := by decide +kernel
theorem dX6_leastSteps_47 : decode cX6_leastSteps 47 = .ok (.istore 4, 2) := by decide +kernel
theorem dX6_leastSteps_49 : decode cX6_leastSteps 49 = .ok (.iconst 0, 1) := by decide +kernel
theorem dX6_leastSteps_50 : decode cX6_leastSteps 50 = .ok (.istore 5, 2) := by decide +kernel
theorem dX6_leastSteps_52 : decode cX6_leastSteps 52 = .ok (.iload 5, 2) := by decide +kernel
theorem dX6_leastSteps_54 : decode cX6_leastSteps 54 = .ok (.sipush 630, 3) := by decide +kernel
theorem dX6_leastSteps_57 : decode cX6_leastSteps 57 = .ok (.if_icmp .ge 63, 3) := by decide +kernel
theorem dX6_leastSteps_60 : decode cX6_leastSteps 60 = .ok (.iload 4, 2) := by decide +kernel
theorem dX6_leastSteps_62 : decode cX6_leastSteps 62 = .ok (.aload_n 0, 1) := by decide +kernel
theorem dX6_leastSteps_63 : decode cX6_leastSteps 63 = .ok (.getfield 19, 3) := by decide +kernel
theorem dX6_leastSteps_66 : decode cX6_leastSteps 66 = .ok (.if_icmp .ge 54, 3) := by decide +kernel
theorem dX6_leastSteps_69 : decode cX6_leastSteps 69 = .ok (.aload_n 0, 1) := by decide +kernel
theorem dX6_leastSteps_70 : decode cX6_leastSteps 70 = .ok (.getfield 19, 3) := by decide +kernel
theorem dX6_leastSteps_73 : decode cX6_leastSteps 73 = .ok (.istore 6, 2) := by decide +kernel
theorem dX6_leastSteps_75 : decode cX6_leastSteps 75 = .ok (.iload 4, 2) := by decide +kernel
theorem dX6_leastSteps_77 : decode cX6_leastSteps 77 = .ok (.iload 6, 2) := by decide +kernel
theorem dX6_leastSteps_79 : decode cX6_leastSteps 79 = .ok (.if_icmp .ge 35, 3) := by decide +kernel
theorem dX6_leastSteps_82 : decode cX6_leastSteps 82 = .ok (.aload_n 0, 1) := by decide +kernel
theorem dX6_leastSteps_83 : decode cX6_leastSteps 83 = .ok (.getfield 15, 3) := by decide +kernel
theorem dX6_leastSteps_86 : decode cX6_leastSteps 86 = .ok (.iload 4, 2) := by decide +kernel
theorem dX6_leastSteps_88 : decode cX6_leastSteps 88 = .ok (.iaload, 1) := by decide +kernel
theorem dX6_leastSteps_89 : decode cX6_leastSteps 89 = .ok (.iload_n 3, 1) := by decide +kernel
theorem dX6_leastSteps_90 : decode cX6_leastSteps 90 = .ok (.if_icmp .ne 6, 3) := by decide +kernel
theorem dX6_leastSteps_93 : decode cX6_leastSteps 93 = .ok (.iload 5, 2) := by decide +kernel
theorem dX6_leastSteps_95 : decode cX6_leastSteps 95 = .ok (.ireturn, 1) := by decide +kernel
theorem dX6_leastSteps_96 : decode cX6_leastSteps 96 = .ok (.aload_n 0, 1) := by decide +kernel
theorem dX6_leastSteps_97 : decode cX6_leastSteps 97 = .ok (.aload_n 1, 1) := by decide +kernel
theorem dX6_leastSteps_98 : decode cX6_leastSteps 98 = .ok (.aload_n 0, 1) := by decide +kernel
theorem dX6_leastSteps_99 : decode cX6_leastSteps 99 = .ok (.getfield 15, 3) := by decide +kernel
theorem dX6_leastSteps_102 : decode cX6_leastSteps 102 = .ok (.iload 4, 2) := by decide +kernel
theorem dX6_leastSteps_104 : decode cX6_leastSteps 104 = .ok (.iaload, 1) := by decide +kernel
theorem dX6_leastSteps_105 : decode cX6_leastSteps 105 = .ok (.invokevirtual 61, 3) := by decide +kernel
theorem dX6_leastSteps_108 : decode cX6_leastSteps 108 = .ok (.iinc 4 1, 3) := by decide +kernel
theorem dX6_leastSteps_111 : decode cX6_leastSteps 111 = .ok (.goto (-36), 3) := by decide +kernel
theorem dX6_leastSteps_114 : decode cX6_leastSteps 114 = .ok (.iinc 5 1, 3) := by decide +kernel
theorem dX6_leastSteps_117 : decode cX6_leastSteps 117 = .ok (.goto (-65), 3) := by decide +kernel
theorem dX6_leastSteps_120 : decode cX6_leastSteps 120 = .ok (.bipush (-9), 2) := by decide +kernel
theorem dX6_leastSteps_122 : decode cX6_leastSteps 122 = .ok (.ireturn, 1) := by decide +kernel
theorem dX6_held_0 : decode cX6_held 0 = .ok (.iconst 0, 1) := by decide +kernel
theorem dX6_held_1 : decode cX6_held 1 = .ok (.istore_n 2, 1) := by decide +kernel
theorem dX6_held_2 : decode cX6_held 2 = .ok (.iconst 0, 1) := by decide +kernel
theorem dX6_held_3 : decode cX6_held 3 = .ok (.istore_n 3, 1) := by decide +kernel
theorem dX6_held_4 : decode cX6_held 4 = .ok (.iload_n 3, 1) := by decide +kernel
theorem dX6_held_5 : decode cX6_held 5 = .ok (.iload_n 1, 1) := by decide +kernel
theorem dX6_held_6 : decode cX6_held 6 = .ok (.if_icmp .ge 25, 3) := by decide +kernel
theorem dX6_held_9 : decode cX6_held 9 = .ok (.iload_n 3, 1) := by decide +kernel
theorem dX6_held_10 : decode cX6_held 10 = .ok (.aload_n 0, 1) := by decide +kernel
theorem dX6_held_11 : decode cX6_held 11 = .ok (.arraylength, 1) := by decide +kernel
theorem dX6_held_12 : decode cX6_held 12 = .ok (.if_icmp .ge 19, 3) := by decide +kernel
theorem dX6_held_15 : decode cX6_held 15 = .ok (.iload_n 2, 1) := by decide +kernel
theorem dX6_held_16 : decode cX6_held 16 = .ok (.aload_n 0, 1) := by decide +kernel
theorem dX6_held_17 : decode cX6_held 17 = .ok (.iload_n 3, 1) := by decide +kernel
theorem dX6_held_18 : decode cX6_held 18 = .ok (.iaload, 1) := by decide +kernel
theorem dX6_held_19 : decode cX6_held 19 = .ok (.iconst 2, 1) := by decide +kernel
theorem dX6_held_20 : decode cX6_held 20 = .ok (.iload_n 3, 1) := by decide +kernel
theorem dX6_held_21 : decode cX6_held 21 = .ok (.imul, 1) := by decide +kernel
theorem dX6_held_22 : decode cX6_held 22 = .ok (.ishl, 1) := by decide +kernel
theorem dX6_held_23 : decode cX6_held 23 = .ok (.ior, 1) := by decide +kernel
theorem dX6_held_24 : decode cX6_held 24 = .ok (.istore_n 2, 1) := by decide +kernel
theorem dX6_held_25 : decode cX6_held 25 = .ok (.iinc 3 1, 3) := by decide +kernel
theorem dX6_held_28 : decode cX6_held 28 = .ok (.goto (-24), 3) := by decide +kernel
theorem dX6_held_31 : decode cX6_held 31 = .ok (.iload_n 2, 1) := by decide +kernel
theorem dX6_held_32 : decode cX6_held 32 = .ok (.ireturn, 1) := by decide +kernel
theorem dX6_gatherSteps_0 : decode cX6_gatherSteps 0 = .ok (.aload_n 0, 1) := by decide +kernel
theorem dX6_gatherSteps_1 : decode cX6_gatherSteps 1 = .ok (.iconst 0, 1) := by decide +kernel
theorem dX6_gatherSteps_2 : decode cX6_gatherSteps 2 = .ok (.putfield 26, 3) := by decide +kernel
theorem dX6_gatherSteps_5 : decode cX6_gatherSteps 5 = .ok (.iconst 1, 1) := by decide +kernel
theorem dX6_gatherSteps_6 : decode cX6_gatherSteps 6 = .ok (.aload_n 1, 1) := by decide +kernel
theorem dX6_gatherSteps_7 : decode cX6_gatherSteps 7 = .ok (.getfield 65, 3) := by decide +kernel
theorem dX6_gatherSteps_10 : decode cX6_gatherSteps 10 = .ok (.ishl, 1) := by decide +kernel
theorem dX6_gatherSteps_11 : decode cX6_gatherSteps 11 = .ok (.istore_n 3, 1) := by decide +kernel
theorem dX6_gatherSteps_12 : decode cX6_gatherSteps 12 = .ok (.iconst 1, 1) := by decide +kernel
theorem dX6_gatherSteps_13 : decode cX6_gatherSteps 13 = .ok (.istore 4, 2) := by decide +kernel
theorem dX6_gatherSteps_15 : decode cX6_gatherSteps 15 = .ok (.iload 4, 2) := by decide +kernel
theorem dX6_gatherSteps_17 : decode cX6_gatherSteps 17 = .ok (.iload_n 3, 1) := by decide +kernel
theorem dX6_gatherSteps_18 : decode cX6_gatherSteps 18 = .ok (.if_icmp .ge 77, 3) := by decide +kernel
theorem dX6_gatherSteps_21 : decode cX6_gatherSteps 21 = .ok (.aload_n 0, 1) := by decide +kernel
theorem dX6_gatherSteps_22 : decode cX6_gatherSteps 22 = .ok (.getfield 26, 3) := by decide +kernel
theorem dX6_gatherSteps_25 : decode cX6_gatherSteps 25 = .ok (.aload_n 0, 1) := by decide +kernel
theorem dX6_gatherSteps_26 : decode cX6_gatherSteps 26 = .ok (.getfield 23, 3) := by decide +kernel
theorem dX6_gatherSteps_29 : decode cX6_gatherSteps 29 = .ok (.arraylength, 1) := by decide +kernel
theorem dX6_gatherSteps_30 : decode cX6_gatherSteps 30 = .ok (.if_icmp .ge 65, 3) := by decide +kernel
theorem dX6_gatherSteps_33 : decode cX6_gatherSteps 33 = .ok (.iload 4, 2) := by decide +kernel
theorem dX6_gatherSteps_35 : decode cX6_gatherSteps 35 = .ok (.iload 4, 2) := by decide +kernel
theorem dX6_gatherSteps_37 : decode cX6_gatherSteps 37 = .ok (.iconst 1, 1) := by decide +kernel
theorem dX6_gatherSteps_38 : decode cX6_gatherSteps 38 = .ok (.isub, 1) := by decide +kernel
theorem dX6_gatherSteps_39 : decode cX6_gatherSteps 39 = .ok (.iand, 1) := by decide +kernel
theorem dX6_gatherSteps_40 : decode cX6_gatherSteps 40 = .ok (.ifCond .ne 7, 3) := by decide +kernel
theorem dX6_gatherSteps_43 : decode cX6_gatherSteps 43 = .ok (.iconst 1, 1) := by decide +kernel
theorem dX6_gatherSteps_44 : decode cX6_gatherSteps 44 = .ok (.goto 4, 3) := by decide +kernel
theorem dX6_gatherSteps_47 : decode cX6_gatherSteps 47 = .ok (.iconst 0, 1) := by decide +kernel
theorem dX6_gatherSteps_48 : decode cX6_gatherSteps 48 = .ok (.istore 5, 2) := by decide +kernel
theorem dX6_gatherSteps_50 : decode cX6_gatherSteps 50 = .ok (.iload_n 2, 1) := by decide +kernel
theorem dX6_gatherSteps_51 : decode cX6_gatherSteps 51 = .ok (.ifCond .ne 8, 3) := by decide +kernel
theorem dX6_gatherSteps_54 : decode cX6_gatherSteps 54 = .ok (.iload 5, 2) := by decide +kernel
theorem dX6_gatherSteps_56 : decode cX6_gatherSteps 56 = .ok (.ifCond .eq 33, 3) := by decide +kernel
theorem dX6_gatherSteps_59 : decode cX6_gatherSteps 59 = .ok (.aload_n 1, 1) := by decide +kernel
theorem dX6_gatherSteps_60 : decode cX6_gatherSteps 60 = .ok (.iload 4, 2) := by decide +kernel
theorem dX6_gatherSteps_62 : decode cX6_gatherSteps 62 = .ok (.invokestatic 68, 3) := by decide +kernel
theorem dX6_gatherSteps_65 : decode cX6_gatherSteps 65 = .ok (.ifCond .eq 24, 3) := by decide +kernel
theorem dX6_gatherSteps_68 : decode cX6_gatherSteps 68 = .ok (.aload_n 0, 1) := by decide +kernel
theorem dX6_gatherSteps_69 : decode cX6_gatherSteps 69 = .ok (.getfield 23, 3) := by decide +kernel
theorem dX6_gatherSteps_72 : decode cX6_gatherSteps 72 = .ok (.aload_n 0, 1) := by decide +kernel
theorem dX6_gatherSteps_73 : decode cX6_gatherSteps 73 = .ok (.getfield 26, 3) := by decide +kernel
theorem dX6_gatherSteps_76 : decode cX6_gatherSteps 76 = .ok (.iload 4, 2) := by decide +kernel
theorem dX6_gatherSteps_78 : decode cX6_gatherSteps 78 = .ok (.iastore, 1) := by decide +kernel
theorem dX6_gatherSteps_79 : decode cX6_gatherSteps 79 = .ok (.aload_n 0, 1) := by decide +kernel
theorem dX6_gatherSteps_80 : decode cX6_gatherSteps 80 = .ok (.dup, 1) := by decide +kernel
theorem dX6_gatherSteps_81 : decode cX6_gatherSteps 81 = .ok (.getfield 26, 3) := by decide +kernel
theorem dX6_gatherSteps_84 : decode cX6_gatherSteps 84 = .ok (.iconst 1, 1) := by decide +kernel
theorem dX6_gatherSteps_85 : decode cX6_gatherSteps 85 = .ok (.iadd, 1) := by decide +kernel
theorem dX6_gatherSteps_86 : decode cX6_gatherSteps 86 = .ok (.putfield 26, 3) := by decide +kernel
theorem dX6_gatherSteps_89 : decode cX6_gatherSteps 89 = .ok (.iinc 4 1, 3) := by decide +kernel
theorem dX6_gatherSteps_92 : decode cX6_gatherSteps 92 = .ok (.goto (-77), 3) := by decide +kernel
theorem dX6_gatherSteps_95 : decode cX6_gatherSteps 95 = .ok (.return_, 1) := by decide +kernel
theorem dX6_isOneDay_0 : decode cX6_isOneDay 0 = .ok (.iconst 0, 1) := by decide +kernel
theorem dX6_isOneDay_1 : decode cX6_isOneDay 1 = .ok (.istore_n 2, 1) := by decide +kernel
theorem dX6_isOneDay_2 : decode cX6_isOneDay 2 = .ok (.iconst 0, 1) := by decide +kernel
theorem dX6_isOneDay_3 : decode cX6_isOneDay 3 = .ok (.istore_n 3, 1) := by decide +kernel
theorem dX6_isOneDay_4 : decode cX6_isOneDay 4 = .ok (.iload_n 3, 1) := by decide +kernel
theorem dX6_isOneDay_5 : decode cX6_isOneDay 5 = .ok (.aload_n 0, 1) := by decide +kernel
theorem dX6_isOneDay_6 : decode cX6_isOneDay 6 = .ok (.getfield 65, 3) := by decide +kernel
theorem dX6_isOneDay_9 : decode cX6_isOneDay 9 = .ok (.if_icmp .ge 52, 3) := by decide +kernel
theorem dX6_isOneDay_12 : decode cX6_isOneDay 12 = .ok (.iload_n 1, 1) := by decide +kernel
theorem dX6_isOneDay_13 : decode cX6_isOneDay 13 = .ok (.iload_n 3, 1) := by decide +kernel
theorem dX6_isOneDay_14 : decode cX6_isOneDay 14 = .ok (.ishr, 1) := by decide +kernel
theorem dX6_isOneDay_15 : decode cX6_isOneDay 15 = .ok (.iconst 1, 1) := by decide +kernel
theorem dX6_isOneDay_16 : decode cX6_isOneDay 16 = .ok (.iand, 1) := by decide +kernel
theorem dX6_isOneDay_17 : decode cX6_isOneDay 17 = .ok (.ifCond .eq 38, 3) := by decide +kernel
theorem dX6_isOneDay_20 : decode cX6_isOneDay 20 = .ok (.iconst 1, 1) := by decide +kernel
theorem dX6_isOneDay_21 : decode cX6_isOneDay 21 = .ok (.iload_n 3, 1) := by decide +kernel
theorem dX6_isOneDay_22 : decode cX6_isOneDay 22 = .ok (.ishl, 1) := by decide +kernel
theorem dX6_isOneDay_23 : decode cX6_isOneDay 23 = .ok (.iconst 1, 1) := by decide +kernel
theorem dX6_isOneDay_24 : decode cX6_isOneDay 24 = .ok (.aload_n 0, 1) := by decide +kernel
theorem dX6_isOneDay_25 : decode cX6_isOneDay 25 = .ok (.iload_n 3, 1) := by decide +kernel
theorem dX6_isOneDay_26 : decode cX6_isOneDay 26 = .ok (.invokevirtual 72, 3) := by decide +kernel
theorem dX6_isOneDay_29 : decode cX6_isOneDay 29 = .ok (.ishl, 1) := by decide +kernel
theorem dX6_isOneDay_30 : decode cX6_isOneDay 30 = .ok (.ior, 1) := by decide +kernel
theorem dX6_isOneDay_31 : decode cX6_isOneDay 31 = .ok (.istore 4, 2) := by decide +kernel
theorem dX6_isOneDay_33 : decode cX6_isOneDay 33 = .ok (.aload_n 0, 1) := by decide +kernel
theorem dX6_isOneDay_34 : decode cX6_isOneDay 34 = .ok (.iload_n 3, 1) := by decide +kernel
theorem dX6_isOneDay_35 : decode cX6_isOneDay 35 = .ok (.invokevirtual 76, 3) := by decide +kernel
theorem dX6_isOneDay_38 : decode cX6_isOneDay 38 = .ok (.ifCond .eq 10, 3) := by decide +kernel
theorem dX6_isOneDay_41 : decode cX6_isOneDay 41 = .ok (.iload_n 2, 1) := by decide +kernel
theorem dX6_isOneDay_42 : decode cX6_isOneDay 42 = .ok (.iload 4, 2) := by decide +kernel
theorem dX6_isOneDay_44 : decode cX6_isOneDay 44 = .ok (.iand, 1) := by decide +kernel
theorem dX6_isOneDay_45 : decode cX6_isOneDay 45 = .ok (.ifCond .eq 5, 3) := by decide +kernel
theorem dX6_isOneDay_48 : decode cX6_isOneDay 48 = .ok (.iconst 0, 1) := by decide +kernel
theorem dX6_isOneDay_49 : decode cX6_isOneDay 49 = .ok (.ireturn, 1) := by decide +kernel
theorem dX6_isOneDay_50 : decode cX6_isOneDay 50 = .ok (.iload_n 2, 1) := by decide +kernel
theorem dX6_isOneDay_51 : decode cX6_isOneDay 51 = .ok (.iload 4, 2) := by decide +kernel
theorem dX6_isOneDay_53 : decode cX6_isOneDay 53 = .ok (.ior, 1) := by decide +kernel
theorem dX6_isOneDay_54 : decode cX6_isOneDay 54 = .ok (.istore_n 2, 1) := by decide +kernel
theorem dX6_isOneDay_55 : decode cX6_isOneDay 55 = .ok (.iinc 3 1, 3) := by decide +kernel
theorem dX6_isOneDay_58 : decode cX6_isOneDay 58 = .ok (.goto (-54), 3) := by decide +kernel
theorem dX6_isOneDay_61 : decode cX6_isOneDay 61 = .ok (.iconst 1, 1) := by decide +kernel
theorem dX6_isOneDay_62 : decode cX6_isOneDay 62 = .ok (.ireturn, 1) := by decide +kernel
theorem dX6_goOnFrom_0 : decode cX6_goOnFrom 0 = .ok (.aload_n 0, 1) := by decide +kernel
theorem dX6_goOnFrom_1 : decode cX6_goOnFrom 1 = .ok (.getfield 29, 3) := by decide +kernel
theorem dX6_goOnFrom_4 : decode cX6_goOnFrom 4 = .ok (.iconst 0, 1) := by decide +kernel
theorem dX6_goOnFrom_5 : decode cX6_goOnFrom 5 = .ok (.iconst 0, 1) := by decide +kernel
theorem dX6_goOnFrom_6 : decode cX6_goOnFrom 6 = .ok (.iastore, 1) := by decide +kernel
theorem dX6_goOnFrom_7 : decode cX6_goOnFrom 7 = .ok (.iconst 0, 1) := by decide +kernel
theorem dX6_goOnFrom_8 : decode cX6_goOnFrom 8 = .ok (.istore_n 3, 1) := by decide +kernel
theorem dX6_goOnFrom_9 : decode cX6_goOnFrom 9 = .ok (.iload_n 3, 1) := by decide +kernel
theorem dX6_goOnFrom_10 : decode cX6_goOnFrom 10 = .ok (.aload_n 1, 1) := by decide +kernel
theorem dX6_goOnFrom_11 : decode cX6_goOnFrom 11 = .ok (.getfield 65, 3) := by decide +kernel
theorem dX6_goOnFrom_14 : decode cX6_goOnFrom 14 = .ok (.if_icmp .ge 27, 3) := by decide +kernel
theorem dX6_goOnFrom_17 : decode cX6_goOnFrom 17 = .ok (.aload_n 0, 1) := by decide +kernel
theorem dX6_goOnFrom_18 : decode cX6_goOnFrom 18 = .ok (.getfield 29, 3) := by decide +kernel
theorem dX6_goOnFrom_21 : decode cX6_goOnFrom 21 = .ok (.iconst 1, 1) := by decide +kernel
theorem dX6_goOnFrom_22 : decode cX6_goOnFrom 22 = .ok (.iload_n 3, 1) := by decide +kernel
theorem dX6_goOnFrom_23 : decode cX6_goOnFrom 23 = .ok (.ishl, 1) := by decide +kernel
theorem dX6_goOnFrom_24 : decode cX6_goOnFrom 24 = .ok (.iload_n 2, 1) := by decide +kernel
theorem dX6_goOnFrom_25 : decode cX6_goOnFrom 25 = .ok (.iload_n 3, 1) := by decide +kernel
theorem dX6_goOnFrom_26 : decode cX6_goOnFrom 26 = .ok (.aload_n 1, 1) := by decide +kernel
theorem dX6_goOnFrom_27 : decode cX6_goOnFrom 27 = .ok (.iload_n 3, 1) := by decide +kernel
theorem dX6_goOnFrom_28 : decode cX6_goOnFrom 28 = .ok (.invokevirtual 72, 3) := by decide +kernel
theorem dX6_goOnFrom_31 : decode cX6_goOnFrom 31 = .ok (.invokestatic 80, 3) := by decide +kernel
theorem dX6_goOnFrom_34 : decode cX6_goOnFrom 34 = .ok (.iastore, 1) := by decide +kernel
theorem dX6_goOnFrom_35 : decode cX6_goOnFrom 35 = .ok (.iinc 3 1, 3) := by decide +kernel
theorem dX6_goOnFrom_38 : decode cX6_goOnFrom 38 = .ok (.goto (-29), 3) := by decide +kernel
theorem dX6_goOnFrom_41 : decode cX6_goOnFrom 41 = .ok (.iconst 0, 1) := by decide +kernel
theorem dX6_goOnFrom_42 : decode cX6_goOnFrom 42 = .ok (.istore_n 3, 1) := by decide +kernel
theorem dX6_goOnFrom_43 : decode cX6_goOnFrom 43 = .ok (.iload_n 3, 1) := by decide +kernel
theorem dX6_goOnFrom_44 : decode cX6_goOnFrom 44 = .ok (.aload_n 0, 1) := by decide +kernel
theorem dX6_goOnFrom_45 : decode cX6_goOnFrom 45 = .ok (.getfield 26, 3) := by decide +kernel
theorem dX6_goOnFrom_48 : decode cX6_goOnFrom 48 = .ok (.if_icmp .ge 78, 3) := by decide +kernel
theorem dX6_goOnFrom_51 : decode cX6_goOnFrom 51 = .ok (.iload_n 3, 1) := by decide +kernel
theorem dX6_goOnFrom_52 : decode cX6_goOnFrom 52 = .ok (.aload_n 0, 1) := by decide +kernel
theorem dX6_goOnFrom_53 : decode cX6_goOnFrom 53 = .ok (.getfield 23, 3) := by decide +kernel
theorem dX6_goOnFrom_56 : decode cX6_goOnFrom 56 = .ok (.arraylength, 1) := by decide +kernel
theorem dX6_goOnFrom_57 : decode cX6_goOnFrom 57 = .ok (.if_icmp .ge 69, 3) := by decide +kernel
theorem dX6_goOnFrom_60 : decode cX6_goOnFrom 60 = .ok (.aload_n 0, 1) := by decide +kernel
theorem dX6_goOnFrom_61 : decode cX6_goOnFrom 61 = .ok (.getfield 23, 3) := by decide +kernel
theorem dX6_goOnFrom_64 : decode cX6_goOnFrom 64 = .ok (.iload_n 3, 1) := by decide +kernel
theorem dX6_goOnFrom_65 : decode cX6_goOnFrom 65 = .ok (.iaload, 1) := by decide +kernel
theorem dX6_goOnFrom_66 : decode cX6_goOnFrom 66 = .ok (.istore 4, 2) := by decide +kernel
theorem dX6_goOnFrom_68 : decode cX6_goOnFrom 68 = .ok (.iload 4, 2) := by decide +kernel
theorem dX6_goOnFrom_70 : decode cX6_goOnFrom 70 = .ok (.iload 4, 2) := by decide +kernel
theorem dX6_goOnFrom_72 : decode cX6_goOnFrom 72 = .ok (.iconst 1, 1) := by decide +kernel
theorem dX6_goOnFrom_73 : decode cX6_goOnFrom 73 = .ok (.isub, 1) := by decide +kernel
theorem dX6_goOnFrom_74 : decode cX6_goOnFrom 74 = .ok (.iand, 1) := by decide +kernel
theorem dX6_goOnFrom_75 : decode cX6_goOnFrom 75 = .ok (.istore 5, 2) := by decide +kernel
theorem dX6_goOnFrom_77 : decode cX6_goOnFrom 77 = .ok (.iload 5, 2) := by decide +kernel
theorem dX6_goOnFrom_79 : decode cX6_goOnFrom 79 = .ok (.ifCond .eq 28, 3) := by decide +kernel
theorem dX6_goOnFrom_82 : decode cX6_goOnFrom 82 = .ok (.aload_n 0, 1) := by decide +kernel
theorem dX6_goOnFrom_83 : decode cX6_goOnFrom 83 = .ok (.getfield 29, 3) := by decide +kernel
theorem dX6_goOnFrom_86 : decode cX6_goOnFrom 86 = .ok (.iload 4, 2) := by decide +kernel
theorem dX6_goOnFrom_88 : decode cX6_goOnFrom 88 = .ok (.aload_n 0, 1) := by decide +kernel
theorem dX6_goOnFrom_89 : decode cX6_goOnFrom 89 = .ok (.getfield 29, 3) := by decide +kernel
theorem dX6_goOnFrom_92 : decode cX6_goOnFrom 92 = .ok (.iload 5, 2) := by decide +kernel
theorem dX6_goOnFrom_94 : decode cX6_goOnFrom 94 = .ok (.iaload, 1) := by decide +kernel
theorem dX6_goOnFrom_95 : decode cX6_goOnFrom 95 = .ok (.aload_n 0, 1) := by decide +kernel
theorem dX6_goOnFrom_96 : decode cX6_goOnFrom 96 = .ok (.getfield 29, 3) := by decide +kernel
theorem dX6_goOnFrom_99 : decode cX6_goOnFrom 99 = .ok (.iload 4, 2) := by decide +kernel
theorem dX6_goOnFrom_101 : decode cX6_goOnFrom 101 = .ok (.iload 5, 2) := by decide +kernel
theorem dX6_goOnFrom_103 : decode cX6_goOnFrom 103 = .ok (.ixor, 1) := by decide +kernel
theorem dX6_goOnFrom_104 : decode cX6_goOnFrom 104 = .ok (.iaload, 1) := by decide +kernel
theorem dX6_goOnFrom_105 : decode cX6_goOnFrom 105 = .ok (.ixor, 1) := by decide +kernel
theorem dX6_goOnFrom_106 : decode cX6_goOnFrom 106 = .ok (.iastore, 1) := by decide +kernel
theorem dX6_goOnFrom_107 : decode cX6_goOnFrom 107 = .ok (.aload_n 0, 1) := by decide +kernel
theorem dX6_goOnFrom_108 : decode cX6_goOnFrom 108 = .ok (.iload_n 2, 1) := by decide +kernel
theorem dX6_goOnFrom_109 : decode cX6_goOnFrom 109 = .ok (.aload_n 0, 1) := by decide +kernel
theorem dX6_goOnFrom_110 : decode cX6_goOnFrom 110 = .ok (.getfield 29, 3) := by decide +kernel
theorem dX6_goOnFrom_113 : decode cX6_goOnFrom 113 = .ok (.iload 4, 2) := by decide +kernel
theorem dX6_goOnFrom_115 : decode cX6_goOnFrom 115 = .ok (.iaload, 1) := by decide +kernel
theorem dX6_goOnFrom_116 : decode cX6_goOnFrom 116 = .ok (.ixor, 1) := by decide +kernel
theorem dX6_goOnFrom_117 : decode cX6_goOnFrom 117 = .ok (.invokevirtual 57, 3) := by decide +kernel
theorem dX6_goOnFrom_120 : decode cX6_goOnFrom 120 = .ok (.iinc 3 1, 3) := by decide +kernel
theorem dX6_goOnFrom_123 : decode cX6_goOnFrom 123 = .ok (.goto (-80), 3) := by decide +kernel
theorem dX6_goOnFrom_126 : decode cX6_goOnFrom 126 = .ok (.return_, 1) := by decide +kernel
theorem dX6_turnedBy_0 : decode cX6_turnedBy 0 = .ok (.iload_n 0, 1) := by decide +kernel
theorem dX6_turnedBy_1 : decode cX6_turnedBy 1 = .ok (.iconst 2, 1) := by decide +kernel
theorem dX6_turnedBy_2 : decode cX6_turnedBy 2 = .ok (.iload_n 1, 1) := by decide +kernel
theorem dX6_turnedBy_3 : decode cX6_turnedBy 3 = .ok (.imul, 1) := by decide +kernel
theorem dX6_turnedBy_4 : decode cX6_turnedBy 4 = .ok (.ishr, 1) := by decide +kernel
theorem dX6_turnedBy_5 : decode cX6_turnedBy 5 = .ok (.iload_n 0, 1) := by decide +kernel
theorem dX6_turnedBy_6 : decode cX6_turnedBy 6 = .ok (.iconst 2, 1) := by decide +kernel
theorem dX6_turnedBy_7 : decode cX6_turnedBy 7 = .ok (.iload_n 2, 1) := by decide +kernel
theorem dX6_turnedBy_8 : decode cX6_turnedBy 8 = .ok (.imul, 1) := by decide +kernel
theorem dX6_turnedBy_9 : decode cX6_turnedBy 9 = .ok (.ishr, 1) := by decide +kernel
theorem dX6_turnedBy_10 : decode cX6_turnedBy 10 = .ok (.ixor, 1) := by decide +kernel
theorem dX6_turnedBy_11 : decode cX6_turnedBy 11 = .ok (.iconst 3, 1) := by decide +kernel
theorem dX6_turnedBy_12 : decode cX6_turnedBy 12 = .ok (.iand, 1) := by decide +kernel
theorem dX6_turnedBy_13 : decode cX6_turnedBy 13 = .ok (.istore_n 3, 1) := by decide +kernel
theorem dX6_turnedBy_14 : decode cX6_turnedBy 14 = .ok (.iload_n 3, 1) := by decide +kernel
theorem dX6_turnedBy_15 : decode cX6_turnedBy 15 = .ok (.iconst 2, 1) := by decide +kernel
theorem dX6_turnedBy_16 : decode cX6_turnedBy 16 = .ok (.iload_n 1, 1) := by decide +kernel
theorem dX6_turnedBy_17 : decode cX6_turnedBy 17 = .ok (.imul, 1) := by decide +kernel
theorem dX6_turnedBy_18 : decode cX6_turnedBy 18 = .ok (.ishl, 1) := by decide +kernel
theorem dX6_turnedBy_19 : decode cX6_turnedBy 19 = .ok (.iload_n 3, 1) := by decide +kernel
theorem dX6_turnedBy_20 : decode cX6_turnedBy 20 = .ok (.iconst 2, 1) := by decide +kernel
theorem dX6_turnedBy_21 : decode cX6_turnedBy 21 = .ok (.iload_n 2, 1) := by decide +kernel
theorem dX6_turnedBy_22 : decode cX6_turnedBy 22 = .ok (.imul, 1) := by decide +kernel
theorem dX6_turnedBy_23 : decode cX6_turnedBy 23 = .ok (.ishl, 1) := by decide +kernel
theorem dX6_turnedBy_24 : decode cX6_turnedBy 24 = .ok (.ior, 1) := by decide +kernel
theorem dX6_turnedBy_25 : decode cX6_turnedBy 25 = .ok (.ireturn, 1) := by decide +kernel
theorem dX6_meet_0 : decode cX6_meet 0 = .ok (.iload_n 1, 1) := by decide +kernel
theorem dX6_meet_1 : decode cX6_meet 1 = .ok (.bipush 64, 2) := by decide +kernel
theorem dX6_meet_3 : decode cX6_meet 3 = .ok (.idiv, 1) := by decide +kernel
theorem dX6_meet_4 : decode cX6_meet 4 = .ok (.istore_n 2, 1) := by decide +kernel
theorem dX6_meet_5 : decode cX6_meet 5 = .ok (.iload_n 1, 1) := by decide +kernel
theorem dX6_meet_6 : decode cX6_meet 6 = .ok (.ifCond .lt 24, 3) := by decide +kernel
theorem dX6_meet_9 : decode cX6_meet 9 = .ok (.iload_n 2, 1) := by decide +kernel
theorem dX6_meet_10 : decode cX6_meet 10 = .ok (.aload_n 0, 1) := by decide +kernel
theorem dX6_meet_11 : decode cX6_meet 11 = .ok (.getfield 11, 3) := by decide +kernel
theorem dX6_meet_14 : decode cX6_meet 14 = .ok (.arraylength, 1) := by decide +kernel
theorem dX6_meet_15 : decode cX6_meet 15 = .ok (.if_icmp .ge 15, 3) := by decide +kernel
theorem dX6_meet_18 : decode cX6_meet 18 = .ok (.aload_n 0, 1) := by decide +kernel
theorem dX6_meet_19 : decode cX6_meet 19 = .ok (.getfield 19, 3) := by decide +kernel
theorem dX6_meet_22 : decode cX6_meet 22 = .ok (.aload_n 0, 1) := by decide +kernel
theorem dX6_meet_23 : decode cX6_meet 23 = .ok (.getfield 15, 3) := by decide +kernel
theorem dX6_meet_26 : decode cX6_meet 26 = .ok (.arraylength, 1) := by decide +kernel
theorem dX6_meet_27 : decode cX6_meet 27 = .ok (.if_icmp .lt 4, 3) := by decide +kernel
theorem dX6_meet_30 : decode cX6_meet 30 = .ok (.return_, 1) := by decide +kernel
theorem dX6_meet_31 : decode cX6_meet 31 = .ok (.lconst 1, 1) := by decide +kernel
theorem dX6_meet_32 : decode cX6_meet 32 = .ok (.iload_n 1, 1) := by decide +kernel
theorem dX6_meet_33 : decode cX6_meet 33 = .ok (.bipush 64, 2) := by decide +kernel
theorem dX6_meet_35 : decode cX6_meet 35 = .ok (.irem, 1) := by decide +kernel
theorem dX6_meet_36 : decode cX6_meet 36 = .ok (.lshl, 1) := by decide +kernel
theorem dX6_meet_37 : decode cX6_meet 37 = .ok (.lstore_n 3, 1) := by decide +kernel
theorem dX6_meet_38 : decode cX6_meet 38 = .ok (.aload_n 0, 1) := by decide +kernel
theorem dX6_meet_39 : decode cX6_meet 39 = .ok (.getfield 11, 3) := by decide +kernel
theorem dX6_meet_42 : decode cX6_meet 42 = .ok (.iload_n 2, 1) := by decide +kernel
theorem dX6_meet_43 : decode cX6_meet 43 = .ok (.laload, 1) := by decide +kernel
theorem dX6_meet_44 : decode cX6_meet 44 = .ok (.lload_n 3, 1) := by decide +kernel
theorem dX6_meet_45 : decode cX6_meet 45 = .ok (.land, 1) := by decide +kernel
theorem dX6_meet_46 : decode cX6_meet 46 = .ok (.lconst 0, 1) := by decide +kernel
theorem dX6_meet_47 : decode cX6_meet 47 = .ok (.lcmp, 1) := by decide +kernel
theorem dX6_meet_48 : decode cX6_meet 48 = .ok (.ifCond .ne 33, 3) := by decide +kernel
theorem dX6_meet_51 : decode cX6_meet 51 = .ok (.aload_n 0, 1) := by decide +kernel
theorem dX6_meet_52 : decode cX6_meet 52 = .ok (.getfield 11, 3) := by decide +kernel
theorem dX6_meet_55 : decode cX6_meet 55 = .ok (.iload_n 2, 1) := by decide +kernel
theorem dX6_meet_56 : decode cX6_meet 56 = .ok (.dup2, 1) := by decide +kernel
theorem dX6_meet_57 : decode cX6_meet 57 = .ok (.laload, 1) := by decide +kernel
theorem dX6_meet_58 : decode cX6_meet 58 = .ok (.lload_n 3, 1) := by decide +kernel
theorem dX6_meet_59 : decode cX6_meet 59 = .ok (.lor, 1) := by decide +kernel
theorem dX6_meet_60 : decode cX6_meet 60 = .ok (.lastore, 1) := by decide +kernel
theorem dX6_meet_61 : decode cX6_meet 61 = .ok (.aload_n 0, 1) := by decide +kernel
theorem dX6_meet_62 : decode cX6_meet 62 = .ok (.getfield 15, 3) := by decide +kernel
theorem dX6_meet_65 : decode cX6_meet 65 = .ok (.aload_n 0, 1) := by decide +kernel
theorem dX6_meet_66 : decode cX6_meet 66 = .ok (.getfield 19, 3) := by decide +kernel
theorem dX6_meet_69 : decode cX6_meet 69 = .ok (.iload_n 1, 1) := by decide +kernel
theorem dX6_meet_70 : decode cX6_meet 70 = .ok (.iastore, 1) := by decide +kernel
theorem dX6_meet_71 : decode cX6_meet 71 = .ok (.aload_n 0, 1) := by decide +kernel
theorem dX6_meet_72 : decode cX6_meet 72 = .ok (.dup, 1) := by decide +kernel
theorem dX6_meet_73 : decode cX6_meet 73 = .ok (.getfield 19, 3) := by decide +kernel
theorem dX6_meet_76 : decode cX6_meet 76 = .ok (.iconst 1, 1) := by decide +kernel
theorem dX6_meet_77 : decode cX6_meet 77 = .ok (.iadd, 1) := by decide +kernel
theorem dX6_meet_78 : decode cX6_meet 78 = .ok (.putfield 19, 3) := by decide +kernel
theorem dX6_meet_81 : decode cX6_meet 81 = .ok (.return_, 1) := by decide +kernel
theorem dX6_mustGoOver_0 : decode cX6_mustGoOver 0 = .ok (.iconst 0, 1) := by decide +kernel
theorem dX6_mustGoOver_1 : decode cX6_mustGoOver 1 = .ok (.istore_n 3, 1) := by decide +kernel
theorem dX6_mustGoOver_2 : decode cX6_mustGoOver 2 = .ok (.iconst 0, 1) := by decide +kernel
theorem dX6_mustGoOver_3 : decode cX6_mustGoOver 3 = .ok (.istore 4, 2) := by decide +kernel
theorem dX6_mustGoOver_5 : decode cX6_mustGoOver 5 = .ok (.iload 4, 2) := by decide +kernel
theorem dX6_mustGoOver_7 : decode cX6_mustGoOver 7 = .ok (.iconst 4, 1) := by decide +kernel
theorem dX6_mustGoOver_8 : decode cX6_mustGoOver 8 = .ok (.if_icmp .ge 89, 3) := by decide +kernel
theorem dX6_mustGoOver_11 : decode cX6_mustGoOver 11 = .ok (.iconst 0, 1) := by decide +kernel
theorem dX6_mustGoOver_12 : decode cX6_mustGoOver 12 = .ok (.istore 5, 2) := by decide +kernel
theorem dX6_mustGoOver_14 : decode cX6_mustGoOver 14 = .ok (.iconst 0, 1) := by decide +kernel
theorem dX6_mustGoOver_15 : decode cX6_mustGoOver 15 = .ok (.istore 6, 2) := by decide +kernel
theorem dX6_mustGoOver_17 : decode cX6_mustGoOver 17 = .ok (.iload 6, 2) := by decide +kernel
theorem dX6_mustGoOver_19 : decode cX6_mustGoOver 19 = .ok (.iload_n 2, 1) := by decide +kernel
theorem dX6_mustGoOver_20 : decode cX6_mustGoOver 20 = .ok (.if_icmp .gt 62, 3) := by decide +kernel
theorem dX6_mustGoOver_23 : decode cX6_mustGoOver 23 = .ok (.iload 6, 2) := by decide +kernel
theorem dX6_mustGoOver_25 : decode cX6_mustGoOver 25 = .ok (.aload_n 1, 1) := by decide +kernel
theorem dX6_mustGoOver_26 : decode cX6_mustGoOver 26 = .ok (.getfield 37, 3) := by decide +kernel
theorem dX6_mustGoOver_29 : decode cX6_mustGoOver 29 = .ok (.if_icmp .ge 53, 3) := by decide +kernel
theorem dX6_mustGoOver_32 : decode cX6_mustGoOver 32 = .ok (.iload 5, 2) := by decide +kernel
theorem dX6_mustGoOver_34 : decode cX6_mustGoOver 34 = .ok (.aload_n 1, 1) := by decide +kernel
theorem dX6_mustGoOver_35 : decode cX6_mustGoOver 35 = .ok (.getfield 54, 3) := by decide +kernel
theorem dX6_mustGoOver_38 : decode cX6_mustGoOver 38 = .ok (.iload 6, 2) := by decide +kernel
theorem dX6_mustGoOver_40 : decode cX6_mustGoOver 40 = .ok (.iaload, 1) := by decide +kernel
theorem dX6_mustGoOver_41 : decode cX6_mustGoOver 41 = .ok (.iload 4, 2) := by decide +kernel
theorem dX6_mustGoOver_43 : decode cX6_mustGoOver 43 = .ok (.if_icmp .ne 7, 3) := by decide +kernel
theorem dX6_mustGoOver_46 : decode cX6_mustGoOver 46 = .ok (.iconst 1, 1) := by decide +kernel
theorem dX6_mustGoOver_47 : decode cX6_mustGoOver 47 = .ok (.goto 4, 3) := by decide +kernel
theorem dX6_mustGoOver_50 : decode cX6_mustGoOver 50 = .ok (.iconst 0, 1) := by decide +kernel
theorem dX6_mustGoOver_51 : decode cX6_mustGoOver 51 = .ok (.iadd, 1) := by decide +kernel
theorem dX6_mustGoOver_52 : decode cX6_mustGoOver 52 = .ok (.istore 5, 2) := by decide +kernel
theorem dX6_mustGoOver_54 : decode cX6_mustGoOver 54 = .ok (.iload 5, 2) := by decide +kernel
theorem dX6_mustGoOver_56 : decode cX6_mustGoOver 56 = .ok (.aload_n 1, 1) := by decide +kernel
theorem dX6_mustGoOver_57 : decode cX6_mustGoOver 57 = .ok (.getfield 32, 3) := by decide +kernel
theorem dX6_mustGoOver_60 : decode cX6_mustGoOver 60 = .ok (.iload 6, 2) := by decide +kernel
theorem dX6_mustGoOver_62 : decode cX6_mustGoOver 62 = .ok (.iaload, 1) := by decide +kernel
theorem dX6_mustGoOver_63 : decode cX6_mustGoOver 63 = .ok (.iload 4, 2) := by decide +kernel
theorem dX6_mustGoOver_65 : decode cX6_mustGoOver 65 = .ok (.if_icmp .ne 7, 3) := by decide +kernel
theorem dX6_mustGoOver_68 : decode cX6_mustGoOver 68 = .ok (.iconst 1, 1) := by decide +kernel
theorem dX6_mustGoOver_69 : decode cX6_mustGoOver 69 = .ok (.goto 4, 3) := by decide +kernel
theorem dX6_mustGoOver_72 : decode cX6_mustGoOver 72 = .ok (.iconst 0, 1) := by decide +kernel
theorem dX6_mustGoOver_73 : decode cX6_mustGoOver 73 = .ok (.isub, 1) := by decide +kernel
theorem dX6_mustGoOver_74 : decode cX6_mustGoOver 74 = .ok (.istore 5, 2) := by decide +kernel
theorem dX6_mustGoOver_76 : decode cX6_mustGoOver 76 = .ok (.iinc 6 1, 3) := by decide +kernel
theorem dX6_mustGoOver_79 : decode cX6_mustGoOver 79 = .ok (.goto (-62), 3) := by decide +kernel
theorem dX6_mustGoOver_82 : decode cX6_mustGoOver 82 = .ok (.iload_n 3, 1) := by decide +kernel
theorem dX6_mustGoOver_83 : decode cX6_mustGoOver 83 = .ok (.iload 5, 2) := by decide +kernel
theorem dX6_mustGoOver_85 : decode cX6_mustGoOver 85 = .ok (.iconst 0, 1) := by decide +kernel
theorem dX6_mustGoOver_86 : decode cX6_mustGoOver 86 = .ok (.invokestatic 84, 3) := by decide +kernel
theorem dX6_mustGoOver_89 : decode cX6_mustGoOver 89 = .ok (.iadd, 1) := by decide +kernel
theorem dX6_mustGoOver_90 : decode cX6_mustGoOver 90 = .ok (.istore_n 3, 1) := by decide +kernel
theorem dX6_mustGoOver_91 : decode cX6_mustGoOver 91 = .ok (.iinc 4 1, 3) := by decide +kernel
theorem dX6_mustGoOver_94 : decode cX6_mustGoOver 94 = .ok (.goto (-89), 3) := by decide +kernel
theorem dX6_mustGoOver_97 : decode cX6_mustGoOver 97 = .ok (.iload_n 3, 1) := by decide +kernel
theorem dX6_mustGoOver_98 : decode cX6_mustGoOver 98 = .ok (.ireturn, 1) := by decide +kernel
theorem dX7_init_0 : decode cX7_init 0 = .ok (.aload_n 0, 1) := by decide +kernel
theorem dX7_init_1 : decode cX7_init 1 = .ok (.invokespecial 5, 3) := by decide +kernel
theorem dX7_init_4 : decode cX7_init 4 = .ok (.aload_n 0, 1) := by decide +kernel
theorem dX7_init_5 : decode cX7_init 5 = .ok (.iconst 4, 1) := by decide +kernel
theorem dX7_init_6 : decode cX7_init 6 = .ok (.anewarray 11, 3) := by decide +kernel
theorem dX7_init_9 : decode cX7_init 9 = .ok (.putfield 13, 3) := by decide +kernel
theorem dX7_init_12 : decode cX7_init 12 = .ok (.aload_n 0, 1) := by decide +kernel
theorem dX7_init_13 : decode cX7_init 13 = .ok (.new 17, 3) := by decide +kernel
theorem dX7_init_16 : decode cX7_init 16 = .ok (.dup, 1) := by decide +kernel
theorem dX7_init_17 : decode cX7_init 17 = .ok (.invokespecial 19, 3) := by decide +kernel
theorem dX7_init_20 : decode cX7_init 20 = .ok (.putfield 20, 3) := by decide +kernel
theorem dX7_init_23 : decode cX7_init 23 = .ok (.aload_n 0, 1) := by decide +kernel
theorem dX7_init_24 : decode cX7_init 24 = .ok (.new 24, 3) := by decide +kernel
theorem dX7_init_27 : decode cX7_init 27 = .ok (.dup, 1) := by decide +kernel
theorem dX7_init_28 : decode cX7_init 28 = .ok (.invokespecial 26, 3) := by decide +kernel
theorem dX7_init_31 : decode cX7_init 31 = .ok (.putfield 27, 3) := by decide +kernel
theorem dX7_init_34 : decode cX7_init 34 = .ok (.aload_n 0, 1) := by decide +kernel
theorem dX7_init_35 : decode cX7_init 35 = .ok (.new 31, 3) := by decide +kernel
theorem dX7_init_38 : decode cX7_init 38 = .ok (.dup, 1) := by decide +kernel
theorem dX7_init_39 : decode cX7_init 39 = .ok (.invokespecial 33, 3) := by decide +kernel
theorem dX7_init_42 : decode cX7_init 42 = .ok (.putfield 34, 3) := by decide +kernel
theorem dX7_init_45 : decode cX7_init 45 = .ok (.aload_n 0, 1) := by decide +kernel
theorem dX7_init_46 : decode cX7_init 46 = .ok (.new 38, 3) := by decide +kernel
theorem dX7_init_49 : decode cX7_init 49 = .ok (.dup, 1) := by decide +kernel
theorem dX7_init_50 : decode cX7_init 50 = .ok (.invokespecial 40, 3) := by decide +kernel
theorem dX7_init_53 : decode cX7_init 53 = .ok (.putfield 41, 3) := by decide +kernel
theorem dX7_init_56 : decode cX7_init 56 = .ok (.aload_n 0, 1) := by decide +kernel
theorem dX7_init_57 : decode cX7_init 57 = .ok (.new 45, 3) := by decide +kernel
theorem dX7_init_60 : decode cX7_init 60 = .ok (.dup, 1) := by decide +kernel
theorem dX7_init_61 : decode cX7_init 61 = .ok (.invokespecial 47, 3) := by decide +kernel
theorem dX7_init_64 : decode cX7_init 64 = .ok (.putfield 48, 3) := by decide +kernel
theorem dX7_init_67 : decode cX7_init 67 = .ok (.aload_n 0, 1) := by decide +kernel
theorem dX7_init_68 : decode cX7_init 68 = .ok (.new 52, 3) := by decide +kernel
theorem dX7_init_71 : decode cX7_init 71 = .ok (.dup, 1) := by decide +kernel
theorem dX7_init_72 : decode cX7_init 72 = .ok (.invokespecial 54, 3) := by decide +kernel
theorem dX7_init_75 : decode cX7_init 75 = .ok (.putfield 55, 3) := by decide +kernel
theorem dX7_init_78 : decode cX7_init 78 = .ok (.aload_n 0, 1) := by decide +kernel
theorem dX7_init_79 : decode cX7_init 79 = .ok (.iconst 0, 1) := by decide +kernel
theorem dX7_init_80 : decode cX7_init 80 = .ok (.putfield 59, 3) := by decide +kernel
theorem dX7_init_83 : decode cX7_init 83 = .ok (.aload_n 0, 1) := by decide +kernel
theorem dX7_init_84 : decode cX7_init 84 = .ok (.iconst 0, 1) := by decide +kernel
theorem dX7_init_85 : decode cX7_init 85 = .ok (.putfield 63, 3) := by decide +kernel
theorem dX7_init_88 : decode cX7_init 88 = .ok (.iconst 0, 1) := by decide +kernel
theorem dX7_init_89 : decode cX7_init 89 = .ok (.istore_n 1, 1) := by decide +kernel
theorem dX7_init_90 : decode cX7_init 90 = .ok (.iload_n 1, 1) := by decide +kernel
theorem dX7_init_91 : decode cX7_init 91 = .ok (.aload_n 0, 1) := by decide +kernel
theorem dX7_init_92 : decode cX7_init 92 = .ok (.getfield 13, 3) := by decide +kernel
theorem dX7_init_95 : decode cX7_init 95 = .ok (.arraylength, 1) := by decide +kernel
theorem dX7_init_96 : decode cX7_init 96 = .ok (.if_icmp .ge 22, 3) := by decide +kernel
theorem dX7_init_99 : decode cX7_init 99 = .ok (.aload_n 0, 1) := by decide +kernel
theorem dX7_init_100 : decode cX7_init 100 = .ok (.getfield 13, 3) := by decide +kernel
theorem dX7_init_103 : decode cX7_init 103 = .ok (.iload_n 1, 1) := by decide +kernel
theorem dX7_init_104 : decode cX7_init 104 = .ok (.new 11, 3) := by decide +kernel
theorem dX7_init_107 : decode cX7_init 107 = .ok (.dup, 1) := by decide +kernel
theorem dX7_init_108 : decode cX7_init 108 = .ok (.invokespecial 66, 3) := by decide +kernel
theorem dX7_init_111 : decode cX7_init 111 = .ok (.aastore, 1) := by decide +kernel
theorem dX7_init_112 : decode cX7_init 112 = .ok (.iinc 1 1, 3) := by decide +kernel
theorem dX7_init_115 : decode cX7_init 115 = .ok (.goto (-25), 3) := by decide +kernel
theorem dX7_init_118 : decode cX7_init 118 = .ok (.return_, 1) := by decide +kernel
theorem dX7_wire_0 : decode cX7_wire 0 = .ok (.aload_n 0, 1) := by decide +kernel
theorem dX7_wire_1 : decode cX7_wire 1 = .ok (.iconst 0, 1) := by decide +kernel
theorem dX7_wire_2 : decode cX7_wire 2 = .ok (.putfield 63, 3) := by decide +kernel
theorem dX7_wire_5 : decode cX7_wire 5 = .ok (.iload_n 1, 1) := by decide +kernel
theorem dX7_wire_6 : decode cX7_wire 6 = .ok (.invokestatic 67, 3) := by decide +kernel
theorem dX7_wire_9 : decode cX7_wire 9 = .ok (.ifCond .ne 5, 3) := by decide +kernel
theorem dX7_wire_12 : decode cX7_wire 12 = .ok (.iconst (-1), 1) := by decide +kernel
theorem dX7_wire_13 : decode cX7_wire 13 = .ok (.ireturn, 1) := by decide +kernel
theorem dX7_wire_14 : decode cX7_wire 14 = .ok (.iload_n 2, 1) := by decide +kernel
theorem dX7_wire_15 : decode cX7_wire 15 = .ok (.invokestatic 71, 3) := by decide +kernel
theorem dX7_wire_18 : decode cX7_wire 18 = .ok (.ifCond .ne 6, 3) := by decide +kernel
theorem dX7_wire_21 : decode cX7_wire 21 = .ok (.bipush (-2), 2) := by decide +kernel
theorem dX7_wire_23 : decode cX7_wire 23 = .ok (.ireturn, 1) := by decide +kernel
theorem dX7_wire_24 : decode cX7_wire 24 = .ok (.aload_n 0, 1) := by decide +kernel
theorem dX7_wire_25 : decode cX7_wire 25 = .ok (.getfield 13, 3) := by decide +kernel
theorem dX7_wire_28 : decode cX7_wire 28 = .ok (.iload_n 1, 1) := by decide +kernel
theorem dX7_wire_29 : decode cX7_wire 29 = .ok (.aaload, 1) := by decide +kernel
theorem dX7_wire_30 : decode cX7_wire 30 = .ok (.astore 5, 2) := by decide +kernel
theorem dX7_wire_32 : decode cX7_wire 32 = .ok (.aload 5, 2) := by decide +kernel
theorem dX7_wire_34 : decode cX7_wire 34 = .ok (.iload_n 2, 1) := by decide +kernel
theorem dX7_wire_35 : decode cX7_wire 35 = .ok (.iload_n 3, 1) := by decide +kernel
theorem dX7_wire_36 : decode cX7_wire 36 = .ok (.iload 4, 2) := by decide +kernel
theorem dX7_wire_38 : decode cX7_wire 38 = .ok (.invokevirtual 74, 3) := by decide +kernel
theorem dX7_wire_41 : decode cX7_wire 41 = .ok (.istore 6, 2) := by decide +kernel
theorem dX7_wire_43 : decode cX7_wire 43 = .ok (.iload 6, 2) := by decide +kernel
theorem dX7_wire_45 : decode cX7_wire 45 = .ok (.ifCond .eq 10, 3) := by decide +kernel
theorem dX7_wire_48 : decode cX7_wire 48 = .ok (.aload_n 0, 1) := by decide +kernel
theorem dX7_wire_49 : decode cX7_wire 49 = .ok (.iload 6, 2) := by decide +kernel
theorem dX7_wire_51 : decode cX7_wire 51 = .ok (.invokevirtual 78, 3) := by decide +kernel
theorem dX7_wire_54 : decode cX7_wire 54 = .ok (.ireturn, 1) := by decide +kernel
theorem dX7_wire_55 : decode cX7_wire 55 = .ok (.aload 5, 2) := by decide +kernel
theorem dX7_wire_57 : decode cX7_wire 57 = .ok (.iload_n 3, 1) := by decide +kernel
theorem dX7_wire_58 : decode cX7_wire 58 = .ok (.iload 4, 2) := by decide +kernel
theorem dX7_wire_60 : decode cX7_wire 60 = .ok (.invokestatic 82, 3) := by decide +kernel
theorem dX7_wire_63 : decode cX7_wire 63 = .ok (.istore 7, 2) := by decide +kernel
theorem dX7_wire_65 : decode cX7_wire 65 = .ok (.iload 7, 2) := by decide +kernel
theorem dX7_wire_67 : decode cX7_wire 67 = .ok (.bipush (-9), 2) := by decide +kernel
theorem dX7_wire_69 : decode cX7_wire 69 = .ok (.if_icmp .eq 9, 3) := by decide +kernel
theorem dX7_wire_72 : decode cX7_wire 72 = .ok (.bipush (-100), 2) := by decide +kernel
theorem dX7_wire_74 : decode cX7_wire 74 = .ok (.iload 7, 2) := by decide +kernel
theorem dX7_wire_76 : decode cX7_wire 76 = .ok (.isub, 1) := by decide +kernel
theorem dX7_wire_77 : decode cX7_wire 77 = .ok (.ireturn, 1) := by decide +kernel
theorem dX7_wire_78 : decode cX7_wire 78 = .ok (.aload_n 0, 1) := by decide +kernel
theorem dX7_wire_79 : decode cX7_wire 79 = .ok (.getfield 20, 3) := by decide +kernel
theorem dX7_wire_82 : decode cX7_wire 82 = .ok (.aload 5, 2) := by decide +kernel
theorem dX7_wire_84 : decode cX7_wire 84 = .ok (.iload_n 3, 1) := by decide +kernel
theorem dX7_wire_85 : decode cX7_wire 85 = .ok (.iload 4, 2) := by decide +kernel
theorem dX7_wire_87 : decode cX7_wire 87 = .ok (.invokevirtual 86, 3) := by decide +kernel
theorem dX7_wire_90 : decode cX7_wire 90 = .ok (.aload_n 0, 1) := by decide +kernel
theorem dX7_wire_91 : decode cX7_wire 91 = .ok (.getfield 55, 3) := by decide +kernel
theorem dX7_wire_94 : decode cX7_wire 94 = .ok (.iconst 0, 1) := by decide +kernel
theorem dX7_wire_95 : decode cX7_wire 95 = .ok (.putfield 90, 3) := by decide +kernel
theorem dX7_wire_98 : decode cX7_wire 98 = .ok (.aload_n 0, 1) := by decide +kernel
theorem dX7_wire_99 : decode cX7_wire 99 = .ok (.getfield 20, 3) := by decide +kernel
theorem dX7_wire_102 : decode cX7_wire 102 = .ok (.getfield 93, 3) := by decide +kernel
theorem dX7_wire_105 : decode cX7_wire 105 = .ok (.ireturn, 1) := by decide +kernel
theorem dX7_ofPerson_0 : decode cX7_ofPerson 0 = .ok (.aload_n 0, 1) := by decide +kernel
theorem dX7_ofPerson_1 : decode cX7_ofPerson 1 = .ok (.getfield 20, 3) := by decide +kernel
theorem dX7_ofPerson_4 : decode cX7_ofPerson 4 = .ok (.iload_n 1, 1) := by decide +kernel
theorem dX7_ofPerson_5 : decode cX7_ofPerson 5 = .ok (.invokevirtual 96, 3) := by decide +kernel
theorem dX7_ofPerson_8 : decode cX7_ofPerson 8 = .ok (.ifCond .ne 5, 3) := by decide +kernel
theorem dX7_ofPerson_11 : decode cX7_ofPerson 11 = .ok (.iconst (-1), 1) := by decide +kernel
theorem dX7_ofPerson_12 : decode cX7_ofPerson 12 = .ok (.ireturn, 1) := by decide +kernel
theorem dX7_ofPerson_13 : decode cX7_ofPerson 13 = .ok (.iload_n 2, 1) := by decide +kernel
theorem dX7_ofPerson_14 : decode cX7_ofPerson 14 = .ok (.tableswitch 70 0 3 #[30, 40, 50, 60], 30) := by decide +kernel
theorem dX7_ofPerson_44 : decode cX7_ofPerson 44 = .ok (.aload_n 0, 1) := by decide +kernel
theorem dX7_ofPerson_45 : decode cX7_ofPerson 45 = .ok (.getfield 20, 3) := by decide +kernel
theorem dX7_ofPerson_48 : decode cX7_ofPerson 48 = .ok (.getfield 99, 3) := by decide +kernel
theorem dX7_ofPerson_51 : decode cX7_ofPerson 51 = .ok (.iload_n 1, 1) := by decide +kernel
theorem dX7_ofPerson_52 : decode cX7_ofPerson 52 = .ok (.iaload, 1) := by decide +kernel
theorem dX7_ofPerson_53 : decode cX7_ofPerson 53 = .ok (.ireturn, 1) := by decide +kernel
theorem dX7_ofPerson_54 : decode cX7_ofPerson 54 = .ok (.aload_n 0, 1) := by decide +kernel
theorem dX7_ofPerson_55 : decode cX7_ofPerson 55 = .ok (.getfield 20, 3) := by decide +kernel
theorem dX7_ofPerson_58 : decode cX7_ofPerson 58 = .ok (.getfield 103, 3) := by decide +kernel
theorem dX7_ofPerson_61 : decode cX7_ofPerson 61 = .ok (.iload_n 1, 1) := by decide +kernel
theorem dX7_ofPerson_62 : decode cX7_ofPerson 62 = .ok (.iaload, 1) := by decide +kernel
theorem dX7_ofPerson_63 : decode cX7_ofPerson 63 = .ok (.ireturn, 1) := by decide +kernel
theorem dX7_ofPerson_64 : decode cX7_ofPerson 64 = .ok (.aload_n 0, 1) := by decide +kernel
theorem dX7_ofPerson_65 : decode cX7_ofPerson 65 = .ok (.getfield 20, 3) := by decide +kernel
theorem dX7_ofPerson_68 : decode cX7_ofPerson 68 = .ok (.getfield 106, 3) := by decide +kernel
theorem dX7_ofPerson_71 : decode cX7_ofPerson 71 = .ok (.iload_n 1, 1) := by decide +kernel
theorem dX7_ofPerson_72 : decode cX7_ofPerson 72 = .ok (.iaload, 1) := by decide +kernel
theorem dX7_ofPerson_73 : decode cX7_ofPerson 73 = .ok (.ireturn, 1) := by decide +kernel
theorem dX7_ofPerson_74 : decode cX7_ofPerson 74 = .ok (.aload_n 0, 1) := by decide +kernel
theorem dX7_ofPerson_75 : decode cX7_ofPerson 75 = .ok (.getfield 20, 3) := by decide +kernel
theorem dX7_ofPerson_78 : decode cX7_ofPerson 78 = .ok (.getfield 109, 3) := by decide +kernel
theorem dX7_ofPerson_81 : decode cX7_ofPerson 81 = .ok (.iload_n 1, 1) := by decide +kernel
theorem dX7_ofPerson_82 : decode cX7_ofPerson 82 = .ok (.iaload, 1) := by decide +kernel
theorem dX7_ofPerson_83 : decode cX7_ofPerson 83 = .ok (.ireturn, 1) := by decide +kernel
theorem dX7_ofPerson_84 : decode cX7_ofPerson 84 = .ok (.bipush (-2), 2) := by decide +kernel
theorem dX7_ofPerson_86 : decode cX7_ofPerson 86 = .ok (.ireturn, 1) := by decide +kernel
theorem dX7_grudge_0 : decode cX7_grudge 0 = .ok (.aload_n 0, 1) := by decide +kernel
theorem dX7_grudge_1 : decode cX7_grudge 1 = .ok (.getfield 20, 3) := by decide +kernel
theorem dX7_grudge_4 : decode cX7_grudge 4 = .ok (.iload_n 1, 1) := by decide +kernel
theorem dX7_grudge_5 : decode cX7_grudge 5 = .ok (.invokevirtual 112, 3) := by decide +kernel
theorem dX7_grudge_8 : decode cX7_grudge 8 = .ok (.ifCond .ne 5, 3) := by decide +kernel
theorem dX7_grudge_11 : decode cX7_grudge 11 = .ok (.iconst (-1), 1) := by decide +kernel
theorem dX7_grudge_12 : decode cX7_grudge 12 = .ok (.ireturn, 1) := by decide +kernel
theorem dX7_grudge_13 : decode cX7_grudge 13 = .ok (.aload_n 0, 1) := by decide +kernel
theorem dX7_grudge_14 : decode cX7_grudge 14 = .ok (.getfield 20, 3) := by decide +kernel
theorem dX7_grudge_17 : decode cX7_grudge 17 = .ok (.getfield 115, 3) := by decide +kernel
theorem dX7_grudge_20 : decode cX7_grudge 20 = .ok (.iload_n 1, 1) := by decide +kernel
theorem dX7_grudge_21 : decode cX7_grudge 21 = .ok (.baload, 1) := by decide +kernel
theorem dX7_grudge_22 : decode cX7_grudge 22 = .ok (.iload_n 2, 1) := by decide +kernel
theorem dX7_grudge_23 : decode cX7_grudge 23 = .ok (.if_icmp .ne 5, 3) := by decide +kernel
theorem dX7_grudge_26 : decode cX7_grudge 26 = .ok (.iconst 0, 1) := by decide +kernel
theorem dX7_grudge_27 : decode cX7_grudge 27 = .ok (.ireturn, 1) := by decide +kernel
theorem dX7_grudge_28 : decode cX7_grudge 28 = .ok (.aload_n 0, 1) := by decide +kernel
theorem dX7_grudge_29 : decode cX7_grudge 29 = .ok (.getfield 20, 3) := by decide +kernel
theorem dX7_grudge_32 : decode cX7_grudge 32 = .ok (.getfield 115, 3) := by decide +kernel
theorem dX7_grudge_35 : decode cX7_grudge 35 = .ok (.iload_n 1, 1) := by decide +kernel
theorem dX7_grudge_36 : decode cX7_grudge 36 = .ok (.iload_n 2, 1) := by decide +kernel
theorem dX7_grudge_37 : decode cX7_grudge 37 = .ok (.bastore, 1) := by decide +kernel
theorem dX7_grudge_38 : decode cX7_grudge 38 = .ok (.iconst 1, 1) := by decide +kernel
theorem dX7_grudge_39 : decode cX7_grudge 39 = .ok (.ireturn, 1) := by decide +kernel
theorem dX7_hand_0 : decode cX7_hand 0 = .ok (.aload_n 0, 1) := by decide +kernel
theorem dX7_hand_1 : decode cX7_hand 1 = .ok (.getfield 20, 3) := by decide +kernel
theorem dX7_hand_4 : decode cX7_hand 4 = .ok (.iload_n 1, 1) := by decide +kernel
theorem dX7_hand_5 : decode cX7_hand 5 = .ok (.invokevirtual 112, 3) := by decide +kernel
theorem dX7_hand_8 : decode cX7_hand 8 = .ok (.ifCond .ne 5, 3) := by decide +kernel
theorem dX7_hand_11 : decode cX7_hand 11 = .ok (.iconst (-1), 1) := by decide +kernel
theorem dX7_hand_12 : decode cX7_hand 12 = .ok (.ireturn, 1) := by decide +kernel
theorem dX7_hand_13 : decode cX7_hand 13 = .ok (.aload_n 0, 1) := by decide +kernel
theorem dX7_hand_14 : decode cX7_hand 14 = .ok (.getfield 20, 3) := by decide +kernel
theorem dX7_hand_17 : decode cX7_hand 17 = .ok (.getfield 115, 3) := by decide +kernel
theorem dX7_hand_20 : decode cX7_hand 20 = .ok (.iload_n 1, 1) := by decide +kernel
theorem dX7_hand_21 : decode cX7_hand 21 = .ok (.baload, 1) := by decide +kernel
theorem dX7_hand_22 : decode cX7_hand 22 = .ok (.ifCond .eq 6, 3) := by decide +kernel
theorem dX7_hand_25 : decode cX7_hand 25 = .ok (.bipush (-3), 2) := by decide +kernel
theorem dX7_hand_27 : decode cX7_hand 27 = .ok (.ireturn, 1) := by decide +kernel
theorem dX7_hand_28 : decode cX7_hand 28 = .ok (.aload_n 0, 1) := by decide +kernel
theorem dX7_hand_29 : decode cX7_hand 29 = .ok (.getfield 20, 3) := by decide +kernel
theorem dX7_hand_32 : decode cX7_hand 32 = .ok (.iload_n 1, 1) := by decide +kernel
theorem dX7_hand_33 : decode cX7_hand 33 = .ok (.invokevirtual 119, 3) := by decide +kernel
theorem dX7_hand_36 : decode cX7_hand 36 = .ok (.iconst 1, 1) := by decide +kernel
theorem dX7_hand_37 : decode cX7_hand 37 = .ok (.ireturn, 1) := by decide +kernel
theorem dX7_wish_0 : decode cX7_wish 0 = .ok (.aload_n 0, 1) := by decide +kernel
theorem dX7_wish_1 : decode cX7_wish 1 = .ok (.getfield 20, 3) := by decide +kernel
theorem dX7_wish_4 : decode cX7_wish 4 = .ok (.iload_n 1, 1) := by decide +kernel
theorem dX7_wish_5 : decode cX7_wish 5 = .ok (.invokevirtual 96, 3) := by decide +kernel
theorem dX7_wish_8 : decode cX7_wish 8 = .ok (.ifCond .ne 5, 3) := by decide +kernel
theorem dX7_wish_11 : decode cX7_wish 11 = .ok (.iconst (-1), 1) := by decide +kernel
theorem dX7_wish_12 : decode cX7_wish 12 = .ok (.ireturn, 1) := by decide +kernel
theorem dX7_wish_13 : decode cX7_wish 13 = .ok (.iload_n 2, 1) := by decide +kernel
theorem dX7_wish_14 : decode cX7_wish 14 = .ok (.ifCond .lt 8, 3) := by decide +kernel
theorem dX7_wish_17 : decode cX7_wish 17 = .ok (.iload_n 2, 1) := by decide +kernel
theorem dX7_wish_18 : decode cX7_wish 18 = .ok (.iconst 4, 1) := by decide +kernel
theorem dX7_wish_19 : decode cX7_wish 19 = .ok (.if_icmp .lt 6, 3) := by decide +kernel
theorem dX7_wish_22 : decode cX7_wish 22 = .ok (.bipush (-2), 2) := by decide +kernel
theorem dX7_wish_24 : decode cX7_wish 24 = .ok (.ireturn, 1) := by decide +kernel
theorem dX7_wish_25 : decode cX7_wish 25 = .ok (.aload_n 0, 1) := by decide +kernel
theorem dX7_wish_26 : decode cX7_wish 26 = .ok (.getfield 20, 3) := by decide +kernel
theorem dX7_wish_29 : decode cX7_wish 29 = .ok (.getfield 109, 3) := by decide +kernel
theorem dX7_wish_32 : decode cX7_wish 32 = .ok (.iload_n 1, 1) := by decide +kernel
theorem dX7_wish_33 : decode cX7_wish 33 = .ok (.iaload, 1) := by decide +kernel
theorem dX7_wish_34 : decode cX7_wish 34 = .ok (.istore_n 3, 1) := by decide +kernel
theorem dX7_wish_35 : decode cX7_wish 35 = .ok (.aload_n 0, 1) := by decide +kernel
theorem dX7_wish_36 : decode cX7_wish 36 = .ok (.getfield 20, 3) := by decide +kernel
theorem dX7_wish_39 : decode cX7_wish 39 = .ok (.getfield 109, 3) := by decide +kernel
theorem dX7_wish_42 : decode cX7_wish 42 = .ok (.iload_n 1, 1) := by decide +kernel
theorem dX7_wish_43 : decode cX7_wish 43 = .ok (.iload_n 2, 1) := by decide +kernel
theorem dX7_wish_44 : decode cX7_wish 44 = .ok (.iastore, 1) := by decide +kernel
theorem dX7_wish_45 : decode cX7_wish 45 = .ok (.iload_n 3, 1) := by decide +kernel
theorem dX7_wish_46 : decode cX7_wish 46 = .ok (.ireturn, 1) := by decide +kernel
theorem dX7_news_0 : decode cX7_news 0 = .ok (.aload_n 0, 1) := by decide +kernel
theorem dX7_news_1 : decode cX7_news 1 = .ok (.getfield 20, 3) := by decide +kernel
theorem dX7_news_4 : decode cX7_news 4 = .ok (.iload_n 1, 1) := by decide +kernel
theorem dX7_news_5 : decode cX7_news 5 = .ok (.invokevirtual 96, 3) := by decide +kernel
theorem dX7_news_8 : decode cX7_news 8 = .ok (.ifCond .eq 14, 3) := by decide +kernel
theorem dX7_news_11 : decode cX7_news 11 = .ok (.aload_n 0, 1) := by decide +kernel
theorem dX7_news_12 : decode cX7_news 12 = .ok (.getfield 20, 3) := by decide +kernel
theorem dX7_news_15 : decode cX7_news 15 = .ok (.iload_n 3, 1) := by decide +kernel
theorem dX7_news_16 : decode cX7_news 16 = .ok (.invokevirtual 96, 3) := by decide +kernel
theorem dX7_news_19 : decode cX7_news 19 = .ok (.ifCond .ne 5, 3) := by decide +kernel
theorem dX7_news_22 : decode cX7_news 22 = .ok (.iconst (-1), 1) := by decide +kernel
theorem dX7_news_23 : decode cX7_news 23 = .ok (.ireturn, 1) := by decide +kernel
theorem dX7_news_24 : decode cX7_news 24 = .ok (.iload_n 2, 1) := by decide +kernel
theorem dX7_news_25 : decode cX7_news 25 = .ok (.invokestatic 123, 3) := by decide +kernel
theorem dX7_news_28 : decode cX7_news 28 = .ok (.ifCond .eq 14, 3) := by decide +kernel
theorem dX7_news_31 : decode cX7_news 31 = .ok (.iload 4, 2) := by decide +kernel
theorem dX7_news_33 : decode cX7_news 33 = .ok (.ifCond .lt 9, 3) := by decide +kernel
theorem dX7_news_36 : decode cX7_news 36 = .ok (.iload 4, 2) := by decide +kernel
theorem dX7_news_38 : decode cX7_news 38 = .ok (.iconst 1, 1) := by decide +kernel
theorem dX7_news_39 : decode cX7_news 39 = .ok (.if_icmp .le 6, 3) := by decide +kernel
theorem dX7_news_42 : decode cX7_news 42 = .ok (.bipush (-2), 2) := by decide +kernel
theorem dX7_news_44 : decode cX7_news 44 = .ok (.ireturn, 1) := by decide +kernel
theorem dX7_news_45 : decode cX7_news 45 = .ok (.aload_n 0, 1) := by decide +kernel
theorem dX7_news_46 : decode cX7_news 46 = .ok (.getfield 27, 3) := by decide +kernel
theorem dX7_news_49 : decode cX7_news 49 = .ok (.aload_n 0, 1) := by decide +kernel
theorem dX7_news_50 : decode cX7_news 50 = .ok (.getfield 20, 3) := by decide +kernel
theorem dX7_news_53 : decode cX7_news 53 = .ok (.iload_n 1, 1) := by decide +kernel
theorem dX7_news_54 : decode cX7_news 54 = .ok (.iload_n 2, 1) := by decide +kernel
theorem dX7_news_55 : decode cX7_news 55 = .ok (.invokevirtual 126, 3) := by decide +kernel
theorem dX7_news_58 : decode cX7_news 58 = .ok (.iload 4, 2) := by decide +kernel
theorem dX7_news_60 : decode cX7_news 60 = .ok (.ifCond .ne 15, 3) := by decide +kernel
theorem dX7_news_63 : decode cX7_news 63 = .ok (.aload_n 0, 1) := by decide +kernel
theorem dX7_news_64 : decode cX7_news 64 = .ok (.getfield 27, 3) := by decide +kernel
theorem dX7_news_67 : decode cX7_news 67 = .ok (.getfield 130, 3) := by decide +kernel
theorem dX7_news_70 : decode cX7_news 70 = .ok (.iload_n 3, 1) := by decide +kernel
theorem dX7_news_71 : decode cX7_news 71 = .ok (.iaload, 1) := by decide +kernel
theorem dX7_news_72 : decode cX7_news 72 = .ok (.goto 12, 3) := by decide +kernel
theorem dX7_news_75 : decode cX7_news 75 = .ok (.aload_n 0, 1) := by decide +kernel
theorem dX7_news_76 : decode cX7_news 76 = .ok (.getfield 27, 3) := by decide +kernel
theorem dX7_news_79 : decode cX7_news 79 = .ok (.getfield 133, 3) := by decide +kernel
theorem dX7_news_82 : decode cX7_news 82 = .ok (.iload_n 3, 1) := by decide +kernel
theorem dX7_news_83 : decode cX7_news 83 = .ok (.iaload, 1) := by decide +kernel
theorem dX7_news_84 : decode cX7_news 84 = .ok (.ireturn, 1) := by decide +kernel
theorem dX7_said_0 : decode cX7_said 0 = .ok (.aload_n 0, 1) := by decide +kernel
theorem dX7_said_1 : decode cX7_said 1 = .ok (.getfield 20, 3) := by decide +kernel
theorem dX7_said_4 : decode cX7_said 4 = .ok (.iload_n 1, 1) := by decide +kernel
theorem dX7_said_5 : decode cX7_said 5 = .ok (.invokevirtual 96, 3) := by decide +kernel
theorem dX7_said_8 : decode cX7_said 8 = .ok (.ifCond .eq 20, 3) := by decide +kernel
theorem dX7_said_11 : decode cX7_said 11 = .ok (.aload_n 0, 1) := by decide +kernel
theorem dX7_said_12 : decode cX7_said 12 = .ok (.getfield 20, 3) := by decide +kernel
theorem dX7_said_15 : decode cX7_said 15 = .ok (.iload_n 2, 1) := by decide +kernel
theorem dX7_said_16 : decode cX7_said 16 = .ok (.invokevirtual 96, 3) := by decide +kernel
theorem dX7_said_19 : decode cX7_said 19 = .ok (.ifCond .eq 9, 3) := by decide +kernel
theorem dX7_said_22 : decode cX7_said 22 = .ok (.iload 4, 2) := by decide +kernel
theorem dX7_said_24 : decode cX7_said 24 = .ok (.iconst (-1), 1) := by decide +kernel
theorem dX7_said_25 : decode cX7_said 25 = .ok (.if_icmp .ge 5, 3) := by decide +kernel
theorem dX7_said_28 : decode cX7_said 28 = .ok (.iconst (-1), 1) := by decide +kernel
theorem dX7_said_29 : decode cX7_said 29 = .ok (.ireturn, 1) := by decide +kernel
theorem dX7_said_30 : decode cX7_said 30 = .ok (.iload_n 3, 1) := by decide +kernel
theorem dX7_said_31 : decode cX7_said 31 = .ok (.invokestatic 123, 3) := by decide +kernel
theorem dX7_said_34 : decode cX7_said 34 = .ok (.ifCond .ne 6, 3) := by decide +kernel
theorem dX7_said_37 : decode cX7_said 37 = .ok (.bipush (-2), 2) := by decide +kernel
theorem dX7_said_39 : decode cX7_said 39 = .ok (.ireturn, 1) := by decide +kernel
theorem dX7_said_40 : decode cX7_said 40 = .ok (.iconst 0, 1) := by decide +kernel
theorem dX7_said_41 : decode cX7_said 41 = .ok (.istore 5, 2) := by decide +kernel
theorem dX7_said_43 : decode cX7_said 43 = .ok (.iconst 0, 1) := by decide +kernel
theorem dX7_said_44 : decode cX7_said 44 = .ok (.istore 6, 2) := by decide +kernel
theorem dX7_said_46 : decode cX7_said 46 = .ok (.iload 6, 2) := by decide +kernel
theorem dX7_said_48 : decode cX7_said 48 = .ok (.bipush 100, 2) := by decide +kernel
theorem dX7_said_50 : decode cX7_said 50 = .ok (.if_icmp .ge 49, 3) := by decide +kernel
theorem dX7_said_53 : decode cX7_said 53 = .ok (.aload_n 0, 1) := by decide +kernel
theorem dX7_said_54 : decode cX7_said 54 = .ok (.getfield 27, 3) := by decide +kernel
theorem dX7_said_57 : decode cX7_said 57 = .ok (.aload_n 0, 1) := by decide +kernel
theorem dX7_said_58 : decode cX7_said 58 = .ok (.getfield 20, 3) := by decide +kernel
theorem dX7_said_61 : decode cX7_said 61 = .ok (.iload_n 1, 1) := by decide +kernel
theorem dX7_said_62 : decode cX7_said 62 = .ok (.iload 6, 2) := by decide +kernel
theorem dX7_said_64 : decode cX7_said 64 = .ok (.invokevirtual 126, 3) := by decide +kernel
theorem dX7_said_67 : decode cX7_said 67 = .ok (.aload_n 0, 1) := by decide +kernel
theorem dX7_said_68 : decode cX7_said 68 = .ok (.getfield 27, 3) := by decide +kernel
theorem dX7_said_71 : decode cX7_said 71 = .ok (.getfield 130, 3) := by decide +kernel
theorem dX7_said_74 : decode cX7_said 74 = .ok (.iload_n 2, 1) := by decide +kernel
theorem dX7_said_75 : decode cX7_said 75 = .ok (.iaload, 1) := by decide +kernel
theorem dX7_said_76 : decode cX7_said 76 = .ok (.iload_n 3, 1) := by decide +kernel
theorem dX7_said_77 : decode cX7_said 77 = .ok (.if_icmp .ne 16, 3) := by decide +kernel
theorem dX7_said_80 : decode cX7_said 80 = .ok (.iload 5, 2) := by decide +kernel
theorem dX7_said_82 : decode cX7_said 82 = .ok (.iload 4, 2) := by decide +kernel
theorem dX7_said_84 : decode cX7_said 84 = .ok (.if_icmp .ne 6, 3) := by decide +kernel
theorem dX7_said_87 : decode cX7_said 87 = .ok (.iload 6, 2) := by decide +kernel
theorem dX7_said_89 : decode cX7_said 89 = .ok (.ireturn, 1) := by decide +kernel
theorem dX7_said_90 : decode cX7_said 90 = .ok (.iinc 5 1, 3) := by decide +kernel
theorem dX7_said_93 : decode cX7_said 93 = .ok (.iinc 6 1, 3) := by decide +kernel
theorem dX7_said_96 : decode cX7_said 96 = .ok (.goto (-50), 3) := by decide +kernel
theorem dX7_said_99 : decode cX7_said 99 = .ok (.iload 4, 2) := by decide +kernel
theorem dX7_said_101 : decode cX7_said 101 = .ok (.iconst (-1), 1) := by decide +kernel
theorem dX7_said_102 : decode cX7_said 102 = .ok (.if_icmp .ne 8, 3) := by decide +kernel
theorem dX7_said_105 : decode cX7_said 105 = .ok (.iload 5, 2) := by decide +kernel
theorem dX7_said_107 : decode cX7_said 107 = .ok (.goto 5, 3) := by decide +kernel
theorem dX7_said_110 : decode cX7_said 110 = .ok (.bipush (-9), 2) := by decide +kernel
theorem dX7_said_112 : decode cX7_said 112 = .ok (.ireturn, 1) := by decide +kernel
theorem dX7_fewest_0 : decode cX7_fewest 0 = .ok (.aload_n 0, 1) := by decide +kernel
theorem dX7_fewest_1 : decode cX7_fewest 1 = .ok (.getfield 20, 3) := by decide +kernel
theorem dX7_fewest_4 : decode cX7_fewest 4 = .ok (.invokevirtual 136, 3) := by decide +kernel
theorem dX7_fewest_7 : decode cX7_fewest 7 = .ok (.ifCond .eq 18, 3) := by decide +kernel
theorem dX7_fewest_10 : decode cX7_fewest 10 = .ok (.aload_n 0, 1) := by decide +kernel
theorem dX7_fewest_11 : decode cX7_fewest 11 = .ok (.getfield 34, 3) := by decide +kernel
theorem dX7_fewest_14 : decode cX7_fewest 14 = .ok (.aload_n 0, 1) := by decide +kernel
theorem dX7_fewest_15 : decode cX7_fewest 15 = .ok (.getfield 20, 3) := by decide +kernel
theorem dX7_fewest_18 : decode cX7_fewest 18 = .ok (.iconst 0, 1) := by decide +kernel
theorem dX7_fewest_19 : decode cX7_fewest 19 = .ok (.invokevirtual 140, 3) := by decide +kernel
theorem dX7_fewest_22 : decode cX7_fewest 22 = .ok (.goto 5, 3) := by decide +kernel
theorem dX7_fewest_25 : decode cX7_fewest 25 = .ok (.bipush (-3), 2) := by decide +kernel
theorem dX7_fewest_27 : decode cX7_fewest 27 = .ok (.ireturn, 1) := by decide +kernel
theorem dX7_soonest_0 : decode cX7_soonest 0 = .ok (.aload_n 0, 1) := by decide +kernel
theorem dX7_soonest_1 : decode cX7_soonest 1 = .ok (.getfield 20, 3) := by decide +kernel
theorem dX7_soonest_4 : decode cX7_soonest 4 = .ok (.invokevirtual 136, 3) := by decide +kernel
theorem dX7_soonest_7 : decode cX7_soonest 7 = .ok (.ifCond .eq 18, 3) := by decide +kernel
theorem dX7_soonest_10 : decode cX7_soonest 10 = .ok (.aload_n 0, 1) := by decide +kernel
theorem dX7_soonest_11 : decode cX7_soonest 11 = .ok (.getfield 34, 3) := by decide +kernel
theorem dX7_soonest_14 : decode cX7_soonest 14 = .ok (.aload_n 0, 1) := by decide +kernel
theorem dX7_soonest_15 : decode cX7_soonest 15 = .ok (.getfield 20, 3) := by decide +kernel
theorem dX7_soonest_18 : decode cX7_soonest 18 = .ok (.iconst 1, 1) := by decide +kernel
theorem dX7_soonest_19 : decode cX7_soonest 19 = .ok (.invokevirtual 140, 3) := by decide +kernel
theorem dX7_soonest_22 : decode cX7_soonest 22 = .ok (.goto 5, 3) := by decide +kernel
theorem dX7_soonest_25 : decode cX7_soonest 25 = .ok (.bipush (-3), 2) := by decide +kernel
theorem dX7_soonest_27 : decode cX7_soonest 27 = .ok (.ireturn, 1) := by decide +kernel
theorem dX7_cut_0 : decode cX7_cut 0 = .ok (.aload_n 0, 1) := by decide +kernel
theorem dX7_cut_1 : decode cX7_cut 1 = .ok (.getfield 20, 3) := by decide +kernel
theorem dX7_cut_4 : decode cX7_cut 4 = .ok (.iload_n 1, 1) := by decide +kernel
theorem dX7_cut_5 : decode cX7_cut 5 = .ok (.invokevirtual 112, 3) := by decide +kernel
theorem dX7_cut_8 : decode cX7_cut 8 = .ok (.ifCond .ne 5, 3) := by decide +kernel
theorem dX7_cut_11 : decode cX7_cut 11 = .ok (.iconst (-1), 1) := by decide +kernel
theorem dX7_cut_12 : decode cX7_cut 12 = .ok (.ireturn, 1) := by decide +kernel
theorem dX7_cut_13 : decode cX7_cut 13 = .ok (.aload_n 0, 1) := by decide +kernel
theorem dX7_cut_14 : decode cX7_cut 14 = .ok (.getfield 20, 3) := by decide +kernel
theorem dX7_cut_17 : decode cX7_cut 17 = .ok (.getfield 144, 3) := by decide +kernel
theorem dX7_cut_20 : decode cX7_cut 20 = .ok (.ifCond .eq 8, 3) := by decide +kernel
theorem dX7_cut_23 : decode cX7_cut 23 = .ok (.bipush (-3), 2) := by decide +kernel
theorem dX7_cut_25 : decode cX7_cut 25 = .ok (.goto 15, 3) := by decide +kernel
theorem dX7_cut_28 : decode cX7_cut 28 = .ok (.aload_n 0, 1) := by decide +kernel
theorem dX7_cut_29 : decode cX7_cut 29 = .ok (.getfield 34, 3) := by decide +kernel
theorem dX7_cut_32 : decode cX7_cut 32 = .ok (.aload_n 0, 1) := by decide +kernel
theorem dX7_cut_33 : decode cX7_cut 33 = .ok (.getfield 20, 3) := by decide +kernel
theorem dX7_cut_36 : decode cX7_cut 36 = .ok (.iload_n 1, 1) := by decide +kernel
theorem dX7_cut_37 : decode cX7_cut 37 = .ok (.invokevirtual 148, 3) := by decide +kernel
theorem dX7_cut_40 : decode cX7_cut 40 = .ok (.ireturn, 1) := by decide +kernel
theorem dX7_order_0 : decode cX7_order 0 = .ok (.aload_n 0, 1) := by decide +kernel
theorem dX7_order_1 : decode cX7_order 1 = .ok (.iconst 0, 1) := by decide +kernel
theorem dX7_order_2 : decode cX7_order 2 = .ok (.putfield 63, 3) := by decide +kernel
theorem dX7_order_5 : decode cX7_order 5 = .ok (.iload_n 1, 1) := by decide +kernel
theorem dX7_order_6 : decode cX7_order 6 = .ok (.invokestatic 67, 3) := by decide +kernel
theorem dX7_order_9 : decode cX7_order 9 = .ok (.ifCond .ne 5, 3) := by decide +kernel
theorem dX7_order_12 : decode cX7_order 12 = .ok (.iconst (-1), 1) := by decide +kernel
theorem dX7_order_13 : decode cX7_order 13 = .ok (.ireturn, 1) := by decide +kernel
theorem dX7_order_14 : decode cX7_order 14 = .ok (.iload_n 2, 1) := by decide +kernel
theorem dX7_order_15 : decode cX7_order 15 = .ok (.invokestatic 71, 3) := by decide +kernel
theorem dX7_order_18 : decode cX7_order 18 = .ok (.ifCond .eq 14, 3) := by decide +kernel
theorem dX7_order_21 : decode cX7_order 21 = .ok (.iload 5, 2) := by decide +kernel
theorem dX7_order_23 : decode cX7_order 23 = .ok (.ifCond .lt 9, 3) := by decide +kernel
theorem dX7_order_26 : decode cX7_order 26 = .ok (.iload 5, 2) := by decide +kernel
theorem dX7_order_28 : decode cX7_order 28 = .ok (.iconst 1, 1) := by decide +kernel
theorem dX7_order_29 : decode cX7_order 29 = .ok (.if_icmp .le 6, 3) := by decide +kernel
theorem dX7_order_32 : decode cX7_order 32 = .ok (.bipush (-2), 2) := by decide +kernel
theorem dX7_order_34 : decode cX7_order 34 = .ok (.ireturn, 1) := by decide +kernel
theorem dX7_order_35 : decode cX7_order 35 = .ok (.aload_n 0, 1) := by decide +kernel
theorem dX7_order_36 : decode cX7_order 36 = .ok (.getfield 13, 3) := by decide +kernel
theorem dX7_order_39 : decode cX7_order 39 = .ok (.iload_n 1, 1) := by decide +kernel
theorem dX7_order_40 : decode cX7_order 40 = .ok (.aaload, 1) := by decide +kernel
theorem dX7_order_41 : decode cX7_order 41 = .ok (.astore 6, 2) := by decide +kernel
theorem dX7_order_43 : decode cX7_order 43 = .ok (.aload 6, 2) := by decide +kernel
theorem dX7_order_45 : decode cX7_order 45 = .ok (.iload_n 2, 1) := by decide +kernel
theorem dX7_order_46 : decode cX7_order 46 = .ok (.iload_n 3, 1) := by decide +kernel
theorem dX7_order_47 : decode cX7_order 47 = .ok (.iload 4, 2) := by decide +kernel
theorem dX7_order_49 : decode cX7_order 49 = .ok (.invokevirtual 74, 3) := by decide +kernel
theorem dX7_order_52 : decode cX7_order 52 = .ok (.istore 7, 2) := by decide +kernel
theorem dX7_order_54 : decode cX7_order 54 = .ok (.iload 7, 2) := by decide +kernel
theorem dX7_order_56 : decode cX7_order 56 = .ok (.ifCond .eq 10, 3) := by decide +kernel
theorem dX7_order_59 : decode cX7_order 59 = .ok (.aload_n 0, 1) := by decide +kernel
theorem dX7_order_60 : decode cX7_order 60 = .ok (.iload 7, 2) := by decide +kernel
theorem dX7_order_62 : decode cX7_order 62 = .ok (.invokevirtual 78, 3) := by decide +kernel
theorem dX7_order_65 : decode cX7_order 65 = .ok (.ireturn, 1) := by decide +kernel
theorem dX7_order_66 : decode cX7_order 66 = .ok (.aload_n 0, 1) := by decide +kernel
theorem dX7_order_67 : decode cX7_order 67 = .ok (.getfield 20, 3) := by decide +kernel
theorem dX7_order_70 : decode cX7_order 70 = .ok (.invokevirtual 136, 3) := by decide +kernel
theorem dX7_order_73 : decode cX7_order 73 = .ok (.ifCond .ne 6, 3) := by decide +kernel
theorem dX7_order_76 : decode cX7_order 76 = .ok (.bipush (-3), 2) := by decide +kernel
theorem dX7_order_78 : decode cX7_order 78 = .ok (.ireturn, 1) := by decide +kernel
theorem dX7_order_79 : decode cX7_order 79 = .ok (.iload 4, 2) := by decide +kernel
theorem dX7_order_81 : decode cX7_order 81 = .ok (.aload_n 0, 1) := by decide +kernel
theorem dX7_order_82 : decode cX7_order 82 = .ok (.getfield 20, 3) := by decide +kernel
theorem dX7_order_85 : decode cX7_order 85 = .ok (.getfield 93, 3) := by decide +kernel
theorem dX7_order_88 : decode cX7_order 88 = .ok (.if_icmp .eq 6, 3) := by decide +kernel
theorem dX7_order_91 : decode cX7_order 91 = .ok (.bipush (-2), 2) := by decide +kernel
theorem dX7_order_93 : decode cX7_order 93 = .ok (.ireturn, 1) := by decide +kernel
theorem dX7_order_94 : decode cX7_order 94 = .ok (.aload_n 0, 1) := by decide +kernel
theorem dX7_order_95 : decode cX7_order 95 = .ok (.getfield 41, 3) := by decide +kernel
theorem dX7_order_98 : decode cX7_order 98 = .ok (.aload_n 0, 1) := by decide +kernel
theorem dX7_order_99 : decode cX7_order 99 = .ok (.getfield 20, 3) := by decide +kernel
theorem dX7_order_102 : decode cX7_order 102 = .ok (.aload 6, 2) := by decide +kernel
theorem dX7_order_104 : decode cX7_order 104 = .ok (.iload_n 3, 1) := by decide +kernel
theorem dX7_order_105 : decode cX7_order 105 = .ok (.invokevirtual 152, 3) := by decide +kernel
theorem dX7_order_108 : decode cX7_order 108 = .ok (.ifCond .ne 5, 3) := by decide +kernel
theorem dX7_order_111 : decode cX7_order 111 = .ok (.iconst (-1), 1) := by decide +kernel
theorem dX7_order_112 : decode cX7_order 112 = .ok (.ireturn, 1) := by decide +kernel
theorem dX7_order_113 : decode cX7_order 113 = .ok (.aload_n 0, 1) := by decide +kernel
theorem dX7_order_114 : decode cX7_order 114 = .ok (.getfield 41, 3) := by decide +kernel
theorem dX7_order_117 : decode cX7_order 117 = .ok (.aload_n 0, 1) := by decide +kernel
theorem dX7_order_118 : decode cX7_order 118 = .ok (.getfield 20, 3) := by decide +kernel
theorem dX7_order_121 : decode cX7_order 121 = .ok (.invokevirtual 156, 3) := by decide +kernel
theorem dX7_order_124 : decode cX7_order 124 = .ok (.istore 8, 2) := by decide +kernel
theorem dX7_order_126 : decode cX7_order 126 = .ok (.iload 5, 2) := by decide +kernel
theorem dX7_order_128 : decode cX7_order 128 = .ok (.iconst 1, 1) := by decide +kernel
theorem dX7_order_129 : decode cX7_order 129 = .ok (.if_icmp .ne 6, 3) := by decide +kernel
theorem dX7_order_132 : decode cX7_order 132 = .ok (.iload 8, 2) := by decide +kernel
theorem dX7_order_134 : decode cX7_order 134 = .ok (.ireturn, 1) := by decide +kernel
theorem dX7_order_135 : decode cX7_order 135 = .ok (.iload 8, 2) := by decide +kernel
theorem dX7_order_137 : decode cX7_order 137 = .ok (.bipush (-9), 2) := by decide +kernel
theorem dX7_order_139 : decode cX7_order 139 = .ok (.if_icmp .ne 17, 3) := by decide +kernel
theorem dX7_order_142 : decode cX7_order 142 = .ok (.aload_n 0, 1) := by decide +kernel
theorem dX7_order_143 : decode cX7_order 143 = .ok (.getfield 41, 3) := by decide +kernel
theorem dX7_order_146 : decode cX7_order 146 = .ok (.aload_n 0, 1) := by decide +kernel
theorem dX7_order_147 : decode cX7_order 147 = .ok (.getfield 20, 3) := by decide +kernel
theorem dX7_order_150 : decode cX7_order 150 = .ok (.invokevirtual 160, 3) := by decide +kernel
theorem dX7_order_153 : decode cX7_order 153 = .ok (.goto 5, 3) := by decide +kernel
theorem dX7_order_156 : decode cX7_order 156 = .ok (.bipush (-9), 2) := by decide +kernel
theorem dX7_order_158 : decode cX7_order 158 = .ok (.ireturn, 1) := by decide +kernel
theorem dX7_coming_0 : decode cX7_coming 0 = .ok (.aload_n 0, 1) := by decide +kernel
theorem dX7_coming_1 : decode cX7_coming 1 = .ok (.getfield 20, 3) := by decide +kernel
theorem dX7_coming_4 : decode cX7_coming 4 = .ok (.invokevirtual 136, 3) := by decide +kernel
theorem dX7_coming_7 : decode cX7_coming 7 = .ok (.ifCond .eq 17, 3) := by decide +kernel
theorem dX7_coming_10 : decode cX7_coming 10 = .ok (.aload_n 0, 1) := by decide +kernel
theorem dX7_coming_11 : decode cX7_coming 11 = .ok (.getfield 41, 3) := by decide +kernel
theorem dX7_coming_14 : decode cX7_coming 14 = .ok (.aload_n 0, 1) := by decide +kernel
theorem dX7_coming_15 : decode cX7_coming 15 = .ok (.getfield 20, 3) := by decide +kernel
theorem dX7_coming_18 : decode cX7_coming 18 = .ok (.invokevirtual 163, 3) := by decide +kernel
theorem dX7_coming_21 : decode cX7_coming 21 = .ok (.goto 5, 3) := by decide +kernel
theorem dX7_coming_24 : decode cX7_coming 24 = .ok (.bipush (-3), 2) := by decide +kernel
theorem dX7_coming_26 : decode cX7_coming 26 = .ok (.ireturn, 1) := by decide +kernel
theorem dX7_letters_0 : decode cX7_letters 0 = .ok (.iload_n 1, 1) := by decide +kernel
theorem dX7_letters_1 : decode cX7_letters 1 = .ok (.iconst (-1), 1) := by decide +kernel
theorem dX7_letters_2 : decode cX7_letters 2 = .ok (.if_icmp .eq 16, 3) := by decide +kernel
theorem dX7_letters_5 : decode cX7_letters 5 = .ok (.aload_n 0, 1) := by decide +kernel
theorem dX7_letters_6 : decode cX7_letters 6 = .ok (.getfield 20, 3) := by decide +kernel
theorem dX7_letters_9 : decode cX7_letters 9 = .ok (.iload_n 1, 1) := by decide +kernel
theorem dX7_letters_10 : decode cX7_letters 10 = .ok (.invokevirtual 96, 3) := by decide +kernel
theorem dX7_letters_13 : decode cX7_letters 13 = .ok (.ifCond .ne 5, 3) := by decide +kernel
theorem dX7_letters_16 : decode cX7_letters 16 = .ok (.iconst (-1), 1) := by decide +kernel
theorem dX7_letters_17 : decode cX7_letters 17 = .ok (.ireturn, 1) := by decide +kernel
theorem dX7_letters_18 : decode cX7_letters 18 = .ok (.aload_n 0, 1) := by decide +kernel
theorem dX7_letters_19 : decode cX7_letters 19 = .ok (.getfield 20, 3) := by decide +kernel
theorem dX7_letters_22 : decode cX7_letters 22 = .ok (.invokevirtual 136, 3) := by decide +kernel
theorem dX7_letters_25 : decode cX7_letters 25 = .ok (.ifCond .ne 6, 3) := by decide +kernel
theorem dX7_letters_28 : decode cX7_letters 28 = .ok (.bipush (-3), 2) := by decide +kernel
theorem dX7_letters_30 : decode cX7_letters 30 = .ok (.ireturn, 1) := by decide +kernel
theorem dX7_letters_31 : decode cX7_letters 31 = .ok (.aload_n 0, 1) := by decide +kernel
theorem dX7_letters_32 : decode cX7_letters 32 = .ok (.getfield 48, 3) := by decide +kernel
theorem dX7_letters_35 : decode cX7_letters 35 = .ok (.aload_n 0, 1) := by decide +kernel
theorem dX7_letters_36 : decode cX7_letters 36 = .ok (.getfield 20, 3) := by decide +kernel
theorem dX7_letters_39 : decode cX7_letters 39 = .ok (.invokevirtual 166, 3) := by decide +kernel
theorem dX7_letters_42 : decode cX7_letters 42 = .ok (.istore_n 2, 1) := by decide +kernel
theorem dX7_letters_43 : decode cX7_letters 43 = .ok (.iload_n 1, 1) := by decide +kernel
theorem dX7_letters_44 : decode cX7_letters 44 = .ok (.iconst (-1), 1) := by decide +kernel
theorem dX7_letters_45 : decode cX7_letters 45 = .ok (.if_icmp .eq 9, 3) := by decide +kernel
theorem dX7_letters_48 : decode cX7_letters 48 = .ok (.iload_n 2, 1) := by decide +kernel
theorem dX7_letters_49 : decode cX7_letters 49 = .ok (.bipush (-9), 2) := by decide +kernel
theorem dX7_letters_51 : decode cX7_letters 51 = .ok (.if_icmp .ne 7, 3) := by decide +kernel
theorem dX7_letters_54 : decode cX7_letters 54 = .ok (.iload_n 2, 1) := by decide +kernel
theorem dX7_letters_55 : decode cX7_letters 55 = .ok (.goto 15, 3) := by decide +kernel
theorem dX7_letters_58 : decode cX7_letters 58 = .ok (.aload_n 0, 1) := by decide +kernel
theorem dX7_letters_59 : decode cX7_letters 59 = .ok (.getfield 48, 3) := by decide +kernel
theorem dX7_letters_62 : decode cX7_letters 62 = .ok (.aload_n 0, 1) := by decide +kernel
theorem dX7_letters_63 : decode cX7_letters 63 = .ok (.getfield 20, 3) := by decide +kernel
theorem dX7_letters_66 : decode cX7_letters 66 = .ok (.iload_n 1, 1) := by decide +kernel
theorem dX7_letters_67 : decode cX7_letters 67 = .ok (.invokevirtual 169, 3) := by decide +kernel
theorem dX7_letters_70 : decode cX7_letters 70 = .ok (.ireturn, 1) := by decide +kernel
theorem dX7_heard_0 : decode cX7_heard 0 = .ok (.aload_n 0, 1) := by decide +kernel
theorem dX7_heard_1 : decode cX7_heard 1 = .ok (.getfield 20, 3) := by decide +kernel
theorem dX7_heard_4 : decode cX7_heard 4 = .ok (.iload_n 1, 1) := by decide +kernel
theorem dX7_heard_5 : decode cX7_heard 5 = .ok (.invokevirtual 96, 3) := by decide +kernel
theorem dX7_heard_8 : decode cX7_heard 8 = .ok (.ifCond .eq 19, 3) := by decide +kernel
theorem dX7_heard_11 : decode cX7_heard 11 = .ok (.iload_n 2, 1) := by decide +kernel
theorem dX7_heard_12 : decode cX7_heard 12 = .ok (.invokestatic 172, 3) := by decide +kernel
theorem dX7_heard_15 : decode cX7_heard 15 = .ok (.ifCond .eq 12, 3) := by decide +kernel
theorem dX7_heard_18 : decode cX7_heard 18 = .ok (.iload_n 3, 1) := by decide +kernel
theorem dX7_heard_19 : decode cX7_heard 19 = .ok (.ifCond .lt 8, 3) := by decide +kernel
theorem dX7_heard_22 : decode cX7_heard 22 = .ok (.iload_n 3, 1) := by decide +kernel
theorem dX7_heard_23 : decode cX7_heard 23 = .ok (.iconst 1, 1) := by decide +kernel
theorem dX7_heard_24 : decode cX7_heard 24 = .ok (.if_icmp .le 7, 3) := by decide +kernel
theorem dX7_heard_27 : decode cX7_heard 27 = .ok (.ldc2_w 175, 3) := by decide +kernel
theorem dX7_heard_30 : decode cX7_heard 30 = .ok (.lreturn, 1) := by decide +kernel
theorem dX7_heard_31 : decode cX7_heard 31 = .ok (.aload_n 0, 1) := by decide +kernel
theorem dX7_heard_32 : decode cX7_heard 32 = .ok (.iload_n 1, 1) := by decide +kernel
theorem dX7_heard_33 : decode cX7_heard 33 = .ok (.iload_n 2, 1) := by decide +kernel
theorem dX7_heard_34 : decode cX7_heard 34 = .ok (.invokevirtual 177, 3) := by decide +kernel
theorem dX7_heard_37 : decode cX7_heard 37 = .ok (.lstore 4, 2) := by decide +kernel
theorem dX7_heard_39 : decode cX7_heard 39 = .ok (.aload_n 0, 1) := by decide +kernel
theorem dX7_heard_40 : decode cX7_heard 40 = .ok (.invokevirtual 181, 3) := by decide +kernel
theorem dX7_heard_43 : decode cX7_heard 43 = .ok (.lstore 6, 2) := by decide +kernel
theorem dX7_heard_45 : decode cX7_heard 45 = .ok (.lload 4, 2) := by decide +kernel
theorem dX7_heard_47 : decode cX7_heard 47 = .ok (.lload 6, 2) := by decide +kernel
theorem dX7_heard_49 : decode cX7_heard 49 = .ok (.invokestatic 185, 3) := by decide +kernel
theorem dX7_heard_52 : decode cX7_heard 52 = .ok (.lstore 8, 2) := by decide +kernel
theorem dX7_heard_54 : decode cX7_heard 54 = .ok (.lload 8, 2) := by decide +kernel
theorem dX7_heard_56 : decode cX7_heard 56 = .ok (.lconst 1, 1) := by decide +kernel
theorem dX7_heard_57 : decode cX7_heard 57 = .ok (.lcmp, 1) := by decide +kernel
theorem dX7_heard_58 : decode cX7_heard 58 = .ok (.ifCond .ge 7, 3) := by decide +kernel
theorem dX7_heard_61 : decode cX7_heard 61 = .ok (.ldc2_w 175, 3) := by decide +kernel
theorem dX7_heard_64 : decode cX7_heard 64 = .ok (.lreturn, 1) := by decide +kernel
theorem dX7_heard_65 : decode cX7_heard 65 = .ok (.iload_n 3, 1) := by decide +kernel
theorem dX7_heard_66 : decode cX7_heard 66 = .ok (.ifCond .ne 8, 3) := by decide +kernel
theorem dX7_heard_69 : decode cX7_heard 69 = .ok (.lload 4, 2) := by decide +kernel
theorem dX7_heard_71 : decode cX7_heard 71 = .ok (.goto 5, 3) := by decide +kernel
theorem dX7_heard_74 : decode cX7_heard 74 = .ok (.lload 6, 2) := by decide +kernel
theorem dX7_heard_76 : decode cX7_heard 76 = .ok (.lload 8, 2) := by decide +kernel
theorem dX7_heard_78 : decode cX7_heard 78 = .ok (.ldiv, 1) := by decide +kernel
theorem dX7_heard_79 : decode cX7_heard 79 = .ok (.lreturn, 1) := by decide +kernel
theorem dX7_stand_0 : decode cX7_stand 0 = .ok (.iload_n 1, 1) := by decide +kernel
theorem dX7_stand_1 : decode cX7_stand 1 = .ok (.invokestatic 172, 3) := by decide +kernel
theorem dX7_stand_4 : decode cX7_stand 4 = .ok (.ifCond .ne 6, 3) := by decide +kernel
theorem dX7_stand_7 : decode cX7_stand 7 = .ok (.bipush (-2), 2) := by decide +kernel
theorem dX7_stand_9 : decode cX7_stand 9 = .ok (.ireturn, 1) := by decide +kernel
theorem dX7_stand_10 : decode cX7_stand 10 = .ok (.aload_n 0, 1) := by decide +kernel
theorem dX7_stand_11 : decode cX7_stand 11 = .ok (.getfield 20, 3) := by decide +kernel
theorem dX7_stand_14 : decode cX7_stand 14 = .ok (.invokevirtual 136, 3) := by decide +kernel
theorem dX7_stand_17 : decode cX7_stand 17 = .ok (.ifCond .ne 6, 3) := by decide +kernel
theorem dX7_stand_20 : decode cX7_stand 20 = .ok (.bipush (-3), 2) := by decide +kernel
theorem dX7_stand_22 : decode cX7_stand 22 = .ok (.ireturn, 1) := by decide +kernel
theorem dX7_stand_23 : decode cX7_stand 23 = .ok (.iconst 0, 1) := by decide +kernel
theorem dX7_stand_24 : decode cX7_stand 24 = .ok (.istore_n 2, 1) := by decide +kernel
theorem dX7_stand_25 : decode cX7_stand 25 = .ok (.iconst 1, 1) := by decide +kernel
theorem dX7_stand_26 : decode cX7_stand 26 = .ok (.istore_n 3, 1) := by decide +kernel
theorem dX7_stand_27 : decode cX7_stand 27 = .ok (.iload_n 3, 1) := by decide +kernel
theorem dX7_stand_28 : decode cX7_stand 28 = .ok (.aload_n 0, 1) := by decide +kernel
theorem dX7_stand_29 : decode cX7_stand 29 = .ok (.getfield 20, 3) := by decide +kernel
theorem dX7_stand_32 : decode cX7_stand 32 = .ok (.getfield 93, 3) := by decide +kernel
theorem dX7_stand_35 : decode cX7_stand 35 = .ok (.if_icmp .ge 27, 3) := by decide +kernel
theorem dX7_stand_38 : decode cX7_stand 38 = .ok (.aload_n 0, 1) := by decide +kernel
theorem dX7_stand_39 : decode cX7_stand 39 = .ok (.iload_n 3, 1) := by decide +kernel
theorem dX7_stand_40 : decode cX7_stand 40 = .ok (.iload_n 1, 1) := by decide +kernel
theorem dX7_stand_41 : decode cX7_stand 41 = .ok (.invokevirtual 177, 3) := by decide +kernel
theorem dX7_stand_44 : decode cX7_stand 44 = .ok (.aload_n 0, 1) := by decide +kernel
theorem dX7_stand_45 : decode cX7_stand 45 = .ok (.iload_n 2, 1) := by decide +kernel
theorem dX7_stand_46 : decode cX7_stand 46 = .ok (.iload_n 1, 1) := by decide +kernel
theorem dX7_stand_47 : decode cX7_stand 47 = .ok (.invokevirtual 177, 3) := by decide +kernel
theorem dX7_stand_50 : decode cX7_stand 50 = .ok (.lcmp, 1) := by decide +kernel
theorem dX7_stand_51 : decode cX7_stand 51 = .ok (.ifCond .le 5, 3) := by decide +kernel
theorem dX7_stand_54 : decode cX7_stand 54 = .ok (.iload_n 3, 1) := by decide +kernel
theorem dX7_stand_55 : decode cX7_stand 55 = .ok (.istore_n 2, 1) := by decide +kernel
theorem dX7_stand_56 : decode cX7_stand 56 = .ok (.iinc 3 1, 3) := by decide +kernel
theorem dX7_stand_59 : decode cX7_stand 59 = .ok (.goto (-32), 3) := by decide +kernel
theorem dX7_stand_62 : decode cX7_stand 62 = .ok (.iload_n 2, 1) := by decide +kernel
theorem dX7_stand_63 : decode cX7_stand 63 = .ok (.ireturn, 1) := by decide +kernel
theorem dX7_reading_0 : decode cX7_reading 0 = .ok (.aload_n 0, 1) := by decide +kernel
theorem dX7_reading_1 : decode cX7_reading 1 = .ok (.getfield 20, 3) := by decide +kernel
theorem dX7_reading_4 : decode cX7_reading 4 = .ok (.iload_n 1, 1) := by decide +kernel
theorem dX7_reading_5 : decode cX7_reading 5 = .ok (.invokevirtual 96, 3) := by decide +kernel
theorem dX7_reading_8 : decode cX7_reading 8 = .ok (.ifCond .eq 14, 3) := by decide +kernel
theorem dX7_reading_11 : decode cX7_reading 11 = .ok (.aload_n 0, 1) := by decide +kernel
theorem dX7_reading_12 : decode cX7_reading 12 = .ok (.getfield 20, 3) := by decide +kernel
theorem dX7_reading_15 : decode cX7_reading 15 = .ok (.iload_n 3, 1) := by decide +kernel
theorem dX7_reading_16 : decode cX7_reading 16 = .ok (.invokevirtual 96, 3) := by decide +kernel
theorem dX7_reading_19 : decode cX7_reading 19 = .ok (.ifCond .ne 5, 3) := by decide +kernel
theorem dX7_reading_22 : decode cX7_reading 22 = .ok (.iconst (-1), 1) := by decide +kernel
theorem dX7_reading_23 : decode cX7_reading 23 = .ok (.ireturn, 1) := by decide +kernel
theorem dX7_reading_24 : decode cX7_reading 24 = .ok (.iload_n 2, 1) := by decide +kernel
theorem dX7_reading_25 : decode cX7_reading 25 = .ok (.invokestatic 123, 3) := by decide +kernel
theorem dX7_reading_28 : decode cX7_reading 28 = .ok (.ifCond .eq 18, 3) := by decide +kernel
theorem dX7_reading_31 : decode cX7_reading 31 = .ok (.iload 4, 2) := by decide +kernel
theorem dX7_reading_33 : decode cX7_reading 33 = .ok (.invokestatic 123, 3) := by decide +kernel
theorem dX7_reading_36 : decode cX7_reading 36 = .ok (.ifCond .ne 13, 3) := by decide +kernel
theorem dX7_reading_39 : decode cX7_reading 39 = .ok (.iload 4, 2) := by decide +kernel
theorem dX7_reading_41 : decode cX7_reading 41 = .ok (.bipush (-9), 2) := by decide +kernel
theorem dX7_reading_43 : decode cX7_reading 43 = .ok (.if_icmp .eq 6, 3) := by decide +kernel
theorem dX7_reading_46 : decode cX7_reading 46 = .ok (.bipush (-2), 2) := by decide +kernel
theorem dX7_reading_48 : decode cX7_reading 48 = .ok (.ireturn, 1) := by decide +kernel
theorem dX7_reading_49 : decode cX7_reading 49 = .ok (.aload_n 0, 1) := by decide +kernel
theorem dX7_reading_50 : decode cX7_reading 50 = .ok (.getfield 55, 3) := by decide +kernel
theorem dX7_reading_53 : decode cX7_reading 53 = .ok (.iload_n 1, 1) := by decide +kernel
theorem dX7_reading_54 : decode cX7_reading 54 = .ok (.iload_n 2, 1) := by decide +kernel
theorem dX7_reading_55 : decode cX7_reading 55 = .ok (.iload_n 3, 1) := by decide +kernel
theorem dX7_reading_56 : decode cX7_reading 56 = .ok (.iload 4, 2) := by decide +kernel
theorem dX7_reading_58 : decode cX7_reading 58 = .ok (.invokevirtual 189, 3) := by decide +kernel
theorem dX7_reading_61 : decode cX7_reading 61 = .ok (.ireturn, 1) := by decide +kernel
theorem dX7_back_0 : decode cX7_back 0 = .ok (.iload_n 1, 1) := by decide +kernel
theorem dX7_back_1 : decode cX7_back 1 = .ok (.ifCond .lt 14, 3) := by decide +kernel
theorem dX7_back_4 : decode cX7_back 4 = .ok (.iload_n 1, 1) := by decide +kernel
theorem dX7_back_5 : decode cX7_back 5 = .ok (.aload_n 0, 1) := by decide +kernel
theorem dX7_back_6 : decode cX7_back 6 = .ok (.getfield 55, 3) := by decide +kernel
theorem dX7_back_9 : decode cX7_back 9 = .ok (.getfield 90, 3) := by decide +kernel
theorem dX7_back_12 : decode cX7_back 12 = .ok (.if_icmp .le 6, 3) := by decide +kernel
theorem dX7_back_15 : decode cX7_back 15 = .ok (.bipush (-2), 2) := by decide +kernel
theorem dX7_back_17 : decode cX7_back 17 = .ok (.ireturn, 1) := by decide +kernel
theorem dX7_back_18 : decode cX7_back 18 = .ok (.aload_n 0, 1) := by decide +kernel
theorem dX7_back_19 : decode cX7_back 19 = .ok (.getfield 55, 3) := by decide +kernel
theorem dX7_back_22 : decode cX7_back 22 = .ok (.dup, 1) := by decide +kernel
theorem dX7_back_23 : decode cX7_back 23 = .ok (.getfield 90, 3) := by decide +kernel
theorem dX7_back_26 : decode cX7_back 26 = .ok (.iload_n 1, 1) := by decide +kernel
theorem dX7_back_27 : decode cX7_back 27 = .ok (.isub, 1) := by decide +kernel
theorem dX7_back_28 : decode cX7_back 28 = .ok (.putfield 90, 3) := by decide +kernel
theorem dX7_back_31 : decode cX7_back 31 = .ok (.aload_n 0, 1) := by decide +kernel
theorem dX7_back_32 : decode cX7_back 32 = .ok (.getfield 55, 3) := by decide +kernel
theorem dX7_back_35 : decode cX7_back 35 = .ok (.getfield 90, 3) := by decide +kernel
theorem dX7_back_38 : decode cX7_back 38 = .ok (.ireturn, 1) := by decide +kernel
theorem dX7_kinds_0 : decode cX7_kinds 0 = .ok (.aload_n 0, 1) := by decide +kernel
theorem dX7_kinds_1 : decode cX7_kinds 1 = .ok (.getfield 20, 3) := by decide +kernel
theorem dX7_kinds_4 : decode cX7_kinds 4 = .ok (.iload_n 1, 1) := by decide +kernel
theorem dX7_kinds_5 : decode cX7_kinds 5 = .ok (.invokevirtual 96, 3) := by decide +kernel
theorem dX7_kinds_8 : decode cX7_kinds 8 = .ok (.ifCond .ne 5, 3) := by decide +kernel
theorem dX7_kinds_11 : decode cX7_kinds 11 = .ok (.iconst (-1), 1) := by decide +kernel
theorem dX7_kinds_12 : decode cX7_kinds 12 = .ok (.ireturn, 1) := by decide +kernel
theorem dX7_kinds_13 : decode cX7_kinds 13 = .ok (.aload_n 0, 1) := by decide +kernel
theorem dX7_kinds_14 : decode cX7_kinds 14 = .ok (.getfield 20, 3) := by decide +kernel
theorem dX7_kinds_17 : decode cX7_kinds 17 = .ok (.getfield 99, 3) := by decide +kernel
theorem dX7_kinds_20 : decode cX7_kinds 20 = .ok (.iload_n 1, 1) := by decide +kernel
end
section
theorem dX7_kinds_21 : decode cX7_kinds 21 = .ok (.iaload, 1) := by decide +kernel
theorem dX7_kinds_22 : decode cX7_kinds 22 = .ok (.istore_n 2, 1) := by decide +kernel
theorem dX7_kinds_23 : decode cX7_kinds 23 = .ok (.iconst 0, 1) := by decide +kernel
theorem dX7_kinds_24 : decode cX7_kinds 24 = .ok (.istore_n 3, 1) := by decide +kernel
theorem dX7_kinds_25 : decode cX7_kinds 25 = .ok (.iconst 0, 1) := by decide +kernel
theorem dX7_kinds_26 : decode cX7_kinds 26 = .ok (.istore 4, 2) := by decide +kernel
theorem dX7_kinds_28 : decode cX7_kinds 28 = .ok (.iload 4, 2) := by decide +kernel
theorem dX7_kinds_30 : decode cX7_kinds 30 = .ok (.iconst 3, 1) := by decide +kernel
theorem dX7_kinds_31 : decode cX7_kinds 31 = .ok (.if_icmp .ge 45, 3) := by decide +kernel
theorem dX7_kinds_34 : decode cX7_kinds 34 = .ok (.aload_n 0, 1) := by decide +kernel
theorem dX7_kinds_35 : decode cX7_kinds 35 = .ok (.getfield 20, 3) := by decide +kernel
theorem dX7_kinds_38 : decode cX7_kinds 38 = .ok (.getfield 99, 3) := by decide +kernel
theorem dX7_kinds_41 : decode cX7_kinds 41 = .ok (.iload_n 1, 1) := by decide +kernel
theorem dX7_kinds_42 : decode cX7_kinds 42 = .ok (.iload 4, 2) := by decide +kernel
theorem dX7_kinds_44 : decode cX7_kinds 44 = .ok (.iastore, 1) := by decide +kernel
theorem dX7_kinds_45 : decode cX7_kinds 45 = .ok (.aload_n 0, 1) := by decide +kernel
theorem dX7_kinds_46 : decode cX7_kinds 46 = .ok (.getfield 55, 3) := by decide +kernel
theorem dX7_kinds_49 : decode cX7_kinds 49 = .ok (.aload_n 0, 1) := by decide +kernel
theorem dX7_kinds_50 : decode cX7_kinds 50 = .ok (.getfield 20, 3) := by decide +kernel
theorem dX7_kinds_53 : decode cX7_kinds 53 = .ok (.aload_n 0, 1) := by decide +kernel
theorem dX7_kinds_54 : decode cX7_kinds 54 = .ok (.getfield 27, 3) := by decide +kernel
theorem dX7_kinds_57 : decode cX7_kinds 57 = .ok (.invokevirtual 193, 3) := by decide +kernel
theorem dX7_kinds_60 : decode cX7_kinds 60 = .ok (.ifCond .eq 10, 3) := by decide +kernel
theorem dX7_kinds_63 : decode cX7_kinds 63 = .ok (.iload_n 3, 1) := by decide +kernel
theorem dX7_kinds_64 : decode cX7_kinds 64 = .ok (.iconst 1, 1) := by decide +kernel
theorem dX7_kinds_65 : decode cX7_kinds 65 = .ok (.iload 4, 2) := by decide +kernel
theorem dX7_kinds_67 : decode cX7_kinds 67 = .ok (.ishl, 1) := by decide +kernel
theorem dX7_kinds_68 : decode cX7_kinds 68 = .ok (.ior, 1) := by decide +kernel
theorem dX7_kinds_69 : decode cX7_kinds 69 = .ok (.istore_n 3, 1) := by decide +kernel
theorem dX7_kinds_70 : decode cX7_kinds 70 = .ok (.iinc 4 1, 3) := by decide +kernel
theorem dX7_kinds_73 : decode cX7_kinds 73 = .ok (.goto (-45), 3) := by decide +kernel
theorem dX7_kinds_76 : decode cX7_kinds 76 = .ok (.aload_n 0, 1) := by decide +kernel
theorem dX7_kinds_77 : decode cX7_kinds 77 = .ok (.getfield 20, 3) := by decide +kernel
theorem dX7_kinds_80 : decode cX7_kinds 80 = .ok (.getfield 99, 3) := by decide +kernel
theorem dX7_kinds_83 : decode cX7_kinds 83 = .ok (.iload_n 1, 1) := by decide +kernel
theorem dX7_kinds_84 : decode cX7_kinds 84 = .ok (.iload_n 2, 1) := by decide +kernel
theorem dX7_kinds_85 : decode cX7_kinds 85 = .ok (.iastore, 1) := by decide +kernel
theorem dX7_kinds_86 : decode cX7_kinds 86 = .ok (.iload_n 3, 1) := by decide +kernel
theorem dX7_kinds_87 : decode cX7_kinds 87 = .ok (.ireturn, 1) := by decide +kernel
theorem dX7_walls_0 : decode cX7_walls 0 = .ok (.aload_n 0, 1) := by decide +kernel
theorem dX7_walls_1 : decode cX7_walls 1 = .ok (.getfield 20, 3) := by decide +kernel
theorem dX7_walls_4 : decode cX7_walls 4 = .ok (.invokevirtual 136, 3) := by decide +kernel
theorem dX7_walls_7 : decode cX7_walls 7 = .ok (.ifCond .ne 6, 3) := by decide +kernel
theorem dX7_walls_10 : decode cX7_walls 10 = .ok (.bipush (-3), 2) := by decide +kernel
theorem dX7_walls_12 : decode cX7_walls 12 = .ok (.ireturn, 1) := by decide +kernel
theorem dX7_walls_13 : decode cX7_walls 13 = .ok (.iconst 0, 1) := by decide +kernel
theorem dX7_walls_14 : decode cX7_walls 14 = .ok (.istore_n 1, 1) := by decide +kernel
theorem dX7_walls_15 : decode cX7_walls 15 = .ok (.iconst 0, 1) := by decide +kernel
theorem dX7_walls_16 : decode cX7_walls 16 = .ok (.istore_n 2, 1) := by decide +kernel
theorem dX7_walls_17 : decode cX7_walls 17 = .ok (.iload_n 2, 1) := by decide +kernel
theorem dX7_walls_18 : decode cX7_walls 18 = .ok (.aload_n 0, 1) := by decide +kernel
theorem dX7_walls_19 : decode cX7_walls 19 = .ok (.getfield 20, 3) := by decide +kernel
theorem dX7_walls_22 : decode cX7_walls 22 = .ok (.getfield 197, 3) := by decide +kernel
theorem dX7_walls_25 : decode cX7_walls 25 = .ok (.if_icmp .ge 63, 3) := by decide +kernel
theorem dX7_walls_28 : decode cX7_walls 28 = .ok (.aload_n 0, 1) := by decide +kernel
theorem dX7_walls_29 : decode cX7_walls 29 = .ok (.getfield 20, 3) := by decide +kernel
theorem dX7_walls_32 : decode cX7_walls 32 = .ok (.getfield 115, 3) := by decide +kernel
theorem dX7_walls_35 : decode cX7_walls 35 = .ok (.iload_n 2, 1) := by decide +kernel
theorem dX7_walls_36 : decode cX7_walls 36 = .ok (.baload, 1) := by decide +kernel
theorem dX7_walls_37 : decode cX7_walls 37 = .ok (.istore_n 3, 1) := by decide +kernel
theorem dX7_walls_38 : decode cX7_walls 38 = .ok (.aload_n 0, 1) := by decide +kernel
theorem dX7_walls_39 : decode cX7_walls 39 = .ok (.getfield 20, 3) := by decide +kernel
theorem dX7_walls_42 : decode cX7_walls 42 = .ok (.getfield 115, 3) := by decide +kernel
theorem dX7_walls_45 : decode cX7_walls 45 = .ok (.iload_n 2, 1) := by decide +kernel
theorem dX7_walls_46 : decode cX7_walls 46 = .ok (.iconst 1, 1) := by decide +kernel
theorem dX7_walls_47 : decode cX7_walls 47 = .ok (.bastore, 1) := by decide +kernel
theorem dX7_walls_48 : decode cX7_walls 48 = .ok (.aload_n 0, 1) := by decide +kernel
theorem dX7_walls_49 : decode cX7_walls 49 = .ok (.getfield 55, 3) := by decide +kernel
theorem dX7_walls_52 : decode cX7_walls 52 = .ok (.aload_n 0, 1) := by decide +kernel
theorem dX7_walls_53 : decode cX7_walls 53 = .ok (.getfield 20, 3) := by decide +kernel
theorem dX7_walls_56 : decode cX7_walls 56 = .ok (.aload_n 0, 1) := by decide +kernel
theorem dX7_walls_57 : decode cX7_walls 57 = .ok (.getfield 27, 3) := by decide +kernel
theorem dX7_walls_60 : decode cX7_walls 60 = .ok (.invokevirtual 193, 3) := by decide +kernel
theorem dX7_walls_63 : decode cX7_walls 63 = .ok (.ifCond .eq 9, 3) := by decide +kernel
theorem dX7_walls_66 : decode cX7_walls 66 = .ok (.iload_n 1, 1) := by decide +kernel
theorem dX7_walls_67 : decode cX7_walls 67 = .ok (.iconst 1, 1) := by decide +kernel
theorem dX7_walls_68 : decode cX7_walls 68 = .ok (.iload_n 2, 1) := by decide +kernel
theorem dX7_walls_69 : decode cX7_walls 69 = .ok (.ishl, 1) := by decide +kernel
theorem dX7_walls_70 : decode cX7_walls 70 = .ok (.ior, 1) := by decide +kernel
theorem dX7_walls_71 : decode cX7_walls 71 = .ok (.istore_n 1, 1) := by decide +kernel
theorem dX7_walls_72 : decode cX7_walls 72 = .ok (.aload_n 0, 1) := by decide +kernel
theorem dX7_walls_73 : decode cX7_walls 73 = .ok (.getfield 20, 3) := by decide +kernel
theorem dX7_walls_76 : decode cX7_walls 76 = .ok (.getfield 115, 3) := by decide +kernel
theorem dX7_walls_79 : decode cX7_walls 79 = .ok (.iload_n 2, 1) := by decide +kernel
theorem dX7_walls_80 : decode cX7_walls 80 = .ok (.iload_n 3, 1) := by decide +kernel
theorem dX7_walls_81 : decode cX7_walls 81 = .ok (.bastore, 1) := by decide +kernel
theorem dX7_walls_82 : decode cX7_walls 82 = .ok (.iinc 2 1, 3) := by decide +kernel
theorem dX7_walls_85 : decode cX7_walls 85 = .ok (.goto (-68), 3) := by decide +kernel
theorem dX7_walls_88 : decode cX7_walls 88 = .ok (.iload_n 1, 1) := by decide +kernel
theorem dX7_walls_89 : decode cX7_walls 89 = .ok (.ireturn, 1) := by decide +kernel
theorem dX7_sheet_0 : decode cX7_sheet 0 = .ok (.aload_n 0, 1) := by decide +kernel
theorem dX7_sheet_1 : decode cX7_sheet 1 = .ok (.iconst 0, 1) := by decide +kernel
theorem dX7_sheet_2 : decode cX7_sheet 2 = .ok (.putfield 63, 3) := by decide +kernel
theorem dX7_sheet_5 : decode cX7_sheet 5 = .ok (.iload_n 1, 1) := by decide +kernel
theorem dX7_sheet_6 : decode cX7_sheet 6 = .ok (.invokestatic 67, 3) := by decide +kernel
theorem dX7_sheet_9 : decode cX7_sheet 9 = .ok (.ifCond .ne 5, 3) := by decide +kernel
theorem dX7_sheet_12 : decode cX7_sheet 12 = .ok (.iconst (-1), 1) := by decide +kernel
theorem dX7_sheet_13 : decode cX7_sheet 13 = .ok (.ireturn, 1) := by decide +kernel
theorem dX7_sheet_14 : decode cX7_sheet 14 = .ok (.iload_n 2, 1) := by decide +kernel
theorem dX7_sheet_15 : decode cX7_sheet 15 = .ok (.invokestatic 71, 3) := by decide +kernel
theorem dX7_sheet_18 : decode cX7_sheet 18 = .ok (.ifCond .eq 9, 3) := by decide +kernel
theorem dX7_sheet_21 : decode cX7_sheet 21 = .ok (.iload_n 3, 1) := by decide +kernel
theorem dX7_sheet_22 : decode cX7_sheet 22 = .ok (.bipush 50, 2) := by decide +kernel
theorem dX7_sheet_24 : decode cX7_sheet 24 = .ok (.if_icmp .le 6, 3) := by decide +kernel
theorem dX7_sheet_27 : decode cX7_sheet 27 = .ok (.bipush (-2), 2) := by decide +kernel
theorem dX7_sheet_29 : decode cX7_sheet 29 = .ok (.ireturn, 1) := by decide +kernel
theorem dX7_sheet_30 : decode cX7_sheet 30 = .ok (.iload_n 3, 1) := by decide +kernel
theorem dX7_sheet_31 : decode cX7_sheet 31 = .ok (.ifCond .ge 9, 3) := by decide +kernel
theorem dX7_sheet_34 : decode cX7_sheet 34 = .ok (.aload_n 0, 1) := by decide +kernel
theorem dX7_sheet_35 : decode cX7_sheet 35 = .ok (.iconst 4, 1) := by decide +kernel
theorem dX7_sheet_36 : decode cX7_sheet 36 = .ok (.invokevirtual 78, 3) := by decide +kernel
theorem dX7_sheet_39 : decode cX7_sheet 39 = .ok (.ireturn, 1) := by decide +kernel
theorem dX7_sheet_40 : decode cX7_sheet 40 = .ok (.aload_n 0, 1) := by decide +kernel
theorem dX7_sheet_41 : decode cX7_sheet 41 = .ok (.getfield 13, 3) := by decide +kernel
theorem dX7_sheet_44 : decode cX7_sheet 44 = .ok (.iload_n 1, 1) := by decide +kernel
theorem dX7_sheet_45 : decode cX7_sheet 45 = .ok (.aaload, 1) := by decide +kernel
theorem dX7_sheet_46 : decode cX7_sheet 46 = .ok (.iload_n 2, 1) := by decide +kernel
theorem dX7_sheet_47 : decode cX7_sheet 47 = .ok (.iload_n 3, 1) := by decide +kernel
theorem dX7_sheet_48 : decode cX7_sheet 48 = .ok (.invokevirtual 200, 3) := by decide +kernel
theorem dX7_sheet_51 : decode cX7_sheet 51 = .ok (.iconst 1, 1) := by decide +kernel
theorem dX7_sheet_52 : decode cX7_sheet 52 = .ok (.ireturn, 1) := by decide +kernel
theorem dX7_lose_0 : decode cX7_lose 0 = .ok (.iload_n 1, 1) := by decide +kernel
theorem dX7_lose_1 : decode cX7_lose 1 = .ok (.invokestatic 67, 3) := by decide +kernel
theorem dX7_lose_4 : decode cX7_lose 4 = .ok (.ifCond .ne 5, 3) := by decide +kernel
theorem dX7_lose_7 : decode cX7_lose 7 = .ok (.iconst (-1), 1) := by decide +kernel
theorem dX7_lose_8 : decode cX7_lose 8 = .ok (.ireturn, 1) := by decide +kernel
theorem dX7_lose_9 : decode cX7_lose 9 = .ok (.aload_n 0, 1) := by decide +kernel
theorem dX7_lose_10 : decode cX7_lose 10 = .ok (.getfield 13, 3) := by decide +kernel
theorem dX7_lose_13 : decode cX7_lose 13 = .ok (.iload_n 1, 1) := by decide +kernel
theorem dX7_lose_14 : decode cX7_lose 14 = .ok (.aaload, 1) := by decide +kernel
theorem dX7_lose_15 : decode cX7_lose 15 = .ok (.getfield 204, 3) := by decide +kernel
theorem dX7_lose_18 : decode cX7_lose 18 = .ok (.ifCond .ne 5, 3) := by decide +kernel
theorem dX7_lose_21 : decode cX7_lose 21 = .ok (.iconst 0, 1) := by decide +kernel
theorem dX7_lose_22 : decode cX7_lose 22 = .ok (.ireturn, 1) := by decide +kernel
theorem dX7_lose_23 : decode cX7_lose 23 = .ok (.aload_n 0, 1) := by decide +kernel
theorem dX7_lose_24 : decode cX7_lose 24 = .ok (.getfield 13, 3) := by decide +kernel
theorem dX7_lose_27 : decode cX7_lose 27 = .ok (.iload_n 1, 1) := by decide +kernel
theorem dX7_lose_28 : decode cX7_lose 28 = .ok (.aaload, 1) := by decide +kernel
theorem dX7_lose_29 : decode cX7_lose 29 = .ok (.iconst 0, 1) := by decide +kernel
theorem dX7_lose_30 : decode cX7_lose 30 = .ok (.putfield 204, 3) := by decide +kernel
theorem dX7_lose_33 : decode cX7_lose 33 = .ok (.iconst 1, 1) := by decide +kernel
theorem dX7_lose_34 : decode cX7_lose 34 = .ok (.ireturn, 1) := by decide +kernel
theorem dX7_put_0 : decode cX7_put 0 = .ok (.aload_n 0, 1) := by decide +kernel
theorem dX7_put_1 : decode cX7_put 1 = .ok (.iconst 0, 1) := by decide +kernel
theorem dX7_put_2 : decode cX7_put 2 = .ok (.putfield 63, 3) := by decide +kernel
theorem dX7_put_5 : decode cX7_put 5 = .ok (.iload_n 1, 1) := by decide +kernel
theorem dX7_put_6 : decode cX7_put 6 = .ok (.invokestatic 67, 3) := by decide +kernel
theorem dX7_put_9 : decode cX7_put 9 = .ok (.ifCond .ne 5, 3) := by decide +kernel
theorem dX7_put_12 : decode cX7_put 12 = .ok (.iconst (-1), 1) := by decide +kernel
theorem dX7_put_13 : decode cX7_put 13 = .ok (.ireturn, 1) := by decide +kernel
theorem dX7_put_14 : decode cX7_put 14 = .ok (.aload_n 0, 1) := by decide +kernel
theorem dX7_put_15 : decode cX7_put 15 = .ok (.getfield 13, 3) := by decide +kernel
theorem dX7_put_18 : decode cX7_put 18 = .ok (.iload_n 1, 1) := by decide +kernel
theorem dX7_put_19 : decode cX7_put 19 = .ok (.aaload, 1) := by decide +kernel
theorem dX7_put_20 : decode cX7_put 20 = .ok (.getfield 204, 3) := by decide +kernel
theorem dX7_put_23 : decode cX7_put 23 = .ok (.ifCond .ne 9, 3) := by decide +kernel
theorem dX7_put_26 : decode cX7_put 26 = .ok (.aload_n 0, 1) := by decide +kernel
theorem dX7_put_27 : decode cX7_put 27 = .ok (.iconst 1, 1) := by decide +kernel
theorem dX7_put_28 : decode cX7_put 28 = .ok (.invokevirtual 78, 3) := by decide +kernel
theorem dX7_put_31 : decode cX7_put 31 = .ok (.ireturn, 1) := by decide +kernel
theorem dX7_put_32 : decode cX7_put 32 = .ok (.aload_n 0, 1) := by decide +kernel
theorem dX7_put_33 : decode cX7_put 33 = .ok (.getfield 13, 3) := by decide +kernel
theorem dX7_put_36 : decode cX7_put 36 = .ok (.iload_n 1, 1) := by decide +kernel
theorem dX7_put_37 : decode cX7_put 37 = .ok (.aaload, 1) := by decide +kernel
theorem dX7_put_38 : decode cX7_put 38 = .ok (.iload_n 2, 1) := by decide +kernel
theorem dX7_put_39 : decode cX7_put 39 = .ok (.iconst 1, 1) := by decide +kernel
theorem dX7_put_40 : decode cX7_put 40 = .ok (.invokevirtual 207, 3) := by decide +kernel
theorem dX7_put_43 : decode cX7_put 43 = .ok (.ifCond .ne 9, 3) := by decide +kernel
theorem dX7_put_46 : decode cX7_put 46 = .ok (.aload_n 0, 1) := by decide +kernel
theorem dX7_put_47 : decode cX7_put 47 = .ok (.iconst 3, 1) := by decide +kernel
theorem dX7_put_48 : decode cX7_put 48 = .ok (.invokevirtual 78, 3) := by decide +kernel
theorem dX7_put_51 : decode cX7_put 51 = .ok (.ireturn, 1) := by decide +kernel
theorem dX7_put_52 : decode cX7_put 52 = .ok (.aload_n 0, 1) := by decide +kernel
theorem dX7_put_53 : decode cX7_put 53 = .ok (.getfield 13, 3) := by decide +kernel
theorem dX7_put_56 : decode cX7_put 56 = .ok (.iload_n 1, 1) := by decide +kernel
theorem dX7_put_57 : decode cX7_put 57 = .ok (.aaload, 1) := by decide +kernel
theorem dX7_put_58 : decode cX7_put 58 = .ok (.iload_n 2, 1) := by decide +kernel
theorem dX7_put_59 : decode cX7_put 59 = .ok (.iload_n 3, 1) := by decide +kernel
theorem dX7_put_60 : decode cX7_put 60 = .ok (.invokevirtual 211, 3) := by decide +kernel
theorem dX7_put_63 : decode cX7_put 63 = .ok (.iconst 1, 1) := by decide +kernel
theorem dX7_put_64 : decode cX7_put 64 = .ok (.ireturn, 1) := by decide +kernel
theorem dX7_cell_0 : decode cX7_cell 0 = .ok (.aload_n 0, 1) := by decide +kernel
theorem dX7_cell_1 : decode cX7_cell 1 = .ok (.iconst 0, 1) := by decide +kernel
theorem dX7_cell_2 : decode cX7_cell 2 = .ok (.putfield 63, 3) := by decide +kernel
theorem dX7_cell_5 : decode cX7_cell 5 = .ok (.iload_n 1, 1) := by decide +kernel
theorem dX7_cell_6 : decode cX7_cell 6 = .ok (.invokestatic 67, 3) := by decide +kernel
theorem dX7_cell_9 : decode cX7_cell 9 = .ok (.ifCond .eq 10, 3) := by decide +kernel
theorem dX7_cell_12 : decode cX7_cell 12 = .ok (.iload_n 3, 1) := by decide +kernel
theorem dX7_cell_13 : decode cX7_cell 13 = .ok (.invokestatic 71, 3) := by decide +kernel
theorem dX7_cell_16 : decode cX7_cell 16 = .ok (.ifCond .ne 7, 3) := by decide +kernel
theorem dX7_cell_19 : decode cX7_cell 19 = .ok (.ldc2_w 175, 3) := by decide +kernel
theorem dX7_cell_22 : decode cX7_cell 22 = .ok (.lreturn, 1) := by decide +kernel
theorem dX7_cell_23 : decode cX7_cell 23 = .ok (.aload_n 0, 1) := by decide +kernel
theorem dX7_cell_24 : decode cX7_cell 24 = .ok (.getfield 13, 3) := by decide +kernel
theorem dX7_cell_27 : decode cX7_cell 27 = .ok (.iload_n 1, 1) := by decide +kernel
theorem dX7_cell_28 : decode cX7_cell 28 = .ok (.aaload, 1) := by decide +kernel
theorem dX7_cell_29 : decode cX7_cell 29 = .ok (.iload_n 3, 1) := by decide +kernel
theorem dX7_cell_30 : decode cX7_cell 30 = .ok (.iload_n 2, 1) := by decide +kernel
theorem dX7_cell_31 : decode cX7_cell 31 = .ok (.iconst 1, 1) := by decide +kernel
theorem dX7_cell_32 : decode cX7_cell 32 = .ok (.invokevirtual 74, 3) := by decide +kernel
theorem dX7_cell_35 : decode cX7_cell 35 = .ok (.istore 4, 2) := by decide +kernel
theorem dX7_cell_37 : decode cX7_cell 37 = .ok (.iload 4, 2) := by decide +kernel
theorem dX7_cell_39 : decode cX7_cell 39 = .ok (.ifCond .eq 13, 3) := by decide +kernel
theorem dX7_cell_42 : decode cX7_cell 42 = .ok (.aload_n 0, 1) := by decide +kernel
theorem dX7_cell_43 : decode cX7_cell 43 = .ok (.iload 4, 2) := by decide +kernel
theorem dX7_cell_45 : decode cX7_cell 45 = .ok (.putfield 63, 3) := by decide +kernel
theorem dX7_cell_48 : decode cX7_cell 48 = .ok (.ldc2_w 175, 3) := by decide +kernel
theorem dX7_cell_51 : decode cX7_cell 51 = .ok (.lreturn, 1) := by decide +kernel
theorem dX7_cell_52 : decode cX7_cell 52 = .ok (.aload_n 0, 1) := by decide +kernel
theorem dX7_cell_53 : decode cX7_cell 53 = .ok (.getfield 13, 3) := by decide +kernel
theorem dX7_cell_56 : decode cX7_cell 56 = .ok (.iload_n 1, 1) := by decide +kernel
theorem dX7_cell_57 : decode cX7_cell 57 = .ok (.aaload, 1) := by decide +kernel
theorem dX7_cell_58 : decode cX7_cell 58 = .ok (.getfield 214, 3) := by decide +kernel
theorem dX7_cell_61 : decode cX7_cell 61 = .ok (.iload_n 2, 1) := by decide +kernel
theorem dX7_cell_62 : decode cX7_cell 62 = .ok (.iaload, 1) := by decide +kernel
theorem dX7_cell_63 : decode cX7_cell 63 = .ok (.i2l, 1) := by decide +kernel
theorem dX7_cell_64 : decode cX7_cell 64 = .ok (.lreturn, 1) := by decide +kernel
theorem dX7_copy_0 : decode cX7_copy 0 = .ok (.aload_n 0, 1) := by decide +kernel
theorem dX7_copy_1 : decode cX7_copy 1 = .ok (.iconst 0, 1) := by decide +kernel
theorem dX7_copy_2 : decode cX7_copy 2 = .ok (.putfield 63, 3) := by decide +kernel
theorem dX7_copy_5 : decode cX7_copy 5 = .ok (.iload_n 1, 1) := by decide +kernel
theorem dX7_copy_6 : decode cX7_copy 6 = .ok (.invokestatic 67, 3) := by decide +kernel
theorem dX7_copy_9 : decode cX7_copy 9 = .ok (.ifCond .eq 10, 3) := by decide +kernel
theorem dX7_copy_12 : decode cX7_copy 12 = .ok (.iload_n 3, 1) := by decide +kernel
theorem dX7_copy_13 : decode cX7_copy 13 = .ok (.invokestatic 67, 3) := by decide +kernel
theorem dX7_copy_16 : decode cX7_copy 16 = .ok (.ifCond .ne 5, 3) := by decide +kernel
theorem dX7_copy_19 : decode cX7_copy 19 = .ok (.iconst (-1), 1) := by decide +kernel
theorem dX7_copy_20 : decode cX7_copy 20 = .ok (.ireturn, 1) := by decide +kernel
theorem dX7_copy_21 : decode cX7_copy 21 = .ok (.aload_n 0, 1) := by decide +kernel
theorem dX7_copy_22 : decode cX7_copy 22 = .ok (.getfield 13, 3) := by decide +kernel
theorem dX7_copy_25 : decode cX7_copy 25 = .ok (.iload_n 1, 1) := by decide +kernel
theorem dX7_copy_26 : decode cX7_copy 26 = .ok (.aaload, 1) := by decide +kernel
theorem dX7_copy_27 : decode cX7_copy 27 = .ok (.astore 6, 2) := by decide +kernel
theorem dX7_copy_29 : decode cX7_copy 29 = .ok (.aload_n 0, 1) := by decide +kernel
theorem dX7_copy_30 : decode cX7_copy 30 = .ok (.getfield 13, 3) := by decide +kernel
theorem dX7_copy_33 : decode cX7_copy 33 = .ok (.iload_n 3, 1) := by decide +kernel
theorem dX7_copy_34 : decode cX7_copy 34 = .ok (.aaload, 1) := by decide +kernel
theorem dX7_copy_35 : decode cX7_copy 35 = .ok (.astore 7, 2) := by decide +kernel
theorem dX7_copy_37 : decode cX7_copy 37 = .ok (.aload 6, 2) := by decide +kernel
theorem dX7_copy_39 : decode cX7_copy 39 = .ok (.getfield 204, 3) := by decide +kernel
theorem dX7_copy_42 : decode cX7_copy 42 = .ok (.ifCond .eq 11, 3) := by decide +kernel
theorem dX7_copy_45 : decode cX7_copy 45 = .ok (.aload 7, 2) := by decide +kernel
theorem dX7_copy_47 : decode cX7_copy 47 = .ok (.getfield 204, 3) := by decide +kernel
theorem dX7_copy_50 : decode cX7_copy 50 = .ok (.ifCond .ne 9, 3) := by decide +kernel
theorem dX7_copy_53 : decode cX7_copy 53 = .ok (.aload_n 0, 1) := by decide +kernel
theorem dX7_copy_54 : decode cX7_copy 54 = .ok (.iconst 1, 1) := by decide +kernel
theorem dX7_copy_55 : decode cX7_copy 55 = .ok (.invokevirtual 78, 3) := by decide +kernel
theorem dX7_copy_58 : decode cX7_copy 58 = .ok (.ireturn, 1) := by decide +kernel
theorem dX7_copy_59 : decode cX7_copy 59 = .ok (.aload 6, 2) := by decide +kernel
theorem dX7_copy_61 : decode cX7_copy 61 = .ok (.getfield 217, 3) := by decide +kernel
theorem dX7_copy_64 : decode cX7_copy 64 = .ok (.aload 7, 2) := by decide +kernel
theorem dX7_copy_66 : decode cX7_copy 66 = .ok (.getfield 217, 3) := by decide +kernel
theorem dX7_copy_69 : decode cX7_copy 69 = .ok (.if_icmp .eq 9, 3) := by decide +kernel
theorem dX7_copy_72 : decode cX7_copy 72 = .ok (.aload_n 0, 1) := by decide +kernel
theorem dX7_copy_73 : decode cX7_copy 73 = .ok (.iconst 2, 1) := by decide +kernel
theorem dX7_copy_74 : decode cX7_copy 74 = .ok (.invokevirtual 78, 3) := by decide +kernel
theorem dX7_copy_77 : decode cX7_copy 77 = .ok (.ireturn, 1) := by decide +kernel
theorem dX7_copy_78 : decode cX7_copy 78 = .ok (.aload 6, 2) := by decide +kernel
theorem dX7_copy_80 : decode cX7_copy 80 = .ok (.iload_n 2, 1) := by decide +kernel
theorem dX7_copy_81 : decode cX7_copy 81 = .ok (.iload 5, 2) := by decide +kernel
theorem dX7_copy_83 : decode cX7_copy 83 = .ok (.invokevirtual 207, 3) := by decide +kernel
theorem dX7_copy_86 : decode cX7_copy 86 = .ok (.ifCond .eq 15, 3) := by decide +kernel
theorem dX7_copy_89 : decode cX7_copy 89 = .ok (.aload 7, 2) := by decide +kernel
theorem dX7_copy_91 : decode cX7_copy 91 = .ok (.iload 4, 2) := by decide +kernel
theorem dX7_copy_93 : decode cX7_copy 93 = .ok (.iload 5, 2) := by decide +kernel
theorem dX7_copy_95 : decode cX7_copy 95 = .ok (.invokevirtual 207, 3) := by decide +kernel
theorem dX7_copy_98 : decode cX7_copy 98 = .ok (.ifCond .ne 9, 3) := by decide +kernel
theorem dX7_copy_101 : decode cX7_copy 101 = .ok (.aload_n 0, 1) := by decide +kernel
theorem dX7_copy_102 : decode cX7_copy 102 = .ok (.iconst 3, 1) := by decide +kernel
theorem dX7_copy_103 : decode cX7_copy 103 = .ok (.invokevirtual 78, 3) := by decide +kernel
theorem dX7_copy_106 : decode cX7_copy 106 = .ok (.ireturn, 1) := by decide +kernel
theorem dX7_copy_107 : decode cX7_copy 107 = .ok (.aload 6, 2) := by decide +kernel
theorem dX7_copy_109 : decode cX7_copy 109 = .ok (.getfield 214, 3) := by decide +kernel
theorem dX7_copy_112 : decode cX7_copy 112 = .ok (.iload_n 2, 1) := by decide +kernel
theorem dX7_copy_113 : decode cX7_copy 113 = .ok (.aload 7, 2) := by decide +kernel
theorem dX7_copy_115 : decode cX7_copy 115 = .ok (.getfield 214, 3) := by decide +kernel
theorem dX7_copy_118 : decode cX7_copy 118 = .ok (.iload 4, 2) := by decide +kernel
theorem dX7_copy_120 : decode cX7_copy 120 = .ok (.iload 5, 2) := by decide +kernel
theorem dX7_copy_122 : decode cX7_copy 122 = .ok (.invokestatic 220, 3) := by decide +kernel
theorem dX7_copy_125 : decode cX7_copy 125 = .ok (.iload 5, 2) := by decide +kernel
theorem dX7_copy_127 : decode cX7_copy 127 = .ok (.ireturn, 1) := by decide +kernel
theorem dX7_tell_0 : decode cX7_tell 0 = .ok (.aload_n 0, 1) := by decide +kernel
theorem dX7_tell_1 : decode cX7_tell 1 = .ok (.getfield 20, 3) := by decide +kernel
theorem dX7_tell_4 : decode cX7_tell 4 = .ok (.iload_n 1, 1) := by decide +kernel
theorem dX7_tell_5 : decode cX7_tell 5 = .ok (.invokevirtual 96, 3) := by decide +kernel
theorem dX7_tell_8 : decode cX7_tell 8 = .ok (.ifCond .ne 5, 3) := by decide +kernel
theorem dX7_tell_11 : decode cX7_tell 11 = .ok (.iconst (-1), 1) := by decide +kernel
theorem dX7_tell_12 : decode cX7_tell 12 = .ok (.ireturn, 1) := by decide +kernel
theorem dX7_tell_13 : decode cX7_tell 13 = .ok (.aload_n 0, 1) := by decide +kernel
theorem dX7_tell_14 : decode cX7_tell 14 = .ok (.getfield 20, 3) := by decide +kernel
theorem dX7_tell_17 : decode cX7_tell 17 = .ok (.getfield 99, 3) := by decide +kernel
theorem dX7_tell_20 : decode cX7_tell 20 = .ok (.iload_n 1, 1) := by decide +kernel
theorem dX7_tell_21 : decode cX7_tell 21 = .ok (.iaload, 1) := by decide +kernel
theorem dX7_tell_22 : decode cX7_tell 22 = .ok (.lookupswitch 38 #[(1, 32), (2, 26)], 26) := by decide +kernel
theorem dX7_tell_48 : decode cX7_tell 48 = .ok (.aload_n 0, 1) := by decide +kernel
theorem dX7_tell_49 : decode cX7_tell 49 = .ok (.iload_n 1, 1) := by decide +kernel
theorem dX7_tell_50 : decode cX7_tell 50 = .ok (.invokevirtual 226, 3) := by decide +kernel
theorem dX7_tell_53 : decode cX7_tell 53 = .ok (.ireturn, 1) := by decide +kernel
theorem dX7_tell_54 : decode cX7_tell 54 = .ok (.aload_n 0, 1) := by decide +kernel
theorem dX7_tell_55 : decode cX7_tell 55 = .ok (.iload_n 1, 1) := by decide +kernel
theorem dX7_tell_56 : decode cX7_tell 56 = .ok (.invokevirtual 229, 3) := by decide +kernel
theorem dX7_tell_59 : decode cX7_tell 59 = .ok (.ireturn, 1) := by decide +kernel
theorem dX7_tell_60 : decode cX7_tell 60 = .ok (.aload_n 0, 1) := by decide +kernel
theorem dX7_tell_61 : decode cX7_tell 61 = .ok (.iload_n 1, 1) := by decide +kernel
theorem dX7_tell_62 : decode cX7_tell 62 = .ok (.invokevirtual 232, 3) := by decide +kernel
theorem dX7_tell_65 : decode cX7_tell 65 = .ok (.ireturn, 1) := by decide +kernel
theorem dX7_lean_0 : decode cX7_lean 0 = .ok (.aload_n 0, 1) := by decide +kernel
theorem dX7_lean_1 : decode cX7_lean 1 = .ok (.getfield 20, 3) := by decide +kernel
theorem dX7_lean_4 : decode cX7_lean 4 = .ok (.iload_n 1, 1) := by decide +kernel
theorem dX7_lean_5 : decode cX7_lean 5 = .ok (.invokevirtual 96, 3) := by decide +kernel
theorem dX7_lean_8 : decode cX7_lean 8 = .ok (.ifCond .ne 5, 3) := by decide +kernel
theorem dX7_lean_11 : decode cX7_lean 11 = .ok (.iconst (-1), 1) := by decide +kernel
theorem dX7_lean_12 : decode cX7_lean 12 = .ok (.ireturn, 1) := by decide +kernel
theorem dX7_lean_13 : decode cX7_lean 13 = .ok (.aload_n 0, 1) := by decide +kernel
theorem dX7_lean_14 : decode cX7_lean 14 = .ok (.getfield 20, 3) := by decide +kernel
theorem dX7_lean_17 : decode cX7_lean 17 = .ok (.getfield 99, 3) := by decide +kernel
theorem dX7_lean_20 : decode cX7_lean 20 = .ok (.iload_n 1, 1) := by decide +kernel
theorem dX7_lean_21 : decode cX7_lean 21 = .ok (.iaload, 1) := by decide +kernel
theorem dX7_lean_22 : decode cX7_lean 22 = .ok (.iconst 2, 1) := by decide +kernel
theorem dX7_lean_23 : decode cX7_lean 23 = .ok (.if_icmp .ne 11, 3) := by decide +kernel
theorem dX7_lean_26 : decode cX7_lean 26 = .ok (.aload_n 0, 1) := by decide +kernel
theorem dX7_lean_27 : decode cX7_lean 27 = .ok (.iconst 5, 1) := by decide +kernel
theorem dX7_lean_28 : decode cX7_lean 28 = .ok (.invokevirtual 235, 3) := by decide +kernel
theorem dX7_lean_31 : decode cX7_lean 31 = .ok (.bipush 70, 2) := by decide +kernel
theorem dX7_lean_33 : decode cX7_lean 33 = .ok (.ireturn, 1) := by decide +kernel
theorem dX7_lean_34 : decode cX7_lean 34 = .ok (.aload_n 0, 1) := by decide +kernel
theorem dX7_lean_35 : decode cX7_lean 35 = .ok (.iconst 4, 1) := by decide +kernel
theorem dX7_lean_36 : decode cX7_lean 36 = .ok (.invokevirtual 235, 3) := by decide +kernel
theorem dX7_lean_39 : decode cX7_lean 39 = .ok (.iload_n 1, 1) := by decide +kernel
theorem dX7_lean_40 : decode cX7_lean 40 = .ok (.ireturn, 1) := by decide +kernel
theorem dX7_as_0 : decode cX7_as 0 = .ok (.aload_n 0, 1) := by decide +kernel
theorem dX7_as_1 : decode cX7_as 1 = .ok (.iconst 0, 1) := by decide +kernel
theorem dX7_as_2 : decode cX7_as 2 = .ok (.putfield 63, 3) := by decide +kernel
theorem dX7_as_5 : decode cX7_as 5 = .ok (.aload_n 0, 1) := by decide +kernel
theorem dX7_as_6 : decode cX7_as 6 = .ok (.getfield 20, 3) := by decide +kernel
theorem dX7_as_9 : decode cX7_as 9 = .ok (.iload_n 1, 1) := by decide +kernel
theorem dX7_as_10 : decode cX7_as 10 = .ok (.invokevirtual 96, 3) := by decide +kernel
theorem dX7_as_13 : decode cX7_as 13 = .ok (.ifCond .ne 5, 3) := by decide +kernel
theorem dX7_as_16 : decode cX7_as 16 = .ok (.iconst (-1), 1) := by decide +kernel
theorem dX7_as_17 : decode cX7_as 17 = .ok (.ireturn, 1) := by decide +kernel
theorem dX7_as_18 : decode cX7_as 18 = .ok (.iload_n 2, 1) := by decide +kernel
theorem dX7_as_19 : decode cX7_as 19 = .ok (.ifCond .lt 8, 3) := by decide +kernel
theorem dX7_as_22 : decode cX7_as 22 = .ok (.iload_n 2, 1) := by decide +kernel
theorem dX7_as_23 : decode cX7_as 23 = .ok (.iconst 3, 1) := by decide +kernel
theorem dX7_as_24 : decode cX7_as 24 = .ok (.if_icmp .lt 6, 3) := by decide +kernel
theorem dX7_as_27 : decode cX7_as 27 = .ok (.bipush (-2), 2) := by decide +kernel
theorem dX7_as_29 : decode cX7_as 29 = .ok (.ireturn, 1) := by decide +kernel
theorem dX7_as_30 : decode cX7_as 30 = .ok (.aload_n 0, 1) := by decide +kernel
theorem dX7_as_31 : decode cX7_as 31 = .ok (.getfield 20, 3) := by decide +kernel
theorem dX7_as_34 : decode cX7_as 34 = .ok (.getfield 99, 3) := by decide +kernel
theorem dX7_as_37 : decode cX7_as 37 = .ok (.iload_n 1, 1) := by decide +kernel
theorem dX7_as_38 : decode cX7_as 38 = .ok (.iaload, 1) := by decide +kernel
theorem dX7_as_39 : decode cX7_as 39 = .ok (.iload_n 2, 1) := by decide +kernel
theorem dX7_as_40 : decode cX7_as 40 = .ok (.if_icmp .lt 7, 3) := by decide +kernel
theorem dX7_as_43 : decode cX7_as 43 = .ok (.iconst 1, 1) := by decide +kernel
theorem dX7_as_44 : decode cX7_as 44 = .ok (.goto 8, 3) := by decide +kernel
theorem dX7_as_47 : decode cX7_as 47 = .ok (.aload_n 0, 1) := by decide +kernel
theorem dX7_as_48 : decode cX7_as 48 = .ok (.iconst 2, 1) := by decide +kernel
theorem dX7_as_49 : decode cX7_as 49 = .ok (.invokevirtual 78, 3) := by decide +kernel
theorem dX7_as_52 : decode cX7_as 52 = .ok (.ireturn, 1) := by decide +kernel
theorem dX7_trace_0 : decode cX7_trace 0 = .ok (.aload_n 0, 1) := by decide +kernel
theorem dX7_trace_1 : decode cX7_trace 1 = .ok (.getfield 59, 3) := by decide +kernel
theorem dX7_trace_4 : decode cX7_trace 4 = .ok (.ireturn, 1) := by decide +kernel
theorem dX7_fault_0 : decode cX7_fault 0 = .ok (.aload_n 0, 1) := by decide +kernel
theorem dX7_fault_1 : decode cX7_fault 1 = .ok (.getfield 63, 3) := by decide +kernel
theorem dX7_fault_4 : decode cX7_fault 4 = .ok (.ireturn, 1) := by decide +kernel
theorem dX7_many_0 : decode cX7_many 0 = .ok (.iload_n 1, 1) := by decide +kernel
theorem dX7_many_1 : decode cX7_many 1 = .ok (.tableswitch 83 0 4 #[35, 43, 51, 59, 67], 35) := by decide +kernel
theorem dX7_many_36 : decode cX7_many 36 = .ok (.aload_n 0, 1) := by decide +kernel
theorem dX7_many_37 : decode cX7_many 37 = .ok (.getfield 20, 3) := by decide +kernel
theorem dX7_many_40 : decode cX7_many 40 = .ok (.getfield 93, 3) := by decide +kernel
theorem dX7_many_43 : decode cX7_many 43 = .ok (.ireturn, 1) := by decide +kernel
theorem dX7_many_44 : decode cX7_many 44 = .ok (.aload_n 0, 1) := by decide +kernel
theorem dX7_many_45 : decode cX7_many 45 = .ok (.getfield 20, 3) := by decide +kernel
theorem dX7_many_48 : decode cX7_many 48 = .ok (.getfield 197, 3) := by decide +kernel
theorem dX7_many_51 : decode cX7_many 51 = .ok (.ireturn, 1) := by decide +kernel
theorem dX7_many_52 : decode cX7_many 52 = .ok (.aload_n 0, 1) := by decide +kernel
theorem dX7_many_53 : decode cX7_many 53 = .ok (.getfield 20, 3) := by decide +kernel
theorem dX7_many_56 : decode cX7_many 56 = .ok (.invokevirtual 238, 3) := by decide +kernel
theorem dX7_many_59 : decode cX7_many 59 = .ok (.ireturn, 1) := by decide +kernel
theorem dX7_many_60 : decode cX7_many 60 = .ok (.aload_n 0, 1) := by decide +kernel
theorem dX7_many_61 : decode cX7_many 61 = .ok (.getfield 55, 3) := by decide +kernel
theorem dX7_many_64 : decode cX7_many 64 = .ok (.getfield 90, 3) := by decide +kernel
theorem dX7_many_67 : decode cX7_many 67 = .ok (.ireturn, 1) := by decide +kernel
theorem dX7_many_68 : decode cX7_many 68 = .ok (.aload_n 0, 1) := by decide +kernel
theorem dX7_many_69 : decode cX7_many 69 = .ok (.getfield 20, 3) := by decide +kernel
theorem dX7_many_72 : decode cX7_many 72 = .ok (.getfield 144, 3) := by decide +kernel
theorem dX7_many_75 : decode cX7_many 75 = .ok (.ifCond .eq 7, 3) := by decide +kernel
theorem dX7_many_78 : decode cX7_many 78 = .ok (.iconst 1, 1) := by decide +kernel
theorem dX7_many_79 : decode cX7_many 79 = .ok (.goto 4, 3) := by decide +kernel
theorem dX7_many_82 : decode cX7_many 82 = .ok (.iconst 0, 1) := by decide +kernel
theorem dX7_many_83 : decode cX7_many 83 = .ok (.ireturn, 1) := by decide +kernel
theorem dX7_many_84 : decode cX7_many 84 = .ok (.bipush (-2), 2) := by decide +kernel
theorem dX7_many_86 : decode cX7_many 86 = .ok (.ireturn, 1) := by decide +kernel
theorem dX7_failed_0 : decode cX7_failed 0 = .ok (.aload_n 0, 1) := by decide +kernel
theorem dX7_failed_1 : decode cX7_failed 1 = .ok (.iload_n 1, 1) := by decide +kernel
theorem dX7_failed_2 : decode cX7_failed 2 = .ok (.putfield 63, 3) := by decide +kernel
theorem dX7_failed_5 : decode cX7_failed 5 = .ok (.bipush (-10), 2) := by decide +kernel
theorem dX7_failed_7 : decode cX7_failed 7 = .ok (.iload_n 1, 1) := by decide +kernel
theorem dX7_failed_8 : decode cX7_failed 8 = .ok (.isub, 1) := by decide +kernel
theorem dX7_failed_9 : decode cX7_failed 9 = .ok (.ireturn, 1) := by decide +kernel
theorem dX7_isSheet_0 : decode cX7_isSheet 0 = .ok (.iload_n 0, 1) := by decide +kernel
theorem dX7_isSheet_1 : decode cX7_isSheet 1 = .ok (.ifCond .lt 12, 3) := by decide +kernel
theorem dX7_isSheet_4 : decode cX7_isSheet 4 = .ok (.iload_n 0, 1) := by decide +kernel
theorem dX7_isSheet_5 : decode cX7_isSheet 5 = .ok (.iconst 4, 1) := by decide +kernel
theorem dX7_isSheet_6 : decode cX7_isSheet 6 = .ok (.if_icmp .ge 7, 3) := by decide +kernel
theorem dX7_isSheet_9 : decode cX7_isSheet 9 = .ok (.iconst 1, 1) := by decide +kernel
theorem dX7_isSheet_10 : decode cX7_isSheet 10 = .ok (.goto 4, 3) := by decide +kernel
theorem dX7_isSheet_13 : decode cX7_isSheet 13 = .ok (.iconst 0, 1) := by decide +kernel
theorem dX7_isSheet_14 : decode cX7_isSheet 14 = .ok (.ireturn, 1) := by decide +kernel
theorem dX7_isLane_0 : decode cX7_isLane 0 = .ok (.iload_n 0, 1) := by decide +kernel
theorem dX7_isLane_1 : decode cX7_isLane 1 = .ok (.ifCond .lt 12, 3) := by decide +kernel
theorem dX7_isLane_4 : decode cX7_isLane 4 = .ok (.iload_n 0, 1) := by decide +kernel
theorem dX7_isLane_5 : decode cX7_isLane 5 = .ok (.iconst 3, 1) := by decide +kernel
theorem dX7_isLane_6 : decode cX7_isLane 6 = .ok (.if_icmp .ge 7, 3) := by decide +kernel
theorem dX7_isLane_9 : decode cX7_isLane 9 = .ok (.iconst 1, 1) := by decide +kernel
theorem dX7_isLane_10 : decode cX7_isLane 10 = .ok (.goto 4, 3) := by decide +kernel
theorem dX7_isLane_13 : decode cX7_isLane 13 = .ok (.iconst 0, 1) := by decide +kernel
theorem dX7_isLane_14 : decode cX7_isLane 14 = .ok (.ireturn, 1) := by decide +kernel
theorem dX7_isNumber_0 : decode cX7_isNumber 0 = .ok (.iload_n 0, 1) := by decide +kernel
theorem dX7_isNumber_1 : decode cX7_isNumber 1 = .ok (.ifCond .lt 13, 3) := by decide +kernel
theorem dX7_isNumber_4 : decode cX7_isNumber 4 = .ok (.iload_n 0, 1) := by decide +kernel
theorem dX7_isNumber_5 : decode cX7_isNumber 5 = .ok (.bipush 100, 2) := by decide +kernel
theorem dX7_isNumber_7 : decode cX7_isNumber 7 = .ok (.if_icmp .ge 7, 3) := by decide +kernel
theorem dX7_isNumber_10 : decode cX7_isNumber 10 = .ok (.iconst 1, 1) := by decide +kernel
theorem dX7_isNumber_11 : decode cX7_isNumber 11 = .ok (.goto 4, 3) := by decide +kernel
theorem dX7_isNumber_14 : decode cX7_isNumber 14 = .ok (.iconst 0, 1) := by decide +kernel
theorem dX7_isNumber_15 : decode cX7_isNumber 15 = .ok (.ireturn, 1) := by decide +kernel
theorem dX7_isTenths_0 : decode cX7_isTenths 0 = .ok (.iload_n 0, 1) := by decide +kernel
theorem dX7_isTenths_1 : decode cX7_isTenths 1 = .ok (.ifCond .lt 13, 3) := by decide +kernel
theorem dX7_isTenths_4 : decode cX7_isTenths 4 = .ok (.iload_n 0, 1) := by decide +kernel
theorem dX7_isTenths_5 : decode cX7_isTenths 5 = .ok (.bipush 10, 2) := by decide +kernel
theorem dX7_isTenths_7 : decode cX7_isTenths 7 = .ok (.if_icmp .gt 7, 3) := by decide +kernel
theorem dX7_isTenths_10 : decode cX7_isTenths 10 = .ok (.iconst 1, 1) := by decide +kernel
theorem dX7_isTenths_11 : decode cX7_isTenths 11 = .ok (.goto 4, 3) := by decide +kernel
theorem dX7_isTenths_14 : decode cX7_isTenths 14 = .ok (.iconst 0, 1) := by decide +kernel
theorem dX7_isTenths_15 : decode cX7_isTenths 15 = .ok (.ireturn, 1) := by decide +kernel
theorem dX7_firstFault_0 : decode cX7_firstFault 0 = .ok (.iconst 0, 1) := by decide +kernel
theorem dX7_firstFault_1 : decode cX7_firstFault 1 = .ok (.istore_n 3, 1) := by decide +kernel
theorem dX7_firstFault_2 : decode cX7_firstFault 2 = .ok (.iload_n 3, 1) := by decide +kernel
theorem dX7_firstFault_3 : decode cX7_firstFault 3 = .ok (.iload_n 2, 1) := by decide +kernel
theorem dX7_firstFault_4 : decode cX7_firstFault 4 = .ok (.if_icmp .ge 25, 3) := by decide +kernel
theorem dX7_firstFault_7 : decode cX7_firstFault 7 = .ok (.iload_n 3, 1) := by decide +kernel
theorem dX7_firstFault_8 : decode cX7_firstFault 8 = .ok (.aload_n 0, 1) := by decide +kernel
theorem dX7_firstFault_9 : decode cX7_firstFault 9 = .ok (.iload_n 1, 1) := by decide +kernel
theorem dX7_firstFault_10 : decode cX7_firstFault 10 = .ok (.iload_n 3, 1) := by decide +kernel
theorem dX7_firstFault_11 : decode cX7_firstFault 11 = .ok (.iadd, 1) := by decide +kernel
theorem dX7_firstFault_12 : decode cX7_firstFault 12 = .ok (.invokevirtual 242, 3) := by decide +kernel
theorem dX7_firstFault_15 : decode cX7_firstFault 15 = .ok (.invokestatic 245, 3) := by decide +kernel
theorem dX7_firstFault_18 : decode cX7_firstFault 18 = .ok (.ifCond .ne 5, 3) := by decide +kernel
theorem dX7_firstFault_21 : decode cX7_firstFault 21 = .ok (.iload_n 3, 1) := by decide +kernel
theorem dX7_firstFault_22 : decode cX7_firstFault 22 = .ok (.ireturn, 1) := by decide +kernel
theorem dX7_firstFault_23 : decode cX7_firstFault 23 = .ok (.iinc 3 1, 3) := by decide +kernel
theorem dX7_firstFault_26 : decode cX7_firstFault 26 = .ok (.goto (-24), 3) := by decide +kernel
theorem dX7_firstFault_29 : decode cX7_firstFault 29 = .ok (.iload_n 2, 1) := by decide +kernel
theorem dX7_firstFault_30 : decode cX7_firstFault 30 = .ok (.bipush 12, 2) := by decide +kernel
theorem dX7_firstFault_32 : decode cX7_firstFault 32 = .ok (.if_icmp .lt 15, 3) := by decide +kernel
theorem dX7_firstFault_35 : decode cX7_firstFault 35 = .ok (.iload_n 2, 1) := by decide +kernel
theorem dX7_firstFault_36 : decode cX7_firstFault 36 = .ok (.iconst 2, 1) := by decide +kernel
theorem dX7_firstFault_37 : decode cX7_firstFault 37 = .ok (.isub, 1) := by decide +kernel
theorem dX7_firstFault_38 : decode cX7_firstFault 38 = .ok (.iconst 5, 1) := by decide +kernel
theorem dX7_firstFault_39 : decode cX7_firstFault 39 = .ok (.irem, 1) := by decide +kernel
theorem dX7_firstFault_40 : decode cX7_firstFault 40 = .ok (.ifCond .ne 7, 3) := by decide +kernel
theorem dX7_firstFault_43 : decode cX7_firstFault 43 = .ok (.iconst 1, 1) := by decide +kernel
theorem dX7_firstFault_44 : decode cX7_firstFault 44 = .ok (.goto 4, 3) := by decide +kernel
theorem dX7_firstFault_47 : decode cX7_firstFault 47 = .ok (.iconst 0, 1) := by decide +kernel
theorem dX7_firstFault_48 : decode cX7_firstFault 48 = .ok (.istore_n 3, 1) := by decide +kernel
theorem dX7_firstFault_49 : decode cX7_firstFault 49 = .ok (.iload_n 3, 1) := by decide +kernel
theorem dX7_firstFault_50 : decode cX7_firstFault 50 = .ok (.ifCond .eq 8, 3) := by decide +kernel
theorem dX7_firstFault_53 : decode cX7_firstFault 53 = .ok (.bipush (-9), 2) := by decide +kernel
theorem dX7_firstFault_55 : decode cX7_firstFault 55 = .ok (.goto 4, 3) := by decide +kernel
theorem dX7_firstFault_58 : decode cX7_firstFault 58 = .ok (.iload_n 2, 1) := by decide +kernel
theorem dX7_firstFault_59 : decode cX7_firstFault 59 = .ok (.ireturn, 1) := by decide +kernel
theorem dX7_goesOn_0 : decode cX7_goesOn 0 = .ok (.iload_n 0, 1) := by decide +kernel
theorem dX7_goesOn_1 : decode cX7_goesOn 1 = .ok (.ifCond .ne 15, 3) := by decide +kernel
theorem dX7_goesOn_4 : decode cX7_goesOn 4 = .ok (.iload_n 1, 1) := by decide +kernel
theorem dX7_goesOn_5 : decode cX7_goesOn 5 = .ok (.bipush 119, 2) := by decide +kernel
theorem dX7_goesOn_7 : decode cX7_goesOn 7 = .ok (.if_icmp .ne 7, 3) := by decide +kernel
theorem dX7_goesOn_10 : decode cX7_goesOn 10 = .ok (.iconst 1, 1) := by decide +kernel
theorem dX7_goesOn_11 : decode cX7_goesOn 11 = .ok (.goto 4, 3) := by decide +kernel
theorem dX7_goesOn_14 : decode cX7_goesOn 14 = .ok (.iconst 0, 1) := by decide +kernel
theorem dX7_goesOn_15 : decode cX7_goesOn 15 = .ok (.ireturn, 1) := by decide +kernel
theorem dX7_goesOn_16 : decode cX7_goesOn 16 = .ok (.iload_n 0, 1) := by decide +kernel
theorem dX7_goesOn_17 : decode cX7_goesOn 17 = .ok (.iconst 1, 1) := by decide +kernel
theorem dX7_goesOn_18 : decode cX7_goesOn 18 = .ok (.if_icmp .ne 9, 3) := by decide +kernel
theorem dX7_goesOn_21 : decode cX7_goesOn 21 = .ok (.iload_n 1, 1) := by decide +kernel
theorem dX7_goesOn_22 : decode cX7_goesOn 22 = .ok (.iconst 1, 1) := by decide +kernel
theorem dX7_goesOn_23 : decode cX7_goesOn 23 = .ok (.invokestatic 248, 3) := by decide +kernel
theorem dX7_goesOn_26 : decode cX7_goesOn 26 = .ok (.ireturn, 1) := by decide +kernel
theorem dX7_goesOn_27 : decode cX7_goesOn 27 = .ok (.iload_n 0, 1) := by decide +kernel
theorem dX7_goesOn_28 : decode cX7_goesOn 28 = .ok (.bipush 37, 2) := by decide +kernel
theorem dX7_goesOn_30 : decode cX7_goesOn 30 = .ok (.if_icmp .lt 5, 3) := by decide +kernel
theorem dX7_goesOn_33 : decode cX7_goesOn 33 = .ok (.iconst 0, 1) := by decide +kernel
theorem dX7_goesOn_34 : decode cX7_goesOn 34 = .ok (.ireturn, 1) := by decide +kernel
theorem dX7_goesOn_35 : decode cX7_goesOn 35 = .ok (.iload_n 0, 1) := by decide +kernel
theorem dX7_goesOn_36 : decode cX7_goesOn 36 = .ok (.iconst 2, 1) := by decide +kernel
theorem dX7_goesOn_37 : decode cX7_goesOn 37 = .ok (.isub, 1) := by decide +kernel
theorem dX7_goesOn_38 : decode cX7_goesOn 38 = .ok (.iconst 5, 1) := by decide +kernel
theorem dX7_goesOn_39 : decode cX7_goesOn 39 = .ok (.irem, 1) := by decide +kernel
theorem dX7_goesOn_40 : decode cX7_goesOn 40 = .ok (.tableswitch 71 0 2 #[28, 40, 64], 28) := by decide +kernel
theorem dX7_goesOn_68 : decode cX7_goesOn 68 = .ok (.iload_n 1, 1) := by decide +kernel
theorem dX7_goesOn_69 : decode cX7_goesOn 69 = .ok (.bipush 59, 2) := by decide +kernel
theorem dX7_goesOn_71 : decode cX7_goesOn 71 = .ok (.if_icmp .ne 7, 3) := by decide +kernel
theorem dX7_goesOn_74 : decode cX7_goesOn 74 = .ok (.iconst 1, 1) := by decide +kernel
theorem dX7_goesOn_75 : decode cX7_goesOn 75 = .ok (.goto 4, 3) := by decide +kernel
theorem dX7_goesOn_78 : decode cX7_goesOn 78 = .ok (.iconst 0, 1) := by decide +kernel
theorem dX7_goesOn_79 : decode cX7_goesOn 79 = .ok (.ireturn, 1) := by decide +kernel
theorem dX7_goesOn_80 : decode cX7_goesOn 80 = .ok (.iload_n 1, 1) := by decide +kernel
theorem dX7_goesOn_81 : decode cX7_goesOn 81 = .ok (.bipush 112, 2) := by decide +kernel
theorem dX7_goesOn_83 : decode cX7_goesOn 83 = .ok (.if_icmp .eq 15, 3) := by decide +kernel
theorem dX7_goesOn_86 : decode cX7_goesOn 86 = .ok (.iload_n 1, 1) := by decide +kernel
theorem dX7_goesOn_87 : decode cX7_goesOn 87 = .ok (.bipush 103, 2) := by decide +kernel
theorem dX7_goesOn_89 : decode cX7_goesOn 89 = .ok (.if_icmp .eq 9, 3) := by decide +kernel
theorem dX7_goesOn_92 : decode cX7_goesOn 92 = .ok (.iload_n 1, 1) := by decide +kernel
theorem dX7_goesOn_93 : decode cX7_goesOn 93 = .ok (.bipush 116, 2) := by decide +kernel
theorem dX7_goesOn_95 : decode cX7_goesOn 95 = .ok (.if_icmp .ne 7, 3) := by decide +kernel
theorem dX7_goesOn_98 : decode cX7_goesOn 98 = .ok (.iconst 1, 1) := by decide +kernel
theorem dX7_goesOn_99 : decode cX7_goesOn 99 = .ok (.goto 4, 3) := by decide +kernel
theorem dX7_goesOn_102 : decode cX7_goesOn 102 = .ok (.iconst 0, 1) := by decide +kernel
theorem dX7_goesOn_103 : decode cX7_goesOn 103 = .ok (.ireturn, 1) := by decide +kernel
theorem dX7_goesOn_104 : decode cX7_goesOn 104 = .ok (.iload_n 1, 1) := by decide +kernel
theorem dX7_goesOn_105 : decode cX7_goesOn 105 = .ok (.bipush 9, 2) := by decide +kernel
theorem dX7_goesOn_107 : decode cX7_goesOn 107 = .ok (.invokestatic 248, 3) := by decide +kernel
theorem dX7_goesOn_110 : decode cX7_goesOn 110 = .ok (.ireturn, 1) := by decide +kernel
theorem dX7_goesOn_111 : decode cX7_goesOn 111 = .ok (.iload_n 1, 1) := by decide +kernel
theorem dX7_goesOn_112 : decode cX7_goesOn 112 = .ok (.iconst 3, 1) := by decide +kernel
theorem dX7_goesOn_113 : decode cX7_goesOn 113 = .ok (.invokestatic 248, 3) := by decide +kernel
theorem dX7_goesOn_116 : decode cX7_goesOn 116 = .ok (.ireturn, 1) := by decide +kernel
theorem dX7_isDigit_0 : decode cX7_isDigit 0 = .ok (.iload_n 0, 1) := by decide +kernel
theorem dX7_isDigit_1 : decode cX7_isDigit 1 = .ok (.bipush 48, 2) := by decide +kernel
theorem dX7_isDigit_3 : decode cX7_isDigit 3 = .ok (.if_icmp .lt 15, 3) := by decide +kernel
theorem dX7_isDigit_6 : decode cX7_isDigit 6 = .ok (.iload_n 0, 1) := by decide +kernel
theorem dX7_isDigit_7 : decode cX7_isDigit 7 = .ok (.bipush 48, 2) := by decide +kernel
theorem dX7_isDigit_9 : decode cX7_isDigit 9 = .ok (.iload_n 1, 1) := by decide +kernel
theorem dX7_isDigit_10 : decode cX7_isDigit 10 = .ok (.iadd, 1) := by decide +kernel
theorem dX7_isDigit_11 : decode cX7_isDigit 11 = .ok (.if_icmp .gt 7, 3) := by decide +kernel
theorem dX7_isDigit_14 : decode cX7_isDigit 14 = .ok (.iconst 1, 1) := by decide +kernel
theorem dX7_isDigit_15 : decode cX7_isDigit 15 = .ok (.goto 4, 3) := by decide +kernel
theorem dX7_isDigit_18 : decode cX7_isDigit 18 = .ok (.iconst 0, 1) := by decide +kernel
theorem dX7_isDigit_19 : decode cX7_isDigit 19 = .ok (.ireturn, 1) := by decide +kernel
theorem dX7_hearers_0 : decode cX7_hearers 0 = .ok (.lconst 0, 1) := by decide +kernel
theorem dX7_hearers_1 : decode cX7_hearers 1 = .ok (.lstore_n 3, 1) := by decide +kernel
theorem dX7_hearers_2 : decode cX7_hearers 2 = .ok (.iconst 0, 1) := by decide +kernel
theorem dX7_hearers_3 : decode cX7_hearers 3 = .ok (.istore 5, 2) := by decide +kernel
theorem dX7_hearers_5 : decode cX7_hearers 5 = .ok (.iload 5, 2) := by decide +kernel
theorem dX7_hearers_7 : decode cX7_hearers 7 = .ok (.aload_n 0, 1) := by decide +kernel
theorem dX7_hearers_8 : decode cX7_hearers 8 = .ok (.getfield 20, 3) := by decide +kernel
theorem dX7_hearers_11 : decode cX7_hearers 11 = .ok (.getfield 93, 3) := by decide +kernel
theorem dX7_hearers_14 : decode cX7_hearers 14 = .ok (.if_icmp .ge 43, 3) := by decide +kernel
theorem dX7_hearers_17 : decode cX7_hearers 17 = .ok (.iload 5, 2) := by decide +kernel
theorem dX7_hearers_19 : decode cX7_hearers 19 = .ok (.iload_n 1, 1) := by decide +kernel
theorem dX7_hearers_20 : decode cX7_hearers 20 = .ok (.if_icmp .eq 31, 3) := by decide +kernel
theorem dX7_hearers_23 : decode cX7_hearers 23 = .ok (.lload_n 3, 1) := by decide +kernel
theorem dX7_hearers_24 : decode cX7_hearers 24 = .ok (.aload_n 0, 1) := by decide +kernel
theorem dX7_hearers_25 : decode cX7_hearers 25 = .ok (.aload_n 0, 1) := by decide +kernel
theorem dX7_hearers_26 : decode cX7_hearers 26 = .ok (.getfield 20, 3) := by decide +kernel
theorem dX7_hearers_29 : decode cX7_hearers 29 = .ok (.iload_n 1, 1) := by decide +kernel
theorem dX7_hearers_30 : decode cX7_hearers 30 = .ok (.iload 5, 2) := by decide +kernel
theorem dX7_hearers_32 : decode cX7_hearers 32 = .ok (.invokevirtual 251, 3) := by decide +kernel
theorem dX7_hearers_35 : decode cX7_hearers 35 = .ok (.aload_n 0, 1) := by decide +kernel
theorem dX7_hearers_36 : decode cX7_hearers 36 = .ok (.getfield 20, 3) := by decide +kernel
theorem dX7_hearers_39 : decode cX7_hearers 39 = .ok (.iload 5, 2) := by decide +kernel
theorem dX7_hearers_41 : decode cX7_hearers 41 = .ok (.iload_n 1, 1) := by decide +kernel
theorem dX7_hearers_42 : decode cX7_hearers 42 = .ok (.invokevirtual 251, 3) := by decide +kernel
theorem dX7_hearers_45 : decode cX7_hearers 45 = .ok (.iload_n 2, 1) := by decide +kernel
theorem dX7_hearers_46 : decode cX7_hearers 46 = .ok (.invokevirtual 255, 3) := by decide +kernel
theorem dX7_hearers_49 : decode cX7_hearers 49 = .ok (.ladd, 1) := by decide +kernel
theorem dX7_hearers_50 : decode cX7_hearers 50 = .ok (.lstore_n 3, 1) := by decide +kernel
theorem dX7_hearers_51 : decode cX7_hearers 51 = .ok (.iinc 5 1, 3) := by decide +kernel
theorem dX7_hearers_54 : decode cX7_hearers 54 = .ok (.goto (-49), 3) := by decide +kernel
theorem dX7_hearers_57 : decode cX7_hearers 57 = .ok (.lload_n 3, 1) := by decide +kernel
theorem dX7_hearers_58 : decode cX7_hearers 58 = .ok (.lreturn, 1) := by decide +kernel
theorem dX7_reaching_0 : decode cX7_reaching 0 = .ok (.iload_n 1, 1) := by decide +kernel
theorem dX7_reaching_1 : decode cX7_reaching 1 = .ok (.bipush (-9), 2) := by decide +kernel
theorem dX7_reaching_3 : decode cX7_reaching 3 = .ok (.if_icmp .ne 11, 3) := by decide +kernel
theorem dX7_reaching_6 : decode cX7_reaching 6 = .ok (.iload_n 2, 1) := by decide +kernel
theorem dX7_reaching_7 : decode cX7_reaching 7 = .ok (.bipush (-9), 2) := by decide +kernel
theorem dX7_reaching_9 : decode cX7_reaching 9 = .ok (.if_icmp .ne 5, 3) := by decide +kernel
theorem dX7_reaching_12 : decode cX7_reaching 12 = .ok (.lconst 0, 1) := by decide +kernel
theorem dX7_reaching_13 : decode cX7_reaching 13 = .ok (.lreturn, 1) := by decide +kernel
theorem dX7_reaching_14 : decode cX7_reaching 14 = .ok (.iload_n 2, 1) := by decide +kernel
theorem dX7_reaching_15 : decode cX7_reaching 15 = .ok (.bipush (-9), 2) := by decide +kernel
theorem dX7_reaching_17 : decode cX7_reaching 17 = .ok (.if_icmp .ne 10, 3) := by decide +kernel
theorem dX7_reaching_20 : decode cX7_reaching 20 = .ok (.aload_n 0, 1) := by decide +kernel
theorem dX7_reaching_21 : decode cX7_reaching 21 = .ok (.iload_n 1, 1) := by decide +kernel
theorem dX7_reaching_22 : decode cX7_reaching 22 = .ok (.iload_n 3, 1) := by decide +kernel
theorem dX7_reaching_23 : decode cX7_reaching 23 = .ok (.invokevirtual 259, 3) := by decide +kernel
theorem dX7_reaching_26 : decode cX7_reaching 26 = .ok (.lreturn, 1) := by decide +kernel
theorem dX7_reaching_27 : decode cX7_reaching 27 = .ok (.iload_n 1, 1) := by decide +kernel
theorem dX7_reaching_28 : decode cX7_reaching 28 = .ok (.bipush (-9), 2) := by decide +kernel
theorem dX7_reaching_30 : decode cX7_reaching 30 = .ok (.if_icmp .ne 10, 3) := by decide +kernel
theorem dX7_reaching_33 : decode cX7_reaching 33 = .ok (.aload_n 0, 1) := by decide +kernel
theorem dX7_reaching_34 : decode cX7_reaching 34 = .ok (.iload_n 2, 1) := by decide +kernel
theorem dX7_reaching_35 : decode cX7_reaching 35 = .ok (.iload_n 3, 1) := by decide +kernel
theorem dX7_reaching_36 : decode cX7_reaching 36 = .ok (.invokevirtual 259, 3) := by decide +kernel
theorem dX7_reaching_39 : decode cX7_reaching 39 = .ok (.lreturn, 1) := by decide +kernel
theorem dX7_reaching_40 : decode cX7_reaching 40 = .ok (.aload_n 0, 1) := by decide +kernel
theorem dX7_reaching_41 : decode cX7_reaching 41 = .ok (.iload_n 1, 1) := by decide +kernel
theorem dX7_reaching_42 : decode cX7_reaching 42 = .ok (.iload_n 3, 1) := by decide +kernel
theorem dX7_reaching_43 : decode cX7_reaching 43 = .ok (.invokevirtual 259, 3) := by decide +kernel
theorem dX7_reaching_46 : decode cX7_reaching 46 = .ok (.aload_n 0, 1) := by decide +kernel
theorem dX7_reaching_47 : decode cX7_reaching 47 = .ok (.iload_n 2, 1) := by decide +kernel
theorem dX7_reaching_48 : decode cX7_reaching 48 = .ok (.iload_n 3, 1) := by decide +kernel
theorem dX7_reaching_49 : decode cX7_reaching 49 = .ok (.invokevirtual 259, 3) := by decide +kernel
theorem dX7_reaching_52 : decode cX7_reaching 52 = .ok (.ladd, 1) := by decide +kernel
theorem dX7_reaching_53 : decode cX7_reaching 53 = .ok (.aload_n 0, 1) := by decide +kernel
theorem dX7_reaching_54 : decode cX7_reaching 54 = .ok (.iload_n 1, 1) := by decide +kernel
theorem dX7_reaching_55 : decode cX7_reaching 55 = .ok (.iload_n 2, 1) := by decide +kernel
theorem dX7_reaching_56 : decode cX7_reaching 56 = .ok (.iadd, 1) := by decide +kernel
theorem dX7_reaching_57 : decode cX7_reaching 57 = .ok (.iload_n 3, 1) := by decide +kernel
theorem dX7_reaching_58 : decode cX7_reaching 58 = .ok (.invokevirtual 259, 3) := by decide +kernel
theorem dX7_reaching_61 : decode cX7_reaching 61 = .ok (.lsub, 1) := by decide +kernel
theorem dX7_reaching_62 : decode cX7_reaching 62 = .ok (.lreturn, 1) := by decide +kernel
theorem dX7_allWhole_0 : decode cX7_allWhole 0 = .ok (.lconst 1, 1) := by decide +kernel
theorem dX7_allWhole_1 : decode cX7_allWhole 1 = .ok (.lstore_n 3, 1) := by decide +kernel
theorem dX7_allWhole_2 : decode cX7_allWhole 2 = .ok (.iconst 0, 1) := by decide +kernel
theorem dX7_allWhole_3 : decode cX7_allWhole 3 = .ok (.istore 5, 2) := by decide +kernel
theorem dX7_allWhole_5 : decode cX7_allWhole 5 = .ok (.iload 5, 2) := by decide +kernel
theorem dX7_allWhole_7 : decode cX7_allWhole 7 = .ok (.aload_n 0, 1) := by decide +kernel
theorem dX7_allWhole_8 : decode cX7_allWhole 8 = .ok (.getfield 20, 3) := by decide +kernel
theorem dX7_allWhole_11 : decode cX7_allWhole 11 = .ok (.getfield 197, 3) := by decide +kernel
theorem dX7_allWhole_14 : decode cX7_allWhole 14 = .ok (.if_icmp .ge 29, 3) := by decide +kernel
theorem dX7_allWhole_17 : decode cX7_allWhole 17 = .ok (.lload_n 3, 1) := by decide +kernel
theorem dX7_allWhole_18 : decode cX7_allWhole 18 = .ok (.iload 5, 2) := by decide +kernel
theorem dX7_allWhole_20 : decode cX7_allWhole 20 = .ok (.iload_n 1, 1) := by decide +kernel
theorem dX7_allWhole_21 : decode cX7_allWhole 21 = .ok (.if_icmp .ge 11, 3) := by decide +kernel
theorem dX7_allWhole_24 : decode cX7_allWhole 24 = .ok (.bipush 10, 2) := by decide +kernel
theorem dX7_allWhole_26 : decode cX7_allWhole 26 = .ok (.iload_n 2, 1) := by decide +kernel
theorem dX7_allWhole_27 : decode cX7_allWhole 27 = .ok (.isub, 1) := by decide +kernel
theorem dX7_allWhole_28 : decode cX7_allWhole 28 = .ok (.i2l, 1) := by decide +kernel
theorem dX7_allWhole_29 : decode cX7_allWhole 29 = .ok (.goto 6, 3) := by decide +kernel
theorem dX7_allWhole_32 : decode cX7_allWhole 32 = .ok (.ldc2_w 262, 3) := by decide +kernel
theorem dX7_allWhole_35 : decode cX7_allWhole 35 = .ok (.lmul, 1) := by decide +kernel
theorem dX7_allWhole_36 : decode cX7_allWhole 36 = .ok (.lstore_n 3, 1) := by decide +kernel
theorem dX7_allWhole_37 : decode cX7_allWhole 37 = .ok (.iinc 5 1, 3) := by decide +kernel
theorem dX7_allWhole_40 : decode cX7_allWhole 40 = .ok (.goto (-35), 3) := by decide +kernel
theorem dX7_allWhole_43 : decode cX7_allWhole 43 = .ok (.lload_n 3, 1) := by decide +kernel
theorem dX7_allWhole_44 : decode cX7_allWhole 44 = .ok (.lreturn, 1) := by decide +kernel
theorem dX7_whole_0 : decode cX7_whole 0 = .ok (.aload_n 0, 1) := by decide +kernel
theorem dX7_whole_1 : decode cX7_whole 1 = .ok (.iconst 0, 1) := by decide +kernel
theorem dX7_whole_2 : decode cX7_whole 2 = .ok (.iconst 0, 1) := by decide +kernel
theorem dX7_whole_3 : decode cX7_whole 3 = .ok (.invokevirtual 259, 3) := by decide +kernel
theorem dX7_whole_6 : decode cX7_whole 6 = .ok (.lreturn, 1) := by decide +kernel
theorem dX7_commonDivisor_0 : decode cX7_commonDivisor 0 = .ok (.lload_n 0, 1) := by decide +kernel
theorem dX7_commonDivisor_1 : decode cX7_commonDivisor 1 = .ok (.lstore 4, 2) := by decide +kernel
theorem dX7_commonDivisor_3 : decode cX7_commonDivisor 3 = .ok (.lload_n 2, 1) := by decide +kernel
theorem dX7_commonDivisor_4 : decode cX7_commonDivisor 4 = .ok (.lstore 6, 2) := by decide +kernel
theorem dX7_commonDivisor_6 : decode cX7_commonDivisor 6 = .ok (.iconst 0, 1) := by decide +kernel
theorem dX7_commonDivisor_7 : decode cX7_commonDivisor 7 = .ok (.istore 8, 2) := by decide +kernel
theorem dX7_commonDivisor_9 : decode cX7_commonDivisor 9 = .ok (.iload 8, 2) := by decide +kernel
theorem dX7_commonDivisor_11 : decode cX7_commonDivisor 11 = .ok (.sipush 200, 3) := by decide +kernel
theorem dX7_commonDivisor_14 : decode cX7_commonDivisor 14 = .ok (.if_icmp .ge 31, 3) := by decide +kernel
theorem dX7_commonDivisor_17 : decode cX7_commonDivisor 17 = .ok (.lload 6, 2) := by decide +kernel
theorem dX7_commonDivisor_19 : decode cX7_commonDivisor 19 = .ok (.lconst 0, 1) := by decide +kernel
theorem dX7_commonDivisor_20 : decode cX7_commonDivisor 20 = .ok (.lcmp, 1) := by decide +kernel
theorem dX7_commonDivisor_21 : decode cX7_commonDivisor 21 = .ok (.ifCond .eq 24, 3) := by decide +kernel
theorem dX7_commonDivisor_24 : decode cX7_commonDivisor 24 = .ok (.lload 4, 2) := by decide +kernel
theorem dX7_commonDivisor_26 : decode cX7_commonDivisor 26 = .ok (.lload 6, 2) := by decide +kernel
theorem dX7_commonDivisor_28 : decode cX7_commonDivisor 28 = .ok (.lrem, 1) := by decide +kernel
theorem dX7_commonDivisor_29 : decode cX7_commonDivisor 29 = .ok (.lstore 9, 2) := by decide +kernel
theorem dX7_commonDivisor_31 : decode cX7_commonDivisor 31 = .ok (.lload 6, 2) := by decide +kernel
theorem dX7_commonDivisor_33 : decode cX7_commonDivisor 33 = .ok (.lstore 4, 2) := by decide +kernel
theorem dX7_commonDivisor_35 : decode cX7_commonDivisor 35 = .ok (.lload 9, 2) := by decide +kernel
theorem dX7_commonDivisor_37 : decode cX7_commonDivisor 37 = .ok (.lstore 6, 2) := by decide +kernel
theorem dX7_commonDivisor_39 : decode cX7_commonDivisor 39 = .ok (.iinc 8 1, 3) := by decide +kernel
theorem dX7_commonDivisor_42 : decode cX7_commonDivisor 42 = .ok (.goto (-33), 3) := by decide +kernel
theorem dX7_commonDivisor_45 : decode cX7_commonDivisor 45 = .ok (.lload 4, 2) := by decide +kernel
theorem dX7_commonDivisor_47 : decode cX7_commonDivisor 47 = .ok (.lreturn, 1) := by decide +kernel
theorem dX7_leaveTrace_0 : decode cX7_leaveTrace 0 = .ok (.aload_n 0, 1) := by decide +kernel
theorem dX7_leaveTrace_1 : decode cX7_leaveTrace 1 = .ok (.bipush 31, 2) := by decide +kernel
theorem dX7_leaveTrace_3 : decode cX7_leaveTrace 3 = .ok (.aload_n 0, 1) := by decide +kernel
theorem dX7_leaveTrace_4 : decode cX7_leaveTrace 4 = .ok (.getfield 59, 3) := by decide +kernel
theorem dX7_leaveTrace_7 : decode cX7_leaveTrace 7 = .ok (.imul, 1) := by decide +kernel
theorem dX7_leaveTrace_8 : decode cX7_leaveTrace 8 = .ok (.iload_n 1, 1) := by decide +kernel
theorem dX7_leaveTrace_9 : decode cX7_leaveTrace 9 = .ok (.iadd, 1) := by decide +kernel
theorem dX7_leaveTrace_10 : decode cX7_leaveTrace 10 = .ok (.putfield 59, 3) := by decide +kernel
theorem dX7_leaveTrace_13 : decode cX7_leaveTrace 13 = .ok (.return_, 1) := by decide +kernel
theorem dX7_tellPerson_0 : decode cX7_tellPerson 0 = .ok (.aload_n 0, 1) := by decide +kernel
theorem dX7_tellPerson_1 : decode cX7_tellPerson 1 = .ok (.iconst 1, 1) := by decide +kernel
theorem dX7_tellPerson_2 : decode cX7_tellPerson 2 = .ok (.invokevirtual 235, 3) := by decide +kernel
theorem dX7_tellPerson_5 : decode cX7_tellPerson 5 = .ok (.aload_n 0, 1) := by decide +kernel
theorem dX7_tellPerson_6 : decode cX7_tellPerson 6 = .ok (.getfield 20, 3) := by decide +kernel
theorem dX7_tellPerson_9 : decode cX7_tellPerson 9 = .ok (.iload_n 1, 1) := by decide +kernel
theorem dX7_tellPerson_10 : decode cX7_tellPerson 10 = .ok (.invokevirtual 96, 3) := by decide +kernel
theorem dX7_tellPerson_13 : decode cX7_tellPerson 13 = .ok (.ifCond .eq 15, 3) := by decide +kernel
theorem dX7_tellPerson_16 : decode cX7_tellPerson 16 = .ok (.aload_n 0, 1) := by decide +kernel
theorem dX7_tellPerson_17 : decode cX7_tellPerson 17 = .ok (.getfield 20, 3) := by decide +kernel
theorem dX7_tellPerson_20 : decode cX7_tellPerson 20 = .ok (.getfield 103, 3) := by decide +kernel
theorem dX7_tellPerson_23 : decode cX7_tellPerson 23 = .ok (.iload_n 1, 1) := by decide +kernel
theorem dX7_tellPerson_24 : decode cX7_tellPerson 24 = .ok (.iaload, 1) := by decide +kernel
theorem dX7_tellPerson_25 : decode cX7_tellPerson 25 = .ok (.goto 4, 3) := by decide +kernel
theorem dX7_tellPerson_28 : decode cX7_tellPerson 28 = .ok (.iconst 0, 1) := by decide +kernel
theorem dX7_tellPerson_29 : decode cX7_tellPerson 29 = .ok (.ireturn, 1) := by decide +kernel
theorem dX7_tellGrudger_0 : decode cX7_tellGrudger 0 = .ok (.aload_n 0, 1) := by decide +kernel
theorem dX7_tellGrudger_1 : decode cX7_tellGrudger 1 = .ok (.iconst 2, 1) := by decide +kernel
theorem dX7_tellGrudger_2 : decode cX7_tellGrudger 2 = .ok (.invokevirtual 235, 3) := by decide +kernel
theorem dX7_tellGrudger_5 : decode cX7_tellGrudger 5 = .ok (.aload_n 0, 1) := by decide +kernel
theorem dX7_tellGrudger_6 : decode cX7_tellGrudger 6 = .ok (.iload_n 1, 1) := by decide +kernel
theorem dX7_tellGrudger_7 : decode cX7_tellGrudger 7 = .ok (.invokevirtual 232, 3) := by decide +kernel
theorem dX7_tellGrudger_10 : decode cX7_tellGrudger 10 = .ok (.bipush 100, 2) := by decide +kernel
theorem dX7_tellGrudger_12 : decode cX7_tellGrudger 12 = .ok (.iadd, 1) := by decide +kernel
theorem dX7_tellGrudger_13 : decode cX7_tellGrudger 13 = .ok (.ireturn, 1) := by decide +kernel
theorem dX7_tellTalker_0 : decode cX7_tellTalker 0 = .ok (.aload_n 0, 1) := by decide +kernel
theorem dX7_tellTalker_1 : decode cX7_tellTalker 1 = .ok (.iconst 3, 1) := by decide +kernel
theorem dX7_tellTalker_2 : decode cX7_tellTalker 2 = .ok (.invokevirtual 235, 3) := by decide +kernel
theorem dX7_tellTalker_5 : decode cX7_tellTalker 5 = .ok (.aload_n 0, 1) := by decide +kernel
theorem dX7_tellTalker_6 : decode cX7_tellTalker 6 = .ok (.iload_n 1, 1) := by decide +kernel
theorem dX7_tellTalker_7 : decode cX7_tellTalker 7 = .ok (.invokevirtual 229, 3) := by decide +kernel
theorem dX7_tellTalker_10 : decode cX7_tellTalker 10 = .ok (.aload_n 0, 1) := by decide +kernel
theorem dX7_tellTalker_11 : decode cX7_tellTalker 11 = .ok (.iload_n 1, 1) := by decide +kernel
theorem dX7_tellTalker_12 : decode cX7_tellTalker 12 = .ok (.invokevirtual 232, 3) := by decide +kernel
theorem dX7_tellTalker_15 : decode cX7_tellTalker 15 = .ok (.iadd, 1) := by decide +kernel
theorem dX7_tellTalker_16 : decode cX7_tellTalker 16 = .ok (.ireturn, 1) := by decide +kernel
theorem dX8_init_0 : decode cX8_init 0 = .ok (.aload_n 0, 1) := by decide +kernel
theorem dX8_init_1 : decode cX8_init 1 = .ok (.invokespecial 1, 3) := by decide +kernel
theorem dX8_init_4 : decode cX8_init 4 = .ok (.aload_n 0, 1) := by decide +kernel
theorem dX8_init_5 : decode cX8_init 5 = .ok (.iconst 4, 1) := by decide +kernel
theorem dX8_init_6 : decode cX8_init 6 = .ok (.newarray .int, 2) := by decide +kernel
theorem dX8_init_8 : decode cX8_init 8 = .ok (.dup, 1) := by decide +kernel
theorem dX8_init_9 : decode cX8_init 9 = .ok (.iconst 0, 1) := by decide +kernel
theorem dX8_init_10 : decode cX8_init 10 = .ok (.bipush (-9), 2) := by decide +kernel
theorem dX8_init_12 : decode cX8_init 12 = .ok (.iastore, 1) := by decide +kernel
theorem dX8_init_13 : decode cX8_init 13 = .ok (.dup, 1) := by decide +kernel
theorem dX8_init_14 : decode cX8_init 14 = .ok (.iconst 1, 1) := by decide +kernel
theorem dX8_init_15 : decode cX8_init 15 = .ok (.bipush (-9), 2) := by decide +kernel
theorem dX8_init_17 : decode cX8_init 17 = .ok (.iastore, 1) := by decide +kernel
theorem dX8_init_18 : decode cX8_init 18 = .ok (.dup, 1) := by decide +kernel
theorem dX8_init_19 : decode cX8_init 19 = .ok (.iconst 2, 1) := by decide +kernel
theorem dX8_init_20 : decode cX8_init 20 = .ok (.bipush (-9), 2) := by decide +kernel
theorem dX8_init_22 : decode cX8_init 22 = .ok (.iastore, 1) := by decide +kernel
theorem dX8_init_23 : decode cX8_init 23 = .ok (.dup, 1) := by decide +kernel
theorem dX8_init_24 : decode cX8_init 24 = .ok (.iconst 3, 1) := by decide +kernel
theorem dX8_init_25 : decode cX8_init 25 = .ok (.bipush (-9), 2) := by decide +kernel
theorem dX8_init_27 : decode cX8_init 27 = .ok (.iastore, 1) := by decide +kernel
theorem dX8_init_28 : decode cX8_init 28 = .ok (.putfield 9, 3) := by decide +kernel
theorem dX8_init_31 : decode cX8_init 31 = .ok (.aload_n 0, 1) := by decide +kernel
theorem dX8_init_32 : decode cX8_init 32 = .ok (.iconst 4, 1) := by decide +kernel
theorem dX8_init_33 : decode cX8_init 33 = .ok (.newarray .int, 2) := by decide +kernel
theorem dX8_init_35 : decode cX8_init 35 = .ok (.putfield 13, 3) := by decide +kernel
theorem dX8_init_38 : decode cX8_init 38 = .ok (.aload_n 0, 1) := by decide +kernel
theorem dX8_init_39 : decode cX8_init 39 = .ok (.sipush 200, 3) := by decide +kernel
theorem dX8_init_42 : decode cX8_init 42 = .ok (.newarray .int, 2) := by decide +kernel
theorem dX8_init_44 : decode cX8_init 44 = .ok (.putfield 16, 3) := by decide +kernel
theorem dX8_init_47 : decode cX8_init 47 = .ok (.aload_n 0, 1) := by decide +kernel
theorem dX8_init_48 : decode cX8_init 48 = .ok (.bipush 7, 2) := by decide +kernel
theorem dX8_init_50 : decode cX8_init 50 = .ok (.newarray .int, 2) := by decide +kernel
theorem dX8_init_52 : decode cX8_init 52 = .ok (.putfield 19, 3) := by decide +kernel
theorem dX8_init_55 : decode cX8_init 55 = .ok (.aload_n 0, 1) := by decide +kernel
theorem dX8_init_56 : decode cX8_init 56 = .ok (.bipush 7, 2) := by decide +kernel
theorem dX8_init_58 : decode cX8_init 58 = .ok (.newarray .int, 2) := by decide +kernel
theorem dX8_init_60 : decode cX8_init 60 = .ok (.putfield 22, 3) := by decide +kernel
theorem dX8_init_63 : decode cX8_init 63 = .ok (.aload_n 0, 1) := by decide +kernel
theorem dX8_init_64 : decode cX8_init 64 = .ok (.bipush 7, 2) := by decide +kernel
theorem dX8_init_66 : decode cX8_init 66 = .ok (.newarray .int, 2) := by decide +kernel
theorem dX8_init_68 : decode cX8_init 68 = .ok (.putfield 25, 3) := by decide +kernel
theorem dX8_init_71 : decode cX8_init 71 = .ok (.aload_n 0, 1) := by decide +kernel
theorem dX8_init_72 : decode cX8_init 72 = .ok (.bipush 7, 2) := by decide +kernel
theorem dX8_init_74 : decode cX8_init 74 = .ok (.newarray .int, 2) := by decide +kernel
theorem dX8_init_76 : decode cX8_init 76 = .ok (.putfield 28, 3) := by decide +kernel
theorem dX8_init_79 : decode cX8_init 79 = .ok (.aload_n 0, 1) := by decide +kernel
theorem dX8_init_80 : decode cX8_init 80 = .ok (.bipush 7, 2) := by decide +kernel
theorem dX8_init_82 : decode cX8_init 82 = .ok (.newarray .int, 2) := by decide +kernel
theorem dX8_init_84 : decode cX8_init 84 = .ok (.putfield 31, 3) := by decide +kernel
theorem dX8_init_87 : decode cX8_init 87 = .ok (.aload_n 0, 1) := by decide +kernel
theorem dX8_init_88 : decode cX8_init 88 = .ok (.bipush 7, 2) := by decide +kernel
theorem dX8_init_90 : decode cX8_init 90 = .ok (.newarray .int, 2) := by decide +kernel
theorem dX8_init_92 : decode cX8_init 92 = .ok (.putfield 34, 3) := by decide +kernel
theorem dX8_init_95 : decode cX8_init 95 = .ok (.aload_n 0, 1) := by decide +kernel
theorem dX8_init_96 : decode cX8_init 96 = .ok (.bipush 7, 2) := by decide +kernel
theorem dX8_init_98 : decode cX8_init 98 = .ok (.newarray .int, 2) := by decide +kernel
theorem dX8_init_100 : decode cX8_init 100 = .ok (.putfield 37, 3) := by decide +kernel
theorem dX8_init_103 : decode cX8_init 103 = .ok (.aload_n 0, 1) := by decide +kernel
theorem dX8_init_104 : decode cX8_init 104 = .ok (.bipush 7, 2) := by decide +kernel
theorem dX8_init_106 : decode cX8_init 106 = .ok (.newarray .int, 2) := by decide +kernel
theorem dX8_init_108 : decode cX8_init 108 = .ok (.putfield 40, 3) := by decide +kernel
theorem dX8_init_111 : decode cX8_init 111 = .ok (.aload_n 0, 1) := by decide +kernel
theorem dX8_init_112 : decode cX8_init 112 = .ok (.bipush 7, 2) := by decide +kernel
theorem dX8_init_114 : decode cX8_init 114 = .ok (.newarray .int, 2) := by decide +kernel
theorem dX8_init_116 : decode cX8_init 116 = .ok (.putfield 43, 3) := by decide +kernel
theorem dX8_init_119 : decode cX8_init 119 = .ok (.aload_n 0, 1) := by decide +kernel
theorem dX8_init_120 : decode cX8_init 120 = .ok (.bipush 7, 2) := by decide +kernel
theorem dX8_init_122 : decode cX8_init 122 = .ok (.newarray .int, 2) := by decide +kernel
theorem dX8_init_124 : decode cX8_init 124 = .ok (.putfield 46, 3) := by decide +kernel
theorem dX8_init_127 : decode cX8_init 127 = .ok (.aload_n 0, 1) := by decide +kernel
theorem dX8_init_128 : decode cX8_init 128 = .ok (.sipush 16384, 3) := by decide +kernel
theorem dX8_init_131 : decode cX8_init 131 = .ok (.newarray .int, 2) := by decide +kernel
theorem dX8_init_133 : decode cX8_init 133 = .ok (.putfield 49, 3) := by decide +kernel
theorem dX8_init_136 : decode cX8_init 136 = .ok (.aload_n 0, 1) := by decide +kernel
theorem dX8_init_137 : decode cX8_init 137 = .ok (.sipush 16384, 3) := by decide +kernel
theorem dX8_init_140 : decode cX8_init 140 = .ok (.newarray .int, 2) := by decide +kernel
theorem dX8_init_142 : decode cX8_init 142 = .ok (.putfield 52, 3) := by decide +kernel
theorem dX8_init_145 : decode cX8_init 145 = .ok (.aload_n 0, 1) := by decide +kernel
theorem dX8_init_146 : decode cX8_init 146 = .ok (.bipush 7, 2) := by decide +kernel
theorem dX8_init_148 : decode cX8_init 148 = .ok (.newarray .int, 2) := by decide +kernel
theorem dX8_init_150 : decode cX8_init 150 = .ok (.putfield 55, 3) := by decide +kernel
theorem dX8_init_153 : decode cX8_init 153 = .ok (.aload_n 0, 1) := by decide +kernel
theorem dX8_init_154 : decode cX8_init 154 = .ok (.sipush 128, 3) := by decide +kernel
theorem dX8_init_157 : decode cX8_init 157 = .ok (.newarray .int, 2) := by decide +kernel
theorem dX8_init_159 : decode cX8_init 159 = .ok (.putfield 58, 3) := by decide +kernel
theorem dX8_init_162 : decode cX8_init 162 = .ok (.aload_n 0, 1) := by decide +kernel
theorem dX8_init_163 : decode cX8_init 163 = .ok (.sipush 128, 3) := by decide +kernel
theorem dX8_init_166 : decode cX8_init 166 = .ok (.newarray .int, 2) := by decide +kernel
theorem dX8_init_168 : decode cX8_init 168 = .ok (.putfield 61, 3) := by decide +kernel
theorem dX8_init_171 : decode cX8_init 171 = .ok (.aload_n 0, 1) := by decide +kernel
theorem dX8_init_172 : decode cX8_init 172 = .ok (.bipush 8, 2) := by decide +kernel
theorem dX8_init_174 : decode cX8_init 174 = .ok (.newarray .int, 2) := by decide +kernel
theorem dX8_init_176 : decode cX8_init 176 = .ok (.putfield 64, 3) := by decide +kernel
theorem dX8_init_179 : decode cX8_init 179 = .ok (.aload_n 0, 1) := by decide +kernel
theorem dX8_init_180 : decode cX8_init 180 = .ok (.bipush 8, 2) := by decide +kernel
theorem dX8_init_182 : decode cX8_init 182 = .ok (.newarray .int, 2) := by decide +kernel
theorem dX8_init_184 : decode cX8_init 184 = .ok (.putfield 67, 3) := by decide +kernel
theorem dX8_init_187 : decode cX8_init 187 = .ok (.aload_n 0, 1) := by decide +kernel
theorem dX8_init_188 : decode cX8_init 188 = .ok (.bipush 8, 2) := by decide +kernel
theorem dX8_init_190 : decode cX8_init 190 = .ok (.newarray .int, 2) := by decide +kernel
theorem dX8_init_192 : decode cX8_init 192 = .ok (.putfield 70, 3) := by decide +kernel
theorem dX8_init_195 : decode cX8_init 195 = .ok (.aload_n 0, 1) := by decide +kernel
theorem dX8_init_196 : decode cX8_init 196 = .ok (.bipush 8, 2) := by decide +kernel
theorem dX8_init_198 : decode cX8_init 198 = .ok (.newarray .int, 2) := by decide +kernel
theorem dX8_init_200 : decode cX8_init 200 = .ok (.putfield 73, 3) := by decide +kernel
theorem dX8_init_203 : decode cX8_init 203 = .ok (.return_, 1) := by decide +kernel
theorem dX8_fails_0 : decode cX8_fails 0 = .ok (.aload_n 0, 1) := by decide +kernel
theorem dX8_fails_1 : decode cX8_fails 1 = .ok (.iload_n 1, 1) := by decide +kernel
theorem dX8_fails_2 : decode cX8_fails 2 = .ok (.putfield 76, 3) := by decide +kernel
theorem dX8_fails_5 : decode cX8_fails 5 = .ok (.bipush (-10), 2) := by decide +kernel
theorem dX8_fails_7 : decode cX8_fails 7 = .ok (.iload_n 1, 1) := by decide +kernel
theorem dX8_fails_8 : decode cX8_fails 8 = .ok (.isub, 1) := by decide +kernel
theorem dX8_fails_9 : decode cX8_fails 9 = .ok (.ireturn, 1) := by decide +kernel
theorem dX8_lost_0 : decode cX8_lost 0 = .ok (.aload_n 0, 1) := by decide +kernel
theorem dX8_lost_1 : decode cX8_lost 1 = .ok (.iload_n 1, 1) := by decide +kernel
theorem dX8_lost_2 : decode cX8_lost 2 = .ok (.putfield 76, 3) := by decide +kernel
theorem dX8_lost_5 : decode cX8_lost 5 = .ok (.ldc2_w 80, 3) := by decide +kernel
theorem dX8_lost_8 : decode cX8_lost 8 = .ok (.lreturn, 1) := by decide +kernel
theorem dX8_within_0 : decode cX8_within 0 = .ok (.iload_n 0, 1) := by decide +kernel
theorem dX8_within_1 : decode cX8_within 1 = .ok (.iload_n 1, 1) := by decide +kernel
theorem dX8_within_2 : decode cX8_within 2 = .ok (.if_icmp .lt 12, 3) := by decide +kernel
theorem dX8_within_5 : decode cX8_within 5 = .ok (.iload_n 0, 1) := by decide +kernel
theorem dX8_within_6 : decode cX8_within 6 = .ok (.iload_n 2, 1) := by decide +kernel
theorem dX8_within_7 : decode cX8_within 7 = .ok (.if_icmp .gt 7, 3) := by decide +kernel
theorem dX8_within_10 : decode cX8_within 10 = .ok (.iconst 1, 1) := by decide +kernel
theorem dX8_within_11 : decode cX8_within 11 = .ok (.goto 4, 3) := by decide +kernel
theorem dX8_within_14 : decode cX8_within 14 = .ok (.iconst 0, 1) := by decide +kernel
theorem dX8_within_15 : decode cX8_within 15 = .ok (.ireturn, 1) := by decide +kernel
theorem dX8_isSheet_0 : decode cX8_isSheet 0 = .ok (.iload_n 0, 1) := by decide +kernel
theorem dX8_isSheet_1 : decode cX8_isSheet 1 = .ok (.iconst 0, 1) := by decide +kernel
theorem dX8_isSheet_2 : decode cX8_isSheet 2 = .ok (.iconst 3, 1) := by decide +kernel
theorem dX8_isSheet_3 : decode cX8_isSheet 3 = .ok (.invokestatic 82, 3) := by decide +kernel
theorem dX8_isSheet_6 : decode cX8_isSheet 6 = .ok (.ireturn, 1) := by decide +kernel
theorem dX8_isSort_0 : decode cX8_isSort 0 = .ok (.iload_n 0, 1) := by decide +kernel
theorem dX8_isSort_1 : decode cX8_isSort 1 = .ok (.iconst 0, 1) := by decide +kernel
theorem dX8_isSort_2 : decode cX8_isSort 2 = .ok (.iconst 2, 1) := by decide +kernel
theorem dX8_isSort_3 : decode cX8_isSort 3 = .ok (.invokestatic 82, 3) := by decide +kernel
theorem dX8_isSort_6 : decode cX8_isSort 6 = .ok (.ireturn, 1) := by decide +kernel
theorem dX8_against_0 : decode cX8_against 0 = .ok (.aload_n 0, 1) := by decide +kernel
theorem dX8_against_1 : decode cX8_against 1 = .ok (.getfield 9, 3) := by decide +kernel
theorem dX8_against_4 : decode cX8_against 4 = .ok (.iload_n 1, 1) := by decide +kernel
theorem dX8_against_5 : decode cX8_against 5 = .ok (.iaload, 1) := by decide +kernel
theorem dX8_against_6 : decode cX8_against 6 = .ok (.bipush (-9), 2) := by decide +kernel
theorem dX8_against_8 : decode cX8_against 8 = .ok (.if_icmp .eq 15, 3) := by decide +kernel
theorem dX8_against_11 : decode cX8_against 11 = .ok (.aload_n 0, 1) := by decide +kernel
theorem dX8_against_12 : decode cX8_against 12 = .ok (.getfield 9, 3) := by decide +kernel
theorem dX8_against_15 : decode cX8_against 15 = .ok (.iload_n 1, 1) := by decide +kernel
theorem dX8_against_16 : decode cX8_against 16 = .ok (.iaload, 1) := by decide +kernel
theorem dX8_against_17 : decode cX8_against 17 = .ok (.iload_n 2, 1) := by decide +kernel
theorem dX8_against_18 : decode cX8_against 18 = .ok (.if_icmp .eq 5, 3) := by decide +kernel
theorem dX8_against_21 : decode cX8_against 21 = .ok (.iconst 2, 1) := by decide +kernel
theorem dX8_against_22 : decode cX8_against 22 = .ok (.ireturn, 1) := by decide +kernel
theorem dX8_against_23 : decode cX8_against 23 = .ok (.aload_n 0, 1) := by decide +kernel
theorem dX8_against_24 : decode cX8_against 24 = .ok (.getfield 9, 3) := by decide +kernel
theorem dX8_against_27 : decode cX8_against 27 = .ok (.iload_n 1, 1) := by decide +kernel
theorem dX8_against_28 : decode cX8_against 28 = .ok (.iaload, 1) := by decide +kernel
theorem dX8_against_29 : decode cX8_against 29 = .ok (.bipush (-9), 2) := by decide +kernel
theorem dX8_against_31 : decode cX8_against 31 = .ok (.if_icmp .ne 5, 3) := by decide +kernel
theorem dX8_against_34 : decode cX8_against 34 = .ok (.iconst 1, 1) := by decide +kernel
theorem dX8_against_35 : decode cX8_against 35 = .ok (.ireturn, 1) := by decide +kernel
theorem dX8_against_36 : decode cX8_against 36 = .ok (.iload 4, 2) := by decide +kernel
theorem dX8_against_38 : decode cX8_against 38 = .ok (.ifCond .ge 5, 3) := by decide +kernel
theorem dX8_against_41 : decode cX8_against 41 = .ok (.iconst 4, 1) := by decide +kernel
theorem dX8_against_42 : decode cX8_against 42 = .ok (.ireturn, 1) := by decide +kernel
theorem dX8_against_43 : decode cX8_against 43 = .ok (.iload_n 3, 1) := by decide +kernel
theorem dX8_against_44 : decode cX8_against 44 = .ok (.ifCond .lt 26, 3) := by decide +kernel
theorem dX8_against_47 : decode cX8_against 47 = .ok (.iload_n 3, 1) := by decide +kernel
theorem dX8_against_48 : decode cX8_against 48 = .ok (.aload_n 0, 1) := by decide +kernel
theorem dX8_against_49 : decode cX8_against 49 = .ok (.getfield 13, 3) := by decide +kernel
theorem dX8_against_52 : decode cX8_against 52 = .ok (.iload_n 1, 1) := by decide +kernel
theorem dX8_against_53 : decode cX8_against 53 = .ok (.iaload, 1) := by decide +kernel
theorem dX8_against_54 : decode cX8_against 54 = .ok (.if_icmp .gt 16, 3) := by decide +kernel
theorem dX8_against_57 : decode cX8_against 57 = .ok (.iload 4, 2) := by decide +kernel
theorem dX8_against_59 : decode cX8_against 59 = .ok (.aload_n 0, 1) := by decide +kernel
theorem dX8_against_60 : decode cX8_against 60 = .ok (.getfield 13, 3) := by decide +kernel
theorem dX8_against_63 : decode cX8_against 63 = .ok (.iload_n 1, 1) := by decide +kernel
theorem dX8_against_64 : decode cX8_against 64 = .ok (.iaload, 1) := by decide +kernel
theorem dX8_against_65 : decode cX8_against 65 = .ok (.iload_n 3, 1) := by decide +kernel
theorem dX8_against_66 : decode cX8_against 66 = .ok (.isub, 1) := by decide +kernel
theorem dX8_against_67 : decode cX8_against 67 = .ok (.if_icmp .le 7, 3) := by decide +kernel
theorem dX8_against_70 : decode cX8_against 70 = .ok (.iconst 3, 1) := by decide +kernel
theorem dX8_against_71 : decode cX8_against 71 = .ok (.goto 4, 3) := by decide +kernel
theorem dX8_against_74 : decode cX8_against 74 = .ok (.iconst 0, 1) := by decide +kernel
theorem dX8_against_75 : decode cX8_against 75 = .ok (.ireturn, 1) := by decide +kernel
theorem dX8_isPerson_0 : decode cX8_isPerson 0 = .ok (.iload_n 1, 1) := by decide +kernel
theorem dX8_isPerson_1 : decode cX8_isPerson 1 = .ok (.ifCond .lt 15, 3) := by decide +kernel
theorem dX8_isPerson_4 : decode cX8_isPerson 4 = .ok (.iload_n 1, 1) := by decide +kernel
theorem dX8_isPerson_5 : decode cX8_isPerson 5 = .ok (.aload_n 0, 1) := by decide +kernel
theorem dX8_isPerson_6 : decode cX8_isPerson 6 = .ok (.getfield 86, 3) := by decide +kernel
theorem dX8_isPerson_9 : decode cX8_isPerson 9 = .ok (.if_icmp .ge 7, 3) := by decide +kernel
theorem dX8_isPerson_12 : decode cX8_isPerson 12 = .ok (.iconst 1, 1) := by decide +kernel
theorem dX8_isPerson_13 : decode cX8_isPerson 13 = .ok (.goto 4, 3) := by decide +kernel
theorem dX8_isPerson_16 : decode cX8_isPerson 16 = .ok (.iconst 0, 1) := by decide +kernel
theorem dX8_isPerson_17 : decode cX8_isPerson 17 = .ok (.ireturn, 1) := by decide +kernel
theorem dX8_edges_0 : decode cX8_edges 0 = .ok (.aload_n 0, 1) := by decide +kernel
theorem dX8_edges_1 : decode cX8_edges 1 = .ok (.getfield 89, 3) := by decide +kernel
theorem dX8_edges_4 : decode cX8_edges 4 = .ok (.ifCond .eq 10, 3) := by decide +kernel
theorem dX8_edges_7 : decode cX8_edges 7 = .ok (.aload_n 0, 1) := by decide +kernel
theorem dX8_edges_8 : decode cX8_edges 8 = .ok (.getfield 86, 3) := by decide +kernel
theorem dX8_edges_11 : decode cX8_edges 11 = .ok (.goto 20, 3) := by decide +kernel
theorem dX8_edges_14 : decode cX8_edges 14 = .ok (.aload_n 0, 1) := by decide +kernel
theorem dX8_edges_15 : decode cX8_edges 15 = .ok (.getfield 86, 3) := by decide +kernel
theorem dX8_edges_18 : decode cX8_edges 18 = .ok (.ifCond .ne 7, 3) := by decide +kernel
theorem dX8_edges_21 : decode cX8_edges 21 = .ok (.iconst 0, 1) := by decide +kernel
theorem dX8_edges_22 : decode cX8_edges 22 = .ok (.goto 9, 3) := by decide +kernel
theorem dX8_edges_25 : decode cX8_edges 25 = .ok (.aload_n 0, 1) := by decide +kernel
theorem dX8_edges_26 : decode cX8_edges 26 = .ok (.getfield 86, 3) := by decide +kernel
theorem dX8_edges_29 : decode cX8_edges 29 = .ok (.iconst 1, 1) := by decide +kernel
theorem dX8_edges_30 : decode cX8_edges 30 = .ok (.isub, 1) := by decide +kernel
theorem dX8_edges_31 : decode cX8_edges 31 = .ok (.ireturn, 1) := by decide +kernel
theorem dX8_isEdge_0 : decode cX8_isEdge 0 = .ok (.iload_n 1, 1) := by decide +kernel
theorem dX8_isEdge_1 : decode cX8_isEdge 1 = .ok (.ifCond .lt 15, 3) := by decide +kernel
theorem dX8_isEdge_4 : decode cX8_isEdge 4 = .ok (.iload_n 1, 1) := by decide +kernel
theorem dX8_isEdge_5 : decode cX8_isEdge 5 = .ok (.aload_n 0, 1) := by decide +kernel
theorem dX8_isEdge_6 : decode cX8_isEdge 6 = .ok (.invokevirtual 93, 3) := by decide +kernel
theorem dX8_isEdge_9 : decode cX8_isEdge 9 = .ok (.if_icmp .ge 7, 3) := by decide +kernel
theorem dX8_isEdge_12 : decode cX8_isEdge 12 = .ok (.iconst 1, 1) := by decide +kernel
theorem dX8_isEdge_13 : decode cX8_isEdge 13 = .ok (.goto 4, 3) := by decide +kernel
theorem dX8_isEdge_16 : decode cX8_isEdge 16 = .ok (.iconst 0, 1) := by decide +kernel
theorem dX8_isEdge_17 : decode cX8_isEdge 17 = .ok (.ireturn, 1) := by decide +kernel
theorem dX8_farEnd_0 : decode cX8_farEnd 0 = .ok (.iload_n 1, 1) := by decide +kernel
theorem dX8_farEnd_1 : decode cX8_farEnd 1 = .ok (.iconst 1, 1) := by decide +kernel
theorem dX8_farEnd_2 : decode cX8_farEnd 2 = .ok (.iadd, 1) := by decide +kernel
theorem dX8_farEnd_3 : decode cX8_farEnd 3 = .ok (.aload_n 0, 1) := by decide +kernel
theorem dX8_farEnd_4 : decode cX8_farEnd 4 = .ok (.getfield 86, 3) := by decide +kernel
theorem dX8_farEnd_7 : decode cX8_farEnd 7 = .ok (.if_icmp .ne 7, 3) := by decide +kernel
theorem dX8_farEnd_10 : decode cX8_farEnd 10 = .ok (.iconst 0, 1) := by decide +kernel
theorem dX8_farEnd_11 : decode cX8_farEnd 11 = .ok (.goto 6, 3) := by decide +kernel
theorem dX8_farEnd_14 : decode cX8_farEnd 14 = .ok (.iload_n 1, 1) := by decide +kernel
theorem dX8_farEnd_15 : decode cX8_farEnd 15 = .ok (.iconst 1, 1) := by decide +kernel
theorem dX8_farEnd_16 : decode cX8_farEnd 16 = .ok (.iadd, 1) := by decide +kernel
theorem dX8_farEnd_17 : decode cX8_farEnd 17 = .ok (.ireturn, 1) := by decide +kernel
theorem dX8_isOpen_0 : decode cX8_isOpen 0 = .ok (.aload_n 0, 1) := by decide +kernel
theorem dX8_isOpen_1 : decode cX8_isOpen 1 = .ok (.getfield 97, 3) := by decide +kernel
theorem dX8_isOpen_4 : decode cX8_isOpen 4 = .ok (.iload_n 1, 1) := by decide +kernel
theorem dX8_isOpen_5 : decode cX8_isOpen 5 = .ok (.ishr, 1) := by decide +kernel
theorem dX8_isOpen_6 : decode cX8_isOpen 6 = .ok (.iconst 1, 1) := by decide +kernel
theorem dX8_isOpen_7 : decode cX8_isOpen 7 = .ok (.iand, 1) := by decide +kernel
theorem dX8_isOpen_8 : decode cX8_isOpen 8 = .ok (.ifCond .ne 7, 3) := by decide +kernel
theorem dX8_isOpen_11 : decode cX8_isOpen 11 = .ok (.iconst 1, 1) := by decide +kernel
theorem dX8_isOpen_12 : decode cX8_isOpen 12 = .ok (.goto 4, 3) := by decide +kernel
theorem dX8_isOpen_15 : decode cX8_isOpen 15 = .ok (.iconst 0, 1) := by decide +kernel
theorem dX8_isOpen_16 : decode cX8_isOpen 16 = .ok (.ireturn, 1) := by decide +kernel
theorem dX8_digit_0 : decode cX8_digit 0 = .ok (.aload_n 0, 1) := by decide +kernel
theorem dX8_digit_1 : decode cX8_digit 1 = .ok (.getfield 100, 3) := by decide +kernel
theorem dX8_digit_4 : decode cX8_digit 4 = .ok (.iload_n 1, 1) := by decide +kernel
theorem dX8_digit_5 : decode cX8_digit 5 = .ok (.if_icmp .ge 26, 3) := by decide +kernel
theorem dX8_digit_8 : decode cX8_digit 8 = .ok (.aload_n 0, 1) := by decide +kernel
theorem dX8_digit_9 : decode cX8_digit 9 = .ok (.getfield 16, 3) := by decide +kernel
theorem dX8_digit_12 : decode cX8_digit 12 = .ok (.aload_n 0, 1) := by decide +kernel
theorem dX8_digit_13 : decode cX8_digit 13 = .ok (.getfield 100, 3) := by decide +kernel
theorem dX8_digit_16 : decode cX8_digit 16 = .ok (.iaload, 1) := by decide +kernel
theorem dX8_digit_17 : decode cX8_digit 17 = .ok (.bipush 48, 2) := by decide +kernel
theorem dX8_digit_19 : decode cX8_digit 19 = .ok (.iload_n 2, 1) := by decide +kernel
theorem dX8_digit_20 : decode cX8_digit 20 = .ok (.iadd, 1) := by decide +kernel
theorem dX8_digit_21 : decode cX8_digit 21 = .ok (.bipush 48, 2) := by decide +kernel
theorem dX8_digit_23 : decode cX8_digit 23 = .ok (.iload_n 3, 1) := by decide +kernel
theorem dX8_digit_24 : decode cX8_digit 24 = .ok (.iadd, 1) := by decide +kernel
theorem dX8_digit_25 : decode cX8_digit 25 = .ok (.invokestatic 82, 3) := by decide +kernel
theorem dX8_digit_28 : decode cX8_digit 28 = .ok (.ifCond .ne 6, 3) := by decide +kernel
theorem dX8_digit_31 : decode cX8_digit 31 = .ok (.bipush (-9), 2) := by decide +kernel
theorem dX8_digit_33 : decode cX8_digit 33 = .ok (.ireturn, 1) := by decide +kernel
theorem dX8_digit_34 : decode cX8_digit 34 = .ok (.aload_n 0, 1) := by decide +kernel
theorem dX8_digit_35 : decode cX8_digit 35 = .ok (.dup, 1) := by decide +kernel
theorem dX8_digit_36 : decode cX8_digit 36 = .ok (.getfield 100, 3) := by decide +kernel
theorem dX8_digit_39 : decode cX8_digit 39 = .ok (.iconst 1, 1) := by decide +kernel
theorem dX8_digit_40 : decode cX8_digit 40 = .ok (.iadd, 1) := by decide +kernel
theorem dX8_digit_41 : decode cX8_digit 41 = .ok (.putfield 100, 3) := by decide +kernel
theorem dX8_digit_44 : decode cX8_digit 44 = .ok (.aload_n 0, 1) := by decide +kernel
theorem dX8_digit_45 : decode cX8_digit 45 = .ok (.getfield 16, 3) := by decide +kernel
theorem dX8_digit_48 : decode cX8_digit 48 = .ok (.aload_n 0, 1) := by decide +kernel
theorem dX8_digit_49 : decode cX8_digit 49 = .ok (.getfield 100, 3) := by decide +kernel
theorem dX8_digit_52 : decode cX8_digit 52 = .ok (.iconst 1, 1) := by decide +kernel
theorem dX8_digit_53 : decode cX8_digit 53 = .ok (.isub, 1) := by decide +kernel
theorem dX8_digit_54 : decode cX8_digit 54 = .ok (.iaload, 1) := by decide +kernel
theorem dX8_digit_55 : decode cX8_digit 55 = .ok (.bipush 48, 2) := by decide +kernel
theorem dX8_digit_57 : decode cX8_digit 57 = .ok (.isub, 1) := by decide +kernel
theorem dX8_digit_58 : decode cX8_digit 58 = .ok (.ireturn, 1) := by decide +kernel
theorem dX8_wire_0 : decode cX8_wire 0 = .ok (.aload_n 0, 1) := by decide +kernel
theorem dX8_wire_1 : decode cX8_wire 1 = .ok (.iconst 0, 1) := by decide +kernel
theorem dX8_wire_2 : decode cX8_wire 2 = .ok (.putfield 76, 3) := by decide +kernel
theorem dX8_wire_5 : decode cX8_wire 5 = .ok (.iload_n 1, 1) := by decide +kernel
theorem dX8_wire_6 : decode cX8_wire 6 = .ok (.invokestatic 103, 3) := by decide +kernel
theorem dX8_wire_9 : decode cX8_wire 9 = .ok (.ifCond .ne 5, 3) := by decide +kernel
theorem dX8_wire_12 : decode cX8_wire 12 = .ok (.iconst (-1), 1) := by decide +kernel
theorem dX8_wire_13 : decode cX8_wire 13 = .ok (.ireturn, 1) := by decide +kernel
theorem dX8_wire_14 : decode cX8_wire 14 = .ok (.iload_n 2, 1) := by decide +kernel
theorem dX8_wire_15 : decode cX8_wire 15 = .ok (.invokestatic 107, 3) := by decide +kernel
theorem dX8_wire_18 : decode cX8_wire 18 = .ok (.ifCond .ne 6, 3) := by decide +kernel
theorem dX8_wire_21 : decode cX8_wire 21 = .ok (.bipush (-2), 2) := by decide +kernel
theorem dX8_wire_23 : decode cX8_wire 23 = .ok (.ireturn, 1) := by decide +kernel
theorem dX8_wire_24 : decode cX8_wire 24 = .ok (.aload_n 0, 1) := by decide +kernel
theorem dX8_wire_25 : decode cX8_wire 25 = .ok (.iload_n 1, 1) := by decide +kernel
theorem dX8_wire_26 : decode cX8_wire 26 = .ok (.iload_n 2, 1) := by decide +kernel
theorem dX8_wire_27 : decode cX8_wire 27 = .ok (.iload_n 3, 1) := by decide +kernel
theorem dX8_wire_28 : decode cX8_wire 28 = .ok (.iload 4, 2) := by decide +kernel
theorem dX8_wire_30 : decode cX8_wire 30 = .ok (.invokevirtual 110, 3) := by decide +kernel
theorem dX8_wire_33 : decode cX8_wire 33 = .ok (.istore 5, 2) := by decide +kernel
theorem dX8_wire_35 : decode cX8_wire 35 = .ok (.iload 5, 2) := by decide +kernel
theorem dX8_wire_37 : decode cX8_wire 37 = .ok (.ifCond .eq 10, 3) := by decide +kernel
theorem dX8_wire_40 : decode cX8_wire 40 = .ok (.aload_n 0, 1) := by decide +kernel
theorem dX8_wire_41 : decode cX8_wire 41 = .ok (.iload 5, 2) := by decide +kernel
theorem dX8_wire_43 : decode cX8_wire 43 = .ok (.invokevirtual 114, 3) := by decide +kernel
theorem dX8_wire_46 : decode cX8_wire 46 = .ok (.ireturn, 1) := by decide +kernel
theorem dX8_wire_47 : decode cX8_wire 47 = .ok (.bipush 50, 2) := by decide +kernel
theorem dX8_wire_49 : decode cX8_wire 49 = .ok (.iload_n 1, 1) := by decide +kernel
theorem dX8_wire_50 : decode cX8_wire 50 = .ok (.imul, 1) := by decide +kernel
theorem dX8_wire_51 : decode cX8_wire 51 = .ok (.iload_n 3, 1) := by decide +kernel
theorem dX8_wire_52 : decode cX8_wire 52 = .ok (.iadd, 1) := by decide +kernel
theorem dX8_wire_53 : decode cX8_wire 53 = .ok (.istore 6, 2) := by decide +kernel
theorem dX8_wire_55 : decode cX8_wire 55 = .ok (.aload_n 0, 1) := by decide +kernel
theorem dX8_wire_56 : decode cX8_wire 56 = .ok (.iload 6, 2) := by decide +kernel
theorem dX8_wire_58 : decode cX8_wire 58 = .ok (.putfield 100, 3) := by decide +kernel
theorem dX8_wire_61 : decode cX8_wire 61 = .ok (.aload_n 0, 1) := by decide +kernel
theorem dX8_wire_62 : decode cX8_wire 62 = .ok (.iload 6, 2) := by decide +kernel
theorem dX8_wire_64 : decode cX8_wire 64 = .ok (.iload 4, 2) := by decide +kernel
theorem dX8_wire_66 : decode cX8_wire 66 = .ok (.iadd, 1) := by decide +kernel
theorem dX8_wire_67 : decode cX8_wire 67 = .ok (.invokevirtual 118, 3) := by decide +kernel
theorem dX8_wire_70 : decode cX8_wire 70 = .ok (.ifCond .ne 14, 3) := by decide +kernel
theorem dX8_wire_73 : decode cX8_wire 73 = .ok (.bipush (-100), 2) := by decide +kernel
theorem dX8_wire_75 : decode cX8_wire 75 = .ok (.aload_n 0, 1) := by decide +kernel
theorem dX8_wire_76 : decode cX8_wire 76 = .ok (.getfield 100, 3) := by decide +kernel
theorem dX8_wire_79 : decode cX8_wire 79 = .ok (.iload 6, 2) := by decide +kernel
theorem dX8_wire_81 : decode cX8_wire 81 = .ok (.isub, 1) := by decide +kernel
theorem dX8_wire_82 : decode cX8_wire 82 = .ok (.isub, 1) := by decide +kernel
theorem dX8_wire_83 : decode cX8_wire 83 = .ok (.ireturn, 1) := by decide +kernel
theorem dX8_wire_84 : decode cX8_wire 84 = .ok (.aload_n 0, 1) := by decide +kernel
theorem dX8_wire_85 : decode cX8_wire 85 = .ok (.aload_n 0, 1) := by decide +kernel
theorem dX8_wire_86 : decode cX8_wire 86 = .ok (.getfield 121, 3) := by decide +kernel
theorem dX8_wire_89 : decode cX8_wire 89 = .ok (.putfield 86, 3) := by decide +kernel
theorem dX8_wire_92 : decode cX8_wire 92 = .ok (.aload_n 0, 1) := by decide +kernel
theorem dX8_wire_93 : decode cX8_wire 93 = .ok (.aload_n 0, 1) := by decide +kernel
theorem dX8_wire_94 : decode cX8_wire 94 = .ok (.getfield 124, 3) := by decide +kernel
theorem dX8_wire_97 : decode cX8_wire 97 = .ok (.iconst 1, 1) := by decide +kernel
theorem dX8_wire_98 : decode cX8_wire 98 = .ok (.if_icmp .ne 7, 3) := by decide +kernel
theorem dX8_wire_101 : decode cX8_wire 101 = .ok (.iconst 1, 1) := by decide +kernel
theorem dX8_wire_102 : decode cX8_wire 102 = .ok (.goto 4, 3) := by decide +kernel
theorem dX8_wire_105 : decode cX8_wire 105 = .ok (.iconst 0, 1) := by decide +kernel
theorem dX8_wire_106 : decode cX8_wire 106 = .ok (.putfield 89, 3) := by decide +kernel
theorem dX8_wire_109 : decode cX8_wire 109 = .ok (.aload_n 0, 1) := by decide +kernel
theorem dX8_wire_110 : decode cX8_wire 110 = .ok (.iconst 0, 1) := by decide +kernel
theorem dX8_wire_111 : decode cX8_wire 111 = .ok (.putfield 97, 3) := by decide +kernel
theorem dX8_wire_114 : decode cX8_wire 114 = .ok (.aload_n 0, 1) := by decide +kernel
theorem dX8_wire_115 : decode cX8_wire 115 = .ok (.iconst 0, 1) := by decide +kernel
theorem dX8_wire_116 : decode cX8_wire 116 = .ok (.putfield 127, 3) := by decide +kernel
theorem dX8_wire_119 : decode cX8_wire 119 = .ok (.iconst 0, 1) := by decide +kernel
theorem dX8_wire_120 : decode cX8_wire 120 = .ok (.istore 7, 2) := by decide +kernel
theorem dX8_wire_122 : decode cX8_wire 122 = .ok (.iload 7, 2) := by decide +kernel
theorem dX8_wire_124 : decode cX8_wire 124 = .ok (.aload_n 0, 1) := by decide +kernel
theorem dX8_wire_125 : decode cX8_wire 125 = .ok (.getfield 86, 3) := by decide +kernel
theorem dX8_wire_128 : decode cX8_wire 128 = .ok (.if_icmp .ge 65, 3) := by decide +kernel
theorem dX8_wire_131 : decode cX8_wire 131 = .ok (.aload_n 0, 1) := by decide +kernel
theorem dX8_wire_132 : decode cX8_wire 132 = .ok (.getfield 19, 3) := by decide +kernel
theorem dX8_wire_135 : decode cX8_wire 135 = .ok (.iload 7, 2) := by decide +kernel
theorem dX8_wire_137 : decode cX8_wire 137 = .ok (.aload_n 0, 1) := by decide +kernel
theorem dX8_wire_138 : decode cX8_wire 138 = .ok (.getfield 31, 3) := by decide +kernel
theorem dX8_wire_141 : decode cX8_wire 141 = .ok (.iload 7, 2) := by decide +kernel
theorem dX8_wire_143 : decode cX8_wire 143 = .ok (.iaload, 1) := by decide +kernel
theorem dX8_wire_144 : decode cX8_wire 144 = .ok (.iastore, 1) := by decide +kernel
theorem dX8_wire_145 : decode cX8_wire 145 = .ok (.aload_n 0, 1) := by decide +kernel
theorem dX8_wire_146 : decode cX8_wire 146 = .ok (.getfield 22, 3) := by decide +kernel
theorem dX8_wire_149 : decode cX8_wire 149 = .ok (.iload 7, 2) := by decide +kernel
theorem dX8_wire_151 : decode cX8_wire 151 = .ok (.aload_n 0, 1) := by decide +kernel
theorem dX8_wire_152 : decode cX8_wire 152 = .ok (.getfield 34, 3) := by decide +kernel
theorem dX8_wire_155 : decode cX8_wire 155 = .ok (.iload 7, 2) := by decide +kernel
theorem dX8_wire_157 : decode cX8_wire 157 = .ok (.iaload, 1) := by decide +kernel
theorem dX8_wire_158 : decode cX8_wire 158 = .ok (.iastore, 1) := by decide +kernel
theorem dX8_wire_159 : decode cX8_wire 159 = .ok (.aload_n 0, 1) := by decide +kernel
theorem dX8_wire_160 : decode cX8_wire 160 = .ok (.getfield 25, 3) := by decide +kernel
theorem dX8_wire_163 : decode cX8_wire 163 = .ok (.iload 7, 2) := by decide +kernel
theorem dX8_wire_165 : decode cX8_wire 165 = .ok (.aload_n 0, 1) := by decide +kernel
theorem dX8_wire_166 : decode cX8_wire 166 = .ok (.getfield 37, 3) := by decide +kernel
theorem dX8_wire_169 : decode cX8_wire 169 = .ok (.iload 7, 2) := by decide +kernel
theorem dX8_wire_171 : decode cX8_wire 171 = .ok (.iaload, 1) := by decide +kernel
theorem dX8_wire_172 : decode cX8_wire 172 = .ok (.iastore, 1) := by decide +kernel
theorem dX8_wire_173 : decode cX8_wire 173 = .ok (.aload_n 0, 1) := by decide +kernel
theorem dX8_wire_174 : decode cX8_wire 174 = .ok (.getfield 28, 3) := by decide +kernel
theorem dX8_wire_177 : decode cX8_wire 177 = .ok (.iload 7, 2) := by decide +kernel
theorem dX8_wire_179 : decode cX8_wire 179 = .ok (.aload_n 0, 1) := by decide +kernel
theorem dX8_wire_180 : decode cX8_wire 180 = .ok (.getfield 40, 3) := by decide +kernel
theorem dX8_wire_183 : decode cX8_wire 183 = .ok (.iload 7, 2) := by decide +kernel
theorem dX8_wire_185 : decode cX8_wire 185 = .ok (.iaload, 1) := by decide +kernel
theorem dX8_wire_186 : decode cX8_wire 186 = .ok (.iastore, 1) := by decide +kernel
theorem dX8_wire_187 : decode cX8_wire 187 = .ok (.iinc 7 1, 3) := by decide +kernel
theorem dX8_wire_190 : decode cX8_wire 190 = .ok (.goto (-68), 3) := by decide +kernel
theorem dX8_wire_193 : decode cX8_wire 193 = .ok (.aload_n 0, 1) := by decide +kernel
theorem dX8_wire_194 : decode cX8_wire 194 = .ok (.getfield 86, 3) := by decide +kernel
theorem dX8_wire_197 : decode cX8_wire 197 = .ok (.ireturn, 1) := by decide +kernel
theorem dX8_readWire_0 : decode cX8_readWire 0 = .ok (.aload_n 0, 1) := by decide +kernel
theorem dX8_readWire_1 : decode cX8_readWire 1 = .ok (.getfield 100, 3) := by decide +kernel
theorem dX8_readWire_4 : decode cX8_readWire 4 = .ok (.iload_n 1, 1) := by decide +kernel
theorem dX8_readWire_5 : decode cX8_readWire 5 = .ok (.if_icmp .ge 17, 3) := by decide +kernel
theorem dX8_readWire_8 : decode cX8_readWire 8 = .ok (.aload_n 0, 1) := by decide +kernel
theorem dX8_readWire_9 : decode cX8_readWire 9 = .ok (.getfield 16, 3) := by decide +kernel
theorem dX8_readWire_12 : decode cX8_readWire 12 = .ok (.aload_n 0, 1) := by decide +kernel
theorem dX8_readWire_13 : decode cX8_readWire 13 = .ok (.getfield 100, 3) := by decide +kernel
theorem dX8_readWire_16 : decode cX8_readWire 16 = .ok (.iaload, 1) := by decide +kernel
theorem dX8_readWire_17 : decode cX8_readWire 17 = .ok (.bipush 119, 2) := by decide +kernel
theorem dX8_readWire_19 : decode cX8_readWire 19 = .ok (.if_icmp .eq 5, 3) := by decide +kernel
theorem dX8_readWire_22 : decode cX8_readWire 22 = .ok (.iconst 0, 1) := by decide +kernel
theorem dX8_readWire_23 : decode cX8_readWire 23 = .ok (.ireturn, 1) := by decide +kernel
theorem dX8_readWire_24 : decode cX8_readWire 24 = .ok (.aload_n 0, 1) := by decide +kernel
theorem dX8_readWire_25 : decode cX8_readWire 25 = .ok (.dup, 1) := by decide +kernel
theorem dX8_readWire_26 : decode cX8_readWire 26 = .ok (.getfield 100, 3) := by decide +kernel
theorem dX8_readWire_29 : decode cX8_readWire 29 = .ok (.iconst 1, 1) := by decide +kernel
theorem dX8_readWire_30 : decode cX8_readWire 30 = .ok (.iadd, 1) := by decide +kernel
theorem dX8_readWire_31 : decode cX8_readWire 31 = .ok (.putfield 100, 3) := by decide +kernel
theorem dX8_readWire_34 : decode cX8_readWire 34 = .ok (.aload_n 0, 1) := by decide +kernel
theorem dX8_readWire_35 : decode cX8_readWire 35 = .ok (.aload_n 0, 1) := by decide +kernel
theorem dX8_readWire_36 : decode cX8_readWire 36 = .ok (.iload_n 1, 1) := by decide +kernel
theorem dX8_readWire_37 : decode cX8_readWire 37 = .ok (.iconst 0, 1) := by decide +kernel
theorem dX8_readWire_38 : decode cX8_readWire 38 = .ok (.iconst 1, 1) := by decide +kernel
theorem dX8_readWire_39 : decode cX8_readWire 39 = .ok (.invokevirtual 130, 3) := by decide +kernel
theorem dX8_readWire_42 : decode cX8_readWire 42 = .ok (.putfield 124, 3) := by decide +kernel
theorem dX8_readWire_45 : decode cX8_readWire 45 = .ok (.aload_n 0, 1) := by decide +kernel
theorem dX8_readWire_46 : decode cX8_readWire 46 = .ok (.getfield 124, 3) := by decide +kernel
theorem dX8_readWire_49 : decode cX8_readWire 49 = .ok (.bipush (-9), 2) := by decide +kernel
theorem dX8_readWire_51 : decode cX8_readWire 51 = .ok (.if_icmp .ne 5, 3) := by decide +kernel
theorem dX8_readWire_54 : decode cX8_readWire 54 = .ok (.iconst 0, 1) := by decide +kernel
theorem dX8_readWire_55 : decode cX8_readWire 55 = .ok (.ireturn, 1) := by decide +kernel
theorem dX8_readWire_56 : decode cX8_readWire 56 = .ok (.aload_n 0, 1) := by decide +kernel
theorem dX8_readWire_57 : decode cX8_readWire 57 = .ok (.iconst 0, 1) := by decide +kernel
theorem dX8_readWire_58 : decode cX8_readWire 58 = .ok (.putfield 121, 3) := by decide +kernel
theorem dX8_readWire_61 : decode cX8_readWire 61 = .ok (.aload_n 0, 1) := by decide +kernel
theorem dX8_readWire_62 : decode cX8_readWire 62 = .ok (.getfield 121, 3) := by decide +kernel
theorem dX8_readWire_65 : decode cX8_readWire 65 = .ok (.iconst 2, 1) := by decide +kernel
theorem dX8_readWire_66 : decode cX8_readWire 66 = .ok (.if_icmp .lt 11, 3) := by decide +kernel
theorem dX8_readWire_69 : decode cX8_readWire 69 = .ok (.aload_n 0, 1) := by decide +kernel
theorem dX8_readWire_70 : decode cX8_readWire 70 = .ok (.getfield 100, 3) := by decide +kernel
theorem dX8_readWire_73 : decode cX8_readWire 73 = .ok (.iload_n 1, 1) := by decide +kernel
theorem dX8_readWire_74 : decode cX8_readWire 74 = .ok (.if_icmp .ge 73, 3) := by decide +kernel
theorem dX8_readWire_77 : decode cX8_readWire 77 = .ok (.aload_n 0, 1) := by decide +kernel
theorem dX8_readWire_78 : decode cX8_readWire 78 = .ok (.getfield 121, 3) := by decide +kernel
theorem dX8_readWire_81 : decode cX8_readWire 81 = .ok (.bipush 7, 2) := by decide +kernel
theorem dX8_readWire_83 : decode cX8_readWire 83 = .ok (.if_icmp .eq 25, 3) := by decide +kernel
theorem dX8_readWire_86 : decode cX8_readWire 86 = .ok (.aload_n 0, 1) := by decide +kernel
theorem dX8_readWire_87 : decode cX8_readWire 87 = .ok (.getfield 100, 3) := by decide +kernel
theorem dX8_readWire_90 : decode cX8_readWire 90 = .ok (.iload_n 1, 1) := by decide +kernel
theorem dX8_readWire_91 : decode cX8_readWire 91 = .ok (.if_icmp .ge 17, 3) := by decide +kernel
theorem dX8_readWire_94 : decode cX8_readWire 94 = .ok (.aload_n 0, 1) := by decide +kernel
theorem dX8_readWire_95 : decode cX8_readWire 95 = .ok (.getfield 16, 3) := by decide +kernel
theorem dX8_readWire_98 : decode cX8_readWire 98 = .ok (.aload_n 0, 1) := by decide +kernel
theorem dX8_readWire_99 : decode cX8_readWire 99 = .ok (.getfield 100, 3) := by decide +kernel
theorem dX8_readWire_102 : decode cX8_readWire 102 = .ok (.iaload, 1) := by decide +kernel
theorem dX8_readWire_103 : decode cX8_readWire 103 = .ok (.bipush 59, 2) := by decide +kernel
theorem dX8_readWire_105 : decode cX8_readWire 105 = .ok (.if_icmp .eq 5, 3) := by decide +kernel
theorem dX8_readWire_108 : decode cX8_readWire 108 = .ok (.iconst 0, 1) := by decide +kernel
theorem dX8_readWire_109 : decode cX8_readWire 109 = .ok (.ireturn, 1) := by decide +kernel
theorem dX8_readWire_110 : decode cX8_readWire 110 = .ok (.aload_n 0, 1) := by decide +kernel
theorem dX8_readWire_111 : decode cX8_readWire 111 = .ok (.dup, 1) := by decide +kernel
theorem dX8_readWire_112 : decode cX8_readWire 112 = .ok (.getfield 100, 3) := by decide +kernel
theorem dX8_readWire_115 : decode cX8_readWire 115 = .ok (.iconst 1, 1) := by decide +kernel
theorem dX8_readWire_116 : decode cX8_readWire 116 = .ok (.iadd, 1) := by decide +kernel
theorem dX8_readWire_117 : decode cX8_readWire 117 = .ok (.putfield 100, 3) := by decide +kernel
theorem dX8_readWire_120 : decode cX8_readWire 120 = .ok (.aload_n 0, 1) := by decide +kernel
theorem dX8_readWire_121 : decode cX8_readWire 121 = .ok (.iload_n 1, 1) := by decide +kernel
theorem dX8_readWire_122 : decode cX8_readWire 122 = .ok (.aload_n 0, 1) := by decide +kernel
theorem dX8_readWire_123 : decode cX8_readWire 123 = .ok (.getfield 121, 3) := by decide +kernel
theorem dX8_readWire_126 : decode cX8_readWire 126 = .ok (.invokevirtual 134, 3) := by decide +kernel
theorem dX8_readWire_129 : decode cX8_readWire 129 = .ok (.ifCond .ne 5, 3) := by decide +kernel
theorem dX8_readWire_132 : decode cX8_readWire 132 = .ok (.iconst 0, 1) := by decide +kernel
theorem dX8_readWire_133 : decode cX8_readWire 133 = .ok (.ireturn, 1) := by decide +kernel
theorem dX8_readWire_134 : decode cX8_readWire 134 = .ok (.aload_n 0, 1) := by decide +kernel
theorem dX8_readWire_135 : decode cX8_readWire 135 = .ok (.dup, 1) := by decide +kernel
theorem dX8_readWire_136 : decode cX8_readWire 136 = .ok (.getfield 121, 3) := by decide +kernel
theorem dX8_readWire_139 : decode cX8_readWire 139 = .ok (.iconst 1, 1) := by decide +kernel
theorem dX8_readWire_140 : decode cX8_readWire 140 = .ok (.iadd, 1) := by decide +kernel
theorem dX8_readWire_141 : decode cX8_readWire 141 = .ok (.putfield 121, 3) := by decide +kernel
theorem dX8_readWire_144 : decode cX8_readWire 144 = .ok (.goto (-83), 3) := by decide +kernel
theorem dX8_readWire_147 : decode cX8_readWire 147 = .ok (.iconst 1, 1) := by decide +kernel
theorem dX8_readWire_148 : decode cX8_readWire 148 = .ok (.ireturn, 1) := by decide +kernel
theorem dX8_readPerson_0 : decode cX8_readPerson 0 = .ok (.aload_n 0, 1) := by decide +kernel
theorem dX8_readPerson_1 : decode cX8_readPerson 1 = .ok (.getfield 100, 3) := by decide +kernel
theorem dX8_readPerson_4 : decode cX8_readPerson 4 = .ok (.iload_n 1, 1) := by decide +kernel
theorem dX8_readPerson_5 : decode cX8_readPerson 5 = .ok (.if_icmp .ge 15, 3) := by decide +kernel
theorem dX8_readPerson_8 : decode cX8_readPerson 8 = .ok (.aload_n 0, 1) := by decide +kernel
theorem dX8_readPerson_9 : decode cX8_readPerson 9 = .ok (.getfield 16, 3) := by decide +kernel
theorem dX8_readPerson_12 : decode cX8_readPerson 12 = .ok (.aload_n 0, 1) := by decide +kernel
theorem dX8_readPerson_13 : decode cX8_readPerson 13 = .ok (.getfield 100, 3) := by decide +kernel
theorem dX8_readPerson_16 : decode cX8_readPerson 16 = .ok (.iaload, 1) := by decide +kernel
theorem dX8_readPerson_17 : decode cX8_readPerson 17 = .ok (.goto 4, 3) := by decide +kernel
theorem dX8_readPerson_20 : decode cX8_readPerson 20 = .ok (.iconst 0, 1) := by decide +kernel
theorem dX8_readPerson_21 : decode cX8_readPerson 21 = .ok (.istore_n 3, 1) := by decide +kernel
theorem dX8_readPerson_22 : decode cX8_readPerson 22 = .ok (.aload_n 0, 1) := by decide +kernel
theorem dX8_readPerson_23 : decode cX8_readPerson 23 = .ok (.getfield 31, 3) := by decide +kernel
theorem dX8_readPerson_26 : decode cX8_readPerson 26 = .ok (.iload_n 2, 1) := by decide +kernel
theorem dX8_readPerson_27 : decode cX8_readPerson 27 = .ok (.iload_n 3, 1) := by decide +kernel
theorem dX8_readPerson_28 : decode cX8_readPerson 28 = .ok (.bipush 112, 2) := by decide +kernel
theorem dX8_readPerson_30 : decode cX8_readPerson 30 = .ok (.if_icmp .ne 7, 3) := by decide +kernel
theorem dX8_readPerson_33 : decode cX8_readPerson 33 = .ok (.iconst 0, 1) := by decide +kernel
theorem dX8_readPerson_34 : decode cX8_readPerson 34 = .ok (.goto 25, 3) := by decide +kernel
theorem dX8_readPerson_37 : decode cX8_readPerson 37 = .ok (.iload_n 3, 1) := by decide +kernel
theorem dX8_readPerson_38 : decode cX8_readPerson 38 = .ok (.bipush 103, 2) := by decide +kernel
theorem dX8_readPerson_40 : decode cX8_readPerson 40 = .ok (.if_icmp .ne 7, 3) := by decide +kernel
theorem dX8_readPerson_43 : decode cX8_readPerson 43 = .ok (.iconst 1, 1) := by decide +kernel
theorem dX8_readPerson_44 : decode cX8_readPerson 44 = .ok (.goto 15, 3) := by decide +kernel
theorem dX8_readPerson_47 : decode cX8_readPerson 47 = .ok (.iload_n 3, 1) := by decide +kernel
theorem dX8_readPerson_48 : decode cX8_readPerson 48 = .ok (.bipush 116, 2) := by decide +kernel
theorem dX8_readPerson_50 : decode cX8_readPerson 50 = .ok (.if_icmp .ne 7, 3) := by decide +kernel
theorem dX8_readPerson_53 : decode cX8_readPerson 53 = .ok (.iconst 2, 1) := by decide +kernel
theorem dX8_readPerson_54 : decode cX8_readPerson 54 = .ok (.goto 5, 3) := by decide +kernel
theorem dX8_readPerson_57 : decode cX8_readPerson 57 = .ok (.bipush (-9), 2) := by decide +kernel
theorem dX8_readPerson_59 : decode cX8_readPerson 59 = .ok (.iastore, 1) := by decide +kernel
theorem dX8_readPerson_60 : decode cX8_readPerson 60 = .ok (.aload_n 0, 1) := by decide +kernel
theorem dX8_readPerson_61 : decode cX8_readPerson 61 = .ok (.getfield 31, 3) := by decide +kernel
theorem dX8_readPerson_64 : decode cX8_readPerson 64 = .ok (.iload_n 2, 1) := by decide +kernel
theorem dX8_readPerson_65 : decode cX8_readPerson 65 = .ok (.iaload, 1) := by decide +kernel
theorem dX8_readPerson_66 : decode cX8_readPerson 66 = .ok (.bipush (-9), 2) := by decide +kernel
theorem dX8_readPerson_68 : decode cX8_readPerson 68 = .ok (.if_icmp .ne 5, 3) := by decide +kernel
theorem dX8_readPerson_71 : decode cX8_readPerson 71 = .ok (.iconst 0, 1) := by decide +kernel
theorem dX8_readPerson_72 : decode cX8_readPerson 72 = .ok (.ireturn, 1) := by decide +kernel
theorem dX8_readPerson_73 : decode cX8_readPerson 73 = .ok (.aload_n 0, 1) := by decide +kernel
theorem dX8_readPerson_74 : decode cX8_readPerson 74 = .ok (.dup, 1) := by decide +kernel
theorem dX8_readPerson_75 : decode cX8_readPerson 75 = .ok (.getfield 100, 3) := by decide +kernel
theorem dX8_readPerson_78 : decode cX8_readPerson 78 = .ok (.iconst 1, 1) := by decide +kernel
theorem dX8_readPerson_79 : decode cX8_readPerson 79 = .ok (.iadd, 1) := by decide +kernel
theorem dX8_readPerson_80 : decode cX8_readPerson 80 = .ok (.putfield 100, 3) := by decide +kernel
theorem dX8_readPerson_83 : decode cX8_readPerson 83 = .ok (.aload_n 0, 1) := by decide +kernel
theorem dX8_readPerson_84 : decode cX8_readPerson 84 = .ok (.getfield 34, 3) := by decide +kernel
theorem dX8_readPerson_87 : decode cX8_readPerson 87 = .ok (.iload_n 2, 1) := by decide +kernel
theorem dX8_readPerson_88 : decode cX8_readPerson 88 = .ok (.aload_n 0, 1) := by decide +kernel
theorem dX8_readPerson_89 : decode cX8_readPerson 89 = .ok (.iload_n 1, 1) := by decide +kernel
theorem dX8_readPerson_90 : decode cX8_readPerson 90 = .ok (.iconst 0, 1) := by decide +kernel
theorem dX8_readPerson_91 : decode cX8_readPerson 91 = .ok (.bipush 9, 2) := by decide +kernel
theorem dX8_readPerson_93 : decode cX8_readPerson 93 = .ok (.invokevirtual 130, 3) := by decide +kernel
theorem dX8_readPerson_96 : decode cX8_readPerson 96 = .ok (.iastore, 1) := by decide +kernel
theorem dX8_readPerson_97 : decode cX8_readPerson 97 = .ok (.aload_n 0, 1) := by decide +kernel
theorem dX8_readPerson_98 : decode cX8_readPerson 98 = .ok (.getfield 34, 3) := by decide +kernel
theorem dX8_readPerson_101 : decode cX8_readPerson 101 = .ok (.iload_n 2, 1) := by decide +kernel
theorem dX8_readPerson_102 : decode cX8_readPerson 102 = .ok (.iaload, 1) := by decide +kernel
theorem dX8_readPerson_103 : decode cX8_readPerson 103 = .ok (.bipush (-9), 2) := by decide +kernel
theorem dX8_readPerson_105 : decode cX8_readPerson 105 = .ok (.if_icmp .ne 5, 3) := by decide +kernel
theorem dX8_readPerson_108 : decode cX8_readPerson 108 = .ok (.iconst 0, 1) := by decide +kernel
theorem dX8_readPerson_109 : decode cX8_readPerson 109 = .ok (.ireturn, 1) := by decide +kernel
theorem dX8_readPerson_110 : decode cX8_readPerson 110 = .ok (.aload_n 0, 1) := by decide +kernel
theorem dX8_readPerson_111 : decode cX8_readPerson 111 = .ok (.getfield 37, 3) := by decide +kernel
theorem dX8_readPerson_114 : decode cX8_readPerson 114 = .ok (.iload_n 2, 1) := by decide +kernel
theorem dX8_readPerson_115 : decode cX8_readPerson 115 = .ok (.aload_n 0, 1) := by decide +kernel
theorem dX8_readPerson_116 : decode cX8_readPerson 116 = .ok (.iload_n 1, 1) := by decide +kernel
theorem dX8_readPerson_117 : decode cX8_readPerson 117 = .ok (.iconst 0, 1) := by decide +kernel
theorem dX8_readPerson_118 : decode cX8_readPerson 118 = .ok (.iconst 3, 1) := by decide +kernel
theorem dX8_readPerson_119 : decode cX8_readPerson 119 = .ok (.invokevirtual 130, 3) := by decide +kernel
theorem dX8_readPerson_122 : decode cX8_readPerson 122 = .ok (.iastore, 1) := by decide +kernel
theorem dX8_readPerson_123 : decode cX8_readPerson 123 = .ok (.aload_n 0, 1) := by decide +kernel
theorem dX8_readPerson_124 : decode cX8_readPerson 124 = .ok (.getfield 37, 3) := by decide +kernel
theorem dX8_readPerson_127 : decode cX8_readPerson 127 = .ok (.iload_n 2, 1) := by decide +kernel
theorem dX8_readPerson_128 : decode cX8_readPerson 128 = .ok (.iaload, 1) := by decide +kernel
theorem dX8_readPerson_129 : decode cX8_readPerson 129 = .ok (.bipush (-9), 2) := by decide +kernel
theorem dX8_readPerson_131 : decode cX8_readPerson 131 = .ok (.if_icmp .ne 5, 3) := by decide +kernel
theorem dX8_readPerson_134 : decode cX8_readPerson 134 = .ok (.iconst 0, 1) := by decide +kernel
theorem dX8_readPerson_135 : decode cX8_readPerson 135 = .ok (.ireturn, 1) := by decide +kernel
theorem dX8_readPerson_136 : decode cX8_readPerson 136 = .ok (.aload_n 0, 1) := by decide +kernel
theorem dX8_readPerson_137 : decode cX8_readPerson 137 = .ok (.getfield 40, 3) := by decide +kernel
theorem dX8_readPerson_140 : decode cX8_readPerson 140 = .ok (.iload_n 2, 1) := by decide +kernel
theorem dX8_readPerson_141 : decode cX8_readPerson 141 = .ok (.aload_n 0, 1) := by decide +kernel
theorem dX8_readPerson_142 : decode cX8_readPerson 142 = .ok (.iload_n 1, 1) := by decide +kernel
theorem dX8_readPerson_143 : decode cX8_readPerson 143 = .ok (.iconst 0, 1) := by decide +kernel
theorem dX8_readPerson_144 : decode cX8_readPerson 144 = .ok (.iconst 3, 1) := by decide +kernel
theorem dX8_readPerson_145 : decode cX8_readPerson 145 = .ok (.invokevirtual 130, 3) := by decide +kernel
theorem dX8_readPerson_148 : decode cX8_readPerson 148 = .ok (.iastore, 1) := by decide +kernel
theorem dX8_readPerson_149 : decode cX8_readPerson 149 = .ok (.aload_n 0, 1) := by decide +kernel
theorem dX8_readPerson_150 : decode cX8_readPerson 150 = .ok (.getfield 40, 3) := by decide +kernel
theorem dX8_readPerson_153 : decode cX8_readPerson 153 = .ok (.iload_n 2, 1) := by decide +kernel
theorem dX8_readPerson_154 : decode cX8_readPerson 154 = .ok (.iaload, 1) := by decide +kernel
theorem dX8_readPerson_155 : decode cX8_readPerson 155 = .ok (.bipush (-9), 2) := by decide +kernel
theorem dX8_readPerson_157 : decode cX8_readPerson 157 = .ok (.if_icmp .eq 7, 3) := by decide +kernel
theorem dX8_readPerson_160 : decode cX8_readPerson 160 = .ok (.iconst 1, 1) := by decide +kernel
theorem dX8_readPerson_161 : decode cX8_readPerson 161 = .ok (.goto 4, 3) := by decide +kernel
theorem dX8_readPerson_164 : decode cX8_readPerson 164 = .ok (.iconst 0, 1) := by decide +kernel
theorem dX8_readPerson_165 : decode cX8_readPerson 165 = .ok (.ireturn, 1) := by decide +kernel
theorem dX8_ofPerson_0 : decode cX8_ofPerson 0 = .ok (.aload_n 0, 1) := by decide +kernel
theorem dX8_ofPerson_1 : decode cX8_ofPerson 1 = .ok (.iload_n 1, 1) := by decide +kernel
theorem dX8_ofPerson_2 : decode cX8_ofPerson 2 = .ok (.invokevirtual 138, 3) := by decide +kernel
theorem dX8_ofPerson_5 : decode cX8_ofPerson 5 = .ok (.ifCond .ne 5, 3) := by decide +kernel
theorem dX8_ofPerson_8 : decode cX8_ofPerson 8 = .ok (.iconst (-1), 1) := by decide +kernel
theorem dX8_ofPerson_9 : decode cX8_ofPerson 9 = .ok (.ireturn, 1) := by decide +kernel
theorem dX8_ofPerson_10 : decode cX8_ofPerson 10 = .ok (.iload_n 2, 1) := by decide +kernel
theorem dX8_ofPerson_11 : decode cX8_ofPerson 11 = .ok (.ifCond .ne 12, 3) := by decide +kernel
theorem dX8_ofPerson_14 : decode cX8_ofPerson 14 = .ok (.aload_n 0, 1) := by decide +kernel
theorem dX8_ofPerson_15 : decode cX8_ofPerson 15 = .ok (.getfield 19, 3) := by decide +kernel
theorem dX8_ofPerson_18 : decode cX8_ofPerson 18 = .ok (.iload_n 1, 1) := by decide +kernel
theorem dX8_ofPerson_19 : decode cX8_ofPerson 19 = .ok (.iaload, 1) := by decide +kernel
theorem dX8_ofPerson_20 : decode cX8_ofPerson 20 = .ok (.goto 47, 3) := by decide +kernel
theorem dX8_ofPerson_23 : decode cX8_ofPerson 23 = .ok (.iload_n 2, 1) := by decide +kernel
theorem dX8_ofPerson_24 : decode cX8_ofPerson 24 = .ok (.iconst 1, 1) := by decide +kernel
theorem dX8_ofPerson_25 : decode cX8_ofPerson 25 = .ok (.if_icmp .ne 12, 3) := by decide +kernel
theorem dX8_ofPerson_28 : decode cX8_ofPerson 28 = .ok (.aload_n 0, 1) := by decide +kernel
theorem dX8_ofPerson_29 : decode cX8_ofPerson 29 = .ok (.getfield 22, 3) := by decide +kernel
theorem dX8_ofPerson_32 : decode cX8_ofPerson 32 = .ok (.iload_n 1, 1) := by decide +kernel
theorem dX8_ofPerson_33 : decode cX8_ofPerson 33 = .ok (.iaload, 1) := by decide +kernel
theorem dX8_ofPerson_34 : decode cX8_ofPerson 34 = .ok (.goto 33, 3) := by decide +kernel
theorem dX8_ofPerson_37 : decode cX8_ofPerson 37 = .ok (.iload_n 2, 1) := by decide +kernel
theorem dX8_ofPerson_38 : decode cX8_ofPerson 38 = .ok (.iconst 2, 1) := by decide +kernel
theorem dX8_ofPerson_39 : decode cX8_ofPerson 39 = .ok (.if_icmp .ne 12, 3) := by decide +kernel
theorem dX8_ofPerson_42 : decode cX8_ofPerson 42 = .ok (.aload_n 0, 1) := by decide +kernel
theorem dX8_ofPerson_43 : decode cX8_ofPerson 43 = .ok (.getfield 25, 3) := by decide +kernel
theorem dX8_ofPerson_46 : decode cX8_ofPerson 46 = .ok (.iload_n 1, 1) := by decide +kernel
theorem dX8_ofPerson_47 : decode cX8_ofPerson 47 = .ok (.iaload, 1) := by decide +kernel
theorem dX8_ofPerson_48 : decode cX8_ofPerson 48 = .ok (.goto 19, 3) := by decide +kernel
theorem dX8_ofPerson_51 : decode cX8_ofPerson 51 = .ok (.iload_n 2, 1) := by decide +kernel
theorem dX8_ofPerson_52 : decode cX8_ofPerson 52 = .ok (.iconst 3, 1) := by decide +kernel
theorem dX8_ofPerson_53 : decode cX8_ofPerson 53 = .ok (.if_icmp .ne 12, 3) := by decide +kernel
theorem dX8_ofPerson_56 : decode cX8_ofPerson 56 = .ok (.aload_n 0, 1) := by decide +kernel
theorem dX8_ofPerson_57 : decode cX8_ofPerson 57 = .ok (.getfield 28, 3) := by decide +kernel
theorem dX8_ofPerson_60 : decode cX8_ofPerson 60 = .ok (.iload_n 1, 1) := by decide +kernel
theorem dX8_ofPerson_61 : decode cX8_ofPerson 61 = .ok (.iaload, 1) := by decide +kernel
theorem dX8_ofPerson_62 : decode cX8_ofPerson 62 = .ok (.goto 5, 3) := by decide +kernel
theorem dX8_ofPerson_65 : decode cX8_ofPerson 65 = .ok (.bipush (-2), 2) := by decide +kernel
theorem dX8_ofPerson_67 : decode cX8_ofPerson 67 = .ok (.ireturn, 1) := by decide +kernel
theorem dX8_grudge_0 : decode cX8_grudge 0 = .ok (.aload_n 0, 1) := by decide +kernel
theorem dX8_grudge_1 : decode cX8_grudge 1 = .ok (.iload_n 1, 1) := by decide +kernel
theorem dX8_grudge_2 : decode cX8_grudge 2 = .ok (.invokevirtual 141, 3) := by decide +kernel
theorem dX8_grudge_5 : decode cX8_grudge 5 = .ok (.ifCond .ne 5, 3) := by decide +kernel
theorem dX8_grudge_8 : decode cX8_grudge 8 = .ok (.iconst (-1), 1) := by decide +kernel
theorem dX8_grudge_9 : decode cX8_grudge 9 = .ok (.ireturn, 1) := by decide +kernel
theorem dX8_grudge_10 : decode cX8_grudge 10 = .ok (.aload_n 0, 1) := by decide +kernel
theorem dX8_grudge_11 : decode cX8_grudge 11 = .ok (.iload_n 1, 1) := by decide +kernel
theorem dX8_grudge_12 : decode cX8_grudge 12 = .ok (.invokevirtual 144, 3) := by decide +kernel
theorem dX8_grudge_15 : decode cX8_grudge 15 = .ok (.iload_n 2, 1) := by decide +kernel
theorem dX8_grudge_16 : decode cX8_grudge 16 = .ok (.if_icmp .eq 5, 3) := by decide +kernel
theorem dX8_grudge_19 : decode cX8_grudge 19 = .ok (.iconst 0, 1) := by decide +kernel
theorem dX8_grudge_20 : decode cX8_grudge 20 = .ok (.ireturn, 1) := by decide +kernel
theorem dX8_grudge_21 : decode cX8_grudge 21 = .ok (.aload_n 0, 1) := by decide +kernel
theorem dX8_grudge_22 : decode cX8_grudge 22 = .ok (.dup, 1) := by decide +kernel
theorem dX8_grudge_23 : decode cX8_grudge 23 = .ok (.getfield 97, 3) := by decide +kernel
theorem dX8_grudge_26 : decode cX8_grudge 26 = .ok (.iconst 1, 1) := by decide +kernel
theorem dX8_grudge_27 : decode cX8_grudge 27 = .ok (.iload_n 1, 1) := by decide +kernel
theorem dX8_grudge_28 : decode cX8_grudge 28 = .ok (.ishl, 1) := by decide +kernel
theorem dX8_grudge_29 : decode cX8_grudge 29 = .ok (.ixor, 1) := by decide +kernel
theorem dX8_grudge_30 : decode cX8_grudge 30 = .ok (.putfield 97, 3) := by decide +kernel
theorem dX8_grudge_33 : decode cX8_grudge 33 = .ok (.iconst 1, 1) := by decide +kernel
theorem dX8_grudge_34 : decode cX8_grudge 34 = .ok (.ireturn, 1) := by decide +kernel
theorem dX8_hand_0 : decode cX8_hand 0 = .ok (.aload_n 0, 1) := by decide +kernel
theorem dX8_hand_1 : decode cX8_hand 1 = .ok (.iload_n 1, 1) := by decide +kernel
theorem dX8_hand_2 : decode cX8_hand 2 = .ok (.invokevirtual 141, 3) := by decide +kernel
theorem dX8_hand_5 : decode cX8_hand 5 = .ok (.ifCond .ne 5, 3) := by decide +kernel
theorem dX8_hand_8 : decode cX8_hand 8 = .ok (.iconst (-1), 1) := by decide +kernel
theorem dX8_hand_9 : decode cX8_hand 9 = .ok (.ireturn, 1) := by decide +kernel
theorem dX8_hand_10 : decode cX8_hand 10 = .ok (.aload_n 0, 1) := by decide +kernel
theorem dX8_hand_11 : decode cX8_hand 11 = .ok (.iload_n 1, 1) := by decide +kernel
theorem dX8_hand_12 : decode cX8_hand 12 = .ok (.invokevirtual 144, 3) := by decide +kernel
theorem dX8_hand_15 : decode cX8_hand 15 = .ok (.ifCond .ne 6, 3) := by decide +kernel
theorem dX8_hand_18 : decode cX8_hand 18 = .ok (.bipush (-3), 2) := by decide +kernel
theorem dX8_hand_20 : decode cX8_hand 20 = .ok (.ireturn, 1) := by decide +kernel
theorem dX8_hand_21 : decode cX8_hand 21 = .ok (.aload_n 0, 1) := by decide +kernel
theorem dX8_hand_22 : decode cX8_hand 22 = .ok (.getfield 25, 3) := by decide +kernel
theorem dX8_hand_25 : decode cX8_hand 25 = .ok (.iload_n 1, 1) := by decide +kernel
theorem dX8_hand_26 : decode cX8_hand 26 = .ok (.iaload, 1) := by decide +kernel
theorem dX8_hand_27 : decode cX8_hand 27 = .ok (.istore_n 2, 1) := by decide +kernel
theorem dX8_hand_28 : decode cX8_hand 28 = .ok (.aload_n 0, 1) := by decide +kernel
theorem dX8_hand_29 : decode cX8_hand 29 = .ok (.getfield 25, 3) := by decide +kernel
theorem dX8_hand_32 : decode cX8_hand 32 = .ok (.iload_n 1, 1) := by decide +kernel
theorem dX8_hand_33 : decode cX8_hand 33 = .ok (.aload_n 0, 1) := by decide +kernel
theorem dX8_hand_34 : decode cX8_hand 34 = .ok (.getfield 25, 3) := by decide +kernel
theorem dX8_hand_37 : decode cX8_hand 37 = .ok (.aload_n 0, 1) := by decide +kernel
theorem dX8_hand_38 : decode cX8_hand 38 = .ok (.iload_n 1, 1) := by decide +kernel
theorem dX8_hand_39 : decode cX8_hand 39 = .ok (.invokevirtual 147, 3) := by decide +kernel
theorem dX8_hand_42 : decode cX8_hand 42 = .ok (.iaload, 1) := by decide +kernel
theorem dX8_hand_43 : decode cX8_hand 43 = .ok (.iastore, 1) := by decide +kernel
theorem dX8_hand_44 : decode cX8_hand 44 = .ok (.aload_n 0, 1) := by decide +kernel
theorem dX8_hand_45 : decode cX8_hand 45 = .ok (.getfield 25, 3) := by decide +kernel
theorem dX8_hand_48 : decode cX8_hand 48 = .ok (.aload_n 0, 1) := by decide +kernel
theorem dX8_hand_49 : decode cX8_hand 49 = .ok (.iload_n 1, 1) := by decide +kernel
theorem dX8_hand_50 : decode cX8_hand 50 = .ok (.invokevirtual 147, 3) := by decide +kernel
theorem dX8_hand_53 : decode cX8_hand 53 = .ok (.iload_n 2, 1) := by decide +kernel
theorem dX8_hand_54 : decode cX8_hand 54 = .ok (.iastore, 1) := by decide +kernel
theorem dX8_hand_55 : decode cX8_hand 55 = .ok (.iconst 1, 1) := by decide +kernel
theorem dX8_hand_56 : decode cX8_hand 56 = .ok (.ireturn, 1) := by decide +kernel
theorem dX8_wish_0 : decode cX8_wish 0 = .ok (.aload_n 0, 1) := by decide +kernel
theorem dX8_wish_1 : decode cX8_wish 1 = .ok (.iload_n 1, 1) := by decide +kernel
theorem dX8_wish_2 : decode cX8_wish 2 = .ok (.invokevirtual 138, 3) := by decide +kernel
theorem dX8_wish_5 : decode cX8_wish 5 = .ok (.ifCond .ne 5, 3) := by decide +kernel
theorem dX8_wish_8 : decode cX8_wish 8 = .ok (.iconst (-1), 1) := by decide +kernel
theorem dX8_wish_9 : decode cX8_wish 9 = .ok (.ireturn, 1) := by decide +kernel
theorem dX8_wish_10 : decode cX8_wish 10 = .ok (.iload_n 2, 1) := by decide +kernel
theorem dX8_wish_11 : decode cX8_wish 11 = .ok (.iconst 0, 1) := by decide +kernel
theorem dX8_wish_12 : decode cX8_wish 12 = .ok (.iconst 3, 1) := by decide +kernel
theorem dX8_wish_13 : decode cX8_wish 13 = .ok (.invokestatic 82, 3) := by decide +kernel
theorem dX8_wish_16 : decode cX8_wish 16 = .ok (.ifCond .ne 6, 3) := by decide +kernel
theorem dX8_wish_19 : decode cX8_wish 19 = .ok (.bipush (-2), 2) := by decide +kernel
theorem dX8_wish_21 : decode cX8_wish 21 = .ok (.ireturn, 1) := by decide +kernel
theorem dX8_wish_22 : decode cX8_wish 22 = .ok (.aload_n 0, 1) := by decide +kernel
theorem dX8_wish_23 : decode cX8_wish 23 = .ok (.getfield 28, 3) := by decide +kernel
theorem dX8_wish_26 : decode cX8_wish 26 = .ok (.iload_n 1, 1) := by decide +kernel
theorem dX8_wish_27 : decode cX8_wish 27 = .ok (.iaload, 1) := by decide +kernel
theorem dX8_wish_28 : decode cX8_wish 28 = .ok (.istore_n 3, 1) := by decide +kernel
theorem dX8_wish_29 : decode cX8_wish 29 = .ok (.aload_n 0, 1) := by decide +kernel
theorem dX8_wish_30 : decode cX8_wish 30 = .ok (.getfield 28, 3) := by decide +kernel
theorem dX8_wish_33 : decode cX8_wish 33 = .ok (.iload_n 1, 1) := by decide +kernel
theorem dX8_wish_34 : decode cX8_wish 34 = .ok (.iload_n 2, 1) := by decide +kernel
theorem dX8_wish_35 : decode cX8_wish 35 = .ok (.iastore, 1) := by decide +kernel
theorem dX8_wish_36 : decode cX8_wish 36 = .ok (.iload_n 3, 1) := by decide +kernel
theorem dX8_wish_37 : decode cX8_wish 37 = .ok (.ireturn, 1) := by decide +kernel
theorem dX8_altered_0 : decode cX8_altered 0 = .ok (.aload_n 0, 1) := by decide +kernel
theorem dX8_altered_1 : decode cX8_altered 1 = .ok (.getfield 19, 3) := by decide +kernel
theorem dX8_altered_4 : decode cX8_altered 4 = .ok (.iload_n 1, 1) := by decide +kernel
theorem dX8_altered_5 : decode cX8_altered 5 = .ok (.iaload, 1) := by decide +kernel
theorem dX8_altered_6 : decode cX8_altered 6 = .ok (.ifCond .ne 5, 3) := by decide +kernel
theorem dX8_altered_9 : decode cX8_altered 9 = .ok (.iload_n 2, 1) := by decide +kernel
theorem dX8_altered_10 : decode cX8_altered 10 = .ok (.ireturn, 1) := by decide +kernel
theorem dX8_altered_11 : decode cX8_altered 11 = .ok (.iload_n 2, 1) := by decide +kernel
theorem dX8_altered_12 : decode cX8_altered 12 = .ok (.aload_n 0, 1) := by decide +kernel
theorem dX8_altered_13 : decode cX8_altered 13 = .ok (.getfield 22, 3) := by decide +kernel
theorem dX8_altered_16 : decode cX8_altered 16 = .ok (.iload_n 1, 1) := by decide +kernel
theorem dX8_altered_17 : decode cX8_altered 17 = .ok (.iaload, 1) := by decide +kernel
theorem dX8_altered_18 : decode cX8_altered 18 = .ok (.iadd, 1) := by decide +kernel
theorem dX8_altered_19 : decode cX8_altered 19 = .ok (.bipush 100, 2) := by decide +kernel
theorem dX8_altered_21 : decode cX8_altered 21 = .ok (.irem, 1) := by decide +kernel
theorem dX8_altered_22 : decode cX8_altered 22 = .ok (.istore_n 3, 1) := by decide +kernel
theorem dX8_altered_23 : decode cX8_altered 23 = .ok (.aload_n 0, 1) := by decide +kernel
theorem dX8_altered_24 : decode cX8_altered 24 = .ok (.getfield 19, 3) := by decide +kernel
theorem dX8_altered_27 : decode cX8_altered 27 = .ok (.iload_n 1, 1) := by decide +kernel
theorem dX8_altered_28 : decode cX8_altered 28 = .ok (.iaload, 1) := by decide +kernel
theorem dX8_altered_29 : decode cX8_altered 29 = .ok (.iconst 1, 1) := by decide +kernel
theorem dX8_altered_30 : decode cX8_altered 30 = .ok (.if_icmp .ne 7, 3) := by decide +kernel
theorem dX8_altered_33 : decode cX8_altered 33 = .ok (.iload_n 3, 1) := by decide +kernel
theorem dX8_altered_34 : decode cX8_altered 34 = .ok (.goto 9, 3) := by decide +kernel
theorem dX8_altered_37 : decode cX8_altered 37 = .ok (.iconst 2, 1) := by decide +kernel
theorem dX8_altered_38 : decode cX8_altered 38 = .ok (.iload_n 3, 1) := by decide +kernel
theorem dX8_altered_39 : decode cX8_altered 39 = .ok (.imul, 1) := by decide +kernel
theorem dX8_altered_40 : decode cX8_altered 40 = .ok (.bipush 100, 2) := by decide +kernel
theorem dX8_altered_42 : decode cX8_altered 42 = .ok (.irem, 1) := by decide +kernel
theorem dX8_altered_43 : decode cX8_altered 43 = .ok (.ireturn, 1) := by decide +kernel
theorem dX8_pass_0 : decode cX8_pass 0 = .ok (.aload_n 0, 1) := by decide +kernel
theorem dX8_pass_1 : decode cX8_pass 1 = .ok (.getfield 46, 3) := by decide +kernel
theorem dX8_pass_4 : decode cX8_pass 4 = .ok (.iload_n 1, 1) := by decide +kernel
theorem dX8_pass_5 : decode cX8_pass 5 = .ok (.iaload, 1) := by decide +kernel
theorem dX8_pass_6 : decode cX8_pass 6 = .ok (.iload_n 3, 1) := by decide +kernel
theorem dX8_pass_7 : decode cX8_pass 7 = .ok (.iconst 1, 1) := by decide +kernel
theorem dX8_pass_8 : decode cX8_pass 8 = .ok (.isub, 1) := by decide +kernel
theorem dX8_pass_9 : decode cX8_pass 9 = .ok (.if_icmp .ne 53, 3) := by decide +kernel
theorem dX8_pass_12 : decode cX8_pass 12 = .ok (.aload_n 0, 1) := by decide +kernel
theorem dX8_pass_13 : decode cX8_pass 13 = .ok (.getfield 46, 3) := by decide +kernel
theorem dX8_pass_16 : decode cX8_pass 16 = .ok (.iload_n 2, 1) := by decide +kernel
theorem dX8_pass_17 : decode cX8_pass 17 = .ok (.iaload, 1) := by decide +kernel
theorem dX8_pass_18 : decode cX8_pass 18 = .ok (.bipush (-9), 2) := by decide +kernel
theorem dX8_pass_20 : decode cX8_pass 20 = .ok (.if_icmp .ne 42, 3) := by decide +kernel
theorem dX8_pass_23 : decode cX8_pass 23 = .ok (.aload_n 0, 1) := by decide +kernel
theorem dX8_pass_24 : decode cX8_pass 24 = .ok (.getfield 46, 3) := by decide +kernel
theorem dX8_pass_27 : decode cX8_pass 27 = .ok (.iload_n 2, 1) := by decide +kernel
theorem dX8_pass_28 : decode cX8_pass 28 = .ok (.iload_n 3, 1) := by decide +kernel
theorem dX8_pass_29 : decode cX8_pass 29 = .ok (.iastore, 1) := by decide +kernel
theorem dX8_pass_30 : decode cX8_pass 30 = .ok (.aload_n 0, 1) := by decide +kernel
theorem dX8_pass_31 : decode cX8_pass 31 = .ok (.getfield 43, 3) := by decide +kernel
theorem dX8_pass_34 : decode cX8_pass 34 = .ok (.iload_n 2, 1) := by decide +kernel
theorem dX8_pass_35 : decode cX8_pass 35 = .ok (.iload_n 1, 1) := by decide +kernel
theorem dX8_pass_36 : decode cX8_pass 36 = .ok (.iload 4, 2) := by decide +kernel
theorem dX8_pass_38 : decode cX8_pass 38 = .ok (.if_icmp .ne 12, 3) := by decide +kernel
theorem dX8_pass_41 : decode cX8_pass 41 = .ok (.aload_n 0, 1) := by decide +kernel
theorem dX8_pass_42 : decode cX8_pass 42 = .ok (.getfield 43, 3) := by decide +kernel
theorem dX8_pass_45 : decode cX8_pass 45 = .ok (.iload_n 1, 1) := by decide +kernel
theorem dX8_pass_46 : decode cX8_pass 46 = .ok (.iaload, 1) := by decide +kernel
theorem dX8_pass_47 : decode cX8_pass 47 = .ok (.goto 14, 3) := by decide +kernel
theorem dX8_pass_50 : decode cX8_pass 50 = .ok (.aload_n 0, 1) := by decide +kernel
theorem dX8_pass_51 : decode cX8_pass 51 = .ok (.iload_n 1, 1) := by decide +kernel
theorem dX8_pass_52 : decode cX8_pass 52 = .ok (.aload_n 0, 1) := by decide +kernel
theorem dX8_pass_53 : decode cX8_pass 53 = .ok (.getfield 43, 3) := by decide +kernel
theorem dX8_pass_56 : decode cX8_pass 56 = .ok (.iload_n 1, 1) := by decide +kernel
theorem dX8_pass_57 : decode cX8_pass 57 = .ok (.iaload, 1) := by decide +kernel
theorem dX8_pass_58 : decode cX8_pass 58 = .ok (.invokevirtual 150, 3) := by decide +kernel
theorem dX8_pass_61 : decode cX8_pass 61 = .ok (.iastore, 1) := by decide +kernel
theorem dX8_pass_62 : decode cX8_pass 62 = .ok (.return_, 1) := by decide +kernel
theorem dX8_isBeside_0 : decode cX8_isBeside 0 = .ok (.iconst 0, 1) := by decide +kernel
theorem dX8_isBeside_1 : decode cX8_isBeside 1 = .ok (.istore_n 3, 1) := by decide +kernel
theorem dX8_isBeside_2 : decode cX8_isBeside 2 = .ok (.iload_n 3, 1) := by decide +kernel
theorem dX8_isBeside_3 : decode cX8_isBeside 3 = .ok (.aload_n 0, 1) := by decide +kernel
theorem dX8_isBeside_4 : decode cX8_isBeside 4 = .ok (.invokevirtual 93, 3) := by decide +kernel
theorem dX8_isBeside_7 : decode cX8_isBeside 7 = .ok (.if_icmp .ge 59, 3) := by decide +kernel
theorem dX8_isBeside_10 : decode cX8_isBeside 10 = .ok (.iload_n 3, 1) := by decide +kernel
theorem dX8_isBeside_11 : decode cX8_isBeside 11 = .ok (.iload_n 1, 1) := by decide +kernel
theorem dX8_isBeside_12 : decode cX8_isBeside 12 = .ok (.if_icmp .ne 12, 3) := by decide +kernel
theorem dX8_isBeside_15 : decode cX8_isBeside 15 = .ok (.aload_n 0, 1) := by decide +kernel
theorem dX8_isBeside_16 : decode cX8_isBeside 16 = .ok (.iload_n 3, 1) := by decide +kernel
theorem dX8_isBeside_17 : decode cX8_isBeside 17 = .ok (.invokevirtual 147, 3) := by decide +kernel
theorem dX8_isBeside_20 : decode cX8_isBeside 20 = .ok (.iload_n 2, 1) := by decide +kernel
theorem dX8_isBeside_21 : decode cX8_isBeside 21 = .ok (.if_icmp .eq 17, 3) := by decide +kernel
theorem dX8_isBeside_24 : decode cX8_isBeside 24 = .ok (.iload_n 3, 1) := by decide +kernel
theorem dX8_isBeside_25 : decode cX8_isBeside 25 = .ok (.iload_n 2, 1) := by decide +kernel
theorem dX8_isBeside_26 : decode cX8_isBeside 26 = .ok (.if_icmp .ne 16, 3) := by decide +kernel
theorem dX8_isBeside_29 : decode cX8_isBeside 29 = .ok (.aload_n 0, 1) := by decide +kernel
theorem dX8_isBeside_30 : decode cX8_isBeside 30 = .ok (.iload_n 3, 1) := by decide +kernel
theorem dX8_isBeside_31 : decode cX8_isBeside 31 = .ok (.invokevirtual 147, 3) := by decide +kernel
theorem dX8_isBeside_34 : decode cX8_isBeside 34 = .ok (.iload_n 1, 1) := by decide +kernel
theorem dX8_isBeside_35 : decode cX8_isBeside 35 = .ok (.if_icmp .ne 7, 3) := by decide +kernel
theorem dX8_isBeside_38 : decode cX8_isBeside 38 = .ok (.iconst 1, 1) := by decide +kernel
theorem dX8_isBeside_39 : decode cX8_isBeside 39 = .ok (.goto 4, 3) := by decide +kernel
theorem dX8_isBeside_42 : decode cX8_isBeside 42 = .ok (.iconst 0, 1) := by decide +kernel
theorem dX8_isBeside_43 : decode cX8_isBeside 43 = .ok (.istore 4, 2) := by decide +kernel
theorem dX8_isBeside_45 : decode cX8_isBeside 45 = .ok (.iload 4, 2) := by decide +kernel
theorem dX8_isBeside_47 : decode cX8_isBeside 47 = .ok (.ifCond .eq 13, 3) := by decide +kernel
theorem dX8_isBeside_50 : decode cX8_isBeside 50 = .ok (.aload_n 0, 1) := by decide +kernel
theorem dX8_isBeside_51 : decode cX8_isBeside 51 = .ok (.iload_n 3, 1) := by decide +kernel
theorem dX8_isBeside_52 : decode cX8_isBeside 52 = .ok (.invokevirtual 144, 3) := by decide +kernel
theorem dX8_isBeside_55 : decode cX8_isBeside 55 = .ok (.ifCond .eq 5, 3) := by decide +kernel
theorem dX8_isBeside_58 : decode cX8_isBeside 58 = .ok (.iconst 1, 1) := by decide +kernel
theorem dX8_isBeside_59 : decode cX8_isBeside 59 = .ok (.ireturn, 1) := by decide +kernel
theorem dX8_isBeside_60 : decode cX8_isBeside 60 = .ok (.iinc 3 1, 3) := by decide +kernel
theorem dX8_isBeside_63 : decode cX8_isBeside 63 = .ok (.goto (-61), 3) := by decide +kernel
theorem dX8_isBeside_66 : decode cX8_isBeside 66 = .ok (.iconst 0, 1) := by decide +kernel
theorem dX8_isBeside_67 : decode cX8_isBeside 67 = .ok (.ireturn, 1) := by decide +kernel
theorem dX8_spread_0 : decode cX8_spread 0 = .ok (.iconst 0, 1) := by decide +kernel
theorem dX8_spread_1 : decode cX8_spread 1 = .ok (.istore_n 3, 1) := by decide +kernel
theorem dX8_spread_2 : decode cX8_spread 2 = .ok (.iload_n 3, 1) := by decide +kernel
theorem dX8_spread_3 : decode cX8_spread 3 = .ok (.aload_n 0, 1) := by decide +kernel
theorem dX8_spread_4 : decode cX8_spread 4 = .ok (.getfield 86, 3) := by decide +kernel
theorem dX8_spread_7 : decode cX8_spread 7 = .ok (.if_icmp .ge 17, 3) := by decide +kernel
theorem dX8_spread_10 : decode cX8_spread 10 = .ok (.aload_n 0, 1) := by decide +kernel
theorem dX8_spread_11 : decode cX8_spread 11 = .ok (.getfield 46, 3) := by decide +kernel
theorem dX8_spread_14 : decode cX8_spread 14 = .ok (.iload_n 3, 1) := by decide +kernel
theorem dX8_spread_15 : decode cX8_spread 15 = .ok (.bipush (-9), 2) := by decide +kernel
theorem dX8_spread_17 : decode cX8_spread 17 = .ok (.iastore, 1) := by decide +kernel
theorem dX8_spread_18 : decode cX8_spread 18 = .ok (.iinc 3 1, 3) := by decide +kernel
theorem dX8_spread_21 : decode cX8_spread 21 = .ok (.goto (-19), 3) := by decide +kernel
theorem dX8_spread_24 : decode cX8_spread 24 = .ok (.aload_n 0, 1) := by decide +kernel
theorem dX8_spread_25 : decode cX8_spread 25 = .ok (.getfield 46, 3) := by decide +kernel
theorem dX8_spread_28 : decode cX8_spread 28 = .ok (.iload_n 1, 1) := by decide +kernel
theorem dX8_spread_29 : decode cX8_spread 29 = .ok (.iconst 0, 1) := by decide +kernel
theorem dX8_spread_30 : decode cX8_spread 30 = .ok (.iastore, 1) := by decide +kernel
theorem dX8_spread_31 : decode cX8_spread 31 = .ok (.aload_n 0, 1) := by decide +kernel
theorem dX8_spread_32 : decode cX8_spread 32 = .ok (.getfield 43, 3) := by decide +kernel
theorem dX8_spread_35 : decode cX8_spread 35 = .ok (.iload_n 1, 1) := by decide +kernel
theorem dX8_spread_36 : decode cX8_spread 36 = .ok (.iload_n 2, 1) := by decide +kernel
theorem dX8_spread_37 : decode cX8_spread 37 = .ok (.iastore, 1) := by decide +kernel
theorem dX8_spread_38 : decode cX8_spread 38 = .ok (.iconst 1, 1) := by decide +kernel
theorem dX8_spread_39 : decode cX8_spread 39 = .ok (.istore_n 3, 1) := by decide +kernel
theorem dX8_spread_40 : decode cX8_spread 40 = .ok (.iload_n 3, 1) := by decide +kernel
theorem dX8_spread_41 : decode cX8_spread 41 = .ok (.aload_n 0, 1) := by decide +kernel
theorem dX8_spread_42 : decode cX8_spread 42 = .ok (.getfield 86, 3) := by decide +kernel
theorem dX8_spread_45 : decode cX8_spread 45 = .ok (.if_icmp .ge 66, 3) := by decide +kernel
theorem dX8_spread_48 : decode cX8_spread 48 = .ok (.iconst 0, 1) := by decide +kernel
theorem dX8_spread_49 : decode cX8_spread 49 = .ok (.istore 4, 2) := by decide +kernel
theorem dX8_spread_51 : decode cX8_spread 51 = .ok (.iload 4, 2) := by decide +kernel
theorem dX8_spread_53 : decode cX8_spread 53 = .ok (.aload_n 0, 1) := by decide +kernel
theorem dX8_spread_54 : decode cX8_spread 54 = .ok (.getfield 86, 3) := by decide +kernel
theorem dX8_spread_57 : decode cX8_spread 57 = .ok (.if_icmp .ge 48, 3) := by decide +kernel
theorem dX8_spread_60 : decode cX8_spread 60 = .ok (.iconst 0, 1) := by decide +kernel
theorem dX8_spread_61 : decode cX8_spread 61 = .ok (.istore 5, 2) := by decide +kernel
theorem dX8_spread_63 : decode cX8_spread 63 = .ok (.iload 5, 2) := by decide +kernel
theorem dX8_spread_65 : decode cX8_spread 65 = .ok (.aload_n 0, 1) := by decide +kernel
theorem dX8_spread_66 : decode cX8_spread 66 = .ok (.getfield 86, 3) := by decide +kernel
theorem dX8_spread_69 : decode cX8_spread 69 = .ok (.if_icmp .ge 30, 3) := by decide +kernel
theorem dX8_spread_72 : decode cX8_spread 72 = .ok (.aload_n 0, 1) := by decide +kernel
theorem dX8_spread_73 : decode cX8_spread 73 = .ok (.iload 4, 2) := by decide +kernel
theorem dX8_spread_75 : decode cX8_spread 75 = .ok (.iload 5, 2) := by decide +kernel
theorem dX8_spread_77 : decode cX8_spread 77 = .ok (.invokevirtual 154, 3) := by decide +kernel
theorem dX8_spread_80 : decode cX8_spread 80 = .ok (.ifCond .eq 13, 3) := by decide +kernel
theorem dX8_spread_83 : decode cX8_spread 83 = .ok (.aload_n 0, 1) := by decide +kernel
theorem dX8_spread_84 : decode cX8_spread 84 = .ok (.iload 4, 2) := by decide +kernel
theorem dX8_spread_86 : decode cX8_spread 86 = .ok (.iload 5, 2) := by decide +kernel
theorem dX8_spread_88 : decode cX8_spread 88 = .ok (.iload_n 3, 1) := by decide +kernel
theorem dX8_spread_89 : decode cX8_spread 89 = .ok (.iload_n 1, 1) := by decide +kernel
theorem dX8_spread_90 : decode cX8_spread 90 = .ok (.invokevirtual 157, 3) := by decide +kernel
theorem dX8_spread_93 : decode cX8_spread 93 = .ok (.iinc 5 1, 3) := by decide +kernel
theorem dX8_spread_96 : decode cX8_spread 96 = .ok (.goto (-33), 3) := by decide +kernel
theorem dX8_spread_99 : decode cX8_spread 99 = .ok (.iinc 4 1, 3) := by decide +kernel
theorem dX8_spread_102 : decode cX8_spread 102 = .ok (.goto (-51), 3) := by decide +kernel
theorem dX8_spread_105 : decode cX8_spread 105 = .ok (.iinc 3 1, 3) := by decide +kernel
theorem dX8_spread_108 : decode cX8_spread 108 = .ok (.goto (-68), 3) := by decide +kernel
theorem dX8_spread_111 : decode cX8_spread 111 = .ok (.return_, 1) := by decide +kernel
theorem dX8_isNumber_0 : decode cX8_isNumber 0 = .ok (.iload_n 0, 1) := by decide +kernel
theorem dX8_isNumber_1 : decode cX8_isNumber 1 = .ok (.iconst 0, 1) := by decide +kernel
theorem dX8_isNumber_2 : decode cX8_isNumber 2 = .ok (.bipush 99, 2) := by decide +kernel
theorem dX8_isNumber_4 : decode cX8_isNumber 4 = .ok (.invokestatic 82, 3) := by decide +kernel
theorem dX8_isNumber_7 : decode cX8_isNumber 7 = .ok (.ireturn, 1) := by decide +kernel
theorem dX8_news_0 : decode cX8_news 0 = .ok (.aload_n 0, 1) := by decide +kernel
theorem dX8_news_1 : decode cX8_news 1 = .ok (.iload_n 1, 1) := by decide +kernel
theorem dX8_news_2 : decode cX8_news 2 = .ok (.invokevirtual 138, 3) := by decide +kernel
theorem dX8_news_5 : decode cX8_news 5 = .ok (.ifCond .eq 11, 3) := by decide +kernel
theorem dX8_news_8 : decode cX8_news 8 = .ok (.aload_n 0, 1) := by decide +kernel
theorem dX8_news_9 : decode cX8_news 9 = .ok (.iload_n 3, 1) := by decide +kernel
theorem dX8_news_10 : decode cX8_news 10 = .ok (.invokevirtual 138, 3) := by decide +kernel
theorem dX8_news_13 : decode cX8_news 13 = .ok (.ifCond .ne 5, 3) := by decide +kernel
theorem dX8_news_16 : decode cX8_news 16 = .ok (.iconst (-1), 1) := by decide +kernel
theorem dX8_news_17 : decode cX8_news 17 = .ok (.ireturn, 1) := by decide +kernel
theorem dX8_news_18 : decode cX8_news 18 = .ok (.iload_n 2, 1) := by decide +kernel
theorem dX8_news_19 : decode cX8_news 19 = .ok (.invokestatic 161, 3) := by decide +kernel
theorem dX8_news_22 : decode cX8_news 22 = .ok (.ifCond .eq 13, 3) := by decide +kernel
theorem dX8_news_25 : decode cX8_news 25 = .ok (.iload 4, 2) := by decide +kernel
theorem dX8_news_27 : decode cX8_news 27 = .ok (.iconst 0, 1) := by decide +kernel
theorem dX8_news_28 : decode cX8_news 28 = .ok (.iconst 1, 1) := by decide +kernel
theorem dX8_news_29 : decode cX8_news 29 = .ok (.invokestatic 82, 3) := by decide +kernel
theorem dX8_news_32 : decode cX8_news 32 = .ok (.ifCond .ne 6, 3) := by decide +kernel
theorem dX8_news_35 : decode cX8_news 35 = .ok (.bipush (-2), 2) := by decide +kernel
theorem dX8_news_37 : decode cX8_news 37 = .ok (.ireturn, 1) := by decide +kernel
theorem dX8_news_38 : decode cX8_news 38 = .ok (.aload_n 0, 1) := by decide +kernel
theorem dX8_news_39 : decode cX8_news 39 = .ok (.iload_n 1, 1) := by decide +kernel
theorem dX8_news_40 : decode cX8_news 40 = .ok (.iload_n 2, 1) := by decide +kernel
theorem dX8_news_41 : decode cX8_news 41 = .ok (.invokevirtual 164, 3) := by decide +kernel
theorem dX8_news_44 : decode cX8_news 44 = .ok (.aload_n 0, 1) := by decide +kernel
theorem dX8_news_45 : decode cX8_news 45 = .ok (.getfield 46, 3) := by decide +kernel
theorem dX8_news_48 : decode cX8_news 48 = .ok (.iload_n 3, 1) := by decide +kernel
theorem dX8_news_49 : decode cX8_news 49 = .ok (.iaload, 1) := by decide +kernel
theorem dX8_news_50 : decode cX8_news 50 = .ok (.bipush (-9), 2) := by decide +kernel
theorem dX8_news_52 : decode cX8_news 52 = .ok (.if_icmp .ne 8, 3) := by decide +kernel
theorem dX8_news_55 : decode cX8_news 55 = .ok (.bipush (-9), 2) := by decide +kernel
theorem dX8_news_57 : decode cX8_news 57 = .ok (.goto 23, 3) := by decide +kernel
theorem dX8_news_60 : decode cX8_news 60 = .ok (.iload 4, 2) := by decide +kernel
theorem dX8_news_62 : decode cX8_news 62 = .ok (.ifCond .ne 12, 3) := by decide +kernel
theorem dX8_news_65 : decode cX8_news 65 = .ok (.aload_n 0, 1) := by decide +kernel
theorem dX8_news_66 : decode cX8_news 66 = .ok (.getfield 43, 3) := by decide +kernel
theorem dX8_news_69 : decode cX8_news 69 = .ok (.iload_n 3, 1) := by decide +kernel
theorem dX8_news_70 : decode cX8_news 70 = .ok (.iaload, 1) := by decide +kernel
theorem dX8_news_71 : decode cX8_news 71 = .ok (.goto 9, 3) := by decide +kernel
theorem dX8_news_74 : decode cX8_news 74 = .ok (.aload_n 0, 1) := by decide +kernel
theorem dX8_news_75 : decode cX8_news 75 = .ok (.getfield 46, 3) := by decide +kernel
theorem dX8_news_78 : decode cX8_news 78 = .ok (.iload_n 3, 1) := by decide +kernel
theorem dX8_news_79 : decode cX8_news 79 = .ok (.iaload, 1) := by decide +kernel
theorem dX8_news_80 : decode cX8_news 80 = .ok (.ireturn, 1) := by decide +kernel
theorem dX8_said_0 : decode cX8_said 0 = .ok (.aload_n 0, 1) := by decide +kernel
theorem dX8_said_1 : decode cX8_said 1 = .ok (.iload_n 1, 1) := by decide +kernel
theorem dX8_said_2 : decode cX8_said 2 = .ok (.invokevirtual 138, 3) := by decide +kernel
theorem dX8_said_5 : decode cX8_said 5 = .ok (.ifCond .eq 17, 3) := by decide +kernel
theorem dX8_said_8 : decode cX8_said 8 = .ok (.aload_n 0, 1) := by decide +kernel
theorem dX8_said_9 : decode cX8_said 9 = .ok (.iload_n 2, 1) := by decide +kernel
theorem dX8_said_10 : decode cX8_said 10 = .ok (.invokevirtual 138, 3) := by decide +kernel
theorem dX8_said_13 : decode cX8_said 13 = .ok (.ifCond .eq 9, 3) := by decide +kernel
theorem dX8_said_16 : decode cX8_said 16 = .ok (.iload 4, 2) := by decide +kernel
theorem dX8_said_18 : decode cX8_said 18 = .ok (.iconst (-1), 1) := by decide +kernel
theorem dX8_said_19 : decode cX8_said 19 = .ok (.if_icmp .ge 5, 3) := by decide +kernel
theorem dX8_said_22 : decode cX8_said 22 = .ok (.iconst (-1), 1) := by decide +kernel
theorem dX8_said_23 : decode cX8_said 23 = .ok (.ireturn, 1) := by decide +kernel
theorem dX8_said_24 : decode cX8_said 24 = .ok (.iload_n 3, 1) := by decide +kernel
theorem dX8_said_25 : decode cX8_said 25 = .ok (.invokestatic 161, 3) := by decide +kernel
theorem dX8_said_28 : decode cX8_said 28 = .ok (.ifCond .ne 6, 3) := by decide +kernel
theorem dX8_said_31 : decode cX8_said 31 = .ok (.bipush (-2), 2) := by decide +kernel
theorem dX8_said_33 : decode cX8_said 33 = .ok (.ireturn, 1) := by decide +kernel
theorem dX8_said_34 : decode cX8_said 34 = .ok (.iconst 0, 1) := by decide +kernel
theorem dX8_said_35 : decode cX8_said 35 = .ok (.istore 5, 2) := by decide +kernel
theorem dX8_said_37 : decode cX8_said 37 = .ok (.iconst 0, 1) := by decide +kernel
theorem dX8_said_38 : decode cX8_said 38 = .ok (.istore 6, 2) := by decide +kernel
theorem dX8_said_40 : decode cX8_said 40 = .ok (.iload 6, 2) := by decide +kernel
theorem dX8_said_42 : decode cX8_said 42 = .ok (.bipush 100, 2) := by decide +kernel
theorem dX8_said_44 : decode cX8_said 44 = .ok (.if_icmp .ge 50, 3) := by decide +kernel
theorem dX8_said_47 : decode cX8_said 47 = .ok (.aload_n 0, 1) := by decide +kernel
theorem dX8_said_48 : decode cX8_said 48 = .ok (.iload_n 1, 1) := by decide +kernel
theorem dX8_said_49 : decode cX8_said 49 = .ok (.iload 6, 2) := by decide +kernel
theorem dX8_said_51 : decode cX8_said 51 = .ok (.invokevirtual 164, 3) := by decide +kernel
theorem dX8_said_54 : decode cX8_said 54 = .ok (.aload_n 0, 1) := by decide +kernel
theorem dX8_said_55 : decode cX8_said 55 = .ok (.getfield 46, 3) := by decide +kernel
theorem dX8_said_58 : decode cX8_said 58 = .ok (.iload_n 2, 1) := by decide +kernel
theorem dX8_said_59 : decode cX8_said 59 = .ok (.iaload, 1) := by decide +kernel
theorem dX8_said_60 : decode cX8_said 60 = .ok (.bipush (-9), 2) := by decide +kernel
theorem dX8_said_62 : decode cX8_said 62 = .ok (.if_icmp .eq 26, 3) := by decide +kernel
theorem dX8_said_65 : decode cX8_said 65 = .ok (.aload_n 0, 1) := by decide +kernel
theorem dX8_said_66 : decode cX8_said 66 = .ok (.getfield 43, 3) := by decide +kernel
theorem dX8_said_69 : decode cX8_said 69 = .ok (.iload_n 2, 1) := by decide +kernel
theorem dX8_said_70 : decode cX8_said 70 = .ok (.iaload, 1) := by decide +kernel
theorem dX8_said_71 : decode cX8_said 71 = .ok (.iload_n 3, 1) := by decide +kernel
theorem dX8_said_72 : decode cX8_said 72 = .ok (.if_icmp .ne 16, 3) := by decide +kernel
theorem dX8_said_75 : decode cX8_said 75 = .ok (.iload 5, 2) := by decide +kernel
theorem dX8_said_77 : decode cX8_said 77 = .ok (.iload 4, 2) := by decide +kernel
theorem dX8_said_79 : decode cX8_said 79 = .ok (.if_icmp .ne 6, 3) := by decide +kernel
theorem dX8_said_82 : decode cX8_said 82 = .ok (.iload 6, 2) := by decide +kernel
theorem dX8_said_84 : decode cX8_said 84 = .ok (.ireturn, 1) := by decide +kernel
theorem dX8_said_85 : decode cX8_said 85 = .ok (.iinc 5 1, 3) := by decide +kernel
theorem dX8_said_88 : decode cX8_said 88 = .ok (.iinc 6 1, 3) := by decide +kernel
theorem dX8_said_91 : decode cX8_said 91 = .ok (.goto (-51), 3) := by decide +kernel
theorem dX8_said_94 : decode cX8_said 94 = .ok (.iload 4, 2) := by decide +kernel
theorem dX8_said_96 : decode cX8_said 96 = .ok (.iconst (-1), 1) := by decide +kernel
theorem dX8_said_97 : decode cX8_said 97 = .ok (.if_icmp .ne 8, 3) := by decide +kernel
theorem dX8_said_100 : decode cX8_said 100 = .ok (.iload 5, 2) := by decide +kernel
theorem dX8_said_102 : decode cX8_said 102 = .ok (.goto 5, 3) := by decide +kernel
theorem dX8_said_105 : decode cX8_said 105 = .ok (.bipush (-9), 2) := by decide +kernel
theorem dX8_said_107 : decode cX8_said 107 = .ok (.ireturn, 1) := by decide +kernel
theorem dX8_goodIn_0 : decode cX8_goodIn 0 = .ok (.iload_n 0, 1) := by decide +kernel
theorem dX8_goodIn_1 : decode cX8_goodIn 1 = .ok (.iconst 2, 1) := by decide +kernel
theorem dX8_goodIn_2 : decode cX8_goodIn 2 = .ok (.iload_n 1, 1) := by decide +kernel
theorem dX8_goodIn_3 : decode cX8_goodIn 3 = .ok (.imul, 1) := by decide +kernel
theorem dX8_goodIn_4 : decode cX8_goodIn 4 = .ok (.ishr, 1) := by decide +kernel
theorem dX8_goodIn_5 : decode cX8_goodIn 5 = .ok (.iconst 3, 1) := by decide +kernel
theorem dX8_goodIn_6 : decode cX8_goodIn 6 = .ok (.iand, 1) := by decide +kernel
theorem dX8_goodIn_7 : decode cX8_goodIn 7 = .ok (.ireturn, 1) := by decide +kernel
theorem dX8_exchanged_0 : decode cX8_exchanged 0 = .ok (.iload_n 1, 1) := by decide +kernel
theorem dX8_exchanged_1 : decode cX8_exchanged 1 = .ok (.iload_n 2, 1) := by decide +kernel
theorem dX8_exchanged_2 : decode cX8_exchanged 2 = .ok (.invokestatic 168, 3) := by decide +kernel
theorem dX8_exchanged_5 : decode cX8_exchanged 5 = .ok (.istore_n 3, 1) := by decide +kernel
theorem dX8_exchanged_6 : decode cX8_exchanged 6 = .ok (.iload_n 1, 1) := by decide +kernel
theorem dX8_exchanged_7 : decode cX8_exchanged 7 = .ok (.aload_n 0, 1) := by decide +kernel
theorem dX8_exchanged_8 : decode cX8_exchanged 8 = .ok (.iload_n 2, 1) := by decide +kernel
theorem dX8_exchanged_9 : decode cX8_exchanged 9 = .ok (.invokevirtual 147, 3) := by decide +kernel
theorem dX8_exchanged_12 : decode cX8_exchanged 12 = .ok (.invokestatic 168, 3) := by decide +kernel
theorem dX8_exchanged_15 : decode cX8_exchanged 15 = .ok (.istore 4, 2) := by decide +kernel
theorem dX8_exchanged_17 : decode cX8_exchanged 17 = .ok (.iload_n 1, 1) := by decide +kernel
theorem dX8_exchanged_18 : decode cX8_exchanged 18 = .ok (.iload_n 3, 1) := by decide +kernel
theorem dX8_exchanged_19 : decode cX8_exchanged 19 = .ok (.iload 4, 2) := by decide +kernel
theorem dX8_exchanged_21 : decode cX8_exchanged 21 = .ok (.ixor, 1) := by decide +kernel
theorem dX8_exchanged_22 : decode cX8_exchanged 22 = .ok (.iconst 2, 1) := by decide +kernel
theorem dX8_exchanged_23 : decode cX8_exchanged 23 = .ok (.iload_n 2, 1) := by decide +kernel
theorem dX8_exchanged_24 : decode cX8_exchanged 24 = .ok (.imul, 1) := by decide +kernel
theorem dX8_exchanged_25 : decode cX8_exchanged 25 = .ok (.ishl, 1) := by decide +kernel
theorem dX8_exchanged_26 : decode cX8_exchanged 26 = .ok (.ixor, 1) := by decide +kernel
theorem dX8_exchanged_27 : decode cX8_exchanged 27 = .ok (.iload_n 3, 1) := by decide +kernel
theorem dX8_exchanged_28 : decode cX8_exchanged 28 = .ok (.iload 4, 2) := by decide +kernel
theorem dX8_exchanged_30 : decode cX8_exchanged 30 = .ok (.ixor, 1) := by decide +kernel
theorem dX8_exchanged_31 : decode cX8_exchanged 31 = .ok (.iconst 2, 1) := by decide +kernel
theorem dX8_exchanged_32 : decode cX8_exchanged 32 = .ok (.aload_n 0, 1) := by decide +kernel
theorem dX8_exchanged_33 : decode cX8_exchanged 33 = .ok (.iload_n 2, 1) := by decide +kernel
theorem dX8_exchanged_34 : decode cX8_exchanged 34 = .ok (.invokevirtual 147, 3) := by decide +kernel
theorem dX8_exchanged_37 : decode cX8_exchanged 37 = .ok (.imul, 1) := by decide +kernel
theorem dX8_exchanged_38 : decode cX8_exchanged 38 = .ok (.ishl, 1) := by decide +kernel
theorem dX8_exchanged_39 : decode cX8_exchanged 39 = .ok (.ixor, 1) := by decide +kernel
theorem dX8_exchanged_40 : decode cX8_exchanged 40 = .ok (.ireturn, 1) := by decide +kernel
theorem dX8_mayBe_0 : decode cX8_mayBe 0 = .ok (.iconst 0, 1) := by decide +kernel
theorem dX8_mayBe_1 : decode cX8_mayBe 1 = .ok (.istore_n 2, 1) := by decide +kernel
theorem dX8_mayBe_2 : decode cX8_mayBe 2 = .ok (.iconst 0, 1) := by decide +kernel
theorem dX8_mayBe_3 : decode cX8_mayBe 3 = .ok (.istore_n 3, 1) := by decide +kernel
theorem dX8_mayBe_4 : decode cX8_mayBe 4 = .ok (.iload_n 3, 1) := by decide +kernel
theorem dX8_mayBe_5 : decode cX8_mayBe 5 = .ok (.aload_n 0, 1) := by decide +kernel
theorem dX8_mayBe_6 : decode cX8_mayBe 6 = .ok (.invokevirtual 93, 3) := by decide +kernel
theorem dX8_mayBe_9 : decode cX8_mayBe 9 = .ok (.if_icmp .ge 53, 3) := by decide +kernel
theorem dX8_mayBe_12 : decode cX8_mayBe 12 = .ok (.iload_n 1, 1) := by decide +kernel
theorem dX8_mayBe_13 : decode cX8_mayBe 13 = .ok (.iload_n 3, 1) := by decide +kernel
theorem dX8_mayBe_14 : decode cX8_mayBe 14 = .ok (.ishr, 1) := by decide +kernel
theorem dX8_mayBe_15 : decode cX8_mayBe 15 = .ok (.iconst 1, 1) := by decide +kernel
theorem dX8_mayBe_16 : decode cX8_mayBe 16 = .ok (.iand, 1) := by decide +kernel
theorem dX8_mayBe_17 : decode cX8_mayBe 17 = .ok (.iconst 1, 1) := by decide +kernel
theorem dX8_mayBe_18 : decode cX8_mayBe 18 = .ok (.if_icmp .ne 38, 3) := by decide +kernel
theorem dX8_mayBe_21 : decode cX8_mayBe 21 = .ok (.iconst 1, 1) := by decide +kernel
theorem dX8_mayBe_22 : decode cX8_mayBe 22 = .ok (.iload_n 3, 1) := by decide +kernel
theorem dX8_mayBe_23 : decode cX8_mayBe 23 = .ok (.ishl, 1) := by decide +kernel
theorem dX8_mayBe_24 : decode cX8_mayBe 24 = .ok (.iconst 1, 1) := by decide +kernel
theorem dX8_mayBe_25 : decode cX8_mayBe 25 = .ok (.aload_n 0, 1) := by decide +kernel
theorem dX8_mayBe_26 : decode cX8_mayBe 26 = .ok (.iload_n 3, 1) := by decide +kernel
theorem dX8_mayBe_27 : decode cX8_mayBe 27 = .ok (.invokevirtual 147, 3) := by decide +kernel
theorem dX8_mayBe_30 : decode cX8_mayBe 30 = .ok (.ishl, 1) := by decide +kernel
theorem dX8_mayBe_31 : decode cX8_mayBe 31 = .ok (.ior, 1) := by decide +kernel
theorem dX8_mayBe_32 : decode cX8_mayBe 32 = .ok (.istore 4, 2) := by decide +kernel
theorem dX8_mayBe_34 : decode cX8_mayBe 34 = .ok (.aload_n 0, 1) := by decide +kernel
theorem dX8_mayBe_35 : decode cX8_mayBe 35 = .ok (.iload_n 3, 1) := by decide +kernel
theorem dX8_mayBe_36 : decode cX8_mayBe 36 = .ok (.invokevirtual 144, 3) := by decide +kernel
theorem dX8_mayBe_39 : decode cX8_mayBe 39 = .ok (.ifCond .eq 10, 3) := by decide +kernel
theorem dX8_mayBe_42 : decode cX8_mayBe 42 = .ok (.iload_n 2, 1) := by decide +kernel
theorem dX8_mayBe_43 : decode cX8_mayBe 43 = .ok (.iload 4, 2) := by decide +kernel
theorem dX8_mayBe_45 : decode cX8_mayBe 45 = .ok (.iand, 1) := by decide +kernel
theorem dX8_mayBe_46 : decode cX8_mayBe 46 = .ok (.ifCond .eq 5, 3) := by decide +kernel
theorem dX8_mayBe_49 : decode cX8_mayBe 49 = .ok (.iconst 0, 1) := by decide +kernel
theorem dX8_mayBe_50 : decode cX8_mayBe 50 = .ok (.ireturn, 1) := by decide +kernel
theorem dX8_mayBe_51 : decode cX8_mayBe 51 = .ok (.iload_n 2, 1) := by decide +kernel
theorem dX8_mayBe_52 : decode cX8_mayBe 52 = .ok (.iload 4, 2) := by decide +kernel
theorem dX8_mayBe_54 : decode cX8_mayBe 54 = .ok (.ior, 1) := by decide +kernel
theorem dX8_mayBe_55 : decode cX8_mayBe 55 = .ok (.istore_n 2, 1) := by decide +kernel
theorem dX8_mayBe_56 : decode cX8_mayBe 56 = .ok (.iinc 3 1, 3) := by decide +kernel
theorem dX8_mayBe_59 : decode cX8_mayBe 59 = .ok (.goto (-55), 3) := by decide +kernel
theorem dX8_mayBe_62 : decode cX8_mayBe 62 = .ok (.iconst 1, 1) := by decide +kernel
theorem dX8_mayBe_63 : decode cX8_mayBe 63 = .ok (.ireturn, 1) := by decide +kernel
theorem dX8_after_0 : decode cX8_after 0 = .ok (.iload_n 1, 1) := by decide +kernel
theorem dX8_after_1 : decode cX8_after 1 = .ok (.istore_n 3, 1) := by decide +kernel
theorem dX8_after_2 : decode cX8_after 2 = .ok (.iconst 0, 1) := by decide +kernel
theorem dX8_after_3 : decode cX8_after 3 = .ok (.istore 4, 2) := by decide +kernel
theorem dX8_after_5 : decode cX8_after 5 = .ok (.iload 4, 2) := by decide +kernel
theorem dX8_after_7 : decode cX8_after 7 = .ok (.aload_n 0, 1) := by decide +kernel
theorem dX8_after_8 : decode cX8_after 8 = .ok (.invokevirtual 93, 3) := by decide +kernel
theorem dX8_after_11 : decode cX8_after 11 = .ok (.if_icmp .ge 31, 3) := by decide +kernel
theorem dX8_after_14 : decode cX8_after 14 = .ok (.iload_n 2, 1) := by decide +kernel
theorem dX8_after_15 : decode cX8_after 15 = .ok (.iload 4, 2) := by decide +kernel
theorem dX8_after_17 : decode cX8_after 17 = .ok (.ishr, 1) := by decide +kernel
theorem dX8_after_18 : decode cX8_after 18 = .ok (.iconst 1, 1) := by decide +kernel
theorem dX8_after_19 : decode cX8_after 19 = .ok (.iand, 1) := by decide +kernel
theorem dX8_after_20 : decode cX8_after 20 = .ok (.iconst 1, 1) := by decide +kernel
theorem dX8_after_21 : decode cX8_after 21 = .ok (.if_icmp .ne 13, 3) := by decide +kernel
theorem dX8_after_24 : decode cX8_after 24 = .ok (.aload_n 0, 1) := by decide +kernel
theorem dX8_after_25 : decode cX8_after 25 = .ok (.iload_n 3, 1) := by decide +kernel
theorem dX8_after_26 : decode cX8_after 26 = .ok (.iload 4, 2) := by decide +kernel
theorem dX8_after_28 : decode cX8_after 28 = .ok (.invokevirtual 171, 3) := by decide +kernel
theorem dX8_after_31 : decode cX8_after 31 = .ok (.goto 4, 3) := by decide +kernel
theorem dX8_after_34 : decode cX8_after 34 = .ok (.iload_n 3, 1) := by decide +kernel
theorem dX8_after_35 : decode cX8_after 35 = .ok (.istore_n 3, 1) := by decide +kernel
theorem dX8_after_36 : decode cX8_after 36 = .ok (.iinc 4 1, 3) := by decide +kernel
theorem dX8_after_39 : decode cX8_after 39 = .ok (.goto (-34), 3) := by decide +kernel
theorem dX8_after_42 : decode cX8_after 42 = .ok (.iload_n 3, 1) := by decide +kernel
theorem dX8_after_43 : decode cX8_after 43 = .ok (.ireturn, 1) := by decide +kernel
theorem dX8_reach_0 : decode cX8_reach 0 = .ok (.aload_n 0, 1) := by decide +kernel
theorem dX8_reach_1 : decode cX8_reach 1 = .ok (.getfield 49, 3) := by decide +kernel
theorem dX8_reach_4 : decode cX8_reach 4 = .ok (.iload_n 1, 1) := by decide +kernel
theorem dX8_reach_5 : decode cX8_reach 5 = .ok (.iaload, 1) := by decide +kernel
theorem dX8_reach_6 : decode cX8_reach 6 = .ok (.bipush (-9), 2) := by decide +kernel
theorem dX8_reach_8 : decode cX8_reach 8 = .ok (.if_icmp .ne 30, 3) := by decide +kernel
theorem dX8_reach_11 : decode cX8_reach 11 = .ok (.aload_n 0, 1) := by decide +kernel
theorem dX8_reach_12 : decode cX8_reach 12 = .ok (.getfield 49, 3) := by decide +kernel
theorem dX8_reach_15 : decode cX8_reach 15 = .ok (.iload_n 1, 1) := by decide +kernel
theorem dX8_reach_16 : decode cX8_reach 16 = .ok (.iload_n 2, 1) := by decide +kernel
theorem dX8_reach_17 : decode cX8_reach 17 = .ok (.iastore, 1) := by decide +kernel
theorem dX8_reach_18 : decode cX8_reach 18 = .ok (.aload_n 0, 1) := by decide +kernel
theorem dX8_reach_19 : decode cX8_reach 19 = .ok (.getfield 52, 3) := by decide +kernel
theorem dX8_reach_22 : decode cX8_reach 22 = .ok (.aload_n 0, 1) := by decide +kernel
theorem dX8_reach_23 : decode cX8_reach 23 = .ok (.getfield 174, 3) := by decide +kernel
theorem dX8_reach_26 : decode cX8_reach 26 = .ok (.iload_n 1, 1) := by decide +kernel
theorem dX8_reach_27 : decode cX8_reach 27 = .ok (.iastore, 1) := by decide +kernel
theorem dX8_reach_28 : decode cX8_reach 28 = .ok (.aload_n 0, 1) := by decide +kernel
theorem dX8_reach_29 : decode cX8_reach 29 = .ok (.dup, 1) := by decide +kernel
theorem dX8_reach_30 : decode cX8_reach 30 = .ok (.getfield 174, 3) := by decide +kernel
theorem dX8_reach_33 : decode cX8_reach 33 = .ok (.iconst 1, 1) := by decide +kernel
theorem dX8_reach_34 : decode cX8_reach 34 = .ok (.iadd, 1) := by decide +kernel
theorem dX8_reach_35 : decode cX8_reach 35 = .ok (.putfield 174, 3) := by decide +kernel
theorem dX8_reach_38 : decode cX8_reach 38 = .ok (.return_, 1) := by decide +kernel
theorem dX8_findSteps_0 : decode cX8_findSteps 0 = .ok (.iconst 0, 1) := by decide +kernel
theorem dX8_findSteps_1 : decode cX8_findSteps 1 = .ok (.istore_n 2, 1) := by decide +kernel
theorem dX8_findSteps_2 : decode cX8_findSteps 2 = .ok (.iload_n 2, 1) := by decide +kernel
theorem dX8_findSteps_3 : decode cX8_findSteps 3 = .ok (.sipush 16384, 3) := by decide +kernel
theorem dX8_findSteps_6 : decode cX8_findSteps 6 = .ok (.if_icmp .ge 17, 3) := by decide +kernel
theorem dX8_findSteps_9 : decode cX8_findSteps 9 = .ok (.aload_n 0, 1) := by decide +kernel
theorem dX8_findSteps_10 : decode cX8_findSteps 10 = .ok (.getfield 49, 3) := by decide +kernel
theorem dX8_findSteps_13 : decode cX8_findSteps 13 = .ok (.iload_n 2, 1) := by decide +kernel
theorem dX8_findSteps_14 : decode cX8_findSteps 14 = .ok (.bipush (-9), 2) := by decide +kernel
theorem dX8_findSteps_16 : decode cX8_findSteps 16 = .ok (.iastore, 1) := by decide +kernel
theorem dX8_findSteps_17 : decode cX8_findSteps 17 = .ok (.iinc 2 1, 3) := by decide +kernel
theorem dX8_findSteps_20 : decode cX8_findSteps 20 = .ok (.goto (-18), 3) := by decide +kernel
theorem dX8_findSteps_23 : decode cX8_findSteps 23 = .ok (.iconst 0, 1) := by decide +kernel
theorem dX8_findSteps_24 : decode cX8_findSteps 24 = .ok (.istore_n 2, 1) := by decide +kernel
theorem dX8_findSteps_25 : decode cX8_findSteps 25 = .ok (.iconst 0, 1) := by decide +kernel
theorem dX8_findSteps_26 : decode cX8_findSteps 26 = .ok (.istore_n 3, 1) := by decide +kernel
theorem dX8_findSteps_27 : decode cX8_findSteps 27 = .ok (.iconst 0, 1) := by decide +kernel
theorem dX8_findSteps_28 : decode cX8_findSteps 28 = .ok (.istore 4, 2) := by decide +kernel
theorem dX8_findSteps_30 : decode cX8_findSteps 30 = .ok (.iload 4, 2) := by decide +kernel
theorem dX8_findSteps_32 : decode cX8_findSteps 32 = .ok (.aload_n 0, 1) := by decide +kernel
theorem dX8_findSteps_33 : decode cX8_findSteps 33 = .ok (.getfield 86, 3) := by decide +kernel
theorem dX8_findSteps_36 : decode cX8_findSteps 36 = .ok (.if_icmp .ge 39, 3) := by decide +kernel
theorem dX8_findSteps_39 : decode cX8_findSteps 39 = .ok (.iload_n 2, 1) := by decide +kernel
theorem dX8_findSteps_40 : decode cX8_findSteps 40 = .ok (.aload_n 0, 1) := by decide +kernel
theorem dX8_findSteps_41 : decode cX8_findSteps 41 = .ok (.getfield 25, 3) := by decide +kernel
theorem dX8_findSteps_44 : decode cX8_findSteps 44 = .ok (.iload 4, 2) := by decide +kernel
theorem dX8_findSteps_46 : decode cX8_findSteps 46 = .ok (.iaload, 1) := by decide +kernel
theorem dX8_findSteps_47 : decode cX8_findSteps 47 = .ok (.iconst 2, 1) := by decide +kernel
theorem dX8_findSteps_48 : decode cX8_findSteps 48 = .ok (.iload 4, 2) := by decide +kernel
theorem dX8_findSteps_50 : decode cX8_findSteps 50 = .ok (.imul, 1) := by decide +kernel
theorem dX8_findSteps_51 : decode cX8_findSteps 51 = .ok (.ishl, 1) := by decide +kernel
theorem dX8_findSteps_52 : decode cX8_findSteps 52 = .ok (.ior, 1) := by decide +kernel
theorem dX8_findSteps_53 : decode cX8_findSteps 53 = .ok (.istore_n 2, 1) := by decide +kernel
theorem dX8_findSteps_54 : decode cX8_findSteps 54 = .ok (.iload_n 3, 1) := by decide +kernel
theorem dX8_findSteps_55 : decode cX8_findSteps 55 = .ok (.aload_n 0, 1) := by decide +kernel
theorem dX8_findSteps_56 : decode cX8_findSteps 56 = .ok (.getfield 28, 3) := by decide +kernel
theorem dX8_findSteps_59 : decode cX8_findSteps 59 = .ok (.iload 4, 2) := by decide +kernel
theorem dX8_findSteps_61 : decode cX8_findSteps 61 = .ok (.iaload, 1) := by decide +kernel
theorem dX8_findSteps_62 : decode cX8_findSteps 62 = .ok (.iconst 2, 1) := by decide +kernel
theorem dX8_findSteps_63 : decode cX8_findSteps 63 = .ok (.iload 4, 2) := by decide +kernel
theorem dX8_findSteps_65 : decode cX8_findSteps 65 = .ok (.imul, 1) := by decide +kernel
theorem dX8_findSteps_66 : decode cX8_findSteps 66 = .ok (.ishl, 1) := by decide +kernel
theorem dX8_findSteps_67 : decode cX8_findSteps 67 = .ok (.ior, 1) := by decide +kernel
theorem dX8_findSteps_68 : decode cX8_findSteps 68 = .ok (.istore_n 3, 1) := by decide +kernel
theorem dX8_findSteps_69 : decode cX8_findSteps 69 = .ok (.iinc 4 1, 3) := by decide +kernel
theorem dX8_findSteps_72 : decode cX8_findSteps 72 = .ok (.goto (-42), 3) := by decide +kernel
theorem dX8_findSteps_75 : decode cX8_findSteps 75 = .ok (.aload_n 0, 1) := by decide +kernel
theorem dX8_findSteps_76 : decode cX8_findSteps 76 = .ok (.iconst 0, 1) := by decide +kernel
theorem dX8_findSteps_77 : decode cX8_findSteps 77 = .ok (.putfield 174, 3) := by decide +kernel
theorem dX8_findSteps_80 : decode cX8_findSteps 80 = .ok (.aload_n 0, 1) := by decide +kernel
theorem dX8_findSteps_81 : decode cX8_findSteps 81 = .ok (.iload_n 2, 1) := by decide +kernel
theorem dX8_findSteps_82 : decode cX8_findSteps 82 = .ok (.iconst 0, 1) := by decide +kernel
theorem dX8_findSteps_83 : decode cX8_findSteps 83 = .ok (.invokevirtual 177, 3) := by decide +kernel
theorem dX8_findSteps_86 : decode cX8_findSteps 86 = .ok (.iconst 0, 1) := by decide +kernel
theorem dX8_findSteps_87 : decode cX8_findSteps 87 = .ok (.istore 4, 2) := by decide +kernel
theorem dX8_findSteps_89 : decode cX8_findSteps 89 = .ok (.iload 4, 2) := by decide +kernel
theorem dX8_findSteps_91 : decode cX8_findSteps 91 = .ok (.aload_n 0, 1) := by decide +kernel
theorem dX8_findSteps_92 : decode cX8_findSteps 92 = .ok (.getfield 174, 3) := by decide +kernel
theorem dX8_findSteps_95 : decode cX8_findSteps 95 = .ok (.if_icmp .ge 105, 3) := by decide +kernel
theorem dX8_findSteps_98 : decode cX8_findSteps 98 = .ok (.aload_n 0, 1) := by decide +kernel
theorem dX8_findSteps_99 : decode cX8_findSteps 99 = .ok (.getfield 49, 3) := by decide +kernel
theorem dX8_findSteps_102 : decode cX8_findSteps 102 = .ok (.iload_n 3, 1) := by decide +kernel
theorem dX8_findSteps_103 : decode cX8_findSteps 103 = .ok (.iaload, 1) := by decide +kernel
theorem dX8_findSteps_104 : decode cX8_findSteps 104 = .ok (.bipush (-9), 2) := by decide +kernel
theorem dX8_findSteps_106 : decode cX8_findSteps 106 = .ok (.if_icmp .ne 94, 3) := by decide +kernel
theorem dX8_findSteps_109 : decode cX8_findSteps 109 = .ok (.aload_n 0, 1) := by decide +kernel
theorem dX8_findSteps_110 : decode cX8_findSteps 110 = .ok (.getfield 52, 3) := by decide +kernel
theorem dX8_findSteps_113 : decode cX8_findSteps 113 = .ok (.iload 4, 2) := by decide +kernel
theorem dX8_findSteps_115 : decode cX8_findSteps 115 = .ok (.iaload, 1) := by decide +kernel
theorem dX8_findSteps_116 : decode cX8_findSteps 116 = .ok (.istore 5, 2) := by decide +kernel
theorem dX8_findSteps_118 : decode cX8_findSteps 118 = .ok (.iconst 1, 1) := by decide +kernel
theorem dX8_findSteps_119 : decode cX8_findSteps 119 = .ok (.istore 6, 2) := by decide +kernel
theorem dX8_findSteps_121 : decode cX8_findSteps 121 = .ok (.iload 6, 2) := by decide +kernel
theorem dX8_findSteps_123 : decode cX8_findSteps 123 = .ok (.iconst 1, 1) := by decide +kernel
theorem dX8_findSteps_124 : decode cX8_findSteps 124 = .ok (.aload_n 0, 1) := by decide +kernel
theorem dX8_findSteps_125 : decode cX8_findSteps 125 = .ok (.invokevirtual 93, 3) := by decide +kernel
theorem dX8_findSteps_128 : decode cX8_findSteps 128 = .ok (.ishl, 1) := by decide +kernel
theorem dX8_findSteps_129 : decode cX8_findSteps 129 = .ok (.if_icmp .ge 65, 3) := by decide +kernel
theorem dX8_findSteps_132 : decode cX8_findSteps 132 = .ok (.iload 6, 2) := by decide +kernel
theorem dX8_findSteps_134 : decode cX8_findSteps 134 = .ok (.iload 6, 2) := by decide +kernel
theorem dX8_findSteps_136 : decode cX8_findSteps 136 = .ok (.iconst 1, 1) := by decide +kernel
theorem dX8_findSteps_137 : decode cX8_findSteps 137 = .ok (.isub, 1) := by decide +kernel
theorem dX8_findSteps_138 : decode cX8_findSteps 138 = .ok (.iand, 1) := by decide +kernel
theorem dX8_findSteps_139 : decode cX8_findSteps 139 = .ok (.ifCond .ne 7, 3) := by decide +kernel
theorem dX8_findSteps_142 : decode cX8_findSteps 142 = .ok (.iconst 1, 1) := by decide +kernel
theorem dX8_findSteps_143 : decode cX8_findSteps 143 = .ok (.goto 4, 3) := by decide +kernel
theorem dX8_findSteps_146 : decode cX8_findSteps 146 = .ok (.iconst 0, 1) := by decide +kernel
theorem dX8_findSteps_147 : decode cX8_findSteps 147 = .ok (.istore 7, 2) := by decide +kernel
theorem dX8_findSteps_149 : decode cX8_findSteps 149 = .ok (.iload_n 1, 1) := by decide +kernel
theorem dX8_findSteps_150 : decode cX8_findSteps 150 = .ok (.ifCond .ne 8, 3) := by decide +kernel
theorem dX8_findSteps_153 : decode cX8_findSteps 153 = .ok (.iload 7, 2) := by decide +kernel
theorem dX8_findSteps_155 : decode cX8_findSteps 155 = .ok (.ifCond .eq 33, 3) := by decide +kernel
theorem dX8_findSteps_158 : decode cX8_findSteps 158 = .ok (.aload_n 0, 1) := by decide +kernel
theorem dX8_findSteps_159 : decode cX8_findSteps 159 = .ok (.iload 6, 2) := by decide +kernel
theorem dX8_findSteps_161 : decode cX8_findSteps 161 = .ok (.invokevirtual 180, 3) := by decide +kernel
theorem dX8_findSteps_164 : decode cX8_findSteps 164 = .ok (.ifCond .eq 24, 3) := by decide +kernel
theorem dX8_findSteps_167 : decode cX8_findSteps 167 = .ok (.aload_n 0, 1) := by decide +kernel
theorem dX8_findSteps_168 : decode cX8_findSteps 168 = .ok (.aload_n 0, 1) := by decide +kernel
theorem dX8_findSteps_169 : decode cX8_findSteps 169 = .ok (.iload 5, 2) := by decide +kernel
theorem dX8_findSteps_171 : decode cX8_findSteps 171 = .ok (.iload 6, 2) := by decide +kernel
theorem dX8_findSteps_173 : decode cX8_findSteps 173 = .ok (.invokevirtual 183, 3) := by decide +kernel
theorem dX8_findSteps_176 : decode cX8_findSteps 176 = .ok (.aload_n 0, 1) := by decide +kernel
theorem dX8_findSteps_177 : decode cX8_findSteps 177 = .ok (.getfield 49, 3) := by decide +kernel
theorem dX8_findSteps_180 : decode cX8_findSteps 180 = .ok (.iload 5, 2) := by decide +kernel
theorem dX8_findSteps_182 : decode cX8_findSteps 182 = .ok (.iaload, 1) := by decide +kernel
theorem dX8_findSteps_183 : decode cX8_findSteps 183 = .ok (.iconst 1, 1) := by decide +kernel
theorem dX8_findSteps_184 : decode cX8_findSteps 184 = .ok (.iadd, 1) := by decide +kernel
theorem dX8_findSteps_185 : decode cX8_findSteps 185 = .ok (.invokevirtual 177, 3) := by decide +kernel
theorem dX8_findSteps_188 : decode cX8_findSteps 188 = .ok (.iinc 6 1, 3) := by decide +kernel
theorem dX8_findSteps_191 : decode cX8_findSteps 191 = .ok (.goto (-70), 3) := by decide +kernel
theorem dX8_findSteps_194 : decode cX8_findSteps 194 = .ok (.iinc 4 1, 3) := by decide +kernel
theorem dX8_findSteps_197 : decode cX8_findSteps 197 = .ok (.goto (-108), 3) := by decide +kernel
theorem dX8_findSteps_200 : decode cX8_findSteps 200 = .ok (.aload_n 0, 1) := by decide +kernel
theorem dX8_findSteps_201 : decode cX8_findSteps 201 = .ok (.getfield 49, 3) := by decide +kernel
theorem dX8_findSteps_204 : decode cX8_findSteps 204 = .ok (.iload_n 3, 1) := by decide +kernel
theorem dX8_findSteps_205 : decode cX8_findSteps 205 = .ok (.iaload, 1) := by decide +kernel
theorem dX8_findSteps_206 : decode cX8_findSteps 206 = .ok (.ireturn, 1) := by decide +kernel
theorem dX8_fewest_0 : decode cX8_fewest 0 = .ok (.aload_n 0, 1) := by decide +kernel
theorem dX8_fewest_1 : decode cX8_fewest 1 = .ok (.getfield 86, 3) := by decide +kernel
theorem dX8_fewest_4 : decode cX8_fewest 4 = .ok (.ifCond .ne 8, 3) := by decide +kernel
theorem dX8_fewest_7 : decode cX8_fewest 7 = .ok (.bipush (-3), 2) := by decide +kernel
theorem dX8_fewest_9 : decode cX8_fewest 9 = .ok (.goto 8, 3) := by decide +kernel
theorem dX8_fewest_12 : decode cX8_fewest 12 = .ok (.aload_n 0, 1) := by decide +kernel
theorem dX8_fewest_13 : decode cX8_fewest 13 = .ok (.iconst 0, 1) := by decide +kernel
theorem dX8_fewest_14 : decode cX8_fewest 14 = .ok (.invokevirtual 186, 3) := by decide +kernel
theorem dX8_fewest_17 : decode cX8_fewest 17 = .ok (.ireturn, 1) := by decide +kernel
theorem dX8_soonest_0 : decode cX8_soonest 0 = .ok (.aload_n 0, 1) := by decide +kernel
theorem dX8_soonest_1 : decode cX8_soonest 1 = .ok (.getfield 86, 3) := by decide +kernel
theorem dX8_soonest_4 : decode cX8_soonest 4 = .ok (.ifCond .ne 8, 3) := by decide +kernel
theorem dX8_soonest_7 : decode cX8_soonest 7 = .ok (.bipush (-3), 2) := by decide +kernel
theorem dX8_soonest_9 : decode cX8_soonest 9 = .ok (.goto 8, 3) := by decide +kernel
theorem dX8_soonest_12 : decode cX8_soonest 12 = .ok (.aload_n 0, 1) := by decide +kernel
theorem dX8_soonest_13 : decode cX8_soonest 13 = .ok (.iconst 1, 1) := by decide +kernel
theorem dX8_soonest_14 : decode cX8_soonest 14 = .ok (.invokevirtual 186, 3) := by decide +kernel
theorem dX8_soonest_17 : decode cX8_soonest 17 = .ok (.ireturn, 1) := by decide +kernel
theorem dX8_cut_0 : decode cX8_cut 0 = .ok (.aload_n 0, 1) := by decide +kernel
theorem dX8_cut_1 : decode cX8_cut 1 = .ok (.iload_n 1, 1) := by decide +kernel
theorem dX8_cut_2 : decode cX8_cut 2 = .ok (.invokevirtual 141, 3) := by decide +kernel
theorem dX8_cut_5 : decode cX8_cut 5 = .ok (.ifCond .ne 5, 3) := by decide +kernel
theorem dX8_cut_8 : decode cX8_cut 8 = .ok (.iconst (-1), 1) := by decide +kernel
theorem dX8_cut_9 : decode cX8_cut 9 = .ok (.ireturn, 1) := by decide +kernel
theorem dX8_cut_10 : decode cX8_cut 10 = .ok (.aload_n 0, 1) := by decide +kernel
theorem dX8_cut_11 : decode cX8_cut 11 = .ok (.getfield 89, 3) := by decide +kernel
theorem dX8_cut_14 : decode cX8_cut 14 = .ok (.ifCond .eq 6, 3) := by decide +kernel
theorem dX8_cut_17 : decode cX8_cut 17 = .ok (.bipush (-3), 2) := by decide +kernel
theorem dX8_cut_19 : decode cX8_cut 19 = .ok (.ireturn, 1) := by decide +kernel
theorem dX8_cut_20 : decode cX8_cut 20 = .ok (.iconst 0, 1) := by decide +kernel
theorem dX8_cut_21 : decode cX8_cut 21 = .ok (.istore_n 2, 1) := by decide +kernel
theorem dX8_cut_22 : decode cX8_cut 22 = .ok (.iconst 0, 1) := by decide +kernel
theorem dX8_cut_23 : decode cX8_cut 23 = .ok (.istore_n 3, 1) := by decide +kernel
theorem dX8_cut_24 : decode cX8_cut 24 = .ok (.iload_n 3, 1) := by decide +kernel
theorem dX8_cut_25 : decode cX8_cut 25 = .ok (.iconst 4, 1) := by decide +kernel
theorem dX8_cut_26 : decode cX8_cut 26 = .ok (.if_icmp .ge 83, 3) := by decide +kernel
theorem dX8_cut_29 : decode cX8_cut 29 = .ok (.iconst 0, 1) := by decide +kernel
theorem dX8_cut_30 : decode cX8_cut 30 = .ok (.istore 4, 2) := by decide +kernel
theorem dX8_cut_32 : decode cX8_cut 32 = .ok (.iconst 0, 1) := by decide +kernel
theorem dX8_cut_33 : decode cX8_cut 33 = .ok (.istore 5, 2) := by decide +kernel
theorem dX8_cut_35 : decode cX8_cut 35 = .ok (.iload 5, 2) := by decide +kernel
theorem dX8_cut_37 : decode cX8_cut 37 = .ok (.iload_n 1, 1) := by decide +kernel
theorem dX8_cut_38 : decode cX8_cut 38 = .ok (.if_icmp .gt 51, 3) := by decide +kernel
theorem dX8_cut_41 : decode cX8_cut 41 = .ok (.iload 4, 2) := by decide +kernel
theorem dX8_cut_43 : decode cX8_cut 43 = .ok (.aload_n 0, 1) := by decide +kernel
theorem dX8_cut_44 : decode cX8_cut 44 = .ok (.getfield 25, 3) := by decide +kernel
theorem dX8_cut_47 : decode cX8_cut 47 = .ok (.iload 5, 2) := by decide +kernel
theorem dX8_cut_49 : decode cX8_cut 49 = .ok (.iaload, 1) := by decide +kernel
theorem dX8_cut_50 : decode cX8_cut 50 = .ok (.iload_n 3, 1) := by decide +kernel
theorem dX8_cut_51 : decode cX8_cut 51 = .ok (.if_icmp .ne 7, 3) := by decide +kernel
theorem dX8_cut_54 : decode cX8_cut 54 = .ok (.iconst 1, 1) := by decide +kernel
theorem dX8_cut_55 : decode cX8_cut 55 = .ok (.goto 4, 3) := by decide +kernel
theorem dX8_cut_58 : decode cX8_cut 58 = .ok (.iconst 0, 1) := by decide +kernel
theorem dX8_cut_59 : decode cX8_cut 59 = .ok (.iadd, 1) := by decide +kernel
theorem dX8_cut_60 : decode cX8_cut 60 = .ok (.istore 4, 2) := by decide +kernel
theorem dX8_cut_62 : decode cX8_cut 62 = .ok (.iload 4, 2) := by decide +kernel
theorem dX8_cut_64 : decode cX8_cut 64 = .ok (.aload_n 0, 1) := by decide +kernel
theorem dX8_cut_65 : decode cX8_cut 65 = .ok (.getfield 28, 3) := by decide +kernel
theorem dX8_cut_68 : decode cX8_cut 68 = .ok (.iload 5, 2) := by decide +kernel
theorem dX8_cut_70 : decode cX8_cut 70 = .ok (.iaload, 1) := by decide +kernel
theorem dX8_cut_71 : decode cX8_cut 71 = .ok (.iload_n 3, 1) := by decide +kernel
theorem dX8_cut_72 : decode cX8_cut 72 = .ok (.if_icmp .ne 7, 3) := by decide +kernel
theorem dX8_cut_75 : decode cX8_cut 75 = .ok (.iconst 1, 1) := by decide +kernel
theorem dX8_cut_76 : decode cX8_cut 76 = .ok (.goto 4, 3) := by decide +kernel
theorem dX8_cut_79 : decode cX8_cut 79 = .ok (.iconst 0, 1) := by decide +kernel
theorem dX8_cut_80 : decode cX8_cut 80 = .ok (.isub, 1) := by decide +kernel
theorem dX8_cut_81 : decode cX8_cut 81 = .ok (.istore 4, 2) := by decide +kernel
theorem dX8_cut_83 : decode cX8_cut 83 = .ok (.iinc 5 1, 3) := by decide +kernel
theorem dX8_cut_86 : decode cX8_cut 86 = .ok (.goto (-51), 3) := by decide +kernel
theorem dX8_cut_89 : decode cX8_cut 89 = .ok (.iload_n 2, 1) := by decide +kernel
theorem dX8_cut_90 : decode cX8_cut 90 = .ok (.iload 4, 2) := by decide +kernel
theorem dX8_cut_92 : decode cX8_cut 92 = .ok (.ifCond .le 8, 3) := by decide +kernel
theorem dX8_cut_95 : decode cX8_cut 95 = .ok (.iload 4, 2) := by decide +kernel
theorem dX8_cut_97 : decode cX8_cut 97 = .ok (.goto 4, 3) := by decide +kernel
theorem dX8_cut_100 : decode cX8_cut 100 = .ok (.iconst 0, 1) := by decide +kernel
theorem dX8_cut_101 : decode cX8_cut 101 = .ok (.iadd, 1) := by decide +kernel
theorem dX8_cut_102 : decode cX8_cut 102 = .ok (.istore_n 2, 1) := by decide +kernel
theorem dX8_cut_103 : decode cX8_cut 103 = .ok (.iinc 3 1, 3) := by decide +kernel
theorem dX8_cut_106 : decode cX8_cut 106 = .ok (.goto (-82), 3) := by decide +kernel
theorem dX8_cut_109 : decode cX8_cut 109 = .ok (.iload_n 2, 1) := by decide +kernel
theorem dX8_cut_110 : decode cX8_cut 110 = .ok (.ireturn, 1) := by decide +kernel
theorem dX8_order_0 : decode cX8_order 0 = .ok (.aload_n 0, 1) := by decide +kernel
theorem dX8_order_1 : decode cX8_order 1 = .ok (.iconst 0, 1) := by decide +kernel
theorem dX8_order_2 : decode cX8_order 2 = .ok (.putfield 76, 3) := by decide +kernel
theorem dX8_order_5 : decode cX8_order 5 = .ok (.iload_n 1, 1) := by decide +kernel
theorem dX8_order_6 : decode cX8_order 6 = .ok (.invokestatic 103, 3) := by decide +kernel
theorem dX8_order_9 : decode cX8_order 9 = .ok (.ifCond .ne 5, 3) := by decide +kernel
theorem dX8_order_12 : decode cX8_order 12 = .ok (.iconst (-1), 1) := by decide +kernel
theorem dX8_order_13 : decode cX8_order 13 = .ok (.ireturn, 1) := by decide +kernel
theorem dX8_order_14 : decode cX8_order 14 = .ok (.iload_n 2, 1) := by decide +kernel
theorem dX8_order_15 : decode cX8_order 15 = .ok (.invokestatic 107, 3) := by decide +kernel
theorem dX8_order_18 : decode cX8_order 18 = .ok (.ifCond .eq 13, 3) := by decide +kernel
theorem dX8_order_21 : decode cX8_order 21 = .ok (.iload 5, 2) := by decide +kernel
theorem dX8_order_23 : decode cX8_order 23 = .ok (.iconst 0, 1) := by decide +kernel
theorem dX8_order_24 : decode cX8_order 24 = .ok (.iconst 1, 1) := by decide +kernel
theorem dX8_order_25 : decode cX8_order 25 = .ok (.invokestatic 82, 3) := by decide +kernel
theorem dX8_order_28 : decode cX8_order 28 = .ok (.ifCond .ne 6, 3) := by decide +kernel
theorem dX8_order_31 : decode cX8_order 31 = .ok (.bipush (-2), 2) := by decide +kernel
theorem dX8_order_33 : decode cX8_order 33 = .ok (.ireturn, 1) := by decide +kernel
theorem dX8_order_34 : decode cX8_order 34 = .ok (.aload_n 0, 1) := by decide +kernel
theorem dX8_order_35 : decode cX8_order 35 = .ok (.iload_n 1, 1) := by decide +kernel
theorem dX8_order_36 : decode cX8_order 36 = .ok (.iload_n 2, 1) := by decide +kernel
theorem dX8_order_37 : decode cX8_order 37 = .ok (.iload_n 3, 1) := by decide +kernel
theorem dX8_order_38 : decode cX8_order 38 = .ok (.iload 4, 2) := by decide +kernel
theorem dX8_order_40 : decode cX8_order 40 = .ok (.invokevirtual 110, 3) := by decide +kernel
theorem dX8_order_43 : decode cX8_order 43 = .ok (.istore 6, 2) := by decide +kernel
theorem dX8_order_45 : decode cX8_order 45 = .ok (.iload 6, 2) := by decide +kernel
theorem dX8_order_47 : decode cX8_order 47 = .ok (.ifCond .eq 10, 3) := by decide +kernel
theorem dX8_order_50 : decode cX8_order 50 = .ok (.aload_n 0, 1) := by decide +kernel
theorem dX8_order_51 : decode cX8_order 51 = .ok (.iload 6, 2) := by decide +kernel
theorem dX8_order_53 : decode cX8_order 53 = .ok (.invokevirtual 114, 3) := by decide +kernel
theorem dX8_order_56 : decode cX8_order 56 = .ok (.ireturn, 1) := by decide +kernel
theorem dX8_order_57 : decode cX8_order 57 = .ok (.aload_n 0, 1) := by decide +kernel
theorem dX8_order_58 : decode cX8_order 58 = .ok (.getfield 86, 3) := by decide +kernel
theorem dX8_order_61 : decode cX8_order 61 = .ok (.ifCond .ne 6, 3) := by decide +kernel
theorem dX8_order_64 : decode cX8_order 64 = .ok (.bipush (-3), 2) := by decide +kernel
theorem dX8_order_66 : decode cX8_order 66 = .ok (.ireturn, 1) := by decide +kernel
theorem dX8_order_67 : decode cX8_order 67 = .ok (.iload 4, 2) := by decide +kernel
theorem dX8_order_69 : decode cX8_order 69 = .ok (.aload_n 0, 1) := by decide +kernel
theorem dX8_order_70 : decode cX8_order 70 = .ok (.getfield 86, 3) := by decide +kernel
theorem dX8_order_73 : decode cX8_order 73 = .ok (.if_icmp .eq 6, 3) := by decide +kernel
theorem dX8_order_76 : decode cX8_order 76 = .ok (.bipush (-2), 2) := by decide +kernel
theorem dX8_order_78 : decode cX8_order 78 = .ok (.ireturn, 1) := by decide +kernel
theorem dX8_order_79 : decode cX8_order 79 = .ok (.iconst 0, 1) := by decide +kernel
theorem dX8_order_80 : decode cX8_order 80 = .ok (.istore 7, 2) := by decide +kernel
theorem dX8_order_82 : decode cX8_order 82 = .ok (.iconst 0, 1) := by decide +kernel
theorem dX8_order_83 : decode cX8_order 83 = .ok (.istore 8, 2) := by decide +kernel
theorem dX8_order_85 : decode cX8_order 85 = .ok (.iload 8, 2) := by decide +kernel
theorem dX8_order_87 : decode cX8_order 87 = .ok (.iload 4, 2) := by decide +kernel
theorem dX8_order_89 : decode cX8_order 89 = .ok (.if_icmp .ge 65, 3) := by decide +kernel
theorem dX8_order_92 : decode cX8_order 92 = .ok (.aload_n 0, 1) := by decide +kernel
theorem dX8_order_93 : decode cX8_order 93 = .ok (.getfield 16, 3) := by decide +kernel
theorem dX8_order_96 : decode cX8_order 96 = .ok (.bipush 50, 2) := by decide +kernel
theorem dX8_order_98 : decode cX8_order 98 = .ok (.iload_n 1, 1) := by decide +kernel
theorem dX8_order_99 : decode cX8_order 99 = .ok (.imul, 1) := by decide +kernel
theorem dX8_order_100 : decode cX8_order 100 = .ok (.iload_n 3, 1) := by decide +kernel
theorem dX8_order_101 : decode cX8_order 101 = .ok (.iadd, 1) := by decide +kernel
theorem dX8_order_102 : decode cX8_order 102 = .ok (.iload 8, 2) := by decide +kernel
theorem dX8_order_104 : decode cX8_order 104 = .ok (.iadd, 1) := by decide +kernel
theorem dX8_order_105 : decode cX8_order 105 = .ok (.iaload, 1) := by decide +kernel
theorem dX8_order_106 : decode cX8_order 106 = .ok (.istore 9, 2) := by decide +kernel
theorem dX8_order_108 : decode cX8_order 108 = .ok (.aload_n 0, 1) := by decide +kernel
theorem dX8_order_109 : decode cX8_order 109 = .ok (.iload 9, 2) := by decide +kernel
theorem dX8_order_111 : decode cX8_order 111 = .ok (.invokevirtual 138, 3) := by decide +kernel
theorem dX8_order_114 : decode cX8_order 114 = .ok (.ifCond .eq 14, 3) := by decide +kernel
theorem dX8_order_117 : decode cX8_order 117 = .ok (.iload 7, 2) := by decide +kernel
theorem dX8_order_119 : decode cX8_order 119 = .ok (.iload 9, 2) := by decide +kernel
theorem dX8_order_121 : decode cX8_order 121 = .ok (.ishr, 1) := by decide +kernel
theorem dX8_order_122 : decode cX8_order 122 = .ok (.iconst 1, 1) := by decide +kernel
theorem dX8_order_123 : decode cX8_order 123 = .ok (.iand, 1) := by decide +kernel
theorem dX8_order_124 : decode cX8_order 124 = .ok (.iconst 1, 1) := by decide +kernel
theorem dX8_order_125 : decode cX8_order 125 = .ok (.if_icmp .ne 5, 3) := by decide +kernel
theorem dX8_order_128 : decode cX8_order 128 = .ok (.iconst (-1), 1) := by decide +kernel
theorem dX8_order_129 : decode cX8_order 129 = .ok (.ireturn, 1) := by decide +kernel
theorem dX8_order_130 : decode cX8_order 130 = .ok (.iload 7, 2) := by decide +kernel
theorem dX8_order_132 : decode cX8_order 132 = .ok (.iconst 1, 1) := by decide +kernel
theorem dX8_order_133 : decode cX8_order 133 = .ok (.iload 9, 2) := by decide +kernel
theorem dX8_order_135 : decode cX8_order 135 = .ok (.ishl, 1) := by decide +kernel
theorem dX8_order_136 : decode cX8_order 136 = .ok (.ior, 1) := by decide +kernel
theorem dX8_order_137 : decode cX8_order 137 = .ok (.istore 7, 2) := by decide +kernel
theorem dX8_order_139 : decode cX8_order 139 = .ok (.aload_n 0, 1) := by decide +kernel
theorem dX8_order_140 : decode cX8_order 140 = .ok (.getfield 55, 3) := by decide +kernel
theorem dX8_order_143 : decode cX8_order 143 = .ok (.iload 9, 2) := by decide +kernel
theorem dX8_order_145 : decode cX8_order 145 = .ok (.iload 8, 2) := by decide +kernel
theorem dX8_order_147 : decode cX8_order 147 = .ok (.iastore, 1) := by decide +kernel
theorem dX8_order_148 : decode cX8_order 148 = .ok (.iinc 8 1, 3) := by decide +kernel
theorem dX8_order_151 : decode cX8_order 151 = .ok (.goto (-66), 3) := by decide +kernel
theorem dX8_order_154 : decode cX8_order 154 = .ok (.iload 5, 2) := by decide +kernel
theorem dX8_order_156 : decode cX8_order 156 = .ok (.iconst 1, 1) := by decide +kernel
theorem dX8_order_157 : decode cX8_order 157 = .ok (.if_icmp .ne 10, 3) := by decide +kernel
theorem dX8_order_160 : decode cX8_order 160 = .ok (.aload_n 0, 1) := by decide +kernel
theorem dX8_order_161 : decode cX8_order 161 = .ok (.invokevirtual 190, 3) := by decide +kernel
theorem dX8_order_164 : decode cX8_order 164 = .ok (.goto 21, 3) := by decide +kernel
theorem dX8_order_167 : decode cX8_order 167 = .ok (.aload_n 0, 1) := by decide +kernel
theorem dX8_order_168 : decode cX8_order 168 = .ok (.invokevirtual 190, 3) := by decide +kernel
theorem dX8_order_171 : decode cX8_order 171 = .ok (.bipush (-9), 2) := by decide +kernel
theorem dX8_order_173 : decode cX8_order 173 = .ok (.if_icmp .eq 8, 3) := by decide +kernel
theorem dX8_order_176 : decode cX8_order 176 = .ok (.bipush (-9), 2) := by decide +kernel
theorem dX8_order_178 : decode cX8_order 178 = .ok (.goto 7, 3) := by decide +kernel
theorem dX8_order_181 : decode cX8_order 181 = .ok (.aload_n 0, 1) := by decide +kernel
theorem dX8_order_182 : decode cX8_order 182 = .ok (.invokevirtual 193, 3) := by decide +kernel
theorem dX8_order_185 : decode cX8_order 185 = .ok (.ireturn, 1) := by decide +kernel
theorem dX8_changes_0 : decode cX8_changes 0 = .ok (.iconst 0, 1) := by decide +kernel
theorem dX8_changes_1 : decode cX8_changes 1 = .ok (.istore_n 1, 1) := by decide +kernel
theorem dX8_changes_2 : decode cX8_changes 2 = .ok (.iconst 0, 1) := by decide +kernel
theorem dX8_changes_3 : decode cX8_changes 3 = .ok (.istore_n 2, 1) := by decide +kernel
theorem dX8_changes_4 : decode cX8_changes 4 = .ok (.iload_n 2, 1) := by decide +kernel
theorem dX8_changes_5 : decode cX8_changes 5 = .ok (.aload_n 0, 1) := by decide +kernel
theorem dX8_changes_6 : decode cX8_changes 6 = .ok (.getfield 86, 3) := by decide +kernel
theorem dX8_changes_9 : decode cX8_changes 9 = .ok (.if_icmp .ge 50, 3) := by decide +kernel
theorem dX8_changes_12 : decode cX8_changes 12 = .ok (.iload_n 2, 1) := by decide +kernel
theorem dX8_changes_13 : decode cX8_changes 13 = .ok (.iconst 1, 1) := by decide +kernel
theorem dX8_changes_14 : decode cX8_changes 14 = .ok (.iadd, 1) := by decide +kernel
theorem dX8_changes_15 : decode cX8_changes 15 = .ok (.istore_n 3, 1) := by decide +kernel
theorem dX8_changes_16 : decode cX8_changes 16 = .ok (.iload_n 3, 1) := by decide +kernel
theorem dX8_changes_17 : decode cX8_changes 17 = .ok (.aload_n 0, 1) := by decide +kernel
theorem dX8_changes_18 : decode cX8_changes 18 = .ok (.getfield 86, 3) := by decide +kernel
theorem dX8_changes_21 : decode cX8_changes 21 = .ok (.if_icmp .ge 32, 3) := by decide +kernel
theorem dX8_changes_24 : decode cX8_changes 24 = .ok (.iload_n 1, 1) := by decide +kernel
theorem dX8_changes_25 : decode cX8_changes 25 = .ok (.aload_n 0, 1) := by decide +kernel
theorem dX8_changes_26 : decode cX8_changes 26 = .ok (.getfield 55, 3) := by decide +kernel
theorem dX8_changes_29 : decode cX8_changes 29 = .ok (.iload_n 3, 1) := by decide +kernel
theorem dX8_changes_30 : decode cX8_changes 30 = .ok (.iaload, 1) := by decide +kernel
theorem dX8_changes_31 : decode cX8_changes 31 = .ok (.aload_n 0, 1) := by decide +kernel
theorem dX8_changes_32 : decode cX8_changes 32 = .ok (.getfield 55, 3) := by decide +kernel
theorem dX8_changes_35 : decode cX8_changes 35 = .ok (.iload_n 2, 1) := by decide +kernel
theorem dX8_changes_36 : decode cX8_changes 36 = .ok (.iaload, 1) := by decide +kernel
theorem dX8_changes_37 : decode cX8_changes 37 = .ok (.if_icmp .ge 7, 3) := by decide +kernel
theorem dX8_changes_40 : decode cX8_changes 40 = .ok (.iconst 1, 1) := by decide +kernel
theorem dX8_changes_41 : decode cX8_changes 41 = .ok (.goto 4, 3) := by decide +kernel
theorem dX8_changes_44 : decode cX8_changes 44 = .ok (.iconst 0, 1) := by decide +kernel
theorem dX8_changes_45 : decode cX8_changes 45 = .ok (.iadd, 1) := by decide +kernel
theorem dX8_changes_46 : decode cX8_changes 46 = .ok (.istore_n 1, 1) := by decide +kernel
theorem dX8_changes_47 : decode cX8_changes 47 = .ok (.iinc 3 1, 3) := by decide +kernel
theorem dX8_changes_50 : decode cX8_changes 50 = .ok (.goto (-34), 3) := by decide +kernel
theorem dX8_changes_53 : decode cX8_changes 53 = .ok (.iinc 2 1, 3) := by decide +kernel
theorem dX8_changes_56 : decode cX8_changes 56 = .ok (.goto (-52), 3) := by decide +kernel
theorem dX8_changes_59 : decode cX8_changes 59 = .ok (.iload_n 1, 1) := by decide +kernel
theorem dX8_changes_60 : decode cX8_changes 60 = .ok (.ireturn, 1) := by decide +kernel
theorem dX8_barred_0 : decode cX8_barred 0 = .ok (.iconst 0, 1) := by decide +kernel
theorem dX8_barred_1 : decode cX8_barred 1 = .ok (.istore_n 1, 1) := by decide +kernel
theorem dX8_barred_2 : decode cX8_barred 2 = .ok (.iload_n 1, 1) := by decide +kernel
theorem dX8_barred_3 : decode cX8_barred 3 = .ok (.aload_n 0, 1) := by decide +kernel
theorem dX8_barred_4 : decode cX8_barred 4 = .ok (.getfield 86, 3) := by decide +kernel
theorem dX8_barred_7 : decode cX8_barred 7 = .ok (.if_icmp .ge 64, 3) := by decide +kernel
theorem dX8_barred_10 : decode cX8_barred 10 = .ok (.iload_n 1, 1) := by decide +kernel
theorem dX8_barred_11 : decode cX8_barred 11 = .ok (.iconst 1, 1) := by decide +kernel
theorem dX8_barred_12 : decode cX8_barred 12 = .ok (.iadd, 1) := by decide +kernel
theorem dX8_barred_13 : decode cX8_barred 13 = .ok (.istore_n 2, 1) := by decide +kernel
theorem dX8_barred_14 : decode cX8_barred 14 = .ok (.iload_n 2, 1) := by decide +kernel
theorem dX8_barred_15 : decode cX8_barred 15 = .ok (.aload_n 0, 1) := by decide +kernel
theorem dX8_barred_16 : decode cX8_barred 16 = .ok (.getfield 86, 3) := by decide +kernel
theorem dX8_barred_19 : decode cX8_barred 19 = .ok (.if_icmp .ge 46, 3) := by decide +kernel
end
section
theorem dX8_barred_22 : decode cX8_barred 22 = .ok (.aload_n 0, 1) := by decide +kernel
theorem dX8_barred_23 : decode cX8_barred 23 = .ok (.getfield 55, 3) := by decide +kernel
theorem dX8_barred_26 : decode cX8_barred 26 = .ok (.iload_n 2, 1) := by decide +kernel
theorem dX8_barred_27 : decode cX8_barred 27 = .ok (.iaload, 1) := by decide +kernel
theorem dX8_barred_28 : decode cX8_barred 28 = .ok (.aload_n 0, 1) := by decide +kernel
theorem dX8_barred_29 : decode cX8_barred 29 = .ok (.getfield 55, 3) := by decide +kernel
theorem dX8_barred_32 : decode cX8_barred 32 = .ok (.iload_n 1, 1) := by decide +kernel
theorem dX8_barred_33 : decode cX8_barred 33 = .ok (.iaload, 1) := by decide +kernel
theorem dX8_barred_34 : decode cX8_barred 34 = .ok (.if_icmp .ge 25, 3) := by decide +kernel
theorem dX8_barred_37 : decode cX8_barred 37 = .ok (.aload_n 0, 1) := by decide +kernel
theorem dX8_barred_38 : decode cX8_barred 38 = .ok (.getfield 22, 3) := by decide +kernel
theorem dX8_barred_41 : decode cX8_barred 41 = .ok (.iload_n 2, 1) := by decide +kernel
theorem dX8_barred_42 : decode cX8_barred 42 = .ok (.iaload, 1) := by decide +kernel
theorem dX8_barred_43 : decode cX8_barred 43 = .ok (.aload_n 0, 1) := by decide +kernel
theorem dX8_barred_44 : decode cX8_barred 44 = .ok (.getfield 22, 3) := by decide +kernel
theorem dX8_barred_47 : decode cX8_barred 47 = .ok (.iload_n 1, 1) := by decide +kernel
theorem dX8_barred_48 : decode cX8_barred 48 = .ok (.iaload, 1) := by decide +kernel
theorem dX8_barred_49 : decode cX8_barred 49 = .ok (.if_icmp .ge 10, 3) := by decide +kernel
theorem dX8_barred_52 : decode cX8_barred 52 = .ok (.bipush 10, 2) := by decide +kernel
theorem dX8_barred_54 : decode cX8_barred 54 = .ok (.iload_n 1, 1) := by decide +kernel
theorem dX8_barred_55 : decode cX8_barred 55 = .ok (.imul, 1) := by decide +kernel
theorem dX8_barred_56 : decode cX8_barred 56 = .ok (.iload_n 2, 1) := by decide +kernel
theorem dX8_barred_57 : decode cX8_barred 57 = .ok (.iadd, 1) := by decide +kernel
theorem dX8_barred_58 : decode cX8_barred 58 = .ok (.ireturn, 1) := by decide +kernel
theorem dX8_barred_59 : decode cX8_barred 59 = .ok (.iinc 2 1, 3) := by decide +kernel
theorem dX8_barred_62 : decode cX8_barred 62 = .ok (.goto (-48), 3) := by decide +kernel
theorem dX8_barred_65 : decode cX8_barred 65 = .ok (.iinc 1 1, 3) := by decide +kernel
theorem dX8_barred_68 : decode cX8_barred 68 = .ok (.goto (-66), 3) := by decide +kernel
theorem dX8_barred_71 : decode cX8_barred 71 = .ok (.bipush (-9), 2) := by decide +kernel
theorem dX8_barred_73 : decode cX8_barred 73 = .ok (.ireturn, 1) := by decide +kernel
theorem dX8_mayStand_0 : decode cX8_mayStand 0 = .ok (.iconst 0, 1) := by decide +kernel
theorem dX8_mayStand_1 : decode cX8_mayStand 1 = .ok (.istore_n 3, 1) := by decide +kernel
theorem dX8_mayStand_2 : decode cX8_mayStand 2 = .ok (.iload_n 3, 1) := by decide +kernel
theorem dX8_mayStand_3 : decode cX8_mayStand 3 = .ok (.iload_n 1, 1) := by decide +kernel
theorem dX8_mayStand_4 : decode cX8_mayStand 4 = .ok (.if_icmp .ge 34, 3) := by decide +kernel
theorem dX8_mayStand_7 : decode cX8_mayStand 7 = .ok (.aload_n 0, 1) := by decide +kernel
theorem dX8_mayStand_8 : decode cX8_mayStand 8 = .ok (.getfield 22, 3) := by decide +kernel
theorem dX8_mayStand_11 : decode cX8_mayStand 11 = .ok (.iload_n 1, 1) := by decide +kernel
theorem dX8_mayStand_12 : decode cX8_mayStand 12 = .ok (.iaload, 1) := by decide +kernel
theorem dX8_mayStand_13 : decode cX8_mayStand 13 = .ok (.aload_n 0, 1) := by decide +kernel
theorem dX8_mayStand_14 : decode cX8_mayStand 14 = .ok (.getfield 22, 3) := by decide +kernel
theorem dX8_mayStand_17 : decode cX8_mayStand 17 = .ok (.iload_n 3, 1) := by decide +kernel
theorem dX8_mayStand_18 : decode cX8_mayStand 18 = .ok (.iaload, 1) := by decide +kernel
theorem dX8_mayStand_19 : decode cX8_mayStand 19 = .ok (.if_icmp .ge 13, 3) := by decide +kernel
theorem dX8_mayStand_22 : decode cX8_mayStand 22 = .ok (.iload_n 2, 1) := by decide +kernel
theorem dX8_mayStand_23 : decode cX8_mayStand 23 = .ok (.iload_n 3, 1) := by decide +kernel
theorem dX8_mayStand_24 : decode cX8_mayStand 24 = .ok (.ishr, 1) := by decide +kernel
theorem dX8_mayStand_25 : decode cX8_mayStand 25 = .ok (.iconst 1, 1) := by decide +kernel
theorem dX8_mayStand_26 : decode cX8_mayStand 26 = .ok (.iand, 1) := by decide +kernel
theorem dX8_mayStand_27 : decode cX8_mayStand 27 = .ok (.ifCond .ne 5, 3) := by decide +kernel
theorem dX8_mayStand_30 : decode cX8_mayStand 30 = .ok (.iconst 0, 1) := by decide +kernel
theorem dX8_mayStand_31 : decode cX8_mayStand 31 = .ok (.ireturn, 1) := by decide +kernel
theorem dX8_mayStand_32 : decode cX8_mayStand 32 = .ok (.iinc 3 1, 3) := by decide +kernel
theorem dX8_mayStand_35 : decode cX8_mayStand 35 = .ok (.goto (-33), 3) := by decide +kernel
theorem dX8_mayStand_38 : decode cX8_mayStand 38 = .ok (.iconst 1, 1) := by decide +kernel
theorem dX8_mayStand_39 : decode cX8_mayStand 39 = .ok (.ireturn, 1) := by decide +kernel
theorem dX8_coming_0 : decode cX8_coming 0 = .ok (.aload_n 0, 1) := by decide +kernel
theorem dX8_coming_1 : decode cX8_coming 1 = .ok (.getfield 86, 3) := by decide +kernel
theorem dX8_coming_4 : decode cX8_coming 4 = .ok (.ifCond .ne 6, 3) := by decide +kernel
theorem dX8_coming_7 : decode cX8_coming 7 = .ok (.bipush (-3), 2) := by decide +kernel
theorem dX8_coming_9 : decode cX8_coming 9 = .ok (.ireturn, 1) := by decide +kernel
theorem dX8_coming_10 : decode cX8_coming 10 = .ok (.iconst 1, 1) := by decide +kernel
theorem dX8_coming_11 : decode cX8_coming 11 = .ok (.aload_n 0, 1) := by decide +kernel
theorem dX8_coming_12 : decode cX8_coming 12 = .ok (.getfield 86, 3) := by decide +kernel
theorem dX8_coming_15 : decode cX8_coming 15 = .ok (.ishl, 1) := by decide +kernel
theorem dX8_coming_16 : decode cX8_coming 16 = .ok (.istore_n 1, 1) := by decide +kernel
theorem dX8_coming_17 : decode cX8_coming 17 = .ok (.iconst 0, 1) := by decide +kernel
theorem dX8_coming_18 : decode cX8_coming 18 = .ok (.istore_n 2, 1) := by decide +kernel
theorem dX8_coming_19 : decode cX8_coming 19 = .ok (.iload_n 2, 1) := by decide +kernel
theorem dX8_coming_20 : decode cX8_coming 20 = .ok (.iload_n 1, 1) := by decide +kernel
theorem dX8_coming_21 : decode cX8_coming 21 = .ok (.if_icmp .ge 24, 3) := by decide +kernel
theorem dX8_coming_24 : decode cX8_coming 24 = .ok (.aload_n 0, 1) := by decide +kernel
theorem dX8_coming_25 : decode cX8_coming 25 = .ok (.getfield 58, 3) := by decide +kernel
theorem dX8_coming_28 : decode cX8_coming 28 = .ok (.iload_n 2, 1) := by decide +kernel
theorem dX8_coming_29 : decode cX8_coming 29 = .ok (.iload_n 2, 1) := by decide +kernel
theorem dX8_coming_30 : decode cX8_coming 30 = .ok (.ifCond .ne 7, 3) := by decide +kernel
theorem dX8_coming_33 : decode cX8_coming 33 = .ok (.iconst 1, 1) := by decide +kernel
theorem dX8_coming_34 : decode cX8_coming 34 = .ok (.goto 4, 3) := by decide +kernel
theorem dX8_coming_37 : decode cX8_coming 37 = .ok (.iconst 0, 1) := by decide +kernel
theorem dX8_coming_38 : decode cX8_coming 38 = .ok (.iastore, 1) := by decide +kernel
theorem dX8_coming_39 : decode cX8_coming 39 = .ok (.iinc 2 1, 3) := by decide +kernel
theorem dX8_coming_42 : decode cX8_coming 42 = .ok (.goto (-23), 3) := by decide +kernel
theorem dX8_coming_45 : decode cX8_coming 45 = .ok (.iconst 0, 1) := by decide +kernel
theorem dX8_coming_46 : decode cX8_coming 46 = .ok (.istore_n 2, 1) := by decide +kernel
theorem dX8_coming_47 : decode cX8_coming 47 = .ok (.iload_n 2, 1) := by decide +kernel
theorem dX8_coming_48 : decode cX8_coming 48 = .ok (.iload_n 1, 1) := by decide +kernel
theorem dX8_coming_49 : decode cX8_coming 49 = .ok (.if_icmp .ge 61, 3) := by decide +kernel
theorem dX8_coming_52 : decode cX8_coming 52 = .ok (.iconst 0, 1) := by decide +kernel
theorem dX8_coming_53 : decode cX8_coming 53 = .ok (.istore_n 3, 1) := by decide +kernel
theorem dX8_coming_54 : decode cX8_coming 54 = .ok (.iload_n 3, 1) := by decide +kernel
theorem dX8_coming_55 : decode cX8_coming 55 = .ok (.aload_n 0, 1) := by decide +kernel
theorem dX8_coming_56 : decode cX8_coming 56 = .ok (.getfield 86, 3) := by decide +kernel
theorem dX8_coming_59 : decode cX8_coming 59 = .ok (.if_icmp .ge 45, 3) := by decide +kernel
theorem dX8_coming_62 : decode cX8_coming 62 = .ok (.iload_n 2, 1) := by decide +kernel
theorem dX8_coming_63 : decode cX8_coming 63 = .ok (.iload_n 3, 1) := by decide +kernel
theorem dX8_coming_64 : decode cX8_coming 64 = .ok (.ishr, 1) := by decide +kernel
theorem dX8_coming_65 : decode cX8_coming 65 = .ok (.iconst 1, 1) := by decide +kernel
theorem dX8_coming_66 : decode cX8_coming 66 = .ok (.iand, 1) := by decide +kernel
theorem dX8_coming_67 : decode cX8_coming 67 = .ok (.ifCond .ne 31, 3) := by decide +kernel
theorem dX8_coming_70 : decode cX8_coming 70 = .ok (.aload_n 0, 1) := by decide +kernel
theorem dX8_coming_71 : decode cX8_coming 71 = .ok (.iload_n 3, 1) := by decide +kernel
theorem dX8_coming_72 : decode cX8_coming 72 = .ok (.iload_n 2, 1) := by decide +kernel
theorem dX8_coming_73 : decode cX8_coming 73 = .ok (.invokevirtual 196, 3) := by decide +kernel
theorem dX8_coming_76 : decode cX8_coming 76 = .ok (.ifCond .eq 22, 3) := by decide +kernel
theorem dX8_coming_79 : decode cX8_coming 79 = .ok (.aload_n 0, 1) := by decide +kernel
theorem dX8_coming_80 : decode cX8_coming 80 = .ok (.getfield 58, 3) := by decide +kernel
theorem dX8_coming_83 : decode cX8_coming 83 = .ok (.iload_n 2, 1) := by decide +kernel
theorem dX8_coming_84 : decode cX8_coming 84 = .ok (.iconst 1, 1) := by decide +kernel
theorem dX8_coming_85 : decode cX8_coming 85 = .ok (.iload_n 3, 1) := by decide +kernel
theorem dX8_coming_86 : decode cX8_coming 86 = .ok (.ishl, 1) := by decide +kernel
theorem dX8_coming_87 : decode cX8_coming 87 = .ok (.ior, 1) := by decide +kernel
theorem dX8_coming_88 : decode cX8_coming 88 = .ok (.dup2, 1) := by decide +kernel
theorem dX8_coming_89 : decode cX8_coming 89 = .ok (.iaload, 1) := by decide +kernel
theorem dX8_coming_90 : decode cX8_coming 90 = .ok (.aload_n 0, 1) := by decide +kernel
theorem dX8_coming_91 : decode cX8_coming 91 = .ok (.getfield 58, 3) := by decide +kernel
theorem dX8_coming_94 : decode cX8_coming 94 = .ok (.iload_n 2, 1) := by decide +kernel
theorem dX8_coming_95 : decode cX8_coming 95 = .ok (.iaload, 1) := by decide +kernel
theorem dX8_coming_96 : decode cX8_coming 96 = .ok (.iadd, 1) := by decide +kernel
theorem dX8_coming_97 : decode cX8_coming 97 = .ok (.iastore, 1) := by decide +kernel
theorem dX8_coming_98 : decode cX8_coming 98 = .ok (.iinc 3 1, 3) := by decide +kernel
theorem dX8_coming_101 : decode cX8_coming 101 = .ok (.goto (-47), 3) := by decide +kernel
theorem dX8_coming_104 : decode cX8_coming 104 = .ok (.iinc 2 1, 3) := by decide +kernel
theorem dX8_coming_107 : decode cX8_coming 107 = .ok (.goto (-60), 3) := by decide +kernel
theorem dX8_coming_110 : decode cX8_coming 110 = .ok (.aload_n 0, 1) := by decide +kernel
theorem dX8_coming_111 : decode cX8_coming 111 = .ok (.getfield 58, 3) := by decide +kernel
theorem dX8_coming_114 : decode cX8_coming 114 = .ok (.iload_n 1, 1) := by decide +kernel
theorem dX8_coming_115 : decode cX8_coming 115 = .ok (.iconst 1, 1) := by decide +kernel
theorem dX8_coming_116 : decode cX8_coming 116 = .ok (.isub, 1) := by decide +kernel
theorem dX8_coming_117 : decode cX8_coming 117 = .ok (.iaload, 1) := by decide +kernel
theorem dX8_coming_118 : decode cX8_coming 118 = .ok (.ireturn, 1) := by decide +kernel
theorem dX8_readers_0 : decode cX8_readers 0 = .ok (.iload_n 2, 1) := by decide +kernel
theorem dX8_readers_1 : decode cX8_readers 1 = .ok (.iload_n 1, 1) := by decide +kernel
theorem dX8_readers_2 : decode cX8_readers 2 = .ok (.isub, 1) := by decide +kernel
theorem dX8_readers_3 : decode cX8_readers 3 = .ok (.istore_n 3, 1) := by decide +kernel
theorem dX8_readers_4 : decode cX8_readers 4 = .ok (.aload_n 0, 1) := by decide +kernel
theorem dX8_readers_5 : decode cX8_readers 5 = .ok (.getfield 89, 3) := by decide +kernel
theorem dX8_readers_8 : decode cX8_readers 8 = .ok (.ifCond .eq 22, 3) := by decide +kernel
theorem dX8_readers_11 : decode cX8_readers 11 = .ok (.aload_n 0, 1) := by decide +kernel
theorem dX8_readers_12 : decode cX8_readers 12 = .ok (.getfield 86, 3) := by decide +kernel
theorem dX8_readers_15 : decode cX8_readers 15 = .ok (.iload_n 3, 1) := by decide +kernel
theorem dX8_readers_16 : decode cX8_readers 16 = .ok (.isub, 1) := by decide +kernel
theorem dX8_readers_17 : decode cX8_readers 17 = .ok (.iload_n 3, 1) := by decide +kernel
theorem dX8_readers_18 : decode cX8_readers 18 = .ok (.if_icmp .ge 12, 3) := by decide +kernel
theorem dX8_readers_21 : decode cX8_readers 21 = .ok (.aload_n 0, 1) := by decide +kernel
theorem dX8_readers_22 : decode cX8_readers 22 = .ok (.getfield 86, 3) := by decide +kernel
theorem dX8_readers_25 : decode cX8_readers 25 = .ok (.iload_n 3, 1) := by decide +kernel
theorem dX8_readers_26 : decode cX8_readers 26 = .ok (.isub, 1) := by decide +kernel
theorem dX8_readers_27 : decode cX8_readers 27 = .ok (.goto 4, 3) := by decide +kernel
theorem dX8_readers_30 : decode cX8_readers 30 = .ok (.iload_n 3, 1) := by decide +kernel
theorem dX8_readers_31 : decode cX8_readers 31 = .ok (.iconst 1, 1) := by decide +kernel
theorem dX8_readers_32 : decode cX8_readers 32 = .ok (.isub, 1) := by decide +kernel
theorem dX8_readers_33 : decode cX8_readers 33 = .ok (.ireturn, 1) := by decide +kernel
theorem dX8_layLetters_0 : decode cX8_layLetters 0 = .ok (.iconst 1, 1) := by decide +kernel
theorem dX8_layLetters_1 : decode cX8_layLetters 1 = .ok (.aload_n 0, 1) := by decide +kernel
theorem dX8_layLetters_2 : decode cX8_layLetters 2 = .ok (.getfield 86, 3) := by decide +kernel
theorem dX8_layLetters_5 : decode cX8_layLetters 5 = .ok (.ishl, 1) := by decide +kernel
theorem dX8_layLetters_6 : decode cX8_layLetters 6 = .ok (.iconst 1, 1) := by decide +kernel
theorem dX8_layLetters_7 : decode cX8_layLetters 7 = .ok (.isub, 1) := by decide +kernel
theorem dX8_layLetters_8 : decode cX8_layLetters 8 = .ok (.istore_n 1, 1) := by decide +kernel
theorem dX8_layLetters_9 : decode cX8_layLetters 9 = .ok (.iload_n 1, 1) := by decide +kernel
theorem dX8_layLetters_10 : decode cX8_layLetters 10 = .ok (.istore_n 2, 1) := by decide +kernel
theorem dX8_layLetters_11 : decode cX8_layLetters 11 = .ok (.iload_n 2, 1) := by decide +kernel
theorem dX8_layLetters_12 : decode cX8_layLetters 12 = .ok (.ifCond .lt 150, 3) := by decide +kernel
theorem dX8_layLetters_15 : decode cX8_layLetters 15 = .ok (.iconst 0, 1) := by decide +kernel
theorem dX8_layLetters_16 : decode cX8_layLetters 16 = .ok (.istore_n 3, 1) := by decide +kernel
theorem dX8_layLetters_17 : decode cX8_layLetters 17 = .ok (.iload_n 3, 1) := by decide +kernel
theorem dX8_layLetters_18 : decode cX8_layLetters 18 = .ok (.aload_n 0, 1) := by decide +kernel
theorem dX8_layLetters_19 : decode cX8_layLetters 19 = .ok (.getfield 86, 3) := by decide +kernel
theorem dX8_layLetters_22 : decode cX8_layLetters 22 = .ok (.if_icmp .ge 18, 3) := by decide +kernel
theorem dX8_layLetters_25 : decode cX8_layLetters 25 = .ok (.iload_n 2, 1) := by decide +kernel
theorem dX8_layLetters_26 : decode cX8_layLetters 26 = .ok (.iload_n 3, 1) := by decide +kernel
theorem dX8_layLetters_27 : decode cX8_layLetters 27 = .ok (.ishr, 1) := by decide +kernel
theorem dX8_layLetters_28 : decode cX8_layLetters 28 = .ok (.iconst 1, 1) := by decide +kernel
theorem dX8_layLetters_29 : decode cX8_layLetters 29 = .ok (.iand, 1) := by decide +kernel
theorem dX8_layLetters_30 : decode cX8_layLetters 30 = .ok (.iconst 1, 1) := by decide +kernel
theorem dX8_layLetters_31 : decode cX8_layLetters 31 = .ok (.if_icmp .ne 9, 3) := by decide +kernel
theorem dX8_layLetters_34 : decode cX8_layLetters 34 = .ok (.iinc 3 1, 3) := by decide +kernel
theorem dX8_layLetters_37 : decode cX8_layLetters 37 = .ok (.goto (-20), 3) := by decide +kernel
theorem dX8_layLetters_40 : decode cX8_layLetters 40 = .ok (.aload_n 0, 1) := by decide +kernel
theorem dX8_layLetters_41 : decode cX8_layLetters 41 = .ok (.getfield 61, 3) := by decide +kernel
theorem dX8_layLetters_44 : decode cX8_layLetters 44 = .ok (.iload_n 2, 1) := by decide +kernel
theorem dX8_layLetters_45 : decode cX8_layLetters 45 = .ok (.iload_n 2, 1) := by decide +kernel
theorem dX8_layLetters_46 : decode cX8_layLetters 46 = .ok (.iload_n 1, 1) := by decide +kernel
theorem dX8_layLetters_47 : decode cX8_layLetters 47 = .ok (.if_icmp .ne 7, 3) := by decide +kernel
theorem dX8_layLetters_50 : decode cX8_layLetters 50 = .ok (.iconst 0, 1) := by decide +kernel
theorem dX8_layLetters_51 : decode cX8_layLetters 51 = .ok (.goto 6, 3) := by decide +kernel
theorem dX8_layLetters_54 : decode cX8_layLetters 54 = .ok (.sipush 1000, 3) := by decide +kernel
theorem dX8_layLetters_57 : decode cX8_layLetters 57 = .ok (.iastore, 1) := by decide +kernel
theorem dX8_layLetters_58 : decode cX8_layLetters 58 = .ok (.iload_n 3, 1) := by decide +kernel
theorem dX8_layLetters_59 : decode cX8_layLetters 59 = .ok (.iconst 1, 1) := by decide +kernel
theorem dX8_layLetters_60 : decode cX8_layLetters 60 = .ok (.iadd, 1) := by decide +kernel
theorem dX8_layLetters_61 : decode cX8_layLetters 61 = .ok (.istore 4, 2) := by decide +kernel
theorem dX8_layLetters_63 : decode cX8_layLetters 63 = .ok (.iload 4, 2) := by decide +kernel
theorem dX8_layLetters_65 : decode cX8_layLetters 65 = .ok (.aload_n 0, 1) := by decide +kernel
theorem dX8_layLetters_66 : decode cX8_layLetters 66 = .ok (.getfield 86, 3) := by decide +kernel
theorem dX8_layLetters_69 : decode cX8_layLetters 69 = .ok (.if_icmp .ge 87, 3) := by decide +kernel
theorem dX8_layLetters_72 : decode cX8_layLetters 72 = .ok (.iload_n 2, 1) := by decide +kernel
theorem dX8_layLetters_73 : decode cX8_layLetters 73 = .ok (.iload 4, 2) := by decide +kernel
theorem dX8_layLetters_75 : decode cX8_layLetters 75 = .ok (.ishr, 1) := by decide +kernel
theorem dX8_layLetters_76 : decode cX8_layLetters 76 = .ok (.iconst 1, 1) := by decide +kernel
theorem dX8_layLetters_77 : decode cX8_layLetters 77 = .ok (.iand, 1) := by decide +kernel
theorem dX8_layLetters_78 : decode cX8_layLetters 78 = .ok (.ifCond .ne 72, 3) := by decide +kernel
theorem dX8_layLetters_81 : decode cX8_layLetters 81 = .ok (.aload_n 0, 1) := by decide +kernel
theorem dX8_layLetters_82 : decode cX8_layLetters 82 = .ok (.getfield 28, 3) := by decide +kernel
theorem dX8_layLetters_85 : decode cX8_layLetters 85 = .ok (.iload_n 3, 1) := by decide +kernel
theorem dX8_layLetters_86 : decode cX8_layLetters 86 = .ok (.iaload, 1) := by decide +kernel
theorem dX8_layLetters_87 : decode cX8_layLetters 87 = .ok (.aload_n 0, 1) := by decide +kernel
theorem dX8_layLetters_88 : decode cX8_layLetters 88 = .ok (.getfield 28, 3) := by decide +kernel
theorem dX8_layLetters_91 : decode cX8_layLetters 91 = .ok (.iload 4, 2) := by decide +kernel
theorem dX8_layLetters_93 : decode cX8_layLetters 93 = .ok (.iaload, 1) := by decide +kernel
theorem dX8_layLetters_94 : decode cX8_layLetters 94 = .ok (.if_icmp .eq 56, 3) := by decide +kernel
theorem dX8_layLetters_97 : decode cX8_layLetters 97 = .ok (.aload_n 0, 1) := by decide +kernel
theorem dX8_layLetters_98 : decode cX8_layLetters 98 = .ok (.iload_n 3, 1) := by decide +kernel
theorem dX8_layLetters_99 : decode cX8_layLetters 99 = .ok (.iload 4, 2) := by decide +kernel
theorem dX8_layLetters_101 : decode cX8_layLetters 101 = .ok (.invokevirtual 199, 3) := by decide +kernel
theorem dX8_layLetters_104 : decode cX8_layLetters 104 = .ok (.aload_n 0, 1) := by decide +kernel
theorem dX8_layLetters_105 : decode cX8_layLetters 105 = .ok (.getfield 61, 3) := by decide +kernel
theorem dX8_layLetters_108 : decode cX8_layLetters 108 = .ok (.iload_n 2, 1) := by decide +kernel
theorem dX8_layLetters_109 : decode cX8_layLetters 109 = .ok (.iconst 1, 1) := by decide +kernel
theorem dX8_layLetters_110 : decode cX8_layLetters 110 = .ok (.iload_n 3, 1) := by decide +kernel
theorem dX8_layLetters_111 : decode cX8_layLetters 111 = .ok (.ishl, 1) := by decide +kernel
theorem dX8_layLetters_112 : decode cX8_layLetters 112 = .ok (.ior, 1) := by decide +kernel
theorem dX8_layLetters_113 : decode cX8_layLetters 113 = .ok (.iconst 1, 1) := by decide +kernel
theorem dX8_layLetters_114 : decode cX8_layLetters 114 = .ok (.iload 4, 2) := by decide +kernel
theorem dX8_layLetters_116 : decode cX8_layLetters 116 = .ok (.ishl, 1) := by decide +kernel
theorem dX8_layLetters_117 : decode cX8_layLetters 117 = .ok (.ior, 1) := by decide +kernel
theorem dX8_layLetters_118 : decode cX8_layLetters 118 = .ok (.iaload, 1) := by decide +kernel
theorem dX8_layLetters_119 : decode cX8_layLetters 119 = .ok (.iadd, 1) := by decide +kernel
theorem dX8_layLetters_120 : decode cX8_layLetters 120 = .ok (.istore 5, 2) := by decide +kernel
theorem dX8_layLetters_122 : decode cX8_layLetters 122 = .ok (.aload_n 0, 1) := by decide +kernel
theorem dX8_layLetters_123 : decode cX8_layLetters 123 = .ok (.getfield 61, 3) := by decide +kernel
theorem dX8_layLetters_126 : decode cX8_layLetters 126 = .ok (.iload_n 2, 1) := by decide +kernel
theorem dX8_layLetters_127 : decode cX8_layLetters 127 = .ok (.iload 5, 2) := by decide +kernel
theorem dX8_layLetters_129 : decode cX8_layLetters 129 = .ok (.aload_n 0, 1) := by decide +kernel
theorem dX8_layLetters_130 : decode cX8_layLetters 130 = .ok (.getfield 61, 3) := by decide +kernel
theorem dX8_layLetters_133 : decode cX8_layLetters 133 = .ok (.iload_n 2, 1) := by decide +kernel
theorem dX8_layLetters_134 : decode cX8_layLetters 134 = .ok (.iaload, 1) := by decide +kernel
theorem dX8_layLetters_135 : decode cX8_layLetters 135 = .ok (.if_icmp .ge 8, 3) := by decide +kernel
theorem dX8_layLetters_138 : decode cX8_layLetters 138 = .ok (.iload 5, 2) := by decide +kernel
theorem dX8_layLetters_140 : decode cX8_layLetters 140 = .ok (.goto 9, 3) := by decide +kernel
theorem dX8_layLetters_143 : decode cX8_layLetters 143 = .ok (.aload_n 0, 1) := by decide +kernel
theorem dX8_layLetters_144 : decode cX8_layLetters 144 = .ok (.getfield 61, 3) := by decide +kernel
theorem dX8_layLetters_147 : decode cX8_layLetters 147 = .ok (.iload_n 2, 1) := by decide +kernel
theorem dX8_layLetters_148 : decode cX8_layLetters 148 = .ok (.iaload, 1) := by decide +kernel
theorem dX8_layLetters_149 : decode cX8_layLetters 149 = .ok (.iastore, 1) := by decide +kernel
theorem dX8_layLetters_150 : decode cX8_layLetters 150 = .ok (.iinc 4 1, 3) := by decide +kernel
theorem dX8_layLetters_153 : decode cX8_layLetters 153 = .ok (.goto (-90), 3) := by decide +kernel
theorem dX8_layLetters_156 : decode cX8_layLetters 156 = .ok (.iinc 2 (-1), 3) := by decide +kernel
theorem dX8_layLetters_159 : decode cX8_layLetters 159 = .ok (.goto (-148), 3) := by decide +kernel
theorem dX8_layLetters_162 : decode cX8_layLetters 162 = .ok (.return_, 1) := by decide +kernel
theorem dX8_mateOf_0 : decode cX8_mateOf 0 = .ok (.iconst 0, 1) := by decide +kernel
theorem dX8_mateOf_1 : decode cX8_mateOf 1 = .ok (.istore_n 2, 1) := by decide +kernel
theorem dX8_mateOf_2 : decode cX8_mateOf 2 = .ok (.iconst 0, 1) := by decide +kernel
theorem dX8_mateOf_3 : decode cX8_mateOf 3 = .ok (.istore_n 3, 1) := by decide +kernel
theorem dX8_mateOf_4 : decode cX8_mateOf 4 = .ok (.iload_n 2, 1) := by decide +kernel
theorem dX8_mateOf_5 : decode cX8_mateOf 5 = .ok (.iload_n 3, 1) := by decide +kernel
theorem dX8_mateOf_6 : decode cX8_mateOf 6 = .ok (.ishr, 1) := by decide +kernel
theorem dX8_mateOf_7 : decode cX8_mateOf 7 = .ok (.iconst 1, 1) := by decide +kernel
theorem dX8_mateOf_8 : decode cX8_mateOf 8 = .ok (.iand, 1) := by decide +kernel
theorem dX8_mateOf_9 : decode cX8_mateOf 9 = .ok (.iconst 1, 1) := by decide +kernel
theorem dX8_mateOf_10 : decode cX8_mateOf 10 = .ok (.if_icmp .ne 9, 3) := by decide +kernel
theorem dX8_mateOf_13 : decode cX8_mateOf 13 = .ok (.iinc 3 1, 3) := by decide +kernel
theorem dX8_mateOf_16 : decode cX8_mateOf 16 = .ok (.goto (-12), 3) := by decide +kernel
theorem dX8_mateOf_19 : decode cX8_mateOf 19 = .ok (.iload_n 3, 1) := by decide +kernel
theorem dX8_mateOf_20 : decode cX8_mateOf 20 = .ok (.iconst 1, 1) := by decide +kernel
theorem dX8_mateOf_21 : decode cX8_mateOf 21 = .ok (.iadd, 1) := by decide +kernel
theorem dX8_mateOf_22 : decode cX8_mateOf 22 = .ok (.istore 4, 2) := by decide +kernel
theorem dX8_mateOf_24 : decode cX8_mateOf 24 = .ok (.iload_n 2, 1) := by decide +kernel
theorem dX8_mateOf_25 : decode cX8_mateOf 25 = .ok (.iload 4, 2) := by decide +kernel
theorem dX8_mateOf_27 : decode cX8_mateOf 27 = .ok (.ishr, 1) := by decide +kernel
theorem dX8_mateOf_28 : decode cX8_mateOf 28 = .ok (.iconst 1, 1) := by decide +kernel
theorem dX8_mateOf_29 : decode cX8_mateOf 29 = .ok (.iand, 1) := by decide +kernel
theorem dX8_mateOf_30 : decode cX8_mateOf 30 = .ok (.iconst 1, 1) := by decide +kernel
theorem dX8_mateOf_31 : decode cX8_mateOf 31 = .ok (.if_icmp .eq 51, 3) := by decide +kernel
theorem dX8_mateOf_34 : decode cX8_mateOf 34 = .ok (.aload_n 0, 1) := by decide +kernel
theorem dX8_mateOf_35 : decode cX8_mateOf 35 = .ok (.getfield 28, 3) := by decide +kernel
theorem dX8_mateOf_38 : decode cX8_mateOf 38 = .ok (.iload_n 3, 1) := by decide +kernel
theorem dX8_mateOf_39 : decode cX8_mateOf 39 = .ok (.iaload, 1) := by decide +kernel
theorem dX8_mateOf_40 : decode cX8_mateOf 40 = .ok (.aload_n 0, 1) := by decide +kernel
theorem dX8_mateOf_41 : decode cX8_mateOf 41 = .ok (.getfield 28, 3) := by decide +kernel
theorem dX8_mateOf_44 : decode cX8_mateOf 44 = .ok (.iload 4, 2) := by decide +kernel
theorem dX8_mateOf_46 : decode cX8_mateOf 46 = .ok (.iaload, 1) := by decide +kernel
theorem dX8_mateOf_47 : decode cX8_mateOf 47 = .ok (.if_icmp .eq 35, 3) := by decide +kernel
theorem dX8_mateOf_50 : decode cX8_mateOf 50 = .ok (.aload_n 0, 1) := by decide +kernel
theorem dX8_mateOf_51 : decode cX8_mateOf 51 = .ok (.iload_n 3, 1) := by decide +kernel
theorem dX8_mateOf_52 : decode cX8_mateOf 52 = .ok (.iload 4, 2) := by decide +kernel
theorem dX8_mateOf_54 : decode cX8_mateOf 54 = .ok (.invokevirtual 199, 3) := by decide +kernel
theorem dX8_mateOf_57 : decode cX8_mateOf 57 = .ok (.aload_n 0, 1) := by decide +kernel
theorem dX8_mateOf_58 : decode cX8_mateOf 58 = .ok (.getfield 61, 3) := by decide +kernel
theorem dX8_mateOf_61 : decode cX8_mateOf 61 = .ok (.iload_n 2, 1) := by decide +kernel
theorem dX8_mateOf_62 : decode cX8_mateOf 62 = .ok (.iconst 1, 1) := by decide +kernel
theorem dX8_mateOf_63 : decode cX8_mateOf 63 = .ok (.iload_n 3, 1) := by decide +kernel
theorem dX8_mateOf_64 : decode cX8_mateOf 64 = .ok (.ishl, 1) := by decide +kernel
theorem dX8_mateOf_65 : decode cX8_mateOf 65 = .ok (.ior, 1) := by decide +kernel
theorem dX8_mateOf_66 : decode cX8_mateOf 66 = .ok (.iconst 1, 1) := by decide +kernel
theorem dX8_mateOf_67 : decode cX8_mateOf 67 = .ok (.iload 4, 2) := by decide +kernel
theorem dX8_mateOf_69 : decode cX8_mateOf 69 = .ok (.ishl, 1) := by decide +kernel
theorem dX8_mateOf_70 : decode cX8_mateOf 70 = .ok (.ior, 1) := by decide +kernel
theorem dX8_mateOf_71 : decode cX8_mateOf 71 = .ok (.iaload, 1) := by decide +kernel
theorem dX8_mateOf_72 : decode cX8_mateOf 72 = .ok (.iadd, 1) := by decide +kernel
theorem dX8_mateOf_73 : decode cX8_mateOf 73 = .ok (.aload_n 0, 1) := by decide +kernel
theorem dX8_mateOf_74 : decode cX8_mateOf 74 = .ok (.getfield 61, 3) := by decide +kernel
theorem dX8_mateOf_77 : decode cX8_mateOf 77 = .ok (.iload_n 2, 1) := by decide +kernel
theorem dX8_mateOf_78 : decode cX8_mateOf 78 = .ok (.iaload, 1) := by decide +kernel
theorem dX8_mateOf_79 : decode cX8_mateOf 79 = .ok (.if_icmp .eq 9, 3) := by decide +kernel
theorem dX8_mateOf_82 : decode cX8_mateOf 82 = .ok (.iinc 4 1, 3) := by decide +kernel
theorem dX8_mateOf_85 : decode cX8_mateOf 85 = .ok (.goto (-61), 3) := by decide +kernel
theorem dX8_mateOf_88 : decode cX8_mateOf 88 = .ok (.iload_n 3, 1) := by decide +kernel
theorem dX8_mateOf_89 : decode cX8_mateOf 89 = .ok (.iload_n 1, 1) := by decide +kernel
theorem dX8_mateOf_90 : decode cX8_mateOf 90 = .ok (.if_icmp .eq 9, 3) := by decide +kernel
theorem dX8_mateOf_93 : decode cX8_mateOf 93 = .ok (.iload 4, 2) := by decide +kernel
theorem dX8_mateOf_95 : decode cX8_mateOf 95 = .ok (.iload_n 1, 1) := by decide +kernel
theorem dX8_mateOf_96 : decode cX8_mateOf 96 = .ok (.if_icmp .ne 15, 3) := by decide +kernel
theorem dX8_mateOf_99 : decode cX8_mateOf 99 = .ok (.iload_n 3, 1) := by decide +kernel
theorem dX8_mateOf_100 : decode cX8_mateOf 100 = .ok (.iload_n 1, 1) := by decide +kernel
theorem dX8_mateOf_101 : decode cX8_mateOf 101 = .ok (.if_icmp .ne 8, 3) := by decide +kernel
theorem dX8_mateOf_104 : decode cX8_mateOf 104 = .ok (.iload 4, 2) := by decide +kernel
theorem dX8_mateOf_106 : decode cX8_mateOf 106 = .ok (.goto 4, 3) := by decide +kernel
theorem dX8_mateOf_109 : decode cX8_mateOf 109 = .ok (.iload_n 3, 1) := by decide +kernel
theorem dX8_mateOf_110 : decode cX8_mateOf 110 = .ok (.ireturn, 1) := by decide +kernel
theorem dX8_mateOf_111 : decode cX8_mateOf 111 = .ok (.iload_n 2, 1) := by decide +kernel
theorem dX8_mateOf_112 : decode cX8_mateOf 112 = .ok (.iconst 1, 1) := by decide +kernel
theorem dX8_mateOf_113 : decode cX8_mateOf 113 = .ok (.iload_n 3, 1) := by decide +kernel
theorem dX8_mateOf_114 : decode cX8_mateOf 114 = .ok (.ishl, 1) := by decide +kernel
theorem dX8_mateOf_115 : decode cX8_mateOf 115 = .ok (.iconst 1, 1) := by decide +kernel
theorem dX8_mateOf_116 : decode cX8_mateOf 116 = .ok (.iload 4, 2) := by decide +kernel
theorem dX8_mateOf_118 : decode cX8_mateOf 118 = .ok (.ishl, 1) := by decide +kernel
theorem dX8_mateOf_119 : decode cX8_mateOf 119 = .ok (.ior, 1) := by decide +kernel
theorem dX8_mateOf_120 : decode cX8_mateOf 120 = .ok (.ior, 1) := by decide +kernel
theorem dX8_mateOf_121 : decode cX8_mateOf 121 = .ok (.istore_n 2, 1) := by decide +kernel
theorem dX8_mateOf_122 : decode cX8_mateOf 122 = .ok (.goto (-120), 3) := by decide +kernel
theorem dX8_letters_0 : decode cX8_letters 0 = .ok (.iload_n 1, 1) := by decide +kernel
theorem dX8_letters_1 : decode cX8_letters 1 = .ok (.iconst (-1), 1) := by decide +kernel
theorem dX8_letters_2 : decode cX8_letters 2 = .ok (.if_icmp .eq 13, 3) := by decide +kernel
theorem dX8_letters_5 : decode cX8_letters 5 = .ok (.aload_n 0, 1) := by decide +kernel
theorem dX8_letters_6 : decode cX8_letters 6 = .ok (.iload_n 1, 1) := by decide +kernel
theorem dX8_letters_7 : decode cX8_letters 7 = .ok (.invokevirtual 138, 3) := by decide +kernel
theorem dX8_letters_10 : decode cX8_letters 10 = .ok (.ifCond .ne 5, 3) := by decide +kernel
theorem dX8_letters_13 : decode cX8_letters 13 = .ok (.iconst (-1), 1) := by decide +kernel
theorem dX8_letters_14 : decode cX8_letters 14 = .ok (.ireturn, 1) := by decide +kernel
theorem dX8_letters_15 : decode cX8_letters 15 = .ok (.aload_n 0, 1) := by decide +kernel
theorem dX8_letters_16 : decode cX8_letters 16 = .ok (.getfield 86, 3) := by decide +kernel
theorem dX8_letters_19 : decode cX8_letters 19 = .ok (.ifCond .ne 6, 3) := by decide +kernel
theorem dX8_letters_22 : decode cX8_letters 22 = .ok (.bipush (-3), 2) := by decide +kernel
theorem dX8_letters_24 : decode cX8_letters 24 = .ok (.ireturn, 1) := by decide +kernel
theorem dX8_letters_25 : decode cX8_letters 25 = .ok (.aload_n 0, 1) := by decide +kernel
theorem dX8_letters_26 : decode cX8_letters 26 = .ok (.invokevirtual 202, 3) := by decide +kernel
theorem dX8_letters_29 : decode cX8_letters 29 = .ok (.aload_n 0, 1) := by decide +kernel
theorem dX8_letters_30 : decode cX8_letters 30 = .ok (.getfield 61, 3) := by decide +kernel
theorem dX8_letters_33 : decode cX8_letters 33 = .ok (.iconst 0, 1) := by decide +kernel
theorem dX8_letters_34 : decode cX8_letters 34 = .ok (.iaload, 1) := by decide +kernel
theorem dX8_letters_35 : decode cX8_letters 35 = .ok (.sipush 1000, 3) := by decide +kernel
theorem dX8_letters_38 : decode cX8_letters 38 = .ok (.if_icmp .lt 6, 3) := by decide +kernel
theorem dX8_letters_41 : decode cX8_letters 41 = .ok (.bipush (-9), 2) := by decide +kernel
theorem dX8_letters_43 : decode cX8_letters 43 = .ok (.ireturn, 1) := by decide +kernel
theorem dX8_letters_44 : decode cX8_letters 44 = .ok (.iload_n 1, 1) := by decide +kernel
theorem dX8_letters_45 : decode cX8_letters 45 = .ok (.iconst (-1), 1) := by decide +kernel
theorem dX8_letters_46 : decode cX8_letters 46 = .ok (.if_icmp .ne 12, 3) := by decide +kernel
theorem dX8_letters_49 : decode cX8_letters 49 = .ok (.aload_n 0, 1) := by decide +kernel
theorem dX8_letters_50 : decode cX8_letters 50 = .ok (.getfield 61, 3) := by decide +kernel
theorem dX8_letters_53 : decode cX8_letters 53 = .ok (.iconst 0, 1) := by decide +kernel
theorem dX8_letters_54 : decode cX8_letters 54 = .ok (.iaload, 1) := by decide +kernel
theorem dX8_letters_55 : decode cX8_letters 55 = .ok (.goto 8, 3) := by decide +kernel
theorem dX8_letters_58 : decode cX8_letters 58 = .ok (.aload_n 0, 1) := by decide +kernel
theorem dX8_letters_59 : decode cX8_letters 59 = .ok (.iload_n 1, 1) := by decide +kernel
theorem dX8_letters_60 : decode cX8_letters 60 = .ok (.invokevirtual 205, 3) := by decide +kernel
theorem dX8_letters_63 : decode cX8_letters 63 = .ok (.ireturn, 1) := by decide +kernel
theorem dX8_reached_0 : decode cX8_reached 0 = .ok (.iconst 1, 1) := by decide +kernel
theorem dX8_reached_1 : decode cX8_reached 1 = .ok (.iload_n 1, 1) := by decide +kernel
theorem dX8_reached_2 : decode cX8_reached 2 = .ok (.ishl, 1) := by decide +kernel
theorem dX8_reached_3 : decode cX8_reached 3 = .ok (.istore_n 3, 1) := by decide +kernel
theorem dX8_reached_4 : decode cX8_reached 4 = .ok (.iconst 0, 1) := by decide +kernel
theorem dX8_reached_5 : decode cX8_reached 5 = .ok (.istore 4, 2) := by decide +kernel
theorem dX8_reached_7 : decode cX8_reached 7 = .ok (.iload 4, 2) := by decide +kernel
theorem dX8_reached_9 : decode cX8_reached 9 = .ok (.aload_n 0, 1) := by decide +kernel
theorem dX8_reached_10 : decode cX8_reached 10 = .ok (.getfield 86, 3) := by decide +kernel
theorem dX8_reached_13 : decode cX8_reached 13 = .ok (.if_icmp .ge 68, 3) := by decide +kernel
theorem dX8_reached_16 : decode cX8_reached 16 = .ok (.iconst 0, 1) := by decide +kernel
theorem dX8_reached_17 : decode cX8_reached 17 = .ok (.istore 5, 2) := by decide +kernel
theorem dX8_reached_19 : decode cX8_reached 19 = .ok (.iload 5, 2) := by decide +kernel
theorem dX8_reached_21 : decode cX8_reached 21 = .ok (.aload_n 0, 1) := by decide +kernel
theorem dX8_reached_22 : decode cX8_reached 22 = .ok (.invokevirtual 93, 3) := by decide +kernel
theorem dX8_reached_25 : decode cX8_reached 25 = .ok (.if_icmp .ge 50, 3) := by decide +kernel
theorem dX8_reached_28 : decode cX8_reached 28 = .ok (.iconst 1, 1) := by decide +kernel
theorem dX8_reached_29 : decode cX8_reached 29 = .ok (.iload 5, 2) := by decide +kernel
theorem dX8_reached_31 : decode cX8_reached 31 = .ok (.ishl, 1) := by decide +kernel
theorem dX8_reached_32 : decode cX8_reached 32 = .ok (.iconst 1, 1) := by decide +kernel
theorem dX8_reached_33 : decode cX8_reached 33 = .ok (.aload_n 0, 1) := by decide +kernel
theorem dX8_reached_34 : decode cX8_reached 34 = .ok (.iload 5, 2) := by decide +kernel
theorem dX8_reached_36 : decode cX8_reached 36 = .ok (.invokevirtual 147, 3) := by decide +kernel
theorem dX8_reached_39 : decode cX8_reached 39 = .ok (.ishl, 1) := by decide +kernel
theorem dX8_reached_40 : decode cX8_reached 40 = .ok (.ior, 1) := by decide +kernel
theorem dX8_reached_41 : decode cX8_reached 41 = .ok (.istore 6, 2) := by decide +kernel
theorem dX8_reached_43 : decode cX8_reached 43 = .ok (.iload_n 3, 1) := by decide +kernel
theorem dX8_reached_44 : decode cX8_reached 44 = .ok (.iload_n 2, 1) := by decide +kernel
theorem dX8_reached_45 : decode cX8_reached 45 = .ok (.iload 5, 2) := by decide +kernel
theorem dX8_reached_47 : decode cX8_reached 47 = .ok (.ishr, 1) := by decide +kernel
theorem dX8_reached_48 : decode cX8_reached 48 = .ok (.iconst 1, 1) := by decide +kernel
theorem dX8_reached_49 : decode cX8_reached 49 = .ok (.iand, 1) := by decide +kernel
theorem dX8_reached_50 : decode cX8_reached 50 = .ok (.iconst 1, 1) := by decide +kernel
theorem dX8_reached_51 : decode cX8_reached 51 = .ok (.if_icmp .ne 15, 3) := by decide +kernel
theorem dX8_reached_54 : decode cX8_reached 54 = .ok (.iload_n 3, 1) := by decide +kernel
theorem dX8_reached_55 : decode cX8_reached 55 = .ok (.iload 6, 2) := by decide +kernel
theorem dX8_reached_57 : decode cX8_reached 57 = .ok (.iand, 1) := by decide +kernel
theorem dX8_reached_58 : decode cX8_reached 58 = .ok (.ifCond .eq 8, 3) := by decide +kernel
theorem dX8_reached_61 : decode cX8_reached 61 = .ok (.iload 6, 2) := by decide +kernel
theorem dX8_reached_63 : decode cX8_reached 63 = .ok (.goto 4, 3) := by decide +kernel
theorem dX8_reached_66 : decode cX8_reached 66 = .ok (.iconst 0, 1) := by decide +kernel
theorem dX8_reached_67 : decode cX8_reached 67 = .ok (.ior, 1) := by decide +kernel
theorem dX8_reached_68 : decode cX8_reached 68 = .ok (.istore_n 3, 1) := by decide +kernel
theorem dX8_reached_69 : decode cX8_reached 69 = .ok (.iinc 5 1, 3) := by decide +kernel
theorem dX8_reached_72 : decode cX8_reached 72 = .ok (.goto (-53), 3) := by decide +kernel
theorem dX8_reached_75 : decode cX8_reached 75 = .ok (.iinc 4 1, 3) := by decide +kernel
theorem dX8_reached_78 : decode cX8_reached 78 = .ok (.goto (-71), 3) := by decide +kernel
theorem dX8_reached_81 : decode cX8_reached 81 = .ok (.iconst 0, 1) := by decide +kernel
theorem dX8_reached_82 : decode cX8_reached 82 = .ok (.istore 4, 2) := by decide +kernel
theorem dX8_reached_84 : decode cX8_reached 84 = .ok (.iload_n 3, 1) := by decide +kernel
theorem dX8_reached_85 : decode cX8_reached 85 = .ok (.istore 5, 2) := by decide +kernel
theorem dX8_reached_87 : decode cX8_reached 87 = .ok (.iload 5, 2) := by decide +kernel
theorem dX8_reached_89 : decode cX8_reached 89 = .ok (.ifCond .le 21, 3) := by decide +kernel
theorem dX8_reached_92 : decode cX8_reached 92 = .ok (.iload 4, 2) := by decide +kernel
theorem dX8_reached_94 : decode cX8_reached 94 = .ok (.iload 5, 2) := by decide +kernel
theorem dX8_reached_96 : decode cX8_reached 96 = .ok (.iconst 1, 1) := by decide +kernel
theorem dX8_reached_97 : decode cX8_reached 97 = .ok (.iand, 1) := by decide +kernel
theorem dX8_reached_98 : decode cX8_reached 98 = .ok (.iadd, 1) := by decide +kernel
theorem dX8_reached_99 : decode cX8_reached 99 = .ok (.istore 4, 2) := by decide +kernel
theorem dX8_reached_101 : decode cX8_reached 101 = .ok (.iload 5, 2) := by decide +kernel
theorem dX8_reached_103 : decode cX8_reached 103 = .ok (.iconst 1, 1) := by decide +kernel
theorem dX8_reached_104 : decode cX8_reached 104 = .ok (.ishr, 1) := by decide +kernel
theorem dX8_reached_105 : decode cX8_reached 105 = .ok (.istore 5, 2) := by decide +kernel
theorem dX8_reached_107 : decode cX8_reached 107 = .ok (.goto (-20), 3) := by decide +kernel
theorem dX8_reached_110 : decode cX8_reached 110 = .ok (.iload 4, 2) := by decide +kernel
theorem dX8_reached_112 : decode cX8_reached 112 = .ok (.ireturn, 1) := by decide +kernel
theorem dX8_hearing_0 : decode cX8_hearing 0 = .ok (.lconst 0, 1) := by decide +kernel
theorem dX8_hearing_1 : decode cX8_hearing 1 = .ok (.lstore_n 3, 1) := by decide +kernel
theorem dX8_hearing_2 : decode cX8_hearing 2 = .ok (.iconst 0, 1) := by decide +kernel
theorem dX8_hearing_3 : decode cX8_hearing 3 = .ok (.istore 5, 2) := by decide +kernel
theorem dX8_hearing_5 : decode cX8_hearing 5 = .ok (.iload 5, 2) := by decide +kernel
theorem dX8_hearing_7 : decode cX8_hearing 7 = .ok (.iconst 1, 1) := by decide +kernel
theorem dX8_hearing_8 : decode cX8_hearing 8 = .ok (.aload_n 0, 1) := by decide +kernel
theorem dX8_hearing_9 : decode cX8_hearing 9 = .ok (.invokevirtual 93, 3) := by decide +kernel
theorem dX8_hearing_12 : decode cX8_hearing 12 = .ok (.ishl, 1) := by decide +kernel
theorem dX8_hearing_13 : decode cX8_hearing 13 = .ok (.if_icmp .ge 102, 3) := by decide +kernel
theorem dX8_hearing_16 : decode cX8_hearing 16 = .ok (.iload 5, 2) := by decide +kernel
theorem dX8_hearing_18 : decode cX8_hearing 18 = .ok (.aload_n 0, 1) := by decide +kernel
theorem dX8_hearing_19 : decode cX8_hearing 19 = .ok (.getfield 97, 3) := by decide +kernel
theorem dX8_hearing_22 : decode cX8_hearing 22 = .ok (.iand, 1) := by decide +kernel
theorem dX8_hearing_23 : decode cX8_hearing 23 = .ok (.ifCond .ne 7, 3) := by decide +kernel
theorem dX8_hearing_26 : decode cX8_hearing 26 = .ok (.lconst 1, 1) := by decide +kernel
theorem dX8_hearing_27 : decode cX8_hearing 27 = .ok (.goto 4, 3) := by decide +kernel
theorem dX8_hearing_30 : decode cX8_hearing 30 = .ok (.lconst 0, 1) := by decide +kernel
theorem dX8_hearing_31 : decode cX8_hearing 31 = .ok (.lstore 6, 2) := by decide +kernel
theorem dX8_hearing_33 : decode cX8_hearing 33 = .ok (.iconst 0, 1) := by decide +kernel
theorem dX8_hearing_34 : decode cX8_hearing 34 = .ok (.istore 8, 2) := by decide +kernel
theorem dX8_hearing_36 : decode cX8_hearing 36 = .ok (.iload 8, 2) := by decide +kernel
theorem dX8_hearing_38 : decode cX8_hearing 38 = .ok (.aload_n 0, 1) := by decide +kernel
theorem dX8_hearing_39 : decode cX8_hearing 39 = .ok (.invokevirtual 93, 3) := by decide +kernel
theorem dX8_hearing_42 : decode cX8_hearing 42 = .ok (.if_icmp .ge 51, 3) := by decide +kernel
theorem dX8_hearing_45 : decode cX8_hearing 45 = .ok (.iload 5, 2) := by decide +kernel
theorem dX8_hearing_47 : decode cX8_hearing 47 = .ok (.iload 8, 2) := by decide +kernel
theorem dX8_hearing_49 : decode cX8_hearing 49 = .ok (.ishr, 1) := by decide +kernel
theorem dX8_hearing_50 : decode cX8_hearing 50 = .ok (.iconst 1, 1) := by decide +kernel
theorem dX8_hearing_51 : decode cX8_hearing 51 = .ok (.iand, 1) := by decide +kernel
theorem dX8_hearing_52 : decode cX8_hearing 52 = .ok (.iconst 1, 1) := by decide +kernel
theorem dX8_hearing_53 : decode cX8_hearing 53 = .ok (.if_icmp .ne 10, 3) := by decide +kernel
theorem dX8_hearing_56 : decode cX8_hearing 56 = .ok (.bipush 10, 2) := by decide +kernel
theorem dX8_hearing_58 : decode cX8_hearing 58 = .ok (.iload_n 2, 1) := by decide +kernel
theorem dX8_hearing_59 : decode cX8_hearing 59 = .ok (.isub, 1) := by decide +kernel
theorem dX8_hearing_60 : decode cX8_hearing 60 = .ok (.goto 4, 3) := by decide +kernel
theorem dX8_hearing_63 : decode cX8_hearing 63 = .ok (.iload_n 2, 1) := by decide +kernel
theorem dX8_hearing_64 : decode cX8_hearing 64 = .ok (.istore 9, 2) := by decide +kernel
theorem dX8_hearing_66 : decode cX8_hearing 66 = .ok (.lload 6, 2) := by decide +kernel
theorem dX8_hearing_68 : decode cX8_hearing 68 = .ok (.aload_n 0, 1) := by decide +kernel
theorem dX8_hearing_69 : decode cX8_hearing 69 = .ok (.iload 8, 2) := by decide +kernel
theorem dX8_hearing_71 : decode cX8_hearing 71 = .ok (.invokevirtual 144, 3) := by decide +kernel
theorem dX8_hearing_74 : decode cX8_hearing 74 = .ok (.ifCond .eq 9, 3) := by decide +kernel
theorem dX8_hearing_77 : decode cX8_hearing 77 = .ok (.iload 9, 2) := by decide +kernel
theorem dX8_hearing_79 : decode cX8_hearing 79 = .ok (.i2l, 1) := by decide +kernel
theorem dX8_hearing_80 : decode cX8_hearing 80 = .ok (.goto 4, 3) := by decide +kernel
theorem dX8_hearing_83 : decode cX8_hearing 83 = .ok (.lconst 1, 1) := by decide +kernel
theorem dX8_hearing_84 : decode cX8_hearing 84 = .ok (.lmul, 1) := by decide +kernel
theorem dX8_hearing_85 : decode cX8_hearing 85 = .ok (.lstore 6, 2) := by decide +kernel
theorem dX8_hearing_87 : decode cX8_hearing 87 = .ok (.iinc 8 1, 3) := by decide +kernel
theorem dX8_hearing_90 : decode cX8_hearing 90 = .ok (.goto (-54), 3) := by decide +kernel
theorem dX8_hearing_93 : decode cX8_hearing 93 = .ok (.lload_n 3, 1) := by decide +kernel
theorem dX8_hearing_94 : decode cX8_hearing 94 = .ok (.lload 6, 2) := by decide +kernel
theorem dX8_hearing_96 : decode cX8_hearing 96 = .ok (.aload_n 0, 1) := by decide +kernel
theorem dX8_hearing_97 : decode cX8_hearing 97 = .ok (.iload_n 1, 1) := by decide +kernel
theorem dX8_hearing_98 : decode cX8_hearing 98 = .ok (.iload 5, 2) := by decide +kernel
theorem dX8_hearing_100 : decode cX8_hearing 100 = .ok (.invokevirtual 208, 3) := by decide +kernel
theorem dX8_hearing_103 : decode cX8_hearing 103 = .ok (.iconst 1, 1) := by decide +kernel
theorem dX8_hearing_104 : decode cX8_hearing 104 = .ok (.isub, 1) := by decide +kernel
theorem dX8_hearing_105 : decode cX8_hearing 105 = .ok (.i2l, 1) := by decide +kernel
theorem dX8_hearing_106 : decode cX8_hearing 106 = .ok (.lmul, 1) := by decide +kernel
theorem dX8_hearing_107 : decode cX8_hearing 107 = .ok (.ladd, 1) := by decide +kernel
theorem dX8_hearing_108 : decode cX8_hearing 108 = .ok (.lstore_n 3, 1) := by decide +kernel
theorem dX8_hearing_109 : decode cX8_hearing 109 = .ok (.iinc 5 1, 3) := by decide +kernel
theorem dX8_hearing_112 : decode cX8_hearing 112 = .ok (.goto (-107), 3) := by decide +kernel
theorem dX8_hearing_115 : decode cX8_hearing 115 = .ok (.lload_n 3, 1) := by decide +kernel
theorem dX8_hearing_116 : decode cX8_hearing 116 = .ok (.lreturn, 1) := by decide +kernel
theorem dX8_inLeastTerms_0 : decode cX8_inLeastTerms 0 = .ok (.lload_n 0, 1) := by decide +kernel
theorem dX8_inLeastTerms_1 : decode cX8_inLeastTerms 1 = .ok (.lstore 5, 2) := by decide +kernel
theorem dX8_inLeastTerms_3 : decode cX8_inLeastTerms 3 = .ok (.lload_n 2, 1) := by decide +kernel
theorem dX8_inLeastTerms_4 : decode cX8_inLeastTerms 4 = .ok (.lstore 7, 2) := by decide +kernel
theorem dX8_inLeastTerms_6 : decode cX8_inLeastTerms 6 = .ok (.lload 7, 2) := by decide +kernel
theorem dX8_inLeastTerms_8 : decode cX8_inLeastTerms 8 = .ok (.lconst 0, 1) := by decide +kernel
theorem dX8_inLeastTerms_9 : decode cX8_inLeastTerms 9 = .ok (.lcmp, 1) := by decide +kernel
theorem dX8_inLeastTerms_10 : decode cX8_inLeastTerms 10 = .ok (.ifCond .eq 21, 3) := by decide +kernel
theorem dX8_inLeastTerms_13 : decode cX8_inLeastTerms 13 = .ok (.lload 5, 2) := by decide +kernel
theorem dX8_inLeastTerms_15 : decode cX8_inLeastTerms 15 = .ok (.lload 7, 2) := by decide +kernel
theorem dX8_inLeastTerms_17 : decode cX8_inLeastTerms 17 = .ok (.lrem, 1) := by decide +kernel
theorem dX8_inLeastTerms_18 : decode cX8_inLeastTerms 18 = .ok (.lstore 9, 2) := by decide +kernel
theorem dX8_inLeastTerms_20 : decode cX8_inLeastTerms 20 = .ok (.lload 7, 2) := by decide +kernel
theorem dX8_inLeastTerms_22 : decode cX8_inLeastTerms 22 = .ok (.lstore 5, 2) := by decide +kernel
theorem dX8_inLeastTerms_24 : decode cX8_inLeastTerms 24 = .ok (.lload 9, 2) := by decide +kernel
theorem dX8_inLeastTerms_26 : decode cX8_inLeastTerms 26 = .ok (.lstore 7, 2) := by decide +kernel
theorem dX8_inLeastTerms_28 : decode cX8_inLeastTerms 28 = .ok (.goto (-22), 3) := by decide +kernel
theorem dX8_inLeastTerms_31 : decode cX8_inLeastTerms 31 = .ok (.iload 4, 2) := by decide +kernel
theorem dX8_inLeastTerms_33 : decode cX8_inLeastTerms 33 = .ok (.ifCond .ne 10, 3) := by decide +kernel
theorem dX8_inLeastTerms_36 : decode cX8_inLeastTerms 36 = .ok (.lload_n 0, 1) := by decide +kernel
theorem dX8_inLeastTerms_37 : decode cX8_inLeastTerms 37 = .ok (.lload 5, 2) := by decide +kernel
theorem dX8_inLeastTerms_39 : decode cX8_inLeastTerms 39 = .ok (.ldiv, 1) := by decide +kernel
theorem dX8_inLeastTerms_40 : decode cX8_inLeastTerms 40 = .ok (.goto 7, 3) := by decide +kernel
theorem dX8_inLeastTerms_43 : decode cX8_inLeastTerms 43 = .ok (.lload_n 2, 1) := by decide +kernel
theorem dX8_inLeastTerms_44 : decode cX8_inLeastTerms 44 = .ok (.lload 5, 2) := by decide +kernel
theorem dX8_inLeastTerms_46 : decode cX8_inLeastTerms 46 = .ok (.ldiv, 1) := by decide +kernel
theorem dX8_inLeastTerms_47 : decode cX8_inLeastTerms 47 = .ok (.lreturn, 1) := by decide +kernel
theorem dX8_heard_0 : decode cX8_heard 0 = .ok (.aload_n 0, 1) := by decide +kernel
theorem dX8_heard_1 : decode cX8_heard 1 = .ok (.iload_n 1, 1) := by decide +kernel
theorem dX8_heard_2 : decode cX8_heard 2 = .ok (.invokevirtual 138, 3) := by decide +kernel
theorem dX8_heard_5 : decode cX8_heard 5 = .ok (.ifCond .eq 22, 3) := by decide +kernel
theorem dX8_heard_8 : decode cX8_heard 8 = .ok (.iload_n 2, 1) := by decide +kernel
theorem dX8_heard_9 : decode cX8_heard 9 = .ok (.iconst 0, 1) := by decide +kernel
theorem dX8_heard_10 : decode cX8_heard 10 = .ok (.bipush 10, 2) := by decide +kernel
theorem dX8_heard_12 : decode cX8_heard 12 = .ok (.invokestatic 82, 3) := by decide +kernel
theorem dX8_heard_15 : decode cX8_heard 15 = .ok (.ifCond .eq 12, 3) := by decide +kernel
theorem dX8_heard_18 : decode cX8_heard 18 = .ok (.iload_n 3, 1) := by decide +kernel
theorem dX8_heard_19 : decode cX8_heard 19 = .ok (.iconst 0, 1) := by decide +kernel
theorem dX8_heard_20 : decode cX8_heard 20 = .ok (.iconst 1, 1) := by decide +kernel
theorem dX8_heard_21 : decode cX8_heard 21 = .ok (.invokestatic 82, 3) := by decide +kernel
theorem dX8_heard_24 : decode cX8_heard 24 = .ok (.ifCond .ne 7, 3) := by decide +kernel
theorem dX8_heard_27 : decode cX8_heard 27 = .ok (.ldc2_w 80, 3) := by decide +kernel
theorem dX8_heard_30 : decode cX8_heard 30 = .ok (.lreturn, 1) := by decide +kernel
theorem dX8_heard_31 : decode cX8_heard 31 = .ok (.lconst 1, 1) := by decide +kernel
theorem dX8_heard_32 : decode cX8_heard 32 = .ok (.lstore 4, 2) := by decide +kernel
theorem dX8_heard_34 : decode cX8_heard 34 = .ok (.iconst 0, 1) := by decide +kernel
theorem dX8_heard_35 : decode cX8_heard 35 = .ok (.istore 6, 2) := by decide +kernel
theorem dX8_heard_37 : decode cX8_heard 37 = .ok (.iload 6, 2) := by decide +kernel
theorem dX8_heard_39 : decode cX8_heard 39 = .ok (.aload_n 0, 1) := by decide +kernel
theorem dX8_heard_40 : decode cX8_heard 40 = .ok (.invokevirtual 93, 3) := by decide +kernel
theorem dX8_heard_43 : decode cX8_heard 43 = .ok (.if_icmp .ge 30, 3) := by decide +kernel
theorem dX8_heard_46 : decode cX8_heard 46 = .ok (.lload 4, 2) := by decide +kernel
theorem dX8_heard_48 : decode cX8_heard 48 = .ok (.aload_n 0, 1) := by decide +kernel
theorem dX8_heard_49 : decode cX8_heard 49 = .ok (.iload 6, 2) := by decide +kernel
theorem dX8_heard_51 : decode cX8_heard 51 = .ok (.invokevirtual 144, 3) := by decide +kernel
theorem dX8_heard_54 : decode cX8_heard 54 = .ok (.ifCond .eq 9, 3) := by decide +kernel
theorem dX8_heard_57 : decode cX8_heard 57 = .ok (.ldc2_w 211, 3) := by decide +kernel
theorem dX8_heard_60 : decode cX8_heard 60 = .ok (.goto 4, 3) := by decide +kernel
theorem dX8_heard_63 : decode cX8_heard 63 = .ok (.lconst 1, 1) := by decide +kernel
theorem dX8_heard_64 : decode cX8_heard 64 = .ok (.lmul, 1) := by decide +kernel
theorem dX8_heard_65 : decode cX8_heard 65 = .ok (.lstore 4, 2) := by decide +kernel
theorem dX8_heard_67 : decode cX8_heard 67 = .ok (.iinc 6 1, 3) := by decide +kernel
theorem dX8_heard_70 : decode cX8_heard 70 = .ok (.goto (-33), 3) := by decide +kernel
theorem dX8_heard_73 : decode cX8_heard 73 = .ok (.aload_n 0, 1) := by decide +kernel
theorem dX8_heard_74 : decode cX8_heard 74 = .ok (.iload_n 1, 1) := by decide +kernel
theorem dX8_heard_75 : decode cX8_heard 75 = .ok (.iload_n 2, 1) := by decide +kernel
theorem dX8_heard_76 : decode cX8_heard 76 = .ok (.invokevirtual 213, 3) := by decide +kernel
theorem dX8_heard_79 : decode cX8_heard 79 = .ok (.lload 4, 2) := by decide +kernel
theorem dX8_heard_81 : decode cX8_heard 81 = .ok (.iload_n 3, 1) := by decide +kernel
theorem dX8_heard_82 : decode cX8_heard 82 = .ok (.invokestatic 217, 3) := by decide +kernel
theorem dX8_heard_85 : decode cX8_heard 85 = .ok (.lreturn, 1) := by decide +kernel
theorem dX8_stand_0 : decode cX8_stand 0 = .ok (.iload_n 1, 1) := by decide +kernel
theorem dX8_stand_1 : decode cX8_stand 1 = .ok (.iconst 0, 1) := by decide +kernel
theorem dX8_stand_2 : decode cX8_stand 2 = .ok (.bipush 10, 2) := by decide +kernel
theorem dX8_stand_4 : decode cX8_stand 4 = .ok (.invokestatic 82, 3) := by decide +kernel
theorem dX8_stand_7 : decode cX8_stand 7 = .ok (.ifCond .ne 6, 3) := by decide +kernel
theorem dX8_stand_10 : decode cX8_stand 10 = .ok (.bipush (-2), 2) := by decide +kernel
theorem dX8_stand_12 : decode cX8_stand 12 = .ok (.ireturn, 1) := by decide +kernel
theorem dX8_stand_13 : decode cX8_stand 13 = .ok (.aload_n 0, 1) := by decide +kernel
theorem dX8_stand_14 : decode cX8_stand 14 = .ok (.getfield 86, 3) := by decide +kernel
theorem dX8_stand_17 : decode cX8_stand 17 = .ok (.ifCond .ne 6, 3) := by decide +kernel
theorem dX8_stand_20 : decode cX8_stand 20 = .ok (.bipush (-3), 2) := by decide +kernel
theorem dX8_stand_22 : decode cX8_stand 22 = .ok (.ireturn, 1) := by decide +kernel
theorem dX8_stand_23 : decode cX8_stand 23 = .ok (.bipush (-9), 2) := by decide +kernel
theorem dX8_stand_25 : decode cX8_stand 25 = .ok (.istore_n 2, 1) := by decide +kernel
theorem dX8_stand_26 : decode cX8_stand 26 = .ok (.lconst 0, 1) := by decide +kernel
theorem dX8_stand_27 : decode cX8_stand 27 = .ok (.lstore_n 3, 1) := by decide +kernel
theorem dX8_stand_28 : decode cX8_stand 28 = .ok (.iconst 0, 1) := by decide +kernel
theorem dX8_stand_29 : decode cX8_stand 29 = .ok (.istore 5, 2) := by decide +kernel
theorem dX8_stand_31 : decode cX8_stand 31 = .ok (.iload 5, 2) := by decide +kernel
theorem dX8_stand_33 : decode cX8_stand 33 = .ok (.aload_n 0, 1) := by decide +kernel
theorem dX8_stand_34 : decode cX8_stand 34 = .ok (.getfield 86, 3) := by decide +kernel
theorem dX8_stand_37 : decode cX8_stand 37 = .ok (.if_icmp .ge 37, 3) := by decide +kernel
theorem dX8_stand_40 : decode cX8_stand 40 = .ok (.aload_n 0, 1) := by decide +kernel
theorem dX8_stand_41 : decode cX8_stand 41 = .ok (.iload 5, 2) := by decide +kernel
theorem dX8_stand_43 : decode cX8_stand 43 = .ok (.iload_n 1, 1) := by decide +kernel
theorem dX8_stand_44 : decode cX8_stand 44 = .ok (.invokevirtual 213, 3) := by decide +kernel
theorem dX8_stand_47 : decode cX8_stand 47 = .ok (.lstore 6, 2) := by decide +kernel
theorem dX8_stand_49 : decode cX8_stand 49 = .ok (.iload_n 2, 1) := by decide +kernel
theorem dX8_stand_50 : decode cX8_stand 50 = .ok (.bipush (-9), 2) := by decide +kernel
theorem dX8_stand_52 : decode cX8_stand 52 = .ok (.if_icmp .eq 10, 3) := by decide +kernel
theorem dX8_stand_55 : decode cX8_stand 55 = .ok (.lload 6, 2) := by decide +kernel
theorem dX8_stand_57 : decode cX8_stand 57 = .ok (.lload_n 3, 1) := by decide +kernel
theorem dX8_stand_58 : decode cX8_stand 58 = .ok (.lcmp, 1) := by decide +kernel
theorem dX8_stand_59 : decode cX8_stand 59 = .ok (.ifCond .le 9, 3) := by decide +kernel
theorem dX8_stand_62 : decode cX8_stand 62 = .ok (.iload 5, 2) := by decide +kernel
theorem dX8_stand_64 : decode cX8_stand 64 = .ok (.istore_n 2, 1) := by decide +kernel
theorem dX8_stand_65 : decode cX8_stand 65 = .ok (.lload 6, 2) := by decide +kernel
theorem dX8_stand_67 : decode cX8_stand 67 = .ok (.lstore_n 3, 1) := by decide +kernel
theorem dX8_stand_68 : decode cX8_stand 68 = .ok (.iinc 5 1, 3) := by decide +kernel
theorem dX8_stand_71 : decode cX8_stand 71 = .ok (.goto (-40), 3) := by decide +kernel
theorem dX8_stand_74 : decode cX8_stand 74 = .ok (.iload_n 2, 1) := by decide +kernel
theorem dX8_stand_75 : decode cX8_stand 75 = .ok (.ireturn, 1) := by decide +kernel
theorem dX8_reading_0 : decode cX8_reading 0 = .ok (.aload_n 0, 1) := by decide +kernel
theorem dX8_reading_1 : decode cX8_reading 1 = .ok (.iload_n 1, 1) := by decide +kernel
theorem dX8_reading_2 : decode cX8_reading 2 = .ok (.invokevirtual 138, 3) := by decide +kernel
theorem dX8_reading_5 : decode cX8_reading 5 = .ok (.ifCond .eq 11, 3) := by decide +kernel
theorem dX8_reading_8 : decode cX8_reading 8 = .ok (.aload_n 0, 1) := by decide +kernel
theorem dX8_reading_9 : decode cX8_reading 9 = .ok (.iload_n 3, 1) := by decide +kernel
theorem dX8_reading_10 : decode cX8_reading 10 = .ok (.invokevirtual 138, 3) := by decide +kernel
theorem dX8_reading_13 : decode cX8_reading 13 = .ok (.ifCond .ne 5, 3) := by decide +kernel
theorem dX8_reading_16 : decode cX8_reading 16 = .ok (.iconst (-1), 1) := by decide +kernel
theorem dX8_reading_17 : decode cX8_reading 17 = .ok (.ireturn, 1) := by decide +kernel
theorem dX8_reading_18 : decode cX8_reading 18 = .ok (.iload_n 2, 1) := by decide +kernel
theorem dX8_reading_19 : decode cX8_reading 19 = .ok (.invokestatic 161, 3) := by decide +kernel
theorem dX8_reading_22 : decode cX8_reading 22 = .ok (.ifCond .eq 18, 3) := by decide +kernel
theorem dX8_reading_25 : decode cX8_reading 25 = .ok (.iload 4, 2) := by decide +kernel
theorem dX8_reading_27 : decode cX8_reading 27 = .ok (.invokestatic 161, 3) := by decide +kernel
theorem dX8_reading_30 : decode cX8_reading 30 = .ok (.ifCond .ne 13, 3) := by decide +kernel
theorem dX8_reading_33 : decode cX8_reading 33 = .ok (.iload 4, 2) := by decide +kernel
theorem dX8_reading_35 : decode cX8_reading 35 = .ok (.bipush (-9), 2) := by decide +kernel
theorem dX8_reading_37 : decode cX8_reading 37 = .ok (.if_icmp .eq 6, 3) := by decide +kernel
theorem dX8_reading_40 : decode cX8_reading 40 = .ok (.bipush (-2), 2) := by decide +kernel
theorem dX8_reading_42 : decode cX8_reading 42 = .ok (.ireturn, 1) := by decide +kernel
theorem dX8_reading_43 : decode cX8_reading 43 = .ok (.aload_n 0, 1) := by decide +kernel
theorem dX8_reading_44 : decode cX8_reading 44 = .ok (.getfield 127, 3) := by decide +kernel
theorem dX8_reading_47 : decode cX8_reading 47 = .ok (.bipush 8, 2) := by decide +kernel
theorem dX8_reading_49 : decode cX8_reading 49 = .ok (.if_icmp .ne 6, 3) := by decide +kernel
theorem dX8_reading_52 : decode cX8_reading 52 = .ok (.bipush (-4), 2) := by decide +kernel
theorem dX8_reading_54 : decode cX8_reading 54 = .ok (.ireturn, 1) := by decide +kernel
theorem dX8_reading_55 : decode cX8_reading 55 = .ok (.aload_n 0, 1) := by decide +kernel
theorem dX8_reading_56 : decode cX8_reading 56 = .ok (.getfield 64, 3) := by decide +kernel
theorem dX8_reading_59 : decode cX8_reading 59 = .ok (.aload_n 0, 1) := by decide +kernel
theorem dX8_reading_60 : decode cX8_reading 60 = .ok (.getfield 127, 3) := by decide +kernel
theorem dX8_reading_63 : decode cX8_reading 63 = .ok (.iload_n 1, 1) := by decide +kernel
theorem dX8_reading_64 : decode cX8_reading 64 = .ok (.iastore, 1) := by decide +kernel
theorem dX8_reading_65 : decode cX8_reading 65 = .ok (.aload_n 0, 1) := by decide +kernel
theorem dX8_reading_66 : decode cX8_reading 66 = .ok (.getfield 67, 3) := by decide +kernel
theorem dX8_reading_69 : decode cX8_reading 69 = .ok (.aload_n 0, 1) := by decide +kernel
theorem dX8_reading_70 : decode cX8_reading 70 = .ok (.getfield 127, 3) := by decide +kernel
theorem dX8_reading_73 : decode cX8_reading 73 = .ok (.iload_n 2, 1) := by decide +kernel
theorem dX8_reading_74 : decode cX8_reading 74 = .ok (.iastore, 1) := by decide +kernel
theorem dX8_reading_75 : decode cX8_reading 75 = .ok (.aload_n 0, 1) := by decide +kernel
theorem dX8_reading_76 : decode cX8_reading 76 = .ok (.getfield 70, 3) := by decide +kernel
theorem dX8_reading_79 : decode cX8_reading 79 = .ok (.aload_n 0, 1) := by decide +kernel
theorem dX8_reading_80 : decode cX8_reading 80 = .ok (.getfield 127, 3) := by decide +kernel
theorem dX8_reading_83 : decode cX8_reading 83 = .ok (.iload_n 3, 1) := by decide +kernel
theorem dX8_reading_84 : decode cX8_reading 84 = .ok (.iastore, 1) := by decide +kernel
theorem dX8_reading_85 : decode cX8_reading 85 = .ok (.aload_n 0, 1) := by decide +kernel
theorem dX8_reading_86 : decode cX8_reading 86 = .ok (.getfield 73, 3) := by decide +kernel
theorem dX8_reading_89 : decode cX8_reading 89 = .ok (.aload_n 0, 1) := by decide +kernel
theorem dX8_reading_90 : decode cX8_reading 90 = .ok (.getfield 127, 3) := by decide +kernel
theorem dX8_reading_93 : decode cX8_reading 93 = .ok (.iload 4, 2) := by decide +kernel
theorem dX8_reading_95 : decode cX8_reading 95 = .ok (.iastore, 1) := by decide +kernel
theorem dX8_reading_96 : decode cX8_reading 96 = .ok (.aload_n 0, 1) := by decide +kernel
theorem dX8_reading_97 : decode cX8_reading 97 = .ok (.dup, 1) := by decide +kernel
theorem dX8_reading_98 : decode cX8_reading 98 = .ok (.getfield 127, 3) := by decide +kernel
theorem dX8_reading_101 : decode cX8_reading 101 = .ok (.iconst 1, 1) := by decide +kernel
theorem dX8_reading_102 : decode cX8_reading 102 = .ok (.iadd, 1) := by decide +kernel
theorem dX8_reading_103 : decode cX8_reading 103 = .ok (.putfield 127, 3) := by decide +kernel
theorem dX8_reading_106 : decode cX8_reading 106 = .ok (.aload_n 0, 1) := by decide +kernel
theorem dX8_reading_107 : decode cX8_reading 107 = .ok (.getfield 127, 3) := by decide +kernel
theorem dX8_reading_110 : decode cX8_reading 110 = .ok (.iconst 1, 1) := by decide +kernel
theorem dX8_reading_111 : decode cX8_reading 111 = .ok (.isub, 1) := by decide +kernel
theorem dX8_reading_112 : decode cX8_reading 112 = .ok (.ireturn, 1) := by decide +kernel
theorem dX8_back_0 : decode cX8_back 0 = .ok (.iload_n 1, 1) := by decide +kernel
theorem dX8_back_1 : decode cX8_back 1 = .ok (.iconst 0, 1) := by decide +kernel
theorem dX8_back_2 : decode cX8_back 2 = .ok (.aload_n 0, 1) := by decide +kernel
theorem dX8_back_3 : decode cX8_back 3 = .ok (.getfield 127, 3) := by decide +kernel
theorem dX8_back_6 : decode cX8_back 6 = .ok (.invokestatic 82, 3) := by decide +kernel
theorem dX8_back_9 : decode cX8_back 9 = .ok (.ifCond .ne 6, 3) := by decide +kernel
theorem dX8_back_12 : decode cX8_back 12 = .ok (.bipush (-2), 2) := by decide +kernel
theorem dX8_back_14 : decode cX8_back 14 = .ok (.ireturn, 1) := by decide +kernel
theorem dX8_back_15 : decode cX8_back 15 = .ok (.aload_n 0, 1) := by decide +kernel
theorem dX8_back_16 : decode cX8_back 16 = .ok (.dup, 1) := by decide +kernel
theorem dX8_back_17 : decode cX8_back 17 = .ok (.getfield 127, 3) := by decide +kernel
theorem dX8_back_20 : decode cX8_back 20 = .ok (.iload_n 1, 1) := by decide +kernel
theorem dX8_back_21 : decode cX8_back 21 = .ok (.isub, 1) := by decide +kernel
theorem dX8_back_22 : decode cX8_back 22 = .ok (.putfield 127, 3) := by decide +kernel
theorem dX8_back_25 : decode cX8_back 25 = .ok (.aload_n 0, 1) := by decide +kernel
theorem dX8_back_26 : decode cX8_back 26 = .ok (.getfield 127, 3) := by decide +kernel
theorem dX8_back_29 : decode cX8_back 29 = .ok (.ireturn, 1) := by decide +kernel
theorem dX8_areSo_0 : decode cX8_areSo 0 = .ok (.iconst 0, 1) := by decide +kernel
theorem dX8_areSo_1 : decode cX8_areSo 1 = .ok (.istore_n 1, 1) := by decide +kernel
theorem dX8_areSo_2 : decode cX8_areSo 2 = .ok (.iload_n 1, 1) := by decide +kernel
theorem dX8_areSo_3 : decode cX8_areSo 3 = .ok (.aload_n 0, 1) := by decide +kernel
theorem dX8_areSo_4 : decode cX8_areSo 4 = .ok (.getfield 127, 3) := by decide +kernel
theorem dX8_areSo_7 : decode cX8_areSo 7 = .ok (.if_icmp .ge 67, 3) := by decide +kernel
theorem dX8_areSo_10 : decode cX8_areSo 10 = .ok (.aload_n 0, 1) := by decide +kernel
theorem dX8_areSo_11 : decode cX8_areSo 11 = .ok (.aload_n 0, 1) := by decide +kernel
theorem dX8_areSo_12 : decode cX8_areSo 12 = .ok (.getfield 64, 3) := by decide +kernel
theorem dX8_areSo_15 : decode cX8_areSo 15 = .ok (.iload_n 1, 1) := by decide +kernel
theorem dX8_areSo_16 : decode cX8_areSo 16 = .ok (.iaload, 1) := by decide +kernel
theorem dX8_areSo_17 : decode cX8_areSo 17 = .ok (.aload_n 0, 1) := by decide +kernel
theorem dX8_areSo_18 : decode cX8_areSo 18 = .ok (.getfield 67, 3) := by decide +kernel
theorem dX8_areSo_21 : decode cX8_areSo 21 = .ok (.iload_n 1, 1) := by decide +kernel
theorem dX8_areSo_22 : decode cX8_areSo 22 = .ok (.iaload, 1) := by decide +kernel
theorem dX8_areSo_23 : decode cX8_areSo 23 = .ok (.invokevirtual 164, 3) := by decide +kernel
theorem dX8_areSo_26 : decode cX8_areSo 26 = .ok (.aload_n 0, 1) := by decide +kernel
theorem dX8_areSo_27 : decode cX8_areSo 27 = .ok (.getfield 70, 3) := by decide +kernel
theorem dX8_areSo_30 : decode cX8_areSo 30 = .ok (.iload_n 1, 1) := by decide +kernel
theorem dX8_areSo_31 : decode cX8_areSo 31 = .ok (.iaload, 1) := by decide +kernel
theorem dX8_areSo_32 : decode cX8_areSo 32 = .ok (.istore_n 2, 1) := by decide +kernel
theorem dX8_areSo_33 : decode cX8_areSo 33 = .ok (.aload_n 0, 1) := by decide +kernel
theorem dX8_areSo_34 : decode cX8_areSo 34 = .ok (.getfield 46, 3) := by decide +kernel
theorem dX8_areSo_37 : decode cX8_areSo 37 = .ok (.iload_n 2, 1) := by decide +kernel
theorem dX8_areSo_38 : decode cX8_areSo 38 = .ok (.iaload, 1) := by decide +kernel
theorem dX8_areSo_39 : decode cX8_areSo 39 = .ok (.bipush (-9), 2) := by decide +kernel
theorem dX8_areSo_41 : decode cX8_areSo 41 = .ok (.if_icmp .ne 8, 3) := by decide +kernel
theorem dX8_areSo_44 : decode cX8_areSo 44 = .ok (.bipush (-9), 2) := by decide +kernel
theorem dX8_areSo_46 : decode cX8_areSo 46 = .ok (.goto 9, 3) := by decide +kernel
theorem dX8_areSo_49 : decode cX8_areSo 49 = .ok (.aload_n 0, 1) := by decide +kernel
theorem dX8_areSo_50 : decode cX8_areSo 50 = .ok (.getfield 43, 3) := by decide +kernel
theorem dX8_areSo_53 : decode cX8_areSo 53 = .ok (.iload_n 2, 1) := by decide +kernel
theorem dX8_areSo_54 : decode cX8_areSo 54 = .ok (.iaload, 1) := by decide +kernel
theorem dX8_areSo_55 : decode cX8_areSo 55 = .ok (.istore_n 3, 1) := by decide +kernel
theorem dX8_areSo_56 : decode cX8_areSo 56 = .ok (.iload_n 3, 1) := by decide +kernel
theorem dX8_areSo_57 : decode cX8_areSo 57 = .ok (.aload_n 0, 1) := by decide +kernel
theorem dX8_areSo_58 : decode cX8_areSo 58 = .ok (.getfield 73, 3) := by decide +kernel
theorem dX8_areSo_61 : decode cX8_areSo 61 = .ok (.iload_n 1, 1) := by decide +kernel
theorem dX8_areSo_62 : decode cX8_areSo 62 = .ok (.iaload, 1) := by decide +kernel
theorem dX8_areSo_63 : decode cX8_areSo 63 = .ok (.if_icmp .eq 5, 3) := by decide +kernel
theorem dX8_areSo_66 : decode cX8_areSo 66 = .ok (.iconst 0, 1) := by decide +kernel
theorem dX8_areSo_67 : decode cX8_areSo 67 = .ok (.ireturn, 1) := by decide +kernel
theorem dX8_areSo_68 : decode cX8_areSo 68 = .ok (.iinc 1 1, 3) := by decide +kernel
theorem dX8_areSo_71 : decode cX8_areSo 71 = .ok (.goto (-69), 3) := by decide +kernel
theorem dX8_areSo_74 : decode cX8_areSo 74 = .ok (.iconst 1, 1) := by decide +kernel
theorem dX8_areSo_75 : decode cX8_areSo 75 = .ok (.ireturn, 1) := by decide +kernel
theorem dX8_kinds_0 : decode cX8_kinds 0 = .ok (.aload_n 0, 1) := by decide +kernel
theorem dX8_kinds_1 : decode cX8_kinds 1 = .ok (.iload_n 1, 1) := by decide +kernel
theorem dX8_kinds_2 : decode cX8_kinds 2 = .ok (.invokevirtual 138, 3) := by decide +kernel
theorem dX8_kinds_5 : decode cX8_kinds 5 = .ok (.ifCond .ne 5, 3) := by decide +kernel
theorem dX8_kinds_8 : decode cX8_kinds 8 = .ok (.iconst (-1), 1) := by decide +kernel
theorem dX8_kinds_9 : decode cX8_kinds 9 = .ok (.ireturn, 1) := by decide +kernel
theorem dX8_kinds_10 : decode cX8_kinds 10 = .ok (.aload_n 0, 1) := by decide +kernel
theorem dX8_kinds_11 : decode cX8_kinds 11 = .ok (.getfield 19, 3) := by decide +kernel
theorem dX8_kinds_14 : decode cX8_kinds 14 = .ok (.iload_n 1, 1) := by decide +kernel
theorem dX8_kinds_15 : decode cX8_kinds 15 = .ok (.iaload, 1) := by decide +kernel
theorem dX8_kinds_16 : decode cX8_kinds 16 = .ok (.istore_n 2, 1) := by decide +kernel
theorem dX8_kinds_17 : decode cX8_kinds 17 = .ok (.iconst 0, 1) := by decide +kernel
theorem dX8_kinds_18 : decode cX8_kinds 18 = .ok (.istore_n 3, 1) := by decide +kernel
theorem dX8_kinds_19 : decode cX8_kinds 19 = .ok (.iconst 0, 1) := by decide +kernel
theorem dX8_kinds_20 : decode cX8_kinds 20 = .ok (.istore 4, 2) := by decide +kernel
theorem dX8_kinds_22 : decode cX8_kinds 22 = .ok (.iload 4, 2) := by decide +kernel
theorem dX8_kinds_24 : decode cX8_kinds 24 = .ok (.iconst 3, 1) := by decide +kernel
theorem dX8_kinds_25 : decode cX8_kinds 25 = .ok (.if_icmp .ge 35, 3) := by decide +kernel
theorem dX8_kinds_28 : decode cX8_kinds 28 = .ok (.aload_n 0, 1) := by decide +kernel
theorem dX8_kinds_29 : decode cX8_kinds 29 = .ok (.getfield 19, 3) := by decide +kernel
theorem dX8_kinds_32 : decode cX8_kinds 32 = .ok (.iload_n 1, 1) := by decide +kernel
theorem dX8_kinds_33 : decode cX8_kinds 33 = .ok (.iload 4, 2) := by decide +kernel
theorem dX8_kinds_35 : decode cX8_kinds 35 = .ok (.iastore, 1) := by decide +kernel
theorem dX8_kinds_36 : decode cX8_kinds 36 = .ok (.iload_n 3, 1) := by decide +kernel
theorem dX8_kinds_37 : decode cX8_kinds 37 = .ok (.aload_n 0, 1) := by decide +kernel
theorem dX8_kinds_38 : decode cX8_kinds 38 = .ok (.invokevirtual 221, 3) := by decide +kernel
theorem dX8_kinds_41 : decode cX8_kinds 41 = .ok (.ifCond .eq 10, 3) := by decide +kernel
theorem dX8_kinds_44 : decode cX8_kinds 44 = .ok (.iconst 1, 1) := by decide +kernel
theorem dX8_kinds_45 : decode cX8_kinds 45 = .ok (.iload 4, 2) := by decide +kernel
theorem dX8_kinds_47 : decode cX8_kinds 47 = .ok (.ishl, 1) := by decide +kernel
theorem dX8_kinds_48 : decode cX8_kinds 48 = .ok (.goto 4, 3) := by decide +kernel
theorem dX8_kinds_51 : decode cX8_kinds 51 = .ok (.iconst 0, 1) := by decide +kernel
theorem dX8_kinds_52 : decode cX8_kinds 52 = .ok (.ior, 1) := by decide +kernel
theorem dX8_kinds_53 : decode cX8_kinds 53 = .ok (.istore_n 3, 1) := by decide +kernel
theorem dX8_kinds_54 : decode cX8_kinds 54 = .ok (.iinc 4 1, 3) := by decide +kernel
theorem dX8_kinds_57 : decode cX8_kinds 57 = .ok (.goto (-35), 3) := by decide +kernel
theorem dX8_kinds_60 : decode cX8_kinds 60 = .ok (.aload_n 0, 1) := by decide +kernel
theorem dX8_kinds_61 : decode cX8_kinds 61 = .ok (.getfield 19, 3) := by decide +kernel
theorem dX8_kinds_64 : decode cX8_kinds 64 = .ok (.iload_n 1, 1) := by decide +kernel
theorem dX8_kinds_65 : decode cX8_kinds 65 = .ok (.iload_n 2, 1) := by decide +kernel
theorem dX8_kinds_66 : decode cX8_kinds 66 = .ok (.iastore, 1) := by decide +kernel
theorem dX8_kinds_67 : decode cX8_kinds 67 = .ok (.iload_n 3, 1) := by decide +kernel
theorem dX8_kinds_68 : decode cX8_kinds 68 = .ok (.ireturn, 1) := by decide +kernel
theorem dX8_walls_0 : decode cX8_walls 0 = .ok (.aload_n 0, 1) := by decide +kernel
theorem dX8_walls_1 : decode cX8_walls 1 = .ok (.getfield 86, 3) := by decide +kernel
theorem dX8_walls_4 : decode cX8_walls 4 = .ok (.ifCond .ne 6, 3) := by decide +kernel
theorem dX8_walls_7 : decode cX8_walls 7 = .ok (.bipush (-3), 2) := by decide +kernel
theorem dX8_walls_9 : decode cX8_walls 9 = .ok (.ireturn, 1) := by decide +kernel
theorem dX8_walls_10 : decode cX8_walls 10 = .ok (.aload_n 0, 1) := by decide +kernel
theorem dX8_walls_11 : decode cX8_walls 11 = .ok (.getfield 97, 3) := by decide +kernel
theorem dX8_walls_14 : decode cX8_walls 14 = .ok (.istore_n 1, 1) := by decide +kernel
theorem dX8_walls_15 : decode cX8_walls 15 = .ok (.iconst 0, 1) := by decide +kernel
theorem dX8_walls_16 : decode cX8_walls 16 = .ok (.istore_n 2, 1) := by decide +kernel
theorem dX8_walls_17 : decode cX8_walls 17 = .ok (.iconst 0, 1) := by decide +kernel
theorem dX8_walls_18 : decode cX8_walls 18 = .ok (.istore_n 3, 1) := by decide +kernel
theorem dX8_walls_19 : decode cX8_walls 19 = .ok (.iload_n 3, 1) := by decide +kernel
theorem dX8_walls_20 : decode cX8_walls 20 = .ok (.aload_n 0, 1) := by decide +kernel
theorem dX8_walls_21 : decode cX8_walls 21 = .ok (.invokevirtual 93, 3) := by decide +kernel
theorem dX8_walls_24 : decode cX8_walls 24 = .ok (.if_icmp .ge 35, 3) := by decide +kernel
theorem dX8_walls_27 : decode cX8_walls 27 = .ok (.aload_n 0, 1) := by decide +kernel
theorem dX8_walls_28 : decode cX8_walls 28 = .ok (.iload_n 1, 1) := by decide +kernel
theorem dX8_walls_29 : decode cX8_walls 29 = .ok (.iconst 1, 1) := by decide +kernel
theorem dX8_walls_30 : decode cX8_walls 30 = .ok (.iload_n 3, 1) := by decide +kernel
theorem dX8_walls_31 : decode cX8_walls 31 = .ok (.ishl, 1) := by decide +kernel
theorem dX8_walls_32 : decode cX8_walls 32 = .ok (.ior, 1) := by decide +kernel
theorem dX8_walls_33 : decode cX8_walls 33 = .ok (.putfield 97, 3) := by decide +kernel
theorem dX8_walls_36 : decode cX8_walls 36 = .ok (.iload_n 2, 1) := by decide +kernel
theorem dX8_walls_37 : decode cX8_walls 37 = .ok (.aload_n 0, 1) := by decide +kernel
theorem dX8_walls_38 : decode cX8_walls 38 = .ok (.invokevirtual 221, 3) := by decide +kernel
theorem dX8_walls_41 : decode cX8_walls 41 = .ok (.ifCond .eq 9, 3) := by decide +kernel
theorem dX8_walls_44 : decode cX8_walls 44 = .ok (.iconst 1, 1) := by decide +kernel
theorem dX8_walls_45 : decode cX8_walls 45 = .ok (.iload_n 3, 1) := by decide +kernel
theorem dX8_walls_46 : decode cX8_walls 46 = .ok (.ishl, 1) := by decide +kernel
theorem dX8_walls_47 : decode cX8_walls 47 = .ok (.goto 4, 3) := by decide +kernel
theorem dX8_walls_50 : decode cX8_walls 50 = .ok (.iconst 0, 1) := by decide +kernel
theorem dX8_walls_51 : decode cX8_walls 51 = .ok (.ior, 1) := by decide +kernel
theorem dX8_walls_52 : decode cX8_walls 52 = .ok (.istore_n 2, 1) := by decide +kernel
theorem dX8_walls_53 : decode cX8_walls 53 = .ok (.iinc 3 1, 3) := by decide +kernel
theorem dX8_walls_56 : decode cX8_walls 56 = .ok (.goto (-37), 3) := by decide +kernel
theorem dX8_walls_59 : decode cX8_walls 59 = .ok (.aload_n 0, 1) := by decide +kernel
theorem dX8_walls_60 : decode cX8_walls 60 = .ok (.iload_n 1, 1) := by decide +kernel
theorem dX8_walls_61 : decode cX8_walls 61 = .ok (.putfield 97, 3) := by decide +kernel
theorem dX8_walls_64 : decode cX8_walls 64 = .ok (.iload_n 2, 1) := by decide +kernel
theorem dX8_walls_65 : decode cX8_walls 65 = .ok (.ireturn, 1) := by decide +kernel
theorem dX8_sheet_0 : decode cX8_sheet 0 = .ok (.aload_n 0, 1) := by decide +kernel
theorem dX8_sheet_1 : decode cX8_sheet 1 = .ok (.iconst 0, 1) := by decide +kernel
theorem dX8_sheet_2 : decode cX8_sheet 2 = .ok (.putfield 76, 3) := by decide +kernel
theorem dX8_sheet_5 : decode cX8_sheet 5 = .ok (.iload_n 1, 1) := by decide +kernel
theorem dX8_sheet_6 : decode cX8_sheet 6 = .ok (.invokestatic 103, 3) := by decide +kernel
theorem dX8_sheet_9 : decode cX8_sheet 9 = .ok (.ifCond .ne 5, 3) := by decide +kernel
theorem dX8_sheet_12 : decode cX8_sheet 12 = .ok (.iconst (-1), 1) := by decide +kernel
theorem dX8_sheet_13 : decode cX8_sheet 13 = .ok (.ireturn, 1) := by decide +kernel
theorem dX8_sheet_14 : decode cX8_sheet 14 = .ok (.iload_n 2, 1) := by decide +kernel
theorem dX8_sheet_15 : decode cX8_sheet 15 = .ok (.invokestatic 107, 3) := by decide +kernel
theorem dX8_sheet_18 : decode cX8_sheet 18 = .ok (.ifCond .eq 9, 3) := by decide +kernel
theorem dX8_sheet_21 : decode cX8_sheet 21 = .ok (.iload_n 3, 1) := by decide +kernel
theorem dX8_sheet_22 : decode cX8_sheet 22 = .ok (.bipush 50, 2) := by decide +kernel
theorem dX8_sheet_24 : decode cX8_sheet 24 = .ok (.if_icmp .le 6, 3) := by decide +kernel
theorem dX8_sheet_27 : decode cX8_sheet 27 = .ok (.bipush (-2), 2) := by decide +kernel
theorem dX8_sheet_29 : decode cX8_sheet 29 = .ok (.ireturn, 1) := by decide +kernel
theorem dX8_sheet_30 : decode cX8_sheet 30 = .ok (.iload_n 3, 1) := by decide +kernel
theorem dX8_sheet_31 : decode cX8_sheet 31 = .ok (.ifCond .ge 9, 3) := by decide +kernel
theorem dX8_sheet_34 : decode cX8_sheet 34 = .ok (.aload_n 0, 1) := by decide +kernel
theorem dX8_sheet_35 : decode cX8_sheet 35 = .ok (.iconst 4, 1) := by decide +kernel
theorem dX8_sheet_36 : decode cX8_sheet 36 = .ok (.invokevirtual 114, 3) := by decide +kernel
theorem dX8_sheet_39 : decode cX8_sheet 39 = .ok (.ireturn, 1) := by decide +kernel
theorem dX8_sheet_40 : decode cX8_sheet 40 = .ok (.aload_n 0, 1) := by decide +kernel
theorem dX8_sheet_41 : decode cX8_sheet 41 = .ok (.getfield 9, 3) := by decide +kernel
theorem dX8_sheet_44 : decode cX8_sheet 44 = .ok (.iload_n 1, 1) := by decide +kernel
theorem dX8_sheet_45 : decode cX8_sheet 45 = .ok (.iload_n 2, 1) := by decide +kernel
theorem dX8_sheet_46 : decode cX8_sheet 46 = .ok (.iastore, 1) := by decide +kernel
theorem dX8_sheet_47 : decode cX8_sheet 47 = .ok (.aload_n 0, 1) := by decide +kernel
theorem dX8_sheet_48 : decode cX8_sheet 48 = .ok (.getfield 13, 3) := by decide +kernel
theorem dX8_sheet_51 : decode cX8_sheet 51 = .ok (.iload_n 1, 1) := by decide +kernel
theorem dX8_sheet_52 : decode cX8_sheet 52 = .ok (.iload_n 3, 1) := by decide +kernel
theorem dX8_sheet_53 : decode cX8_sheet 53 = .ok (.iastore, 1) := by decide +kernel
theorem dX8_sheet_54 : decode cX8_sheet 54 = .ok (.iconst 0, 1) := by decide +kernel
theorem dX8_sheet_55 : decode cX8_sheet 55 = .ok (.istore 4, 2) := by decide +kernel
theorem dX8_sheet_57 : decode cX8_sheet 57 = .ok (.iload 4, 2) := by decide +kernel
theorem dX8_sheet_59 : decode cX8_sheet 59 = .ok (.bipush 50, 2) := by decide +kernel
theorem dX8_sheet_61 : decode cX8_sheet 61 = .ok (.if_icmp .ge 22, 3) := by decide +kernel
theorem dX8_sheet_64 : decode cX8_sheet 64 = .ok (.aload_n 0, 1) := by decide +kernel
theorem dX8_sheet_65 : decode cX8_sheet 65 = .ok (.getfield 16, 3) := by decide +kernel
theorem dX8_sheet_68 : decode cX8_sheet 68 = .ok (.bipush 50, 2) := by decide +kernel
theorem dX8_sheet_70 : decode cX8_sheet 70 = .ok (.iload_n 1, 1) := by decide +kernel
theorem dX8_sheet_71 : decode cX8_sheet 71 = .ok (.imul, 1) := by decide +kernel
theorem dX8_sheet_72 : decode cX8_sheet 72 = .ok (.iload 4, 2) := by decide +kernel
theorem dX8_sheet_74 : decode cX8_sheet 74 = .ok (.iadd, 1) := by decide +kernel
theorem dX8_sheet_75 : decode cX8_sheet 75 = .ok (.iconst 0, 1) := by decide +kernel
theorem dX8_sheet_76 : decode cX8_sheet 76 = .ok (.iastore, 1) := by decide +kernel
theorem dX8_sheet_77 : decode cX8_sheet 77 = .ok (.iinc 4 1, 3) := by decide +kernel
theorem dX8_sheet_80 : decode cX8_sheet 80 = .ok (.goto (-23), 3) := by decide +kernel
theorem dX8_sheet_83 : decode cX8_sheet 83 = .ok (.iconst 1, 1) := by decide +kernel
theorem dX8_sheet_84 : decode cX8_sheet 84 = .ok (.ireturn, 1) := by decide +kernel
theorem dX8_lose_0 : decode cX8_lose 0 = .ok (.iload_n 1, 1) := by decide +kernel
theorem dX8_lose_1 : decode cX8_lose 1 = .ok (.invokestatic 103, 3) := by decide +kernel
theorem dX8_lose_4 : decode cX8_lose 4 = .ok (.ifCond .ne 5, 3) := by decide +kernel
theorem dX8_lose_7 : decode cX8_lose 7 = .ok (.iconst (-1), 1) := by decide +kernel
theorem dX8_lose_8 : decode cX8_lose 8 = .ok (.ireturn, 1) := by decide +kernel
theorem dX8_lose_9 : decode cX8_lose 9 = .ok (.aload_n 0, 1) := by decide +kernel
theorem dX8_lose_10 : decode cX8_lose 10 = .ok (.getfield 9, 3) := by decide +kernel
theorem dX8_lose_13 : decode cX8_lose 13 = .ok (.iload_n 1, 1) := by decide +kernel
theorem dX8_lose_14 : decode cX8_lose 14 = .ok (.iaload, 1) := by decide +kernel
theorem dX8_lose_15 : decode cX8_lose 15 = .ok (.bipush (-9), 2) := by decide +kernel
theorem dX8_lose_17 : decode cX8_lose 17 = .ok (.if_icmp .ne 7, 3) := by decide +kernel
theorem dX8_lose_20 : decode cX8_lose 20 = .ok (.iconst 0, 1) := by decide +kernel
theorem dX8_lose_21 : decode cX8_lose 21 = .ok (.goto 4, 3) := by decide +kernel
theorem dX8_lose_24 : decode cX8_lose 24 = .ok (.iconst 1, 1) := by decide +kernel
theorem dX8_lose_25 : decode cX8_lose 25 = .ok (.istore_n 2, 1) := by decide +kernel
theorem dX8_lose_26 : decode cX8_lose 26 = .ok (.aload_n 0, 1) := by decide +kernel
theorem dX8_lose_27 : decode cX8_lose 27 = .ok (.getfield 9, 3) := by decide +kernel
theorem dX8_lose_30 : decode cX8_lose 30 = .ok (.iload_n 1, 1) := by decide +kernel
theorem dX8_lose_31 : decode cX8_lose 31 = .ok (.bipush (-9), 2) := by decide +kernel
theorem dX8_lose_33 : decode cX8_lose 33 = .ok (.iastore, 1) := by decide +kernel
theorem dX8_lose_34 : decode cX8_lose 34 = .ok (.iload_n 2, 1) := by decide +kernel
theorem dX8_lose_35 : decode cX8_lose 35 = .ok (.ireturn, 1) := by decide +kernel
theorem dX8_put_0 : decode cX8_put 0 = .ok (.aload_n 0, 1) := by decide +kernel
theorem dX8_put_1 : decode cX8_put 1 = .ok (.iconst 0, 1) := by decide +kernel
theorem dX8_put_2 : decode cX8_put 2 = .ok (.putfield 76, 3) := by decide +kernel
theorem dX8_put_5 : decode cX8_put 5 = .ok (.iload_n 1, 1) := by decide +kernel
theorem dX8_put_6 : decode cX8_put 6 = .ok (.invokestatic 103, 3) := by decide +kernel
theorem dX8_put_9 : decode cX8_put 9 = .ok (.ifCond .ne 5, 3) := by decide +kernel
theorem dX8_put_12 : decode cX8_put 12 = .ok (.iconst (-1), 1) := by decide +kernel
theorem dX8_put_13 : decode cX8_put 13 = .ok (.ireturn, 1) := by decide +kernel
theorem dX8_put_14 : decode cX8_put 14 = .ok (.aload_n 0, 1) := by decide +kernel
theorem dX8_put_15 : decode cX8_put 15 = .ok (.getfield 9, 3) := by decide +kernel
theorem dX8_put_18 : decode cX8_put 18 = .ok (.iload_n 1, 1) := by decide +kernel
theorem dX8_put_19 : decode cX8_put 19 = .ok (.iaload, 1) := by decide +kernel
theorem dX8_put_20 : decode cX8_put 20 = .ok (.bipush (-9), 2) := by decide +kernel
theorem dX8_put_22 : decode cX8_put 22 = .ok (.if_icmp .ne 9, 3) := by decide +kernel
theorem dX8_put_25 : decode cX8_put 25 = .ok (.aload_n 0, 1) := by decide +kernel
theorem dX8_put_26 : decode cX8_put 26 = .ok (.iconst 1, 1) := by decide +kernel
theorem dX8_put_27 : decode cX8_put 27 = .ok (.invokevirtual 114, 3) := by decide +kernel
theorem dX8_put_30 : decode cX8_put 30 = .ok (.ireturn, 1) := by decide +kernel
theorem dX8_put_31 : decode cX8_put 31 = .ok (.iload_n 2, 1) := by decide +kernel
theorem dX8_put_32 : decode cX8_put 32 = .ok (.iconst 0, 1) := by decide +kernel
theorem dX8_put_33 : decode cX8_put 33 = .ok (.aload_n 0, 1) := by decide +kernel
theorem dX8_put_34 : decode cX8_put 34 = .ok (.getfield 13, 3) := by decide +kernel
theorem dX8_put_37 : decode cX8_put 37 = .ok (.iload_n 1, 1) := by decide +kernel
theorem dX8_put_38 : decode cX8_put 38 = .ok (.iaload, 1) := by decide +kernel
theorem dX8_put_39 : decode cX8_put 39 = .ok (.iconst 1, 1) := by decide +kernel
theorem dX8_put_40 : decode cX8_put 40 = .ok (.isub, 1) := by decide +kernel
theorem dX8_put_41 : decode cX8_put 41 = .ok (.invokestatic 82, 3) := by decide +kernel
theorem dX8_put_44 : decode cX8_put 44 = .ok (.ifCond .ne 9, 3) := by decide +kernel
theorem dX8_put_47 : decode cX8_put 47 = .ok (.aload_n 0, 1) := by decide +kernel
theorem dX8_put_48 : decode cX8_put 48 = .ok (.iconst 3, 1) := by decide +kernel
theorem dX8_put_49 : decode cX8_put 49 = .ok (.invokevirtual 114, 3) := by decide +kernel
theorem dX8_put_52 : decode cX8_put 52 = .ok (.ireturn, 1) := by decide +kernel
theorem dX8_put_53 : decode cX8_put 53 = .ok (.aload_n 0, 1) := by decide +kernel
theorem dX8_put_54 : decode cX8_put 54 = .ok (.getfield 16, 3) := by decide +kernel
theorem dX8_put_57 : decode cX8_put 57 = .ok (.bipush 50, 2) := by decide +kernel
theorem dX8_put_59 : decode cX8_put 59 = .ok (.iload_n 1, 1) := by decide +kernel
theorem dX8_put_60 : decode cX8_put 60 = .ok (.imul, 1) := by decide +kernel
theorem dX8_put_61 : decode cX8_put 61 = .ok (.iload_n 2, 1) := by decide +kernel
theorem dX8_put_62 : decode cX8_put 62 = .ok (.iadd, 1) := by decide +kernel
theorem dX8_put_63 : decode cX8_put 63 = .ok (.aload_n 0, 1) := by decide +kernel
theorem dX8_put_64 : decode cX8_put 64 = .ok (.getfield 9, 3) := by decide +kernel
theorem dX8_put_67 : decode cX8_put 67 = .ok (.iload_n 1, 1) := by decide +kernel
theorem dX8_put_68 : decode cX8_put 68 = .ok (.iaload, 1) := by decide +kernel
theorem dX8_put_69 : decode cX8_put 69 = .ok (.ifCond .ne 8, 3) := by decide +kernel
theorem dX8_put_72 : decode cX8_put 72 = .ok (.iload_n 3, 1) := by decide +kernel
theorem dX8_put_73 : decode cX8_put 73 = .ok (.i2b, 1) := by decide +kernel
theorem dX8_put_74 : decode cX8_put 74 = .ok (.goto 19, 3) := by decide +kernel
theorem dX8_put_77 : decode cX8_put 77 = .ok (.aload_n 0, 1) := by decide +kernel
theorem dX8_put_78 : decode cX8_put 78 = .ok (.getfield 9, 3) := by decide +kernel
theorem dX8_put_81 : decode cX8_put 81 = .ok (.iload_n 1, 1) := by decide +kernel
theorem dX8_put_82 : decode cX8_put 82 = .ok (.iaload, 1) := by decide +kernel
theorem dX8_put_83 : decode cX8_put 83 = .ok (.iconst 1, 1) := by decide +kernel
theorem dX8_put_84 : decode cX8_put 84 = .ok (.if_icmp .ne 8, 3) := by decide +kernel
theorem dX8_put_87 : decode cX8_put 87 = .ok (.iload_n 3, 1) := by decide +kernel
theorem dX8_put_88 : decode cX8_put 88 = .ok (.i2s, 1) := by decide +kernel
theorem dX8_put_89 : decode cX8_put 89 = .ok (.goto 4, 3) := by decide +kernel
theorem dX8_put_92 : decode cX8_put 92 = .ok (.iload_n 3, 1) := by decide +kernel
theorem dX8_put_93 : decode cX8_put 93 = .ok (.iastore, 1) := by decide +kernel
theorem dX8_put_94 : decode cX8_put 94 = .ok (.iconst 1, 1) := by decide +kernel
theorem dX8_put_95 : decode cX8_put 95 = .ok (.ireturn, 1) := by decide +kernel
theorem dX8_cell_0 : decode cX8_cell 0 = .ok (.aload_n 0, 1) := by decide +kernel
theorem dX8_cell_1 : decode cX8_cell 1 = .ok (.iconst 0, 1) := by decide +kernel
theorem dX8_cell_2 : decode cX8_cell 2 = .ok (.putfield 76, 3) := by decide +kernel
theorem dX8_cell_5 : decode cX8_cell 5 = .ok (.iload_n 1, 1) := by decide +kernel
theorem dX8_cell_6 : decode cX8_cell 6 = .ok (.invokestatic 103, 3) := by decide +kernel
theorem dX8_cell_9 : decode cX8_cell 9 = .ok (.ifCond .eq 10, 3) := by decide +kernel
theorem dX8_cell_12 : decode cX8_cell 12 = .ok (.iload_n 3, 1) := by decide +kernel
theorem dX8_cell_13 : decode cX8_cell 13 = .ok (.invokestatic 107, 3) := by decide +kernel
theorem dX8_cell_16 : decode cX8_cell 16 = .ok (.ifCond .ne 7, 3) := by decide +kernel
theorem dX8_cell_19 : decode cX8_cell 19 = .ok (.ldc2_w 80, 3) := by decide +kernel
theorem dX8_cell_22 : decode cX8_cell 22 = .ok (.lreturn, 1) := by decide +kernel
theorem dX8_cell_23 : decode cX8_cell 23 = .ok (.aload_n 0, 1) := by decide +kernel
theorem dX8_cell_24 : decode cX8_cell 24 = .ok (.getfield 9, 3) := by decide +kernel
theorem dX8_cell_27 : decode cX8_cell 27 = .ok (.iload_n 1, 1) := by decide +kernel
theorem dX8_cell_28 : decode cX8_cell 28 = .ok (.iaload, 1) := by decide +kernel
theorem dX8_cell_29 : decode cX8_cell 29 = .ok (.bipush (-9), 2) := by decide +kernel
theorem dX8_cell_31 : decode cX8_cell 31 = .ok (.if_icmp .eq 19, 3) := by decide +kernel
theorem dX8_cell_34 : decode cX8_cell 34 = .ok (.aload_n 0, 1) := by decide +kernel
theorem dX8_cell_35 : decode cX8_cell 35 = .ok (.getfield 9, 3) := by decide +kernel
theorem dX8_cell_38 : decode cX8_cell 38 = .ok (.iload_n 1, 1) := by decide +kernel
theorem dX8_cell_39 : decode cX8_cell 39 = .ok (.iaload, 1) := by decide +kernel
theorem dX8_cell_40 : decode cX8_cell 40 = .ok (.iload_n 3, 1) := by decide +kernel
theorem dX8_cell_41 : decode cX8_cell 41 = .ok (.if_icmp .eq 9, 3) := by decide +kernel
theorem dX8_cell_44 : decode cX8_cell 44 = .ok (.aload_n 0, 1) := by decide +kernel
theorem dX8_cell_45 : decode cX8_cell 45 = .ok (.iconst 2, 1) := by decide +kernel
theorem dX8_cell_46 : decode cX8_cell 46 = .ok (.invokevirtual 225, 3) := by decide +kernel
theorem dX8_cell_49 : decode cX8_cell 49 = .ok (.lreturn, 1) := by decide +kernel
theorem dX8_cell_50 : decode cX8_cell 50 = .ok (.aload_n 0, 1) := by decide +kernel
theorem dX8_cell_51 : decode cX8_cell 51 = .ok (.getfield 9, 3) := by decide +kernel
theorem dX8_cell_54 : decode cX8_cell 54 = .ok (.iload_n 1, 1) := by decide +kernel
theorem dX8_cell_55 : decode cX8_cell 55 = .ok (.iaload, 1) := by decide +kernel
theorem dX8_cell_56 : decode cX8_cell 56 = .ok (.bipush (-9), 2) := by decide +kernel
theorem dX8_cell_58 : decode cX8_cell 58 = .ok (.if_icmp .ne 9, 3) := by decide +kernel
theorem dX8_cell_61 : decode cX8_cell 61 = .ok (.aload_n 0, 1) := by decide +kernel
theorem dX8_cell_62 : decode cX8_cell 62 = .ok (.iconst 1, 1) := by decide +kernel
theorem dX8_cell_63 : decode cX8_cell 63 = .ok (.invokevirtual 225, 3) := by decide +kernel
theorem dX8_cell_66 : decode cX8_cell 66 = .ok (.lreturn, 1) := by decide +kernel
theorem dX8_cell_67 : decode cX8_cell 67 = .ok (.iload_n 2, 1) := by decide +kernel
theorem dX8_cell_68 : decode cX8_cell 68 = .ok (.iconst 0, 1) := by decide +kernel
theorem dX8_cell_69 : decode cX8_cell 69 = .ok (.aload_n 0, 1) := by decide +kernel
theorem dX8_cell_70 : decode cX8_cell 70 = .ok (.getfield 13, 3) := by decide +kernel
theorem dX8_cell_73 : decode cX8_cell 73 = .ok (.iload_n 1, 1) := by decide +kernel
theorem dX8_cell_74 : decode cX8_cell 74 = .ok (.iaload, 1) := by decide +kernel
theorem dX8_cell_75 : decode cX8_cell 75 = .ok (.iconst 1, 1) := by decide +kernel
theorem dX8_cell_76 : decode cX8_cell 76 = .ok (.isub, 1) := by decide +kernel
theorem dX8_cell_77 : decode cX8_cell 77 = .ok (.invokestatic 82, 3) := by decide +kernel
theorem dX8_cell_80 : decode cX8_cell 80 = .ok (.ifCond .ne 9, 3) := by decide +kernel
theorem dX8_cell_83 : decode cX8_cell 83 = .ok (.aload_n 0, 1) := by decide +kernel
theorem dX8_cell_84 : decode cX8_cell 84 = .ok (.iconst 3, 1) := by decide +kernel
theorem dX8_cell_85 : decode cX8_cell 85 = .ok (.invokevirtual 225, 3) := by decide +kernel
theorem dX8_cell_88 : decode cX8_cell 88 = .ok (.lreturn, 1) := by decide +kernel
theorem dX8_cell_89 : decode cX8_cell 89 = .ok (.aload_n 0, 1) := by decide +kernel
theorem dX8_cell_90 : decode cX8_cell 90 = .ok (.getfield 16, 3) := by decide +kernel
theorem dX8_cell_93 : decode cX8_cell 93 = .ok (.bipush 50, 2) := by decide +kernel
theorem dX8_cell_95 : decode cX8_cell 95 = .ok (.iload_n 1, 1) := by decide +kernel
theorem dX8_cell_96 : decode cX8_cell 96 = .ok (.imul, 1) := by decide +kernel
theorem dX8_cell_97 : decode cX8_cell 97 = .ok (.iload_n 2, 1) := by decide +kernel
theorem dX8_cell_98 : decode cX8_cell 98 = .ok (.iadd, 1) := by decide +kernel
theorem dX8_cell_99 : decode cX8_cell 99 = .ok (.iaload, 1) := by decide +kernel
theorem dX8_cell_100 : decode cX8_cell 100 = .ok (.i2l, 1) := by decide +kernel
theorem dX8_cell_101 : decode cX8_cell 101 = .ok (.lreturn, 1) := by decide +kernel
theorem dX8_copy_0 : decode cX8_copy 0 = .ok (.aload_n 0, 1) := by decide +kernel
theorem dX8_copy_1 : decode cX8_copy 1 = .ok (.iconst 0, 1) := by decide +kernel
theorem dX8_copy_2 : decode cX8_copy 2 = .ok (.putfield 76, 3) := by decide +kernel
theorem dX8_copy_5 : decode cX8_copy 5 = .ok (.iload_n 1, 1) := by decide +kernel
theorem dX8_copy_6 : decode cX8_copy 6 = .ok (.invokestatic 103, 3) := by decide +kernel
theorem dX8_copy_9 : decode cX8_copy 9 = .ok (.ifCond .eq 10, 3) := by decide +kernel
theorem dX8_copy_12 : decode cX8_copy 12 = .ok (.iload_n 3, 1) := by decide +kernel
theorem dX8_copy_13 : decode cX8_copy 13 = .ok (.invokestatic 103, 3) := by decide +kernel
theorem dX8_copy_16 : decode cX8_copy 16 = .ok (.ifCond .ne 5, 3) := by decide +kernel
theorem dX8_copy_19 : decode cX8_copy 19 = .ok (.iconst (-1), 1) := by decide +kernel
theorem dX8_copy_20 : decode cX8_copy 20 = .ok (.ireturn, 1) := by decide +kernel
theorem dX8_copy_21 : decode cX8_copy 21 = .ok (.aload_n 0, 1) := by decide +kernel
theorem dX8_copy_22 : decode cX8_copy 22 = .ok (.getfield 9, 3) := by decide +kernel
theorem dX8_copy_25 : decode cX8_copy 25 = .ok (.iload_n 1, 1) := by decide +kernel
theorem dX8_copy_26 : decode cX8_copy 26 = .ok (.iaload, 1) := by decide +kernel
theorem dX8_copy_27 : decode cX8_copy 27 = .ok (.bipush (-9), 2) := by decide +kernel
theorem dX8_copy_29 : decode cX8_copy 29 = .ok (.if_icmp .eq 14, 3) := by decide +kernel
theorem dX8_copy_32 : decode cX8_copy 32 = .ok (.aload_n 0, 1) := by decide +kernel
theorem dX8_copy_33 : decode cX8_copy 33 = .ok (.getfield 9, 3) := by decide +kernel
theorem dX8_copy_36 : decode cX8_copy 36 = .ok (.iload_n 3, 1) := by decide +kernel
theorem dX8_copy_37 : decode cX8_copy 37 = .ok (.iaload, 1) := by decide +kernel
theorem dX8_copy_38 : decode cX8_copy 38 = .ok (.bipush (-9), 2) := by decide +kernel
theorem dX8_copy_40 : decode cX8_copy 40 = .ok (.if_icmp .ne 9, 3) := by decide +kernel
theorem dX8_copy_43 : decode cX8_copy 43 = .ok (.aload_n 0, 1) := by decide +kernel
theorem dX8_copy_44 : decode cX8_copy 44 = .ok (.iconst 1, 1) := by decide +kernel
theorem dX8_copy_45 : decode cX8_copy 45 = .ok (.invokevirtual 114, 3) := by decide +kernel
theorem dX8_copy_48 : decode cX8_copy 48 = .ok (.ireturn, 1) := by decide +kernel
theorem dX8_copy_49 : decode cX8_copy 49 = .ok (.aload_n 0, 1) := by decide +kernel
theorem dX8_copy_50 : decode cX8_copy 50 = .ok (.getfield 9, 3) := by decide +kernel
theorem dX8_copy_53 : decode cX8_copy 53 = .ok (.iload_n 1, 1) := by decide +kernel
theorem dX8_copy_54 : decode cX8_copy 54 = .ok (.iaload, 1) := by decide +kernel
theorem dX8_copy_55 : decode cX8_copy 55 = .ok (.aload_n 0, 1) := by decide +kernel
theorem dX8_copy_56 : decode cX8_copy 56 = .ok (.getfield 9, 3) := by decide +kernel
theorem dX8_copy_59 : decode cX8_copy 59 = .ok (.iload_n 3, 1) := by decide +kernel
theorem dX8_copy_60 : decode cX8_copy 60 = .ok (.iaload, 1) := by decide +kernel
theorem dX8_copy_61 : decode cX8_copy 61 = .ok (.if_icmp .eq 9, 3) := by decide +kernel
theorem dX8_copy_64 : decode cX8_copy 64 = .ok (.aload_n 0, 1) := by decide +kernel
theorem dX8_copy_65 : decode cX8_copy 65 = .ok (.iconst 2, 1) := by decide +kernel
theorem dX8_copy_66 : decode cX8_copy 66 = .ok (.invokevirtual 114, 3) := by decide +kernel
theorem dX8_copy_69 : decode cX8_copy 69 = .ok (.ireturn, 1) := by decide +kernel
theorem dX8_copy_70 : decode cX8_copy 70 = .ok (.iload_n 2, 1) := by decide +kernel
theorem dX8_copy_71 : decode cX8_copy 71 = .ok (.ifCond .lt 38, 3) := by decide +kernel
theorem dX8_copy_74 : decode cX8_copy 74 = .ok (.iload 4, 2) := by decide +kernel
theorem dX8_copy_76 : decode cX8_copy 76 = .ok (.ifCond .lt 33, 3) := by decide +kernel
theorem dX8_copy_79 : decode cX8_copy 79 = .ok (.iload 5, 2) := by decide +kernel
theorem dX8_copy_81 : decode cX8_copy 81 = .ok (.ifCond .lt 28, 3) := by decide +kernel
theorem dX8_copy_84 : decode cX8_copy 84 = .ok (.iload_n 2, 1) := by decide +kernel
theorem dX8_copy_85 : decode cX8_copy 85 = .ok (.aload_n 0, 1) := by decide +kernel
theorem dX8_copy_86 : decode cX8_copy 86 = .ok (.getfield 13, 3) := by decide +kernel
theorem dX8_copy_89 : decode cX8_copy 89 = .ok (.iload_n 1, 1) := by decide +kernel
theorem dX8_copy_90 : decode cX8_copy 90 = .ok (.iaload, 1) := by decide +kernel
theorem dX8_copy_91 : decode cX8_copy 91 = .ok (.if_icmp .gt 18, 3) := by decide +kernel
theorem dX8_copy_94 : decode cX8_copy 94 = .ok (.iload 4, 2) := by decide +kernel
theorem dX8_copy_96 : decode cX8_copy 96 = .ok (.aload_n 0, 1) := by decide +kernel
theorem dX8_copy_97 : decode cX8_copy 97 = .ok (.getfield 13, 3) := by decide +kernel
theorem dX8_copy_100 : decode cX8_copy 100 = .ok (.iload_n 3, 1) := by decide +kernel
theorem dX8_copy_101 : decode cX8_copy 101 = .ok (.iaload, 1) := by decide +kernel
theorem dX8_copy_102 : decode cX8_copy 102 = .ok (.if_icmp .gt 7, 3) := by decide +kernel
theorem dX8_copy_105 : decode cX8_copy 105 = .ok (.iconst 1, 1) := by decide +kernel
theorem dX8_copy_106 : decode cX8_copy 106 = .ok (.goto 4, 3) := by decide +kernel
theorem dX8_copy_109 : decode cX8_copy 109 = .ok (.iconst 0, 1) := by decide +kernel
theorem dX8_copy_110 : decode cX8_copy 110 = .ok (.istore 6, 2) := by decide +kernel
theorem dX8_copy_112 : decode cX8_copy 112 = .ok (.iload 6, 2) := by decide +kernel
theorem dX8_copy_114 : decode cX8_copy 114 = .ok (.ifCond .eq 30, 3) := by decide +kernel
theorem dX8_copy_117 : decode cX8_copy 117 = .ok (.iload 5, 2) := by decide +kernel
theorem dX8_copy_119 : decode cX8_copy 119 = .ok (.aload_n 0, 1) := by decide +kernel
theorem dX8_copy_120 : decode cX8_copy 120 = .ok (.getfield 13, 3) := by decide +kernel
theorem dX8_copy_123 : decode cX8_copy 123 = .ok (.iload_n 1, 1) := by decide +kernel
theorem dX8_copy_124 : decode cX8_copy 124 = .ok (.iaload, 1) := by decide +kernel
theorem dX8_copy_125 : decode cX8_copy 125 = .ok (.iload_n 2, 1) := by decide +kernel
theorem dX8_copy_126 : decode cX8_copy 126 = .ok (.isub, 1) := by decide +kernel
theorem dX8_copy_127 : decode cX8_copy 127 = .ok (.if_icmp .gt 17, 3) := by decide +kernel
theorem dX8_copy_130 : decode cX8_copy 130 = .ok (.iload 5, 2) := by decide +kernel
theorem dX8_copy_132 : decode cX8_copy 132 = .ok (.aload_n 0, 1) := by decide +kernel
theorem dX8_copy_133 : decode cX8_copy 133 = .ok (.getfield 13, 3) := by decide +kernel
theorem dX8_copy_136 : decode cX8_copy 136 = .ok (.iload_n 3, 1) := by decide +kernel
theorem dX8_copy_137 : decode cX8_copy 137 = .ok (.iaload, 1) := by decide +kernel
theorem dX8_copy_138 : decode cX8_copy 138 = .ok (.iload 4, 2) := by decide +kernel
theorem dX8_copy_140 : decode cX8_copy 140 = .ok (.isub, 1) := by decide +kernel
theorem dX8_copy_141 : decode cX8_copy 141 = .ok (.if_icmp .le 9, 3) := by decide +kernel
theorem dX8_copy_144 : decode cX8_copy 144 = .ok (.aload_n 0, 1) := by decide +kernel
theorem dX8_copy_145 : decode cX8_copy 145 = .ok (.iconst 3, 1) := by decide +kernel
theorem dX8_copy_146 : decode cX8_copy 146 = .ok (.invokevirtual 114, 3) := by decide +kernel
theorem dX8_copy_149 : decode cX8_copy 149 = .ok (.ireturn, 1) := by decide +kernel
theorem dX8_copy_150 : decode cX8_copy 150 = .ok (.iload_n 2, 1) := by decide +kernel
theorem dX8_copy_151 : decode cX8_copy 151 = .ok (.iload 4, 2) := by decide +kernel
theorem dX8_copy_153 : decode cX8_copy 153 = .ok (.if_icmp .ge 7, 3) := by decide +kernel
theorem dX8_copy_156 : decode cX8_copy 156 = .ok (.iconst 1, 1) := by decide +kernel
theorem dX8_copy_157 : decode cX8_copy 157 = .ok (.goto 4, 3) := by decide +kernel
theorem dX8_copy_160 : decode cX8_copy 160 = .ok (.iconst 0, 1) := by decide +kernel
theorem dX8_copy_161 : decode cX8_copy 161 = .ok (.istore 7, 2) := by decide +kernel
theorem dX8_copy_163 : decode cX8_copy 163 = .ok (.iconst 0, 1) := by decide +kernel
theorem dX8_copy_164 : decode cX8_copy 164 = .ok (.istore 8, 2) := by decide +kernel
theorem dX8_copy_166 : decode cX8_copy 166 = .ok (.iload 8, 2) := by decide +kernel
theorem dX8_copy_168 : decode cX8_copy 168 = .ok (.iload 5, 2) := by decide +kernel
theorem dX8_copy_170 : decode cX8_copy 170 = .ok (.if_icmp .ge 57, 3) := by decide +kernel
theorem dX8_copy_173 : decode cX8_copy 173 = .ok (.iload 7, 2) := by decide +kernel
theorem dX8_copy_175 : decode cX8_copy 175 = .ok (.ifCond .eq 13, 3) := by decide +kernel
theorem dX8_copy_178 : decode cX8_copy 178 = .ok (.iload 5, 2) := by decide +kernel
theorem dX8_copy_180 : decode cX8_copy 180 = .ok (.iconst 1, 1) := by decide +kernel
theorem dX8_copy_181 : decode cX8_copy 181 = .ok (.isub, 1) := by decide +kernel
theorem dX8_copy_182 : decode cX8_copy 182 = .ok (.iload 8, 2) := by decide +kernel
theorem dX8_copy_184 : decode cX8_copy 184 = .ok (.isub, 1) := by decide +kernel
theorem dX8_copy_185 : decode cX8_copy 185 = .ok (.goto 5, 3) := by decide +kernel
theorem dX8_copy_188 : decode cX8_copy 188 = .ok (.iload 8, 2) := by decide +kernel
theorem dX8_copy_190 : decode cX8_copy 190 = .ok (.istore 9, 2) := by decide +kernel
theorem dX8_copy_192 : decode cX8_copy 192 = .ok (.aload_n 0, 1) := by decide +kernel
theorem dX8_copy_193 : decode cX8_copy 193 = .ok (.getfield 16, 3) := by decide +kernel
theorem dX8_copy_196 : decode cX8_copy 196 = .ok (.bipush 50, 2) := by decide +kernel
theorem dX8_copy_198 : decode cX8_copy 198 = .ok (.iload_n 3, 1) := by decide +kernel
theorem dX8_copy_199 : decode cX8_copy 199 = .ok (.imul, 1) := by decide +kernel
theorem dX8_copy_200 : decode cX8_copy 200 = .ok (.iload 4, 2) := by decide +kernel
theorem dX8_copy_202 : decode cX8_copy 202 = .ok (.iadd, 1) := by decide +kernel
theorem dX8_copy_203 : decode cX8_copy 203 = .ok (.iload 9, 2) := by decide +kernel
theorem dX8_copy_205 : decode cX8_copy 205 = .ok (.iadd, 1) := by decide +kernel
theorem dX8_copy_206 : decode cX8_copy 206 = .ok (.aload_n 0, 1) := by decide +kernel
theorem dX8_copy_207 : decode cX8_copy 207 = .ok (.getfield 16, 3) := by decide +kernel
theorem dX8_copy_210 : decode cX8_copy 210 = .ok (.bipush 50, 2) := by decide +kernel
theorem dX8_copy_212 : decode cX8_copy 212 = .ok (.iload_n 1, 1) := by decide +kernel
theorem dX8_copy_213 : decode cX8_copy 213 = .ok (.imul, 1) := by decide +kernel
theorem dX8_copy_214 : decode cX8_copy 214 = .ok (.iload_n 2, 1) := by decide +kernel
theorem dX8_copy_215 : decode cX8_copy 215 = .ok (.iadd, 1) := by decide +kernel
theorem dX8_copy_216 : decode cX8_copy 216 = .ok (.iload 9, 2) := by decide +kernel
theorem dX8_copy_218 : decode cX8_copy 218 = .ok (.iadd, 1) := by decide +kernel
theorem dX8_copy_219 : decode cX8_copy 219 = .ok (.iaload, 1) := by decide +kernel
theorem dX8_copy_220 : decode cX8_copy 220 = .ok (.iastore, 1) := by decide +kernel
theorem dX8_copy_221 : decode cX8_copy 221 = .ok (.iinc 8 1, 3) := by decide +kernel
theorem dX8_copy_224 : decode cX8_copy 224 = .ok (.goto (-58), 3) := by decide +kernel
theorem dX8_copy_227 : decode cX8_copy 227 = .ok (.iload 5, 2) := by decide +kernel
theorem dX8_copy_229 : decode cX8_copy 229 = .ok (.ireturn, 1) := by decide +kernel
theorem dX8_begins_0 : decode cX8_begins 0 = .ok (.aload_n 0, 1) := by decide +kernel
theorem dX8_begins_1 : decode cX8_begins 1 = .ok (.bipush 31, 2) := by decide +kernel
theorem dX8_begins_3 : decode cX8_begins 3 = .ok (.aload_n 0, 1) := by decide +kernel
theorem dX8_begins_4 : decode cX8_begins 4 = .ok (.getfield 229, 3) := by decide +kernel
theorem dX8_begins_7 : decode cX8_begins 7 = .ok (.imul, 1) := by decide +kernel
theorem dX8_begins_8 : decode cX8_begins 8 = .ok (.iload_n 1, 1) := by decide +kernel
theorem dX8_begins_9 : decode cX8_begins 9 = .ok (.iadd, 1) := by decide +kernel
theorem dX8_begins_10 : decode cX8_begins 10 = .ok (.putfield 229, 3) := by decide +kernel
theorem dX8_begins_13 : decode cX8_begins 13 = .ok (.return_, 1) := by decide +kernel
theorem dX8_tell_0 : decode cX8_tell 0 = .ok (.aload_n 0, 1) := by decide +kernel
theorem dX8_tell_1 : decode cX8_tell 1 = .ok (.iload_n 1, 1) := by decide +kernel
theorem dX8_tell_2 : decode cX8_tell 2 = .ok (.invokevirtual 138, 3) := by decide +kernel
theorem dX8_tell_5 : decode cX8_tell 5 = .ok (.ifCond .ne 5, 3) := by decide +kernel
theorem dX8_tell_8 : decode cX8_tell 8 = .ok (.iconst (-1), 1) := by decide +kernel
theorem dX8_tell_9 : decode cX8_tell 9 = .ok (.ireturn, 1) := by decide +kernel
theorem dX8_tell_10 : decode cX8_tell 10 = .ok (.aload_n 0, 1) := by decide +kernel
theorem dX8_tell_11 : decode cX8_tell 11 = .ok (.getfield 22, 3) := by decide +kernel
theorem dX8_tell_14 : decode cX8_tell 14 = .ok (.iload_n 1, 1) := by decide +kernel
theorem dX8_tell_15 : decode cX8_tell 15 = .ok (.iaload, 1) := by decide +kernel
theorem dX8_tell_16 : decode cX8_tell 16 = .ok (.istore_n 2, 1) := by decide +kernel
theorem dX8_tell_17 : decode cX8_tell 17 = .ok (.aload_n 0, 1) := by decide +kernel
theorem dX8_tell_18 : decode cX8_tell 18 = .ok (.getfield 19, 3) := by decide +kernel
theorem dX8_tell_21 : decode cX8_tell 21 = .ok (.iload_n 1, 1) := by decide +kernel
theorem dX8_tell_22 : decode cX8_tell 22 = .ok (.iaload, 1) := by decide +kernel
theorem dX8_tell_23 : decode cX8_tell 23 = .ok (.lookupswitch 67 #[(1, 25), (2, 40)], 25) := by decide +kernel
theorem dX8_tell_48 : decode cX8_tell 48 = .ok (.aload_n 0, 1) := by decide +kernel
theorem dX8_tell_49 : decode cX8_tell 49 = .ok (.iconst 2, 1) := by decide +kernel
theorem dX8_tell_50 : decode cX8_tell 50 = .ok (.invokevirtual 232, 3) := by decide +kernel
theorem dX8_tell_53 : decode cX8_tell 53 = .ok (.aload_n 0, 1) := by decide +kernel
theorem dX8_tell_54 : decode cX8_tell 54 = .ok (.iconst 1, 1) := by decide +kernel
theorem dX8_tell_55 : decode cX8_tell 55 = .ok (.invokevirtual 232, 3) := by decide +kernel
theorem dX8_tell_58 : decode cX8_tell 58 = .ok (.iload_n 2, 1) := by decide +kernel
theorem dX8_tell_59 : decode cX8_tell 59 = .ok (.bipush 100, 2) := by decide +kernel
theorem dX8_tell_61 : decode cX8_tell 61 = .ok (.iadd, 1) := by decide +kernel
theorem dX8_tell_62 : decode cX8_tell 62 = .ok (.ireturn, 1) := by decide +kernel
theorem dX8_tell_63 : decode cX8_tell 63 = .ok (.aload_n 0, 1) := by decide +kernel
theorem dX8_tell_64 : decode cX8_tell 64 = .ok (.iconst 3, 1) := by decide +kernel
theorem dX8_tell_65 : decode cX8_tell 65 = .ok (.invokevirtual 232, 3) := by decide +kernel
theorem dX8_tell_68 : decode cX8_tell 68 = .ok (.aload_n 0, 1) := by decide +kernel
theorem dX8_tell_69 : decode cX8_tell 69 = .ok (.iconst 2, 1) := by decide +kernel
theorem dX8_tell_70 : decode cX8_tell 70 = .ok (.invokevirtual 232, 3) := by decide +kernel
theorem dX8_tell_73 : decode cX8_tell 73 = .ok (.aload_n 0, 1) := by decide +kernel
theorem dX8_tell_74 : decode cX8_tell 74 = .ok (.iconst 1, 1) := by decide +kernel
theorem dX8_tell_75 : decode cX8_tell 75 = .ok (.invokevirtual 232, 3) := by decide +kernel
theorem dX8_tell_78 : decode cX8_tell 78 = .ok (.aload_n 0, 1) := by decide +kernel
theorem dX8_tell_79 : decode cX8_tell 79 = .ok (.iconst 1, 1) := by decide +kernel
theorem dX8_tell_80 : decode cX8_tell 80 = .ok (.invokevirtual 232, 3) := by decide +kernel
theorem dX8_tell_83 : decode cX8_tell 83 = .ok (.iconst 2, 1) := by decide +kernel
theorem dX8_tell_84 : decode cX8_tell 84 = .ok (.iload_n 2, 1) := by decide +kernel
theorem dX8_tell_85 : decode cX8_tell 85 = .ok (.imul, 1) := by decide +kernel
theorem dX8_tell_86 : decode cX8_tell 86 = .ok (.bipush 100, 2) := by decide +kernel
theorem dX8_tell_88 : decode cX8_tell 88 = .ok (.iadd, 1) := by decide +kernel
theorem dX8_tell_89 : decode cX8_tell 89 = .ok (.ireturn, 1) := by decide +kernel
theorem dX8_tell_90 : decode cX8_tell 90 = .ok (.aload_n 0, 1) := by decide +kernel
theorem dX8_tell_91 : decode cX8_tell 91 = .ok (.iconst 1, 1) := by decide +kernel
theorem dX8_tell_92 : decode cX8_tell 92 = .ok (.invokevirtual 232, 3) := by decide +kernel
theorem dX8_tell_95 : decode cX8_tell 95 = .ok (.iload_n 2, 1) := by decide +kernel
theorem dX8_tell_96 : decode cX8_tell 96 = .ok (.ireturn, 1) := by decide +kernel
theorem dX8_lean_0 : decode cX8_lean 0 = .ok (.aload_n 0, 1) := by decide +kernel
theorem dX8_lean_1 : decode cX8_lean 1 = .ok (.iload_n 1, 1) := by decide +kernel
theorem dX8_lean_2 : decode cX8_lean 2 = .ok (.invokevirtual 138, 3) := by decide +kernel
theorem dX8_lean_5 : decode cX8_lean 5 = .ok (.ifCond .ne 5, 3) := by decide +kernel
theorem dX8_lean_8 : decode cX8_lean 8 = .ok (.iconst (-1), 1) := by decide +kernel
theorem dX8_lean_9 : decode cX8_lean 9 = .ok (.ireturn, 1) := by decide +kernel
theorem dX8_lean_10 : decode cX8_lean 10 = .ok (.aload_n 0, 1) := by decide +kernel
theorem dX8_lean_11 : decode cX8_lean 11 = .ok (.aload_n 0, 1) := by decide +kernel
theorem dX8_lean_12 : decode cX8_lean 12 = .ok (.getfield 19, 3) := by decide +kernel
theorem dX8_lean_15 : decode cX8_lean 15 = .ok (.iload_n 1, 1) := by decide +kernel
theorem dX8_lean_16 : decode cX8_lean 16 = .ok (.iaload, 1) := by decide +kernel
theorem dX8_lean_17 : decode cX8_lean 17 = .ok (.iconst 2, 1) := by decide +kernel
theorem dX8_lean_18 : decode cX8_lean 18 = .ok (.if_icmp .ne 7, 3) := by decide +kernel
theorem dX8_lean_21 : decode cX8_lean 21 = .ok (.iconst 5, 1) := by decide +kernel
theorem dX8_lean_22 : decode cX8_lean 22 = .ok (.goto 4, 3) := by decide +kernel
theorem dX8_lean_25 : decode cX8_lean 25 = .ok (.iconst 4, 1) := by decide +kernel
theorem dX8_lean_26 : decode cX8_lean 26 = .ok (.invokevirtual 232, 3) := by decide +kernel
theorem dX8_lean_29 : decode cX8_lean 29 = .ok (.aload_n 0, 1) := by decide +kernel
theorem dX8_lean_30 : decode cX8_lean 30 = .ok (.getfield 19, 3) := by decide +kernel
theorem dX8_lean_33 : decode cX8_lean 33 = .ok (.iload_n 1, 1) := by decide +kernel
theorem dX8_lean_34 : decode cX8_lean 34 = .ok (.iaload, 1) := by decide +kernel
theorem dX8_lean_35 : decode cX8_lean 35 = .ok (.iconst 2, 1) := by decide +kernel
theorem dX8_lean_36 : decode cX8_lean 36 = .ok (.if_icmp .ne 8, 3) := by decide +kernel
theorem dX8_lean_39 : decode cX8_lean 39 = .ok (.bipush 70, 2) := by decide +kernel
theorem dX8_lean_41 : decode cX8_lean 41 = .ok (.goto 4, 3) := by decide +kernel
theorem dX8_lean_44 : decode cX8_lean 44 = .ok (.iload_n 1, 1) := by decide +kernel
theorem dX8_lean_45 : decode cX8_lean 45 = .ok (.ireturn, 1) := by decide +kernel
theorem dX8_as_0 : decode cX8_as 0 = .ok (.aload_n 0, 1) := by decide +kernel
theorem dX8_as_1 : decode cX8_as 1 = .ok (.iconst 0, 1) := by decide +kernel
theorem dX8_as_2 : decode cX8_as 2 = .ok (.putfield 76, 3) := by decide +kernel
theorem dX8_as_5 : decode cX8_as 5 = .ok (.aload_n 0, 1) := by decide +kernel
theorem dX8_as_6 : decode cX8_as 6 = .ok (.iload_n 1, 1) := by decide +kernel
theorem dX8_as_7 : decode cX8_as 7 = .ok (.invokevirtual 138, 3) := by decide +kernel
theorem dX8_as_10 : decode cX8_as 10 = .ok (.ifCond .ne 5, 3) := by decide +kernel
theorem dX8_as_13 : decode cX8_as 13 = .ok (.iconst (-1), 1) := by decide +kernel
theorem dX8_as_14 : decode cX8_as 14 = .ok (.ireturn, 1) := by decide +kernel
theorem dX8_as_15 : decode cX8_as 15 = .ok (.iload_n 2, 1) := by decide +kernel
theorem dX8_as_16 : decode cX8_as 16 = .ok (.iconst 0, 1) := by decide +kernel
theorem dX8_as_17 : decode cX8_as 17 = .ok (.iconst 2, 1) := by decide +kernel
theorem dX8_as_18 : decode cX8_as 18 = .ok (.invokestatic 82, 3) := by decide +kernel
theorem dX8_as_21 : decode cX8_as 21 = .ok (.ifCond .ne 6, 3) := by decide +kernel
theorem dX8_as_24 : decode cX8_as 24 = .ok (.bipush (-2), 2) := by decide +kernel
theorem dX8_as_26 : decode cX8_as 26 = .ok (.ireturn, 1) := by decide +kernel
theorem dX8_as_27 : decode cX8_as 27 = .ok (.aload_n 0, 1) := by decide +kernel
theorem dX8_as_28 : decode cX8_as 28 = .ok (.getfield 19, 3) := by decide +kernel
theorem dX8_as_31 : decode cX8_as 31 = .ok (.iload_n 1, 1) := by decide +kernel
theorem dX8_as_32 : decode cX8_as 32 = .ok (.iaload, 1) := by decide +kernel
theorem dX8_as_33 : decode cX8_as 33 = .ok (.iload_n 2, 1) := by decide +kernel
theorem dX8_as_34 : decode cX8_as 34 = .ok (.if_icmp .lt 7, 3) := by decide +kernel
theorem dX8_as_37 : decode cX8_as 37 = .ok (.iconst 1, 1) := by decide +kernel
theorem dX8_as_38 : decode cX8_as 38 = .ok (.goto 8, 3) := by decide +kernel
theorem dX8_as_41 : decode cX8_as 41 = .ok (.aload_n 0, 1) := by decide +kernel
theorem dX8_as_42 : decode cX8_as 42 = .ok (.iconst 2, 1) := by decide +kernel
theorem dX8_as_43 : decode cX8_as 43 = .ok (.invokevirtual 114, 3) := by decide +kernel
theorem dX8_as_46 : decode cX8_as 46 = .ok (.ireturn, 1) := by decide +kernel
theorem dX8_trace_0 : decode cX8_trace 0 = .ok (.aload_n 0, 1) := by decide +kernel
theorem dX8_trace_1 : decode cX8_trace 1 = .ok (.getfield 229, 3) := by decide +kernel
theorem dX8_trace_4 : decode cX8_trace 4 = .ok (.ireturn, 1) := by decide +kernel
theorem dX8_fault_0 : decode cX8_fault 0 = .ok (.aload_n 0, 1) := by decide +kernel
theorem dX8_fault_1 : decode cX8_fault 1 = .ok (.getfield 76, 3) := by decide +kernel
theorem dX8_fault_4 : decode cX8_fault 4 = .ok (.ireturn, 1) := by decide +kernel
theorem dX8_many_0 : decode cX8_many 0 = .ok (.iload_n 1, 1) := by decide +kernel
theorem dX8_many_1 : decode cX8_many 1 = .ok (.tableswitch 68 0 4 #[35, 40, 45, 50, 55], 35) := by decide +kernel
theorem dX8_many_36 : decode cX8_many 36 = .ok (.aload_n 0, 1) := by decide +kernel
theorem dX8_many_37 : decode cX8_many 37 = .ok (.getfield 86, 3) := by decide +kernel
theorem dX8_many_40 : decode cX8_many 40 = .ok (.ireturn, 1) := by decide +kernel
theorem dX8_many_41 : decode cX8_many 41 = .ok (.aload_n 0, 1) := by decide +kernel
theorem dX8_many_42 : decode cX8_many 42 = .ok (.invokevirtual 93, 3) := by decide +kernel
theorem dX8_many_45 : decode cX8_many 45 = .ok (.ireturn, 1) := by decide +kernel
theorem dX8_many_46 : decode cX8_many 46 = .ok (.aload_n 0, 1) := by decide +kernel
theorem dX8_many_47 : decode cX8_many 47 = .ok (.invokevirtual 236, 3) := by decide +kernel
theorem dX8_many_50 : decode cX8_many 50 = .ok (.ireturn, 1) := by decide +kernel
theorem dX8_many_51 : decode cX8_many 51 = .ok (.aload_n 0, 1) := by decide +kernel
theorem dX8_many_52 : decode cX8_many 52 = .ok (.getfield 127, 3) := by decide +kernel
theorem dX8_many_55 : decode cX8_many 55 = .ok (.ireturn, 1) := by decide +kernel
theorem dX8_many_56 : decode cX8_many 56 = .ok (.aload_n 0, 1) := by decide +kernel
theorem dX8_many_57 : decode cX8_many 57 = .ok (.getfield 89, 3) := by decide +kernel
theorem dX8_many_60 : decode cX8_many 60 = .ok (.ifCond .eq 7, 3) := by decide +kernel
theorem dX8_many_63 : decode cX8_many 63 = .ok (.iconst 1, 1) := by decide +kernel
theorem dX8_many_64 : decode cX8_many 64 = .ok (.goto 4, 3) := by decide +kernel
theorem dX8_many_67 : decode cX8_many 67 = .ok (.iconst 0, 1) := by decide +kernel
theorem dX8_many_68 : decode cX8_many 68 = .ok (.ireturn, 1) := by decide +kernel
theorem dX8_many_69 : decode cX8_many 69 = .ok (.bipush (-2), 2) := by decide +kernel
theorem dX8_many_71 : decode cX8_many 71 = .ok (.ireturn, 1) := by decide +kernel
theorem dX8_walled_0 : decode cX8_walled 0 = .ok (.iconst 0, 1) := by decide +kernel
theorem dX8_walled_1 : decode cX8_walled 1 = .ok (.istore_n 1, 1) := by decide +kernel
theorem dX8_walled_2 : decode cX8_walled 2 = .ok (.aload_n 0, 1) := by decide +kernel
theorem dX8_walled_3 : decode cX8_walled 3 = .ok (.getfield 97, 3) := by decide +kernel
theorem dX8_walled_6 : decode cX8_walled 6 = .ok (.istore_n 2, 1) := by decide +kernel
theorem dX8_walled_7 : decode cX8_walled 7 = .ok (.iload_n 2, 1) := by decide +kernel
theorem dX8_walled_8 : decode cX8_walled 8 = .ok (.ifCond .le 16, 3) := by decide +kernel
theorem dX8_walled_11 : decode cX8_walled 11 = .ok (.iload_n 1, 1) := by decide +kernel
theorem dX8_walled_12 : decode cX8_walled 12 = .ok (.iload_n 2, 1) := by decide +kernel
theorem dX8_walled_13 : decode cX8_walled 13 = .ok (.iconst 1, 1) := by decide +kernel
theorem dX8_walled_14 : decode cX8_walled 14 = .ok (.iand, 1) := by decide +kernel
theorem dX8_walled_15 : decode cX8_walled 15 = .ok (.iadd, 1) := by decide +kernel
theorem dX8_walled_16 : decode cX8_walled 16 = .ok (.istore_n 1, 1) := by decide +kernel
theorem dX8_walled_17 : decode cX8_walled 17 = .ok (.iload_n 2, 1) := by decide +kernel
theorem dX8_walled_18 : decode cX8_walled 18 = .ok (.iconst 1, 1) := by decide +kernel
theorem dX8_walled_19 : decode cX8_walled 19 = .ok (.ishr, 1) := by decide +kernel
theorem dX8_walled_20 : decode cX8_walled 20 = .ok (.istore_n 2, 1) := by decide +kernel
theorem dX8_walled_21 : decode cX8_walled 21 = .ok (.goto (-14), 3) := by decide +kernel
theorem dX8_walled_24 : decode cX8_walled 24 = .ok (.iload_n 1, 1) := by decide +kernel
theorem dX8_walled_25 : decode cX8_walled 25 = .ok (.ireturn, 1) := by decide +kernel
theorem dJ9_max_7cf53_0 : decode cJ9_max_7cf53 0 = .ok (.iload_n 0, 1) := by decide +kernel
theorem dJ9_max_7cf53_1 : decode cJ9_max_7cf53 1 = .ok (.iload_n 1, 1) := by decide +kernel
theorem dJ9_max_7cf53_2 : decode cJ9_max_7cf53 2 = .ok (.if_icmp .lt 7, 3) := by decide +kernel
theorem dJ9_max_7cf53_5 : decode cJ9_max_7cf53 5 = .ok (.iload_n 0, 1) := by decide +kernel
theorem dJ9_max_7cf53_6 : decode cJ9_max_7cf53 6 = .ok (.goto 4, 3) := by decide +kernel
theorem dJ9_max_7cf53_9 : decode cJ9_max_7cf53 9 = .ok (.iload_n 1, 1) := by decide +kernel
theorem dJ9_max_7cf53_10 : decode cJ9_max_7cf53 10 = .ok (.ireturn, 1) := by decide +kernel
theorem dJ9_min_7cf53_0 : decode cJ9_min_7cf53 0 = .ok (.iload_n 0, 1) := by decide +kernel
theorem dJ9_min_7cf53_1 : decode cJ9_min_7cf53 1 = .ok (.iload_n 1, 1) := by decide +kernel
theorem dJ9_min_7cf53_2 : decode cJ9_min_7cf53 2 = .ok (.if_icmp .gt 7, 3) := by decide +kernel
theorem dJ9_min_7cf53_5 : decode cJ9_min_7cf53 5 = .ok (.iload_n 0, 1) := by decide +kernel
theorem dJ9_min_7cf53_6 : decode cJ9_min_7cf53 6 = .ok (.goto 4, 3) := by decide +kernel
theorem dJ9_min_7cf53_9 : decode cJ9_min_7cf53 9 = .ok (.iload_n 1, 1) := by decide +kernel
theorem dJ9_min_7cf53_10 : decode cJ9_min_7cf53 10 = .ok (.ireturn, 1) := by decide +kernel
theorem dJ7_fill_d0a16_0 : decode cJ7_fill_d0a16 0 = .ok (.iconst 0, 1) := by decide +kernel
theorem dJ7_fill_d0a16_1 : decode cJ7_fill_d0a16 1 = .ok (.istore_n 3, 1) := by decide +kernel
theorem dJ7_fill_d0a16_2 : decode cJ7_fill_d0a16 2 = .ok (.aload_n 0, 1) := by decide +kernel
theorem dJ7_fill_d0a16_3 : decode cJ7_fill_d0a16 3 = .ok (.arraylength, 1) := by decide +kernel
theorem dJ7_fill_d0a16_4 : decode cJ7_fill_d0a16 4 = .ok (.istore 4, 2) := by decide +kernel
theorem dJ7_fill_d0a16_6 : decode cJ7_fill_d0a16 6 = .ok (.iload_n 3, 1) := by decide +kernel
theorem dJ7_fill_d0a16_7 : decode cJ7_fill_d0a16 7 = .ok (.iload 4, 2) := by decide +kernel
theorem dJ7_fill_d0a16_9 : decode cJ7_fill_d0a16 9 = .ok (.if_icmp .ge 13, 3) := by decide +kernel
theorem dJ7_fill_d0a16_12 : decode cJ7_fill_d0a16 12 = .ok (.aload_n 0, 1) := by decide +kernel
theorem dJ7_fill_d0a16_13 : decode cJ7_fill_d0a16 13 = .ok (.iload_n 3, 1) := by decide +kernel
theorem dJ7_fill_d0a16_14 : decode cJ7_fill_d0a16 14 = .ok (.lload_n 1, 1) := by decide +kernel
theorem dJ7_fill_d0a16_15 : decode cJ7_fill_d0a16 15 = .ok (.lastore, 1) := by decide +kernel
theorem dJ7_fill_d0a16_16 : decode cJ7_fill_d0a16 16 = .ok (.iinc 3 1, 3) := by decide +kernel
theorem dJ7_fill_d0a16_19 : decode cJ7_fill_d0a16 19 = .ok (.goto (-13), 3) := by decide +kernel
theorem dJ7_fill_d0a16_22 : decode cJ7_fill_d0a16 22 = .ok (.return_, 1) := by decide +kernel
theorem dJ7_fill_53178_0 : decode cJ7_fill_53178 0 = .ok (.iconst 0, 1) := by decide +kernel
theorem dJ7_fill_53178_1 : decode cJ7_fill_53178 1 = .ok (.istore_n 2, 1) := by decide +kernel
theorem dJ7_fill_53178_2 : decode cJ7_fill_53178 2 = .ok (.aload_n 0, 1) := by decide +kernel
theorem dJ7_fill_53178_3 : decode cJ7_fill_53178 3 = .ok (.arraylength, 1) := by decide +kernel
theorem dJ7_fill_53178_4 : decode cJ7_fill_53178 4 = .ok (.istore_n 3, 1) := by decide +kernel
theorem dJ7_fill_53178_5 : decode cJ7_fill_53178 5 = .ok (.iload_n 2, 1) := by decide +kernel
theorem dJ7_fill_53178_6 : decode cJ7_fill_53178 6 = .ok (.iload_n 3, 1) := by decide +kernel
theorem dJ7_fill_53178_7 : decode cJ7_fill_53178 7 = .ok (.if_icmp .ge 13, 3) := by decide +kernel
theorem dJ7_fill_53178_10 : decode cJ7_fill_53178 10 = .ok (.aload_n 0, 1) := by decide +kernel
theorem dJ7_fill_53178_11 : decode cJ7_fill_53178 11 = .ok (.iload_n 2, 1) := by decide +kernel
theorem dJ7_fill_53178_12 : decode cJ7_fill_53178 12 = .ok (.iload_n 1, 1) := by decide +kernel
theorem dJ7_fill_53178_13 : decode cJ7_fill_53178 13 = .ok (.iastore, 1) := by decide +kernel
theorem dJ7_fill_53178_14 : decode cJ7_fill_53178 14 = .ok (.iinc 2 1, 3) := by decide +kernel
theorem dJ7_fill_53178_17 : decode cJ7_fill_53178 17 = .ok (.goto (-12), 3) := by decide +kernel
theorem dJ7_fill_53178_20 : decode cJ7_fill_53178 20 = .ok (.return_, 1) := by decide +kernel
theorem dL_law_0 : decode cL_law 0 = .ok (.new 7, 3) := by decide +kernel
theorem dL_law_3 : decode cL_law 3 = .ok (.dup, 1) := by decide +kernel
theorem dL_law_4 : decode cL_law 4 = .ok (.invokespecial 9, 3) := by decide +kernel
theorem dL_law_7 : decode cL_law 7 = .ok (.astore_n 1, 1) := by decide +kernel
theorem dL_law_8 : decode cL_law 8 = .ok (.new 10, 3) := by decide +kernel
theorem dL_law_11 : decode cL_law 11 = .ok (.dup, 1) := by decide +kernel
theorem dL_law_12 : decode cL_law 12 = .ok (.invokespecial 12, 3) := by decide +kernel
theorem dL_law_15 : decode cL_law 15 = .ok (.astore_n 2, 1) := by decide +kernel
theorem dL_law_16 : decode cL_law 16 = .ok (.iconst 0, 1) := by decide +kernel
theorem dL_law_17 : decode cL_law 17 = .ok (.istore_n 3, 1) := by decide +kernel
theorem dL_law_18 : decode cL_law 18 = .ok (.iload_n 3, 1) := by decide +kernel
theorem dL_law_19 : decode cL_law 19 = .ok (.aload_n 0, 1) := by decide +kernel
theorem dL_law_20 : decode cL_law 20 = .ok (.arraylength, 1) := by decide +kernel
theorem dL_law_21 : decode cL_law 21 = .ok (.bipush 6, 2) := by decide +kernel
theorem dL_law_23 : decode cL_law 23 = .ok (.isub, 1) := by decide +kernel
theorem dL_law_24 : decode cL_law 24 = .ok (.if_icmp .gt 1118, 3) := by decide +kernel
theorem dL_law_27 : decode cL_law 27 = .ok (.aload_n 0, 1) := by decide +kernel
theorem dL_law_28 : decode cL_law 28 = .ok (.iload_n 3, 1) := by decide +kernel
theorem dL_law_29 : decode cL_law 29 = .ok (.iaload, 1) := by decide +kernel
theorem dL_law_30 : decode cL_law 30 = .ok (.bipush 31, 2) := by decide +kernel
theorem dL_law_32 : decode cL_law 32 = .ok (.iand, 1) := by decide +kernel
theorem dL_law_33 : decode cL_law 33 = .ok (.tableswitch 1103 0 29 #[135, 188, 221, 270, 293, 326, 379, 432, 445, 458, 481, 544, 557, 580, 624, 647, 700, 723, 746, 759, 802, 825, 868, 912, 975, 998, 1021, 1054, 1067, 1080], 135) := by decide +kernel
theorem dL_law_168 : decode cL_law 168 = .ok (.aload_n 1, 1) := by decide +kernel
theorem dL_law_169 : decode cL_law 169 = .ok (.aload_n 0, 1) := by decide +kernel
theorem dL_law_170 : decode cL_law 170 = .ok (.iload_n 3, 1) := by decide +kernel
theorem dL_law_171 : decode cL_law 171 = .ok (.iconst 1, 1) := by decide +kernel
theorem dL_law_172 : decode cL_law 172 = .ok (.iadd, 1) := by decide +kernel
theorem dL_law_173 : decode cL_law 173 = .ok (.iaload, 1) := by decide +kernel
theorem dL_law_174 : decode cL_law 174 = .ok (.aload_n 0, 1) := by decide +kernel
theorem dL_law_175 : decode cL_law 175 = .ok (.iload_n 3, 1) := by decide +kernel
theorem dL_law_176 : decode cL_law 176 = .ok (.iconst 2, 1) := by decide +kernel
theorem dL_law_177 : decode cL_law 177 = .ok (.iadd, 1) := by decide +kernel
theorem dL_law_178 : decode cL_law 178 = .ok (.iaload, 1) := by decide +kernel
theorem dL_law_179 : decode cL_law 179 = .ok (.aload_n 0, 1) := by decide +kernel
theorem dL_law_180 : decode cL_law 180 = .ok (.iload_n 3, 1) := by decide +kernel
theorem dL_law_181 : decode cL_law 181 = .ok (.iconst 3, 1) := by decide +kernel
theorem dL_law_182 : decode cL_law 182 = .ok (.iadd, 1) := by decide +kernel
theorem dL_law_183 : decode cL_law 183 = .ok (.iaload, 1) := by decide +kernel
theorem dL_law_184 : decode cL_law 184 = .ok (.aload_n 0, 1) := by decide +kernel
theorem dL_law_185 : decode cL_law 185 = .ok (.iload_n 3, 1) := by decide +kernel
theorem dL_law_186 : decode cL_law 186 = .ok (.iconst 4, 1) := by decide +kernel
theorem dL_law_187 : decode cL_law 187 = .ok (.iadd, 1) := by decide +kernel
theorem dL_law_188 : decode cL_law 188 = .ok (.iaload, 1) := by decide +kernel
theorem dL_law_189 : decode cL_law 189 = .ok (.invokevirtual 13, 3) := by decide +kernel
theorem dL_law_192 : decode cL_law 192 = .ok (.aload_n 2, 1) := by decide +kernel
theorem dL_law_193 : decode cL_law 193 = .ok (.aload_n 0, 1) := by decide +kernel
theorem dL_law_194 : decode cL_law 194 = .ok (.iload_n 3, 1) := by decide +kernel
theorem dL_law_195 : decode cL_law 195 = .ok (.iconst 1, 1) := by decide +kernel
theorem dL_law_196 : decode cL_law 196 = .ok (.iadd, 1) := by decide +kernel
theorem dL_law_197 : decode cL_law 197 = .ok (.iaload, 1) := by decide +kernel
theorem dL_law_198 : decode cL_law 198 = .ok (.aload_n 0, 1) := by decide +kernel
theorem dL_law_199 : decode cL_law 199 = .ok (.iload_n 3, 1) := by decide +kernel
theorem dL_law_200 : decode cL_law 200 = .ok (.iconst 2, 1) := by decide +kernel
theorem dL_law_201 : decode cL_law 201 = .ok (.iadd, 1) := by decide +kernel
theorem dL_law_202 : decode cL_law 202 = .ok (.iaload, 1) := by decide +kernel
theorem dL_law_203 : decode cL_law 203 = .ok (.aload_n 0, 1) := by decide +kernel
theorem dL_law_204 : decode cL_law 204 = .ok (.iload_n 3, 1) := by decide +kernel
theorem dL_law_205 : decode cL_law 205 = .ok (.iconst 3, 1) := by decide +kernel
theorem dL_law_206 : decode cL_law 206 = .ok (.iadd, 1) := by decide +kernel
theorem dL_law_207 : decode cL_law 207 = .ok (.iaload, 1) := by decide +kernel
theorem dL_law_208 : decode cL_law 208 = .ok (.aload_n 0, 1) := by decide +kernel
theorem dL_law_209 : decode cL_law 209 = .ok (.iload_n 3, 1) := by decide +kernel
theorem dL_law_210 : decode cL_law 210 = .ok (.iconst 4, 1) := by decide +kernel
theorem dL_law_211 : decode cL_law 211 = .ok (.iadd, 1) := by decide +kernel
theorem dL_law_212 : decode cL_law 212 = .ok (.iaload, 1) := by decide +kernel
theorem dL_law_213 : decode cL_law 213 = .ok (.invokevirtual 17, 3) := by decide +kernel
theorem dL_law_216 : decode cL_law 216 = .ok (.if_icmp .eq 920, 3) := by decide +kernel
theorem dL_law_219 : decode cL_law 219 = .ok (.iconst 0, 1) := by decide +kernel
theorem dL_law_220 : decode cL_law 220 = .ok (.ireturn, 1) := by decide +kernel
theorem dL_law_221 : decode cL_law 221 = .ok (.aload_n 1, 1) := by decide +kernel
theorem dL_law_222 : decode cL_law 222 = .ok (.aload_n 0, 1) := by decide +kernel
theorem dL_law_223 : decode cL_law 223 = .ok (.iload_n 3, 1) := by decide +kernel
theorem dL_law_224 : decode cL_law 224 = .ok (.iconst 1, 1) := by decide +kernel
theorem dL_law_225 : decode cL_law 225 = .ok (.iadd, 1) := by decide +kernel
theorem dL_law_226 : decode cL_law 226 = .ok (.iaload, 1) := by decide +kernel
theorem dL_law_227 : decode cL_law 227 = .ok (.aload_n 0, 1) := by decide +kernel
theorem dL_law_228 : decode cL_law 228 = .ok (.iload_n 3, 1) := by decide +kernel
theorem dL_law_229 : decode cL_law 229 = .ok (.iconst 2, 1) := by decide +kernel
theorem dL_law_230 : decode cL_law 230 = .ok (.iadd, 1) := by decide +kernel
theorem dL_law_231 : decode cL_law 231 = .ok (.iaload, 1) := by decide +kernel
theorem dL_law_232 : decode cL_law 232 = .ok (.invokevirtual 18, 3) := by decide +kernel
theorem dL_law_235 : decode cL_law 235 = .ok (.aload_n 2, 1) := by decide +kernel
theorem dL_law_236 : decode cL_law 236 = .ok (.aload_n 0, 1) := by decide +kernel
theorem dL_law_237 : decode cL_law 237 = .ok (.iload_n 3, 1) := by decide +kernel
theorem dL_law_238 : decode cL_law 238 = .ok (.iconst 1, 1) := by decide +kernel
theorem dL_law_239 : decode cL_law 239 = .ok (.iadd, 1) := by decide +kernel
theorem dL_law_240 : decode cL_law 240 = .ok (.iaload, 1) := by decide +kernel
theorem dL_law_241 : decode cL_law 241 = .ok (.aload_n 0, 1) := by decide +kernel
theorem dL_law_242 : decode cL_law 242 = .ok (.iload_n 3, 1) := by decide +kernel
theorem dL_law_243 : decode cL_law 243 = .ok (.iconst 2, 1) := by decide +kernel
theorem dL_law_244 : decode cL_law 244 = .ok (.iadd, 1) := by decide +kernel
theorem dL_law_245 : decode cL_law 245 = .ok (.iaload, 1) := by decide +kernel
theorem dL_law_246 : decode cL_law 246 = .ok (.invokevirtual 22, 3) := by decide +kernel
theorem dL_law_249 : decode cL_law 249 = .ok (.if_icmp .eq 887, 3) := by decide +kernel
theorem dL_law_252 : decode cL_law 252 = .ok (.iconst 0, 1) := by decide +kernel
theorem dL_law_253 : decode cL_law 253 = .ok (.ireturn, 1) := by decide +kernel
theorem dL_law_254 : decode cL_law 254 = .ok (.aload_n 1, 1) := by decide +kernel
theorem dL_law_255 : decode cL_law 255 = .ok (.aload_n 0, 1) := by decide +kernel
theorem dL_law_256 : decode cL_law 256 = .ok (.iload_n 3, 1) := by decide +kernel
theorem dL_law_257 : decode cL_law 257 = .ok (.iconst 1, 1) := by decide +kernel
theorem dL_law_258 : decode cL_law 258 = .ok (.iadd, 1) := by decide +kernel
theorem dL_law_259 : decode cL_law 259 = .ok (.iaload, 1) := by decide +kernel
theorem dL_law_260 : decode cL_law 260 = .ok (.aload_n 0, 1) := by decide +kernel
theorem dL_law_261 : decode cL_law 261 = .ok (.iload_n 3, 1) := by decide +kernel
theorem dL_law_262 : decode cL_law 262 = .ok (.iconst 2, 1) := by decide +kernel
theorem dL_law_263 : decode cL_law 263 = .ok (.iadd, 1) := by decide +kernel
theorem dL_law_264 : decode cL_law 264 = .ok (.iaload, 1) := by decide +kernel
theorem dL_law_265 : decode cL_law 265 = .ok (.ifCond .eq 7, 3) := by decide +kernel
theorem dL_law_268 : decode cL_law 268 = .ok (.iconst 1, 1) := by decide +kernel
theorem dL_law_269 : decode cL_law 269 = .ok (.goto 4, 3) := by decide +kernel
theorem dL_law_272 : decode cL_law 272 = .ok (.iconst 0, 1) := by decide +kernel
theorem dL_law_273 : decode cL_law 273 = .ok (.invokevirtual 23, 3) := by decide +kernel
theorem dL_law_276 : decode cL_law 276 = .ok (.aload_n 2, 1) := by decide +kernel
theorem dL_law_277 : decode cL_law 277 = .ok (.aload_n 0, 1) := by decide +kernel
theorem dL_law_278 : decode cL_law 278 = .ok (.iload_n 3, 1) := by decide +kernel
theorem dL_law_279 : decode cL_law 279 = .ok (.iconst 1, 1) := by decide +kernel
theorem dL_law_280 : decode cL_law 280 = .ok (.iadd, 1) := by decide +kernel
theorem dL_law_281 : decode cL_law 281 = .ok (.iaload, 1) := by decide +kernel
theorem dL_law_282 : decode cL_law 282 = .ok (.aload_n 0, 1) := by decide +kernel
theorem dL_law_283 : decode cL_law 283 = .ok (.iload_n 3, 1) := by decide +kernel
theorem dL_law_284 : decode cL_law 284 = .ok (.iconst 2, 1) := by decide +kernel
theorem dL_law_285 : decode cL_law 285 = .ok (.iadd, 1) := by decide +kernel
theorem dL_law_286 : decode cL_law 286 = .ok (.iaload, 1) := by decide +kernel
theorem dL_law_287 : decode cL_law 287 = .ok (.ifCond .eq 7, 3) := by decide +kernel
theorem dL_law_290 : decode cL_law 290 = .ok (.iconst 1, 1) := by decide +kernel
theorem dL_law_291 : decode cL_law 291 = .ok (.goto 4, 3) := by decide +kernel
theorem dL_law_294 : decode cL_law 294 = .ok (.iconst 0, 1) := by decide +kernel
theorem dL_law_295 : decode cL_law 295 = .ok (.invokevirtual 27, 3) := by decide +kernel
theorem dL_law_298 : decode cL_law 298 = .ok (.if_icmp .eq 838, 3) := by decide +kernel
theorem dL_law_301 : decode cL_law 301 = .ok (.iconst 0, 1) := by decide +kernel
theorem dL_law_302 : decode cL_law 302 = .ok (.ireturn, 1) := by decide +kernel
theorem dL_law_303 : decode cL_law 303 = .ok (.aload_n 1, 1) := by decide +kernel
theorem dL_law_304 : decode cL_law 304 = .ok (.aload_n 0, 1) := by decide +kernel
theorem dL_law_305 : decode cL_law 305 = .ok (.iload_n 3, 1) := by decide +kernel
theorem dL_law_306 : decode cL_law 306 = .ok (.iconst 1, 1) := by decide +kernel
theorem dL_law_307 : decode cL_law 307 = .ok (.iadd, 1) := by decide +kernel
theorem dL_law_308 : decode cL_law 308 = .ok (.iaload, 1) := by decide +kernel
theorem dL_law_309 : decode cL_law 309 = .ok (.invokevirtual 28, 3) := by decide +kernel
theorem dL_law_312 : decode cL_law 312 = .ok (.aload_n 2, 1) := by decide +kernel
theorem dL_law_313 : decode cL_law 313 = .ok (.aload_n 0, 1) := by decide +kernel
theorem dL_law_314 : decode cL_law 314 = .ok (.iload_n 3, 1) := by decide +kernel
theorem dL_law_315 : decode cL_law 315 = .ok (.iconst 1, 1) := by decide +kernel
theorem dL_law_316 : decode cL_law 316 = .ok (.iadd, 1) := by decide +kernel
theorem dL_law_317 : decode cL_law 317 = .ok (.iaload, 1) := by decide +kernel
theorem dL_law_318 : decode cL_law 318 = .ok (.invokevirtual 32, 3) := by decide +kernel
theorem dL_law_321 : decode cL_law 321 = .ok (.if_icmp .eq 815, 3) := by decide +kernel
theorem dL_law_324 : decode cL_law 324 = .ok (.iconst 0, 1) := by decide +kernel
theorem dL_law_325 : decode cL_law 325 = .ok (.ireturn, 1) := by decide +kernel
theorem dL_law_326 : decode cL_law 326 = .ok (.aload_n 1, 1) := by decide +kernel
theorem dL_law_327 : decode cL_law 327 = .ok (.aload_n 0, 1) := by decide +kernel
theorem dL_law_328 : decode cL_law 328 = .ok (.iload_n 3, 1) := by decide +kernel
theorem dL_law_329 : decode cL_law 329 = .ok (.iconst 1, 1) := by decide +kernel
theorem dL_law_330 : decode cL_law 330 = .ok (.iadd, 1) := by decide +kernel
theorem dL_law_331 : decode cL_law 331 = .ok (.iaload, 1) := by decide +kernel
theorem dL_law_332 : decode cL_law 332 = .ok (.aload_n 0, 1) := by decide +kernel
theorem dL_law_333 : decode cL_law 333 = .ok (.iload_n 3, 1) := by decide +kernel
theorem dL_law_334 : decode cL_law 334 = .ok (.iconst 2, 1) := by decide +kernel
theorem dL_law_335 : decode cL_law 335 = .ok (.iadd, 1) := by decide +kernel
theorem dL_law_336 : decode cL_law 336 = .ok (.iaload, 1) := by decide +kernel
theorem dL_law_337 : decode cL_law 337 = .ok (.invokevirtual 33, 3) := by decide +kernel
theorem dL_law_340 : decode cL_law 340 = .ok (.aload_n 2, 1) := by decide +kernel
theorem dL_law_341 : decode cL_law 341 = .ok (.aload_n 0, 1) := by decide +kernel
theorem dL_law_342 : decode cL_law 342 = .ok (.iload_n 3, 1) := by decide +kernel
theorem dL_law_343 : decode cL_law 343 = .ok (.iconst 1, 1) := by decide +kernel
theorem dL_law_344 : decode cL_law 344 = .ok (.iadd, 1) := by decide +kernel
theorem dL_law_345 : decode cL_law 345 = .ok (.iaload, 1) := by decide +kernel
theorem dL_law_346 : decode cL_law 346 = .ok (.aload_n 0, 1) := by decide +kernel
theorem dL_law_347 : decode cL_law 347 = .ok (.iload_n 3, 1) := by decide +kernel
theorem dL_law_348 : decode cL_law 348 = .ok (.iconst 2, 1) := by decide +kernel
theorem dL_law_349 : decode cL_law 349 = .ok (.iadd, 1) := by decide +kernel
theorem dL_law_350 : decode cL_law 350 = .ok (.iaload, 1) := by decide +kernel
theorem dL_law_351 : decode cL_law 351 = .ok (.invokevirtual 36, 3) := by decide +kernel
theorem dL_law_354 : decode cL_law 354 = .ok (.if_icmp .eq 782, 3) := by decide +kernel
theorem dL_law_357 : decode cL_law 357 = .ok (.iconst 0, 1) := by decide +kernel
theorem dL_law_358 : decode cL_law 358 = .ok (.ireturn, 1) := by decide +kernel
theorem dL_law_359 : decode cL_law 359 = .ok (.aload_n 1, 1) := by decide +kernel
theorem dL_law_360 : decode cL_law 360 = .ok (.aload_n 0, 1) := by decide +kernel
theorem dL_law_361 : decode cL_law 361 = .ok (.iload_n 3, 1) := by decide +kernel
theorem dL_law_362 : decode cL_law 362 = .ok (.iconst 1, 1) := by decide +kernel
theorem dL_law_363 : decode cL_law 363 = .ok (.iadd, 1) := by decide +kernel
theorem dL_law_364 : decode cL_law 364 = .ok (.iaload, 1) := by decide +kernel
theorem dL_law_365 : decode cL_law 365 = .ok (.aload_n 0, 1) := by decide +kernel
theorem dL_law_366 : decode cL_law 366 = .ok (.iload_n 3, 1) := by decide +kernel
theorem dL_law_367 : decode cL_law 367 = .ok (.iconst 2, 1) := by decide +kernel
theorem dL_law_368 : decode cL_law 368 = .ok (.iadd, 1) := by decide +kernel
theorem dL_law_369 : decode cL_law 369 = .ok (.iaload, 1) := by decide +kernel
theorem dL_law_370 : decode cL_law 370 = .ok (.aload_n 0, 1) := by decide +kernel
theorem dL_law_371 : decode cL_law 371 = .ok (.iload_n 3, 1) := by decide +kernel
theorem dL_law_372 : decode cL_law 372 = .ok (.iconst 3, 1) := by decide +kernel
theorem dL_law_373 : decode cL_law 373 = .ok (.iadd, 1) := by decide +kernel
theorem dL_law_374 : decode cL_law 374 = .ok (.iaload, 1) := by decide +kernel
theorem dL_law_375 : decode cL_law 375 = .ok (.aload_n 0, 1) := by decide +kernel
theorem dL_law_376 : decode cL_law 376 = .ok (.iload_n 3, 1) := by decide +kernel
theorem dL_law_377 : decode cL_law 377 = .ok (.iconst 4, 1) := by decide +kernel
theorem dL_law_378 : decode cL_law 378 = .ok (.iadd, 1) := by decide +kernel
theorem dL_law_379 : decode cL_law 379 = .ok (.iaload, 1) := by decide +kernel
theorem dL_law_380 : decode cL_law 380 = .ok (.invokevirtual 37, 3) := by decide +kernel
theorem dL_law_383 : decode cL_law 383 = .ok (.aload_n 2, 1) := by decide +kernel
theorem dL_law_384 : decode cL_law 384 = .ok (.aload_n 0, 1) := by decide +kernel
theorem dL_law_385 : decode cL_law 385 = .ok (.iload_n 3, 1) := by decide +kernel
theorem dL_law_386 : decode cL_law 386 = .ok (.iconst 1, 1) := by decide +kernel
theorem dL_law_387 : decode cL_law 387 = .ok (.iadd, 1) := by decide +kernel
theorem dL_law_388 : decode cL_law 388 = .ok (.iaload, 1) := by decide +kernel
theorem dL_law_389 : decode cL_law 389 = .ok (.aload_n 0, 1) := by decide +kernel
theorem dL_law_390 : decode cL_law 390 = .ok (.iload_n 3, 1) := by decide +kernel
theorem dL_law_391 : decode cL_law 391 = .ok (.iconst 2, 1) := by decide +kernel
theorem dL_law_392 : decode cL_law 392 = .ok (.iadd, 1) := by decide +kernel
theorem dL_law_393 : decode cL_law 393 = .ok (.iaload, 1) := by decide +kernel
theorem dL_law_394 : decode cL_law 394 = .ok (.aload_n 0, 1) := by decide +kernel
theorem dL_law_395 : decode cL_law 395 = .ok (.iload_n 3, 1) := by decide +kernel
theorem dL_law_396 : decode cL_law 396 = .ok (.iconst 3, 1) := by decide +kernel
theorem dL_law_397 : decode cL_law 397 = .ok (.iadd, 1) := by decide +kernel
theorem dL_law_398 : decode cL_law 398 = .ok (.iaload, 1) := by decide +kernel
theorem dL_law_399 : decode cL_law 399 = .ok (.aload_n 0, 1) := by decide +kernel
theorem dL_law_400 : decode cL_law 400 = .ok (.iload_n 3, 1) := by decide +kernel
theorem dL_law_401 : decode cL_law 401 = .ok (.iconst 4, 1) := by decide +kernel
theorem dL_law_402 : decode cL_law 402 = .ok (.iadd, 1) := by decide +kernel
theorem dL_law_403 : decode cL_law 403 = .ok (.iaload, 1) := by decide +kernel
theorem dL_law_404 : decode cL_law 404 = .ok (.invokevirtual 40, 3) := by decide +kernel
theorem dL_law_407 : decode cL_law 407 = .ok (.if_icmp .eq 729, 3) := by decide +kernel
theorem dL_law_410 : decode cL_law 410 = .ok (.iconst 0, 1) := by decide +kernel
theorem dL_law_411 : decode cL_law 411 = .ok (.ireturn, 1) := by decide +kernel
theorem dL_law_412 : decode cL_law 412 = .ok (.aload_n 1, 1) := by decide +kernel
theorem dL_law_413 : decode cL_law 413 = .ok (.aload_n 0, 1) := by decide +kernel
theorem dL_law_414 : decode cL_law 414 = .ok (.iload_n 3, 1) := by decide +kernel
theorem dL_law_415 : decode cL_law 415 = .ok (.iconst 1, 1) := by decide +kernel
theorem dL_law_416 : decode cL_law 416 = .ok (.iadd, 1) := by decide +kernel
theorem dL_law_417 : decode cL_law 417 = .ok (.iaload, 1) := by decide +kernel
theorem dL_law_418 : decode cL_law 418 = .ok (.aload_n 0, 1) := by decide +kernel
theorem dL_law_419 : decode cL_law 419 = .ok (.iload_n 3, 1) := by decide +kernel
theorem dL_law_420 : decode cL_law 420 = .ok (.iconst 2, 1) := by decide +kernel
theorem dL_law_421 : decode cL_law 421 = .ok (.iadd, 1) := by decide +kernel
theorem dL_law_422 : decode cL_law 422 = .ok (.iaload, 1) := by decide +kernel
theorem dL_law_423 : decode cL_law 423 = .ok (.aload_n 0, 1) := by decide +kernel
theorem dL_law_424 : decode cL_law 424 = .ok (.iload_n 3, 1) := by decide +kernel
theorem dL_law_425 : decode cL_law 425 = .ok (.iconst 3, 1) := by decide +kernel
theorem dL_law_426 : decode cL_law 426 = .ok (.iadd, 1) := by decide +kernel
theorem dL_law_427 : decode cL_law 427 = .ok (.iaload, 1) := by decide +kernel
theorem dL_law_428 : decode cL_law 428 = .ok (.aload_n 0, 1) := by decide +kernel
theorem dL_law_429 : decode cL_law 429 = .ok (.iload_n 3, 1) := by decide +kernel
theorem dL_law_430 : decode cL_law 430 = .ok (.iconst 4, 1) := by decide +kernel
theorem dL_law_431 : decode cL_law 431 = .ok (.iadd, 1) := by decide +kernel
theorem dL_law_432 : decode cL_law 432 = .ok (.iaload, 1) := by decide +kernel
theorem dL_law_433 : decode cL_law 433 = .ok (.invokevirtual 41, 3) := by decide +kernel
theorem dL_law_436 : decode cL_law 436 = .ok (.aload_n 2, 1) := by decide +kernel
theorem dL_law_437 : decode cL_law 437 = .ok (.aload_n 0, 1) := by decide +kernel
theorem dL_law_438 : decode cL_law 438 = .ok (.iload_n 3, 1) := by decide +kernel
theorem dL_law_439 : decode cL_law 439 = .ok (.iconst 1, 1) := by decide +kernel
theorem dL_law_440 : decode cL_law 440 = .ok (.iadd, 1) := by decide +kernel
theorem dL_law_441 : decode cL_law 441 = .ok (.iaload, 1) := by decide +kernel
theorem dL_law_442 : decode cL_law 442 = .ok (.aload_n 0, 1) := by decide +kernel
theorem dL_law_443 : decode cL_law 443 = .ok (.iload_n 3, 1) := by decide +kernel
theorem dL_law_444 : decode cL_law 444 = .ok (.iconst 2, 1) := by decide +kernel
theorem dL_law_445 : decode cL_law 445 = .ok (.iadd, 1) := by decide +kernel
theorem dL_law_446 : decode cL_law 446 = .ok (.iaload, 1) := by decide +kernel
theorem dL_law_447 : decode cL_law 447 = .ok (.aload_n 0, 1) := by decide +kernel
theorem dL_law_448 : decode cL_law 448 = .ok (.iload_n 3, 1) := by decide +kernel
theorem dL_law_449 : decode cL_law 449 = .ok (.iconst 3, 1) := by decide +kernel
theorem dL_law_450 : decode cL_law 450 = .ok (.iadd, 1) := by decide +kernel
theorem dL_law_451 : decode cL_law 451 = .ok (.iaload, 1) := by decide +kernel
theorem dL_law_452 : decode cL_law 452 = .ok (.aload_n 0, 1) := by decide +kernel
theorem dL_law_453 : decode cL_law 453 = .ok (.iload_n 3, 1) := by decide +kernel
theorem dL_law_454 : decode cL_law 454 = .ok (.iconst 4, 1) := by decide +kernel
theorem dL_law_455 : decode cL_law 455 = .ok (.iadd, 1) := by decide +kernel
theorem dL_law_456 : decode cL_law 456 = .ok (.iaload, 1) := by decide +kernel
theorem dL_law_457 : decode cL_law 457 = .ok (.invokevirtual 44, 3) := by decide +kernel
theorem dL_law_460 : decode cL_law 460 = .ok (.if_icmp .eq 676, 3) := by decide +kernel
theorem dL_law_463 : decode cL_law 463 = .ok (.iconst 0, 1) := by decide +kernel
theorem dL_law_464 : decode cL_law 464 = .ok (.ireturn, 1) := by decide +kernel
theorem dL_law_465 : decode cL_law 465 = .ok (.aload_n 1, 1) := by decide +kernel
theorem dL_law_466 : decode cL_law 466 = .ok (.invokevirtual 45, 3) := by decide +kernel
theorem dL_law_469 : decode cL_law 469 = .ok (.aload_n 2, 1) := by decide +kernel
theorem dL_law_470 : decode cL_law 470 = .ok (.invokevirtual 49, 3) := by decide +kernel
theorem dL_law_473 : decode cL_law 473 = .ok (.if_icmp .eq 663, 3) := by decide +kernel
theorem dL_law_476 : decode cL_law 476 = .ok (.iconst 0, 1) := by decide +kernel
theorem dL_law_477 : decode cL_law 477 = .ok (.ireturn, 1) := by decide +kernel
theorem dL_law_478 : decode cL_law 478 = .ok (.aload_n 1, 1) := by decide +kernel
theorem dL_law_479 : decode cL_law 479 = .ok (.invokevirtual 50, 3) := by decide +kernel
theorem dL_law_482 : decode cL_law 482 = .ok (.aload_n 2, 1) := by decide +kernel
theorem dL_law_483 : decode cL_law 483 = .ok (.invokevirtual 53, 3) := by decide +kernel
theorem dL_law_486 : decode cL_law 486 = .ok (.if_icmp .eq 650, 3) := by decide +kernel
theorem dL_law_489 : decode cL_law 489 = .ok (.iconst 0, 1) := by decide +kernel
theorem dL_law_490 : decode cL_law 490 = .ok (.ireturn, 1) := by decide +kernel
theorem dL_law_491 : decode cL_law 491 = .ok (.aload_n 1, 1) := by decide +kernel
theorem dL_law_492 : decode cL_law 492 = .ok (.aload_n 0, 1) := by decide +kernel
theorem dL_law_493 : decode cL_law 493 = .ok (.iload_n 3, 1) := by decide +kernel
theorem dL_law_494 : decode cL_law 494 = .ok (.iconst 1, 1) := by decide +kernel
theorem dL_law_495 : decode cL_law 495 = .ok (.iadd, 1) := by decide +kernel
theorem dL_law_496 : decode cL_law 496 = .ok (.iaload, 1) := by decide +kernel
theorem dL_law_497 : decode cL_law 497 = .ok (.invokevirtual 54, 3) := by decide +kernel
theorem dL_law_500 : decode cL_law 500 = .ok (.aload_n 2, 1) := by decide +kernel
theorem dL_law_501 : decode cL_law 501 = .ok (.aload_n 0, 1) := by decide +kernel
theorem dL_law_502 : decode cL_law 502 = .ok (.iload_n 3, 1) := by decide +kernel
theorem dL_law_503 : decode cL_law 503 = .ok (.iconst 1, 1) := by decide +kernel
theorem dL_law_504 : decode cL_law 504 = .ok (.iadd, 1) := by decide +kernel
theorem dL_law_505 : decode cL_law 505 = .ok (.iaload, 1) := by decide +kernel
theorem dL_law_506 : decode cL_law 506 = .ok (.invokevirtual 57, 3) := by decide +kernel
theorem dL_law_509 : decode cL_law 509 = .ok (.if_icmp .eq 627, 3) := by decide +kernel
theorem dL_law_512 : decode cL_law 512 = .ok (.iconst 0, 1) := by decide +kernel
theorem dL_law_513 : decode cL_law 513 = .ok (.ireturn, 1) := by decide +kernel
theorem dL_law_514 : decode cL_law 514 = .ok (.aload_n 1, 1) := by decide +kernel
theorem dL_law_515 : decode cL_law 515 = .ok (.aload_n 0, 1) := by decide +kernel
theorem dL_law_516 : decode cL_law 516 = .ok (.iload_n 3, 1) := by decide +kernel
theorem dL_law_517 : decode cL_law 517 = .ok (.iconst 1, 1) := by decide +kernel
theorem dL_law_518 : decode cL_law 518 = .ok (.iadd, 1) := by decide +kernel
theorem dL_law_519 : decode cL_law 519 = .ok (.iaload, 1) := by decide +kernel
theorem dL_law_520 : decode cL_law 520 = .ok (.aload_n 0, 1) := by decide +kernel
theorem dL_law_521 : decode cL_law 521 = .ok (.iload_n 3, 1) := by decide +kernel
theorem dL_law_522 : decode cL_law 522 = .ok (.iconst 2, 1) := by decide +kernel
theorem dL_law_523 : decode cL_law 523 = .ok (.iadd, 1) := by decide +kernel
theorem dL_law_524 : decode cL_law 524 = .ok (.iaload, 1) := by decide +kernel
theorem dL_law_525 : decode cL_law 525 = .ok (.aload_n 0, 1) := by decide +kernel
theorem dL_law_526 : decode cL_law 526 = .ok (.iload_n 3, 1) := by decide +kernel
theorem dL_law_527 : decode cL_law 527 = .ok (.iconst 3, 1) := by decide +kernel
theorem dL_law_528 : decode cL_law 528 = .ok (.iadd, 1) := by decide +kernel
theorem dL_law_529 : decode cL_law 529 = .ok (.iaload, 1) := by decide +kernel
theorem dL_law_530 : decode cL_law 530 = .ok (.aload_n 0, 1) := by decide +kernel
theorem dL_law_531 : decode cL_law 531 = .ok (.iload_n 3, 1) := by decide +kernel
theorem dL_law_532 : decode cL_law 532 = .ok (.iconst 4, 1) := by decide +kernel
theorem dL_law_533 : decode cL_law 533 = .ok (.iadd, 1) := by decide +kernel
theorem dL_law_534 : decode cL_law 534 = .ok (.iaload, 1) := by decide +kernel
theorem dL_law_535 : decode cL_law 535 = .ok (.aload_n 0, 1) := by decide +kernel
theorem dL_law_536 : decode cL_law 536 = .ok (.iload_n 3, 1) := by decide +kernel
theorem dL_law_537 : decode cL_law 537 = .ok (.iconst 5, 1) := by decide +kernel
theorem dL_law_538 : decode cL_law 538 = .ok (.iadd, 1) := by decide +kernel
theorem dL_law_539 : decode cL_law 539 = .ok (.iaload, 1) := by decide +kernel
theorem dL_law_540 : decode cL_law 540 = .ok (.invokevirtual 58, 3) := by decide +kernel
theorem dL_law_543 : decode cL_law 543 = .ok (.aload_n 2, 1) := by decide +kernel
theorem dL_law_544 : decode cL_law 544 = .ok (.aload_n 0, 1) := by decide +kernel
theorem dL_law_545 : decode cL_law 545 = .ok (.iload_n 3, 1) := by decide +kernel
theorem dL_law_546 : decode cL_law 546 = .ok (.iconst 1, 1) := by decide +kernel
theorem dL_law_547 : decode cL_law 547 = .ok (.iadd, 1) := by decide +kernel
theorem dL_law_548 : decode cL_law 548 = .ok (.iaload, 1) := by decide +kernel
theorem dL_law_549 : decode cL_law 549 = .ok (.aload_n 0, 1) := by decide +kernel
theorem dL_law_550 : decode cL_law 550 = .ok (.iload_n 3, 1) := by decide +kernel
theorem dL_law_551 : decode cL_law 551 = .ok (.iconst 2, 1) := by decide +kernel
theorem dL_law_552 : decode cL_law 552 = .ok (.iadd, 1) := by decide +kernel
theorem dL_law_553 : decode cL_law 553 = .ok (.iaload, 1) := by decide +kernel
theorem dL_law_554 : decode cL_law 554 = .ok (.aload_n 0, 1) := by decide +kernel
theorem dL_law_555 : decode cL_law 555 = .ok (.iload_n 3, 1) := by decide +kernel
theorem dL_law_556 : decode cL_law 556 = .ok (.iconst 3, 1) := by decide +kernel
theorem dL_law_557 : decode cL_law 557 = .ok (.iadd, 1) := by decide +kernel
theorem dL_law_558 : decode cL_law 558 = .ok (.iaload, 1) := by decide +kernel
theorem dL_law_559 : decode cL_law 559 = .ok (.aload_n 0, 1) := by decide +kernel
theorem dL_law_560 : decode cL_law 560 = .ok (.iload_n 3, 1) := by decide +kernel
theorem dL_law_561 : decode cL_law 561 = .ok (.iconst 4, 1) := by decide +kernel
theorem dL_law_562 : decode cL_law 562 = .ok (.iadd, 1) := by decide +kernel
theorem dL_law_563 : decode cL_law 563 = .ok (.iaload, 1) := by decide +kernel
theorem dL_law_564 : decode cL_law 564 = .ok (.aload_n 0, 1) := by decide +kernel
theorem dL_law_565 : decode cL_law 565 = .ok (.iload_n 3, 1) := by decide +kernel
theorem dL_law_566 : decode cL_law 566 = .ok (.iconst 5, 1) := by decide +kernel
theorem dL_law_567 : decode cL_law 567 = .ok (.iadd, 1) := by decide +kernel
theorem dL_law_568 : decode cL_law 568 = .ok (.iaload, 1) := by decide +kernel
theorem dL_law_569 : decode cL_law 569 = .ok (.invokevirtual 62, 3) := by decide +kernel
theorem dL_law_572 : decode cL_law 572 = .ok (.if_icmp .eq 564, 3) := by decide +kernel
theorem dL_law_575 : decode cL_law 575 = .ok (.iconst 0, 1) := by decide +kernel
theorem dL_law_576 : decode cL_law 576 = .ok (.ireturn, 1) := by decide +kernel
theorem dL_law_577 : decode cL_law 577 = .ok (.aload_n 1, 1) := by decide +kernel
theorem dL_law_578 : decode cL_law 578 = .ok (.invokevirtual 63, 3) := by decide +kernel
theorem dL_law_581 : decode cL_law 581 = .ok (.aload_n 2, 1) := by decide +kernel
theorem dL_law_582 : decode cL_law 582 = .ok (.invokevirtual 66, 3) := by decide +kernel
theorem dL_law_585 : decode cL_law 585 = .ok (.if_icmp .eq 551, 3) := by decide +kernel
theorem dL_law_588 : decode cL_law 588 = .ok (.iconst 0, 1) := by decide +kernel
theorem dL_law_589 : decode cL_law 589 = .ok (.ireturn, 1) := by decide +kernel
theorem dL_law_590 : decode cL_law 590 = .ok (.aload_n 1, 1) := by decide +kernel
theorem dL_law_591 : decode cL_law 591 = .ok (.aload_n 0, 1) := by decide +kernel
theorem dL_law_592 : decode cL_law 592 = .ok (.iload_n 3, 1) := by decide +kernel
theorem dL_law_593 : decode cL_law 593 = .ok (.iconst 1, 1) := by decide +kernel
theorem dL_law_594 : decode cL_law 594 = .ok (.iadd, 1) := by decide +kernel
theorem dL_law_595 : decode cL_law 595 = .ok (.iaload, 1) := by decide +kernel
theorem dL_law_596 : decode cL_law 596 = .ok (.invokevirtual 67, 3) := by decide +kernel
theorem dL_law_599 : decode cL_law 599 = .ok (.aload_n 2, 1) := by decide +kernel
theorem dL_law_600 : decode cL_law 600 = .ok (.aload_n 0, 1) := by decide +kernel
theorem dL_law_601 : decode cL_law 601 = .ok (.iload_n 3, 1) := by decide +kernel
theorem dL_law_602 : decode cL_law 602 = .ok (.iconst 1, 1) := by decide +kernel
theorem dL_law_603 : decode cL_law 603 = .ok (.iadd, 1) := by decide +kernel
theorem dL_law_604 : decode cL_law 604 = .ok (.iaload, 1) := by decide +kernel
theorem dL_law_605 : decode cL_law 605 = .ok (.invokevirtual 70, 3) := by decide +kernel
theorem dL_law_608 : decode cL_law 608 = .ok (.if_icmp .eq 528, 3) := by decide +kernel
theorem dL_law_611 : decode cL_law 611 = .ok (.iconst 0, 1) := by decide +kernel
theorem dL_law_612 : decode cL_law 612 = .ok (.ireturn, 1) := by decide +kernel
theorem dL_law_613 : decode cL_law 613 = .ok (.aload_n 1, 1) := by decide +kernel
theorem dL_law_614 : decode cL_law 614 = .ok (.aload_n 0, 1) := by decide +kernel
theorem dL_law_615 : decode cL_law 615 = .ok (.iload_n 3, 1) := by decide +kernel
theorem dL_law_616 : decode cL_law 616 = .ok (.iconst 1, 1) := by decide +kernel
theorem dL_law_617 : decode cL_law 617 = .ok (.iadd, 1) := by decide +kernel
theorem dL_law_618 : decode cL_law 618 = .ok (.iaload, 1) := by decide +kernel
theorem dL_law_619 : decode cL_law 619 = .ok (.aload_n 0, 1) := by decide +kernel
theorem dL_law_620 : decode cL_law 620 = .ok (.iload_n 3, 1) := by decide +kernel
theorem dL_law_621 : decode cL_law 621 = .ok (.iconst 2, 1) := by decide +kernel
theorem dL_law_622 : decode cL_law 622 = .ok (.iadd, 1) := by decide +kernel
theorem dL_law_623 : decode cL_law 623 = .ok (.iaload, 1) := by decide +kernel
theorem dL_law_624 : decode cL_law 624 = .ok (.aload_n 0, 1) := by decide +kernel
theorem dL_law_625 : decode cL_law 625 = .ok (.iload_n 3, 1) := by decide +kernel
theorem dL_law_626 : decode cL_law 626 = .ok (.iconst 3, 1) := by decide +kernel
theorem dL_law_627 : decode cL_law 627 = .ok (.iadd, 1) := by decide +kernel
theorem dL_law_628 : decode cL_law 628 = .ok (.iaload, 1) := by decide +kernel
theorem dL_law_629 : decode cL_law 629 = .ok (.invokevirtual 71, 3) := by decide +kernel
theorem dL_law_632 : decode cL_law 632 = .ok (.aload_n 2, 1) := by decide +kernel
theorem dL_law_633 : decode cL_law 633 = .ok (.aload_n 0, 1) := by decide +kernel
theorem dL_law_634 : decode cL_law 634 = .ok (.iload_n 3, 1) := by decide +kernel
theorem dL_law_635 : decode cL_law 635 = .ok (.iconst 1, 1) := by decide +kernel
theorem dL_law_636 : decode cL_law 636 = .ok (.iadd, 1) := by decide +kernel
theorem dL_law_637 : decode cL_law 637 = .ok (.iaload, 1) := by decide +kernel
theorem dL_law_638 : decode cL_law 638 = .ok (.aload_n 0, 1) := by decide +kernel
theorem dL_law_639 : decode cL_law 639 = .ok (.iload_n 3, 1) := by decide +kernel
theorem dL_law_640 : decode cL_law 640 = .ok (.iconst 2, 1) := by decide +kernel
theorem dL_law_641 : decode cL_law 641 = .ok (.iadd, 1) := by decide +kernel
theorem dL_law_642 : decode cL_law 642 = .ok (.iaload, 1) := by decide +kernel
theorem dL_law_643 : decode cL_law 643 = .ok (.aload_n 0, 1) := by decide +kernel
theorem dL_law_644 : decode cL_law 644 = .ok (.iload_n 3, 1) := by decide +kernel
theorem dL_law_645 : decode cL_law 645 = .ok (.iconst 3, 1) := by decide +kernel
theorem dL_law_646 : decode cL_law 646 = .ok (.iadd, 1) := by decide +kernel
theorem dL_law_647 : decode cL_law 647 = .ok (.iaload, 1) := by decide +kernel
theorem dL_law_648 : decode cL_law 648 = .ok (.invokevirtual 75, 3) := by decide +kernel
theorem dL_law_651 : decode cL_law 651 = .ok (.lcmp, 1) := by decide +kernel
theorem dL_law_652 : decode cL_law 652 = .ok (.ifCond .eq 484, 3) := by decide +kernel
theorem dL_law_655 : decode cL_law 655 = .ok (.iconst 0, 1) := by decide +kernel
theorem dL_law_656 : decode cL_law 656 = .ok (.ireturn, 1) := by decide +kernel
theorem dL_law_657 : decode cL_law 657 = .ok (.aload_n 1, 1) := by decide +kernel
theorem dL_law_658 : decode cL_law 658 = .ok (.aload_n 0, 1) := by decide +kernel
theorem dL_law_659 : decode cL_law 659 = .ok (.iload_n 3, 1) := by decide +kernel
theorem dL_law_660 : decode cL_law 660 = .ok (.iconst 1, 1) := by decide +kernel
theorem dL_law_661 : decode cL_law 661 = .ok (.iadd, 1) := by decide +kernel
theorem dL_law_662 : decode cL_law 662 = .ok (.iaload, 1) := by decide +kernel
theorem dL_law_663 : decode cL_law 663 = .ok (.invokevirtual 76, 3) := by decide +kernel
theorem dL_law_666 : decode cL_law 666 = .ok (.aload_n 2, 1) := by decide +kernel
theorem dL_law_667 : decode cL_law 667 = .ok (.aload_n 0, 1) := by decide +kernel
theorem dL_law_668 : decode cL_law 668 = .ok (.iload_n 3, 1) := by decide +kernel
theorem dL_law_669 : decode cL_law 669 = .ok (.iconst 1, 1) := by decide +kernel
theorem dL_law_670 : decode cL_law 670 = .ok (.iadd, 1) := by decide +kernel
theorem dL_law_671 : decode cL_law 671 = .ok (.iaload, 1) := by decide +kernel
theorem dL_law_672 : decode cL_law 672 = .ok (.invokevirtual 79, 3) := by decide +kernel
theorem dL_law_675 : decode cL_law 675 = .ok (.if_icmp .eq 461, 3) := by decide +kernel
theorem dL_law_678 : decode cL_law 678 = .ok (.iconst 0, 1) := by decide +kernel
theorem dL_law_679 : decode cL_law 679 = .ok (.ireturn, 1) := by decide +kernel
theorem dL_law_680 : decode cL_law 680 = .ok (.aload_n 1, 1) := by decide +kernel
theorem dL_law_681 : decode cL_law 681 = .ok (.aload_n 0, 1) := by decide +kernel
theorem dL_law_682 : decode cL_law 682 = .ok (.iload_n 3, 1) := by decide +kernel
theorem dL_law_683 : decode cL_law 683 = .ok (.iconst 1, 1) := by decide +kernel
theorem dL_law_684 : decode cL_law 684 = .ok (.iadd, 1) := by decide +kernel
theorem dL_law_685 : decode cL_law 685 = .ok (.iaload, 1) := by decide +kernel
theorem dL_law_686 : decode cL_law 686 = .ok (.aload_n 0, 1) := by decide +kernel
theorem dL_law_687 : decode cL_law 687 = .ok (.iload_n 3, 1) := by decide +kernel
theorem dL_law_688 : decode cL_law 688 = .ok (.iconst 2, 1) := by decide +kernel
theorem dL_law_689 : decode cL_law 689 = .ok (.iadd, 1) := by decide +kernel
theorem dL_law_690 : decode cL_law 690 = .ok (.iaload, 1) := by decide +kernel
theorem dL_law_691 : decode cL_law 691 = .ok (.aload_n 0, 1) := by decide +kernel
theorem dL_law_692 : decode cL_law 692 = .ok (.iload_n 3, 1) := by decide +kernel
theorem dL_law_693 : decode cL_law 693 = .ok (.iconst 3, 1) := by decide +kernel
theorem dL_law_694 : decode cL_law 694 = .ok (.iadd, 1) := by decide +kernel
theorem dL_law_695 : decode cL_law 695 = .ok (.iaload, 1) := by decide +kernel
theorem dL_law_696 : decode cL_law 696 = .ok (.aload_n 0, 1) := by decide +kernel
theorem dL_law_697 : decode cL_law 697 = .ok (.iload_n 3, 1) := by decide +kernel
theorem dL_law_698 : decode cL_law 698 = .ok (.iconst 4, 1) := by decide +kernel
theorem dL_law_699 : decode cL_law 699 = .ok (.iadd, 1) := by decide +kernel
theorem dL_law_700 : decode cL_law 700 = .ok (.iaload, 1) := by decide +kernel
theorem dL_law_701 : decode cL_law 701 = .ok (.invokevirtual 80, 3) := by decide +kernel
theorem dL_law_704 : decode cL_law 704 = .ok (.aload_n 2, 1) := by decide +kernel
theorem dL_law_705 : decode cL_law 705 = .ok (.aload_n 0, 1) := by decide +kernel
theorem dL_law_706 : decode cL_law 706 = .ok (.iload_n 3, 1) := by decide +kernel
theorem dL_law_707 : decode cL_law 707 = .ok (.iconst 1, 1) := by decide +kernel
theorem dL_law_708 : decode cL_law 708 = .ok (.iadd, 1) := by decide +kernel
theorem dL_law_709 : decode cL_law 709 = .ok (.iaload, 1) := by decide +kernel
theorem dL_law_710 : decode cL_law 710 = .ok (.aload_n 0, 1) := by decide +kernel
theorem dL_law_711 : decode cL_law 711 = .ok (.iload_n 3, 1) := by decide +kernel
theorem dL_law_712 : decode cL_law 712 = .ok (.iconst 2, 1) := by decide +kernel
theorem dL_law_713 : decode cL_law 713 = .ok (.iadd, 1) := by decide +kernel
theorem dL_law_714 : decode cL_law 714 = .ok (.iaload, 1) := by decide +kernel
theorem dL_law_715 : decode cL_law 715 = .ok (.aload_n 0, 1) := by decide +kernel
theorem dL_law_716 : decode cL_law 716 = .ok (.iload_n 3, 1) := by decide +kernel
theorem dL_law_717 : decode cL_law 717 = .ok (.iconst 3, 1) := by decide +kernel
theorem dL_law_718 : decode cL_law 718 = .ok (.iadd, 1) := by decide +kernel
theorem dL_law_719 : decode cL_law 719 = .ok (.iaload, 1) := by decide +kernel
theorem dL_law_720 : decode cL_law 720 = .ok (.aload_n 0, 1) := by decide +kernel
theorem dL_law_721 : decode cL_law 721 = .ok (.iload_n 3, 1) := by decide +kernel
theorem dL_law_722 : decode cL_law 722 = .ok (.iconst 4, 1) := by decide +kernel
theorem dL_law_723 : decode cL_law 723 = .ok (.iadd, 1) := by decide +kernel
theorem dL_law_724 : decode cL_law 724 = .ok (.iaload, 1) := by decide +kernel
theorem dL_law_725 : decode cL_law 725 = .ok (.invokevirtual 83, 3) := by decide +kernel
theorem dL_law_728 : decode cL_law 728 = .ok (.if_icmp .eq 408, 3) := by decide +kernel
theorem dL_law_731 : decode cL_law 731 = .ok (.iconst 0, 1) := by decide +kernel
theorem dL_law_732 : decode cL_law 732 = .ok (.ireturn, 1) := by decide +kernel
theorem dL_law_733 : decode cL_law 733 = .ok (.aload_n 1, 1) := by decide +kernel
theorem dL_law_734 : decode cL_law 734 = .ok (.aload_n 0, 1) := by decide +kernel
theorem dL_law_735 : decode cL_law 735 = .ok (.iload_n 3, 1) := by decide +kernel
theorem dL_law_736 : decode cL_law 736 = .ok (.iconst 1, 1) := by decide +kernel
theorem dL_law_737 : decode cL_law 737 = .ok (.iadd, 1) := by decide +kernel
theorem dL_law_738 : decode cL_law 738 = .ok (.iaload, 1) := by decide +kernel
theorem dL_law_739 : decode cL_law 739 = .ok (.invokevirtual 84, 3) := by decide +kernel
theorem dL_law_742 : decode cL_law 742 = .ok (.aload_n 2, 1) := by decide +kernel
theorem dL_law_743 : decode cL_law 743 = .ok (.aload_n 0, 1) := by decide +kernel
theorem dL_law_744 : decode cL_law 744 = .ok (.iload_n 3, 1) := by decide +kernel
theorem dL_law_745 : decode cL_law 745 = .ok (.iconst 1, 1) := by decide +kernel
theorem dL_law_746 : decode cL_law 746 = .ok (.iadd, 1) := by decide +kernel
theorem dL_law_747 : decode cL_law 747 = .ok (.iaload, 1) := by decide +kernel
theorem dL_law_748 : decode cL_law 748 = .ok (.invokevirtual 87, 3) := by decide +kernel
theorem dL_law_751 : decode cL_law 751 = .ok (.if_icmp .eq 385, 3) := by decide +kernel
theorem dL_law_754 : decode cL_law 754 = .ok (.iconst 0, 1) := by decide +kernel
theorem dL_law_755 : decode cL_law 755 = .ok (.ireturn, 1) := by decide +kernel
theorem dL_law_756 : decode cL_law 756 = .ok (.aload_n 1, 1) := by decide +kernel
theorem dL_law_757 : decode cL_law 757 = .ok (.aload_n 0, 1) := by decide +kernel
theorem dL_law_758 : decode cL_law 758 = .ok (.iload_n 3, 1) := by decide +kernel
theorem dL_law_759 : decode cL_law 759 = .ok (.iconst 1, 1) := by decide +kernel
theorem dL_law_760 : decode cL_law 760 = .ok (.iadd, 1) := by decide +kernel
theorem dL_law_761 : decode cL_law 761 = .ok (.iaload, 1) := by decide +kernel
theorem dL_law_762 : decode cL_law 762 = .ok (.invokevirtual 88, 3) := by decide +kernel
theorem dL_law_765 : decode cL_law 765 = .ok (.aload_n 2, 1) := by decide +kernel
theorem dL_law_766 : decode cL_law 766 = .ok (.aload_n 0, 1) := by decide +kernel
theorem dL_law_767 : decode cL_law 767 = .ok (.iload_n 3, 1) := by decide +kernel
theorem dL_law_768 : decode cL_law 768 = .ok (.iconst 1, 1) := by decide +kernel
theorem dL_law_769 : decode cL_law 769 = .ok (.iadd, 1) := by decide +kernel
theorem dL_law_770 : decode cL_law 770 = .ok (.iaload, 1) := by decide +kernel
theorem dL_law_771 : decode cL_law 771 = .ok (.invokevirtual 91, 3) := by decide +kernel
theorem dL_law_774 : decode cL_law 774 = .ok (.if_icmp .eq 362, 3) := by decide +kernel
theorem dL_law_777 : decode cL_law 777 = .ok (.iconst 0, 1) := by decide +kernel
theorem dL_law_778 : decode cL_law 778 = .ok (.ireturn, 1) := by decide +kernel
theorem dL_law_779 : decode cL_law 779 = .ok (.aload_n 1, 1) := by decide +kernel
theorem dL_law_780 : decode cL_law 780 = .ok (.invokevirtual 92, 3) := by decide +kernel
theorem dL_law_783 : decode cL_law 783 = .ok (.aload_n 2, 1) := by decide +kernel
theorem dL_law_784 : decode cL_law 784 = .ok (.invokevirtual 95, 3) := by decide +kernel
theorem dL_law_787 : decode cL_law 787 = .ok (.if_icmp .eq 349, 3) := by decide +kernel
theorem dL_law_790 : decode cL_law 790 = .ok (.iconst 0, 1) := by decide +kernel
theorem dL_law_791 : decode cL_law 791 = .ok (.ireturn, 1) := by decide +kernel
theorem dL_law_792 : decode cL_law 792 = .ok (.aload_n 1, 1) := by decide +kernel
theorem dL_law_793 : decode cL_law 793 = .ok (.aload_n 0, 1) := by decide +kernel
theorem dL_law_794 : decode cL_law 794 = .ok (.iload_n 3, 1) := by decide +kernel
theorem dL_law_795 : decode cL_law 795 = .ok (.iconst 1, 1) := by decide +kernel
theorem dL_law_796 : decode cL_law 796 = .ok (.iadd, 1) := by decide +kernel
theorem dL_law_797 : decode cL_law 797 = .ok (.iaload, 1) := by decide +kernel
theorem dL_law_798 : decode cL_law 798 = .ok (.aload_n 0, 1) := by decide +kernel
theorem dL_law_799 : decode cL_law 799 = .ok (.iload_n 3, 1) := by decide +kernel
theorem dL_law_800 : decode cL_law 800 = .ok (.iconst 2, 1) := by decide +kernel
theorem dL_law_801 : decode cL_law 801 = .ok (.iadd, 1) := by decide +kernel
theorem dL_law_802 : decode cL_law 802 = .ok (.iaload, 1) := by decide +kernel
theorem dL_law_803 : decode cL_law 803 = .ok (.aload_n 0, 1) := by decide +kernel
theorem dL_law_804 : decode cL_law 804 = .ok (.iload_n 3, 1) := by decide +kernel
theorem dL_law_805 : decode cL_law 805 = .ok (.iconst 3, 1) := by decide +kernel
theorem dL_law_806 : decode cL_law 806 = .ok (.iadd, 1) := by decide +kernel
theorem dL_law_807 : decode cL_law 807 = .ok (.iaload, 1) := by decide +kernel
theorem dL_law_808 : decode cL_law 808 = .ok (.invokevirtual 96, 3) := by decide +kernel
theorem dL_law_811 : decode cL_law 811 = .ok (.aload_n 2, 1) := by decide +kernel
theorem dL_law_812 : decode cL_law 812 = .ok (.aload_n 0, 1) := by decide +kernel
theorem dL_law_813 : decode cL_law 813 = .ok (.iload_n 3, 1) := by decide +kernel
theorem dL_law_814 : decode cL_law 814 = .ok (.iconst 1, 1) := by decide +kernel
theorem dL_law_815 : decode cL_law 815 = .ok (.iadd, 1) := by decide +kernel
theorem dL_law_816 : decode cL_law 816 = .ok (.iaload, 1) := by decide +kernel
theorem dL_law_817 : decode cL_law 817 = .ok (.aload_n 0, 1) := by decide +kernel
theorem dL_law_818 : decode cL_law 818 = .ok (.iload_n 3, 1) := by decide +kernel
theorem dL_law_819 : decode cL_law 819 = .ok (.iconst 2, 1) := by decide +kernel
theorem dL_law_820 : decode cL_law 820 = .ok (.iadd, 1) := by decide +kernel
theorem dL_law_821 : decode cL_law 821 = .ok (.iaload, 1) := by decide +kernel
theorem dL_law_822 : decode cL_law 822 = .ok (.aload_n 0, 1) := by decide +kernel
theorem dL_law_823 : decode cL_law 823 = .ok (.iload_n 3, 1) := by decide +kernel
theorem dL_law_824 : decode cL_law 824 = .ok (.iconst 3, 1) := by decide +kernel
theorem dL_law_825 : decode cL_law 825 = .ok (.iadd, 1) := by decide +kernel
theorem dL_law_826 : decode cL_law 826 = .ok (.iaload, 1) := by decide +kernel
theorem dL_law_827 : decode cL_law 827 = .ok (.invokevirtual 100, 3) := by decide +kernel
theorem dL_law_830 : decode cL_law 830 = .ok (.if_icmp .eq 306, 3) := by decide +kernel
theorem dL_law_833 : decode cL_law 833 = .ok (.iconst 0, 1) := by decide +kernel
theorem dL_law_834 : decode cL_law 834 = .ok (.ireturn, 1) := by decide +kernel
theorem dL_law_835 : decode cL_law 835 = .ok (.aload_n 1, 1) := by decide +kernel
theorem dL_law_836 : decode cL_law 836 = .ok (.aload_n 0, 1) := by decide +kernel
theorem dL_law_837 : decode cL_law 837 = .ok (.iload_n 3, 1) := by decide +kernel
theorem dL_law_838 : decode cL_law 838 = .ok (.iconst 1, 1) := by decide +kernel
theorem dL_law_839 : decode cL_law 839 = .ok (.iadd, 1) := by decide +kernel
theorem dL_law_840 : decode cL_law 840 = .ok (.iaload, 1) := by decide +kernel
theorem dL_law_841 : decode cL_law 841 = .ok (.invokevirtual 101, 3) := by decide +kernel
theorem dL_law_844 : decode cL_law 844 = .ok (.aload_n 2, 1) := by decide +kernel
theorem dL_law_845 : decode cL_law 845 = .ok (.aload_n 0, 1) := by decide +kernel
theorem dL_law_846 : decode cL_law 846 = .ok (.iload_n 3, 1) := by decide +kernel
theorem dL_law_847 : decode cL_law 847 = .ok (.iconst 1, 1) := by decide +kernel
theorem dL_law_848 : decode cL_law 848 = .ok (.iadd, 1) := by decide +kernel
theorem dL_law_849 : decode cL_law 849 = .ok (.iaload, 1) := by decide +kernel
theorem dL_law_850 : decode cL_law 850 = .ok (.invokevirtual 104, 3) := by decide +kernel
theorem dL_law_853 : decode cL_law 853 = .ok (.if_icmp .eq 283, 3) := by decide +kernel
theorem dL_law_856 : decode cL_law 856 = .ok (.iconst 0, 1) := by decide +kernel
theorem dL_law_857 : decode cL_law 857 = .ok (.ireturn, 1) := by decide +kernel
theorem dL_law_858 : decode cL_law 858 = .ok (.aload_n 1, 1) := by decide +kernel
theorem dL_law_859 : decode cL_law 859 = .ok (.aload_n 0, 1) := by decide +kernel
theorem dL_law_860 : decode cL_law 860 = .ok (.iload_n 3, 1) := by decide +kernel
theorem dL_law_861 : decode cL_law 861 = .ok (.iconst 1, 1) := by decide +kernel
theorem dL_law_862 : decode cL_law 862 = .ok (.iadd, 1) := by decide +kernel
theorem dL_law_863 : decode cL_law 863 = .ok (.iaload, 1) := by decide +kernel
theorem dL_law_864 : decode cL_law 864 = .ok (.aload_n 0, 1) := by decide +kernel
theorem dL_law_865 : decode cL_law 865 = .ok (.iload_n 3, 1) := by decide +kernel
theorem dL_law_866 : decode cL_law 866 = .ok (.iconst 2, 1) := by decide +kernel
theorem dL_law_867 : decode cL_law 867 = .ok (.iadd, 1) := by decide +kernel
theorem dL_law_868 : decode cL_law 868 = .ok (.iaload, 1) := by decide +kernel
theorem dL_law_869 : decode cL_law 869 = .ok (.aload_n 0, 1) := by decide +kernel
theorem dL_law_870 : decode cL_law 870 = .ok (.iload_n 3, 1) := by decide +kernel
theorem dL_law_871 : decode cL_law 871 = .ok (.iconst 3, 1) := by decide +kernel
theorem dL_law_872 : decode cL_law 872 = .ok (.iadd, 1) := by decide +kernel
theorem dL_law_873 : decode cL_law 873 = .ok (.iaload, 1) := by decide +kernel
theorem dL_law_874 : decode cL_law 874 = .ok (.invokevirtual 105, 3) := by decide +kernel
theorem dL_law_877 : decode cL_law 877 = .ok (.aload_n 2, 1) := by decide +kernel
theorem dL_law_878 : decode cL_law 878 = .ok (.aload_n 0, 1) := by decide +kernel
theorem dL_law_879 : decode cL_law 879 = .ok (.iload_n 3, 1) := by decide +kernel
theorem dL_law_880 : decode cL_law 880 = .ok (.iconst 1, 1) := by decide +kernel
theorem dL_law_881 : decode cL_law 881 = .ok (.iadd, 1) := by decide +kernel
theorem dL_law_882 : decode cL_law 882 = .ok (.iaload, 1) := by decide +kernel
theorem dL_law_883 : decode cL_law 883 = .ok (.aload_n 0, 1) := by decide +kernel
theorem dL_law_884 : decode cL_law 884 = .ok (.iload_n 3, 1) := by decide +kernel
theorem dL_law_885 : decode cL_law 885 = .ok (.iconst 2, 1) := by decide +kernel
theorem dL_law_886 : decode cL_law 886 = .ok (.iadd, 1) := by decide +kernel
theorem dL_law_887 : decode cL_law 887 = .ok (.iaload, 1) := by decide +kernel
theorem dL_law_888 : decode cL_law 888 = .ok (.aload_n 0, 1) := by decide +kernel
theorem dL_law_889 : decode cL_law 889 = .ok (.iload_n 3, 1) := by decide +kernel
theorem dL_law_890 : decode cL_law 890 = .ok (.iconst 3, 1) := by decide +kernel
theorem dL_law_891 : decode cL_law 891 = .ok (.iadd, 1) := by decide +kernel
theorem dL_law_892 : decode cL_law 892 = .ok (.iaload, 1) := by decide +kernel
theorem dL_law_893 : decode cL_law 893 = .ok (.invokevirtual 108, 3) := by decide +kernel
theorem dL_law_896 : decode cL_law 896 = .ok (.if_icmp .eq 240, 3) := by decide +kernel
theorem dL_law_899 : decode cL_law 899 = .ok (.iconst 0, 1) := by decide +kernel
theorem dL_law_900 : decode cL_law 900 = .ok (.ireturn, 1) := by decide +kernel
theorem dL_law_901 : decode cL_law 901 = .ok (.aload_n 1, 1) := by decide +kernel
theorem dL_law_902 : decode cL_law 902 = .ok (.aload_n 0, 1) := by decide +kernel
theorem dL_law_903 : decode cL_law 903 = .ok (.iload_n 3, 1) := by decide +kernel
theorem dL_law_904 : decode cL_law 904 = .ok (.iconst 1, 1) := by decide +kernel
theorem dL_law_905 : decode cL_law 905 = .ok (.iadd, 1) := by decide +kernel
theorem dL_law_906 : decode cL_law 906 = .ok (.iaload, 1) := by decide +kernel
theorem dL_law_907 : decode cL_law 907 = .ok (.aload_n 0, 1) := by decide +kernel
theorem dL_law_908 : decode cL_law 908 = .ok (.iload_n 3, 1) := by decide +kernel
theorem dL_law_909 : decode cL_law 909 = .ok (.iconst 2, 1) := by decide +kernel
theorem dL_law_910 : decode cL_law 910 = .ok (.iadd, 1) := by decide +kernel
theorem dL_law_911 : decode cL_law 911 = .ok (.iaload, 1) := by decide +kernel
theorem dL_law_912 : decode cL_law 912 = .ok (.aload_n 0, 1) := by decide +kernel
theorem dL_law_913 : decode cL_law 913 = .ok (.iload_n 3, 1) := by decide +kernel
theorem dL_law_914 : decode cL_law 914 = .ok (.iconst 3, 1) := by decide +kernel
theorem dL_law_915 : decode cL_law 915 = .ok (.iadd, 1) := by decide +kernel
theorem dL_law_916 : decode cL_law 916 = .ok (.iaload, 1) := by decide +kernel
theorem dL_law_917 : decode cL_law 917 = .ok (.invokevirtual 109, 3) := by decide +kernel
theorem dL_law_920 : decode cL_law 920 = .ok (.aload_n 2, 1) := by decide +kernel
theorem dL_law_921 : decode cL_law 921 = .ok (.aload_n 0, 1) := by decide +kernel
theorem dL_law_922 : decode cL_law 922 = .ok (.iload_n 3, 1) := by decide +kernel
theorem dL_law_923 : decode cL_law 923 = .ok (.iconst 1, 1) := by decide +kernel
theorem dL_law_924 : decode cL_law 924 = .ok (.iadd, 1) := by decide +kernel
theorem dL_law_925 : decode cL_law 925 = .ok (.iaload, 1) := by decide +kernel
theorem dL_law_926 : decode cL_law 926 = .ok (.aload_n 0, 1) := by decide +kernel
theorem dL_law_927 : decode cL_law 927 = .ok (.iload_n 3, 1) := by decide +kernel
theorem dL_law_928 : decode cL_law 928 = .ok (.iconst 2, 1) := by decide +kernel
theorem dL_law_929 : decode cL_law 929 = .ok (.iadd, 1) := by decide +kernel
theorem dL_law_930 : decode cL_law 930 = .ok (.iaload, 1) := by decide +kernel
theorem dL_law_931 : decode cL_law 931 = .ok (.aload_n 0, 1) := by decide +kernel
theorem dL_law_932 : decode cL_law 932 = .ok (.iload_n 3, 1) := by decide +kernel
theorem dL_law_933 : decode cL_law 933 = .ok (.iconst 3, 1) := by decide +kernel
theorem dL_law_934 : decode cL_law 934 = .ok (.iadd, 1) := by decide +kernel
theorem dL_law_935 : decode cL_law 935 = .ok (.iaload, 1) := by decide +kernel
theorem dL_law_936 : decode cL_law 936 = .ok (.invokevirtual 112, 3) := by decide +kernel
theorem dL_law_939 : decode cL_law 939 = .ok (.lcmp, 1) := by decide +kernel
theorem dL_law_940 : decode cL_law 940 = .ok (.ifCond .eq 196, 3) := by decide +kernel
theorem dL_law_943 : decode cL_law 943 = .ok (.iconst 0, 1) := by decide +kernel
theorem dL_law_944 : decode cL_law 944 = .ok (.ireturn, 1) := by decide +kernel
theorem dL_law_945 : decode cL_law 945 = .ok (.aload_n 1, 1) := by decide +kernel
theorem dL_law_946 : decode cL_law 946 = .ok (.aload_n 0, 1) := by decide +kernel
theorem dL_law_947 : decode cL_law 947 = .ok (.iload_n 3, 1) := by decide +kernel
theorem dL_law_948 : decode cL_law 948 = .ok (.iconst 1, 1) := by decide +kernel
theorem dL_law_949 : decode cL_law 949 = .ok (.iadd, 1) := by decide +kernel
theorem dL_law_950 : decode cL_law 950 = .ok (.iaload, 1) := by decide +kernel
theorem dL_law_951 : decode cL_law 951 = .ok (.aload_n 0, 1) := by decide +kernel
theorem dL_law_952 : decode cL_law 952 = .ok (.iload_n 3, 1) := by decide +kernel
theorem dL_law_953 : decode cL_law 953 = .ok (.iconst 2, 1) := by decide +kernel
theorem dL_law_954 : decode cL_law 954 = .ok (.iadd, 1) := by decide +kernel
theorem dL_law_955 : decode cL_law 955 = .ok (.iaload, 1) := by decide +kernel
theorem dL_law_956 : decode cL_law 956 = .ok (.aload_n 0, 1) := by decide +kernel
theorem dL_law_957 : decode cL_law 957 = .ok (.iload_n 3, 1) := by decide +kernel
theorem dL_law_958 : decode cL_law 958 = .ok (.iconst 3, 1) := by decide +kernel
theorem dL_law_959 : decode cL_law 959 = .ok (.iadd, 1) := by decide +kernel
theorem dL_law_960 : decode cL_law 960 = .ok (.iaload, 1) := by decide +kernel
theorem dL_law_961 : decode cL_law 961 = .ok (.aload_n 0, 1) := by decide +kernel
theorem dL_law_962 : decode cL_law 962 = .ok (.iload_n 3, 1) := by decide +kernel
theorem dL_law_963 : decode cL_law 963 = .ok (.iconst 4, 1) := by decide +kernel
theorem dL_law_964 : decode cL_law 964 = .ok (.iadd, 1) := by decide +kernel
theorem dL_law_965 : decode cL_law 965 = .ok (.iaload, 1) := by decide +kernel
theorem dL_law_966 : decode cL_law 966 = .ok (.aload_n 0, 1) := by decide +kernel
theorem dL_law_967 : decode cL_law 967 = .ok (.iload_n 3, 1) := by decide +kernel
theorem dL_law_968 : decode cL_law 968 = .ok (.iconst 5, 1) := by decide +kernel
theorem dL_law_969 : decode cL_law 969 = .ok (.iadd, 1) := by decide +kernel
theorem dL_law_970 : decode cL_law 970 = .ok (.iaload, 1) := by decide +kernel
theorem dL_law_971 : decode cL_law 971 = .ok (.invokevirtual 113, 3) := by decide +kernel
theorem dL_law_974 : decode cL_law 974 = .ok (.aload_n 2, 1) := by decide +kernel
theorem dL_law_975 : decode cL_law 975 = .ok (.aload_n 0, 1) := by decide +kernel
theorem dL_law_976 : decode cL_law 976 = .ok (.iload_n 3, 1) := by decide +kernel
theorem dL_law_977 : decode cL_law 977 = .ok (.iconst 1, 1) := by decide +kernel
theorem dL_law_978 : decode cL_law 978 = .ok (.iadd, 1) := by decide +kernel
theorem dL_law_979 : decode cL_law 979 = .ok (.iaload, 1) := by decide +kernel
theorem dL_law_980 : decode cL_law 980 = .ok (.aload_n 0, 1) := by decide +kernel
theorem dL_law_981 : decode cL_law 981 = .ok (.iload_n 3, 1) := by decide +kernel
theorem dL_law_982 : decode cL_law 982 = .ok (.iconst 2, 1) := by decide +kernel
theorem dL_law_983 : decode cL_law 983 = .ok (.iadd, 1) := by decide +kernel
theorem dL_law_984 : decode cL_law 984 = .ok (.iaload, 1) := by decide +kernel
theorem dL_law_985 : decode cL_law 985 = .ok (.aload_n 0, 1) := by decide +kernel
theorem dL_law_986 : decode cL_law 986 = .ok (.iload_n 3, 1) := by decide +kernel
theorem dL_law_987 : decode cL_law 987 = .ok (.iconst 3, 1) := by decide +kernel
theorem dL_law_988 : decode cL_law 988 = .ok (.iadd, 1) := by decide +kernel
theorem dL_law_989 : decode cL_law 989 = .ok (.iaload, 1) := by decide +kernel
theorem dL_law_990 : decode cL_law 990 = .ok (.aload_n 0, 1) := by decide +kernel
theorem dL_law_991 : decode cL_law 991 = .ok (.iload_n 3, 1) := by decide +kernel
theorem dL_law_992 : decode cL_law 992 = .ok (.iconst 4, 1) := by decide +kernel
theorem dL_law_993 : decode cL_law 993 = .ok (.iadd, 1) := by decide +kernel
theorem dL_law_994 : decode cL_law 994 = .ok (.iaload, 1) := by decide +kernel
theorem dL_law_995 : decode cL_law 995 = .ok (.aload_n 0, 1) := by decide +kernel
theorem dL_law_996 : decode cL_law 996 = .ok (.iload_n 3, 1) := by decide +kernel
theorem dL_law_997 : decode cL_law 997 = .ok (.iconst 5, 1) := by decide +kernel
theorem dL_law_998 : decode cL_law 998 = .ok (.iadd, 1) := by decide +kernel
theorem dL_law_999 : decode cL_law 999 = .ok (.iaload, 1) := by decide +kernel
theorem dL_law_1000 : decode cL_law 1000 = .ok (.invokevirtual 116, 3) := by decide +kernel
theorem dL_law_1003 : decode cL_law 1003 = .ok (.if_icmp .eq 133, 3) := by decide +kernel
theorem dL_law_1006 : decode cL_law 1006 = .ok (.iconst 0, 1) := by decide +kernel
theorem dL_law_1007 : decode cL_law 1007 = .ok (.ireturn, 1) := by decide +kernel
theorem dL_law_1008 : decode cL_law 1008 = .ok (.aload_n 1, 1) := by decide +kernel
theorem dL_law_1009 : decode cL_law 1009 = .ok (.aload_n 0, 1) := by decide +kernel
theorem dL_law_1010 : decode cL_law 1010 = .ok (.iload_n 3, 1) := by decide +kernel
theorem dL_law_1011 : decode cL_law 1011 = .ok (.iconst 1, 1) := by decide +kernel
theorem dL_law_1012 : decode cL_law 1012 = .ok (.iadd, 1) := by decide +kernel
theorem dL_law_1013 : decode cL_law 1013 = .ok (.iaload, 1) := by decide +kernel
theorem dL_law_1014 : decode cL_law 1014 = .ok (.invokevirtual 117, 3) := by decide +kernel
theorem dL_law_1017 : decode cL_law 1017 = .ok (.aload_n 2, 1) := by decide +kernel
theorem dL_law_1018 : decode cL_law 1018 = .ok (.aload_n 0, 1) := by decide +kernel
theorem dL_law_1019 : decode cL_law 1019 = .ok (.iload_n 3, 1) := by decide +kernel
theorem dL_law_1020 : decode cL_law 1020 = .ok (.iconst 1, 1) := by decide +kernel
theorem dL_law_1021 : decode cL_law 1021 = .ok (.iadd, 1) := by decide +kernel
theorem dL_law_1022 : decode cL_law 1022 = .ok (.iaload, 1) := by decide +kernel
theorem dL_law_1023 : decode cL_law 1023 = .ok (.invokevirtual 120, 3) := by decide +kernel
theorem dL_law_1026 : decode cL_law 1026 = .ok (.if_icmp .eq 110, 3) := by decide +kernel
theorem dL_law_1029 : decode cL_law 1029 = .ok (.iconst 0, 1) := by decide +kernel
theorem dL_law_1030 : decode cL_law 1030 = .ok (.ireturn, 1) := by decide +kernel
theorem dL_law_1031 : decode cL_law 1031 = .ok (.aload_n 1, 1) := by decide +kernel
theorem dL_law_1032 : decode cL_law 1032 = .ok (.aload_n 0, 1) := by decide +kernel
theorem dL_law_1033 : decode cL_law 1033 = .ok (.iload_n 3, 1) := by decide +kernel
theorem dL_law_1034 : decode cL_law 1034 = .ok (.iconst 1, 1) := by decide +kernel
theorem dL_law_1035 : decode cL_law 1035 = .ok (.iadd, 1) := by decide +kernel
theorem dL_law_1036 : decode cL_law 1036 = .ok (.iaload, 1) := by decide +kernel
theorem dL_law_1037 : decode cL_law 1037 = .ok (.invokevirtual 121, 3) := by decide +kernel
theorem dL_law_1040 : decode cL_law 1040 = .ok (.aload_n 2, 1) := by decide +kernel
theorem dL_law_1041 : decode cL_law 1041 = .ok (.aload_n 0, 1) := by decide +kernel
theorem dL_law_1042 : decode cL_law 1042 = .ok (.iload_n 3, 1) := by decide +kernel
theorem dL_law_1043 : decode cL_law 1043 = .ok (.iconst 1, 1) := by decide +kernel
theorem dL_law_1044 : decode cL_law 1044 = .ok (.iadd, 1) := by decide +kernel
theorem dL_law_1045 : decode cL_law 1045 = .ok (.iaload, 1) := by decide +kernel
theorem dL_law_1046 : decode cL_law 1046 = .ok (.invokevirtual 124, 3) := by decide +kernel
theorem dL_law_1049 : decode cL_law 1049 = .ok (.if_icmp .eq 87, 3) := by decide +kernel
theorem dL_law_1052 : decode cL_law 1052 = .ok (.iconst 0, 1) := by decide +kernel
theorem dL_law_1053 : decode cL_law 1053 = .ok (.ireturn, 1) := by decide +kernel
theorem dL_law_1054 : decode cL_law 1054 = .ok (.aload_n 1, 1) := by decide +kernel
theorem dL_law_1055 : decode cL_law 1055 = .ok (.aload_n 0, 1) := by decide +kernel
theorem dL_law_1056 : decode cL_law 1056 = .ok (.iload_n 3, 1) := by decide +kernel
theorem dL_law_1057 : decode cL_law 1057 = .ok (.iconst 1, 1) := by decide +kernel
theorem dL_law_1058 : decode cL_law 1058 = .ok (.iadd, 1) := by decide +kernel
theorem dL_law_1059 : decode cL_law 1059 = .ok (.iaload, 1) := by decide +kernel
theorem dL_law_1060 : decode cL_law 1060 = .ok (.aload_n 0, 1) := by decide +kernel
theorem dL_law_1061 : decode cL_law 1061 = .ok (.iload_n 3, 1) := by decide +kernel
theorem dL_law_1062 : decode cL_law 1062 = .ok (.iconst 2, 1) := by decide +kernel
theorem dL_law_1063 : decode cL_law 1063 = .ok (.iadd, 1) := by decide +kernel
theorem dL_law_1064 : decode cL_law 1064 = .ok (.iaload, 1) := by decide +kernel
theorem dL_law_1065 : decode cL_law 1065 = .ok (.invokevirtual 125, 3) := by decide +kernel
theorem dL_law_1068 : decode cL_law 1068 = .ok (.aload_n 2, 1) := by decide +kernel
theorem dL_law_1069 : decode cL_law 1069 = .ok (.aload_n 0, 1) := by decide +kernel
theorem dL_law_1070 : decode cL_law 1070 = .ok (.iload_n 3, 1) := by decide +kernel
theorem dL_law_1071 : decode cL_law 1071 = .ok (.iconst 1, 1) := by decide +kernel
theorem dL_law_1072 : decode cL_law 1072 = .ok (.iadd, 1) := by decide +kernel
theorem dL_law_1073 : decode cL_law 1073 = .ok (.iaload, 1) := by decide +kernel
theorem dL_law_1074 : decode cL_law 1074 = .ok (.aload_n 0, 1) := by decide +kernel
theorem dL_law_1075 : decode cL_law 1075 = .ok (.iload_n 3, 1) := by decide +kernel
theorem dL_law_1076 : decode cL_law 1076 = .ok (.iconst 2, 1) := by decide +kernel
theorem dL_law_1077 : decode cL_law 1077 = .ok (.iadd, 1) := by decide +kernel
theorem dL_law_1078 : decode cL_law 1078 = .ok (.iaload, 1) := by decide +kernel
theorem dL_law_1079 : decode cL_law 1079 = .ok (.invokevirtual 128, 3) := by decide +kernel
theorem dL_law_1082 : decode cL_law 1082 = .ok (.if_icmp .eq 54, 3) := by decide +kernel
theorem dL_law_1085 : decode cL_law 1085 = .ok (.iconst 0, 1) := by decide +kernel
theorem dL_law_1086 : decode cL_law 1086 = .ok (.ireturn, 1) := by decide +kernel
theorem dL_law_1087 : decode cL_law 1087 = .ok (.aload_n 1, 1) := by decide +kernel
theorem dL_law_1088 : decode cL_law 1088 = .ok (.invokevirtual 129, 3) := by decide +kernel
theorem dL_law_1091 : decode cL_law 1091 = .ok (.aload_n 2, 1) := by decide +kernel
theorem dL_law_1092 : decode cL_law 1092 = .ok (.invokevirtual 132, 3) := by decide +kernel
theorem dL_law_1095 : decode cL_law 1095 = .ok (.if_icmp .eq 41, 3) := by decide +kernel
theorem dL_law_1098 : decode cL_law 1098 = .ok (.iconst 0, 1) := by decide +kernel
theorem dL_law_1099 : decode cL_law 1099 = .ok (.ireturn, 1) := by decide +kernel
theorem dL_law_1100 : decode cL_law 1100 = .ok (.aload_n 1, 1) := by decide +kernel
theorem dL_law_1101 : decode cL_law 1101 = .ok (.invokevirtual 133, 3) := by decide +kernel
theorem dL_law_1104 : decode cL_law 1104 = .ok (.aload_n 2, 1) := by decide +kernel
theorem dL_law_1105 : decode cL_law 1105 = .ok (.invokevirtual 136, 3) := by decide +kernel
theorem dL_law_1108 : decode cL_law 1108 = .ok (.if_icmp .eq 28, 3) := by decide +kernel
theorem dL_law_1111 : decode cL_law 1111 = .ok (.iconst 0, 1) := by decide +kernel
theorem dL_law_1112 : decode cL_law 1112 = .ok (.ireturn, 1) := by decide +kernel
theorem dL_law_1113 : decode cL_law 1113 = .ok (.aload_n 1, 1) := by decide +kernel
theorem dL_law_1114 : decode cL_law 1114 = .ok (.aload_n 0, 1) := by decide +kernel
theorem dL_law_1115 : decode cL_law 1115 = .ok (.iload_n 3, 1) := by decide +kernel
theorem dL_law_1116 : decode cL_law 1116 = .ok (.iconst 1, 1) := by decide +kernel
theorem dL_law_1117 : decode cL_law 1117 = .ok (.iadd, 1) := by decide +kernel
theorem dL_law_1118 : decode cL_law 1118 = .ok (.iaload, 1) := by decide +kernel
theorem dL_law_1119 : decode cL_law 1119 = .ok (.invokevirtual 137, 3) := by decide +kernel
theorem dL_law_1122 : decode cL_law 1122 = .ok (.aload_n 2, 1) := by decide +kernel
theorem dL_law_1123 : decode cL_law 1123 = .ok (.aload_n 0, 1) := by decide +kernel
theorem dL_law_1124 : decode cL_law 1124 = .ok (.iload_n 3, 1) := by decide +kernel
theorem dL_law_1125 : decode cL_law 1125 = .ok (.iconst 1, 1) := by decide +kernel
theorem dL_law_1126 : decode cL_law 1126 = .ok (.iadd, 1) := by decide +kernel
theorem dL_law_1127 : decode cL_law 1127 = .ok (.iaload, 1) := by decide +kernel
theorem dL_law_1128 : decode cL_law 1128 = .ok (.invokevirtual 140, 3) := by decide +kernel
theorem dL_law_1131 : decode cL_law 1131 = .ok (.if_icmp .eq 5, 3) := by decide +kernel
theorem dL_law_1134 : decode cL_law 1134 = .ok (.iconst 0, 1) := by decide +kernel
theorem dL_law_1135 : decode cL_law 1135 = .ok (.ireturn, 1) := by decide +kernel
theorem dL_law_1136 : decode cL_law 1136 = .ok (.iinc 3 6, 3) := by decide +kernel
theorem dL_law_1139 : decode cL_law 1139 = .ok (.goto (-1121), 3) := by decide +kernel
theorem dL_law_1142 : decode cL_law 1142 = .ok (.iconst 1, 1) := by decide +kernel
theorem dL_law_1143 : decode cL_law 1143 = .ok (.ireturn, 1) := by decide +kernel
end
section
/-! the words that every method takes along -/
def ow_isNest : Cond → Bool
  | .fieldLinkNest .. => true
  | .methodLinkNest .. => true
  | _ => false
def ow_base : List Cond := lw_tbl.filter goodWord
def ow_nest : List Cond := lw_tbl.filter ow_isNest
theorem ow_mb {w : Cond} (i : Nat) (h : lw_tbl[i]? = some w) (g : goodWord w = true) : w ∈ ow_base := List.mem_filter.mpr ⟨List.mem_of_getElem? h, g⟩
theorem ow_mn {w : Cond} (i : Nat) (h : lw_tbl[i]? = some w) (g : ow_isNest w = true) : w ∈ ow_nest := List.mem_filter.mpr ⟨List.mem_of_getElem? h, g⟩
theorem ow_nest_warm {s U : State} (hW : s.WarmedH U.vm) (h : ∀ w ∈ ow_nest, va_Nw w s) : ∀ w ∈ ow_nest, va_Nw w U := by
  intro w hw
  have h1 := (List.mem_filter.mp hw).2
  have h2 := h w hw
  cases w with
  | fieldLinkNest a i b n d hh => exact va_Nw.warmF hW h2
  | methodLinkNest a i x hh => exact va_Nw.warmM hW h2
  | _ => cases h1
theorem ow_nest_same {u U : State} (e : u.vm = U.vm) (h : ∀ w ∈ ow_nest, va_Nw w u) : ∀ w ∈ ow_nest, va_Nw w U := by
  intro w hw
  have h1 := (List.mem_filter.mp hw).2
  have h2 := h w hw
  cases w with
  | fieldLinkNest a i b n d hh => exact va_Nw.same rfl e h2
  | methodLinkNest a i x hh => exact va_Nw.same rfl e h2
  | _ => cases h1
def ow_ws (y : MethodName) (cc : ByteArray) (nL : Nat) (rt : Option FieldType) : List Cond := .code y cc nL rt :: ow_base
/-! the memory: ints (and booleans) by cell and place, longs by cell and place; the shape of the cells is fixed -/
abbrev ow_M : Type := (Nat → Nat → Int32) × (Nat → Nat → Int64)
def ow_up (M : ow_M) (o k : Nat) (v : Int32) : ow_M := (fun a b => if a = o ∧ b = k then v else M.1 a b, M.2)
def ow_upL (M : ow_M) (o k : Nat) (v : Int64) : ow_M := (M.1, fun a b => if a = o ∧ b = k then v else M.2 a b)
abbrev ow_Sh : Type := (Nat × Nat) ⊕ (Nat × List (Option Nat))
def ow_sh : List ow_Sh := [.inr (7, [some 1, some 2, some 8, some 11, some 16, some 19, some 21, none, none]), .inl (3, 4), .inr (0, [none, none, none, some 3, some 4, some 5, some 6, some 7]), .inl (0, 7), .inl (0, 7), .inl (0, 7), .inl (0, 7), .inl (1, 7), .inr (5, [some 9, some 10]), .inl (0, 7), .inl (0, 7), .inr (6, [some 12, some 13, none, some 14, none, some 15]), .inl (2, 256), .inl (0, 630), .inl (0, 128), .inl (0, 128), .inr (2, [some 17, some 18]), .inl (0, 7), .inl (0, 128), .inr (1, [some 20]), .inl (0, 128), .inr (3, [none, some 22, some 23, some 24, some 25]), .inl (0, 8), .inl (0, 8), .inl (0, 8), .inl (0, 8), .inr (4, [none, none, none, some 27]), .inl (0, 50), .inr (4, [none, none, none, some 29]), .inl (0, 50), .inr (4, [none, none, none, some 31]), .inl (0, 50), .inr (4, [none, none, none, some 33]), .inl (0, 50), .inr (8, [none, none, some 35, some 36, some 37, none, none, none, some 38, some 39, some 40, some 41, none, none, none, some 42, some 43, some 44, some 45, some 46, some 47, some 48, some 49, none, some 50, some 51, some 52, none, some 53, some 54, some 55, some 56]), .inl (0, 4), .inl (0, 4), .inl (0, 200), .inl (0, 7), .inl (0, 7), .inl (0, 7), .inl (0, 7), .inl (0, 7), .inl (0, 7), .inl (0, 7), .inl (0, 7), .inl (0, 7), .inl (0, 7), .inl (0, 16384), .inl (0, 16384), .inl (0, 7), .inl (0, 128), .inl (0, 128), .inl (0, 8), .inl (0, 8), .inl (0, 8), .inl (0, 8)]
def ow_v (ad : Nat → Nat) : Value → Value
  | .ref k => .ref (ad k)
  | v => v
def ow_fv (ad : Nat → Nat) (f : Nat → Int32) (j : Nat) : Option Nat → Value
  | none => .int (f j)
  | some r => .ref (ad r)
def ow_fs (ad : Nat → Nat) (f : Nat → Int32) (fs : List (Option Nat)) : List Value := fs.mapIdx (ow_fv ad f)
def ow_arr (cI : Nat → ClassId) (ad : Nat → Nat) (M : ow_M) (k : Nat) (t n : Nat) : ClassId × vp_A := match t with
  | 0 => (cI 0, n, .inl (M.1 k))
  | 1 => (cI 1, n, .inl (M.1 k))
  | 2 => (cI 2, n, .inr (.inl (M.2 k)))
  | _ => (cI 3, n, .inr (.inr (.inr (.inr fun j => some (ad (26 + 2 * j))))))
def ow_e (cI : Nat → ClassId) (ad : Nat → Nat) (M : ow_M) (k : Nat) : ow_Sh → va_E
  | .inl q => .inl (ow_arr cI ad M k q.1 q.2)
  | .inr q => .inr (q.1, ow_fs ad (M.1 k) q.2)
def ow_w (cI : Nat → ClassId) (ad : Nat → Nat) (M : ow_M) : va_W := ow_sh.mapIdx (fun k sh => (ad k, ow_e cI ad M k sh))
theorem ow_w_get {cI : Nat → ClassId} {ad : Nat → Nat} {M : ow_M} {k : Nat} {sh : ow_Sh} (h : ow_sh[k]? = some sh) : (ow_w cI ad M)[k]? = some (ad k, ow_e cI ad M k sh) := by
  unfold ow_w
  rw [List.getElem?_mapIdx, h]
  rfl
theorem ow_w_len (cI : Nat → ClassId) (ad : Nat → Nat) (M : ow_M) : (ow_w cI ad M).length = ow_sh.length := by unfold ow_w; rw [List.length_mapIdx]
theorem ow_w_ext {cI : Nat → ClassId} {ad : Nat → Nat} {M M2 : ow_M} {o : Nat} {sh : ow_Sh} {E : va_E} (h : ow_sh[o]? = some sh) (hE : E = ow_e cI ad M2 o sh) (h1 : ∀ k, k ≠ o → M2.1 k = M.1 k) (h2 : ∀ k, k ≠ o → M2.2 k = M.2 k) : (ow_w cI ad M).set o (ad o, E) = ow_w cI ad M2 := by
  apply List.ext_getElem?
  intro i
  rw [List.getElem?_set]
  by_cases hi : o = i
  · subst hi
    have hlt : o < (ow_w cI ad M).length := by rw [ow_w_len]; exact (List.getElem?_eq_some_iff.mp h).1
    rw [if_pos rfl, if_pos hlt, ow_w_get h, hE]
  · rw [if_neg hi]
    unfold ow_w
    rw [List.getElem?_mapIdx, List.getElem?_mapIdx]
    cases hs : ow_sh[i]? with
    | none => rfl
    | some s1 =>
      have e1 := h1 i (fun q => hi q.symm)
      have e2 := h2 i (fun q => hi q.symm)
      show some (ad i, ow_e cI ad M i s1) = some (ad i, ow_e cI ad M2 i s1)
      cases s1 with
      | inl q => show some (ad i, Sum.inl (ow_arr cI ad M i q.1 q.2)) = some (ad i, Sum.inl (ow_arr cI ad M2 i q.1 q.2)); unfold ow_arr; rw [e1, e2]
      | inr q => show some (ad i, Sum.inr (q.1, ow_fs ad (M.1 i) q.2)) = some (ad i, Sum.inr (q.1, ow_fs ad (M2.1 i) q.2)); rw [e1]
theorem ow_up_ne {M : ow_M} {o j a : Nat} {v : Int32} (h : a ≠ o) : (ow_up M o j v).1 a = M.1 a := by
  funext b
  show (if a = o ∧ b = j then v else M.1 a b) = M.1 a b
  rw [if_neg (fun q => h q.1)]
theorem ow_up_eq {M : ow_M} {o j : Nat} {v : Int32} : (ow_up M o j v).1 o = upd (M.1 o) j v := by
  funext b
  show (if o = o ∧ b = j then v else M.1 o b) = (if b = j then v else M.1 o b)
  by_cases q : b = j
  · rw [if_pos ⟨rfl, q⟩, if_pos q]
  · rw [if_neg (fun z => q z.2), if_neg q]
theorem ow_upL_ne {M : ow_M} {o j a : Nat} {v : Int64} (h : a ≠ o) : (ow_upL M o j v).2 a = M.2 a := by
  funext b
  show (if a = o ∧ b = j then v else M.2 a b) = M.2 a b
  rw [if_neg (fun q => h q.1)]
theorem ow_upL_eq {M : ow_M} {o j : Nat} {v : Int64} : (ow_upL M o j v).2 o = vp_updL (M.2 o) j v := by
  funext b
  show (if o = o ∧ b = j then v else M.2 o b) = (if b = j then v else M.2 o b)
  by_cases q : b = j
  · rw [if_pos ⟨rfl, q⟩, if_pos q]
  · rw [if_neg (fun z => q z.2), if_neg q]
theorem ow_fs_set {ad : Nat → Nat} {f : Nat → Int32} {fs : List (Option Nat)} {k : Nat} {v : Int32} (h : fs[k]? = some none) : (ow_fs ad f fs).set k (.int v) = ow_fs ad (upd f k v) fs := by
  apply List.ext_getElem?
  intro i
  rw [List.getElem?_set]
  unfold ow_fs
  rw [List.getElem?_mapIdx, List.getElem?_mapIdx, List.length_mapIdx]
  have hlt : k < fs.length := (List.getElem?_eq_some_iff.mp h).1
  by_cases hi : k = i
  · subst hi
    rw [if_pos rfl, if_pos hlt, h]
    show some (Value.int v) = some (Value.int (upd f k v k))
    unfold upd
    rw [if_pos rfl]
  · rw [if_neg hi]
    cases hs : fs[i]? with
    | none => rfl
    | some q =>
      cases q with
      | none => show some (Value.int (f i)) = some (Value.int (upd f k v i)); unfold upd; rw [if_neg (fun z => hi z.symm)]
      | some r => rfl
theorem ow_fs_get {ad : Nat → Nat} {f : Nat → Int32} {fs : List (Option Nat)} {k : Nat} {x : Option Nat} (h : fs[k]? = some x) : (ow_fs ad f fs)[k]? = some (ow_fv ad f k x) := by
  unfold ow_fs
  rw [List.getElem?_mapIdx, h]
  rfl
theorem ow_w_put {cI : Nat → ClassId} {ad : Nat → Nat} {M : ow_M} {o ci k : Nat} {fs : List (Option Nat)} {v : Int32} (h : ow_sh[o]? = some (.inr (ci, fs))) (hk : fs[k]? = some none) : (ow_w cI ad M).set o (ad o, .inr (ci, (ow_fs ad (M.1 o) fs).set k (.int v))) = ow_w cI ad (ow_up M o k v) :=
  ow_w_ext h (by show Sum.inr (ci, (ow_fs ad (M.1 o) fs).set k (.int v)) = Sum.inr (ci, ow_fs ad ((ow_up M o k v).1 o) fs); rw [ow_up_eq, ow_fs_set hk]) (fun _ q => ow_up_ne q) (fun _ _ => rfl)
theorem ow_w_putA {cI : Nat → ClassId} {ad : Nat → Nat} {M : ow_M} {o n j : Nat} {v : Int32} (h : ow_sh[o]? = some (.inl (0, n))) : (ow_w cI ad M).set o (ad o, .inl (cI 0, n, .inl (upd (M.1 o) j v))) = ow_w cI ad (ow_up M o j v) :=
  ow_w_ext h (by show Sum.inl (cI 0, n, Sum.inl (upd (M.1 o) j v)) = Sum.inl (cI 0, n, Sum.inl ((ow_up M o j v).1 o)); rw [ow_up_eq]) (fun _ q => ow_up_ne q) (fun _ _ => rfl)
theorem ow_w_putZ {cI : Nat → ClassId} {ad : Nat → Nat} {M : ow_M} {o n j : Nat} {v : Int32} (h : ow_sh[o]? = some (.inl (1, n))) : (ow_w cI ad M).set o (ad o, .inl (cI 1, n, .inl (upd (M.1 o) j v))) = ow_w cI ad (ow_up M o j v) :=
  ow_w_ext h (by show Sum.inl (cI 1, n, Sum.inl (upd (M.1 o) j v)) = Sum.inl (cI 1, n, Sum.inl ((ow_up M o j v).1 o)); rw [ow_up_eq]) (fun _ q => ow_up_ne q) (fun _ _ => rfl)
theorem ow_w_putL {cI : Nat → ClassId} {ad : Nat → Nat} {M : ow_M} {o n j : Nat} {v : Int64} (h : ow_sh[o]? = some (.inl (2, n))) : (ow_w cI ad M).set o (ad o, .inl (cI 2, n, .inr (.inl (vp_updL (M.2 o) j v)))) = ow_w cI ad (ow_upL M o j v) :=
  ow_w_ext h (by show Sum.inl (cI 2, n, Sum.inr (Sum.inl (vp_updL (M.2 o) j v))) = Sum.inl (cI 2, n, Sum.inr (Sum.inl ((ow_upL M o j v).2 o))); rw [ow_upL_eq]) (fun _ _ => rfl) (fun _ q => ow_upL_ne q)
/-! locals -/
def ow_lv (ad : Nat → Nat) : Nat → List (Option Value) → List (Nat × Value)
  | _, [] => []
  | i, none :: t => ow_lv ad (i + 1) t
  | i, some v :: t => (i, ow_v ad v) :: ow_lv ad (i + 1) t
theorem ow_lv_mem {ad : Nat → Nat} : ∀ {ls : List (Option Value)} {j i : Nat} {v : Value}, ls[i]? = some (some v) → (j + i, ow_v ad v) ∈ ow_lv ad j ls := by
  intro ls
  induction ls with
  | nil => intro j i v h; simp at h
  | cons a t ih =>
    intro j i v h
    cases i with
    | zero =>
      simp at h
      subst h
      exact List.mem_cons_self
    | succ i =>
      have h1 : t[i]? = some (some v) := by simpa using h
      have h2 := ih (j := j + 1) h1
      have e : j + 1 + i = j + (i + 1) := by omega
      rw [e] at h2
      cases a with
      | none => exact h2
      | some x => exact List.mem_cons_of_mem _ h2
theorem ow_lv_inv {ad : Nat → Nat} : ∀ {ls : List (Option Value)} {j : Nat} {q : Nat × Value}, q ∈ ow_lv ad j ls → ∃ (i : Nat) (v : Value), q = (j + i, ow_v ad v) ∧ ls[i]? = some (some v) := by
  intro ls
  induction ls with
  | nil => intro j q h; cases h
  | cons a t ih =>
    intro j q h
    have step : q ∈ ow_lv ad (j + 1) t → ∃ (i : Nat) (v : Value), q = (j + i, ow_v ad v) ∧ (a :: t)[i]? = some (some v) := by
      intro hq
      obtain ⟨i, v, h1, h2⟩ := ih hq
      exact ⟨i + 1, v, by rw [h1]; congr 1; omega, by simpa using h2⟩
    cases a with
    | none => exact step h
    | some x =>
      rcases List.mem_cons.mp h with h | h
      · exact ⟨0, x, h, rfl⟩
      · exact step h
theorem ow_has_mono {ls : Array Slot} {n : Nat} {l l' : List (Nat × Value)} (h : lv_has ls n l) (hs : ∀ q ∈ l', q ∈ l) : lv_has ls n l' := ⟨h.1, h.2.1, fun q hq => h.2.2 q (hs q hq)⟩
theorem ow_at {lsA : Array Slot} {nL : Nat} {ad : Nat → Nat} {ls : List (Option Value)} {i : Nat} {v : Value} (hl : lv_has lsA nL (ow_lv ad 0 ls)) (h : ls[i]? = some (some v)) : lsA[i]? = some (.val (ow_v ad v)) := by
  have h1 := hl.2.2 _ (ow_lv_mem (ad := ad) (j := 0) h)
  rw [Nat.zero_add] at h1
  exact h1
theorem ow_v_cat (ad : Nat → Nat) (v : Value) : (ow_v ad v).category = v.category := by cases v <;> rfl
def ow_k1 : Option Value → Bool
  | some v => v.category != 2
  | none => true
def ow_c1 (ls : List (Option Value)) : Nat → Bool
  | 0 => true
  | j + 1 => match ls[j]? with
    | some x => ow_k1 x
    | none => true
theorem ow_c1_spec {ls : List (Option Value)} {i k : Nat} {v : Value} (h : ow_c1 ls i = true) (hk : ls[k]? = some (some v)) (hki : k + 1 = i) : v.category ≠ 2 := by
  subst hki
  have h : (match ls[k]? with | some x => ow_k1 x | none => true) = true := h
  rw [hk] at h
  intro hv
  simp [ow_k1, hv] at h
theorem ow_set1 {ad : Nat → Nat} {ls : List (Option Value)} {i : Nat} {v : Value} (hc : ow_c1 ls i = true) : ∀ q ∈ ow_lv ad 0 (ls.set i (some v)), q ∈ (i, ow_v ad v) :: (ow_lv ad 0 ls).filter (fun q => !(q.1 == i) && !(q.1 + 1 == i && q.2.category == 2)) := by
  intro q hq
  obtain ⟨k, x, rfl, hk⟩ := ow_lv_inv hq
  rw [Nat.zero_add] at *
  rw [List.getElem?_set] at hk
  by_cases hi : i = k
  · subst hi
    rw [if_pos rfl] at hk
    split at hk
    · cases hk; exact List.mem_cons_self
    · cases hk
  · rw [if_neg hi] at hk
    refine List.mem_cons_of_mem _ (List.mem_filter.mpr ⟨?_, ?_⟩)
    · have h1 := ow_lv_mem (ad := ad) (j := 0) hk
      rwa [Nat.zero_add] at h1
    · have h1 : (k == i) = false := by simp; omega
      have h2 : (k + 1 == i && (ow_v ad x).category == 2) = false := by
        rw [ow_v_cat]
        by_cases hki : k + 1 = i
        · have := ow_c1_spec hc hk hki
          simp [this]
        · simp [hki]
      simp only [h1, h2]
      rfl
theorem ow_set2 {ad : Nat → Nat} {ls : List (Option Value)} {i : Nat} {v : Value} (hc : ow_c1 ls i = true) : ∀ q ∈ ow_lv ad 0 ((ls.set i (some v)).set (i + 1) none), q ∈ (i, ow_v ad v) :: (ow_lv ad 0 ls).filter (fun q => !(q.1 == i) && (!(q.1 == i + 1) && !(q.1 + 1 == i && q.2.category == 2))) := by
  intro q hq
  obtain ⟨k, x, rfl, hk⟩ := ow_lv_inv hq
  rw [Nat.zero_add] at *
  rw [List.getElem?_set] at hk
  by_cases hj : i + 1 = k
  · rw [if_pos hj] at hk
    split at hk <;> cases hk
  · rw [if_neg hj, List.getElem?_set] at hk
    by_cases hi : i = k
    · subst hi
      rw [if_pos rfl] at hk
      split at hk
      · cases hk; exact List.mem_cons_self
      · cases hk
    · rw [if_neg hi] at hk
      refine List.mem_cons_of_mem _ (List.mem_filter.mpr ⟨?_, ?_⟩)
      · have h1 := ow_lv_mem (ad := ad) (j := 0) hk
        rwa [Nat.zero_add] at h1
      · have h1 : (k == i) = false := by simp; omega
        have h3 : (k == i + 1) = false := by simp; omega
        have h2 : (k + 1 == i && (ow_v ad x).category == 2) = false := by
          rw [ow_v_cat]
          by_cases hki : k + 1 = i
          · have := ow_c1_spec hc hk hki
            simp [this]
          · simp [hki]
        simp only [h1, h2, h3]
        rfl
/-! the judgement -/
abbrev ow_Cx : Type := Program × Launch × Env × Room × State × MethodId × Array Value × List Frame × Method × Code × Nat × Nat × (State → Prop) × (Nat → ClassId) × (Nat → Nat) × va_G × (Nat → Prop)
def ow_tys (cI : Nat → ClassId) : List (ClassId × FieldType) := [(cI 0, .int), (cI 1, .boolean), (cI 2, .long), (cI 3, .object "OneWire$Sheet")]
def ow_X (own : String) (cc : ByteArray) (nL : Nat) (p : Program) (s : State) (m : MethodId) (args : Array Value) (meth : Method) (c : Code) (cI : Nat → ClassId) (D : va_G) : Prop :=
  p.tables.exec = Jvm.exec ∧ c.code = cc ∧ c.maxLocals = nL ∧ s.vm.findClass own = some m.cls ∧ (∀ w ∈ ow_base, w.before args s = true) ∧ (∀ w ∈ ow_nest, va_Nw w s) ∧ va_K D vwCl (ow_tys cI) s ∧ meth.locks = false
def ow_G (Γ : ow_Cx → Prop) (own : String) (cc : ByteArray) (nL pc : Nat) (ls : List (Option Value)) (st : List Value) (M : ow_M) : Prop :=
  ∀ (p : Program) (l : Launch) (e : Env) (R : Room) (s : State) (m : MethodId) (args : Array Value) (below : List Frame) (meth : Method) (c : Code) (cells slots : Nat) (Z : State → Prop) (cI : Nat → ClassId) (ad : Nat → Nat) (D : va_G) (A : Nat → Prop),
    Γ (p, l, e, R, s, m, args, below, meth, c, cells, slots, Z, cI, ad, D, A) → ow_X own cc nL p s m args meth c cI D →
    ∀ (H : Heap) (locs : List Loc) (lsA : Array Slot), va_P D vwCl (ow_w cI ad M) H → va_D A (ow_w cI ad M) → va_S A s.heap H locs → lv_has lsA nL (ow_lv ad 0 ls) →
    W p l e R s m args below meth c H locs cells slots Z (F0 m pc lsA (st.map (ow_v ad)))
def ow_rm (d : Nat) : Room := { frames := d, cells := 0, slots := 0, locals := 35 * d }
def ow_A (ad : Nat → Nat) : Nat → Prop := fun q => ∃ k, k < ow_sh.length ∧ q = ad k
def ow_Qc (cI : Nat → ClassId) (ad : Nat → Nat) (D : va_G) (Q : Option Value → ow_M → Prop) : Array Value → State → Outcome → State → Prop := fun _ st oc t =>
  ∃ (r : Option Value) (M : ow_M), oc = .returned (r.map (ow_v ad)) ∧ Q r M ∧ va_P D vwCl (ow_w cI ad M) t.heap ∧ va_F (ow_A ad) st t
def ow_Pc (cI : Nat → ClassId) (ad : Nat → Nat) (D : va_G) (As : List Value) (M : ow_M) : Array Value → State → Prop := fun v U =>
  v = (As.map (ow_v ad)).toArray ∧ va_P D vwCl (ow_w cI ad M) U.heap ∧ va_K D vwCl (ow_tys cI) U ∧ va_D (ow_A ad) (ow_w cI ad M) ∧ ∀ w ∈ ow_nest, va_Nw w U
def ow_C (l : Launch) (d : Nat) (y : MethodName) (cc : ByteArray) (nL : Nat) (rt : Option FieldType) (As : List Value) (M : ow_M) (Q : Option Value → ow_M → Prop) : Prop :=
  ∀ (cI : Nat → ClassId) (ad : Nat → Nat) (D : va_G), Met l y (ow_ws y cc nL rt) (ow_rm d) (ow_Pc cI ad D As M) (ow_Qc cI ad D Q) 0 0 (ow_A ad)
def ow_is (rv : Option Value) (Mf : ow_M) : Option Value → ow_M → Prop := fun r M => r = rv ∧ M = Mf
abbrev ow_F (l : Launch) (d : Nat) (y : MethodName) (cc : ByteArray) (nL : Nat) (rt : Option FieldType) (As : List Value) (M : ow_M) (rv : Option Value) (Mf : ow_M) : Prop := ow_C l d y cc nL rt As M (ow_is rv Mf)
def ow_Γ (l0 : Launch) (d : Nat) (rt : Option FieldType) (Q : Option Value → ow_M → Prop) : ow_Cx → Prop := fun
  | (_, l, _, R, s, _, args, below, meth, _, cells, slots, Z, cI, ad, D, A) => l = l0 ∧ R = ow_rm d ∧ cells = 0 ∧ slots = 0 ∧ meth.sig.returnType = rt ∧ Z = MQ below (ow_Qc cI ad D Q) args s 0 0 (ow_A ad) ∧ A = ow_A ad
def ow_ent (nL : Nat) (As : List Value) : List (Option Value) := (As.flatMap fun v => if v.category = 2 then [some v, none] else [some v]) ++ List.replicate (nL - (lg_sl As).length) none
theorem ow_A_w {cI : Nat → ClassId} {ad : Nat → Nat} {M : ow_M} {A : Nat → Prop} (h : va_D A (ow_w cI ad M)) : ∀ q, ow_A ad q → A q := by
  rintro q ⟨k, hk, rfl⟩
  have h1 : ow_sh[k]? = some ow_sh[k] := List.getElem?_eq_getElem hk
  exact h.2 k _ (ow_w_get h1)
theorem ow_D_any {cI : Nat → ClassId} {ad : Nat → Nat} {M M2 : ow_M} {A : Nat → Prop} (h : va_D A (ow_w cI ad M)) : va_D A (ow_w cI ad M2) := by
  have key : ∀ (i : Nat) (q : Nat × va_E), (ow_w cI ad M2)[i]? = some q → ∃ q', (ow_w cI ad M)[i]? = some q' ∧ q'.1 = q.1 := by
    intro i q hq
    unfold ow_w at hq ⊢
    rw [List.getElem?_mapIdx] at hq ⊢
    cases hs : ow_sh[i]? with
    | none => rw [hs] at hq; cases hq
    | some x =>
      rw [hs] at hq
      cases hq
      exact ⟨_, rfl, rfl⟩
  refine ⟨fun i j p q hp hq hpq => ?_, fun k q hq => ?_⟩
  · obtain ⟨p', h1, h2⟩ := key i p hp
    obtain ⟨q', h3, h4⟩ := key j q hq
    exact h.1 i j p' q' h1 h3 (by rw [h2, h4]; exact hpq)
  · obtain ⟨q', h1, h2⟩ := key k q hq
    rw [← h2]
    exact h.2 k q' h1
theorem ow_D_self {cI : Nat → ClassId} {ad : Nat → Nat} {M : ow_M} {A : Nat → Prop} (h : va_D A (ow_w cI ad M)) : va_D (ow_A ad) (ow_w cI ad M) := by
  refine ⟨h.1, fun k q hq => ?_⟩
  unfold ow_w at hq
  rw [List.getElem?_mapIdx] at hq
  cases hs : ow_sh[k]? with
  | none => rw [hs] at hq; cases hq
  | some x =>
    rw [hs] at hq
    cases hq
    exact ⟨k, (List.getElem?_eq_some_iff.mp hs).1, rfl⟩
theorem ow_lv_args (ad : Nat → Nat) : ∀ (As : List Value) (j : Nat) (t : List (Option Value)), (∀ x ∈ t, x = none) → ow_lv ad j ((As.flatMap fun v => if v.category = 2 then [some v, none] else [some v]) ++ t) = lv_args j (As.map (ow_v ad)) := by
  intro As
  induction As with
  | nil =>
    intro j t ht
    induction t generalizing j with
    | nil => rfl
    | cons a t ih =>
      have := ht a List.mem_cons_self
      subst this
      exact ih (j + 1) (fun x hx => ht x (List.mem_cons_of_mem _ hx))
  | cons v As ih =>
    intro j t ht
    show ow_lv ad j (((if v.category = 2 then [some v, none] else [some v]) ++ _) ++ t) = (j, ow_v ad v) :: lv_args (if (ow_v ad v).category = 2 then j + 2 else j + 1) (As.map (ow_v ad))
    rw [ow_v_cat]
    by_cases hc : v.category = 2
    · rw [if_pos hc, if_pos hc]
      show (j, ow_v ad v) :: ow_lv ad (j + 1 + 1) _ = _
      rw [← ih (j + 2) t ht]
      rfl
    · rw [if_neg hc, if_neg hc]
      show (j, ow_v ad v) :: ow_lv ad (j + 1) _ = _
      rw [← ih (j + 1) t ht]
      rfl
theorem ow_sl_len (ad : Nat → Nat) : ∀ As : List Value, (lg_sl (As.map (ow_v ad))).length = (lg_sl As).length := by
  intro As
  induction As with
  | nil => rfl
  | cons v As ih =>
    have h1 : ∀ (x : Value) (xs : List Value), (lg_sl (x :: xs)).length = (if x.category = 2 then 2 else 1) + (lg_sl xs).length := by
      intro x xs
      show ((if x.category = 2 then [Slot.val x, Slot.second] else [Slot.val x]) ++ lg_sl xs).length = _
      rw [List.length_append]
      split <;> rfl
    show (lg_sl (ow_v ad v :: As.map (ow_v ad))).length = _
    rw [h1, h1, ih, ow_v_cat]
theorem ow_enter {l : Launch} {d : Nat} {y : MethodName} {cc : ByteArray} {nL : Nat} {rt : Option FieldType} {As : List Value} {M : ow_M} {Q : Option Value → ow_M → Prop} {ls : List (Option Value)} (hy : plainName y.cls = true) (hn : (lg_sl As).length ≤ nL) (hls : ow_ent nL As = ls) (k : ow_G (ow_Γ l d rt Q) y.cls cc nL 0 ls [] M) : ow_C l d y cc nL rt As M Q := by
  intro cI ad D
  refine Met.ofW (cc := cc) (maxL := nL) (ret := rt) hy rfl ?_
  intro p e s m args below meth c s₁ B hml hv
  obtain ⟨rfl, hP, hK, hD, hN⟩ := hv
  have hts := atoms_spec (ws := ow_ws y cc nL rt) B.pre
  have hown : s.vm.findClass y.cls = some m.cls := findClass_of_methodNamed B.named
  have hl := lv_entry (As.map (ow_v ad)) (n := nL) (by rw [ow_sl_len]; exact hn)
  rw [lg_entry_eq]
  refine k p l e _ s m _ below meth c 0 0 _ cI ad D (ow_A ad) ⟨rfl, rfl, rfl, rfl, B.returns, rfl, rfl⟩ ⟨B.exec, B.bytes, hml, hown, fun w hw => hts w (List.mem_cons_of_mem _ hw), hN, hK, B.notSynchronized⟩ s.heap [] _ hP hD va_S.rf ?_
  subst hls
  unfold ow_ent
  rw [ow_lv_args ad As 0 _ (fun x hx => (List.mem_replicate.mp hx).2)]
  exact hl
/-! calls -/
theorem ow_blind {cI : Nat → ClassId} {ad : Nat → Nat} {D : va_G} {As : List Value} {M : ow_M} : FrameBlind (ow_Pc cI ad D As M) := by
  intro a U g mk h
  obtain ⟨h1, h2, h3, h4, h5⟩ := h
  exact ⟨h1, h2, va_K.moved (u := U) (U := U.calling g mk a) (Vm.Alike.refl U.vm) h3, h4, ow_nest_same (u := U) rfl h5⟩
theorem ow_pre {cI : Nat → ClassId} {ad : Nat → Nat} {D : va_G} {As : List Value} {M : ow_M} {s : State} {H : Heap} {A : Nat → Prop} (hP : va_P D vwCl (ow_w cI ad M) H) (hD : va_D A (ow_w cI ad M)) (hK : va_K D vwCl (ow_tys cI) s) (hN : ∀ w ∈ ow_nest, va_Nw w s) : ∀ U : State, U.heap = H → s.WarmedH U.vm → ow_Pc cI ad D As M (As.map (ow_v ad)).toArray U :=
  fun U hU hW => ⟨rfl, by rw [hU]; exact hP, va_K.moved hW.alike hK, ow_D_self hD, ow_nest_warm hW hN⟩
theorem ow_after {p : Program} {l : Launch} {e : Env} {R : Room} {s : State} {m : MethodId} {args : Array Value} {below : List Frame} {meth : Method} {c : Code} {H : Heap} {locs : List Loc} {cells slots : Nat} {Z : State → Prop} {cI : Nat → ClassId} {ad : Nat → Nat} {D : va_G} {A : Nat → Prop} {pc : Nat} {lsA : Array Slot} {st0 rest : List Value} {a : Array Value} {Q : Option Value → ow_M → Prop}
    (hr : va_Run p l e R s m args below meth c H locs cells slots 0 0 (F0 m pc lsA st0) rest (ow_Qc cI ad D Q a) (ow_A ad)) (hS : va_S A s.heap H locs) (hA : ∀ q, ow_A ad q → A q)
    (kk : ∀ (r : Option Value) (M : ow_M) (H1 : Heap) (locs1 : List Loc), Q r M → va_P D vwCl (ow_w cI ad M) H1 → va_S A s.heap H1 locs1 → W p l e R s m args below meth c H1 locs1 cells slots Z (F0 m (pc + 3) lsA ((r.map (ow_v ad)).toList ++ rest))) : W p l e R s m args below meth c H locs cells slots Z (F0 m pc lsA st0) := by
  intro T hT X
  obtain ⟨v, st₀, t, T', L, h0, X', hL, e1, e2, ⟨r, M, hv, hq, hp, hz, hk⟩, st⟩ := hr T hT X
  have hv := Outcome.returned.inj hv
  subst hv
  rw [h0] at hz hk
  obtain ⟨t2, a1, b1⟩ := kk r M T'.heap (locs ++ L) hq (by rw [e1]; exact hp)
    ⟨Nat.le_trans hS.1 (by rw [e1]; exact hz), fun q h1 h2 => by rw [e1, hk q (Nat.lt_of_lt_of_le h1 hS.1) (fun z => h2 (hA q z))]; exact hS.2.1 q h1 h2, fun q hq => by
      rcases List.mem_append.mp hq with h | h
      · exact hS.2.2 q h
      · exact hA _ (hL q h)⟩ T' rfl X'
  exact ⟨t2, st t2 a1, b1⟩
/-- what the tables say of a method that is called: its code, its class, how it is called, how many values it takes -/
def ow_okM (y : MethodName) (cc : ByteArray) (nL : Nat) (rt : Option FieldType) (stat : Bool) (n : Nat) : Prop :=
  Cond.code y cc nL rt ∈ ow_base ∧ Cond.initialized y.cls ∈ ow_base ∧ (y.cls ≠ "java/lang/invoke/MethodHandle" ∧ y.cls ≠ "java/lang/invoke/VarHandle") ∧ (parseMethodDescriptor y.desc).map (fun d => d.parameters.length) = some n ∧ (match stat with | true => Cond.static y ∈ ow_base | false => Cond.instanceMethod y ∈ ow_base ∧ Cond.selects y.cls y y ∈ ow_base)
def ow_lk (own : String) (idx : Nat) (y : MethodName) : Prop := Cond.methodLink own idx y ∈ ow_base ∨ ∃ host, Cond.methodLinkNest own idx y host ∈ ow_nest
def ow_rmOk (Γ : ow_Cx → Prop) (l0 : Launch) (d nL : Nat) : Prop := ∀ (p : Program) (l : Launch) (e : Env) (R : Room) (s : State) (m : MethodId) (args : Array Value) (below : List Frame) (meth : Method) (c : Code) (cells slots : Nat) (Z : State → Prop) (cI : Nat → ClassId) (ad : Nat → Nat) (D : va_G) (A : Nat → Prop),
    Γ (p, l, e, R, s, m, args, below, meth, c, cells, slots, Z, cI, ad, D, A) → l = l0 ∧ d + 1 ≤ R.frames ∧ 8 + (nL + 11) + 35 * d ≤ R.locals ∧ cells ≤ R.cells ∧ slots ≤ R.slots
theorem ow_rm_in {l0 : Launch} {d d2 nL2 : Nat} {rt : Option FieldType} {Q : Option Value → ow_M → Prop} (h : Nat.ble (d2 + 1) d = true) (hl : Nat.ble nL2 16 = true) : ow_rmOk (ow_Γ l0 d rt Q) l0 d2 nL2 := by
  intro p l e R s m args below meth c cells slots Z cI ad D A hΓ
  obtain ⟨h1, h2, h3, h4, -⟩ := hΓ
  subst h2; subst h3; subst h4
  have a := Nat.le_of_ble_eq_true h
  have b := Nat.le_of_ble_eq_true hl
  exact ⟨h1, a, by show 8 + (nL2 + 11) + 35 * d2 ≤ 35 * d; omega, Nat.le_refl _, Nat.le_refl _⟩
theorem ow_good {y : MethodName} {cc : ByteArray} {nL : Nat} {rt : Option FieldType} (h : Cond.code y cc nL rt ∈ ow_base) : GoodIn ow_base (ow_ws y cc nL rt) := by
  intro w hw
  have h1 : w ∈ ow_base := by
    rcases List.mem_cons.mp hw with e | e
    · rw [e]; exact h
    · exact e
  exact ⟨h1, good_of_word (List.mem_filter.mp h1).2⟩
theorem ow_rest {ad : Nat → Nat} {st : List Value} (h : (st.map fun v => v.category).sum ≤ 8) : ((st.map (ow_v ad)).map fun v => v.category).sum ≤ 8 := by
  rw [List.map_map]
  have e : ((fun v : Value => v.category) ∘ ow_v ad) = fun v => v.category := funext fun v => ow_v_cat ad v
  rw [e]
  exact h
theorem ow_cw {R : Room} {s : State} {args : Array Value} {own : String} {idx : Nat} {y : MethodName} {cc : ByteArray} {nL : Nat} {rt : Option FieldType} {stat : Bool} {n d : Nat} (hts : ∀ w ∈ ow_base, w.before args s = true) (ok : ow_okM y cc nL rt stat n) (hl : Cond.methodLink own idx y ∈ ow_base) (h1 : d + 1 ≤ R.frames) (h2 : 8 + (nL + 11) + 35 * d ≤ R.locals) : CallB R s args own idx y cc nL rt (ow_ws y cc nL rt) (ow_rm d) 0 0 n :=
  callB_of n hts (ow_good ok.1) rfl rfl rfl (hts _ ok.2.1) (hts _ hl) ⟨ok.2.2.1.1, ok.2.2.1.2, ok.2.2.2.1⟩ ⟨h1, h2⟩
theorem ow_cn {R : Room} {s : State} {args : Array Value} {own host : String} {idx : Nat} {y : MethodName} {cc : ByteArray} {nL : Nat} {rt : Option FieldType} {stat : Bool} {n d : Nat} (hts : ∀ w ∈ ow_base, w.before args s = true) (hN : ∀ w ∈ ow_nest, va_Nw w s) (ok : ow_okM y cc nL rt stat n) (hl : Cond.methodLinkNest own idx y host ∈ ow_nest) (h1 : d + 1 ≤ R.frames) (h2 : 8 + (nL + 11) + 35 * d ≤ R.locals) : va_CN R s args own idx y host cc nL rt (ow_ws y cc nL rt) (ow_rm d) 0 0 n :=
  va_cnB n hts (ow_good ok.1) rfl rfl rfl (hN _ hl) (hts _ ok.2.1) ⟨ok.2.2.1.1, ok.2.2.1.2, ok.2.2.2.1⟩ ⟨h1, h2⟩

/-! a row an instruction -/
theorem gw_iconst {Γ : ow_Cx → Prop} {own : String} {cc : ByteArray} {nL pc : Nat} {ls : List (Option Value)} {st : List Value} {M : ow_M} {n : Int} (v : Int32) (hd : decode cc pc = .ok (.iconst n, 1)) (hv : Int32.ofInt n = v) (k : ow_G Γ own cc nL (pc + 1) ls (.int v :: st) M) : ow_G Γ own cc nL pc ls st M := by
  intro p l e R s m args below meth c cells slots Z cI ad D A hΓ X H locs lsA hP hD hS hl
  exact lv_iconst X.1 X.2.1 hd hv (k p l e R s m args below meth c cells slots Z cI ad D A hΓ X H locs lsA hP hD hS hl)
theorem gw_bipush {Γ : ow_Cx → Prop} {own : String} {cc : ByteArray} {nL pc : Nat} {ls : List (Option Value)} {st : List Value} {M : ow_M} {n : Int} (v : Int32) (hd : decode cc pc = .ok (.bipush n, 2)) (hv : (Int8.ofInt n).toInt32 = v) (k : ow_G Γ own cc nL (pc + 2) ls (.int v :: st) M) : ow_G Γ own cc nL pc ls st M := by
  intro p l e R s m args below meth c cells slots Z cI ad D A hΓ X H locs lsA hP hD hS hl
  exact lv_bipush X.1 X.2.1 hd hv (k p l e R s m args below meth c cells slots Z cI ad D A hΓ X H locs lsA hP hD hS hl)
theorem gw_sipush {Γ : ow_Cx → Prop} {own : String} {cc : ByteArray} {nL pc : Nat} {ls : List (Option Value)} {st : List Value} {M : ow_M} {n : Int} (v : Int32) (hd : decode cc pc = .ok (.sipush n, 3)) (hv : (Int16.ofInt n).toInt32 = v) (k : ow_G Γ own cc nL (pc + 3) ls (.int v :: st) M) : ow_G Γ own cc nL pc ls st M := by
  intro p l e R s m args below meth c cells slots Z cI ad D A hΓ X H locs lsA hP hD hS hl
  exact lv_sipush X.1 X.2.1 hd hv (k p l e R s m args below meth c cells slots Z cI ad D A hΓ X H locs lsA hP hD hS hl)
theorem gw_lconst {Γ : ow_Cx → Prop} {own : String} {cc : ByteArray} {nL pc : Nat} {ls : List (Option Value)} {st : List Value} {M : ow_M} {n : Fin 2} (v : Int64) (hd : decode cc pc = .ok (.lconst n, 1)) (hv : Int64.ofNat (n : Nat) = v) (k : ow_G Γ own cc nL (pc + 1) ls (.long v :: st) M) : ow_G Γ own cc nL pc ls st M := by
  intro p l e R s m args below meth c cells slots Z cI ad D A hΓ X H locs lsA hP hD hS hl
  exact lv_lconst X.1 X.2.1 hd hv (k p l e R s m args below meth c cells slots Z cI ad D A hΓ X H locs lsA hP hD hS hl)
theorem gw_ldc2 {Γ : ow_Cx → Prop} {own : String} {cc : ByteArray} {nL pc : Nat} {ls : List (Option Value)} {st : List Value} {M : ow_M} {n : Nat} {v : Int64} (hw : Cond.constantLong own n v ∈ ow_base) (hd : decode cc pc = .ok (.ldc2_w n, 3)) (k : ow_G Γ own cc nL (pc + 3) ls (.long v :: st) M) : ow_G Γ own cc nL pc ls st M := by
  intro p l e R s m args below meth c cells slots Z cI ad D A hΓ X H locs lsA hP hD hS hl
  exact W.ldc2 X.1 X.2.1 X.2.2.2.1 (X.2.2.2.2.1 _ hw) rfl hd (k p l e R s m args below meth c cells slots Z cI ad D A hΓ X H locs lsA hP hD hS hl)
theorem gw_iadd {Γ : ow_Cx → Prop} {own : String} {cc : ByteArray} {nL pc : Nat} {ls : List (Option Value)} {st : List Value} {M : ow_M} {x y : Int32} (hd : decode cc pc = .ok (.iadd, 1)) (k : ow_G Γ own cc nL (pc + 1) ls (.int (x + y) :: st) M) : ow_G Γ own cc nL pc ls (.int y :: .int x :: st) M := by
  intro p l e R s m args below meth c cells slots Z cI ad D A hΓ X H locs lsA hP hD hS hl
  exact lv_iadd X.1 X.2.1 hd (k p l e R s m args below meth c cells slots Z cI ad D A hΓ X H locs lsA hP hD hS hl)
theorem gw_isub {Γ : ow_Cx → Prop} {own : String} {cc : ByteArray} {nL pc : Nat} {ls : List (Option Value)} {st : List Value} {M : ow_M} {x y : Int32} (hd : decode cc pc = .ok (.isub, 1)) (k : ow_G Γ own cc nL (pc + 1) ls (.int (x - y) :: st) M) : ow_G Γ own cc nL pc ls (.int y :: .int x :: st) M := by
  intro p l e R s m args below meth c cells slots Z cI ad D A hΓ X H locs lsA hP hD hS hl
  exact lv_isub X.1 X.2.1 hd (k p l e R s m args below meth c cells slots Z cI ad D A hΓ X H locs lsA hP hD hS hl)
theorem gw_imul {Γ : ow_Cx → Prop} {own : String} {cc : ByteArray} {nL pc : Nat} {ls : List (Option Value)} {st : List Value} {M : ow_M} {x y : Int32} (hd : decode cc pc = .ok (.imul, 1)) (k : ow_G Γ own cc nL (pc + 1) ls (.int (x * y) :: st) M) : ow_G Γ own cc nL pc ls (.int y :: .int x :: st) M := by
  intro p l e R s m args below meth c cells slots Z cI ad D A hΓ X H locs lsA hP hD hS hl
  exact lv_imul X.1 X.2.1 hd (k p l e R s m args below meth c cells slots Z cI ad D A hΓ X H locs lsA hP hD hS hl)
theorem gw_iand {Γ : ow_Cx → Prop} {own : String} {cc : ByteArray} {nL pc : Nat} {ls : List (Option Value)} {st : List Value} {M : ow_M} {x y : Int32} (hd : decode cc pc = .ok (.iand, 1)) (k : ow_G Γ own cc nL (pc + 1) ls (.int (x &&& y) :: st) M) : ow_G Γ own cc nL pc ls (.int y :: .int x :: st) M := by
  intro p l e R s m args below meth c cells slots Z cI ad D A hΓ X H locs lsA hP hD hS hl
  exact lv_iand X.1 X.2.1 hd (k p l e R s m args below meth c cells slots Z cI ad D A hΓ X H locs lsA hP hD hS hl)
theorem gw_ior {Γ : ow_Cx → Prop} {own : String} {cc : ByteArray} {nL pc : Nat} {ls : List (Option Value)} {st : List Value} {M : ow_M} {x y : Int32} (hd : decode cc pc = .ok (.ior, 1)) (k : ow_G Γ own cc nL (pc + 1) ls (.int (x ||| y) :: st) M) : ow_G Γ own cc nL pc ls (.int y :: .int x :: st) M := by
  intro p l e R s m args below meth c cells slots Z cI ad D A hΓ X H locs lsA hP hD hS hl
  exact lv_ior X.1 X.2.1 hd (k p l e R s m args below meth c cells slots Z cI ad D A hΓ X H locs lsA hP hD hS hl)
theorem gw_ixor {Γ : ow_Cx → Prop} {own : String} {cc : ByteArray} {nL pc : Nat} {ls : List (Option Value)} {st : List Value} {M : ow_M} {x y : Int32} (hd : decode cc pc = .ok (.ixor, 1)) (k : ow_G Γ own cc nL (pc + 1) ls (.int (x ^^^ y) :: st) M) : ow_G Γ own cc nL pc ls (.int y :: .int x :: st) M := by
  intro p l e R s m args below meth c cells slots Z cI ad D A hΓ X H locs lsA hP hD hS hl
  exact lv_ixor X.1 X.2.1 hd (k p l e R s m args below meth c cells slots Z cI ad D A hΓ X H locs lsA hP hD hS hl)
theorem gw_ishl {Γ : ow_Cx → Prop} {own : String} {cc : ByteArray} {nL pc : Nat} {ls : List (Option Value)} {st : List Value} {M : ow_M} {x y : Int32} (hd : decode cc pc = .ok (.ishl, 1)) (k : ow_G Γ own cc nL (pc + 1) ls (.int (x <<< (y &&& 31)) :: st) M) : ow_G Γ own cc nL pc ls (.int y :: .int x :: st) M := by
  intro p l e R s m args below meth c cells slots Z cI ad D A hΓ X H locs lsA hP hD hS hl
  exact lv_ishl X.1 X.2.1 hd (k p l e R s m args below meth c cells slots Z cI ad D A hΓ X H locs lsA hP hD hS hl)
theorem gw_ishr {Γ : ow_Cx → Prop} {own : String} {cc : ByteArray} {nL pc : Nat} {ls : List (Option Value)} {st : List Value} {M : ow_M} {x y : Int32} (hd : decode cc pc = .ok (.ishr, 1)) (k : ow_G Γ own cc nL (pc + 1) ls (.int (x >>> (y &&& 31)) :: st) M) : ow_G Γ own cc nL pc ls (.int y :: .int x :: st) M := by
  intro p l e R s m args below meth c cells slots Z cI ad D A hΓ X H locs lsA hP hD hS hl
  exact lv_ishr X.1 X.2.1 hd (k p l e R s m args below meth c cells slots Z cI ad D A hΓ X H locs lsA hP hD hS hl)
theorem gw_idiv {Γ : ow_Cx → Prop} {own : String} {cc : ByteArray} {nL pc : Nat} {ls : List (Option Value)} {st : List Value} {M : ow_M} {x y : Int32} (hne : ¬ y = 0) (hd : decode cc pc = .ok (.idiv, 1)) (k : ow_G Γ own cc nL (pc + 1) ls (.int (x / y) :: st) M) : ow_G Γ own cc nL pc ls (.int y :: .int x :: st) M := by
  intro p l e R s m args below meth c cells slots Z cI ad D A hΓ X H locs lsA hP hD hS hl
  exact lv_idiv X.1 X.2.1 hd hne (k p l e R s m args below meth c cells slots Z cI ad D A hΓ X H locs lsA hP hD hS hl)
theorem gw_irem {Γ : ow_Cx → Prop} {own : String} {cc : ByteArray} {nL pc : Nat} {ls : List (Option Value)} {st : List Value} {M : ow_M} {x y : Int32} (hne : ¬ y = 0) (hd : decode cc pc = .ok (.irem, 1)) (k : ow_G Γ own cc nL (pc + 1) ls (.int (x - x / y * y) :: st) M) : ow_G Γ own cc nL pc ls (.int y :: .int x :: st) M := by
  intro p l e R s m args below meth c cells slots Z cI ad D A hΓ X H locs lsA hP hD hS hl
  exact lv_irem X.1 X.2.1 hd hne (k p l e R s m args below meth c cells slots Z cI ad D A hΓ X H locs lsA hP hD hS hl)
theorem gw_ladd {Γ : ow_Cx → Prop} {own : String} {cc : ByteArray} {nL pc : Nat} {ls : List (Option Value)} {st : List Value} {M : ow_M} {x y : Int64} (hd : decode cc pc = .ok (.ladd, 1)) (k : ow_G Γ own cc nL (pc + 1) ls (.long (x + y) :: st) M) : ow_G Γ own cc nL pc ls (.long y :: .long x :: st) M := by
  intro p l e R s m args below meth c cells slots Z cI ad D A hΓ X H locs lsA hP hD hS hl
  exact lv_ladd X.1 X.2.1 hd (k p l e R s m args below meth c cells slots Z cI ad D A hΓ X H locs lsA hP hD hS hl)
theorem gw_lsub {Γ : ow_Cx → Prop} {own : String} {cc : ByteArray} {nL pc : Nat} {ls : List (Option Value)} {st : List Value} {M : ow_M} {x y : Int64} (hd : decode cc pc = .ok (.lsub, 1)) (k : ow_G Γ own cc nL (pc + 1) ls (.long (x - y) :: st) M) : ow_G Γ own cc nL pc ls (.long y :: .long x :: st) M := by
  intro p l e R s m args below meth c cells slots Z cI ad D A hΓ X H locs lsA hP hD hS hl
  exact lv_lsub X.1 X.2.1 hd (k p l e R s m args below meth c cells slots Z cI ad D A hΓ X H locs lsA hP hD hS hl)
theorem gw_lmul {Γ : ow_Cx → Prop} {own : String} {cc : ByteArray} {nL pc : Nat} {ls : List (Option Value)} {st : List Value} {M : ow_M} {x y : Int64} (hd : decode cc pc = .ok (.lmul, 1)) (k : ow_G Γ own cc nL (pc + 1) ls (.long (x * y) :: st) M) : ow_G Γ own cc nL pc ls (.long y :: .long x :: st) M := by
  intro p l e R s m args below meth c cells slots Z cI ad D A hΓ X H locs lsA hP hD hS hl
  exact lv_lmul X.1 X.2.1 hd (k p l e R s m args below meth c cells slots Z cI ad D A hΓ X H locs lsA hP hD hS hl)
theorem gw_land {Γ : ow_Cx → Prop} {own : String} {cc : ByteArray} {nL pc : Nat} {ls : List (Option Value)} {st : List Value} {M : ow_M} {x y : Int64} (hd : decode cc pc = .ok (.land, 1)) (k : ow_G Γ own cc nL (pc + 1) ls (.long (x &&& y) :: st) M) : ow_G Γ own cc nL pc ls (.long y :: .long x :: st) M := by
  intro p l e R s m args below meth c cells slots Z cI ad D A hΓ X H locs lsA hP hD hS hl
  exact t_land X.1 X.2.1 hd rfl (k p l e R s m args below meth c cells slots Z cI ad D A hΓ X H locs lsA hP hD hS hl)
theorem gw_lor {Γ : ow_Cx → Prop} {own : String} {cc : ByteArray} {nL pc : Nat} {ls : List (Option Value)} {st : List Value} {M : ow_M} {x y : Int64} (hd : decode cc pc = .ok (.lor, 1)) (k : ow_G Γ own cc nL (pc + 1) ls (.long (x ||| y) :: st) M) : ow_G Γ own cc nL pc ls (.long y :: .long x :: st) M := by
  intro p l e R s m args below meth c cells slots Z cI ad D A hΓ X H locs lsA hP hD hS hl
  exact t_lor X.1 X.2.1 hd rfl (k p l e R s m args below meth c cells slots Z cI ad D A hΓ X H locs lsA hP hD hS hl)
theorem gw_ldiv {Γ : ow_Cx → Prop} {own : String} {cc : ByteArray} {nL pc : Nat} {ls : List (Option Value)} {st : List Value} {M : ow_M} {x y : Int64} (hne : ¬ y = 0) (hd : decode cc pc = .ok (.ldiv, 1)) (k : ow_G Γ own cc nL (pc + 1) ls (.long (x / y) :: st) M) : ow_G Γ own cc nL pc ls (.long y :: .long x :: st) M := by
  intro p l e R s m args below meth c cells slots Z cI ad D A hΓ X H locs lsA hP hD hS hl
  exact lv_ldiv X.1 X.2.1 hd hne (k p l e R s m args below meth c cells slots Z cI ad D A hΓ X H locs lsA hP hD hS hl)
theorem gw_lrem {Γ : ow_Cx → Prop} {own : String} {cc : ByteArray} {nL pc : Nat} {ls : List (Option Value)} {st : List Value} {M : ow_M} {x y : Int64} (hne : ¬ y = 0) (hd : decode cc pc = .ok (.lrem, 1)) (k : ow_G Γ own cc nL (pc + 1) ls (.long (x - x / y * y) :: st) M) : ow_G Γ own cc nL pc ls (.long y :: .long x :: st) M := by
  intro p l e R s m args below meth c cells slots Z cI ad D A hΓ X H locs lsA hP hD hS hl
  exact lv_lrem X.1 X.2.1 hd hne (k p l e R s m args below meth c cells slots Z cI ad D A hΓ X H locs lsA hP hD hS hl)
theorem gw_lshl {Γ : ow_Cx → Prop} {own : String} {cc : ByteArray} {nL pc : Nat} {ls : List (Option Value)} {st : List Value} {M : ow_M} {x : Int64} {y : Int32} (hd : decode cc pc = .ok (.lshl, 1)) (k : ow_G Γ own cc nL (pc + 1) ls (.long (x <<< (y.toInt64 &&& 63)) :: st) M) : ow_G Γ own cc nL pc ls (.int y :: .long x :: st) M := by
  intro p l e R s m args below meth c cells slots Z cI ad D A hΓ X H locs lsA hP hD hS hl
  exact lv_lshl X.1 X.2.1 hd rfl (k p l e R s m args below meth c cells slots Z cI ad D A hΓ X H locs lsA hP hD hS hl)
theorem gw_i2l {Γ : ow_Cx → Prop} {own : String} {cc : ByteArray} {nL pc : Nat} {ls : List (Option Value)} {st : List Value} {M : ow_M} {x : Int32} (hd : decode cc pc = .ok (.i2l, 1)) (k : ow_G Γ own cc nL (pc + 1) ls (.long x.toInt64 :: st) M) : ow_G Γ own cc nL pc ls (.int x :: st) M := by
  intro p l e R s m args below meth c cells slots Z cI ad D A hΓ X H locs lsA hP hD hS hl
  exact lv_i2l X.1 X.2.1 hd rfl (k p l e R s m args below meth c cells slots Z cI ad D A hΓ X H locs lsA hP hD hS hl)
theorem gw_i2b {Γ : ow_Cx → Prop} {own : String} {cc : ByteArray} {nL pc : Nat} {ls : List (Option Value)} {st : List Value} {M : ow_M} {x : Int32} (hd : decode cc pc = .ok (.i2b, 1)) (k : ow_G Γ own cc nL (pc + 1) ls (.int x.toInt8.toInt32 :: st) M) : ow_G Γ own cc nL pc ls (.int x :: st) M := by
  intro p l e R s m args below meth c cells slots Z cI ad D A hΓ X H locs lsA hP hD hS hl
  exact lv_i2b X.1 X.2.1 hd rfl (k p l e R s m args below meth c cells slots Z cI ad D A hΓ X H locs lsA hP hD hS hl)
theorem gw_i2s {Γ : ow_Cx → Prop} {own : String} {cc : ByteArray} {nL pc : Nat} {ls : List (Option Value)} {st : List Value} {M : ow_M} {x : Int32} (hd : decode cc pc = .ok (.i2s, 1)) (k : ow_G Γ own cc nL (pc + 1) ls (.int x.toInt16.toInt32 :: st) M) : ow_G Γ own cc nL pc ls (.int x :: st) M := by
  intro p l e R s m args below meth c cells slots Z cI ad D A hΓ X H locs lsA hP hD hS hl
  exact lv_i2s X.1 X.2.1 hd rfl (k p l e R s m args below meth c cells slots Z cI ad D A hΓ X H locs lsA hP hD hS hl)
theorem gw_lcmp {Γ : ow_Cx → Prop} {own : String} {cc : ByteArray} {nL pc : Nat} {ls : List (Option Value)} {st : List Value} {M : ow_M} {x y : Int64} (hd : decode cc pc = .ok (.lcmp, 1)) (k : ow_G Γ own cc nL (pc + 1) ls (.int (lg_cmp x y) :: st) M) : ow_G Γ own cc nL pc ls (.long y :: .long x :: st) M := by
  intro p l e R s m args below meth c cells slots Z cI ad D A hΓ X H locs lsA hP hD hS hl
  exact W.lcmp X.1 X.2.1 hd (k p l e R s m args below meth c cells slots Z cI ad D A hΓ X H locs lsA hP hD hS hl)
theorem gw_dup {Γ : ow_Cx → Prop} {own : String} {cc : ByteArray} {nL pc : Nat} {ls : List (Option Value)} {st : List Value} {M : ow_M} {v : Value} (hv : v.category = 1) (hd : decode cc pc = .ok (.dup, 1)) (k : ow_G Γ own cc nL (pc + 1) ls (v :: v :: st) M) : ow_G Γ own cc nL pc ls (v :: st) M := by
  intro p l e R s m args below meth c cells slots Z cI ad D A hΓ X H locs lsA hP hD hS hl
  exact lv_dup X.1 X.2.1 hd (by rw [ow_v_cat]; exact hv) (k p l e R s m args below meth c cells slots Z cI ad D A hΓ X H locs lsA hP hD hS hl)
theorem gw_dup2 {Γ : ow_Cx → Prop} {own : String} {cc : ByteArray} {nL pc : Nat} {ls : List (Option Value)} {st : List Value} {M : ow_M} {v u : Value} (hv : v.category = 1) (hu : u.category = 1) (hd : decode cc pc = .ok (.dup2, 1)) (k : ow_G Γ own cc nL (pc + 1) ls (v :: u :: v :: u :: st) M) : ow_G Γ own cc nL pc ls (v :: u :: st) M := by
  intro p l e R s m args below meth c cells slots Z cI ad D A hΓ X H locs lsA hP hD hS hl
  exact lv_dup2_11 X.1 X.2.1 hd (by rw [ow_v_cat]; exact hv) (by rw [ow_v_cat]; exact hu) (k p l e R s m args below meth c cells slots Z cI ad D A hΓ X H locs lsA hP hD hS hl)
theorem gw_goto {Γ : ow_Cx → Prop} {own : String} {cc : ByteArray} {nL pc : Nat} {ls : List (Option Value)} {st : List Value} {M : ow_M} {off : Int} {tgt : Nat} (ht : (pc : Int) + off = (tgt : Int)) (hd : decode cc pc = .ok (.goto off, 3)) (k : ow_G Γ own cc nL tgt ls st M) : ow_G Γ own cc nL pc ls st M := by
  intro p l e R s m args below meth c cells slots Z cI ad D A hΓ X H locs lsA hP hD hS hl
  exact lv_goto X.1 X.2.1 hd ht (k p l e R s m args below meth c cells slots Z cI ad D A hΓ X H locs lsA hP hD hS hl)
theorem gw_if_eq {Γ : ow_Cx → Prop} {own : String} {cc : ByteArray} {nL pc : Nat} {ls : List (Option Value)} {st : List Value} {M : ow_M} {tgt : Nat} {off : Int} {x : Int32} (hd : decode cc pc = .ok (.ifCond .eq off, 3)) (ht : (pc : Int) + off = (tgt : Int)) (kt : x = 0 → ow_G Γ own cc nL tgt ls st M) (kf : ¬ x = 0 → ow_G Γ own cc nL (pc + 3) ls st M) : ow_G Γ own cc nL pc ls (.int x :: st) M := by
  intro p l e R s m args below meth c cells slots Z cI ad D A hΓ X H locs lsA hP hD hS hl
  exact lv_if_eq X.1 X.2.1 hd ht (fun q => kt q p l e R s m args below meth c cells slots Z cI ad D A hΓ X H locs lsA hP hD hS hl) (fun q => kf q p l e R s m args below meth c cells slots Z cI ad D A hΓ X H locs lsA hP hD hS hl)
theorem gw_icmp_eq {Γ : ow_Cx → Prop} {own : String} {cc : ByteArray} {nL pc : Nat} {ls : List (Option Value)} {st : List Value} {M : ow_M} {tgt : Nat} {off : Int} {x y : Int32} (hd : decode cc pc = .ok (.if_icmp .eq off, 3)) (ht : (pc : Int) + off = (tgt : Int)) (kt : x = y → ow_G Γ own cc nL tgt ls st M) (kf : ¬ x = y → ow_G Γ own cc nL (pc + 3) ls st M) : ow_G Γ own cc nL pc ls (.int y :: .int x :: st) M := by
  intro p l e R s m args below meth c cells slots Z cI ad D A hΓ X H locs lsA hP hD hS hl
  exact lv_icmp_eq X.1 X.2.1 hd ht (fun q => kt q p l e R s m args below meth c cells slots Z cI ad D A hΓ X H locs lsA hP hD hS hl) (fun q => kf q p l e R s m args below meth c cells slots Z cI ad D A hΓ X H locs lsA hP hD hS hl)
theorem gw_if_ne {Γ : ow_Cx → Prop} {own : String} {cc : ByteArray} {nL pc : Nat} {ls : List (Option Value)} {st : List Value} {M : ow_M} {tgt : Nat} {off : Int} {x : Int32} (hd : decode cc pc = .ok (.ifCond .ne off, 3)) (ht : (pc : Int) + off = (tgt : Int)) (kt : ¬ x = 0 → ow_G Γ own cc nL tgt ls st M) (kf : x = 0 → ow_G Γ own cc nL (pc + 3) ls st M) : ow_G Γ own cc nL pc ls (.int x :: st) M := by
  intro p l e R s m args below meth c cells slots Z cI ad D A hΓ X H locs lsA hP hD hS hl
  exact lv_if_ne X.1 X.2.1 hd ht (fun q => kt q p l e R s m args below meth c cells slots Z cI ad D A hΓ X H locs lsA hP hD hS hl) (fun q => kf q p l e R s m args below meth c cells slots Z cI ad D A hΓ X H locs lsA hP hD hS hl)
theorem gw_icmp_ne {Γ : ow_Cx → Prop} {own : String} {cc : ByteArray} {nL pc : Nat} {ls : List (Option Value)} {st : List Value} {M : ow_M} {tgt : Nat} {off : Int} {x y : Int32} (hd : decode cc pc = .ok (.if_icmp .ne off, 3)) (ht : (pc : Int) + off = (tgt : Int)) (kt : ¬ x = y → ow_G Γ own cc nL tgt ls st M) (kf : x = y → ow_G Γ own cc nL (pc + 3) ls st M) : ow_G Γ own cc nL pc ls (.int y :: .int x :: st) M := by
  intro p l e R s m args below meth c cells slots Z cI ad D A hΓ X H locs lsA hP hD hS hl
  exact lv_icmp_ne X.1 X.2.1 hd ht (fun q => kt q p l e R s m args below meth c cells slots Z cI ad D A hΓ X H locs lsA hP hD hS hl) (fun q => kf q p l e R s m args below meth c cells slots Z cI ad D A hΓ X H locs lsA hP hD hS hl)
theorem gw_if_lt {Γ : ow_Cx → Prop} {own : String} {cc : ByteArray} {nL pc : Nat} {ls : List (Option Value)} {st : List Value} {M : ow_M} {tgt : Nat} {off : Int} {x : Int32} (hd : decode cc pc = .ok (.ifCond .lt off, 3)) (ht : (pc : Int) + off = (tgt : Int)) (kt : x < 0 → ow_G Γ own cc nL tgt ls st M) (kf : ¬ x < 0 → ow_G Γ own cc nL (pc + 3) ls st M) : ow_G Γ own cc nL pc ls (.int x :: st) M := by
  intro p l e R s m args below meth c cells slots Z cI ad D A hΓ X H locs lsA hP hD hS hl
  exact lv_if_lt X.1 X.2.1 hd ht (fun q => kt q p l e R s m args below meth c cells slots Z cI ad D A hΓ X H locs lsA hP hD hS hl) (fun q => kf q p l e R s m args below meth c cells slots Z cI ad D A hΓ X H locs lsA hP hD hS hl)
theorem gw_icmp_lt {Γ : ow_Cx → Prop} {own : String} {cc : ByteArray} {nL pc : Nat} {ls : List (Option Value)} {st : List Value} {M : ow_M} {tgt : Nat} {off : Int} {x y : Int32} (hd : decode cc pc = .ok (.if_icmp .lt off, 3)) (ht : (pc : Int) + off = (tgt : Int)) (kt : x < y → ow_G Γ own cc nL tgt ls st M) (kf : ¬ x < y → ow_G Γ own cc nL (pc + 3) ls st M) : ow_G Γ own cc nL pc ls (.int y :: .int x :: st) M := by
  intro p l e R s m args below meth c cells slots Z cI ad D A hΓ X H locs lsA hP hD hS hl
  exact lv_icmp_lt X.1 X.2.1 hd ht (fun q => kt q p l e R s m args below meth c cells slots Z cI ad D A hΓ X H locs lsA hP hD hS hl) (fun q => kf q p l e R s m args below meth c cells slots Z cI ad D A hΓ X H locs lsA hP hD hS hl)
theorem gw_if_ge {Γ : ow_Cx → Prop} {own : String} {cc : ByteArray} {nL pc : Nat} {ls : List (Option Value)} {st : List Value} {M : ow_M} {tgt : Nat} {off : Int} {x : Int32} (hd : decode cc pc = .ok (.ifCond .ge off, 3)) (ht : (pc : Int) + off = (tgt : Int)) (kt : 0 ≤ x → ow_G Γ own cc nL tgt ls st M) (kf : ¬ 0 ≤ x → ow_G Γ own cc nL (pc + 3) ls st M) : ow_G Γ own cc nL pc ls (.int x :: st) M := by
  intro p l e R s m args below meth c cells slots Z cI ad D A hΓ X H locs lsA hP hD hS hl
  exact lv_if_ge X.1 X.2.1 hd ht (fun q => kt q p l e R s m args below meth c cells slots Z cI ad D A hΓ X H locs lsA hP hD hS hl) (fun q => kf q p l e R s m args below meth c cells slots Z cI ad D A hΓ X H locs lsA hP hD hS hl)
theorem gw_icmp_ge {Γ : ow_Cx → Prop} {own : String} {cc : ByteArray} {nL pc : Nat} {ls : List (Option Value)} {st : List Value} {M : ow_M} {tgt : Nat} {off : Int} {x y : Int32} (hd : decode cc pc = .ok (.if_icmp .ge off, 3)) (ht : (pc : Int) + off = (tgt : Int)) (kt : y ≤ x → ow_G Γ own cc nL tgt ls st M) (kf : ¬ y ≤ x → ow_G Γ own cc nL (pc + 3) ls st M) : ow_G Γ own cc nL pc ls (.int y :: .int x :: st) M := by
  intro p l e R s m args below meth c cells slots Z cI ad D A hΓ X H locs lsA hP hD hS hl
  exact lv_icmp_ge X.1 X.2.1 hd ht (fun q => kt q p l e R s m args below meth c cells slots Z cI ad D A hΓ X H locs lsA hP hD hS hl) (fun q => kf q p l e R s m args below meth c cells slots Z cI ad D A hΓ X H locs lsA hP hD hS hl)
theorem gw_if_gt {Γ : ow_Cx → Prop} {own : String} {cc : ByteArray} {nL pc : Nat} {ls : List (Option Value)} {st : List Value} {M : ow_M} {tgt : Nat} {off : Int} {x : Int32} (hd : decode cc pc = .ok (.ifCond .gt off, 3)) (ht : (pc : Int) + off = (tgt : Int)) (kt : 0 < x → ow_G Γ own cc nL tgt ls st M) (kf : ¬ 0 < x → ow_G Γ own cc nL (pc + 3) ls st M) : ow_G Γ own cc nL pc ls (.int x :: st) M := by
  intro p l e R s m args below meth c cells slots Z cI ad D A hΓ X H locs lsA hP hD hS hl
  exact lv_if_gt X.1 X.2.1 hd ht (fun q => kt q p l e R s m args below meth c cells slots Z cI ad D A hΓ X H locs lsA hP hD hS hl) (fun q => kf q p l e R s m args below meth c cells slots Z cI ad D A hΓ X H locs lsA hP hD hS hl)
theorem gw_icmp_gt {Γ : ow_Cx → Prop} {own : String} {cc : ByteArray} {nL pc : Nat} {ls : List (Option Value)} {st : List Value} {M : ow_M} {tgt : Nat} {off : Int} {x y : Int32} (hd : decode cc pc = .ok (.if_icmp .gt off, 3)) (ht : (pc : Int) + off = (tgt : Int)) (kt : y < x → ow_G Γ own cc nL tgt ls st M) (kf : ¬ y < x → ow_G Γ own cc nL (pc + 3) ls st M) : ow_G Γ own cc nL pc ls (.int y :: .int x :: st) M := by
  intro p l e R s m args below meth c cells slots Z cI ad D A hΓ X H locs lsA hP hD hS hl
  exact lv_icmp_gt X.1 X.2.1 hd ht (fun q => kt q p l e R s m args below meth c cells slots Z cI ad D A hΓ X H locs lsA hP hD hS hl) (fun q => kf q p l e R s m args below meth c cells slots Z cI ad D A hΓ X H locs lsA hP hD hS hl)
theorem gw_if_le {Γ : ow_Cx → Prop} {own : String} {cc : ByteArray} {nL pc : Nat} {ls : List (Option Value)} {st : List Value} {M : ow_M} {tgt : Nat} {off : Int} {x : Int32} (hd : decode cc pc = .ok (.ifCond .le off, 3)) (ht : (pc : Int) + off = (tgt : Int)) (kt : x ≤ 0 → ow_G Γ own cc nL tgt ls st M) (kf : ¬ x ≤ 0 → ow_G Γ own cc nL (pc + 3) ls st M) : ow_G Γ own cc nL pc ls (.int x :: st) M := by
  intro p l e R s m args below meth c cells slots Z cI ad D A hΓ X H locs lsA hP hD hS hl
  exact lv_if_le X.1 X.2.1 hd ht (fun q => kt q p l e R s m args below meth c cells slots Z cI ad D A hΓ X H locs lsA hP hD hS hl) (fun q => kf q p l e R s m args below meth c cells slots Z cI ad D A hΓ X H locs lsA hP hD hS hl)
theorem gw_icmp_le {Γ : ow_Cx → Prop} {own : String} {cc : ByteArray} {nL pc : Nat} {ls : List (Option Value)} {st : List Value} {M : ow_M} {tgt : Nat} {off : Int} {x y : Int32} (hd : decode cc pc = .ok (.if_icmp .le off, 3)) (ht : (pc : Int) + off = (tgt : Int)) (kt : x ≤ y → ow_G Γ own cc nL tgt ls st M) (kf : ¬ x ≤ y → ow_G Γ own cc nL (pc + 3) ls st M) : ow_G Γ own cc nL pc ls (.int y :: .int x :: st) M := by
  intro p l e R s m args below meth c cells slots Z cI ad D A hΓ X H locs lsA hP hD hS hl
  exact lv_icmp_le X.1 X.2.1 hd ht (fun q => kt q p l e R s m args below meth c cells slots Z cI ad D A hΓ X H locs lsA hP hD hS hl) (fun q => kf q p l e R s m args below meth c cells slots Z cI ad D A hΓ X H locs lsA hP hD hS hl)
theorem gw_tableIn {Γ : ow_Cx → Prop} {own : String} {cc : ByteArray} {nL pc : Nat} {ls : List (Option Value)} {st : List Value} {M : ow_M} {dflt lo hi : Int} {offs : Array Int} {len : Nat} {x : Int32} {off : Int} {tgt : Nat} (hd : decode cc pc = .ok (.tableswitch dflt lo hi offs, len)) (h1 : ¬ x.toInt < lo) (h2 : ¬ hi < x.toInt) (ho : offs[(x.toInt - lo).toNat]? = some off) (ht : (pc : Int) + off = (tgt : Int)) (k : ow_G Γ own cc nL tgt ls st M) : ow_G Γ own cc nL pc ls (.int x :: st) M := by
  intro p l e R s m args below meth c cells slots Z cI ad D A hΓ X H locs lsA hP hD hS hl
  exact lv_tableIn X.1 X.2.1 hd h1 h2 ho ht (k p l e R s m args below meth c cells slots Z cI ad D A hΓ X H locs lsA hP hD hS hl)
theorem gw_tableOut {Γ : ow_Cx → Prop} {own : String} {cc : ByteArray} {nL pc : Nat} {ls : List (Option Value)} {st : List Value} {M : ow_M} {dflt lo hi : Int} {offs : Array Int} {len : Nat} {x : Int32} {tgt : Nat} (hd : decode cc pc = .ok (.tableswitch dflt lo hi offs, len)) (h : x.toInt < lo ∨ hi < x.toInt) (ht : (pc : Int) + dflt = (tgt : Int)) (k : ow_G Γ own cc nL tgt ls st M) : ow_G Γ own cc nL pc ls (.int x :: st) M := by
  intro p l e R s m args below meth c cells slots Z cI ad D A hΓ X H locs lsA hP hD hS hl
  exact lv_tableOut X.1 X.2.1 hd h ht (k p l e R s m args below meth c cells slots Z cI ad D A hΓ X H locs lsA hP hD hS hl)
theorem gw_lookup {Γ : ow_Cx → Prop} {own : String} {cc : ByteArray} {nL pc : Nat} {ls : List (Option Value)} {st : List Value} {M : ow_M} {dflt : Int} {ps : Array (Int × Int)} {len : Nat} {x : Int32} {off : Int} {tgt : Nat} (hd : decode cc pc = .ok (.lookupswitch dflt ps, len)) (hp : (ps.toList.zip (ps.toList.drop 1)).all (fun (a, next) => a.1 < next.1) = true) (ho : Op.lookupswitch.offset ps.toList dflt x.toInt = off) (ht : (pc : Int) + off = (tgt : Int)) (k : ow_G Γ own cc nL tgt ls st M) : ow_G Γ own cc nL pc ls (.int x :: st) M := by
  intro p l e R s m args below meth c cells slots Z cI ad D A hΓ X H locs lsA hP hD hS hl
  exact lv_lookup X.1 X.2.1 hd hp ho ht (k p l e R s m args below meth c cells slots Z cI ad D A hΓ X H locs lsA hP hD hS hl)
theorem gw_iload_n {Γ : ow_Cx → Prop} {own : String} {cc : ByteArray} {nL pc : Nat} {ls : List (Option Value)} {st : List Value} {M : ow_M} {j : Fin 4} {i : Nat} {x : Int32} (hd : decode cc pc = .ok (.iload_n j, 1)) (hj : (j : Nat) = i) (h : ls[i]? = some (some (.int x))) (k : ow_G Γ own cc nL (pc + 1) ls (.int x :: st) M) : ow_G Γ own cc nL pc ls st M := by
  intro p l e R s m args below meth c cells slots Z cI ad D A hΓ X H locs lsA hP hD hS hl
  exact lv_iload_n X.1 X.2.1 hd hj (ow_at hl h) (k p l e R s m args below meth c cells slots Z cI ad D A hΓ X H locs lsA hP hD hS hl)
theorem gw_iload {Γ : ow_Cx → Prop} {own : String} {cc : ByteArray} {nL pc : Nat} {ls : List (Option Value)} {st : List Value} {M : ow_M} {i : Nat} {x : Int32} (hd : decode cc pc = .ok (.iload i, 2)) (h : ls[i]? = some (some (.int x))) (k : ow_G Γ own cc nL (pc + 2) ls (.int x :: st) M) : ow_G Γ own cc nL pc ls st M := by
  intro p l e R s m args below meth c cells slots Z cI ad D A hΓ X H locs lsA hP hD hS hl
  exact lv_iload X.1 X.2.1 hd (ow_at hl h) (k p l e R s m args below meth c cells slots Z cI ad D A hΓ X H locs lsA hP hD hS hl)
theorem gw_istore_n {Γ : ow_Cx → Prop} {own : String} {cc : ByteArray} {nL pc : Nat} {ls : List (Option Value)} {st : List Value} {M : ow_M} {j : Fin 4} {i : Nat} {x : Int32} (hd : decode cc pc = .ok (.istore_n j, 1)) (hj : (j : Nat) = i) (hn : i < nL) (hc : ow_c1 ls i = true) (k : ow_G Γ own cc nL (pc + 1) (ls.set i (some (.int x))) st M) : ow_G Γ own cc nL pc ls (.int x :: st) M := by
  intro p l e R s m args below meth c cells slots Z cI ad D A hΓ X H locs lsA hP hD hS hl
  exact lv_istore_n X.1 X.2.1 hd hj hl hn rfl (fun lsB hB => k p l e R s m args below meth c cells slots Z cI ad D A hΓ X H locs lsB hP hD hS (ow_has_mono hB (ow_set1 hc)))
theorem gw_istore {Γ : ow_Cx → Prop} {own : String} {cc : ByteArray} {nL pc : Nat} {ls : List (Option Value)} {st : List Value} {M : ow_M} {i : Nat} {x : Int32} (hd : decode cc pc = .ok (.istore i, 2)) (hn : i < nL) (hc : ow_c1 ls i = true) (k : ow_G Γ own cc nL (pc + 2) (ls.set i (some (.int x))) st M) : ow_G Γ own cc nL pc ls (.int x :: st) M := by
  intro p l e R s m args below meth c cells slots Z cI ad D A hΓ X H locs lsA hP hD hS hl
  exact lv_istore X.1 X.2.1 hd hl hn rfl (fun lsB hB => k p l e R s m args below meth c cells slots Z cI ad D A hΓ X H locs lsB hP hD hS (ow_has_mono hB (ow_set1 hc)))
theorem gw_lload_n {Γ : ow_Cx → Prop} {own : String} {cc : ByteArray} {nL pc : Nat} {ls : List (Option Value)} {st : List Value} {M : ow_M} {j : Fin 4} {i : Nat} {x : Int64} (hd : decode cc pc = .ok (.lload_n j, 1)) (hj : (j : Nat) = i) (h : ls[i]? = some (some (.long x))) (k : ow_G Γ own cc nL (pc + 1) ls (.long x :: st) M) : ow_G Γ own cc nL pc ls st M := by
  intro p l e R s m args below meth c cells slots Z cI ad D A hΓ X H locs lsA hP hD hS hl
  exact lv_lload_n X.1 X.2.1 hd hj (ow_at hl h) (k p l e R s m args below meth c cells slots Z cI ad D A hΓ X H locs lsA hP hD hS hl)
theorem gw_lload {Γ : ow_Cx → Prop} {own : String} {cc : ByteArray} {nL pc : Nat} {ls : List (Option Value)} {st : List Value} {M : ow_M} {i : Nat} {x : Int64} (hd : decode cc pc = .ok (.lload i, 2)) (h : ls[i]? = some (some (.long x))) (k : ow_G Γ own cc nL (pc + 2) ls (.long x :: st) M) : ow_G Γ own cc nL pc ls st M := by
  intro p l e R s m args below meth c cells slots Z cI ad D A hΓ X H locs lsA hP hD hS hl
  exact lv_lload X.1 X.2.1 hd (ow_at hl h) (k p l e R s m args below meth c cells slots Z cI ad D A hΓ X H locs lsA hP hD hS hl)
theorem gw_lstore_n {Γ : ow_Cx → Prop} {own : String} {cc : ByteArray} {nL pc : Nat} {ls : List (Option Value)} {st : List Value} {M : ow_M} {j : Fin 4} {i : Nat} {x : Int64} (hd : decode cc pc = .ok (.lstore_n j, 1)) (hj : (j : Nat) = i) (hn : i + 1 < nL) (hc : ow_c1 ls i = true) (k : ow_G Γ own cc nL (pc + 1) ((ls.set i (some (.long x))).set (i + 1) none) st M) : ow_G Γ own cc nL pc ls (.long x :: st) M := by
  intro p l e R s m args below meth c cells slots Z cI ad D A hΓ X H locs lsA hP hD hS hl
  exact lv_lstore_n X.1 X.2.1 hd hj hl hn rfl (fun lsB hB => k p l e R s m args below meth c cells slots Z cI ad D A hΓ X H locs lsB hP hD hS (ow_has_mono hB (ow_set2 hc)))
theorem gw_lstore {Γ : ow_Cx → Prop} {own : String} {cc : ByteArray} {nL pc : Nat} {ls : List (Option Value)} {st : List Value} {M : ow_M} {i : Nat} {x : Int64} (hd : decode cc pc = .ok (.lstore i, 2)) (hn : i + 1 < nL) (hc : ow_c1 ls i = true) (k : ow_G Γ own cc nL (pc + 2) ((ls.set i (some (.long x))).set (i + 1) none) st M) : ow_G Γ own cc nL pc ls (.long x :: st) M := by
  intro p l e R s m args below meth c cells slots Z cI ad D A hΓ X H locs lsA hP hD hS hl
  exact lv_lstore X.1 X.2.1 hd hl hn rfl (fun lsB hB => k p l e R s m args below meth c cells slots Z cI ad D A hΓ X H locs lsB hP hD hS (ow_has_mono hB (ow_set2 hc)))
theorem gw_aload_n {Γ : ow_Cx → Prop} {own : String} {cc : ByteArray} {nL pc : Nat} {ls : List (Option Value)} {st : List Value} {M : ow_M} {j : Fin 4} {i : Nat} {x : Nat} (hd : decode cc pc = .ok (.aload_n j, 1)) (hj : (j : Nat) = i) (h : ls[i]? = some (some (.ref x))) (k : ow_G Γ own cc nL (pc + 1) ls (.ref x :: st) M) : ow_G Γ own cc nL pc ls st M := by
  intro p l e R s m args below meth c cells slots Z cI ad D A hΓ X H locs lsA hP hD hS hl
  exact lv_aload_n X.1 X.2.1 hd hj (ow_at hl h) (k p l e R s m args below meth c cells slots Z cI ad D A hΓ X H locs lsA hP hD hS hl)
theorem gw_aload {Γ : ow_Cx → Prop} {own : String} {cc : ByteArray} {nL pc : Nat} {ls : List (Option Value)} {st : List Value} {M : ow_M} {i : Nat} {x : Nat} (hd : decode cc pc = .ok (.aload i, 2)) (h : ls[i]? = some (some (.ref x))) (k : ow_G Γ own cc nL (pc + 2) ls (.ref x :: st) M) : ow_G Γ own cc nL pc ls st M := by
  intro p l e R s m args below meth c cells slots Z cI ad D A hΓ X H locs lsA hP hD hS hl
  exact lv_aload X.1 X.2.1 hd (ow_at hl h) (k p l e R s m args below meth c cells slots Z cI ad D A hΓ X H locs lsA hP hD hS hl)
theorem gw_astore_n {Γ : ow_Cx → Prop} {own : String} {cc : ByteArray} {nL pc : Nat} {ls : List (Option Value)} {st : List Value} {M : ow_M} {j : Fin 4} {i : Nat} {x : Nat} (hd : decode cc pc = .ok (.astore_n j, 1)) (hj : (j : Nat) = i) (hn : i < nL) (hc : ow_c1 ls i = true) (k : ow_G Γ own cc nL (pc + 1) (ls.set i (some (.ref x))) st M) : ow_G Γ own cc nL pc ls (.ref x :: st) M := by
  intro p l e R s m args below meth c cells slots Z cI ad D A hΓ X H locs lsA hP hD hS hl
  exact lv_astore_n X.1 X.2.1 hd hj hl hn rfl (fun lsB hB => k p l e R s m args below meth c cells slots Z cI ad D A hΓ X H locs lsB hP hD hS (ow_has_mono hB (ow_set1 hc)))
theorem gw_astore {Γ : ow_Cx → Prop} {own : String} {cc : ByteArray} {nL pc : Nat} {ls : List (Option Value)} {st : List Value} {M : ow_M} {i : Nat} {x : Nat} (hd : decode cc pc = .ok (.astore i, 2)) (hn : i < nL) (hc : ow_c1 ls i = true) (k : ow_G Γ own cc nL (pc + 2) (ls.set i (some (.ref x))) st M) : ow_G Γ own cc nL pc ls (.ref x :: st) M := by
  intro p l e R s m args below meth c cells slots Z cI ad D A hΓ X H locs lsA hP hD hS hl
  exact lv_astore X.1 X.2.1 hd hl hn rfl (fun lsB hB => k p l e R s m args below meth c cells slots Z cI ad D A hΓ X H locs lsB hP hD hS (ow_has_mono hB (ow_set1 hc)))
theorem ow_at_k {ad : Nat → Nat} {ls : List (Option Value)} {i : Nat} {v : Value} (h : ls[i]? = some (some v)) : ∃ k : Nat, (ow_lv ad 0 ls)[k]? = some (i, ow_v ad v) := by
  have h1 := ow_lv_mem (ad := ad) (j := 0) h
  rw [Nat.zero_add] at h1
  exact List.mem_iff_getElem?.mp h1
theorem gw_iinc {Γ : ow_Cx → Prop} {own : String} {cc : ByteArray} {nL pc : Nat} {ls : List (Option Value)} {st : List Value} {M : ow_M} {i : Nat} {n : Int} {x : Int32} (v : Int32) (hd : decode cc pc = .ok (.iinc i n, 3)) (hn : i < nL) (hc : ow_c1 ls i = true) (h : ls[i]? = some (some (.int x))) (hv : x + Int32.ofInt n = v) (k : ow_G Γ own cc nL (pc + 3) (ls.set i (some (.int v))) st M) : ow_G Γ own cc nL pc ls st M := by
  intro p l e R s m args below meth c cells slots Z cI ad D A hΓ X H locs lsA hP hD hS hl
  obtain ⟨kk, hk⟩ := ow_at_k (ad := ad) h
  exact lv_iinc X.1 X.2.1 hd hl hk hv hn rfl (fun lsB hB => k p l e R s m args below meth c cells slots Z cI ad D A hΓ X H locs lsB hP hD hS (ow_has_mono hB (ow_set1 hc)))
theorem gw_iload0 {Γ : ow_Cx → Prop} {own : String} {cc : ByteArray} {nL pc : Nat} {st : List Value} {M : ow_M} {u : List (Option Value)} {x : Int32} (hd : decode cc pc = .ok (.iload_n 0, 1)) (k : ow_G Γ own cc nL (pc + 1) (some (.int x) :: u) (.int x :: st) M) : ow_G Γ own cc nL pc (some (.int x) :: u) st M := gw_iload_n (ls := (some (.int x) :: u)) hd rfl rfl k
theorem gw_istore0 {Γ : ow_Cx → Prop} {own : String} {cc : ByteArray} {nL pc : Nat} {st : List Value} {M : ow_M} {b0 : Option Value} {u : List (Option Value)} {x : Int32} (hd : decode cc pc = .ok (.istore_n 0, 1)) (hn : 0 < nL) (k : ow_G Γ own cc nL (pc + 1) (some (.int x) :: u) st M) : ow_G Γ own cc nL pc (b0 :: u) (.int x :: st) M := gw_istore_n (ls := (b0 :: u)) hd rfl hn rfl k
theorem gw_iload1 {Γ : ow_Cx → Prop} {own : String} {cc : ByteArray} {nL pc : Nat} {st : List Value} {M : ow_M} {a0 : Option Value} {u : List (Option Value)} {x : Int32} (hd : decode cc pc = .ok (.iload_n 1, 1)) (k : ow_G Γ own cc nL (pc + 1) (a0 :: some (.int x) :: u) (.int x :: st) M) : ow_G Γ own cc nL pc (a0 :: some (.int x) :: u) st M := gw_iload_n (ls := (a0 :: some (.int x) :: u)) hd rfl rfl k
theorem gw_istore1 {Γ : ow_Cx → Prop} {own : String} {cc : ByteArray} {nL pc : Nat} {st : List Value} {M : ow_M} {a0 : Option Value} {b0 : Option Value} {u : List (Option Value)} {x : Int32} (hd : decode cc pc = .ok (.istore_n 1, 1)) (hn : 1 < nL) (hc : ow_k1 a0 = true) (k : ow_G Γ own cc nL (pc + 1) (a0 :: some (.int x) :: u) st M) : ow_G Γ own cc nL pc (a0 :: b0 :: u) (.int x :: st) M := gw_istore_n (ls := (a0 :: b0 :: u)) hd rfl hn hc k
theorem gw_iload2 {Γ : ow_Cx → Prop} {own : String} {cc : ByteArray} {nL pc : Nat} {st : List Value} {M : ow_M} {a0 : Option Value} {a1 : Option Value} {u : List (Option Value)} {x : Int32} (hd : decode cc pc = .ok (.iload_n 2, 1)) (k : ow_G Γ own cc nL (pc + 1) (a0 :: a1 :: some (.int x) :: u) (.int x :: st) M) : ow_G Γ own cc nL pc (a0 :: a1 :: some (.int x) :: u) st M := gw_iload_n (ls := (a0 :: a1 :: some (.int x) :: u)) hd rfl rfl k
theorem gw_istore2 {Γ : ow_Cx → Prop} {own : String} {cc : ByteArray} {nL pc : Nat} {st : List Value} {M : ow_M} {a0 : Option Value} {a1 : Option Value} {b0 : Option Value} {u : List (Option Value)} {x : Int32} (hd : decode cc pc = .ok (.istore_n 2, 1)) (hn : 2 < nL) (hc : ow_k1 a1 = true) (k : ow_G Γ own cc nL (pc + 1) (a0 :: a1 :: some (.int x) :: u) st M) : ow_G Γ own cc nL pc (a0 :: a1 :: b0 :: u) (.int x :: st) M := gw_istore_n (ls := (a0 :: a1 :: b0 :: u)) hd rfl hn hc k
theorem gw_iload3 {Γ : ow_Cx → Prop} {own : String} {cc : ByteArray} {nL pc : Nat} {st : List Value} {M : ow_M} {a0 : Option Value} {a1 : Option Value} {a2 : Option Value} {u : List (Option Value)} {x : Int32} (hd : decode cc pc = .ok (.iload_n 3, 1)) (k : ow_G Γ own cc nL (pc + 1) (a0 :: a1 :: a2 :: some (.int x) :: u) (.int x :: st) M) : ow_G Γ own cc nL pc (a0 :: a1 :: a2 :: some (.int x) :: u) st M := gw_iload_n (ls := (a0 :: a1 :: a2 :: some (.int x) :: u)) hd rfl rfl k
theorem gw_istore3 {Γ : ow_Cx → Prop} {own : String} {cc : ByteArray} {nL pc : Nat} {st : List Value} {M : ow_M} {a0 : Option Value} {a1 : Option Value} {a2 : Option Value} {b0 : Option Value} {u : List (Option Value)} {x : Int32} (hd : decode cc pc = .ok (.istore_n 3, 1)) (hn : 3 < nL) (hc : ow_k1 a2 = true) (k : ow_G Γ own cc nL (pc + 1) (a0 :: a1 :: a2 :: some (.int x) :: u) st M) : ow_G Γ own cc nL pc (a0 :: a1 :: a2 :: b0 :: u) (.int x :: st) M := gw_istore_n (ls := (a0 :: a1 :: a2 :: b0 :: u)) hd rfl hn hc k
theorem gw_iload4 {Γ : ow_Cx → Prop} {own : String} {cc : ByteArray} {nL pc : Nat} {st : List Value} {M : ow_M} {a0 : Option Value} {a1 : Option Value} {a2 : Option Value} {a3 : Option Value} {u : List (Option Value)} {x : Int32} (hd : decode cc pc = .ok (.iload 4, 2)) (k : ow_G Γ own cc nL (pc + 2) (a0 :: a1 :: a2 :: a3 :: some (.int x) :: u) (.int x :: st) M) : ow_G Γ own cc nL pc (a0 :: a1 :: a2 :: a3 :: some (.int x) :: u) st M := gw_iload (ls := (a0 :: a1 :: a2 :: a3 :: some (.int x) :: u)) hd rfl k
theorem gw_istore4 {Γ : ow_Cx → Prop} {own : String} {cc : ByteArray} {nL pc : Nat} {st : List Value} {M : ow_M} {a0 : Option Value} {a1 : Option Value} {a2 : Option Value} {a3 : Option Value} {b0 : Option Value} {u : List (Option Value)} {x : Int32} (hd : decode cc pc = .ok (.istore 4, 2)) (hn : 4 < nL) (hc : ow_k1 a3 = true) (k : ow_G Γ own cc nL (pc + 2) (a0 :: a1 :: a2 :: a3 :: some (.int x) :: u) st M) : ow_G Γ own cc nL pc (a0 :: a1 :: a2 :: a3 :: b0 :: u) (.int x :: st) M := gw_istore (ls := (a0 :: a1 :: a2 :: a3 :: b0 :: u)) hd hn hc k
theorem gw_iload5 {Γ : ow_Cx → Prop} {own : String} {cc : ByteArray} {nL pc : Nat} {st : List Value} {M : ow_M} {a0 : Option Value} {a1 : Option Value} {a2 : Option Value} {a3 : Option Value} {a4 : Option Value} {u : List (Option Value)} {x : Int32} (hd : decode cc pc = .ok (.iload 5, 2)) (k : ow_G Γ own cc nL (pc + 2) (a0 :: a1 :: a2 :: a3 :: a4 :: some (.int x) :: u) (.int x :: st) M) : ow_G Γ own cc nL pc (a0 :: a1 :: a2 :: a3 :: a4 :: some (.int x) :: u) st M := gw_iload (ls := (a0 :: a1 :: a2 :: a3 :: a4 :: some (.int x) :: u)) hd rfl k
theorem gw_istore5 {Γ : ow_Cx → Prop} {own : String} {cc : ByteArray} {nL pc : Nat} {st : List Value} {M : ow_M} {a0 : Option Value} {a1 : Option Value} {a2 : Option Value} {a3 : Option Value} {a4 : Option Value} {b0 : Option Value} {u : List (Option Value)} {x : Int32} (hd : decode cc pc = .ok (.istore 5, 2)) (hn : 5 < nL) (hc : ow_k1 a4 = true) (k : ow_G Γ own cc nL (pc + 2) (a0 :: a1 :: a2 :: a3 :: a4 :: some (.int x) :: u) st M) : ow_G Γ own cc nL pc (a0 :: a1 :: a2 :: a3 :: a4 :: b0 :: u) (.int x :: st) M := gw_istore (ls := (a0 :: a1 :: a2 :: a3 :: a4 :: b0 :: u)) hd hn hc k
theorem gw_iload6 {Γ : ow_Cx → Prop} {own : String} {cc : ByteArray} {nL pc : Nat} {st : List Value} {M : ow_M} {a0 : Option Value} {a1 : Option Value} {a2 : Option Value} {a3 : Option Value} {a4 : Option Value} {a5 : Option Value} {u : List (Option Value)} {x : Int32} (hd : decode cc pc = .ok (.iload 6, 2)) (k : ow_G Γ own cc nL (pc + 2) (a0 :: a1 :: a2 :: a3 :: a4 :: a5 :: some (.int x) :: u) (.int x :: st) M) : ow_G Γ own cc nL pc (a0 :: a1 :: a2 :: a3 :: a4 :: a5 :: some (.int x) :: u) st M := gw_iload (ls := (a0 :: a1 :: a2 :: a3 :: a4 :: a5 :: some (.int x) :: u)) hd rfl k
theorem gw_istore6 {Γ : ow_Cx → Prop} {own : String} {cc : ByteArray} {nL pc : Nat} {st : List Value} {M : ow_M} {a0 : Option Value} {a1 : Option Value} {a2 : Option Value} {a3 : Option Value} {a4 : Option Value} {a5 : Option Value} {b0 : Option Value} {u : List (Option Value)} {x : Int32} (hd : decode cc pc = .ok (.istore 6, 2)) (hn : 6 < nL) (hc : ow_k1 a5 = true) (k : ow_G Γ own cc nL (pc + 2) (a0 :: a1 :: a2 :: a3 :: a4 :: a5 :: some (.int x) :: u) st M) : ow_G Γ own cc nL pc (a0 :: a1 :: a2 :: a3 :: a4 :: a5 :: b0 :: u) (.int x :: st) M := gw_istore (ls := (a0 :: a1 :: a2 :: a3 :: a4 :: a5 :: b0 :: u)) hd hn hc k
theorem gw_iload7 {Γ : ow_Cx → Prop} {own : String} {cc : ByteArray} {nL pc : Nat} {st : List Value} {M : ow_M} {a0 : Option Value} {a1 : Option Value} {a2 : Option Value} {a3 : Option Value} {a4 : Option Value} {a5 : Option Value} {a6 : Option Value} {u : List (Option Value)} {x : Int32} (hd : decode cc pc = .ok (.iload 7, 2)) (k : ow_G Γ own cc nL (pc + 2) (a0 :: a1 :: a2 :: a3 :: a4 :: a5 :: a6 :: some (.int x) :: u) (.int x :: st) M) : ow_G Γ own cc nL pc (a0 :: a1 :: a2 :: a3 :: a4 :: a5 :: a6 :: some (.int x) :: u) st M := gw_iload (ls := (a0 :: a1 :: a2 :: a3 :: a4 :: a5 :: a6 :: some (.int x) :: u)) hd rfl k
theorem gw_istore7 {Γ : ow_Cx → Prop} {own : String} {cc : ByteArray} {nL pc : Nat} {st : List Value} {M : ow_M} {a0 : Option Value} {a1 : Option Value} {a2 : Option Value} {a3 : Option Value} {a4 : Option Value} {a5 : Option Value} {a6 : Option Value} {b0 : Option Value} {u : List (Option Value)} {x : Int32} (hd : decode cc pc = .ok (.istore 7, 2)) (hn : 7 < nL) (hc : ow_k1 a6 = true) (k : ow_G Γ own cc nL (pc + 2) (a0 :: a1 :: a2 :: a3 :: a4 :: a5 :: a6 :: some (.int x) :: u) st M) : ow_G Γ own cc nL pc (a0 :: a1 :: a2 :: a3 :: a4 :: a5 :: a6 :: b0 :: u) (.int x :: st) M := gw_istore (ls := (a0 :: a1 :: a2 :: a3 :: a4 :: a5 :: a6 :: b0 :: u)) hd hn hc k
theorem gw_iload8 {Γ : ow_Cx → Prop} {own : String} {cc : ByteArray} {nL pc : Nat} {st : List Value} {M : ow_M} {a0 : Option Value} {a1 : Option Value} {a2 : Option Value} {a3 : Option Value} {a4 : Option Value} {a5 : Option Value} {a6 : Option Value} {a7 : Option Value} {u : List (Option Value)} {x : Int32} (hd : decode cc pc = .ok (.iload 8, 2)) (k : ow_G Γ own cc nL (pc + 2) (a0 :: a1 :: a2 :: a3 :: a4 :: a5 :: a6 :: a7 :: some (.int x) :: u) (.int x :: st) M) : ow_G Γ own cc nL pc (a0 :: a1 :: a2 :: a3 :: a4 :: a5 :: a6 :: a7 :: some (.int x) :: u) st M := gw_iload (ls := (a0 :: a1 :: a2 :: a3 :: a4 :: a5 :: a6 :: a7 :: some (.int x) :: u)) hd rfl k
theorem gw_istore8 {Γ : ow_Cx → Prop} {own : String} {cc : ByteArray} {nL pc : Nat} {st : List Value} {M : ow_M} {a0 : Option Value} {a1 : Option Value} {a2 : Option Value} {a3 : Option Value} {a4 : Option Value} {a5 : Option Value} {a6 : Option Value} {a7 : Option Value} {b0 : Option Value} {u : List (Option Value)} {x : Int32} (hd : decode cc pc = .ok (.istore 8, 2)) (hn : 8 < nL) (hc : ow_k1 a7 = true) (k : ow_G Γ own cc nL (pc + 2) (a0 :: a1 :: a2 :: a3 :: a4 :: a5 :: a6 :: a7 :: some (.int x) :: u) st M) : ow_G Γ own cc nL pc (a0 :: a1 :: a2 :: a3 :: a4 :: a5 :: a6 :: a7 :: b0 :: u) (.int x :: st) M := gw_istore (ls := (a0 :: a1 :: a2 :: a3 :: a4 :: a5 :: a6 :: a7 :: b0 :: u)) hd hn hc k
theorem gw_iload9 {Γ : ow_Cx → Prop} {own : String} {cc : ByteArray} {nL pc : Nat} {st : List Value} {M : ow_M} {a0 : Option Value} {a1 : Option Value} {a2 : Option Value} {a3 : Option Value} {a4 : Option Value} {a5 : Option Value} {a6 : Option Value} {a7 : Option Value} {a8 : Option Value} {u : List (Option Value)} {x : Int32} (hd : decode cc pc = .ok (.iload 9, 2)) (k : ow_G Γ own cc nL (pc + 2) (a0 :: a1 :: a2 :: a3 :: a4 :: a5 :: a6 :: a7 :: a8 :: some (.int x) :: u) (.int x :: st) M) : ow_G Γ own cc nL pc (a0 :: a1 :: a2 :: a3 :: a4 :: a5 :: a6 :: a7 :: a8 :: some (.int x) :: u) st M := gw_iload (ls := (a0 :: a1 :: a2 :: a3 :: a4 :: a5 :: a6 :: a7 :: a8 :: some (.int x) :: u)) hd rfl k
theorem gw_istore9 {Γ : ow_Cx → Prop} {own : String} {cc : ByteArray} {nL pc : Nat} {st : List Value} {M : ow_M} {a0 : Option Value} {a1 : Option Value} {a2 : Option Value} {a3 : Option Value} {a4 : Option Value} {a5 : Option Value} {a6 : Option Value} {a7 : Option Value} {a8 : Option Value} {b0 : Option Value} {u : List (Option Value)} {x : Int32} (hd : decode cc pc = .ok (.istore 9, 2)) (hn : 9 < nL) (hc : ow_k1 a8 = true) (k : ow_G Γ own cc nL (pc + 2) (a0 :: a1 :: a2 :: a3 :: a4 :: a5 :: a6 :: a7 :: a8 :: some (.int x) :: u) st M) : ow_G Γ own cc nL pc (a0 :: a1 :: a2 :: a3 :: a4 :: a5 :: a6 :: a7 :: a8 :: b0 :: u) (.int x :: st) M := gw_istore (ls := (a0 :: a1 :: a2 :: a3 :: a4 :: a5 :: a6 :: a7 :: a8 :: b0 :: u)) hd hn hc k
theorem gw_iload10 {Γ : ow_Cx → Prop} {own : String} {cc : ByteArray} {nL pc : Nat} {st : List Value} {M : ow_M} {a0 : Option Value} {a1 : Option Value} {a2 : Option Value} {a3 : Option Value} {a4 : Option Value} {a5 : Option Value} {a6 : Option Value} {a7 : Option Value} {a8 : Option Value} {a9 : Option Value} {u : List (Option Value)} {x : Int32} (hd : decode cc pc = .ok (.iload 10, 2)) (k : ow_G Γ own cc nL (pc + 2) (a0 :: a1 :: a2 :: a3 :: a4 :: a5 :: a6 :: a7 :: a8 :: a9 :: some (.int x) :: u) (.int x :: st) M) : ow_G Γ own cc nL pc (a0 :: a1 :: a2 :: a3 :: a4 :: a5 :: a6 :: a7 :: a8 :: a9 :: some (.int x) :: u) st M := gw_iload (ls := (a0 :: a1 :: a2 :: a3 :: a4 :: a5 :: a6 :: a7 :: a8 :: a9 :: some (.int x) :: u)) hd rfl k
theorem gw_istore10 {Γ : ow_Cx → Prop} {own : String} {cc : ByteArray} {nL pc : Nat} {st : List Value} {M : ow_M} {a0 : Option Value} {a1 : Option Value} {a2 : Option Value} {a3 : Option Value} {a4 : Option Value} {a5 : Option Value} {a6 : Option Value} {a7 : Option Value} {a8 : Option Value} {a9 : Option Value} {b0 : Option Value} {u : List (Option Value)} {x : Int32} (hd : decode cc pc = .ok (.istore 10, 2)) (hn : 10 < nL) (hc : ow_k1 a9 = true) (k : ow_G Γ own cc nL (pc + 2) (a0 :: a1 :: a2 :: a3 :: a4 :: a5 :: a6 :: a7 :: a8 :: a9 :: some (.int x) :: u) st M) : ow_G Γ own cc nL pc (a0 :: a1 :: a2 :: a3 :: a4 :: a5 :: a6 :: a7 :: a8 :: a9 :: b0 :: u) (.int x :: st) M := gw_istore (ls := (a0 :: a1 :: a2 :: a3 :: a4 :: a5 :: a6 :: a7 :: a8 :: a9 :: b0 :: u)) hd hn hc k
theorem gw_iload11 {Γ : ow_Cx → Prop} {own : String} {cc : ByteArray} {nL pc : Nat} {st : List Value} {M : ow_M} {a0 : Option Value} {a1 : Option Value} {a2 : Option Value} {a3 : Option Value} {a4 : Option Value} {a5 : Option Value} {a6 : Option Value} {a7 : Option Value} {a8 : Option Value} {a9 : Option Value} {a10 : Option Value} {u : List (Option Value)} {x : Int32} (hd : decode cc pc = .ok (.iload 11, 2)) (k : ow_G Γ own cc nL (pc + 2) (a0 :: a1 :: a2 :: a3 :: a4 :: a5 :: a6 :: a7 :: a8 :: a9 :: a10 :: some (.int x) :: u) (.int x :: st) M) : ow_G Γ own cc nL pc (a0 :: a1 :: a2 :: a3 :: a4 :: a5 :: a6 :: a7 :: a8 :: a9 :: a10 :: some (.int x) :: u) st M := gw_iload (ls := (a0 :: a1 :: a2 :: a3 :: a4 :: a5 :: a6 :: a7 :: a8 :: a9 :: a10 :: some (.int x) :: u)) hd rfl k
theorem gw_istore11 {Γ : ow_Cx → Prop} {own : String} {cc : ByteArray} {nL pc : Nat} {st : List Value} {M : ow_M} {a0 : Option Value} {a1 : Option Value} {a2 : Option Value} {a3 : Option Value} {a4 : Option Value} {a5 : Option Value} {a6 : Option Value} {a7 : Option Value} {a8 : Option Value} {a9 : Option Value} {a10 : Option Value} {b0 : Option Value} {u : List (Option Value)} {x : Int32} (hd : decode cc pc = .ok (.istore 11, 2)) (hn : 11 < nL) (hc : ow_k1 a10 = true) (k : ow_G Γ own cc nL (pc + 2) (a0 :: a1 :: a2 :: a3 :: a4 :: a5 :: a6 :: a7 :: a8 :: a9 :: a10 :: some (.int x) :: u) st M) : ow_G Γ own cc nL pc (a0 :: a1 :: a2 :: a3 :: a4 :: a5 :: a6 :: a7 :: a8 :: a9 :: a10 :: b0 :: u) (.int x :: st) M := gw_istore (ls := (a0 :: a1 :: a2 :: a3 :: a4 :: a5 :: a6 :: a7 :: a8 :: a9 :: a10 :: b0 :: u)) hd hn hc k
theorem gw_iload12 {Γ : ow_Cx → Prop} {own : String} {cc : ByteArray} {nL pc : Nat} {st : List Value} {M : ow_M} {a0 : Option Value} {a1 : Option Value} {a2 : Option Value} {a3 : Option Value} {a4 : Option Value} {a5 : Option Value} {a6 : Option Value} {a7 : Option Value} {a8 : Option Value} {a9 : Option Value} {a10 : Option Value} {a11 : Option Value} {u : List (Option Value)} {x : Int32} (hd : decode cc pc = .ok (.iload 12, 2)) (k : ow_G Γ own cc nL (pc + 2) (a0 :: a1 :: a2 :: a3 :: a4 :: a5 :: a6 :: a7 :: a8 :: a9 :: a10 :: a11 :: some (.int x) :: u) (.int x :: st) M) : ow_G Γ own cc nL pc (a0 :: a1 :: a2 :: a3 :: a4 :: a5 :: a6 :: a7 :: a8 :: a9 :: a10 :: a11 :: some (.int x) :: u) st M := gw_iload (ls := (a0 :: a1 :: a2 :: a3 :: a4 :: a5 :: a6 :: a7 :: a8 :: a9 :: a10 :: a11 :: some (.int x) :: u)) hd rfl k
theorem gw_istore12 {Γ : ow_Cx → Prop} {own : String} {cc : ByteArray} {nL pc : Nat} {st : List Value} {M : ow_M} {a0 : Option Value} {a1 : Option Value} {a2 : Option Value} {a3 : Option Value} {a4 : Option Value} {a5 : Option Value} {a6 : Option Value} {a7 : Option Value} {a8 : Option Value} {a9 : Option Value} {a10 : Option Value} {a11 : Option Value} {b0 : Option Value} {u : List (Option Value)} {x : Int32} (hd : decode cc pc = .ok (.istore 12, 2)) (hn : 12 < nL) (hc : ow_k1 a11 = true) (k : ow_G Γ own cc nL (pc + 2) (a0 :: a1 :: a2 :: a3 :: a4 :: a5 :: a6 :: a7 :: a8 :: a9 :: a10 :: a11 :: some (.int x) :: u) st M) : ow_G Γ own cc nL pc (a0 :: a1 :: a2 :: a3 :: a4 :: a5 :: a6 :: a7 :: a8 :: a9 :: a10 :: a11 :: b0 :: u) (.int x :: st) M := gw_istore (ls := (a0 :: a1 :: a2 :: a3 :: a4 :: a5 :: a6 :: a7 :: a8 :: a9 :: a10 :: a11 :: b0 :: u)) hd hn hc k
theorem gw_iload13 {Γ : ow_Cx → Prop} {own : String} {cc : ByteArray} {nL pc : Nat} {st : List Value} {M : ow_M} {a0 : Option Value} {a1 : Option Value} {a2 : Option Value} {a3 : Option Value} {a4 : Option Value} {a5 : Option Value} {a6 : Option Value} {a7 : Option Value} {a8 : Option Value} {a9 : Option Value} {a10 : Option Value} {a11 : Option Value} {a12 : Option Value} {u : List (Option Value)} {x : Int32} (hd : decode cc pc = .ok (.iload 13, 2)) (k : ow_G Γ own cc nL (pc + 2) (a0 :: a1 :: a2 :: a3 :: a4 :: a5 :: a6 :: a7 :: a8 :: a9 :: a10 :: a11 :: a12 :: some (.int x) :: u) (.int x :: st) M) : ow_G Γ own cc nL pc (a0 :: a1 :: a2 :: a3 :: a4 :: a5 :: a6 :: a7 :: a8 :: a9 :: a10 :: a11 :: a12 :: some (.int x) :: u) st M := gw_iload (ls := (a0 :: a1 :: a2 :: a3 :: a4 :: a5 :: a6 :: a7 :: a8 :: a9 :: a10 :: a11 :: a12 :: some (.int x) :: u)) hd rfl k
theorem gw_istore13 {Γ : ow_Cx → Prop} {own : String} {cc : ByteArray} {nL pc : Nat} {st : List Value} {M : ow_M} {a0 : Option Value} {a1 : Option Value} {a2 : Option Value} {a3 : Option Value} {a4 : Option Value} {a5 : Option Value} {a6 : Option Value} {a7 : Option Value} {a8 : Option Value} {a9 : Option Value} {a10 : Option Value} {a11 : Option Value} {a12 : Option Value} {b0 : Option Value} {u : List (Option Value)} {x : Int32} (hd : decode cc pc = .ok (.istore 13, 2)) (hn : 13 < nL) (hc : ow_k1 a12 = true) (k : ow_G Γ own cc nL (pc + 2) (a0 :: a1 :: a2 :: a3 :: a4 :: a5 :: a6 :: a7 :: a8 :: a9 :: a10 :: a11 :: a12 :: some (.int x) :: u) st M) : ow_G Γ own cc nL pc (a0 :: a1 :: a2 :: a3 :: a4 :: a5 :: a6 :: a7 :: a8 :: a9 :: a10 :: a11 :: a12 :: b0 :: u) (.int x :: st) M := gw_istore (ls := (a0 :: a1 :: a2 :: a3 :: a4 :: a5 :: a6 :: a7 :: a8 :: a9 :: a10 :: a11 :: a12 :: b0 :: u)) hd hn hc k
theorem gw_lload0 {Γ : ow_Cx → Prop} {own : String} {cc : ByteArray} {nL pc : Nat} {st : List Value} {M : ow_M} {u : List (Option Value)} {x : Int64} (hd : decode cc pc = .ok (.lload_n 0, 1)) (k : ow_G Γ own cc nL (pc + 1) (some (.long x) :: u) (.long x :: st) M) : ow_G Γ own cc nL pc (some (.long x) :: u) st M := gw_lload_n (ls := (some (.long x) :: u)) hd rfl rfl k
theorem gw_lstore0 {Γ : ow_Cx → Prop} {own : String} {cc : ByteArray} {nL pc : Nat} {st : List Value} {M : ow_M} {b0 b1 : Option Value} {u : List (Option Value)} {x : Int64} (hd : decode cc pc = .ok (.lstore_n 0, 1)) (hn : 1 < nL) (k : ow_G Γ own cc nL (pc + 1) (some (.long x) :: none :: u) st M) : ow_G Γ own cc nL pc (b0 :: b1 :: u) (.long x :: st) M := gw_lstore_n (ls := (b0 :: b1 :: u)) hd rfl hn rfl k
theorem gw_lload1 {Γ : ow_Cx → Prop} {own : String} {cc : ByteArray} {nL pc : Nat} {st : List Value} {M : ow_M} {a0 : Option Value} {u : List (Option Value)} {x : Int64} (hd : decode cc pc = .ok (.lload_n 1, 1)) (k : ow_G Γ own cc nL (pc + 1) (a0 :: some (.long x) :: u) (.long x :: st) M) : ow_G Γ own cc nL pc (a0 :: some (.long x) :: u) st M := gw_lload_n (ls := (a0 :: some (.long x) :: u)) hd rfl rfl k
theorem gw_lstore1 {Γ : ow_Cx → Prop} {own : String} {cc : ByteArray} {nL pc : Nat} {st : List Value} {M : ow_M} {a0 : Option Value} {b0 b1 : Option Value} {u : List (Option Value)} {x : Int64} (hd : decode cc pc = .ok (.lstore_n 1, 1)) (hn : 2 < nL) (hc : ow_k1 a0 = true) (k : ow_G Γ own cc nL (pc + 1) (a0 :: some (.long x) :: none :: u) st M) : ow_G Γ own cc nL pc (a0 :: b0 :: b1 :: u) (.long x :: st) M := gw_lstore_n (ls := (a0 :: b0 :: b1 :: u)) hd rfl hn hc k
theorem gw_lload2 {Γ : ow_Cx → Prop} {own : String} {cc : ByteArray} {nL pc : Nat} {st : List Value} {M : ow_M} {a0 : Option Value} {a1 : Option Value} {u : List (Option Value)} {x : Int64} (hd : decode cc pc = .ok (.lload_n 2, 1)) (k : ow_G Γ own cc nL (pc + 1) (a0 :: a1 :: some (.long x) :: u) (.long x :: st) M) : ow_G Γ own cc nL pc (a0 :: a1 :: some (.long x) :: u) st M := gw_lload_n (ls := (a0 :: a1 :: some (.long x) :: u)) hd rfl rfl k
theorem gw_lstore2 {Γ : ow_Cx → Prop} {own : String} {cc : ByteArray} {nL pc : Nat} {st : List Value} {M : ow_M} {a0 : Option Value} {a1 : Option Value} {b0 b1 : Option Value} {u : List (Option Value)} {x : Int64} (hd : decode cc pc = .ok (.lstore_n 2, 1)) (hn : 3 < nL) (hc : ow_k1 a1 = true) (k : ow_G Γ own cc nL (pc + 1) (a0 :: a1 :: some (.long x) :: none :: u) st M) : ow_G Γ own cc nL pc (a0 :: a1 :: b0 :: b1 :: u) (.long x :: st) M := gw_lstore_n (ls := (a0 :: a1 :: b0 :: b1 :: u)) hd rfl hn hc k
theorem gw_lload3 {Γ : ow_Cx → Prop} {own : String} {cc : ByteArray} {nL pc : Nat} {st : List Value} {M : ow_M} {a0 : Option Value} {a1 : Option Value} {a2 : Option Value} {u : List (Option Value)} {x : Int64} (hd : decode cc pc = .ok (.lload_n 3, 1)) (k : ow_G Γ own cc nL (pc + 1) (a0 :: a1 :: a2 :: some (.long x) :: u) (.long x :: st) M) : ow_G Γ own cc nL pc (a0 :: a1 :: a2 :: some (.long x) :: u) st M := gw_lload_n (ls := (a0 :: a1 :: a2 :: some (.long x) :: u)) hd rfl rfl k
theorem gw_lstore3 {Γ : ow_Cx → Prop} {own : String} {cc : ByteArray} {nL pc : Nat} {st : List Value} {M : ow_M} {a0 : Option Value} {a1 : Option Value} {a2 : Option Value} {b0 b1 : Option Value} {u : List (Option Value)} {x : Int64} (hd : decode cc pc = .ok (.lstore_n 3, 1)) (hn : 4 < nL) (hc : ow_k1 a2 = true) (k : ow_G Γ own cc nL (pc + 1) (a0 :: a1 :: a2 :: some (.long x) :: none :: u) st M) : ow_G Γ own cc nL pc (a0 :: a1 :: a2 :: b0 :: b1 :: u) (.long x :: st) M := gw_lstore_n (ls := (a0 :: a1 :: a2 :: b0 :: b1 :: u)) hd rfl hn hc k
theorem gw_lload4 {Γ : ow_Cx → Prop} {own : String} {cc : ByteArray} {nL pc : Nat} {st : List Value} {M : ow_M} {a0 : Option Value} {a1 : Option Value} {a2 : Option Value} {a3 : Option Value} {u : List (Option Value)} {x : Int64} (hd : decode cc pc = .ok (.lload 4, 2)) (k : ow_G Γ own cc nL (pc + 2) (a0 :: a1 :: a2 :: a3 :: some (.long x) :: u) (.long x :: st) M) : ow_G Γ own cc nL pc (a0 :: a1 :: a2 :: a3 :: some (.long x) :: u) st M := gw_lload (ls := (a0 :: a1 :: a2 :: a3 :: some (.long x) :: u)) hd rfl k
theorem gw_lstore4 {Γ : ow_Cx → Prop} {own : String} {cc : ByteArray} {nL pc : Nat} {st : List Value} {M : ow_M} {a0 : Option Value} {a1 : Option Value} {a2 : Option Value} {a3 : Option Value} {b0 b1 : Option Value} {u : List (Option Value)} {x : Int64} (hd : decode cc pc = .ok (.lstore 4, 2)) (hn : 5 < nL) (hc : ow_k1 a3 = true) (k : ow_G Γ own cc nL (pc + 2) (a0 :: a1 :: a2 :: a3 :: some (.long x) :: none :: u) st M) : ow_G Γ own cc nL pc (a0 :: a1 :: a2 :: a3 :: b0 :: b1 :: u) (.long x :: st) M := gw_lstore (ls := (a0 :: a1 :: a2 :: a3 :: b0 :: b1 :: u)) hd hn hc k
theorem gw_lload5 {Γ : ow_Cx → Prop} {own : String} {cc : ByteArray} {nL pc : Nat} {st : List Value} {M : ow_M} {a0 : Option Value} {a1 : Option Value} {a2 : Option Value} {a3 : Option Value} {a4 : Option Value} {u : List (Option Value)} {x : Int64} (hd : decode cc pc = .ok (.lload 5, 2)) (k : ow_G Γ own cc nL (pc + 2) (a0 :: a1 :: a2 :: a3 :: a4 :: some (.long x) :: u) (.long x :: st) M) : ow_G Γ own cc nL pc (a0 :: a1 :: a2 :: a3 :: a4 :: some (.long x) :: u) st M := gw_lload (ls := (a0 :: a1 :: a2 :: a3 :: a4 :: some (.long x) :: u)) hd rfl k
theorem gw_lstore5 {Γ : ow_Cx → Prop} {own : String} {cc : ByteArray} {nL pc : Nat} {st : List Value} {M : ow_M} {a0 : Option Value} {a1 : Option Value} {a2 : Option Value} {a3 : Option Value} {a4 : Option Value} {b0 b1 : Option Value} {u : List (Option Value)} {x : Int64} (hd : decode cc pc = .ok (.lstore 5, 2)) (hn : 6 < nL) (hc : ow_k1 a4 = true) (k : ow_G Γ own cc nL (pc + 2) (a0 :: a1 :: a2 :: a3 :: a4 :: some (.long x) :: none :: u) st M) : ow_G Γ own cc nL pc (a0 :: a1 :: a2 :: a3 :: a4 :: b0 :: b1 :: u) (.long x :: st) M := gw_lstore (ls := (a0 :: a1 :: a2 :: a3 :: a4 :: b0 :: b1 :: u)) hd hn hc k
theorem gw_lload6 {Γ : ow_Cx → Prop} {own : String} {cc : ByteArray} {nL pc : Nat} {st : List Value} {M : ow_M} {a0 : Option Value} {a1 : Option Value} {a2 : Option Value} {a3 : Option Value} {a4 : Option Value} {a5 : Option Value} {u : List (Option Value)} {x : Int64} (hd : decode cc pc = .ok (.lload 6, 2)) (k : ow_G Γ own cc nL (pc + 2) (a0 :: a1 :: a2 :: a3 :: a4 :: a5 :: some (.long x) :: u) (.long x :: st) M) : ow_G Γ own cc nL pc (a0 :: a1 :: a2 :: a3 :: a4 :: a5 :: some (.long x) :: u) st M := gw_lload (ls := (a0 :: a1 :: a2 :: a3 :: a4 :: a5 :: some (.long x) :: u)) hd rfl k
theorem gw_lstore6 {Γ : ow_Cx → Prop} {own : String} {cc : ByteArray} {nL pc : Nat} {st : List Value} {M : ow_M} {a0 : Option Value} {a1 : Option Value} {a2 : Option Value} {a3 : Option Value} {a4 : Option Value} {a5 : Option Value} {b0 b1 : Option Value} {u : List (Option Value)} {x : Int64} (hd : decode cc pc = .ok (.lstore 6, 2)) (hn : 7 < nL) (hc : ow_k1 a5 = true) (k : ow_G Γ own cc nL (pc + 2) (a0 :: a1 :: a2 :: a3 :: a4 :: a5 :: some (.long x) :: none :: u) st M) : ow_G Γ own cc nL pc (a0 :: a1 :: a2 :: a3 :: a4 :: a5 :: b0 :: b1 :: u) (.long x :: st) M := gw_lstore (ls := (a0 :: a1 :: a2 :: a3 :: a4 :: a5 :: b0 :: b1 :: u)) hd hn hc k
theorem gw_lload7 {Γ : ow_Cx → Prop} {own : String} {cc : ByteArray} {nL pc : Nat} {st : List Value} {M : ow_M} {a0 : Option Value} {a1 : Option Value} {a2 : Option Value} {a3 : Option Value} {a4 : Option Value} {a5 : Option Value} {a6 : Option Value} {u : List (Option Value)} {x : Int64} (hd : decode cc pc = .ok (.lload 7, 2)) (k : ow_G Γ own cc nL (pc + 2) (a0 :: a1 :: a2 :: a3 :: a4 :: a5 :: a6 :: some (.long x) :: u) (.long x :: st) M) : ow_G Γ own cc nL pc (a0 :: a1 :: a2 :: a3 :: a4 :: a5 :: a6 :: some (.long x) :: u) st M := gw_lload (ls := (a0 :: a1 :: a2 :: a3 :: a4 :: a5 :: a6 :: some (.long x) :: u)) hd rfl k
theorem gw_lstore7 {Γ : ow_Cx → Prop} {own : String} {cc : ByteArray} {nL pc : Nat} {st : List Value} {M : ow_M} {a0 : Option Value} {a1 : Option Value} {a2 : Option Value} {a3 : Option Value} {a4 : Option Value} {a5 : Option Value} {a6 : Option Value} {b0 b1 : Option Value} {u : List (Option Value)} {x : Int64} (hd : decode cc pc = .ok (.lstore 7, 2)) (hn : 8 < nL) (hc : ow_k1 a6 = true) (k : ow_G Γ own cc nL (pc + 2) (a0 :: a1 :: a2 :: a3 :: a4 :: a5 :: a6 :: some (.long x) :: none :: u) st M) : ow_G Γ own cc nL pc (a0 :: a1 :: a2 :: a3 :: a4 :: a5 :: a6 :: b0 :: b1 :: u) (.long x :: st) M := gw_lstore (ls := (a0 :: a1 :: a2 :: a3 :: a4 :: a5 :: a6 :: b0 :: b1 :: u)) hd hn hc k
theorem gw_lload8 {Γ : ow_Cx → Prop} {own : String} {cc : ByteArray} {nL pc : Nat} {st : List Value} {M : ow_M} {a0 : Option Value} {a1 : Option Value} {a2 : Option Value} {a3 : Option Value} {a4 : Option Value} {a5 : Option Value} {a6 : Option Value} {a7 : Option Value} {u : List (Option Value)} {x : Int64} (hd : decode cc pc = .ok (.lload 8, 2)) (k : ow_G Γ own cc nL (pc + 2) (a0 :: a1 :: a2 :: a3 :: a4 :: a5 :: a6 :: a7 :: some (.long x) :: u) (.long x :: st) M) : ow_G Γ own cc nL pc (a0 :: a1 :: a2 :: a3 :: a4 :: a5 :: a6 :: a7 :: some (.long x) :: u) st M := gw_lload (ls := (a0 :: a1 :: a2 :: a3 :: a4 :: a5 :: a6 :: a7 :: some (.long x) :: u)) hd rfl k
theorem gw_lstore8 {Γ : ow_Cx → Prop} {own : String} {cc : ByteArray} {nL pc : Nat} {st : List Value} {M : ow_M} {a0 : Option Value} {a1 : Option Value} {a2 : Option Value} {a3 : Option Value} {a4 : Option Value} {a5 : Option Value} {a6 : Option Value} {a7 : Option Value} {b0 b1 : Option Value} {u : List (Option Value)} {x : Int64} (hd : decode cc pc = .ok (.lstore 8, 2)) (hn : 9 < nL) (hc : ow_k1 a7 = true) (k : ow_G Γ own cc nL (pc + 2) (a0 :: a1 :: a2 :: a3 :: a4 :: a5 :: a6 :: a7 :: some (.long x) :: none :: u) st M) : ow_G Γ own cc nL pc (a0 :: a1 :: a2 :: a3 :: a4 :: a5 :: a6 :: a7 :: b0 :: b1 :: u) (.long x :: st) M := gw_lstore (ls := (a0 :: a1 :: a2 :: a3 :: a4 :: a5 :: a6 :: a7 :: b0 :: b1 :: u)) hd hn hc k
theorem gw_lload9 {Γ : ow_Cx → Prop} {own : String} {cc : ByteArray} {nL pc : Nat} {st : List Value} {M : ow_M} {a0 : Option Value} {a1 : Option Value} {a2 : Option Value} {a3 : Option Value} {a4 : Option Value} {a5 : Option Value} {a6 : Option Value} {a7 : Option Value} {a8 : Option Value} {u : List (Option Value)} {x : Int64} (hd : decode cc pc = .ok (.lload 9, 2)) (k : ow_G Γ own cc nL (pc + 2) (a0 :: a1 :: a2 :: a3 :: a4 :: a5 :: a6 :: a7 :: a8 :: some (.long x) :: u) (.long x :: st) M) : ow_G Γ own cc nL pc (a0 :: a1 :: a2 :: a3 :: a4 :: a5 :: a6 :: a7 :: a8 :: some (.long x) :: u) st M := gw_lload (ls := (a0 :: a1 :: a2 :: a3 :: a4 :: a5 :: a6 :: a7 :: a8 :: some (.long x) :: u)) hd rfl k
theorem gw_lstore9 {Γ : ow_Cx → Prop} {own : String} {cc : ByteArray} {nL pc : Nat} {st : List Value} {M : ow_M} {a0 : Option Value} {a1 : Option Value} {a2 : Option Value} {a3 : Option Value} {a4 : Option Value} {a5 : Option Value} {a6 : Option Value} {a7 : Option Value} {a8 : Option Value} {b0 b1 : Option Value} {u : List (Option Value)} {x : Int64} (hd : decode cc pc = .ok (.lstore 9, 2)) (hn : 10 < nL) (hc : ow_k1 a8 = true) (k : ow_G Γ own cc nL (pc + 2) (a0 :: a1 :: a2 :: a3 :: a4 :: a5 :: a6 :: a7 :: a8 :: some (.long x) :: none :: u) st M) : ow_G Γ own cc nL pc (a0 :: a1 :: a2 :: a3 :: a4 :: a5 :: a6 :: a7 :: a8 :: b0 :: b1 :: u) (.long x :: st) M := gw_lstore (ls := (a0 :: a1 :: a2 :: a3 :: a4 :: a5 :: a6 :: a7 :: a8 :: b0 :: b1 :: u)) hd hn hc k
theorem gw_lload10 {Γ : ow_Cx → Prop} {own : String} {cc : ByteArray} {nL pc : Nat} {st : List Value} {M : ow_M} {a0 : Option Value} {a1 : Option Value} {a2 : Option Value} {a3 : Option Value} {a4 : Option Value} {a5 : Option Value} {a6 : Option Value} {a7 : Option Value} {a8 : Option Value} {a9 : Option Value} {u : List (Option Value)} {x : Int64} (hd : decode cc pc = .ok (.lload 10, 2)) (k : ow_G Γ own cc nL (pc + 2) (a0 :: a1 :: a2 :: a3 :: a4 :: a5 :: a6 :: a7 :: a8 :: a9 :: some (.long x) :: u) (.long x :: st) M) : ow_G Γ own cc nL pc (a0 :: a1 :: a2 :: a3 :: a4 :: a5 :: a6 :: a7 :: a8 :: a9 :: some (.long x) :: u) st M := gw_lload (ls := (a0 :: a1 :: a2 :: a3 :: a4 :: a5 :: a6 :: a7 :: a8 :: a9 :: some (.long x) :: u)) hd rfl k
theorem gw_lstore10 {Γ : ow_Cx → Prop} {own : String} {cc : ByteArray} {nL pc : Nat} {st : List Value} {M : ow_M} {a0 : Option Value} {a1 : Option Value} {a2 : Option Value} {a3 : Option Value} {a4 : Option Value} {a5 : Option Value} {a6 : Option Value} {a7 : Option Value} {a8 : Option Value} {a9 : Option Value} {b0 b1 : Option Value} {u : List (Option Value)} {x : Int64} (hd : decode cc pc = .ok (.lstore 10, 2)) (hn : 11 < nL) (hc : ow_k1 a9 = true) (k : ow_G Γ own cc nL (pc + 2) (a0 :: a1 :: a2 :: a3 :: a4 :: a5 :: a6 :: a7 :: a8 :: a9 :: some (.long x) :: none :: u) st M) : ow_G Γ own cc nL pc (a0 :: a1 :: a2 :: a3 :: a4 :: a5 :: a6 :: a7 :: a8 :: a9 :: b0 :: b1 :: u) (.long x :: st) M := gw_lstore (ls := (a0 :: a1 :: a2 :: a3 :: a4 :: a5 :: a6 :: a7 :: a8 :: a9 :: b0 :: b1 :: u)) hd hn hc k
theorem gw_lload11 {Γ : ow_Cx → Prop} {own : String} {cc : ByteArray} {nL pc : Nat} {st : List Value} {M : ow_M} {a0 : Option Value} {a1 : Option Value} {a2 : Option Value} {a3 : Option Value} {a4 : Option Value} {a5 : Option Value} {a6 : Option Value} {a7 : Option Value} {a8 : Option Value} {a9 : Option Value} {a10 : Option Value} {u : List (Option Value)} {x : Int64} (hd : decode cc pc = .ok (.lload 11, 2)) (k : ow_G Γ own cc nL (pc + 2) (a0 :: a1 :: a2 :: a3 :: a4 :: a5 :: a6 :: a7 :: a8 :: a9 :: a10 :: some (.long x) :: u) (.long x :: st) M) : ow_G Γ own cc nL pc (a0 :: a1 :: a2 :: a3 :: a4 :: a5 :: a6 :: a7 :: a8 :: a9 :: a10 :: some (.long x) :: u) st M := gw_lload (ls := (a0 :: a1 :: a2 :: a3 :: a4 :: a5 :: a6 :: a7 :: a8 :: a9 :: a10 :: some (.long x) :: u)) hd rfl k
theorem gw_lstore11 {Γ : ow_Cx → Prop} {own : String} {cc : ByteArray} {nL pc : Nat} {st : List Value} {M : ow_M} {a0 : Option Value} {a1 : Option Value} {a2 : Option Value} {a3 : Option Value} {a4 : Option Value} {a5 : Option Value} {a6 : Option Value} {a7 : Option Value} {a8 : Option Value} {a9 : Option Value} {a10 : Option Value} {b0 b1 : Option Value} {u : List (Option Value)} {x : Int64} (hd : decode cc pc = .ok (.lstore 11, 2)) (hn : 12 < nL) (hc : ow_k1 a10 = true) (k : ow_G Γ own cc nL (pc + 2) (a0 :: a1 :: a2 :: a3 :: a4 :: a5 :: a6 :: a7 :: a8 :: a9 :: a10 :: some (.long x) :: none :: u) st M) : ow_G Γ own cc nL pc (a0 :: a1 :: a2 :: a3 :: a4 :: a5 :: a6 :: a7 :: a8 :: a9 :: a10 :: b0 :: b1 :: u) (.long x :: st) M := gw_lstore (ls := (a0 :: a1 :: a2 :: a3 :: a4 :: a5 :: a6 :: a7 :: a8 :: a9 :: a10 :: b0 :: b1 :: u)) hd hn hc k
theorem gw_lload12 {Γ : ow_Cx → Prop} {own : String} {cc : ByteArray} {nL pc : Nat} {st : List Value} {M : ow_M} {a0 : Option Value} {a1 : Option Value} {a2 : Option Value} {a3 : Option Value} {a4 : Option Value} {a5 : Option Value} {a6 : Option Value} {a7 : Option Value} {a8 : Option Value} {a9 : Option Value} {a10 : Option Value} {a11 : Option Value} {u : List (Option Value)} {x : Int64} (hd : decode cc pc = .ok (.lload 12, 2)) (k : ow_G Γ own cc nL (pc + 2) (a0 :: a1 :: a2 :: a3 :: a4 :: a5 :: a6 :: a7 :: a8 :: a9 :: a10 :: a11 :: some (.long x) :: u) (.long x :: st) M) : ow_G Γ own cc nL pc (a0 :: a1 :: a2 :: a3 :: a4 :: a5 :: a6 :: a7 :: a8 :: a9 :: a10 :: a11 :: some (.long x) :: u) st M := gw_lload (ls := (a0 :: a1 :: a2 :: a3 :: a4 :: a5 :: a6 :: a7 :: a8 :: a9 :: a10 :: a11 :: some (.long x) :: u)) hd rfl k
theorem gw_lstore12 {Γ : ow_Cx → Prop} {own : String} {cc : ByteArray} {nL pc : Nat} {st : List Value} {M : ow_M} {a0 : Option Value} {a1 : Option Value} {a2 : Option Value} {a3 : Option Value} {a4 : Option Value} {a5 : Option Value} {a6 : Option Value} {a7 : Option Value} {a8 : Option Value} {a9 : Option Value} {a10 : Option Value} {a11 : Option Value} {b0 b1 : Option Value} {u : List (Option Value)} {x : Int64} (hd : decode cc pc = .ok (.lstore 12, 2)) (hn : 13 < nL) (hc : ow_k1 a11 = true) (k : ow_G Γ own cc nL (pc + 2) (a0 :: a1 :: a2 :: a3 :: a4 :: a5 :: a6 :: a7 :: a8 :: a9 :: a10 :: a11 :: some (.long x) :: none :: u) st M) : ow_G Γ own cc nL pc (a0 :: a1 :: a2 :: a3 :: a4 :: a5 :: a6 :: a7 :: a8 :: a9 :: a10 :: a11 :: b0 :: b1 :: u) (.long x :: st) M := gw_lstore (ls := (a0 :: a1 :: a2 :: a3 :: a4 :: a5 :: a6 :: a7 :: a8 :: a9 :: a10 :: a11 :: b0 :: b1 :: u)) hd hn hc k
theorem gw_lload13 {Γ : ow_Cx → Prop} {own : String} {cc : ByteArray} {nL pc : Nat} {st : List Value} {M : ow_M} {a0 : Option Value} {a1 : Option Value} {a2 : Option Value} {a3 : Option Value} {a4 : Option Value} {a5 : Option Value} {a6 : Option Value} {a7 : Option Value} {a8 : Option Value} {a9 : Option Value} {a10 : Option Value} {a11 : Option Value} {a12 : Option Value} {u : List (Option Value)} {x : Int64} (hd : decode cc pc = .ok (.lload 13, 2)) (k : ow_G Γ own cc nL (pc + 2) (a0 :: a1 :: a2 :: a3 :: a4 :: a5 :: a6 :: a7 :: a8 :: a9 :: a10 :: a11 :: a12 :: some (.long x) :: u) (.long x :: st) M) : ow_G Γ own cc nL pc (a0 :: a1 :: a2 :: a3 :: a4 :: a5 :: a6 :: a7 :: a8 :: a9 :: a10 :: a11 :: a12 :: some (.long x) :: u) st M := gw_lload (ls := (a0 :: a1 :: a2 :: a3 :: a4 :: a5 :: a6 :: a7 :: a8 :: a9 :: a10 :: a11 :: a12 :: some (.long x) :: u)) hd rfl k
theorem gw_lstore13 {Γ : ow_Cx → Prop} {own : String} {cc : ByteArray} {nL pc : Nat} {st : List Value} {M : ow_M} {a0 : Option Value} {a1 : Option Value} {a2 : Option Value} {a3 : Option Value} {a4 : Option Value} {a5 : Option Value} {a6 : Option Value} {a7 : Option Value} {a8 : Option Value} {a9 : Option Value} {a10 : Option Value} {a11 : Option Value} {a12 : Option Value} {b0 b1 : Option Value} {u : List (Option Value)} {x : Int64} (hd : decode cc pc = .ok (.lstore 13, 2)) (hn : 14 < nL) (hc : ow_k1 a12 = true) (k : ow_G Γ own cc nL (pc + 2) (a0 :: a1 :: a2 :: a3 :: a4 :: a5 :: a6 :: a7 :: a8 :: a9 :: a10 :: a11 :: a12 :: some (.long x) :: none :: u) st M) : ow_G Γ own cc nL pc (a0 :: a1 :: a2 :: a3 :: a4 :: a5 :: a6 :: a7 :: a8 :: a9 :: a10 :: a11 :: a12 :: b0 :: b1 :: u) (.long x :: st) M := gw_lstore (ls := (a0 :: a1 :: a2 :: a3 :: a4 :: a5 :: a6 :: a7 :: a8 :: a9 :: a10 :: a11 :: a12 :: b0 :: b1 :: u)) hd hn hc k
theorem gw_aload0 {Γ : ow_Cx → Prop} {own : String} {cc : ByteArray} {nL pc : Nat} {st : List Value} {M : ow_M} {u : List (Option Value)} {x : Nat} (hd : decode cc pc = .ok (.aload_n 0, 1)) (k : ow_G Γ own cc nL (pc + 1) (some (.ref x) :: u) (.ref x :: st) M) : ow_G Γ own cc nL pc (some (.ref x) :: u) st M := gw_aload_n (ls := (some (.ref x) :: u)) hd rfl rfl k
theorem gw_astore0 {Γ : ow_Cx → Prop} {own : String} {cc : ByteArray} {nL pc : Nat} {st : List Value} {M : ow_M} {b0 : Option Value} {u : List (Option Value)} {x : Nat} (hd : decode cc pc = .ok (.astore_n 0, 1)) (hn : 0 < nL) (k : ow_G Γ own cc nL (pc + 1) (some (.ref x) :: u) st M) : ow_G Γ own cc nL pc (b0 :: u) (.ref x :: st) M := gw_astore_n (ls := (b0 :: u)) hd rfl hn rfl k
theorem gw_aload1 {Γ : ow_Cx → Prop} {own : String} {cc : ByteArray} {nL pc : Nat} {st : List Value} {M : ow_M} {a0 : Option Value} {u : List (Option Value)} {x : Nat} (hd : decode cc pc = .ok (.aload_n 1, 1)) (k : ow_G Γ own cc nL (pc + 1) (a0 :: some (.ref x) :: u) (.ref x :: st) M) : ow_G Γ own cc nL pc (a0 :: some (.ref x) :: u) st M := gw_aload_n (ls := (a0 :: some (.ref x) :: u)) hd rfl rfl k
theorem gw_astore1 {Γ : ow_Cx → Prop} {own : String} {cc : ByteArray} {nL pc : Nat} {st : List Value} {M : ow_M} {a0 : Option Value} {b0 : Option Value} {u : List (Option Value)} {x : Nat} (hd : decode cc pc = .ok (.astore_n 1, 1)) (hn : 1 < nL) (hc : ow_k1 a0 = true) (k : ow_G Γ own cc nL (pc + 1) (a0 :: some (.ref x) :: u) st M) : ow_G Γ own cc nL pc (a0 :: b0 :: u) (.ref x :: st) M := gw_astore_n (ls := (a0 :: b0 :: u)) hd rfl hn hc k
theorem gw_aload2 {Γ : ow_Cx → Prop} {own : String} {cc : ByteArray} {nL pc : Nat} {st : List Value} {M : ow_M} {a0 : Option Value} {a1 : Option Value} {u : List (Option Value)} {x : Nat} (hd : decode cc pc = .ok (.aload_n 2, 1)) (k : ow_G Γ own cc nL (pc + 1) (a0 :: a1 :: some (.ref x) :: u) (.ref x :: st) M) : ow_G Γ own cc nL pc (a0 :: a1 :: some (.ref x) :: u) st M := gw_aload_n (ls := (a0 :: a1 :: some (.ref x) :: u)) hd rfl rfl k
theorem gw_astore2 {Γ : ow_Cx → Prop} {own : String} {cc : ByteArray} {nL pc : Nat} {st : List Value} {M : ow_M} {a0 : Option Value} {a1 : Option Value} {b0 : Option Value} {u : List (Option Value)} {x : Nat} (hd : decode cc pc = .ok (.astore_n 2, 1)) (hn : 2 < nL) (hc : ow_k1 a1 = true) (k : ow_G Γ own cc nL (pc + 1) (a0 :: a1 :: some (.ref x) :: u) st M) : ow_G Γ own cc nL pc (a0 :: a1 :: b0 :: u) (.ref x :: st) M := gw_astore_n (ls := (a0 :: a1 :: b0 :: u)) hd rfl hn hc k
theorem gw_aload3 {Γ : ow_Cx → Prop} {own : String} {cc : ByteArray} {nL pc : Nat} {st : List Value} {M : ow_M} {a0 : Option Value} {a1 : Option Value} {a2 : Option Value} {u : List (Option Value)} {x : Nat} (hd : decode cc pc = .ok (.aload_n 3, 1)) (k : ow_G Γ own cc nL (pc + 1) (a0 :: a1 :: a2 :: some (.ref x) :: u) (.ref x :: st) M) : ow_G Γ own cc nL pc (a0 :: a1 :: a2 :: some (.ref x) :: u) st M := gw_aload_n (ls := (a0 :: a1 :: a2 :: some (.ref x) :: u)) hd rfl rfl k
theorem gw_astore3 {Γ : ow_Cx → Prop} {own : String} {cc : ByteArray} {nL pc : Nat} {st : List Value} {M : ow_M} {a0 : Option Value} {a1 : Option Value} {a2 : Option Value} {b0 : Option Value} {u : List (Option Value)} {x : Nat} (hd : decode cc pc = .ok (.astore_n 3, 1)) (hn : 3 < nL) (hc : ow_k1 a2 = true) (k : ow_G Γ own cc nL (pc + 1) (a0 :: a1 :: a2 :: some (.ref x) :: u) st M) : ow_G Γ own cc nL pc (a0 :: a1 :: a2 :: b0 :: u) (.ref x :: st) M := gw_astore_n (ls := (a0 :: a1 :: a2 :: b0 :: u)) hd rfl hn hc k
theorem gw_aload4 {Γ : ow_Cx → Prop} {own : String} {cc : ByteArray} {nL pc : Nat} {st : List Value} {M : ow_M} {a0 : Option Value} {a1 : Option Value} {a2 : Option Value} {a3 : Option Value} {u : List (Option Value)} {x : Nat} (hd : decode cc pc = .ok (.aload 4, 2)) (k : ow_G Γ own cc nL (pc + 2) (a0 :: a1 :: a2 :: a3 :: some (.ref x) :: u) (.ref x :: st) M) : ow_G Γ own cc nL pc (a0 :: a1 :: a2 :: a3 :: some (.ref x) :: u) st M := gw_aload (ls := (a0 :: a1 :: a2 :: a3 :: some (.ref x) :: u)) hd rfl k
theorem gw_astore4 {Γ : ow_Cx → Prop} {own : String} {cc : ByteArray} {nL pc : Nat} {st : List Value} {M : ow_M} {a0 : Option Value} {a1 : Option Value} {a2 : Option Value} {a3 : Option Value} {b0 : Option Value} {u : List (Option Value)} {x : Nat} (hd : decode cc pc = .ok (.astore 4, 2)) (hn : 4 < nL) (hc : ow_k1 a3 = true) (k : ow_G Γ own cc nL (pc + 2) (a0 :: a1 :: a2 :: a3 :: some (.ref x) :: u) st M) : ow_G Γ own cc nL pc (a0 :: a1 :: a2 :: a3 :: b0 :: u) (.ref x :: st) M := gw_astore (ls := (a0 :: a1 :: a2 :: a3 :: b0 :: u)) hd hn hc k
theorem gw_aload5 {Γ : ow_Cx → Prop} {own : String} {cc : ByteArray} {nL pc : Nat} {st : List Value} {M : ow_M} {a0 : Option Value} {a1 : Option Value} {a2 : Option Value} {a3 : Option Value} {a4 : Option Value} {u : List (Option Value)} {x : Nat} (hd : decode cc pc = .ok (.aload 5, 2)) (k : ow_G Γ own cc nL (pc + 2) (a0 :: a1 :: a2 :: a3 :: a4 :: some (.ref x) :: u) (.ref x :: st) M) : ow_G Γ own cc nL pc (a0 :: a1 :: a2 :: a3 :: a4 :: some (.ref x) :: u) st M := gw_aload (ls := (a0 :: a1 :: a2 :: a3 :: a4 :: some (.ref x) :: u)) hd rfl k
theorem gw_astore5 {Γ : ow_Cx → Prop} {own : String} {cc : ByteArray} {nL pc : Nat} {st : List Value} {M : ow_M} {a0 : Option Value} {a1 : Option Value} {a2 : Option Value} {a3 : Option Value} {a4 : Option Value} {b0 : Option Value} {u : List (Option Value)} {x : Nat} (hd : decode cc pc = .ok (.astore 5, 2)) (hn : 5 < nL) (hc : ow_k1 a4 = true) (k : ow_G Γ own cc nL (pc + 2) (a0 :: a1 :: a2 :: a3 :: a4 :: some (.ref x) :: u) st M) : ow_G Γ own cc nL pc (a0 :: a1 :: a2 :: a3 :: a4 :: b0 :: u) (.ref x :: st) M := gw_astore (ls := (a0 :: a1 :: a2 :: a3 :: a4 :: b0 :: u)) hd hn hc k
theorem gw_aload6 {Γ : ow_Cx → Prop} {own : String} {cc : ByteArray} {nL pc : Nat} {st : List Value} {M : ow_M} {a0 : Option Value} {a1 : Option Value} {a2 : Option Value} {a3 : Option Value} {a4 : Option Value} {a5 : Option Value} {u : List (Option Value)} {x : Nat} (hd : decode cc pc = .ok (.aload 6, 2)) (k : ow_G Γ own cc nL (pc + 2) (a0 :: a1 :: a2 :: a3 :: a4 :: a5 :: some (.ref x) :: u) (.ref x :: st) M) : ow_G Γ own cc nL pc (a0 :: a1 :: a2 :: a3 :: a4 :: a5 :: some (.ref x) :: u) st M := gw_aload (ls := (a0 :: a1 :: a2 :: a3 :: a4 :: a5 :: some (.ref x) :: u)) hd rfl k
theorem gw_astore6 {Γ : ow_Cx → Prop} {own : String} {cc : ByteArray} {nL pc : Nat} {st : List Value} {M : ow_M} {a0 : Option Value} {a1 : Option Value} {a2 : Option Value} {a3 : Option Value} {a4 : Option Value} {a5 : Option Value} {b0 : Option Value} {u : List (Option Value)} {x : Nat} (hd : decode cc pc = .ok (.astore 6, 2)) (hn : 6 < nL) (hc : ow_k1 a5 = true) (k : ow_G Γ own cc nL (pc + 2) (a0 :: a1 :: a2 :: a3 :: a4 :: a5 :: some (.ref x) :: u) st M) : ow_G Γ own cc nL pc (a0 :: a1 :: a2 :: a3 :: a4 :: a5 :: b0 :: u) (.ref x :: st) M := gw_astore (ls := (a0 :: a1 :: a2 :: a3 :: a4 :: a5 :: b0 :: u)) hd hn hc k
theorem gw_aload7 {Γ : ow_Cx → Prop} {own : String} {cc : ByteArray} {nL pc : Nat} {st : List Value} {M : ow_M} {a0 : Option Value} {a1 : Option Value} {a2 : Option Value} {a3 : Option Value} {a4 : Option Value} {a5 : Option Value} {a6 : Option Value} {u : List (Option Value)} {x : Nat} (hd : decode cc pc = .ok (.aload 7, 2)) (k : ow_G Γ own cc nL (pc + 2) (a0 :: a1 :: a2 :: a3 :: a4 :: a5 :: a6 :: some (.ref x) :: u) (.ref x :: st) M) : ow_G Γ own cc nL pc (a0 :: a1 :: a2 :: a3 :: a4 :: a5 :: a6 :: some (.ref x) :: u) st M := gw_aload (ls := (a0 :: a1 :: a2 :: a3 :: a4 :: a5 :: a6 :: some (.ref x) :: u)) hd rfl k
theorem gw_astore7 {Γ : ow_Cx → Prop} {own : String} {cc : ByteArray} {nL pc : Nat} {st : List Value} {M : ow_M} {a0 : Option Value} {a1 : Option Value} {a2 : Option Value} {a3 : Option Value} {a4 : Option Value} {a5 : Option Value} {a6 : Option Value} {b0 : Option Value} {u : List (Option Value)} {x : Nat} (hd : decode cc pc = .ok (.astore 7, 2)) (hn : 7 < nL) (hc : ow_k1 a6 = true) (k : ow_G Γ own cc nL (pc + 2) (a0 :: a1 :: a2 :: a3 :: a4 :: a5 :: a6 :: some (.ref x) :: u) st M) : ow_G Γ own cc nL pc (a0 :: a1 :: a2 :: a3 :: a4 :: a5 :: a6 :: b0 :: u) (.ref x :: st) M := gw_astore (ls := (a0 :: a1 :: a2 :: a3 :: a4 :: a5 :: a6 :: b0 :: u)) hd hn hc k
theorem gw_aload8 {Γ : ow_Cx → Prop} {own : String} {cc : ByteArray} {nL pc : Nat} {st : List Value} {M : ow_M} {a0 : Option Value} {a1 : Option Value} {a2 : Option Value} {a3 : Option Value} {a4 : Option Value} {a5 : Option Value} {a6 : Option Value} {a7 : Option Value} {u : List (Option Value)} {x : Nat} (hd : decode cc pc = .ok (.aload 8, 2)) (k : ow_G Γ own cc nL (pc + 2) (a0 :: a1 :: a2 :: a3 :: a4 :: a5 :: a6 :: a7 :: some (.ref x) :: u) (.ref x :: st) M) : ow_G Γ own cc nL pc (a0 :: a1 :: a2 :: a3 :: a4 :: a5 :: a6 :: a7 :: some (.ref x) :: u) st M := gw_aload (ls := (a0 :: a1 :: a2 :: a3 :: a4 :: a5 :: a6 :: a7 :: some (.ref x) :: u)) hd rfl k
theorem gw_astore8 {Γ : ow_Cx → Prop} {own : String} {cc : ByteArray} {nL pc : Nat} {st : List Value} {M : ow_M} {a0 : Option Value} {a1 : Option Value} {a2 : Option Value} {a3 : Option Value} {a4 : Option Value} {a5 : Option Value} {a6 : Option Value} {a7 : Option Value} {b0 : Option Value} {u : List (Option Value)} {x : Nat} (hd : decode cc pc = .ok (.astore 8, 2)) (hn : 8 < nL) (hc : ow_k1 a7 = true) (k : ow_G Γ own cc nL (pc + 2) (a0 :: a1 :: a2 :: a3 :: a4 :: a5 :: a6 :: a7 :: some (.ref x) :: u) st M) : ow_G Γ own cc nL pc (a0 :: a1 :: a2 :: a3 :: a4 :: a5 :: a6 :: a7 :: b0 :: u) (.ref x :: st) M := gw_astore (ls := (a0 :: a1 :: a2 :: a3 :: a4 :: a5 :: a6 :: a7 :: b0 :: u)) hd hn hc k
theorem gw_aload9 {Γ : ow_Cx → Prop} {own : String} {cc : ByteArray} {nL pc : Nat} {st : List Value} {M : ow_M} {a0 : Option Value} {a1 : Option Value} {a2 : Option Value} {a3 : Option Value} {a4 : Option Value} {a5 : Option Value} {a6 : Option Value} {a7 : Option Value} {a8 : Option Value} {u : List (Option Value)} {x : Nat} (hd : decode cc pc = .ok (.aload 9, 2)) (k : ow_G Γ own cc nL (pc + 2) (a0 :: a1 :: a2 :: a3 :: a4 :: a5 :: a6 :: a7 :: a8 :: some (.ref x) :: u) (.ref x :: st) M) : ow_G Γ own cc nL pc (a0 :: a1 :: a2 :: a3 :: a4 :: a5 :: a6 :: a7 :: a8 :: some (.ref x) :: u) st M := gw_aload (ls := (a0 :: a1 :: a2 :: a3 :: a4 :: a5 :: a6 :: a7 :: a8 :: some (.ref x) :: u)) hd rfl k
theorem gw_astore9 {Γ : ow_Cx → Prop} {own : String} {cc : ByteArray} {nL pc : Nat} {st : List Value} {M : ow_M} {a0 : Option Value} {a1 : Option Value} {a2 : Option Value} {a3 : Option Value} {a4 : Option Value} {a5 : Option Value} {a6 : Option Value} {a7 : Option Value} {a8 : Option Value} {b0 : Option Value} {u : List (Option Value)} {x : Nat} (hd : decode cc pc = .ok (.astore 9, 2)) (hn : 9 < nL) (hc : ow_k1 a8 = true) (k : ow_G Γ own cc nL (pc + 2) (a0 :: a1 :: a2 :: a3 :: a4 :: a5 :: a6 :: a7 :: a8 :: some (.ref x) :: u) st M) : ow_G Γ own cc nL pc (a0 :: a1 :: a2 :: a3 :: a4 :: a5 :: a6 :: a7 :: a8 :: b0 :: u) (.ref x :: st) M := gw_astore (ls := (a0 :: a1 :: a2 :: a3 :: a4 :: a5 :: a6 :: a7 :: a8 :: b0 :: u)) hd hn hc k
theorem gw_aload10 {Γ : ow_Cx → Prop} {own : String} {cc : ByteArray} {nL pc : Nat} {st : List Value} {M : ow_M} {a0 : Option Value} {a1 : Option Value} {a2 : Option Value} {a3 : Option Value} {a4 : Option Value} {a5 : Option Value} {a6 : Option Value} {a7 : Option Value} {a8 : Option Value} {a9 : Option Value} {u : List (Option Value)} {x : Nat} (hd : decode cc pc = .ok (.aload 10, 2)) (k : ow_G Γ own cc nL (pc + 2) (a0 :: a1 :: a2 :: a3 :: a4 :: a5 :: a6 :: a7 :: a8 :: a9 :: some (.ref x) :: u) (.ref x :: st) M) : ow_G Γ own cc nL pc (a0 :: a1 :: a2 :: a3 :: a4 :: a5 :: a6 :: a7 :: a8 :: a9 :: some (.ref x) :: u) st M := gw_aload (ls := (a0 :: a1 :: a2 :: a3 :: a4 :: a5 :: a6 :: a7 :: a8 :: a9 :: some (.ref x) :: u)) hd rfl k
theorem gw_astore10 {Γ : ow_Cx → Prop} {own : String} {cc : ByteArray} {nL pc : Nat} {st : List Value} {M : ow_M} {a0 : Option Value} {a1 : Option Value} {a2 : Option Value} {a3 : Option Value} {a4 : Option Value} {a5 : Option Value} {a6 : Option Value} {a7 : Option Value} {a8 : Option Value} {a9 : Option Value} {b0 : Option Value} {u : List (Option Value)} {x : Nat} (hd : decode cc pc = .ok (.astore 10, 2)) (hn : 10 < nL) (hc : ow_k1 a9 = true) (k : ow_G Γ own cc nL (pc + 2) (a0 :: a1 :: a2 :: a3 :: a4 :: a5 :: a6 :: a7 :: a8 :: a9 :: some (.ref x) :: u) st M) : ow_G Γ own cc nL pc (a0 :: a1 :: a2 :: a3 :: a4 :: a5 :: a6 :: a7 :: a8 :: a9 :: b0 :: u) (.ref x :: st) M := gw_astore (ls := (a0 :: a1 :: a2 :: a3 :: a4 :: a5 :: a6 :: a7 :: a8 :: a9 :: b0 :: u)) hd hn hc k
theorem gw_aload11 {Γ : ow_Cx → Prop} {own : String} {cc : ByteArray} {nL pc : Nat} {st : List Value} {M : ow_M} {a0 : Option Value} {a1 : Option Value} {a2 : Option Value} {a3 : Option Value} {a4 : Option Value} {a5 : Option Value} {a6 : Option Value} {a7 : Option Value} {a8 : Option Value} {a9 : Option Value} {a10 : Option Value} {u : List (Option Value)} {x : Nat} (hd : decode cc pc = .ok (.aload 11, 2)) (k : ow_G Γ own cc nL (pc + 2) (a0 :: a1 :: a2 :: a3 :: a4 :: a5 :: a6 :: a7 :: a8 :: a9 :: a10 :: some (.ref x) :: u) (.ref x :: st) M) : ow_G Γ own cc nL pc (a0 :: a1 :: a2 :: a3 :: a4 :: a5 :: a6 :: a7 :: a8 :: a9 :: a10 :: some (.ref x) :: u) st M := gw_aload (ls := (a0 :: a1 :: a2 :: a3 :: a4 :: a5 :: a6 :: a7 :: a8 :: a9 :: a10 :: some (.ref x) :: u)) hd rfl k
theorem gw_astore11 {Γ : ow_Cx → Prop} {own : String} {cc : ByteArray} {nL pc : Nat} {st : List Value} {M : ow_M} {a0 : Option Value} {a1 : Option Value} {a2 : Option Value} {a3 : Option Value} {a4 : Option Value} {a5 : Option Value} {a6 : Option Value} {a7 : Option Value} {a8 : Option Value} {a9 : Option Value} {a10 : Option Value} {b0 : Option Value} {u : List (Option Value)} {x : Nat} (hd : decode cc pc = .ok (.astore 11, 2)) (hn : 11 < nL) (hc : ow_k1 a10 = true) (k : ow_G Γ own cc nL (pc + 2) (a0 :: a1 :: a2 :: a3 :: a4 :: a5 :: a6 :: a7 :: a8 :: a9 :: a10 :: some (.ref x) :: u) st M) : ow_G Γ own cc nL pc (a0 :: a1 :: a2 :: a3 :: a4 :: a5 :: a6 :: a7 :: a8 :: a9 :: a10 :: b0 :: u) (.ref x :: st) M := gw_astore (ls := (a0 :: a1 :: a2 :: a3 :: a4 :: a5 :: a6 :: a7 :: a8 :: a9 :: a10 :: b0 :: u)) hd hn hc k
theorem gw_aload12 {Γ : ow_Cx → Prop} {own : String} {cc : ByteArray} {nL pc : Nat} {st : List Value} {M : ow_M} {a0 : Option Value} {a1 : Option Value} {a2 : Option Value} {a3 : Option Value} {a4 : Option Value} {a5 : Option Value} {a6 : Option Value} {a7 : Option Value} {a8 : Option Value} {a9 : Option Value} {a10 : Option Value} {a11 : Option Value} {u : List (Option Value)} {x : Nat} (hd : decode cc pc = .ok (.aload 12, 2)) (k : ow_G Γ own cc nL (pc + 2) (a0 :: a1 :: a2 :: a3 :: a4 :: a5 :: a6 :: a7 :: a8 :: a9 :: a10 :: a11 :: some (.ref x) :: u) (.ref x :: st) M) : ow_G Γ own cc nL pc (a0 :: a1 :: a2 :: a3 :: a4 :: a5 :: a6 :: a7 :: a8 :: a9 :: a10 :: a11 :: some (.ref x) :: u) st M := gw_aload (ls := (a0 :: a1 :: a2 :: a3 :: a4 :: a5 :: a6 :: a7 :: a8 :: a9 :: a10 :: a11 :: some (.ref x) :: u)) hd rfl k
theorem gw_astore12 {Γ : ow_Cx → Prop} {own : String} {cc : ByteArray} {nL pc : Nat} {st : List Value} {M : ow_M} {a0 : Option Value} {a1 : Option Value} {a2 : Option Value} {a3 : Option Value} {a4 : Option Value} {a5 : Option Value} {a6 : Option Value} {a7 : Option Value} {a8 : Option Value} {a9 : Option Value} {a10 : Option Value} {a11 : Option Value} {b0 : Option Value} {u : List (Option Value)} {x : Nat} (hd : decode cc pc = .ok (.astore 12, 2)) (hn : 12 < nL) (hc : ow_k1 a11 = true) (k : ow_G Γ own cc nL (pc + 2) (a0 :: a1 :: a2 :: a3 :: a4 :: a5 :: a6 :: a7 :: a8 :: a9 :: a10 :: a11 :: some (.ref x) :: u) st M) : ow_G Γ own cc nL pc (a0 :: a1 :: a2 :: a3 :: a4 :: a5 :: a6 :: a7 :: a8 :: a9 :: a10 :: a11 :: b0 :: u) (.ref x :: st) M := gw_astore (ls := (a0 :: a1 :: a2 :: a3 :: a4 :: a5 :: a6 :: a7 :: a8 :: a9 :: a10 :: a11 :: b0 :: u)) hd hn hc k
theorem gw_aload13 {Γ : ow_Cx → Prop} {own : String} {cc : ByteArray} {nL pc : Nat} {st : List Value} {M : ow_M} {a0 : Option Value} {a1 : Option Value} {a2 : Option Value} {a3 : Option Value} {a4 : Option Value} {a5 : Option Value} {a6 : Option Value} {a7 : Option Value} {a8 : Option Value} {a9 : Option Value} {a10 : Option Value} {a11 : Option Value} {a12 : Option Value} {u : List (Option Value)} {x : Nat} (hd : decode cc pc = .ok (.aload 13, 2)) (k : ow_G Γ own cc nL (pc + 2) (a0 :: a1 :: a2 :: a3 :: a4 :: a5 :: a6 :: a7 :: a8 :: a9 :: a10 :: a11 :: a12 :: some (.ref x) :: u) (.ref x :: st) M) : ow_G Γ own cc nL pc (a0 :: a1 :: a2 :: a3 :: a4 :: a5 :: a6 :: a7 :: a8 :: a9 :: a10 :: a11 :: a12 :: some (.ref x) :: u) st M := gw_aload (ls := (a0 :: a1 :: a2 :: a3 :: a4 :: a5 :: a6 :: a7 :: a8 :: a9 :: a10 :: a11 :: a12 :: some (.ref x) :: u)) hd rfl k
theorem gw_astore13 {Γ : ow_Cx → Prop} {own : String} {cc : ByteArray} {nL pc : Nat} {st : List Value} {M : ow_M} {a0 : Option Value} {a1 : Option Value} {a2 : Option Value} {a3 : Option Value} {a4 : Option Value} {a5 : Option Value} {a6 : Option Value} {a7 : Option Value} {a8 : Option Value} {a9 : Option Value} {a10 : Option Value} {a11 : Option Value} {a12 : Option Value} {b0 : Option Value} {u : List (Option Value)} {x : Nat} (hd : decode cc pc = .ok (.astore 13, 2)) (hn : 13 < nL) (hc : ow_k1 a12 = true) (k : ow_G Γ own cc nL (pc + 2) (a0 :: a1 :: a2 :: a3 :: a4 :: a5 :: a6 :: a7 :: a8 :: a9 :: a10 :: a11 :: a12 :: some (.ref x) :: u) st M) : ow_G Γ own cc nL pc (a0 :: a1 :: a2 :: a3 :: a4 :: a5 :: a6 :: a7 :: a8 :: a9 :: a10 :: a11 :: a12 :: b0 :: u) (.ref x :: st) M := gw_astore (ls := (a0 :: a1 :: a2 :: a3 :: a4 :: a5 :: a6 :: a7 :: a8 :: a9 :: a10 :: a11 :: a12 :: b0 :: u)) hd hn hc k
theorem gw_iinc0 {Γ : ow_Cx → Prop} {own : String} {cc : ByteArray} {nL pc : Nat} {st : List Value} {M : ow_M} {u : List (Option Value)} {n : Int} {x : Int32} (v : Int32) (hd : decode cc pc = .ok (.iinc 0 n, 3)) (hn : 0 < nL) (hv : Int32.ofInt n = v) (k : ow_G Γ own cc nL (pc + 3) (some (.int (x + v)) :: u) st M) : ow_G Γ own cc nL pc (some (.int x) :: u) st M := gw_iinc (ls := (some (.int x) :: u)) (x + v) hd hn rfl rfl (by rw [hv]) k
theorem gw_iinc1 {Γ : ow_Cx → Prop} {own : String} {cc : ByteArray} {nL pc : Nat} {st : List Value} {M : ow_M} {a0 : Option Value} {u : List (Option Value)} {n : Int} {x : Int32} (v : Int32) (hd : decode cc pc = .ok (.iinc 1 n, 3)) (hn : 1 < nL) (hc : ow_k1 a0 = true) (hv : Int32.ofInt n = v) (k : ow_G Γ own cc nL (pc + 3) (a0 :: some (.int (x + v)) :: u) st M) : ow_G Γ own cc nL pc (a0 :: some (.int x) :: u) st M := gw_iinc (ls := (a0 :: some (.int x) :: u)) (x + v) hd hn hc rfl (by rw [hv]) k
theorem gw_iinc2 {Γ : ow_Cx → Prop} {own : String} {cc : ByteArray} {nL pc : Nat} {st : List Value} {M : ow_M} {a0 : Option Value} {a1 : Option Value} {u : List (Option Value)} {n : Int} {x : Int32} (v : Int32) (hd : decode cc pc = .ok (.iinc 2 n, 3)) (hn : 2 < nL) (hc : ow_k1 a1 = true) (hv : Int32.ofInt n = v) (k : ow_G Γ own cc nL (pc + 3) (a0 :: a1 :: some (.int (x + v)) :: u) st M) : ow_G Γ own cc nL pc (a0 :: a1 :: some (.int x) :: u) st M := gw_iinc (ls := (a0 :: a1 :: some (.int x) :: u)) (x + v) hd hn hc rfl (by rw [hv]) k
theorem gw_iinc3 {Γ : ow_Cx → Prop} {own : String} {cc : ByteArray} {nL pc : Nat} {st : List Value} {M : ow_M} {a0 : Option Value} {a1 : Option Value} {a2 : Option Value} {u : List (Option Value)} {n : Int} {x : Int32} (v : Int32) (hd : decode cc pc = .ok (.iinc 3 n, 3)) (hn : 3 < nL) (hc : ow_k1 a2 = true) (hv : Int32.ofInt n = v) (k : ow_G Γ own cc nL (pc + 3) (a0 :: a1 :: a2 :: some (.int (x + v)) :: u) st M) : ow_G Γ own cc nL pc (a0 :: a1 :: a2 :: some (.int x) :: u) st M := gw_iinc (ls := (a0 :: a1 :: a2 :: some (.int x) :: u)) (x + v) hd hn hc rfl (by rw [hv]) k
theorem gw_iinc4 {Γ : ow_Cx → Prop} {own : String} {cc : ByteArray} {nL pc : Nat} {st : List Value} {M : ow_M} {a0 : Option Value} {a1 : Option Value} {a2 : Option Value} {a3 : Option Value} {u : List (Option Value)} {n : Int} {x : Int32} (v : Int32) (hd : decode cc pc = .ok (.iinc 4 n, 3)) (hn : 4 < nL) (hc : ow_k1 a3 = true) (hv : Int32.ofInt n = v) (k : ow_G Γ own cc nL (pc + 3) (a0 :: a1 :: a2 :: a3 :: some (.int (x + v)) :: u) st M) : ow_G Γ own cc nL pc (a0 :: a1 :: a2 :: a3 :: some (.int x) :: u) st M := gw_iinc (ls := (a0 :: a1 :: a2 :: a3 :: some (.int x) :: u)) (x + v) hd hn hc rfl (by rw [hv]) k
theorem gw_iinc5 {Γ : ow_Cx → Prop} {own : String} {cc : ByteArray} {nL pc : Nat} {st : List Value} {M : ow_M} {a0 : Option Value} {a1 : Option Value} {a2 : Option Value} {a3 : Option Value} {a4 : Option Value} {u : List (Option Value)} {n : Int} {x : Int32} (v : Int32) (hd : decode cc pc = .ok (.iinc 5 n, 3)) (hn : 5 < nL) (hc : ow_k1 a4 = true) (hv : Int32.ofInt n = v) (k : ow_G Γ own cc nL (pc + 3) (a0 :: a1 :: a2 :: a3 :: a4 :: some (.int (x + v)) :: u) st M) : ow_G Γ own cc nL pc (a0 :: a1 :: a2 :: a3 :: a4 :: some (.int x) :: u) st M := gw_iinc (ls := (a0 :: a1 :: a2 :: a3 :: a4 :: some (.int x) :: u)) (x + v) hd hn hc rfl (by rw [hv]) k
theorem gw_iinc6 {Γ : ow_Cx → Prop} {own : String} {cc : ByteArray} {nL pc : Nat} {st : List Value} {M : ow_M} {a0 : Option Value} {a1 : Option Value} {a2 : Option Value} {a3 : Option Value} {a4 : Option Value} {a5 : Option Value} {u : List (Option Value)} {n : Int} {x : Int32} (v : Int32) (hd : decode cc pc = .ok (.iinc 6 n, 3)) (hn : 6 < nL) (hc : ow_k1 a5 = true) (hv : Int32.ofInt n = v) (k : ow_G Γ own cc nL (pc + 3) (a0 :: a1 :: a2 :: a3 :: a4 :: a5 :: some (.int (x + v)) :: u) st M) : ow_G Γ own cc nL pc (a0 :: a1 :: a2 :: a3 :: a4 :: a5 :: some (.int x) :: u) st M := gw_iinc (ls := (a0 :: a1 :: a2 :: a3 :: a4 :: a5 :: some (.int x) :: u)) (x + v) hd hn hc rfl (by rw [hv]) k
theorem gw_iinc7 {Γ : ow_Cx → Prop} {own : String} {cc : ByteArray} {nL pc : Nat} {st : List Value} {M : ow_M} {a0 : Option Value} {a1 : Option Value} {a2 : Option Value} {a3 : Option Value} {a4 : Option Value} {a5 : Option Value} {a6 : Option Value} {u : List (Option Value)} {n : Int} {x : Int32} (v : Int32) (hd : decode cc pc = .ok (.iinc 7 n, 3)) (hn : 7 < nL) (hc : ow_k1 a6 = true) (hv : Int32.ofInt n = v) (k : ow_G Γ own cc nL (pc + 3) (a0 :: a1 :: a2 :: a3 :: a4 :: a5 :: a6 :: some (.int (x + v)) :: u) st M) : ow_G Γ own cc nL pc (a0 :: a1 :: a2 :: a3 :: a4 :: a5 :: a6 :: some (.int x) :: u) st M := gw_iinc (ls := (a0 :: a1 :: a2 :: a3 :: a4 :: a5 :: a6 :: some (.int x) :: u)) (x + v) hd hn hc rfl (by rw [hv]) k
theorem gw_iinc8 {Γ : ow_Cx → Prop} {own : String} {cc : ByteArray} {nL pc : Nat} {st : List Value} {M : ow_M} {a0 : Option Value} {a1 : Option Value} {a2 : Option Value} {a3 : Option Value} {a4 : Option Value} {a5 : Option Value} {a6 : Option Value} {a7 : Option Value} {u : List (Option Value)} {n : Int} {x : Int32} (v : Int32) (hd : decode cc pc = .ok (.iinc 8 n, 3)) (hn : 8 < nL) (hc : ow_k1 a7 = true) (hv : Int32.ofInt n = v) (k : ow_G Γ own cc nL (pc + 3) (a0 :: a1 :: a2 :: a3 :: a4 :: a5 :: a6 :: a7 :: some (.int (x + v)) :: u) st M) : ow_G Γ own cc nL pc (a0 :: a1 :: a2 :: a3 :: a4 :: a5 :: a6 :: a7 :: some (.int x) :: u) st M := gw_iinc (ls := (a0 :: a1 :: a2 :: a3 :: a4 :: a5 :: a6 :: a7 :: some (.int x) :: u)) (x + v) hd hn hc rfl (by rw [hv]) k
theorem gw_iinc9 {Γ : ow_Cx → Prop} {own : String} {cc : ByteArray} {nL pc : Nat} {st : List Value} {M : ow_M} {a0 : Option Value} {a1 : Option Value} {a2 : Option Value} {a3 : Option Value} {a4 : Option Value} {a5 : Option Value} {a6 : Option Value} {a7 : Option Value} {a8 : Option Value} {u : List (Option Value)} {n : Int} {x : Int32} (v : Int32) (hd : decode cc pc = .ok (.iinc 9 n, 3)) (hn : 9 < nL) (hc : ow_k1 a8 = true) (hv : Int32.ofInt n = v) (k : ow_G Γ own cc nL (pc + 3) (a0 :: a1 :: a2 :: a3 :: a4 :: a5 :: a6 :: a7 :: a8 :: some (.int (x + v)) :: u) st M) : ow_G Γ own cc nL pc (a0 :: a1 :: a2 :: a3 :: a4 :: a5 :: a6 :: a7 :: a8 :: some (.int x) :: u) st M := gw_iinc (ls := (a0 :: a1 :: a2 :: a3 :: a4 :: a5 :: a6 :: a7 :: a8 :: some (.int x) :: u)) (x + v) hd hn hc rfl (by rw [hv]) k
theorem gw_iinc10 {Γ : ow_Cx → Prop} {own : String} {cc : ByteArray} {nL pc : Nat} {st : List Value} {M : ow_M} {a0 : Option Value} {a1 : Option Value} {a2 : Option Value} {a3 : Option Value} {a4 : Option Value} {a5 : Option Value} {a6 : Option Value} {a7 : Option Value} {a8 : Option Value} {a9 : Option Value} {u : List (Option Value)} {n : Int} {x : Int32} (v : Int32) (hd : decode cc pc = .ok (.iinc 10 n, 3)) (hn : 10 < nL) (hc : ow_k1 a9 = true) (hv : Int32.ofInt n = v) (k : ow_G Γ own cc nL (pc + 3) (a0 :: a1 :: a2 :: a3 :: a4 :: a5 :: a6 :: a7 :: a8 :: a9 :: some (.int (x + v)) :: u) st M) : ow_G Γ own cc nL pc (a0 :: a1 :: a2 :: a3 :: a4 :: a5 :: a6 :: a7 :: a8 :: a9 :: some (.int x) :: u) st M := gw_iinc (ls := (a0 :: a1 :: a2 :: a3 :: a4 :: a5 :: a6 :: a7 :: a8 :: a9 :: some (.int x) :: u)) (x + v) hd hn hc rfl (by rw [hv]) k
theorem gw_iinc11 {Γ : ow_Cx → Prop} {own : String} {cc : ByteArray} {nL pc : Nat} {st : List Value} {M : ow_M} {a0 : Option Value} {a1 : Option Value} {a2 : Option Value} {a3 : Option Value} {a4 : Option Value} {a5 : Option Value} {a6 : Option Value} {a7 : Option Value} {a8 : Option Value} {a9 : Option Value} {a10 : Option Value} {u : List (Option Value)} {n : Int} {x : Int32} (v : Int32) (hd : decode cc pc = .ok (.iinc 11 n, 3)) (hn : 11 < nL) (hc : ow_k1 a10 = true) (hv : Int32.ofInt n = v) (k : ow_G Γ own cc nL (pc + 3) (a0 :: a1 :: a2 :: a3 :: a4 :: a5 :: a6 :: a7 :: a8 :: a9 :: a10 :: some (.int (x + v)) :: u) st M) : ow_G Γ own cc nL pc (a0 :: a1 :: a2 :: a3 :: a4 :: a5 :: a6 :: a7 :: a8 :: a9 :: a10 :: some (.int x) :: u) st M := gw_iinc (ls := (a0 :: a1 :: a2 :: a3 :: a4 :: a5 :: a6 :: a7 :: a8 :: a9 :: a10 :: some (.int x) :: u)) (x + v) hd hn hc rfl (by rw [hv]) k
theorem gw_iinc12 {Γ : ow_Cx → Prop} {own : String} {cc : ByteArray} {nL pc : Nat} {st : List Value} {M : ow_M} {a0 : Option Value} {a1 : Option Value} {a2 : Option Value} {a3 : Option Value} {a4 : Option Value} {a5 : Option Value} {a6 : Option Value} {a7 : Option Value} {a8 : Option Value} {a9 : Option Value} {a10 : Option Value} {a11 : Option Value} {u : List (Option Value)} {n : Int} {x : Int32} (v : Int32) (hd : decode cc pc = .ok (.iinc 12 n, 3)) (hn : 12 < nL) (hc : ow_k1 a11 = true) (hv : Int32.ofInt n = v) (k : ow_G Γ own cc nL (pc + 3) (a0 :: a1 :: a2 :: a3 :: a4 :: a5 :: a6 :: a7 :: a8 :: a9 :: a10 :: a11 :: some (.int (x + v)) :: u) st M) : ow_G Γ own cc nL pc (a0 :: a1 :: a2 :: a3 :: a4 :: a5 :: a6 :: a7 :: a8 :: a9 :: a10 :: a11 :: some (.int x) :: u) st M := gw_iinc (ls := (a0 :: a1 :: a2 :: a3 :: a4 :: a5 :: a6 :: a7 :: a8 :: a9 :: a10 :: a11 :: some (.int x) :: u)) (x + v) hd hn hc rfl (by rw [hv]) k
theorem gw_iinc13 {Γ : ow_Cx → Prop} {own : String} {cc : ByteArray} {nL pc : Nat} {st : List Value} {M : ow_M} {a0 : Option Value} {a1 : Option Value} {a2 : Option Value} {a3 : Option Value} {a4 : Option Value} {a5 : Option Value} {a6 : Option Value} {a7 : Option Value} {a8 : Option Value} {a9 : Option Value} {a10 : Option Value} {a11 : Option Value} {a12 : Option Value} {u : List (Option Value)} {n : Int} {x : Int32} (v : Int32) (hd : decode cc pc = .ok (.iinc 13 n, 3)) (hn : 13 < nL) (hc : ow_k1 a12 = true) (hv : Int32.ofInt n = v) (k : ow_G Γ own cc nL (pc + 3) (a0 :: a1 :: a2 :: a3 :: a4 :: a5 :: a6 :: a7 :: a8 :: a9 :: a10 :: a11 :: a12 :: some (.int (x + v)) :: u) st M) : ow_G Γ own cc nL pc (a0 :: a1 :: a2 :: a3 :: a4 :: a5 :: a6 :: a7 :: a8 :: a9 :: a10 :: a11 :: a12 :: some (.int x) :: u) st M := gw_iinc (ls := (a0 :: a1 :: a2 :: a3 :: a4 :: a5 :: a6 :: a7 :: a8 :: a9 :: a10 :: a11 :: a12 :: some (.int x) :: u)) (x + v) hd hn hc rfl (by rw [hv]) k
def ow_le : List (Option Value) → List (Option Value) → Prop
  | [], _ => True
  | none :: t, _ :: u => ow_le t u
  | some v :: t, some x :: u => v = x ∧ ow_le t u
  | _, _ => False
theorem ow_le_get : ∀ {a b : List (Option Value)}, ow_le a b → ∀ {i : Nat} {v : Value}, a[i]? = some (some v) → b[i]? = some (some v) := by
  intro a
  induction a with
  | nil => intro b _ i v h; simp at h
  | cons x t ih =>
    intro b hb i v h
    cases b with
    | nil => cases x <;> exact hb.elim
    | cons z u =>
      cases x with
      | none =>
        cases i with
        | zero => simp at h
        | succ i => exact ih (b := u) hb (by simpa using h)
      | some x =>
        cases z with
        | none => exact hb.elim
        | some z =>
          cases i with
          | zero => simp at h ⊢; rw [← h]; exact hb.1.symm
          | succ i => exact ih (b := u) hb.2 (by simpa using h)
theorem gw_drop {Γ : ow_Cx → Prop} {own : String} {cc : ByteArray} {nL pc : Nat} {ls : List (Option Value)} {st : List Value} {M : ow_M} {ls2 : List (Option Value)} (h : ow_le ls2 ls) (k : ow_G Γ own cc nL pc ls2 st M) : ow_G Γ own cc nL pc ls st M := by
  intro p l e R s m args below meth c cells slots Z cI ad D A hΓ X H locs lsA hP hD hS hl
  refine k p l e R s m args below meth c cells slots Z cI ad D A hΓ X H locs lsA hP hD hS (ow_has_mono hl fun q hq => ?_)
  obtain ⟨i, v, rfl, h1⟩ := ow_lv_inv hq
  exact ow_lv_mem (ow_le_get h h1)
def ow_CF (C : String) (T : u_T) (N : Nat) : Prop := (∀ w ∈ u_ws C T N, w ∈ ow_base) ∧ ∃ ty0 : Nat → FieldType, (∀ k, k < N → parseFieldDescriptor (T k).2.2.1 = some (ty0 k)) ∧ ∀ a, a < N → ∀ b, b < N → a ≠ b → (T a).2.1 ≠ (T b).2.1
def ow_fl (own : String) (idx ci k : Nat) : Prop := ∃ (C : String) (T : u_T) (N : Nat), vwCl[ci]? = some (C, T, N) ∧ ow_CF C T N ∧ k < N ∧ (T k).1 = C ∧ (Cond.fieldLink own idx C (T k).2.1 (T k).2.2.1 ∈ ow_base ∨ ∃ host, Cond.fieldLinkNest own idx C (T k).2.1 (T k).2.2.1 host ∈ ow_nest)
def ow_fp (ci k : Nat) (ty : FieldType) : Prop := ∃ (C : String) (T : u_T) (N : Nat), vwCl[ci]? = some (C, T, N) ∧ (T k).2.2.2 = false ∧ parseFieldDescriptor (T k).2.2.1 = some ty
theorem gw_get {Γ : ow_Cx → Prop} {own : String} {cc : ByteArray} {nL pc : Nat} {ls : List (Option Value)} {st : List Value} {M : ow_M} {idx o ci j : Nat} {fs : List (Option Nat)} {x : Option Nat} {v : Value} (hd : decode cc pc = .ok (.getfield idx, 3)) (hf : ow_fl own idx ci j) (hs : ow_sh[o]? = some (.inr (ci, fs))) (hj : fs[j]? = some x) (hv : ∀ ad, ow_v ad v = ow_fv ad (M.1 o) j x) (k : ow_G Γ own cc nL (pc + 3) ls (v :: st) M) : ow_G Γ own cc nL pc ls (.ref o :: st) M := by
  intro p l e R s m args below meth c cells slots Z cI ad D A hΓ X H locs lsA hP hD hS hl
  obtain ⟨C, T, N, h1, h2, h3, h4, h5⟩ := hf
  have hg := ow_fs_get (ad := ad) (f := M.1 o) hj
  rcases h5 with h5 | ⟨host, h5⟩
  · exact va_get X.1 X.2.1 X.2.2.2.2.1 h2.1 X.2.2.2.1 X.2.2.2.2.2.2.1 hP o (ow_w_get hs) h1 j h3 (X.2.2.2.2.1 _ h5) (by rw [h4]; exact fun _ h => h) (v := ow_v ad v) (by rw [hv ad]; exact hg) hd (k p l e R s m args below meth c cells slots Z cI ad D A hΓ X H locs lsA hP hD hS hl)
  · exact va_getN X.1 X.2.1 X.2.2.2.2.1 h2.1 X.2.2.2.1 X.2.2.2.2.2.2.1 hP o (ow_w_get hs) h1 j h3 (va_Nw.use rfl (X.2.2.2.2.2.1 _ h5)) (by rw [h4]; exact fun _ h => h) (v := ow_v ad v) (by rw [hv ad]; exact hg) hd (k p l e R s m args below meth c cells slots Z cI ad D A hΓ X H locs lsA hP hD hS hl)
theorem gw_getI {Γ : ow_Cx → Prop} {own : String} {cc : ByteArray} {nL pc : Nat} {ls : List (Option Value)} {st : List Value} {M : ow_M} {idx o ci j : Nat} {fs : List (Option Nat)} (hd : decode cc pc = .ok (.getfield idx, 3)) (hf : ow_fl own idx ci j) (hs : ow_sh[o]? = some (.inr (ci, fs))) (hj : fs[j]? = some none) (k : ow_G Γ own cc nL (pc + 3) ls (.int (M.1 o j) :: st) M) : ow_G Γ own cc nL pc ls (.ref o :: st) M := gw_get hd hf hs hj (fun _ => rfl) k
theorem gw_getR {Γ : ow_Cx → Prop} {own : String} {cc : ByteArray} {nL pc : Nat} {ls : List (Option Value)} {st : List Value} {M : ow_M} {idx o ci j r : Nat} {fs : List (Option Nat)} (hd : decode cc pc = .ok (.getfield idx, 3)) (hf : ow_fl own idx ci j) (hs : ow_sh[o]? = some (.inr (ci, fs))) (hj : fs[j]? = some (some r)) (k : ow_G Γ own cc nL (pc + 3) ls (.ref r :: st) M) : ow_G Γ own cc nL pc ls (.ref o :: st) M := gw_get hd hf hs hj (fun _ => rfl) k
theorem gw_put {Γ : ow_Cx → Prop} {own : String} {cc : ByteArray} {nL pc : Nat} {ls : List (Option Value)} {st : List Value} {M : ow_M} {idx o ci j : Nat} {fs : List (Option Nat)} {x : Int32} {ty : FieldType} (hd : decode cc pc = .ok (.putfield idx, 3)) (hf : ow_fl own idx ci j) (hp : ow_fp ci j ty) (hs : ow_sh[o]? = some (.inr (ci, fs))) (hj : fs[j]? = some none) (hn : narrow ty (.int x) = .int x) (hfit : fits ty (.int x) = true) (k : ow_G Γ own cc nL (pc + 3) ls st (ow_up M o j x)) : ow_G Γ own cc nL pc ls (.int x :: .ref o :: st) M := by
  intro p l e R s m args below meth c cells slots Z cI ad D A hΓ X H locs lsA hP hD hS hl
  obtain ⟨C, T, N, h1, h2, h3, h4, h5⟩ := hf
  obtain ⟨C2, T2, N2, g1, g2, g3⟩ := hp
  have e := Option.some.inj (g1.symm.trans h1)
  cases e
  obtain ⟨h2a, ty0, h2b, h2c⟩ := h2
  have hlen : j < (ow_fs ad (M.1 o) fs).length := by unfold ow_fs; rw [List.length_mapIdx]; exact (List.getElem?_eq_some_iff.mp hj).1
  have go : ∀ (H1 : Heap) (locs1 : List Loc), va_P D vwCl ((ow_w cI ad M).set o (ad o, .inr (ci, (ow_fs ad (M.1 o) fs).set j (.int x)))) H1 → va_D A ((ow_w cI ad M).set o (ad o, .inr (ci, (ow_fs ad (M.1 o) fs).set j (.int x)))) → va_S A s.heap H1 locs1 → W p l e R s m args below meth c H1 locs1 cells slots Z (F0 m (pc + 3) lsA (st.map (ow_v ad))) := by
    intro H1 locs1 hP1 hD1 hS1
    rw [ow_w_put hs hj] at hP1 hD1
    exact k p l e R s m args below meth c cells slots Z cI ad D A hΓ X H1 locs1 lsA hP1 hD1 hS1 hl
  rcases h5 with h5 | ⟨host, h5⟩
  · exact va_put X.1 X.2.1 X.2.2.2.2.1 h2a ty0 h2b h2c X.2.2.2.1 X.2.2.2.2.2.2.1 hP hD hS o (ow_w_get hs) h1 j h3 (X.2.2.2.2.1 _ h5) (by rw [h4]; exact fun _ h => h) g2 g3 hn hfit hlen hd go
  · exact va_putN X.1 X.2.1 X.2.2.2.2.1 h2a ty0 h2b h2c X.2.2.2.1 X.2.2.2.2.2.2.1 hP hD hS o (ow_w_get hs) h1 j h3 (va_Nw.use rfl (X.2.2.2.2.2.1 _ h5)) (by rw [h4]; exact fun _ h => h) g2 g3 hn hfit hlen hd go
theorem gw_putI {Γ : ow_Cx → Prop} {own : String} {cc : ByteArray} {nL pc : Nat} {ls : List (Option Value)} {st : List Value} {M : ow_M} {idx o ci j : Nat} {fs : List (Option Nat)} {x : Int32} (hd : decode cc pc = .ok (.putfield idx, 3)) (hf : ow_fl own idx ci j) (hp : ow_fp ci j .int) (hs : ow_sh[o]? = some (.inr (ci, fs))) (hj : fs[j]? = some none) (k : ow_G Γ own cc nL (pc + 3) ls st (ow_up M o j x)) : ow_G Γ own cc nL pc ls (.int x :: .ref o :: st) M := gw_put hd hf hp hs hj rfl rfl k
def ow_bit (v : Int32) : Prop := v = 0 ∨ v = 1
theorem gw_putZ {Γ : ow_Cx → Prop} {own : String} {cc : ByteArray} {nL pc : Nat} {ls : List (Option Value)} {st : List Value} {M : ow_M} {idx o ci j : Nat} {fs : List (Option Nat)} {x : Int32} (hd : decode cc pc = .ok (.putfield idx, 3)) (hf : ow_fl own idx ci j) (hp : ow_fp ci j .boolean) (hs : ow_sh[o]? = some (.inr (ci, fs))) (hj : fs[j]? = some none) (hb : ow_bit x) (k : ow_G Γ own cc nL (pc + 3) ls st (ow_up M o j x)) : ow_G Γ own cc nL pc ls (.int x :: .ref o :: st) M := gw_put hd hf hp hs hj (by rcases hb with h | h <;> subst h <;> decide +kernel) (by rcases hb with h | h <;> subst h <;> decide +kernel) k
def ow_in (i : Int32) (n : Nat) : Prop := vp_in i n
theorem gw_iald {Γ : ow_Cx → Prop} {own : String} {cc : ByteArray} {nL pc : Nat} {ls : List (Option Value)} {st : List Value} {M : ow_M} {o n : Nat} {i : Int32} (hd : decode cc pc = .ok (.iaload, 1)) (hs : ow_sh[o]? = some (.inl (0, n))) (hi : vp_in i n) (k : ow_G Γ own cc nL (pc + 1) ls (.int (M.1 o i.toNatClampNeg) :: st) M) : ow_G Γ own cc nL pc ls (.int i :: .ref o :: st) M := by
  intro p l e R s m args below meth c cells slots Z cI ad D A hΓ X H locs lsA hP hD hS hl
  exact va_iald X.1 X.2.1 X.2.2.2.2.2.2.1 hP o 0 (ow_w_get hs) rfl hi hd (k p l e R s m args below meth c cells slots Z cI ad D A hΓ X H locs lsA hP hD hS hl)
theorem gw_zald {Γ : ow_Cx → Prop} {own : String} {cc : ByteArray} {nL pc : Nat} {ls : List (Option Value)} {st : List Value} {M : ow_M} {o n : Nat} {i : Int32} (hd : decode cc pc = .ok (.baload, 1)) (hs : ow_sh[o]? = some (.inl (1, n))) (hi : vp_in i n) (k : ow_G Γ own cc nL (pc + 1) ls (.int (M.1 o i.toNatClampNeg) :: st) M) : ow_G Γ own cc nL pc ls (.int i :: .ref o :: st) M := by
  intro p l e R s m args below meth c cells slots Z cI ad D A hΓ X H locs lsA hP hD hS hl
  exact va_zald X.1 X.2.1 X.2.2.2.2.2.2.1 hP o 1 (ow_w_get hs) rfl hi hd (k p l e R s m args below meth c cells slots Z cI ad D A hΓ X H locs lsA hP hD hS hl)
theorem gw_lald {Γ : ow_Cx → Prop} {own : String} {cc : ByteArray} {nL pc : Nat} {ls : List (Option Value)} {st : List Value} {M : ow_M} {o n : Nat} {i : Int32} (hd : decode cc pc = .ok (.laload, 1)) (hs : ow_sh[o]? = some (.inl (2, n))) (hi : vp_in i n) (k : ow_G Γ own cc nL (pc + 1) ls (.long (M.2 o i.toNatClampNeg) :: st) M) : ow_G Γ own cc nL pc ls (.int i :: .ref o :: st) M := by
  intro p l e R s m args below meth c cells slots Z cI ad D A hΓ X H locs lsA hP hD hS hl
  exact va_lald X.1 X.2.1 X.2.2.2.2.2.2.1 hP o 2 (ow_w_get hs) rfl hi hd (k p l e R s m args below meth c cells slots Z cI ad D A hΓ X H locs lsA hP hD hS hl)
theorem gw_aald {Γ : ow_Cx → Prop} {own : String} {cc : ByteArray} {nL pc : Nat} {ls : List (Option Value)} {st : List Value} {M : ow_M} {i : Int32} (hd : decode cc pc = .ok (.aaload, 1)) (hi : vp_in i 4) (k : ow_G Γ own cc nL (pc + 1) ls (.ref (26 + 2 * i.toNatClampNeg) :: st) M) : ow_G Γ own cc nL pc ls (.int i :: .ref 1 :: st) M := by
  intro p l e R s m args below meth c cells slots Z cI ad D A hΓ X H locs lsA hP hD hS hl
  exact va_aldq X.1 X.2.1 X.2.2.2.2.2.2.1 hP 1 3 (ow_w_get (sh := .inl (3, 4)) rfl) rfl hi hd (k p l e R s m args below meth c cells slots Z cI ad D A hΓ X H locs lsA hP hD hS hl)
theorem gw_alen {Γ : ow_Cx → Prop} {own : String} {cc : ByteArray} {nL pc : Nat} {ls : List (Option Value)} {st : List Value} {M : ow_M} {o t n : Nat} (v : Int32) (hd : decode cc pc = .ok (.arraylength, 1)) (hs : ow_sh[o]? = some (.inl (t, n))) (ht : Nat.ble t 3 = true) (hv : Int32.ofNat n = v) (k : ow_G Γ own cc nL (pc + 1) ls (.int v :: st) M) : ow_G Γ own cc nL pc ls (.ref o :: st) M := by
  intro p l e R s m args below meth c cells slots Z cI ad D A hΓ X H locs lsA hP hD hS hl
  have hk : ∀ t0 : Nat, t = t0 → Nat.ble t0 3 = true → (ow_tys cI)[t0]? = some ((ow_arr cI ad M o t0 n).1, match t0 with | 0 => .int | 1 => .boolean | 2 => .long | _ => .object "OneWire$Sheet") := by
    intro t0 _ h0
    match t0, h0 with
    | 0, _ => rfl
    | 1, _ => rfl
    | 2, _ => rfl
    | 3, _ => rfl
  have hn : (ow_arr cI ad M o t n).2.1 = n := by unfold ow_arr; split <;> rfl
  exact va_alen X.1 X.2.1 X.2.2.2.2.2.2.1 hP o t (ow_w_get hs) (hk t rfl ht) (by show Int32.ofNat (ow_arr cI ad M o t n).2.1 = v; rw [hn]; exact hv) hd (k p l e R s m args below meth c cells slots Z cI ad D A hΓ X H locs lsA hP hD hS hl)
theorem gw_iast {Γ : ow_Cx → Prop} {own : String} {cc : ByteArray} {nL pc : Nat} {ls : List (Option Value)} {st : List Value} {M : ow_M} {o n : Nat} {i x : Int32} (hd : decode cc pc = .ok (.iastore, 1)) (hs : ow_sh[o]? = some (.inl (0, n))) (hi : vp_in i n) (k : ow_G Γ own cc nL (pc + 1) ls st (ow_up M o i.toNatClampNeg x)) : ow_G Γ own cc nL pc ls (.int x :: .int i :: .ref o :: st) M := by
  intro p l e R s m args below meth c cells slots Z cI ad D A hΓ X H locs lsA hP hD hS hl
  refine va_iast X.1 X.2.1 X.2.2.2.2.2.2.1 hP hD hS o 0 (ow_w_get hs) rfl hi hd (fun H1 locs1 hP1 hD1 hS1 => ?_)
  rw [ow_w_putA hs] at hP1 hD1
  exact k p l e R s m args below meth c cells slots Z cI ad D A hΓ X H1 locs1 lsA hP1 hD1 hS1 hl
theorem gw_zast {Γ : ow_Cx → Prop} {own : String} {cc : ByteArray} {nL pc : Nat} {ls : List (Option Value)} {st : List Value} {M : ow_M} {o n : Nat} {i x : Int32} (hd : decode cc pc = .ok (.bastore, 1)) (hs : ow_sh[o]? = some (.inl (1, n))) (hi : vp_in i n) (k : ow_G Γ own cc nL (pc + 1) ls st (ow_up M o i.toNatClampNeg (vp_nar .boolean x))) : ow_G Γ own cc nL pc ls (.int x :: .int i :: .ref o :: st) M := by
  intro p l e R s m args below meth c cells slots Z cI ad D A hΓ X H locs lsA hP hD hS hl
  refine va_zast X.1 X.2.1 X.2.2.2.2.2.2.1 hP hD hS o 1 (ow_w_get hs) rfl hi hd (fun H1 locs1 hP1 hD1 hS1 => ?_)
  rw [ow_w_putZ hs] at hP1 hD1
  exact k p l e R s m args below meth c cells slots Z cI ad D A hΓ X H1 locs1 lsA hP1 hD1 hS1 hl
theorem gw_last {Γ : ow_Cx → Prop} {own : String} {cc : ByteArray} {nL pc : Nat} {ls : List (Option Value)} {st : List Value} {M : ow_M} {o n : Nat} {i : Int32} {x : Int64} (hd : decode cc pc = .ok (.lastore, 1)) (hs : ow_sh[o]? = some (.inl (2, n))) (hi : vp_in i n) (k : ow_G Γ own cc nL (pc + 1) ls st (ow_upL M o i.toNatClampNeg x)) : ow_G Γ own cc nL pc ls (.long x :: .int i :: .ref o :: st) M := by
  intro p l e R s m args below meth c cells slots Z cI ad D A hΓ X H locs lsA hP hD hS hl
  refine va_last X.1 X.2.1 X.2.2.2.2.2.2.1 hP hD hS o 2 (ow_w_get hs) rfl hi hd (fun H1 locs1 hP1 hD1 hS1 => ?_)
  rw [ow_w_putL hs] at hP1 hD1
  exact k p l e R s m args below meth c cells slots Z cI ad D A hΓ X H1 locs1 lsA hP1 hD1 hS1 hl
theorem gw_callS {Γ : ow_Cx → Prop} {own : String} {cc : ByteArray} {nL pc : Nat} {ls : List (Option Value)} {st : List Value} {M : ow_M} {l0 : Launch} {d idx : Nat} {y : MethodName} {cc2 : ByteArray} {nL2 n : Nat} {rt : Option FieldType} {As : List Value} {Q : Option Value → ow_M → Prop} (hd : decode cc pc = .ok (.invokestatic idx, 3)) (hlk : ow_lk own idx y) (ok : ow_okM y cc2 nL2 rt true n) (hR : ow_rmOk Γ l0 d nL2) (hM : ow_C l0 d y cc2 nL2 rt As M Q) (hn : As.length = n) (hr : (st.map fun v => v.category).sum ≤ 8) (k : ∀ r M2, Q r M2 → ow_G Γ own cc nL (pc + 3) ls (r.toList ++ st) M2) : ow_G Γ own cc nL pc ls (As.reverse ++ st) M := by
  intro p l e R s m args below meth c cells slots Z cI ad D A hΓ X H locs lsA hP hD hS hl
  obtain ⟨rfl, g1, g2, g3, g4⟩ := hR _ _ _ _ _ _ _ _ _ _ _ _ _ _ _ _ _ hΓ
  have hst : (As.reverse ++ st).map (ow_v ad) = (As.map (ow_v ad)).reverse ++ st.map (ow_v ad) := by rw [List.map_append, List.map_reverse]
  have hts := X.2.2.2.2.1
  have fin : va_Run p l e R s m args below meth c H locs cells slots 0 0 (F0 m pc lsA ((As.reverse ++ st).map (ow_v ad))) (st.map (ow_v ad)) (ow_Qc cI ad D Q (As.map (ow_v ad)).toArray) (ow_A ad) := by
    rcases hlk with hlk | ⟨host, hlk⟩
    · exact va_runS (As := As.map (ow_v ad)) ⟨X.1, X.2.1, X.2.2.1, X.2.2.2.1, hts⟩ (hM cI ad D) ⟨ow_cw hts ok hlk g1 g2, hts _ ok.2.2.2.2⟩ ⟨ow_blind, ow_pre hP hD X.2.2.2.2.2.2.1 X.2.2.2.2.2.1⟩ rfl (by rw [List.length_map]; exact hn) hl.1 hst (lv_room (ow_rest hr)) hd ⟨g3, g4⟩
    · exact va_runSN (As := As.map (ow_v ad)) ⟨X.1, X.2.1, X.2.2.1, X.2.2.2.1, hts⟩ (hM cI ad D) ⟨ow_cn hts X.2.2.2.2.2.1 ok hlk g1 g2, hts _ ok.2.2.2.2, trivial⟩ ⟨ow_blind, ow_pre hP hD X.2.2.2.2.2.2.1 X.2.2.2.2.2.1⟩ rfl (by rw [List.length_map]; exact hn) hl.1 hst (lv_room (ow_rest hr)) hd ⟨g3, g4⟩
  refine ow_after fin hS (ow_A_w hD) (fun r M2 H1 locs1 hq hP1 hS1 => ?_)
  have := (k r M2 hq p l e R s m args below meth c cells slots Z cI ad D A hΓ X H1 locs1 lsA hP1 (ow_D_any hD) hS1 hl)
  rw [List.map_append] at this
  cases r <;> exact this
theorem gw_callV {Γ : ow_Cx → Prop} {own : String} {cc : ByteArray} {nL pc : Nat} {ls : List (Option Value)} {st : List Value} {M : ow_M} {l0 : Launch} {d idx : Nat} {y : MethodName} {cc2 : ByteArray} {nL2 n : Nat} {rt : Option FieldType} {As : List Value} {Q : Option Value → ow_M → Prop} {o ci : Nat} {fs : List (Option Nat)} (hd : decode cc pc = .ok (.invokevirtual idx, 3)) (hlk : ow_lk own idx y) (ok : ow_okM y cc2 nL2 rt false n) (hR : ow_rmOk Γ l0 d nL2) (hs : ow_sh[o]? = some (.inr (ci, fs))) (hci : vwCl[ci]?.map (fun q => q.1) = some y.cls) (hM : ow_C l0 d y cc2 nL2 rt (.ref o :: As) M Q) (hn : As.length = n) (hr : (st.map fun v => v.category).sum ≤ 8) (k : ∀ r M2, Q r M2 → ow_G Γ own cc nL (pc + 3) ls (r.toList ++ st) M2) : ow_G Γ own cc nL pc ls (As.reverse ++ .ref o :: st) M := by
  intro p l e R s m args below meth c cells slots Z cI ad D A hΓ X H locs lsA hP hD hS hl
  obtain ⟨rfl, g1, g2, g3, g4⟩ := hR _ _ _ _ _ _ _ _ _ _ _ _ _ _ _ _ _ hΓ
  have hst : (As.reverse ++ .ref o :: st).map (ow_v ad) = (As.map (ow_v ad)).reverse ++ .ref (ad o) :: st.map (ow_v ad) := by rw [List.map_append, List.map_reverse]; rfl
  have hts := X.2.2.2.2.1
  have hcl : ∃ q : vw_C, vwCl[ci]? = some q ∧ q.1 = y.cls := by
    cases hq : vwCl[ci]? with
    | none => rw [hq] at hci; cases hci
    | some q => rw [hq] at hci; exact ⟨q, rfl, Option.some.inj hci⟩
  obtain ⟨q, hq1, hq2⟩ := hcl
  have hrec := va_recv X.2.2.2.2.2.2.1 hP hq1 (ow_w_get hs)
  rw [hq2] at hrec
  have fin : va_Run p l e R s m args below meth c H locs cells slots 0 0 (F0 m pc lsA ((As.reverse ++ .ref o :: st).map (ow_v ad))) (st.map (ow_v ad)) (ow_Qc cI ad D Q (Value.ref (ad o) :: As.map (ow_v ad)).toArray) (ow_A ad) := by
    rcases hlk with hlk | ⟨host, hlk⟩
    · exact va_runV (As := As.map (ow_v ad)) (b := ad o) ⟨X.1, X.2.1, X.2.2.1, X.2.2.2.1, hts⟩ (hM cI ad D) ⟨ow_cw hts ok hlk g1 g2, hts _ ok.2.2.2.2.1, hts _ ok.2.2.2.2.2⟩ ⟨ow_blind, hrec, ow_pre (As := .ref o :: As) hP hD X.2.2.2.2.2.2.1 X.2.2.2.2.2.1⟩ rfl (by rw [List.length_map]; exact hn) hl.1 hst (lv_room (ow_rest hr)) hd ⟨g3, g4⟩
    · exact va_runVN (As := As.map (ow_v ad)) (b := ad o) ⟨X.1, X.2.1, X.2.2.1, X.2.2.2.1, hts⟩ (hM cI ad D) ⟨ow_cn hts X.2.2.2.2.2.1 ok hlk g1 g2, hts _ ok.2.2.2.2.1, hts _ ok.2.2.2.2.2⟩ ⟨ow_blind, hrec, ow_pre (As := .ref o :: As) hP hD X.2.2.2.2.2.2.1 X.2.2.2.2.2.1⟩ rfl (by rw [List.length_map]; exact hn) hl.1 hst (lv_room (ow_rest hr)) hd ⟨g3, g4⟩
  refine ow_after fin hS (ow_A_w hD) (fun r M2 H1 locs1 hq hP1 hS1 => ?_)
  have := (k r M2 hq p l e R s m args below meth c cells slots Z cI ad D A hΓ X H1 locs1 lsA hP1 (ow_D_any hD) hS1 hl)
  rw [List.map_append] at this
  cases r <;> exact this
theorem gw_iret {l0 : Launch} {d : Nat} {Q : Option Value → ow_M → Prop} {own : String} {cc : ByteArray} {nL pc : Nat} {ls : List (Option Value)} {M : ow_M} {v : Int32} (hd : decode cc pc = .ok (.ireturn, 1)) (hQ : Q (some (.int v)) M) : ow_G (ow_Γ l0 d (some .int) Q) own cc nL pc ls [.int v] M := by
  intro p l e R s m args below meth c cells slots Z cI ad D A hΓ X H locs lsA hP hD hS hl
  obtain ⟨rfl, rfl, rfl, rfl, hr, rfl, rfl⟩ := hΓ
  exact W.iret X.1 X.2.1 hr (fun t ht _ => ⟨(some (.int v)), M, rfl, hQ, by rw [ht]; exact hP, hS.F ht⟩) hS.2.2 hd X.2.2.2.2.2.2.2
theorem gw_lret {l0 : Launch} {d : Nat} {Q : Option Value → ow_M → Prop} {own : String} {cc : ByteArray} {nL pc : Nat} {ls : List (Option Value)} {M : ow_M} {v : Int64} (hd : decode cc pc = .ok (.lreturn, 1)) (hQ : Q (some (.long v)) M) : ow_G (ow_Γ l0 d (some .long) Q) own cc nL pc ls [.long v] M := by
  intro p l e R s m args below meth c cells slots Z cI ad D A hΓ X H locs lsA hP hD hS hl
  obtain ⟨rfl, rfl, rfl, rfl, hr, rfl, rfl⟩ := hΓ
  exact W.lret X.1 X.2.1 hr (fun t ht _ => ⟨(some (.long v)), M, rfl, hQ, by rw [ht]; exact hP, hS.F ht⟩) hS.2.2 hd X.2.2.2.2.2.2.2
theorem gw_vret {l0 : Launch} {d : Nat} {Q : Option Value → ow_M → Prop} {own : String} {cc : ByteArray} {nL pc : Nat} {ls : List (Option Value)} {M : ow_M}  (hd : decode cc pc = .ok (.return_, 1)) (hQ : Q none M) : ow_G (ow_Γ l0 d none Q) own cc nL pc ls [] M := by
  intro p l e R s m args below meth c cells slots Z cI ad D A hΓ X H locs lsA hP hD hS hl
  obtain ⟨rfl, rfl, rfl, rfl, hr, rfl, rfl⟩ := hΓ
  exact W.vret X.1 X.2.1 hr (fun t ht _ => ⟨none, M, rfl, hQ, by rw [ht]; exact hP, hS.F ht⟩) hS.2.2 hd X.2.2.2.2.2.2.2
theorem gw_zret {l0 : Launch} {d : Nat} {Q : Option Value → ow_M → Prop} {own : String} {cc : ByteArray} {nL pc : Nat} {ls : List (Option Value)} {M : ow_M} {v : Int32} (hb : ow_bit v) (hd : decode cc pc = .ok (.ireturn, 1)) (hQ : Q (some (.int v)) M) : ow_G (ow_Γ l0 d (some .boolean) Q) own cc nL pc ls [.int v] M := by
  intro p l e R s m args below meth c cells slots Z cI ad D A hΓ X H locs lsA hP hD hS hl
  obtain ⟨rfl, rfl, rfl, rfl, hr, rfl, rfl⟩ := hΓ
  exact W.zret X.1 X.2.1 hr (by rcases hb with h | h <;> subst h <;> decide +kernel) (fun t ht _ => ⟨(some (.int v)), M, rfl, hQ, by rw [ht]; exact hP, hS.F ht⟩) hS.2.2 hd X.2.2.2.2.2.2.2
theorem gw_mmax {Γ : ow_Cx → Prop} {own : String} {cc : ByteArray} {nL pc : Nat} {ls : List (Option Value)} {st : List Value} {M : ow_M} {l0 : Launch} {idx : Nat} {x y : Int32} (hd : decode cc pc = .ok (.invokestatic idx, 3)) (hlk : Cond.methodLink own idx Lib.Math.max.name ∈ ow_base) (h1 : Cond.static Lib.Math.max.name ∈ ow_base) (h2 : Cond.initialized "java/lang/Math" ∈ ow_base) (h3 : Cond.code Lib.Math.max.name Lib.Math.max.code 2 (some .int) ∈ ow_base) (hR : ow_rmOk Γ l0 0 2) (hr : (st.map fun v => v.category).sum ≤ 8) (k : ow_G Γ own cc nL (pc + 3) ls (.int (if x < y then y else x) :: st) M) : ow_G Γ own cc nL pc ls (.int y :: .int x :: st) M := by
  intro p l e R s m args below meth c cells slots Z cI ad D A hΓ X H locs lsA hP hD hS hl
  obtain ⟨rfl, g1, g2, g3, g4⟩ := hR _ _ _ _ _ _ _ _ _ _ _ _ _ _ _ _ _ hΓ
  have hts := X.2.2.2.2.1
  have hr2 := ow_rest (ad := ad) hr
  exact va_mmax X.1 X.2.1 (X.2.2.1.trans hl.1.symm) X.2.2.2.1 (hts _ hlk) (hts _ h1) (hts _ h2) (hts _ h3) (by omega) (by omega) g3 g4 hd (k p l e R s m args below meth c cells slots Z cI ad D A hΓ X H locs lsA hP hD hS hl)
theorem gw_mmin {Γ : ow_Cx → Prop} {own : String} {cc : ByteArray} {nL pc : Nat} {ls : List (Option Value)} {st : List Value} {M : ow_M} {l0 : Launch} {idx : Nat} {x y : Int32} (hd : decode cc pc = .ok (.invokestatic idx, 3)) (hlk : Cond.methodLink own idx Lib.Math.min.name ∈ ow_base) (h1 : Cond.static Lib.Math.min.name ∈ ow_base) (h2 : Cond.initialized "java/lang/Math" ∈ ow_base) (h3 : Cond.code Lib.Math.min.name Lib.Math.min.code 2 (some .int) ∈ ow_base) (hR : ow_rmOk Γ l0 0 2) (hr : (st.map fun v => v.category).sum ≤ 8) (k : ow_G Γ own cc nL (pc + 3) ls (.int (if y < x then y else x) :: st) M) : ow_G Γ own cc nL pc ls (.int y :: .int x :: st) M := by
  intro p l e R s m args below meth c cells slots Z cI ad D A hΓ X H locs lsA hP hD hS hl
  obtain ⟨rfl, g1, g2, g3, g4⟩ := hR _ _ _ _ _ _ _ _ _ _ _ _ _ _ _ _ _ hΓ
  have hts := X.2.2.2.2.1
  have hr2 := ow_rest (ad := ad) hr
  exact va_mmin X.1 X.2.1 (X.2.2.1.trans hl.1.symm) X.2.2.2.1 (hts _ hlk) (hts _ h1) (hts _ h2) (hts _ h3) (by omega) (by omega) g3 g4 hd (k p l e R s m args below meth c cells slots Z cI ad D A hΓ X H locs lsA hP hD hS hl)
end
section
theorem ow_ball {ws : List Cond} (h : ws.all (fun w => decide (w ∈ lw_tbl) && goodWord w) = true) : ∀ w ∈ ws, w ∈ ow_base := by
  intro w hw
  have h1 := List.all_eq_true.mp h w hw
  simp only [Bool.and_eq_true, decide_eq_true_eq] at h1
  exact List.mem_filter.mpr h1
theorem cfX0 : ow_CF RX0 TX0 8 := ⟨ow_ball (by decide +kernel), tyX0, tyX0_ok, nmX0⟩
theorem cfX1 : ow_CF RX1 TX1 1 := ⟨ow_ball (by decide +kernel), tyX1, tyX1_ok, nmX1⟩
theorem cfX2 : ow_CF RX2 TX2 2 := ⟨ow_ball (by decide +kernel), tyX2, tyX2_ok, nmX2⟩
theorem cfX3 : ow_CF RX3 TX3 5 := ⟨ow_ball (by decide +kernel), tyX3, tyX3_ok, nmX3⟩
theorem cfX4 : ow_CF RX4 TX4 4 := ⟨ow_ball (by decide +kernel), tyX4, tyX4_ok, nmX4⟩
theorem cfX5 : ow_CF RX5 TX5 2 := ⟨ow_ball (by decide +kernel), tyX5, tyX5_ok, nmX5⟩
theorem cfX6 : ow_CF RX6 TX6 6 := ⟨ow_ball (by decide +kernel), tyX6, tyX6_ok, nmX6⟩
theorem cfX7 : ow_CF RX7 TX7 9 := ⟨ow_ball (by decide +kernel), tyX7, tyX7_ok, nmX7⟩
theorem cfX8 : ow_CF RX8 TX8 32 := ⟨ow_ball (by decide +kernel), tyX8, tyX8_ok, nmX8⟩
theorem fkX0_9 : ow_fl RX0 9 0 0 := ⟨RX0, TX0, 8, rfl, cfX0, by decide, rfl, Or.inl (ow_mb 102 (by decide +kernel) rfl)⟩
theorem fkX1_15 : ow_fl RX1 15 0 0 := ⟨RX0, TX0, 8, rfl, cfX0, by decide, rfl, Or.inr ⟨"OneWire", ow_mn 103 (by decide +kernel) rfl⟩⟩
theorem fkX6_37 : ow_fl RX6 37 0 0 := ⟨RX0, TX0, 8, rfl, cfX0, by decide, rfl, Or.inr ⟨"OneWire", ow_mn 104 (by decide +kernel) rfl⟩⟩
theorem fkX2_24 : ow_fl RX2 24 0 0 := ⟨RX0, TX0, 8, rfl, cfX0, by decide, rfl, Or.inr ⟨"OneWire", ow_mn 105 (by decide +kernel) rfl⟩⟩
theorem fkX5_30 : ow_fl RX5 30 0 0 := ⟨RX0, TX0, 8, rfl, cfX0, by decide, rfl, Or.inr ⟨"OneWire", ow_mn 106 (by decide +kernel) rfl⟩⟩
theorem fkX7_93 : ow_fl RX7 93 0 0 := ⟨RX0, TX0, 8, rfl, cfX0, by decide, rfl, Or.inr ⟨"OneWire", ow_mn 107 (by decide +kernel) rfl⟩⟩
theorem fkX0_15 : ow_fl RX0 15 0 1 := ⟨RX0, TX0, 8, rfl, cfX0, by decide, rfl, Or.inl (ow_mb 108 (by decide +kernel) rfl)⟩
theorem fkX6_65 : ow_fl RX6 65 0 1 := ⟨RX0, TX0, 8, rfl, cfX0, by decide, rfl, Or.inr ⟨"OneWire", ow_mn 109 (by decide +kernel) rfl⟩⟩
theorem fkX7_197 : ow_fl RX7 197 0 1 := ⟨RX0, TX0, 8, rfl, cfX0, by decide, rfl, Or.inr ⟨"OneWire", ow_mn 110 (by decide +kernel) rfl⟩⟩
theorem fkX0_18 : ow_fl RX0 18 0 2 := ⟨RX0, TX0, 8, rfl, cfX0, by decide, rfl, Or.inl (ow_mb 111 (by decide +kernel) rfl)⟩
theorem fkX1_36 : ow_fl RX1 36 0 2 := ⟨RX0, TX0, 8, rfl, cfX0, by decide, rfl, Or.inr ⟨"OneWire", ow_mn 112 (by decide +kernel) rfl⟩⟩
theorem fkX7_144 : ow_fl RX7 144 0 2 := ⟨RX0, TX0, 8, rfl, cfX0, by decide, rfl, Or.inr ⟨"OneWire", ow_mn 113 (by decide +kernel) rfl⟩⟩
theorem fkX0_22 : ow_fl RX0 22 0 3 := ⟨RX0, TX0, 8, rfl, cfX0, by decide, rfl, Or.inl (ow_mb 114 (by decide +kernel) rfl)⟩
theorem fkX7_99 : ow_fl RX7 99 0 3 := ⟨RX0, TX0, 8, rfl, cfX0, by decide, rfl, Or.inr ⟨"OneWire", ow_mn 115 (by decide +kernel) rfl⟩⟩
theorem fkX0_26 : ow_fl RX0 26 0 4 := ⟨RX0, TX0, 8, rfl, cfX0, by decide, rfl, Or.inl (ow_mb 116 (by decide +kernel) rfl)⟩
theorem fkX2_40 : ow_fl RX2 40 0 4 := ⟨RX0, TX0, 8, rfl, cfX0, by decide, rfl, Or.inr ⟨"OneWire", ow_mn 117 (by decide +kernel) rfl⟩⟩
theorem fkX7_103 : ow_fl RX7 103 0 4 := ⟨RX0, TX0, 8, rfl, cfX0, by decide, rfl, Or.inr ⟨"OneWire", ow_mn 118 (by decide +kernel) rfl⟩⟩
theorem fkX0_29 : ow_fl RX0 29 0 5 := ⟨RX0, TX0, 8, rfl, cfX0, by decide, rfl, Or.inl (ow_mb 119 (by decide +kernel) rfl)⟩
theorem fkX6_54 : ow_fl RX6 54 0 5 := ⟨RX0, TX0, 8, rfl, cfX0, by decide, rfl, Or.inr ⟨"OneWire", ow_mn 120 (by decide +kernel) rfl⟩⟩
theorem fkX7_106 : ow_fl RX7 106 0 5 := ⟨RX0, TX0, 8, rfl, cfX0, by decide, rfl, Or.inr ⟨"OneWire", ow_mn 121 (by decide +kernel) rfl⟩⟩
theorem fkX0_32 : ow_fl RX0 32 0 6 := ⟨RX0, TX0, 8, rfl, cfX0, by decide, rfl, Or.inl (ow_mb 122 (by decide +kernel) rfl)⟩
theorem fkX6_32 : ow_fl RX6 32 0 6 := ⟨RX0, TX0, 8, rfl, cfX0, by decide, rfl, Or.inr ⟨"OneWire", ow_mn 123 (by decide +kernel) rfl⟩⟩
theorem fkX1_29 : ow_fl RX1 29 0 6 := ⟨RX0, TX0, 8, rfl, cfX0, by decide, rfl, Or.inr ⟨"OneWire", ow_mn 124 (by decide +kernel) rfl⟩⟩
theorem fkX7_109 : ow_fl RX7 109 0 6 := ⟨RX0, TX0, 8, rfl, cfX0, by decide, rfl, Or.inr ⟨"OneWire", ow_mn 125 (by decide +kernel) rfl⟩⟩
theorem fkX0_35 : ow_fl RX0 35 0 7 := ⟨RX0, TX0, 8, rfl, cfX0, by decide, rfl, Or.inl (ow_mb 126 (by decide +kernel) rfl)⟩
theorem fkX7_115 : ow_fl RX7 115 0 7 := ⟨RX0, TX0, 8, rfl, cfX0, by decide, rfl, Or.inr ⟨"OneWire", ow_mn 127 (by decide +kernel) rfl⟩⟩
theorem fkX5_9 : ow_fl RX5 9 5 0 := ⟨RX5, TX5, 2, rfl, cfX5, by decide, rfl, Or.inl (ow_mb 153 (by decide +kernel) rfl)⟩
theorem fkX3_34 : ow_fl RX3 34 5 0 := ⟨RX5, TX5, 2, rfl, cfX5, by decide, rfl, Or.inr ⟨"OneWire", ow_mn 154 (by decide +kernel) rfl⟩⟩
theorem fkX7_130 : ow_fl RX7 130 5 0 := ⟨RX5, TX5, 2, rfl, cfX5, by decide, rfl, Or.inr ⟨"OneWire", ow_mn 155 (by decide +kernel) rfl⟩⟩
theorem fkX5_15 : ow_fl RX5 15 5 1 := ⟨RX5, TX5, 2, rfl, cfX5, by decide, rfl, Or.inl (ow_mb 156 (by decide +kernel) rfl)⟩
theorem fkX7_133 : ow_fl RX7 133 5 1 := ⟨RX5, TX5, 2, rfl, cfX5, by decide, rfl, Or.inr ⟨"OneWire", ow_mn 157 (by decide +kernel) rfl⟩⟩
theorem fkX6_11 : ow_fl RX6 11 6 0 := ⟨RX6, TX6, 6, rfl, cfX6, by decide, rfl, Or.inl (ow_mb 169 (by decide +kernel) rfl)⟩
theorem fkX6_15 : ow_fl RX6 15 6 1 := ⟨RX6, TX6, 6, rfl, cfX6, by decide, rfl, Or.inl (ow_mb 170 (by decide +kernel) rfl)⟩
theorem fkX6_19 : ow_fl RX6 19 6 2 := ⟨RX6, TX6, 6, rfl, cfX6, by decide, rfl, Or.inl (ow_mb 171 (by decide +kernel) rfl)⟩
theorem fkX6_23 : ow_fl RX6 23 6 3 := ⟨RX6, TX6, 6, rfl, cfX6, by decide, rfl, Or.inl (ow_mb 172 (by decide +kernel) rfl)⟩
theorem fkX6_26 : ow_fl RX6 26 6 4 := ⟨RX6, TX6, 6, rfl, cfX6, by decide, rfl, Or.inl (ow_mb 173 (by decide +kernel) rfl)⟩
theorem fkX6_29 : ow_fl RX6 29 6 5 := ⟨RX6, TX6, 6, rfl, cfX6, by decide, rfl, Or.inl (ow_mb 174 (by decide +kernel) rfl)⟩
theorem fkX2_9 : ow_fl RX2 9 2 0 := ⟨RX2, TX2, 2, rfl, cfX2, by decide, rfl, Or.inl (ow_mb 195 (by decide +kernel) rfl)⟩
theorem fkX2_15 : ow_fl RX2 15 2 1 := ⟨RX2, TX2, 2, rfl, cfX2, by decide, rfl, Or.inl (ow_mb 196 (by decide +kernel) rfl)⟩
theorem fkX1_9 : ow_fl RX1 9 1 0 := ⟨RX1, TX1, 1, rfl, cfX1, by decide, rfl, Or.inl (ow_mb 208 (by decide +kernel) rfl)⟩
theorem fkX3_9 : ow_fl RX3 9 3 0 := ⟨RX3, TX3, 5, rfl, cfX3, by decide, rfl, Or.inl (ow_mb 218 (by decide +kernel) rfl)⟩
theorem fkX7_90 : ow_fl RX7 90 3 0 := ⟨RX3, TX3, 5, rfl, cfX3, by decide, rfl, Or.inr ⟨"OneWire", ow_mn 219 (by decide +kernel) rfl⟩⟩
theorem fkX3_15 : ow_fl RX3 15 3 1 := ⟨RX3, TX3, 5, rfl, cfX3, by decide, rfl, Or.inl (ow_mb 220 (by decide +kernel) rfl)⟩
theorem fkX3_19 : ow_fl RX3 19 3 2 := ⟨RX3, TX3, 5, rfl, cfX3, by decide, rfl, Or.inl (ow_mb 221 (by decide +kernel) rfl)⟩
theorem fkX3_22 : ow_fl RX3 22 3 3 := ⟨RX3, TX3, 5, rfl, cfX3, by decide, rfl, Or.inl (ow_mb 222 (by decide +kernel) rfl)⟩
theorem fkX3_25 : ow_fl RX3 25 3 4 := ⟨RX3, TX3, 5, rfl, cfX3, by decide, rfl, Or.inl (ow_mb 223 (by decide +kernel) rfl)⟩
theorem fkX4_9 : ow_fl RX4 9 4 0 := ⟨RX4, TX4, 4, rfl, cfX4, by decide, rfl, Or.inl (ow_mb 240 (by decide +kernel) rfl)⟩
theorem fkX7_204 : ow_fl RX7 204 4 0 := ⟨RX4, TX4, 4, rfl, cfX4, by decide, rfl, Or.inr ⟨"OneWire", ow_mn 241 (by decide +kernel) rfl⟩⟩
theorem fkX4_15 : ow_fl RX4 15 4 1 := ⟨RX4, TX4, 4, rfl, cfX4, by decide, rfl, Or.inl (ow_mb 242 (by decide +kernel) rfl)⟩
theorem fkX7_217 : ow_fl RX7 217 4 1 := ⟨RX4, TX4, 4, rfl, cfX4, by decide, rfl, Or.inr ⟨"OneWire", ow_mn 243 (by decide +kernel) rfl⟩⟩
theorem fkX4_19 : ow_fl RX4 19 4 2 := ⟨RX4, TX4, 4, rfl, cfX4, by decide, rfl, Or.inl (ow_mb 244 (by decide +kernel) rfl)⟩
theorem fkX4_22 : ow_fl RX4 22 4 3 := ⟨RX4, TX4, 4, rfl, cfX4, by decide, rfl, Or.inl (ow_mb 245 (by decide +kernel) rfl)⟩
theorem fkX7_214 : ow_fl RX7 214 4 3 := ⟨RX4, TX4, 4, rfl, cfX4, by decide, rfl, Or.inr ⟨"OneWire", ow_mn 246 (by decide +kernel) rfl⟩⟩
theorem fkX7_13 : ow_fl RX7 13 7 0 := ⟨RX7, TX7, 9, rfl, cfX7, by decide, rfl, Or.inl (ow_mb 256 (by decide +kernel) rfl)⟩
theorem fkX7_20 : ow_fl RX7 20 7 1 := ⟨RX7, TX7, 9, rfl, cfX7, by decide, rfl, Or.inl (ow_mb 257 (by decide +kernel) rfl)⟩
theorem fkX7_27 : ow_fl RX7 27 7 2 := ⟨RX7, TX7, 9, rfl, cfX7, by decide, rfl, Or.inl (ow_mb 258 (by decide +kernel) rfl)⟩
theorem fkX7_34 : ow_fl RX7 34 7 3 := ⟨RX7, TX7, 9, rfl, cfX7, by decide, rfl, Or.inl (ow_mb 259 (by decide +kernel) rfl)⟩
theorem fkX7_41 : ow_fl RX7 41 7 4 := ⟨RX7, TX7, 9, rfl, cfX7, by decide, rfl, Or.inl (ow_mb 260 (by decide +kernel) rfl)⟩
theorem fkX7_48 : ow_fl RX7 48 7 5 := ⟨RX7, TX7, 9, rfl, cfX7, by decide, rfl, Or.inl (ow_mb 261 (by decide +kernel) rfl)⟩
theorem fkX7_55 : ow_fl RX7 55 7 6 := ⟨RX7, TX7, 9, rfl, cfX7, by decide, rfl, Or.inl (ow_mb 262 (by decide +kernel) rfl)⟩
theorem fkX7_59 : ow_fl RX7 59 7 7 := ⟨RX7, TX7, 9, rfl, cfX7, by decide, rfl, Or.inl (ow_mb 263 (by decide +kernel) rfl)⟩
theorem fkX7_63 : ow_fl RX7 63 7 8 := ⟨RX7, TX7, 9, rfl, cfX7, by decide, rfl, Or.inl (ow_mb 264 (by decide +kernel) rfl)⟩
theorem fkX8_76 : ow_fl RX8 76 8 0 := ⟨RX8, TX8, 32, rfl, cfX8, by decide, rfl, Or.inl (ow_mb 658 (by decide +kernel) rfl)⟩
theorem fkX8_229 : ow_fl RX8 229 8 1 := ⟨RX8, TX8, 32, rfl, cfX8, by decide, rfl, Or.inl (ow_mb 659 (by decide +kernel) rfl)⟩
theorem fkX8_9 : ow_fl RX8 9 8 2 := ⟨RX8, TX8, 32, rfl, cfX8, by decide, rfl, Or.inl (ow_mb 660 (by decide +kernel) rfl)⟩
theorem fkX8_13 : ow_fl RX8 13 8 3 := ⟨RX8, TX8, 32, rfl, cfX8, by decide, rfl, Or.inl (ow_mb 661 (by decide +kernel) rfl)⟩
theorem fkX8_16 : ow_fl RX8 16 8 4 := ⟨RX8, TX8, 32, rfl, cfX8, by decide, rfl, Or.inl (ow_mb 662 (by decide +kernel) rfl)⟩
theorem fkX8_86 : ow_fl RX8 86 8 5 := ⟨RX8, TX8, 32, rfl, cfX8, by decide, rfl, Or.inl (ow_mb 663 (by decide +kernel) rfl)⟩
theorem fkX8_89 : ow_fl RX8 89 8 6 := ⟨RX8, TX8, 32, rfl, cfX8, by decide, rfl, Or.inl (ow_mb 664 (by decide +kernel) rfl)⟩
theorem fkX8_97 : ow_fl RX8 97 8 7 := ⟨RX8, TX8, 32, rfl, cfX8, by decide, rfl, Or.inl (ow_mb 665 (by decide +kernel) rfl)⟩
theorem fkX8_19 : ow_fl RX8 19 8 8 := ⟨RX8, TX8, 32, rfl, cfX8, by decide, rfl, Or.inl (ow_mb 666 (by decide +kernel) rfl)⟩
theorem fkX8_22 : ow_fl RX8 22 8 9 := ⟨RX8, TX8, 32, rfl, cfX8, by decide, rfl, Or.inl (ow_mb 667 (by decide +kernel) rfl)⟩
theorem fkX8_25 : ow_fl RX8 25 8 10 := ⟨RX8, TX8, 32, rfl, cfX8, by decide, rfl, Or.inl (ow_mb 668 (by decide +kernel) rfl)⟩
theorem fkX8_28 : ow_fl RX8 28 8 11 := ⟨RX8, TX8, 32, rfl, cfX8, by decide, rfl, Or.inl (ow_mb 669 (by decide +kernel) rfl)⟩
theorem fkX8_100 : ow_fl RX8 100 8 12 := ⟨RX8, TX8, 32, rfl, cfX8, by decide, rfl, Or.inl (ow_mb 670 (by decide +kernel) rfl)⟩
theorem fkX8_121 : ow_fl RX8 121 8 13 := ⟨RX8, TX8, 32, rfl, cfX8, by decide, rfl, Or.inl (ow_mb 671 (by decide +kernel) rfl)⟩
theorem fkX8_124 : ow_fl RX8 124 8 14 := ⟨RX8, TX8, 32, rfl, cfX8, by decide, rfl, Or.inl (ow_mb 672 (by decide +kernel) rfl)⟩
theorem fkX8_31 : ow_fl RX8 31 8 15 := ⟨RX8, TX8, 32, rfl, cfX8, by decide, rfl, Or.inl (ow_mb 673 (by decide +kernel) rfl)⟩
theorem fkX8_34 : ow_fl RX8 34 8 16 := ⟨RX8, TX8, 32, rfl, cfX8, by decide, rfl, Or.inl (ow_mb 674 (by decide +kernel) rfl)⟩
theorem fkX8_37 : ow_fl RX8 37 8 17 := ⟨RX8, TX8, 32, rfl, cfX8, by decide, rfl, Or.inl (ow_mb 675 (by decide +kernel) rfl)⟩
theorem fkX8_40 : ow_fl RX8 40 8 18 := ⟨RX8, TX8, 32, rfl, cfX8, by decide, rfl, Or.inl (ow_mb 676 (by decide +kernel) rfl)⟩
theorem fkX8_43 : ow_fl RX8 43 8 19 := ⟨RX8, TX8, 32, rfl, cfX8, by decide, rfl, Or.inl (ow_mb 677 (by decide +kernel) rfl)⟩
theorem fkX8_46 : ow_fl RX8 46 8 20 := ⟨RX8, TX8, 32, rfl, cfX8, by decide, rfl, Or.inl (ow_mb 678 (by decide +kernel) rfl)⟩
theorem fkX8_49 : ow_fl RX8 49 8 21 := ⟨RX8, TX8, 32, rfl, cfX8, by decide, rfl, Or.inl (ow_mb 679 (by decide +kernel) rfl)⟩
theorem fkX8_52 : ow_fl RX8 52 8 22 := ⟨RX8, TX8, 32, rfl, cfX8, by decide, rfl, Or.inl (ow_mb 680 (by decide +kernel) rfl)⟩
theorem fkX8_174 : ow_fl RX8 174 8 23 := ⟨RX8, TX8, 32, rfl, cfX8, by decide, rfl, Or.inl (ow_mb 681 (by decide +kernel) rfl)⟩
theorem fkX8_55 : ow_fl RX8 55 8 24 := ⟨RX8, TX8, 32, rfl, cfX8, by decide, rfl, Or.inl (ow_mb 682 (by decide +kernel) rfl)⟩
theorem fkX8_58 : ow_fl RX8 58 8 25 := ⟨RX8, TX8, 32, rfl, cfX8, by decide, rfl, Or.inl (ow_mb 683 (by decide +kernel) rfl)⟩
theorem fkX8_61 : ow_fl RX8 61 8 26 := ⟨RX8, TX8, 32, rfl, cfX8, by decide, rfl, Or.inl (ow_mb 684 (by decide +kernel) rfl)⟩
theorem fkX8_127 : ow_fl RX8 127 8 27 := ⟨RX8, TX8, 32, rfl, cfX8, by decide, rfl, Or.inl (ow_mb 685 (by decide +kernel) rfl)⟩
theorem fkX8_64 : ow_fl RX8 64 8 28 := ⟨RX8, TX8, 32, rfl, cfX8, by decide, rfl, Or.inl (ow_mb 686 (by decide +kernel) rfl)⟩
theorem fkX8_67 : ow_fl RX8 67 8 29 := ⟨RX8, TX8, 32, rfl, cfX8, by decide, rfl, Or.inl (ow_mb 687 (by decide +kernel) rfl)⟩
theorem fkX8_70 : ow_fl RX8 70 8 30 := ⟨RX8, TX8, 32, rfl, cfX8, by decide, rfl, Or.inl (ow_mb 688 (by decide +kernel) rfl)⟩
theorem fkX8_73 : ow_fl RX8 73 8 31 := ⟨RX8, TX8, 32, rfl, cfX8, by decide, rfl, Or.inl (ow_mb 689 (by decide +kernel) rfl)⟩
theorem fp0_0 : ow_fp 0 0 .int := ⟨RX0, TX0, 8, rfl, rfl, by decide +kernel⟩
theorem fp0_1 : ow_fp 0 1 .int := ⟨RX0, TX0, 8, rfl, rfl, by decide +kernel⟩
theorem fp0_2 : ow_fp 0 2 .boolean := ⟨RX0, TX0, 8, rfl, rfl, by decide +kernel⟩
theorem fp3_0 : ow_fp 3 0 .int := ⟨RX3, TX3, 5, rfl, rfl, by decide +kernel⟩
theorem fp4_0 : ow_fp 4 0 .boolean := ⟨RX4, TX4, 4, rfl, rfl, by decide +kernel⟩
theorem fp4_1 : ow_fp 4 1 .int := ⟨RX4, TX4, 4, rfl, rfl, by decide +kernel⟩
theorem fp4_2 : ow_fp 4 2 .int := ⟨RX4, TX4, 4, rfl, rfl, by decide +kernel⟩
theorem fp6_2 : ow_fp 6 2 .int := ⟨RX6, TX6, 6, rfl, rfl, by decide +kernel⟩
theorem fp6_4 : ow_fp 6 4 .int := ⟨RX6, TX6, 6, rfl, rfl, by decide +kernel⟩
theorem fp7_7 : ow_fp 7 7 .int := ⟨RX7, TX7, 9, rfl, rfl, by decide +kernel⟩
theorem fp7_8 : ow_fp 7 8 .int := ⟨RX7, TX7, 9, rfl, rfl, by decide +kernel⟩
theorem fp8_0 : ow_fp 8 0 .int := ⟨RX8, TX8, 32, rfl, rfl, by decide +kernel⟩
theorem fp8_1 : ow_fp 8 1 .int := ⟨RX8, TX8, 32, rfl, rfl, by decide +kernel⟩
theorem fp8_5 : ow_fp 8 5 .int := ⟨RX8, TX8, 32, rfl, rfl, by decide +kernel⟩
theorem fp8_6 : ow_fp 8 6 .boolean := ⟨RX8, TX8, 32, rfl, rfl, by decide +kernel⟩
theorem fp8_7 : ow_fp 8 7 .int := ⟨RX8, TX8, 32, rfl, rfl, by decide +kernel⟩
theorem fp8_12 : ow_fp 8 12 .int := ⟨RX8, TX8, 32, rfl, rfl, by decide +kernel⟩
theorem fp8_13 : ow_fp 8 13 .int := ⟨RX8, TX8, 32, rfl, rfl, by decide +kernel⟩
theorem fp8_14 : ow_fp 8 14 .int := ⟨RX8, TX8, 32, rfl, rfl, by decide +kernel⟩
theorem fp8_23 : ow_fp 8 23 .int := ⟨RX8, TX8, 32, rfl, rfl, by decide +kernel⟩
theorem fp8_27 : ow_fp 8 27 .int := ⟨RX8, TX8, 32, rfl, rfl, by decide +kernel⟩
set_option maxRecDepth 20000 in
theorem mkX7_wire : ow_okM yX7_wire cX7_wire 8 (some .int) false 4 := ⟨ow_mb 287 rfl rfl, ow_mb 74 (by decide +kernel) rfl, ⟨by decide, by decide⟩, by decide +kernel, ow_mb 285 (by decide +kernel) rfl, ow_mb 286 (by decide +kernel) rfl⟩
set_option maxRecDepth 20000 in
theorem mkX7_isSheet : ow_okM yX7_isSheet cX7_isSheet 1 (some .boolean) true 1 := ⟨ow_mb 290 rfl rfl, ow_mb 74 (by decide +kernel) rfl, ⟨by decide, by decide⟩, by decide +kernel, ow_mb 289 (by decide +kernel) rfl⟩
set_option maxRecDepth 20000 in
theorem mkX7_isLane : ow_okM yX7_isLane cX7_isLane 1 (some .boolean) true 1 := ⟨ow_mb 293 rfl rfl, ow_mb 74 (by decide +kernel) rfl, ⟨by decide, by decide⟩, by decide +kernel, ow_mb 292 (by decide +kernel) rfl⟩
set_option maxRecDepth 20000 in
theorem mkX4_faultOfCells : ow_okM yX4_faultOfCells cX4_faultOfCells 4 (some .int) false 3 := ⟨ow_mb 297 rfl rfl, ow_mb 81 (by decide +kernel) rfl, ⟨by decide, by decide⟩, by decide +kernel, ow_mb 296 (by decide +kernel) rfl, ow_mb 0 (by decide +kernel) rfl⟩
set_option maxRecDepth 20000 in
theorem mkX4_hasCells : ow_okM yX4_hasCells cX4_hasCells 3 (some .boolean) false 2 := ⟨ow_mb 301 rfl rfl, ow_mb 81 (by decide +kernel) rfl, ⟨by decide, by decide⟩, by decide +kernel, ow_mb 300 (by decide +kernel) rfl, ow_mb 1 (by decide +kernel) rfl⟩
set_option maxRecDepth 20000 in
theorem mkX7_failed : ow_okM yX7_failed cX7_failed 2 (some .int) false 1 := ⟨ow_mb 305 rfl rfl, ow_mb 74 (by decide +kernel) rfl, ⟨by decide, by decide⟩, by decide +kernel, ow_mb 304 (by decide +kernel) rfl, ow_mb 2 (by decide +kernel) rfl⟩
set_option maxRecDepth 20000 in
theorem mkX7_firstFault : ow_okM yX7_firstFault cX7_firstFault 4 (some .int) true 3 := ⟨ow_mb 308 rfl rfl, ow_mb 74 (by decide +kernel) rfl, ⟨by decide, by decide⟩, by decide +kernel, ow_mb 307 (by decide +kernel) rfl⟩
set_option maxRecDepth 20000 in
theorem mkX4_load : ow_okM yX4_load cX4_load 2 (some .int) false 1 := ⟨ow_mb 312 rfl rfl, ow_mb 81 (by decide +kernel) rfl, ⟨by decide, by decide⟩, by decide +kernel, ow_mb 311 (by decide +kernel) rfl, ow_mb 3 (by decide +kernel) rfl⟩
set_option maxRecDepth 20000 in
theorem mkX7_goesOn : ow_okM yX7_goesOn cX7_goesOn 2 (some .boolean) true 2 := ⟨ow_mb 315 rfl rfl, ow_mb 74 (by decide +kernel) rfl, ⟨by decide, by decide⟩, by decide +kernel, ow_mb 314 (by decide +kernel) rfl⟩
set_option maxRecDepth 20000 in
theorem mkX7_isDigit : ow_okM yX7_isDigit cX7_isDigit 2 (some .boolean) true 2 := ⟨ow_mb 318 rfl rfl, ow_mb 74 (by decide +kernel) rfl, ⟨by decide, by decide⟩, by decide +kernel, ow_mb 317 (by decide +kernel) rfl⟩
set_option maxRecDepth 20000 in
theorem mkX0_takeText : ow_okM yX0_takeText cX0_takeText 6 none false 3 := ⟨ow_mb 322 rfl rfl, ow_mb 75 (by decide +kernel) rfl, ⟨by decide, by decide⟩, by decide +kernel, ow_mb 321 (by decide +kernel) rfl, ow_mb 4 (by decide +kernel) rfl⟩
set_option maxRecDepth 20000 in
theorem mkX0_kindOf : ow_okM yX0_kindOf cX0_kindOf 1 (some .int) true 1 := ⟨ow_mb 329 rfl rfl, ow_mb 75 (by decide +kernel) rfl, ⟨by decide, by decide⟩, by decide +kernel, ow_mb 328 (by decide +kernel) rfl⟩
set_option maxRecDepth 20000 in
theorem mkX7_ofPerson : ow_okM yX7_ofPerson cX7_ofPerson 3 (some .int) false 2 := ⟨ow_mb 333 rfl rfl, ow_mb 74 (by decide +kernel) rfl, ⟨by decide, by decide⟩, by decide +kernel, ow_mb 331 (by decide +kernel) rfl, ow_mb 332 (by decide +kernel) rfl⟩
set_option maxRecDepth 20000 in
theorem mkX0_isPerson : ow_okM yX0_isPerson cX0_isPerson 2 (some .boolean) false 1 := ⟨ow_mb 337 rfl rfl, ow_mb 75 (by decide +kernel) rfl, ⟨by decide, by decide⟩, by decide +kernel, ow_mb 336 (by decide +kernel) rfl, ow_mb 5 (by decide +kernel) rfl⟩
set_option maxRecDepth 20000 in
theorem mkX7_grudge : ow_okM yX7_grudge cX7_grudge 3 (some .int) false 2 := ⟨ow_mb 341 rfl rfl, ow_mb 74 (by decide +kernel) rfl, ⟨by decide, by decide⟩, by decide +kernel, ow_mb 339 (by decide +kernel) rfl, ow_mb 340 (by decide +kernel) rfl⟩
set_option maxRecDepth 20000 in
theorem mkX0_isEdge : ow_okM yX0_isEdge cX0_isEdge 2 (some .boolean) false 1 := ⟨ow_mb 345 rfl rfl, ow_mb 75 (by decide +kernel) rfl, ⟨by decide, by decide⟩, by decide +kernel, ow_mb 344 (by decide +kernel) rfl, ow_mb 6 (by decide +kernel) rfl⟩
set_option maxRecDepth 20000 in
theorem mkX7_hand : ow_okM yX7_hand cX7_hand 2 (some .int) false 1 := ⟨ow_mb 349 rfl rfl, ow_mb 74 (by decide +kernel) rfl, ⟨by decide, by decide⟩, by decide +kernel, ow_mb 347 (by decide +kernel) rfl, ow_mb 348 (by decide +kernel) rfl⟩
set_option maxRecDepth 20000 in
theorem mkX0_changeGoods : ow_okM yX0_changeGoods cX0_changeGoods 4 none false 1 := ⟨ow_mb 353 rfl rfl, ow_mb 75 (by decide +kernel) rfl, ⟨by decide, by decide⟩, by decide +kernel, ow_mb 352 (by decide +kernel) rfl, ow_mb 7 (by decide +kernel) rfl⟩
set_option maxRecDepth 20000 in
theorem mkX0_rightEnd : ow_okM yX0_rightEnd cX0_rightEnd 2 (some .int) false 1 := ⟨ow_mb 358 rfl rfl, ow_mb 75 (by decide +kernel) rfl, ⟨by decide, by decide⟩, by decide +kernel, ow_mb 357 (by decide +kernel) rfl, ow_mb 8 (by decide +kernel) rfl⟩
set_option maxRecDepth 20000 in
theorem mkX7_wish : ow_okM yX7_wish cX7_wish 4 (some .int) false 2 := ⟨ow_mb 362 rfl rfl, ow_mb 74 (by decide +kernel) rfl, ⟨by decide, by decide⟩, by decide +kernel, ow_mb 360 (by decide +kernel) rfl, ow_mb 361 (by decide +kernel) rfl⟩
set_option maxRecDepth 20000 in
theorem mkX7_news : ow_okM yX7_news cX7_news 5 (some .int) false 4 := ⟨ow_mb 366 rfl rfl, ow_mb 74 (by decide +kernel) rfl, ⟨by decide, by decide⟩, by decide +kernel, ow_mb 364 (by decide +kernel) rfl, ow_mb 365 (by decide +kernel) rfl⟩
set_option maxRecDepth 20000 in
theorem mkX7_isNumber : ow_okM yX7_isNumber cX7_isNumber 1 (some .boolean) true 1 := ⟨ow_mb 369 rfl rfl, ow_mb 74 (by decide +kernel) rfl, ⟨by decide, by decide⟩, by decide +kernel, ow_mb 368 (by decide +kernel) rfl⟩
set_option maxRecDepth 20000 in
theorem mkX5_tellFrom : ow_okM yX5_tellFrom cX5_tellFrom 6 none false 3 := ⟨ow_mb 373 rfl rfl, ow_mb 76 (by decide +kernel) rfl, ⟨by decide, by decide⟩, by decide +kernel, ow_mb 372 (by decide +kernel) rfl, ow_mb 9 (by decide +kernel) rfl⟩
set_option maxRecDepth 20000 in
theorem mkJ7_fill_53178 : ow_okM yJ7_fill_53178 cJ7_fill_53178 4 none true 2 := ⟨ow_mb 376 rfl rfl, ow_mb 84 (by decide +kernel) rfl, ⟨by decide, by decide⟩, by decide +kernel, ow_mb 375 (by decide +kernel) rfl⟩
set_option maxRecDepth 20000 in
theorem mkX0_altered : ow_okM yX0_altered cX0_altered 4 (some .int) false 2 := ⟨ow_mb 381 rfl rfl, ow_mb 75 (by decide +kernel) rfl, ⟨by decide, by decide⟩, by decide +kernel, ow_mb 380 (by decide +kernel) rfl, ow_mb 10 (by decide +kernel) rfl⟩
set_option maxRecDepth 20000 in
theorem mkX5_passOn : ow_okM yX5_passOn cX5_passOn 6 none false 4 := ⟨ow_mb 386 rfl rfl, ow_mb 76 (by decide +kernel) rfl, ⟨by decide, by decide⟩, by decide +kernel, ow_mb 385 (by decide +kernel) rfl, ow_mb 11 (by decide +kernel) rfl⟩
set_option maxRecDepth 20000 in
theorem mkX0_edgeOnLeft : ow_okM yX0_edgeOnLeft cX0_edgeOnLeft 2 (some .int) false 1 := ⟨ow_mb 390 rfl rfl, ow_mb 75 (by decide +kernel) rfl, ⟨by decide, by decide⟩, by decide +kernel, ow_mb 389 (by decide +kernel) rfl, ow_mb 12 (by decide +kernel) rfl⟩
set_option maxRecDepth 20000 in
theorem mkX0_isOpen : ow_okM yX0_isOpen cX0_isOpen 2 (some .boolean) false 1 := ⟨ow_mb 394 rfl rfl, ow_mb 75 (by decide +kernel) rfl, ⟨by decide, by decide⟩, by decide +kernel, ow_mb 393 (by decide +kernel) rfl, ow_mb 13 (by decide +kernel) rfl⟩
set_option maxRecDepth 20000 in
theorem mkX5_hear : ow_okM yX5_hear cX5_hear 4 none false 3 := ⟨ow_mb 398 rfl rfl, ow_mb 76 (by decide +kernel) rfl, ⟨by decide, by decide⟩, by decide +kernel, ow_mb 397 (by decide +kernel) rfl, ow_mb 14 (by decide +kernel) rfl⟩
set_option maxRecDepth 20000 in
theorem mkX7_said : ow_okM yX7_said cX7_said 7 (some .int) false 4 := ⟨ow_mb 403 rfl rfl, ow_mb 74 (by decide +kernel) rfl, ⟨by decide, by decide⟩, by decide +kernel, ow_mb 401 (by decide +kernel) rfl, ow_mb 402 (by decide +kernel) rfl⟩
set_option maxRecDepth 20000 in
theorem mkX7_fewest : ow_okM yX7_fewest cX7_fewest 1 (some .int) false 0 := ⟨ow_mb 407 rfl rfl, ow_mb 74 (by decide +kernel) rfl, ⟨by decide, by decide⟩, by decide +kernel, ow_mb 405 (by decide +kernel) rfl, ow_mb 406 (by decide +kernel) rfl⟩
set_option maxRecDepth 20000 in
theorem mkX0_isThere : ow_okM yX0_isThere cX0_isThere 1 (some .boolean) false 0 := ⟨ow_mb 411 rfl rfl, ow_mb 75 (by decide +kernel) rfl, ⟨by decide, by decide⟩, by decide +kernel, ow_mb 410 (by decide +kernel) rfl, ow_mb 15 (by decide +kernel) rfl⟩
set_option maxRecDepth 20000 in
theorem mkX6_leastSteps : ow_okM yX6_leastSteps cX6_leastSteps 7 (some .int) false 2 := ⟨ow_mb 415 rfl rfl, ow_mb 77 (by decide +kernel) rfl, ⟨by decide, by decide⟩, by decide +kernel, ow_mb 414 (by decide +kernel) rfl, ow_mb 16 (by decide +kernel) rfl⟩
set_option maxRecDepth 20000 in
theorem mkX6_held : ow_okM yX6_held cX6_held 4 (some .int) true 2 := ⟨ow_mb 418 rfl rfl, ow_mb 77 (by decide +kernel) rfl, ⟨by decide, by decide⟩, by decide +kernel, ow_mb 417 (by decide +kernel) rfl⟩
set_option maxRecDepth 20000 in
theorem mkX6_gatherSteps : ow_okM yX6_gatherSteps cX6_gatherSteps 6 none false 2 := ⟨ow_mb 422 rfl rfl, ow_mb 77 (by decide +kernel) rfl, ⟨by decide, by decide⟩, by decide +kernel, ow_mb 421 (by decide +kernel) rfl, ow_mb 17 (by decide +kernel) rfl⟩
set_option maxRecDepth 20000 in
theorem mkX6_isOneDay : ow_okM yX6_isOneDay cX6_isOneDay 5 (some .boolean) true 2 := ⟨ow_mb 425 rfl rfl, ow_mb 77 (by decide +kernel) rfl, ⟨by decide, by decide⟩, by decide +kernel, ow_mb 424 (by decide +kernel) rfl⟩
set_option maxRecDepth 20000 in
theorem mkJ7_fill_d0a16 : ow_okM yJ7_fill_d0a16 cJ7_fill_d0a16 5 none true 2 := ⟨ow_mb 430 rfl rfl, ow_mb 84 (by decide +kernel) rfl, ⟨by decide, by decide⟩, by decide +kernel, ow_mb 429 (by decide +kernel) rfl⟩
set_option maxRecDepth 20000 in
theorem mkX6_meet : ow_okM yX6_meet cX6_meet 5 none false 1 := ⟨ow_mb 434 rfl rfl, ow_mb 77 (by decide +kernel) rfl, ⟨by decide, by decide⟩, by decide +kernel, ow_mb 433 (by decide +kernel) rfl, ow_mb 18 (by decide +kernel) rfl⟩
set_option maxRecDepth 20000 in
theorem mkX6_goOnFrom : ow_okM yX6_goOnFrom cX6_goOnFrom 6 none false 2 := ⟨ow_mb 438 rfl rfl, ow_mb 77 (by decide +kernel) rfl, ⟨by decide, by decide⟩, by decide +kernel, ow_mb 437 (by decide +kernel) rfl, ow_mb 19 (by decide +kernel) rfl⟩
set_option maxRecDepth 20000 in
theorem mkX6_turnedBy : ow_okM yX6_turnedBy cX6_turnedBy 4 (some .int) true 3 := ⟨ow_mb 441 rfl rfl, ow_mb 77 (by decide +kernel) rfl, ⟨by decide, by decide⟩, by decide +kernel, ow_mb 440 (by decide +kernel) rfl⟩
set_option maxRecDepth 20000 in
theorem mkX7_soonest : ow_okM yX7_soonest cX7_soonest 1 (some .int) false 0 := ⟨ow_mb 445 rfl rfl, ow_mb 74 (by decide +kernel) rfl, ⟨by decide, by decide⟩, by decide +kernel, ow_mb 443 (by decide +kernel) rfl, ow_mb 444 (by decide +kernel) rfl⟩
set_option maxRecDepth 20000 in
theorem mkX7_cut : ow_okM yX7_cut cX7_cut 2 (some .int) false 1 := ⟨ow_mb 449 rfl rfl, ow_mb 74 (by decide +kernel) rfl, ⟨by decide, by decide⟩, by decide +kernel, ow_mb 447 (by decide +kernel) rfl, ow_mb 448 (by decide +kernel) rfl⟩
set_option maxRecDepth 20000 in
theorem mkX6_mustGoOver : ow_okM yX6_mustGoOver cX6_mustGoOver 7 (some .int) false 2 := ⟨ow_mb 453 rfl rfl, ow_mb 77 (by decide +kernel) rfl, ⟨by decide, by decide⟩, by decide +kernel, ow_mb 452 (by decide +kernel) rfl, ow_mb 20 (by decide +kernel) rfl⟩
set_option maxRecDepth 20000 in
theorem mkX7_order : ow_okM yX7_order cX7_order 9 (some .int) false 5 := ⟨ow_mb 460 rfl rfl, ow_mb 74 (by decide +kernel) rfl, ⟨by decide, by decide⟩, by decide +kernel, ow_mb 458 (by decide +kernel) rfl, ow_mb 459 (by decide +kernel) rfl⟩
set_option maxRecDepth 20000 in
theorem mkX2_readPlaces : ow_okM yX2_readPlaces cX2_readPlaces 6 (some .boolean) false 3 := ⟨ow_mb 464 rfl rfl, ow_mb 78 (by decide +kernel) rfl, ⟨by decide, by decide⟩, by decide +kernel, ow_mb 463 (by decide +kernel) rfl, ow_mb 21 (by decide +kernel) rfl⟩
set_option maxRecDepth 20000 in
theorem mkX2_firstBar : ow_okM yX2_firstBar cX2_firstBar 4 (some .int) false 1 := ⟨ow_mb 471 rfl rfl, ow_mb 78 (by decide +kernel) rfl, ⟨by decide, by decide⟩, by decide +kernel, ow_mb 470 (by decide +kernel) rfl, ow_mb 22 (by decide +kernel) rfl⟩
set_option maxRecDepth 20000 in
theorem mkX2_mayChange : ow_okM yX2_mayChange cX2_mayChange 3 (some .boolean) true 3 := ⟨ow_mb 474 rfl rfl, ow_mb 78 (by decide +kernel) rfl, ⟨by decide, by decide⟩, by decide +kernel, ow_mb 473 (by decide +kernel) rfl⟩
set_option maxRecDepth 20000 in
theorem mkX2_changes : ow_okM yX2_changes cX2_changes 5 (some .int) false 1 := ⟨ow_mb 478 rfl rfl, ow_mb 78 (by decide +kernel) rfl, ⟨by decide, by decide⟩, by decide +kernel, ow_mb 477 (by decide +kernel) rfl, ow_mb 23 (by decide +kernel) rfl⟩
set_option maxRecDepth 20000 in
theorem mkX7_coming : ow_okM yX7_coming cX7_coming 1 (some .int) false 0 := ⟨ow_mb 482 rfl rfl, ow_mb 74 (by decide +kernel) rfl, ⟨by decide, by decide⟩, by decide +kernel, ow_mb 480 (by decide +kernel) rfl, ow_mb 481 (by decide +kernel) rfl⟩
set_option maxRecDepth 20000 in
theorem mkX2_howManyCome : ow_okM yX2_howManyCome cX2_howManyCome 6 (some .int) false 1 := ⟨ow_mb 486 rfl rfl, ow_mb 78 (by decide +kernel) rfl, ⟨by decide, by decide⟩, by decide +kernel, ow_mb 485 (by decide +kernel) rfl, ow_mb 24 (by decide +kernel) rfl⟩
set_option maxRecDepth 20000 in
theorem mkX2_mustBeAhead : ow_okM yX2_mustBeAhead cX2_mustBeAhead 4 (some .int) true 2 := ⟨ow_mb 489 rfl rfl, ow_mb 78 (by decide +kernel) rfl, ⟨by decide, by decide⟩, by decide +kernel, ow_mb 488 (by decide +kernel) rfl⟩
set_option maxRecDepth 20000 in
theorem mkX7_letters : ow_okM yX7_letters cX7_letters 3 (some .int) false 1 := ⟨ow_mb 493 rfl rfl, ow_mb 74 (by decide +kernel) rfl, ⟨by decide, by decide⟩, by decide +kernel, ow_mb 491 (by decide +kernel) rfl, ow_mb 492 (by decide +kernel) rfl⟩
set_option maxRecDepth 20000 in
theorem mkX1_leastReaders : ow_okM yX1_leastReaders cX1_leastReaders 7 (some .int) false 1 := ⟨ow_mb 497 rfl rfl, ow_mb 79 (by decide +kernel) rfl, ⟨by decide, by decide⟩, by decide +kernel, ow_mb 496 (by decide +kernel) rfl, ow_mb 25 (by decide +kernel) rfl⟩
set_option maxRecDepth 20000 in
theorem mkX1_leastOf : ow_okM yX1_leastOf cX1_leastOf 2 (some .int) true 1 := ⟨ow_mb 500 rfl rfl, ow_mb 79 (by decide +kernel) rfl, ⟨by decide, by decide⟩, by decide +kernel, ow_mb 499 (by decide +kernel) rfl⟩
set_option maxRecDepth 20000 in
theorem mkX1_readersWith : ow_okM yX1_readersWith cX1_readersWith 7 (some .int) false 4 := ⟨ow_mb 504 rfl rfl, ow_mb 79 (by decide +kernel) rfl, ⟨by decide, by decide⟩, by decide +kernel, ow_mb 503 (by decide +kernel) rfl, ow_mb 26 (by decide +kernel) rfl⟩
set_option maxRecDepth 20000 in
theorem mkX1_between : ow_okM yX1_between cX1_between 4 (some .int) true 3 := ⟨ow_mb 507 rfl rfl, ow_mb 79 (by decide +kernel) rfl, ⟨by decide, by decide⟩, by decide +kernel, ow_mb 506 (by decide +kernel) rfl⟩
set_option maxRecDepth 20000 in
theorem mkX1_mateOf : ow_okM yX1_mateOf cX1_mateOf 7 (some .int) false 2 := ⟨ow_mb 512 rfl rfl, ow_mb 79 (by decide +kernel) rfl, ⟨by decide, by decide⟩, by decide +kernel, ow_mb 511 (by decide +kernel) rfl, ow_mb 27 (by decide +kernel) rfl⟩
set_option maxRecDepth 20000 in
theorem mkX7_heard : ow_okM yX7_heard cX7_heard 10 (some .long) false 3 := ⟨ow_mb 516 rfl rfl, ow_mb 74 (by decide +kernel) rfl, ⟨by decide, by decide⟩, by decide +kernel, ow_mb 514 (by decide +kernel) rfl, ow_mb 515 (by decide +kernel) rfl⟩
set_option maxRecDepth 20000 in
theorem mkX7_isTenths : ow_okM yX7_isTenths cX7_isTenths 1 (some .boolean) true 1 := ⟨ow_mb 519 rfl rfl, ow_mb 74 (by decide +kernel) rfl, ⟨by decide, by decide⟩, by decide +kernel, ow_mb 518 (by decide +kernel) rfl⟩
set_option maxRecDepth 20000 in
theorem mkX7_hearers : ow_okM yX7_hearers cX7_hearers 6 (some .long) false 2 := ⟨ow_mb 524 rfl rfl, ow_mb 74 (by decide +kernel) rfl, ⟨by decide, by decide⟩, by decide +kernel, ow_mb 523 (by decide +kernel) rfl, ow_mb 28 (by decide +kernel) rfl⟩
set_option maxRecDepth 20000 in
theorem mkX0_wayRight : ow_okM yX0_wayRight cX0_wayRight 5 (some .int) false 2 := ⟨ow_mb 528 rfl rfl, ow_mb 75 (by decide +kernel) rfl, ⟨by decide, by decide⟩, by decide +kernel, ow_mb 527 (by decide +kernel) rfl, ow_mb 29 (by decide +kernel) rfl⟩
set_option maxRecDepth 20000 in
theorem mkX7_reaching : ow_okM yX7_reaching cX7_reaching 4 (some .long) false 3 := ⟨ow_mb 533 rfl rfl, ow_mb 74 (by decide +kernel) rfl, ⟨by decide, by decide⟩, by decide +kernel, ow_mb 532 (by decide +kernel) rfl, ow_mb 30 (by decide +kernel) rfl⟩
set_option maxRecDepth 20000 in
theorem mkX7_allWhole : ow_okM yX7_allWhole cX7_allWhole 6 (some .long) false 2 := ⟨ow_mb 537 rfl rfl, ow_mb 74 (by decide +kernel) rfl, ⟨by decide, by decide⟩, by decide +kernel, ow_mb 536 (by decide +kernel) rfl, ow_mb 31 (by decide +kernel) rfl⟩
set_option maxRecDepth 20000 in
theorem mkX7_whole : ow_okM yX7_whole cX7_whole 1 (some .long) false 0 := ⟨ow_mb 542 rfl rfl, ow_mb 74 (by decide +kernel) rfl, ⟨by decide, by decide⟩, by decide +kernel, ow_mb 541 (by decide +kernel) rfl, ow_mb 32 (by decide +kernel) rfl⟩
set_option maxRecDepth 20000 in
theorem mkX7_commonDivisor : ow_okM yX7_commonDivisor cX7_commonDivisor 11 (some .long) true 2 := ⟨ow_mb 545 rfl rfl, ow_mb 74 (by decide +kernel) rfl, ⟨by decide, by decide⟩, by decide +kernel, ow_mb 544 (by decide +kernel) rfl⟩
set_option maxRecDepth 20000 in
theorem mkX7_stand : ow_okM yX7_stand cX7_stand 4 (some .int) false 1 := ⟨ow_mb 549 rfl rfl, ow_mb 74 (by decide +kernel) rfl, ⟨by decide, by decide⟩, by decide +kernel, ow_mb 547 (by decide +kernel) rfl, ow_mb 548 (by decide +kernel) rfl⟩
set_option maxRecDepth 20000 in
theorem mkX7_reading : ow_okM yX7_reading cX7_reading 5 (some .int) false 4 := ⟨ow_mb 553 rfl rfl, ow_mb 74 (by decide +kernel) rfl, ⟨by decide, by decide⟩, by decide +kernel, ow_mb 551 (by decide +kernel) rfl, ow_mb 552 (by decide +kernel) rfl⟩
set_option maxRecDepth 20000 in
theorem mkX3_takeOne : ow_okM yX3_takeOne cX3_takeOne 6 (some .int) false 4 := ⟨ow_mb 557 rfl rfl, ow_mb 80 (by decide +kernel) rfl, ⟨by decide, by decide⟩, by decide +kernel, ow_mb 556 (by decide +kernel) rfl, ow_mb 33 (by decide +kernel) rfl⟩
set_option maxRecDepth 20000 in
theorem mkX7_back : ow_okM yX7_back cX7_back 2 (some .int) false 1 := ⟨ow_mb 561 rfl rfl, ow_mb 74 (by decide +kernel) rfl, ⟨by decide, by decide⟩, by decide +kernel, ow_mb 559 (by decide +kernel) rfl, ow_mb 560 (by decide +kernel) rfl⟩
set_option maxRecDepth 20000 in
theorem mkX7_kinds : ow_okM yX7_kinds cX7_kinds 5 (some .int) false 1 := ⟨ow_mb 565 rfl rfl, ow_mb 74 (by decide +kernel) rfl, ⟨by decide, by decide⟩, by decide +kernel, ow_mb 563 (by decide +kernel) rfl, ow_mb 564 (by decide +kernel) rfl⟩
set_option maxRecDepth 20000 in
theorem mkX3_areAllSo : ow_okM yX3_areAllSo cX3_areAllSo 4 (some .boolean) false 2 := ⟨ow_mb 569 rfl rfl, ow_mb 80 (by decide +kernel) rfl, ⟨by decide, by decide⟩, by decide +kernel, ow_mb 568 (by decide +kernel) rfl, ow_mb 34 (by decide +kernel) rfl⟩
set_option maxRecDepth 20000 in
theorem mkX7_walls : ow_okM yX7_walls cX7_walls 4 (some .int) false 0 := ⟨ow_mb 574 rfl rfl, ow_mb 74 (by decide +kernel) rfl, ⟨by decide, by decide⟩, by decide +kernel, ow_mb 572 (by decide +kernel) rfl, ow_mb 573 (by decide +kernel) rfl⟩
set_option maxRecDepth 20000 in
theorem mkX7_sheet : ow_okM yX7_sheet cX7_sheet 4 (some .int) false 3 := ⟨ow_mb 578 rfl rfl, ow_mb 74 (by decide +kernel) rfl, ⟨by decide, by decide⟩, by decide +kernel, ow_mb 576 (by decide +kernel) rfl, ow_mb 577 (by decide +kernel) rfl⟩
set_option maxRecDepth 20000 in
theorem mkX4_becomeNew : ow_okM yX4_becomeNew cX4_becomeNew 3 none false 2 := ⟨ow_mb 582 rfl rfl, ow_mb 81 (by decide +kernel) rfl, ⟨by decide, by decide⟩, by decide +kernel, ow_mb 581 (by decide +kernel) rfl, ow_mb 35 (by decide +kernel) rfl⟩
set_option maxRecDepth 20000 in
theorem mkX7_lose : ow_okM yX7_lose cX7_lose 2 (some .int) false 1 := ⟨ow_mb 587 rfl rfl, ow_mb 74 (by decide +kernel) rfl, ⟨by decide, by decide⟩, by decide +kernel, ow_mb 585 (by decide +kernel) rfl, ow_mb 586 (by decide +kernel) rfl⟩
set_option maxRecDepth 20000 in
theorem mkX7_put : ow_okM yX7_put cX7_put 4 (some .int) false 3 := ⟨ow_mb 591 rfl rfl, ow_mb 74 (by decide +kernel) rfl, ⟨by decide, by decide⟩, by decide +kernel, ow_mb 589 (by decide +kernel) rfl, ow_mb 590 (by decide +kernel) rfl⟩
set_option maxRecDepth 20000 in
theorem mkX4_store : ow_okM yX4_store cX4_store 3 none false 2 := ⟨ow_mb 596 rfl rfl, ow_mb 81 (by decide +kernel) rfl, ⟨by decide, by decide⟩, by decide +kernel, ow_mb 595 (by decide +kernel) rfl, ow_mb 36 (by decide +kernel) rfl⟩
set_option maxRecDepth 20000 in
theorem mkX7_cell : ow_okM yX7_cell cX7_cell 5 (some .long) false 3 := ⟨ow_mb 600 rfl rfl, ow_mb 74 (by decide +kernel) rfl, ⟨by decide, by decide⟩, by decide +kernel, ow_mb 598 (by decide +kernel) rfl, ow_mb 599 (by decide +kernel) rfl⟩
set_option maxRecDepth 20000 in
theorem mkX7_copy : ow_okM yX7_copy cX7_copy 8 (some .int) false 5 := ⟨ow_mb 604 rfl rfl, ow_mb 74 (by decide +kernel) rfl, ⟨by decide, by decide⟩, by decide +kernel, ow_mb 602 (by decide +kernel) rfl, ow_mb 603 (by decide +kernel) rfl⟩
set_option maxRecDepth 20000 in
theorem mkX7_tell : ow_okM yX7_tell cX7_tell 2 (some .int) false 1 := ⟨ow_mb 611 rfl rfl, ow_mb 74 (by decide +kernel) rfl, ⟨by decide, by decide⟩, by decide +kernel, ow_mb 609 (by decide +kernel) rfl, ow_mb 610 (by decide +kernel) rfl⟩
set_option maxRecDepth 20000 in
theorem mkX7_tellTalker : ow_okM yX7_tellTalker cX7_tellTalker 2 (some .int) false 1 := ⟨ow_mb 615 rfl rfl, ow_mb 74 (by decide +kernel) rfl, ⟨by decide, by decide⟩, by decide +kernel, ow_mb 614 (by decide +kernel) rfl, ow_mb 37 (by decide +kernel) rfl⟩
set_option maxRecDepth 20000 in
theorem mkX7_leaveTrace : ow_okM yX7_leaveTrace cX7_leaveTrace 2 none false 1 := ⟨ow_mb 619 rfl rfl, ow_mb 74 (by decide +kernel) rfl, ⟨by decide, by decide⟩, by decide +kernel, ow_mb 618 (by decide +kernel) rfl, ow_mb 38 (by decide +kernel) rfl⟩
set_option maxRecDepth 20000 in
theorem mkX7_tellGrudger : ow_okM yX7_tellGrudger cX7_tellGrudger 2 (some .int) false 1 := ⟨ow_mb 623 rfl rfl, ow_mb 74 (by decide +kernel) rfl, ⟨by decide, by decide⟩, by decide +kernel, ow_mb 622 (by decide +kernel) rfl, ow_mb 39 (by decide +kernel) rfl⟩
set_option maxRecDepth 20000 in
theorem mkX7_tellPerson : ow_okM yX7_tellPerson cX7_tellPerson 2 (some .int) false 1 := ⟨ow_mb 627 rfl rfl, ow_mb 74 (by decide +kernel) rfl, ⟨by decide, by decide⟩, by decide +kernel, ow_mb 626 (by decide +kernel) rfl, ow_mb 40 (by decide +kernel) rfl⟩
set_option maxRecDepth 20000 in
theorem mkX7_lean : ow_okM yX7_lean cX7_lean 2 (some .int) false 1 := ⟨ow_mb 631 rfl rfl, ow_mb 74 (by decide +kernel) rfl, ⟨by decide, by decide⟩, by decide +kernel, ow_mb 629 (by decide +kernel) rfl, ow_mb 630 (by decide +kernel) rfl⟩
set_option maxRecDepth 20000 in
theorem mkX7_as : ow_okM yX7_as cX7_as 3 (some .int) false 2 := ⟨ow_mb 635 rfl rfl, ow_mb 74 (by decide +kernel) rfl, ⟨by decide, by decide⟩, by decide +kernel, ow_mb 633 (by decide +kernel) rfl, ow_mb 634 (by decide +kernel) rfl⟩
set_option maxRecDepth 20000 in
theorem mkX7_trace : ow_okM yX7_trace cX7_trace 1 (some .int) false 0 := ⟨ow_mb 639 rfl rfl, ow_mb 74 (by decide +kernel) rfl, ⟨by decide, by decide⟩, by decide +kernel, ow_mb 637 (by decide +kernel) rfl, ow_mb 638 (by decide +kernel) rfl⟩
set_option maxRecDepth 20000 in
theorem mkX7_fault : ow_okM yX7_fault cX7_fault 1 (some .int) false 0 := ⟨ow_mb 643 rfl rfl, ow_mb 74 (by decide +kernel) rfl, ⟨by decide, by decide⟩, by decide +kernel, ow_mb 641 (by decide +kernel) rfl, ow_mb 642 (by decide +kernel) rfl⟩
set_option maxRecDepth 20000 in
theorem mkX7_many : ow_okM yX7_many cX7_many 2 (some .int) false 1 := ⟨ow_mb 647 rfl rfl, ow_mb 74 (by decide +kernel) rfl, ⟨by decide, by decide⟩, by decide +kernel, ow_mb 645 (by decide +kernel) rfl, ow_mb 646 (by decide +kernel) rfl⟩
set_option maxRecDepth 20000 in
theorem mkX0_howManyWalled : ow_okM yX0_howManyWalled cX0_howManyWalled 3 (some .int) false 0 := ⟨ow_mb 651 rfl rfl, ow_mb 75 (by decide +kernel) rfl, ⟨by decide, by decide⟩, by decide +kernel, ow_mb 650 (by decide +kernel) rfl, ow_mb 41 (by decide +kernel) rfl⟩
set_option maxRecDepth 20000 in
theorem mkX8_wire : ow_okM yX8_wire cX8_wire 8 (some .int) false 4 := ⟨ow_mb 758 rfl rfl, ow_mb 82 (by decide +kernel) rfl, ⟨by decide, by decide⟩, by decide +kernel, ow_mb 756 (by decide +kernel) rfl, ow_mb 757 (by decide +kernel) rfl⟩
set_option maxRecDepth 20000 in
theorem mkX8_isSheet : ow_okM yX8_isSheet cX8_isSheet 1 (some .boolean) true 1 := ⟨ow_mb 761 rfl rfl, ow_mb 82 (by decide +kernel) rfl, ⟨by decide, by decide⟩, by decide +kernel, ow_mb 760 (by decide +kernel) rfl⟩
set_option maxRecDepth 20000 in
theorem mkX8_within : ow_okM yX8_within cX8_within 3 (some .boolean) true 3 := ⟨ow_mb 764 rfl rfl, ow_mb 82 (by decide +kernel) rfl, ⟨by decide, by decide⟩, by decide +kernel, ow_mb 763 (by decide +kernel) rfl⟩
set_option maxRecDepth 20000 in
theorem mkX8_isSort : ow_okM yX8_isSort cX8_isSort 1 (some .boolean) true 1 := ⟨ow_mb 767 rfl rfl, ow_mb 82 (by decide +kernel) rfl, ⟨by decide, by decide⟩, by decide +kernel, ow_mb 766 (by decide +kernel) rfl⟩
set_option maxRecDepth 20000 in
theorem mkX8_against : ow_okM yX8_against cX8_against 5 (some .int) false 4 := ⟨ow_mb 771 rfl rfl, ow_mb 82 (by decide +kernel) rfl, ⟨by decide, by decide⟩, by decide +kernel, ow_mb 770 (by decide +kernel) rfl, ow_mb 42 (by decide +kernel) rfl⟩
set_option maxRecDepth 20000 in
theorem mkX8_fails : ow_okM yX8_fails cX8_fails 2 (some .int) false 1 := ⟨ow_mb 775 rfl rfl, ow_mb 82 (by decide +kernel) rfl, ⟨by decide, by decide⟩, by decide +kernel, ow_mb 774 (by decide +kernel) rfl, ow_mb 43 (by decide +kernel) rfl⟩
set_option maxRecDepth 20000 in
theorem mkX8_readWire : ow_okM yX8_readWire cX8_readWire 2 (some .boolean) false 1 := ⟨ow_mb 779 rfl rfl, ow_mb 82 (by decide +kernel) rfl, ⟨by decide, by decide⟩, by decide +kernel, ow_mb 778 (by decide +kernel) rfl, ow_mb 44 (by decide +kernel) rfl⟩
set_option maxRecDepth 20000 in
theorem mkX8_digit : ow_okM yX8_digit cX8_digit 4 (some .int) false 3 := ⟨ow_mb 783 rfl rfl, ow_mb 82 (by decide +kernel) rfl, ⟨by decide, by decide⟩, by decide +kernel, ow_mb 782 (by decide +kernel) rfl, ow_mb 45 (by decide +kernel) rfl⟩
set_option maxRecDepth 20000 in
theorem mkX8_readPerson : ow_okM yX8_readPerson cX8_readPerson 4 (some .boolean) false 2 := ⟨ow_mb 787 rfl rfl, ow_mb 82 (by decide +kernel) rfl, ⟨by decide, by decide⟩, by decide +kernel, ow_mb 786 (by decide +kernel) rfl, ow_mb 46 (by decide +kernel) rfl⟩
set_option maxRecDepth 20000 in
theorem mkX8_ofPerson : ow_okM yX8_ofPerson cX8_ofPerson 3 (some .int) false 2 := ⟨ow_mb 791 rfl rfl, ow_mb 82 (by decide +kernel) rfl, ⟨by decide, by decide⟩, by decide +kernel, ow_mb 789 (by decide +kernel) rfl, ow_mb 790 (by decide +kernel) rfl⟩
set_option maxRecDepth 20000 in
theorem mkX8_isPerson : ow_okM yX8_isPerson cX8_isPerson 2 (some .boolean) false 1 := ⟨ow_mb 795 rfl rfl, ow_mb 82 (by decide +kernel) rfl, ⟨by decide, by decide⟩, by decide +kernel, ow_mb 794 (by decide +kernel) rfl, ow_mb 47 (by decide +kernel) rfl⟩
set_option maxRecDepth 20000 in
theorem mkX8_grudge : ow_okM yX8_grudge cX8_grudge 3 (some .int) false 2 := ⟨ow_mb 799 rfl rfl, ow_mb 82 (by decide +kernel) rfl, ⟨by decide, by decide⟩, by decide +kernel, ow_mb 797 (by decide +kernel) rfl, ow_mb 798 (by decide +kernel) rfl⟩
set_option maxRecDepth 20000 in
theorem mkX8_isEdge : ow_okM yX8_isEdge cX8_isEdge 2 (some .boolean) false 1 := ⟨ow_mb 803 rfl rfl, ow_mb 82 (by decide +kernel) rfl, ⟨by decide, by decide⟩, by decide +kernel, ow_mb 802 (by decide +kernel) rfl, ow_mb 48 (by decide +kernel) rfl⟩
set_option maxRecDepth 20000 in
theorem mkX8_edges : ow_okM yX8_edges cX8_edges 1 (some .int) false 0 := ⟨ow_mb 807 rfl rfl, ow_mb 82 (by decide +kernel) rfl, ⟨by decide, by decide⟩, by decide +kernel, ow_mb 806 (by decide +kernel) rfl, ow_mb 49 (by decide +kernel) rfl⟩
set_option maxRecDepth 20000 in
theorem mkX8_isOpen : ow_okM yX8_isOpen cX8_isOpen 2 (some .boolean) false 1 := ⟨ow_mb 811 rfl rfl, ow_mb 82 (by decide +kernel) rfl, ⟨by decide, by decide⟩, by decide +kernel, ow_mb 810 (by decide +kernel) rfl, ow_mb 50 (by decide +kernel) rfl⟩
set_option maxRecDepth 20000 in
theorem mkX8_hand : ow_okM yX8_hand cX8_hand 3 (some .int) false 1 := ⟨ow_mb 815 rfl rfl, ow_mb 82 (by decide +kernel) rfl, ⟨by decide, by decide⟩, by decide +kernel, ow_mb 813 (by decide +kernel) rfl, ow_mb 814 (by decide +kernel) rfl⟩
set_option maxRecDepth 20000 in
theorem mkX8_farEnd : ow_okM yX8_farEnd cX8_farEnd 2 (some .int) false 1 := ⟨ow_mb 819 rfl rfl, ow_mb 82 (by decide +kernel) rfl, ⟨by decide, by decide⟩, by decide +kernel, ow_mb 818 (by decide +kernel) rfl, ow_mb 51 (by decide +kernel) rfl⟩
set_option maxRecDepth 20000 in
theorem mkX8_wish : ow_okM yX8_wish cX8_wish 4 (some .int) false 2 := ⟨ow_mb 823 rfl rfl, ow_mb 82 (by decide +kernel) rfl, ⟨by decide, by decide⟩, by decide +kernel, ow_mb 821 (by decide +kernel) rfl, ow_mb 822 (by decide +kernel) rfl⟩
set_option maxRecDepth 20000 in
theorem mkX8_news : ow_okM yX8_news cX8_news 5 (some .int) false 4 := ⟨ow_mb 827 rfl rfl, ow_mb 82 (by decide +kernel) rfl, ⟨by decide, by decide⟩, by decide +kernel, ow_mb 825 (by decide +kernel) rfl, ow_mb 826 (by decide +kernel) rfl⟩
set_option maxRecDepth 20000 in
theorem mkX8_isNumber : ow_okM yX8_isNumber cX8_isNumber 1 (some .boolean) true 1 := ⟨ow_mb 830 rfl rfl, ow_mb 82 (by decide +kernel) rfl, ⟨by decide, by decide⟩, by decide +kernel, ow_mb 829 (by decide +kernel) rfl⟩
set_option maxRecDepth 20000 in
theorem mkX8_spread : ow_okM yX8_spread cX8_spread 6 none false 2 := ⟨ow_mb 834 rfl rfl, ow_mb 82 (by decide +kernel) rfl, ⟨by decide, by decide⟩, by decide +kernel, ow_mb 833 (by decide +kernel) rfl, ow_mb 52 (by decide +kernel) rfl⟩
set_option maxRecDepth 20000 in
theorem mkX8_isBeside : ow_okM yX8_isBeside cX8_isBeside 5 (some .boolean) false 2 := ⟨ow_mb 838 rfl rfl, ow_mb 82 (by decide +kernel) rfl, ⟨by decide, by decide⟩, by decide +kernel, ow_mb 837 (by decide +kernel) rfl, ow_mb 53 (by decide +kernel) rfl⟩
set_option maxRecDepth 20000 in
theorem mkX8_pass : ow_okM yX8_pass cX8_pass 5 none false 4 := ⟨ow_mb 842 rfl rfl, ow_mb 82 (by decide +kernel) rfl, ⟨by decide, by decide⟩, by decide +kernel, ow_mb 841 (by decide +kernel) rfl, ow_mb 54 (by decide +kernel) rfl⟩
set_option maxRecDepth 20000 in
theorem mkX8_altered : ow_okM yX8_altered cX8_altered 4 (some .int) false 2 := ⟨ow_mb 846 rfl rfl, ow_mb 82 (by decide +kernel) rfl, ⟨by decide, by decide⟩, by decide +kernel, ow_mb 845 (by decide +kernel) rfl, ow_mb 55 (by decide +kernel) rfl⟩
set_option maxRecDepth 20000 in
theorem mkX8_said : ow_okM yX8_said cX8_said 7 (some .int) false 4 := ⟨ow_mb 850 rfl rfl, ow_mb 82 (by decide +kernel) rfl, ⟨by decide, by decide⟩, by decide +kernel, ow_mb 848 (by decide +kernel) rfl, ow_mb 849 (by decide +kernel) rfl⟩
set_option maxRecDepth 20000 in
theorem mkX8_fewest : ow_okM yX8_fewest cX8_fewest 1 (some .int) false 0 := ⟨ow_mb 854 rfl rfl, ow_mb 82 (by decide +kernel) rfl, ⟨by decide, by decide⟩, by decide +kernel, ow_mb 852 (by decide +kernel) rfl, ow_mb 853 (by decide +kernel) rfl⟩
set_option maxRecDepth 20000 in
theorem mkX8_findSteps : ow_okM yX8_findSteps cX8_findSteps 8 (some .int) false 1 := ⟨ow_mb 858 rfl rfl, ow_mb 82 (by decide +kernel) rfl, ⟨by decide, by decide⟩, by decide +kernel, ow_mb 857 (by decide +kernel) rfl, ow_mb 56 (by decide +kernel) rfl⟩
set_option maxRecDepth 20000 in
theorem mkX8_reach : ow_okM yX8_reach cX8_reach 3 none false 2 := ⟨ow_mb 862 rfl rfl, ow_mb 82 (by decide +kernel) rfl, ⟨by decide, by decide⟩, by decide +kernel, ow_mb 861 (by decide +kernel) rfl, ow_mb 57 (by decide +kernel) rfl⟩
set_option maxRecDepth 20000 in
theorem mkX8_mayBe : ow_okM yX8_mayBe cX8_mayBe 5 (some .boolean) false 1 := ⟨ow_mb 866 rfl rfl, ow_mb 82 (by decide +kernel) rfl, ⟨by decide, by decide⟩, by decide +kernel, ow_mb 865 (by decide +kernel) rfl, ow_mb 58 (by decide +kernel) rfl⟩
set_option maxRecDepth 20000 in
theorem mkX8_after : ow_okM yX8_after cX8_after 5 (some .int) false 2 := ⟨ow_mb 870 rfl rfl, ow_mb 82 (by decide +kernel) rfl, ⟨by decide, by decide⟩, by decide +kernel, ow_mb 869 (by decide +kernel) rfl, ow_mb 59 (by decide +kernel) rfl⟩
set_option maxRecDepth 20000 in
theorem mkX8_exchanged : ow_okM yX8_exchanged cX8_exchanged 5 (some .int) false 2 := ⟨ow_mb 874 rfl rfl, ow_mb 82 (by decide +kernel) rfl, ⟨by decide, by decide⟩, by decide +kernel, ow_mb 873 (by decide +kernel) rfl, ow_mb 60 (by decide +kernel) rfl⟩
set_option maxRecDepth 20000 in
theorem mkX8_goodIn : ow_okM yX8_goodIn cX8_goodIn 2 (some .int) true 2 := ⟨ow_mb 877 rfl rfl, ow_mb 82 (by decide +kernel) rfl, ⟨by decide, by decide⟩, by decide +kernel, ow_mb 876 (by decide +kernel) rfl⟩
set_option maxRecDepth 20000 in
theorem mkX8_soonest : ow_okM yX8_soonest cX8_soonest 1 (some .int) false 0 := ⟨ow_mb 881 rfl rfl, ow_mb 82 (by decide +kernel) rfl, ⟨by decide, by decide⟩, by decide +kernel, ow_mb 879 (by decide +kernel) rfl, ow_mb 880 (by decide +kernel) rfl⟩
set_option maxRecDepth 20000 in
theorem mkX8_cut : ow_okM yX8_cut cX8_cut 6 (some .int) false 1 := ⟨ow_mb 885 rfl rfl, ow_mb 82 (by decide +kernel) rfl, ⟨by decide, by decide⟩, by decide +kernel, ow_mb 883 (by decide +kernel) rfl, ow_mb 884 (by decide +kernel) rfl⟩
set_option maxRecDepth 20000 in
theorem mkX8_order : ow_okM yX8_order cX8_order 10 (some .int) false 5 := ⟨ow_mb 889 rfl rfl, ow_mb 82 (by decide +kernel) rfl, ⟨by decide, by decide⟩, by decide +kernel, ow_mb 887 (by decide +kernel) rfl, ow_mb 888 (by decide +kernel) rfl⟩
set_option maxRecDepth 20000 in
theorem mkX8_barred : ow_okM yX8_barred cX8_barred 3 (some .int) false 0 := ⟨ow_mb 893 rfl rfl, ow_mb 82 (by decide +kernel) rfl, ⟨by decide, by decide⟩, by decide +kernel, ow_mb 892 (by decide +kernel) rfl, ow_mb 61 (by decide +kernel) rfl⟩
set_option maxRecDepth 20000 in
theorem mkX8_changes : ow_okM yX8_changes cX8_changes 4 (some .int) false 0 := ⟨ow_mb 897 rfl rfl, ow_mb 82 (by decide +kernel) rfl, ⟨by decide, by decide⟩, by decide +kernel, ow_mb 896 (by decide +kernel) rfl, ow_mb 62 (by decide +kernel) rfl⟩
set_option maxRecDepth 20000 in
theorem mkX8_coming : ow_okM yX8_coming cX8_coming 4 (some .int) false 0 := ⟨ow_mb 901 rfl rfl, ow_mb 82 (by decide +kernel) rfl, ⟨by decide, by decide⟩, by decide +kernel, ow_mb 899 (by decide +kernel) rfl, ow_mb 900 (by decide +kernel) rfl⟩
set_option maxRecDepth 20000 in
theorem mkX8_mayStand : ow_okM yX8_mayStand cX8_mayStand 4 (some .boolean) false 2 := ⟨ow_mb 905 rfl rfl, ow_mb 82 (by decide +kernel) rfl, ⟨by decide, by decide⟩, by decide +kernel, ow_mb 904 (by decide +kernel) rfl, ow_mb 63 (by decide +kernel) rfl⟩
set_option maxRecDepth 20000 in
theorem mkX8_letters : ow_okM yX8_letters cX8_letters 2 (some .int) false 1 := ⟨ow_mb 909 rfl rfl, ow_mb 82 (by decide +kernel) rfl, ⟨by decide, by decide⟩, by decide +kernel, ow_mb 907 (by decide +kernel) rfl, ow_mb 908 (by decide +kernel) rfl⟩
set_option maxRecDepth 20000 in
theorem mkX8_layLetters : ow_okM yX8_layLetters cX8_layLetters 6 none false 0 := ⟨ow_mb 913 rfl rfl, ow_mb 82 (by decide +kernel) rfl, ⟨by decide, by decide⟩, by decide +kernel, ow_mb 912 (by decide +kernel) rfl, ow_mb 64 (by decide +kernel) rfl⟩
set_option maxRecDepth 20000 in
theorem mkX8_readers : ow_okM yX8_readers cX8_readers 4 (some .int) false 2 := ⟨ow_mb 917 rfl rfl, ow_mb 82 (by decide +kernel) rfl, ⟨by decide, by decide⟩, by decide +kernel, ow_mb 916 (by decide +kernel) rfl, ow_mb 65 (by decide +kernel) rfl⟩
set_option maxRecDepth 20000 in
theorem mkX8_mateOf : ow_okM yX8_mateOf cX8_mateOf 5 (some .int) false 1 := ⟨ow_mb 921 rfl rfl, ow_mb 82 (by decide +kernel) rfl, ⟨by decide, by decide⟩, by decide +kernel, ow_mb 920 (by decide +kernel) rfl, ow_mb 66 (by decide +kernel) rfl⟩
set_option maxRecDepth 20000 in
theorem mkX8_heard : ow_okM yX8_heard cX8_heard 7 (some .long) false 3 := ⟨ow_mb 925 rfl rfl, ow_mb 82 (by decide +kernel) rfl, ⟨by decide, by decide⟩, by decide +kernel, ow_mb 923 (by decide +kernel) rfl, ow_mb 924 (by decide +kernel) rfl⟩
set_option maxRecDepth 20000 in
theorem mkX8_hearing : ow_okM yX8_hearing cX8_hearing 10 (some .long) false 2 := ⟨ow_mb 931 rfl rfl, ow_mb 82 (by decide +kernel) rfl, ⟨by decide, by decide⟩, by decide +kernel, ow_mb 930 (by decide +kernel) rfl, ow_mb 67 (by decide +kernel) rfl⟩
set_option maxRecDepth 20000 in
theorem mkX8_reached : ow_okM yX8_reached cX8_reached 7 (some .int) false 2 := ⟨ow_mb 935 rfl rfl, ow_mb 82 (by decide +kernel) rfl, ⟨by decide, by decide⟩, by decide +kernel, ow_mb 934 (by decide +kernel) rfl, ow_mb 68 (by decide +kernel) rfl⟩
set_option maxRecDepth 20000 in
theorem mkX8_inLeastTerms : ow_okM yX8_inLeastTerms cX8_inLeastTerms 11 (some .long) true 3 := ⟨ow_mb 938 rfl rfl, ow_mb 82 (by decide +kernel) rfl, ⟨by decide, by decide⟩, by decide +kernel, ow_mb 937 (by decide +kernel) rfl⟩
set_option maxRecDepth 20000 in
theorem mkX8_stand : ow_okM yX8_stand cX8_stand 8 (some .int) false 1 := ⟨ow_mb 942 rfl rfl, ow_mb 82 (by decide +kernel) rfl, ⟨by decide, by decide⟩, by decide +kernel, ow_mb 940 (by decide +kernel) rfl, ow_mb 941 (by decide +kernel) rfl⟩
set_option maxRecDepth 20000 in
theorem mkX8_reading : ow_okM yX8_reading cX8_reading 5 (some .int) false 4 := ⟨ow_mb 946 rfl rfl, ow_mb 82 (by decide +kernel) rfl, ⟨by decide, by decide⟩, by decide +kernel, ow_mb 944 (by decide +kernel) rfl, ow_mb 945 (by decide +kernel) rfl⟩
set_option maxRecDepth 20000 in
theorem mkX8_back : ow_okM yX8_back cX8_back 2 (some .int) false 1 := ⟨ow_mb 950 rfl rfl, ow_mb 82 (by decide +kernel) rfl, ⟨by decide, by decide⟩, by decide +kernel, ow_mb 948 (by decide +kernel) rfl, ow_mb 949 (by decide +kernel) rfl⟩
set_option maxRecDepth 20000 in
theorem mkX8_kinds : ow_okM yX8_kinds cX8_kinds 5 (some .int) false 1 := ⟨ow_mb 954 rfl rfl, ow_mb 82 (by decide +kernel) rfl, ⟨by decide, by decide⟩, by decide +kernel, ow_mb 952 (by decide +kernel) rfl, ow_mb 953 (by decide +kernel) rfl⟩
set_option maxRecDepth 20000 in
theorem mkX8_areSo : ow_okM yX8_areSo cX8_areSo 4 (some .boolean) false 0 := ⟨ow_mb 958 rfl rfl, ow_mb 82 (by decide +kernel) rfl, ⟨by decide, by decide⟩, by decide +kernel, ow_mb 957 (by decide +kernel) rfl, ow_mb 69 (by decide +kernel) rfl⟩
set_option maxRecDepth 20000 in
theorem mkX8_walls : ow_okM yX8_walls cX8_walls 4 (some .int) false 0 := ⟨ow_mb 962 rfl rfl, ow_mb 82 (by decide +kernel) rfl, ⟨by decide, by decide⟩, by decide +kernel, ow_mb 960 (by decide +kernel) rfl, ow_mb 961 (by decide +kernel) rfl⟩
set_option maxRecDepth 20000 in
theorem mkX8_sheet : ow_okM yX8_sheet cX8_sheet 5 (some .int) false 3 := ⟨ow_mb 966 rfl rfl, ow_mb 82 (by decide +kernel) rfl, ⟨by decide, by decide⟩, by decide +kernel, ow_mb 964 (by decide +kernel) rfl, ow_mb 965 (by decide +kernel) rfl⟩
set_option maxRecDepth 20000 in
theorem mkX8_lose : ow_okM yX8_lose cX8_lose 3 (some .int) false 1 := ⟨ow_mb 970 rfl rfl, ow_mb 82 (by decide +kernel) rfl, ⟨by decide, by decide⟩, by decide +kernel, ow_mb 968 (by decide +kernel) rfl, ow_mb 969 (by decide +kernel) rfl⟩
set_option maxRecDepth 20000 in
theorem mkX8_put : ow_okM yX8_put cX8_put 4 (some .int) false 3 := ⟨ow_mb 974 rfl rfl, ow_mb 82 (by decide +kernel) rfl, ⟨by decide, by decide⟩, by decide +kernel, ow_mb 972 (by decide +kernel) rfl, ow_mb 973 (by decide +kernel) rfl⟩
set_option maxRecDepth 20000 in
theorem mkX8_cell : ow_okM yX8_cell cX8_cell 4 (some .long) false 3 := ⟨ow_mb 978 rfl rfl, ow_mb 82 (by decide +kernel) rfl, ⟨by decide, by decide⟩, by decide +kernel, ow_mb 976 (by decide +kernel) rfl, ow_mb 977 (by decide +kernel) rfl⟩
set_option maxRecDepth 20000 in
theorem mkX8_lost : ow_okM yX8_lost cX8_lost 2 (some .long) false 1 := ⟨ow_mb 982 rfl rfl, ow_mb 82 (by decide +kernel) rfl, ⟨by decide, by decide⟩, by decide +kernel, ow_mb 981 (by decide +kernel) rfl, ow_mb 70 (by decide +kernel) rfl⟩
set_option maxRecDepth 20000 in
theorem mkX8_copy : ow_okM yX8_copy cX8_copy 10 (some .int) false 5 := ⟨ow_mb 986 rfl rfl, ow_mb 82 (by decide +kernel) rfl, ⟨by decide, by decide⟩, by decide +kernel, ow_mb 984 (by decide +kernel) rfl, ow_mb 985 (by decide +kernel) rfl⟩
set_option maxRecDepth 20000 in
theorem mkX8_tell : ow_okM yX8_tell cX8_tell 3 (some .int) false 1 := ⟨ow_mb 990 rfl rfl, ow_mb 82 (by decide +kernel) rfl, ⟨by decide, by decide⟩, by decide +kernel, ow_mb 988 (by decide +kernel) rfl, ow_mb 989 (by decide +kernel) rfl⟩
set_option maxRecDepth 20000 in
theorem mkX8_begins : ow_okM yX8_begins cX8_begins 2 none false 1 := ⟨ow_mb 994 rfl rfl, ow_mb 82 (by decide +kernel) rfl, ⟨by decide, by decide⟩, by decide +kernel, ow_mb 993 (by decide +kernel) rfl, ow_mb 71 (by decide +kernel) rfl⟩
set_option maxRecDepth 20000 in
theorem mkX8_lean : ow_okM yX8_lean cX8_lean 2 (some .int) false 1 := ⟨ow_mb 998 rfl rfl, ow_mb 82 (by decide +kernel) rfl, ⟨by decide, by decide⟩, by decide +kernel, ow_mb 996 (by decide +kernel) rfl, ow_mb 997 (by decide +kernel) rfl⟩
set_option maxRecDepth 20000 in
theorem mkX8_as : ow_okM yX8_as cX8_as 3 (some .int) false 2 := ⟨ow_mb 1002 rfl rfl, ow_mb 82 (by decide +kernel) rfl, ⟨by decide, by decide⟩, by decide +kernel, ow_mb 1000 (by decide +kernel) rfl, ow_mb 1001 (by decide +kernel) rfl⟩
set_option maxRecDepth 20000 in
theorem mkX8_trace : ow_okM yX8_trace cX8_trace 1 (some .int) false 0 := ⟨ow_mb 1006 rfl rfl, ow_mb 82 (by decide +kernel) rfl, ⟨by decide, by decide⟩, by decide +kernel, ow_mb 1004 (by decide +kernel) rfl, ow_mb 1005 (by decide +kernel) rfl⟩
set_option maxRecDepth 20000 in
theorem mkX8_fault : ow_okM yX8_fault cX8_fault 1 (some .int) false 0 := ⟨ow_mb 1010 rfl rfl, ow_mb 82 (by decide +kernel) rfl, ⟨by decide, by decide⟩, by decide +kernel, ow_mb 1008 (by decide +kernel) rfl, ow_mb 1009 (by decide +kernel) rfl⟩
set_option maxRecDepth 20000 in
theorem mkX8_many : ow_okM yX8_many cX8_many 2 (some .int) false 1 := ⟨ow_mb 1014 rfl rfl, ow_mb 82 (by decide +kernel) rfl, ⟨by decide, by decide⟩, by decide +kernel, ow_mb 1012 (by decide +kernel) rfl, ow_mb 1013 (by decide +kernel) rfl⟩
set_option maxRecDepth 20000 in
theorem mkX8_walled : ow_okM yX8_walled cX8_walled 3 (some .int) false 0 := ⟨ow_mb 1018 rfl rfl, ow_mb 82 (by decide +kernel) rfl, ⟨by decide, by decide⟩, by decide +kernel, ow_mb 1017 (by decide +kernel) rfl, ow_mb 72 (by decide +kernel) rfl⟩
theorem lkL_13 : ow_lk RL 13 yX7_wire := Or.inl (ow_mb 284 (by decide +kernel) rfl)
theorem lkX7_67 : ow_lk RX7 67 yX7_isSheet := Or.inl (ow_mb 288 (by decide +kernel) rfl)
theorem lkX7_71 : ow_lk RX7 71 yX7_isLane := Or.inl (ow_mb 291 (by decide +kernel) rfl)
theorem lkX7_74 : ow_lk RX7 74 yX4_faultOfCells := Or.inr ⟨"OneWire", ow_mn 294 (by decide +kernel) rfl⟩
theorem lkX4_32 : ow_lk RX4 32 yX4_hasCells := Or.inl (ow_mb 298 (by decide +kernel) rfl)
theorem lkX7_78 : ow_lk RX7 78 yX7_failed := Or.inl (ow_mb 302 (by decide +kernel) rfl)
theorem lkX7_82 : ow_lk RX7 82 yX7_firstFault := Or.inl (ow_mb 306 (by decide +kernel) rfl)
theorem lkX7_242 : ow_lk RX7 242 yX4_load := Or.inr ⟨"OneWire", ow_mn 309 (by decide +kernel) rfl⟩
theorem lkX7_245 : ow_lk RX7 245 yX7_goesOn := Or.inl (ow_mb 313 (by decide +kernel) rfl)
theorem lkX7_248 : ow_lk RX7 248 yX7_isDigit := Or.inl (ow_mb 316 (by decide +kernel) rfl)
theorem lkX7_86 : ow_lk RX7 86 yX0_takeText := Or.inr ⟨"OneWire", ow_mn 319 (by decide +kernel) rfl⟩
theorem lkX0_39 : ow_lk RX0 39 yX4_load := Or.inr ⟨"OneWire", ow_mn 323 (by decide +kernel) rfl⟩
theorem lkX0_51 : ow_lk RX0 51 yX0_kindOf := Or.inl (ow_mb 327 (by decide +kernel) rfl)
theorem lkL_18 : ow_lk RL 18 yX7_ofPerson := Or.inl (ow_mb 330 (by decide +kernel) rfl)
theorem lkX7_96 : ow_lk RX7 96 yX0_isPerson := Or.inr ⟨"OneWire", ow_mn 334 (by decide +kernel) rfl⟩
theorem lkL_23 : ow_lk RL 23 yX7_grudge := Or.inl (ow_mb 338 (by decide +kernel) rfl)
theorem lkX7_112 : ow_lk RX7 112 yX0_isEdge := Or.inr ⟨"OneWire", ow_mn 342 (by decide +kernel) rfl⟩
theorem lkL_28 : ow_lk RL 28 yX7_hand := Or.inl (ow_mb 346 (by decide +kernel) rfl)
theorem lkX7_119 : ow_lk RX7 119 yX0_changeGoods := Or.inr ⟨"OneWire", ow_mn 350 (by decide +kernel) rfl⟩
theorem lkX0_54 : ow_lk RX0 54 yX0_isEdge := Or.inl (ow_mb 354 (by decide +kernel) rfl)
theorem lkX0_58 : ow_lk RX0 58 yX0_rightEnd := Or.inl (ow_mb 355 (by decide +kernel) rfl)
theorem lkL_33 : ow_lk RL 33 yX7_wish := Or.inl (ow_mb 359 (by decide +kernel) rfl)
theorem lkL_37 : ow_lk RL 37 yX7_news := Or.inl (ow_mb 363 (by decide +kernel) rfl)
theorem lkX7_123 : ow_lk RX7 123 yX7_isNumber := Or.inl (ow_mb 367 (by decide +kernel) rfl)
theorem lkX7_126 : ow_lk RX7 126 yX5_tellFrom := Or.inr ⟨"OneWire", ow_mn 370 (by decide +kernel) rfl⟩
theorem lkX5_18 : ow_lk RX5 18 yJ7_fill_53178 := Or.inl (ow_mb 374 (by decide +kernel) rfl)
theorem lkX5_24 : ow_lk RX5 24 yX0_isPerson := Or.inr ⟨"OneWire", ow_mn 377 (by decide +kernel) rfl⟩
theorem lkX5_34 : ow_lk RX5 34 yX0_altered := Or.inr ⟨"OneWire", ow_mn 378 (by decide +kernel) rfl⟩
theorem lkX0_64 : ow_lk RX0 64 yX0_isPerson := Or.inl (ow_mb 382 (by decide +kernel) rfl)
theorem lkX5_38 : ow_lk RX5 38 yX5_passOn := Or.inl (ow_mb 383 (by decide +kernel) rfl)
theorem lkX5_42 : ow_lk RX5 42 yX0_edgeOnLeft := Or.inr ⟨"OneWire", ow_mn 387 (by decide +kernel) rfl⟩
theorem lkX5_46 : ow_lk RX5 46 yX0_isOpen := Or.inr ⟨"OneWire", ow_mn 391 (by decide +kernel) rfl⟩
theorem lkX5_49 : ow_lk RX5 49 yX5_hear := Or.inl (ow_mb 395 (by decide +kernel) rfl)
theorem lkX5_53 : ow_lk RX5 53 yX0_rightEnd := Or.inr ⟨"OneWire", ow_mn 399 (by decide +kernel) rfl⟩
theorem lkL_41 : ow_lk RL 41 yX7_said := Or.inl (ow_mb 400 (by decide +kernel) rfl)
theorem lkL_45 : ow_lk RL 45 yX7_fewest := Or.inl (ow_mb 404 (by decide +kernel) rfl)
theorem lkX7_136 : ow_lk RX7 136 yX0_isThere := Or.inr ⟨"OneWire", ow_mn 408 (by decide +kernel) rfl⟩
theorem lkX7_140 : ow_lk RX7 140 yX6_leastSteps := Or.inr ⟨"OneWire", ow_mn 412 (by decide +kernel) rfl⟩
theorem lkX6_40 : ow_lk RX6 40 yX6_held := Or.inl (ow_mb 416 (by decide +kernel) rfl)
theorem lkX6_44 : ow_lk RX6 44 yX6_gatherSteps := Or.inl (ow_mb 419 (by decide +kernel) rfl)
theorem lkX6_68 : ow_lk RX6 68 yX6_isOneDay := Or.inl (ow_mb 423 (by decide +kernel) rfl)
theorem lkX6_72 : ow_lk RX6 72 yX0_rightEnd := Or.inr ⟨"OneWire", ow_mn 426 (by decide +kernel) rfl⟩
theorem lkX6_76 : ow_lk RX6 76 yX0_isOpen := Or.inr ⟨"OneWire", ow_mn 427 (by decide +kernel) rfl⟩
theorem lkX6_48 : ow_lk RX6 48 yJ7_fill_d0a16 := Or.inl (ow_mb 428 (by decide +kernel) rfl)
theorem lkX6_57 : ow_lk RX6 57 yX6_meet := Or.inl (ow_mb 431 (by decide +kernel) rfl)
theorem lkX6_61 : ow_lk RX6 61 yX6_goOnFrom := Or.inl (ow_mb 435 (by decide +kernel) rfl)
theorem lkX6_80 : ow_lk RX6 80 yX6_turnedBy := Or.inl (ow_mb 439 (by decide +kernel) rfl)
theorem lkL_50 : ow_lk RL 50 yX7_soonest := Or.inl (ow_mb 442 (by decide +kernel) rfl)
theorem lkL_54 : ow_lk RL 54 yX7_cut := Or.inl (ow_mb 446 (by decide +kernel) rfl)
theorem lkX7_148 : ow_lk RX7 148 yX6_mustGoOver := Or.inr ⟨"OneWire", ow_mn 450 (by decide +kernel) rfl⟩
theorem lkL_58 : ow_lk RL 58 yX7_order := Or.inl (ow_mb 457 (by decide +kernel) rfl)
theorem lkX7_152 : ow_lk RX7 152 yX2_readPlaces := Or.inr ⟨"OneWire", ow_mn 461 (by decide +kernel) rfl⟩
theorem lkX2_18 : ow_lk RX2 18 yJ7_fill_53178 := Or.inl (ow_mb 465 (by decide +kernel) rfl)
theorem lkX2_30 : ow_lk RX2 30 yX4_load := Or.inr ⟨"OneWire", ow_mn 466 (by decide +kernel) rfl⟩
theorem lkX2_36 : ow_lk RX2 36 yX0_isPerson := Or.inr ⟨"OneWire", ow_mn 467 (by decide +kernel) rfl⟩
theorem lkX7_156 : ow_lk RX7 156 yX2_firstBar := Or.inr ⟨"OneWire", ow_mn 468 (by decide +kernel) rfl⟩
theorem lkX2_43 : ow_lk RX2 43 yX2_mayChange := Or.inl (ow_mb 472 (by decide +kernel) rfl)
theorem lkX7_160 : ow_lk RX7 160 yX2_changes := Or.inr ⟨"OneWire", ow_mn 475 (by decide +kernel) rfl⟩
theorem lkL_63 : ow_lk RL 63 yX7_coming := Or.inl (ow_mb 479 (by decide +kernel) rfl)
theorem lkX7_163 : ow_lk RX7 163 yX2_howManyCome := Or.inr ⟨"OneWire", ow_mn 483 (by decide +kernel) rfl⟩
theorem lkX2_47 : ow_lk RX2 47 yX2_mustBeAhead := Or.inl (ow_mb 487 (by decide +kernel) rfl)
theorem lkL_67 : ow_lk RL 67 yX7_letters := Or.inl (ow_mb 490 (by decide +kernel) rfl)
theorem lkX7_166 : ow_lk RX7 166 yX1_leastReaders := Or.inr ⟨"OneWire", ow_mn 494 (by decide +kernel) rfl⟩
theorem lkX1_21 : ow_lk RX1 21 yX1_leastOf := Or.inl (ow_mb 498 (by decide +kernel) rfl)
theorem lkX1_25 : ow_lk RX1 25 yX1_readersWith := Or.inl (ow_mb 501 (by decide +kernel) rfl)
theorem lkX1_32 : ow_lk RX1 32 yX1_between := Or.inl (ow_mb 505 (by decide +kernel) rfl)
theorem lkX7_169 : ow_lk RX7 169 yX1_mateOf := Or.inr ⟨"OneWire", ow_mn 509 (by decide +kernel) rfl⟩
theorem lkL_71 : ow_lk RL 71 yX7_heard := Or.inl (ow_mb 513 (by decide +kernel) rfl)
theorem lkX7_172 : ow_lk RX7 172 yX7_isTenths := Or.inl (ow_mb 517 (by decide +kernel) rfl)
theorem lkX7_177 : ow_lk RX7 177 yX7_hearers := Or.inl (ow_mb 521 (by decide +kernel) rfl)
theorem lkX7_251 : ow_lk RX7 251 yX0_wayRight := Or.inr ⟨"OneWire", ow_mn 525 (by decide +kernel) rfl⟩
theorem lkX0_61 : ow_lk RX0 61 yX0_isOpen := Or.inl (ow_mb 529 (by decide +kernel) rfl)
theorem lkX7_255 : ow_lk RX7 255 yX7_reaching := Or.inl (ow_mb 530 (by decide +kernel) rfl)
theorem lkX7_259 : ow_lk RX7 259 yX7_allWhole := Or.inl (ow_mb 534 (by decide +kernel) rfl)
theorem lkX7_181 : ow_lk RX7 181 yX7_whole := Or.inl (ow_mb 539 (by decide +kernel) rfl)
theorem lkX7_185 : ow_lk RX7 185 yX7_commonDivisor := Or.inl (ow_mb 543 (by decide +kernel) rfl)
theorem lkL_76 : ow_lk RL 76 yX7_stand := Or.inl (ow_mb 546 (by decide +kernel) rfl)
theorem lkL_80 : ow_lk RL 80 yX7_reading := Or.inl (ow_mb 550 (by decide +kernel) rfl)
theorem lkX7_189 : ow_lk RX7 189 yX3_takeOne := Or.inr ⟨"OneWire", ow_mn 554 (by decide +kernel) rfl⟩
theorem lkL_84 : ow_lk RL 84 yX7_back := Or.inl (ow_mb 558 (by decide +kernel) rfl)
theorem lkL_88 : ow_lk RL 88 yX7_kinds := Or.inl (ow_mb 562 (by decide +kernel) rfl)
theorem lkX7_193 : ow_lk RX7 193 yX3_areAllSo := Or.inr ⟨"OneWire", ow_mn 566 (by decide +kernel) rfl⟩
theorem lkX3_28 : ow_lk RX3 28 yX5_tellFrom := Or.inr ⟨"OneWire", ow_mn 570 (by decide +kernel) rfl⟩
theorem lkL_92 : ow_lk RL 92 yX7_walls := Or.inl (ow_mb 571 (by decide +kernel) rfl)
theorem lkL_96 : ow_lk RL 96 yX7_sheet := Or.inl (ow_mb 575 (by decide +kernel) rfl)
theorem lkX7_200 : ow_lk RX7 200 yX4_becomeNew := Or.inr ⟨"OneWire", ow_mn 579 (by decide +kernel) rfl⟩
theorem lkX4_26 : ow_lk RX4 26 yJ7_fill_53178 := Or.inl (ow_mb 583 (by decide +kernel) rfl)
theorem lkL_101 : ow_lk RL 101 yX7_lose := Or.inl (ow_mb 584 (by decide +kernel) rfl)
theorem lkL_105 : ow_lk RL 105 yX7_put := Or.inl (ow_mb 588 (by decide +kernel) rfl)
theorem lkX7_207 : ow_lk RX7 207 yX4_hasCells := Or.inr ⟨"OneWire", ow_mn 592 (by decide +kernel) rfl⟩
theorem lkX7_211 : ow_lk RX7 211 yX4_store := Or.inr ⟨"OneWire", ow_mn 593 (by decide +kernel) rfl⟩
theorem lkL_109 : ow_lk RL 109 yX7_cell := Or.inl (ow_mb 597 (by decide +kernel) rfl)
theorem lkL_113 : ow_lk RL 113 yX7_copy := Or.inl (ow_mb 601 (by decide +kernel) rfl)
theorem lkL_117 : ow_lk RL 117 yX7_tell := Or.inl (ow_mb 608 (by decide +kernel) rfl)
theorem lkX7_226 : ow_lk RX7 226 yX7_tellTalker := Or.inl (ow_mb 612 (by decide +kernel) rfl)
theorem lkX7_235 : ow_lk RX7 235 yX7_leaveTrace := Or.inl (ow_mb 616 (by decide +kernel) rfl)
theorem lkX7_229 : ow_lk RX7 229 yX7_tellGrudger := Or.inl (ow_mb 620 (by decide +kernel) rfl)
theorem lkX7_232 : ow_lk RX7 232 yX7_tellPerson := Or.inl (ow_mb 624 (by decide +kernel) rfl)
theorem lkL_121 : ow_lk RL 121 yX7_lean := Or.inl (ow_mb 628 (by decide +kernel) rfl)
theorem lkL_125 : ow_lk RL 125 yX7_as := Or.inl (ow_mb 632 (by decide +kernel) rfl)
theorem lkL_129 : ow_lk RL 129 yX7_trace := Or.inl (ow_mb 636 (by decide +kernel) rfl)
theorem lkL_133 : ow_lk RL 133 yX7_fault := Or.inl (ow_mb 640 (by decide +kernel) rfl)
theorem lkL_137 : ow_lk RL 137 yX7_many := Or.inl (ow_mb 644 (by decide +kernel) rfl)
theorem lkX7_238 : ow_lk RX7 238 yX0_howManyWalled := Or.inr ⟨"OneWire", ow_mn 648 (by decide +kernel) rfl⟩
theorem lkL_17 : ow_lk RL 17 yX8_wire := Or.inl (ow_mb 755 (by decide +kernel) rfl)
theorem lkX8_103 : ow_lk RX8 103 yX8_isSheet := Or.inl (ow_mb 759 (by decide +kernel) rfl)
theorem lkX8_82 : ow_lk RX8 82 yX8_within := Or.inl (ow_mb 762 (by decide +kernel) rfl)
theorem lkX8_107 : ow_lk RX8 107 yX8_isSort := Or.inl (ow_mb 765 (by decide +kernel) rfl)
theorem lkX8_110 : ow_lk RX8 110 yX8_against := Or.inl (ow_mb 768 (by decide +kernel) rfl)
theorem lkX8_114 : ow_lk RX8 114 yX8_fails := Or.inl (ow_mb 772 (by decide +kernel) rfl)
theorem lkX8_118 : ow_lk RX8 118 yX8_readWire := Or.inl (ow_mb 776 (by decide +kernel) rfl)
theorem lkX8_130 : ow_lk RX8 130 yX8_digit := Or.inl (ow_mb 780 (by decide +kernel) rfl)
theorem lkX8_134 : ow_lk RX8 134 yX8_readPerson := Or.inl (ow_mb 784 (by decide +kernel) rfl)
theorem lkL_22 : ow_lk RL 22 yX8_ofPerson := Or.inl (ow_mb 788 (by decide +kernel) rfl)
theorem lkX8_138 : ow_lk RX8 138 yX8_isPerson := Or.inl (ow_mb 792 (by decide +kernel) rfl)
theorem lkL_27 : ow_lk RL 27 yX8_grudge := Or.inl (ow_mb 796 (by decide +kernel) rfl)
theorem lkX8_141 : ow_lk RX8 141 yX8_isEdge := Or.inl (ow_mb 800 (by decide +kernel) rfl)
theorem lkX8_93 : ow_lk RX8 93 yX8_edges := Or.inl (ow_mb 804 (by decide +kernel) rfl)
theorem lkX8_144 : ow_lk RX8 144 yX8_isOpen := Or.inl (ow_mb 808 (by decide +kernel) rfl)
theorem lkL_32 : ow_lk RL 32 yX8_hand := Or.inl (ow_mb 812 (by decide +kernel) rfl)
theorem lkX8_147 : ow_lk RX8 147 yX8_farEnd := Or.inl (ow_mb 816 (by decide +kernel) rfl)
theorem lkL_36 : ow_lk RL 36 yX8_wish := Or.inl (ow_mb 820 (by decide +kernel) rfl)
theorem lkL_40 : ow_lk RL 40 yX8_news := Or.inl (ow_mb 824 (by decide +kernel) rfl)
theorem lkX8_161 : ow_lk RX8 161 yX8_isNumber := Or.inl (ow_mb 828 (by decide +kernel) rfl)
theorem lkX8_164 : ow_lk RX8 164 yX8_spread := Or.inl (ow_mb 831 (by decide +kernel) rfl)
theorem lkX8_154 : ow_lk RX8 154 yX8_isBeside := Or.inl (ow_mb 835 (by decide +kernel) rfl)
theorem lkX8_157 : ow_lk RX8 157 yX8_pass := Or.inl (ow_mb 839 (by decide +kernel) rfl)
theorem lkX8_150 : ow_lk RX8 150 yX8_altered := Or.inl (ow_mb 843 (by decide +kernel) rfl)
theorem lkL_44 : ow_lk RL 44 yX8_said := Or.inl (ow_mb 847 (by decide +kernel) rfl)
theorem lkL_49 : ow_lk RL 49 yX8_fewest := Or.inl (ow_mb 851 (by decide +kernel) rfl)
theorem lkX8_186 : ow_lk RX8 186 yX8_findSteps := Or.inl (ow_mb 855 (by decide +kernel) rfl)
theorem lkX8_177 : ow_lk RX8 177 yX8_reach := Or.inl (ow_mb 859 (by decide +kernel) rfl)
theorem lkX8_180 : ow_lk RX8 180 yX8_mayBe := Or.inl (ow_mb 863 (by decide +kernel) rfl)
theorem lkX8_183 : ow_lk RX8 183 yX8_after := Or.inl (ow_mb 867 (by decide +kernel) rfl)
theorem lkX8_171 : ow_lk RX8 171 yX8_exchanged := Or.inl (ow_mb 871 (by decide +kernel) rfl)
theorem lkX8_168 : ow_lk RX8 168 yX8_goodIn := Or.inl (ow_mb 875 (by decide +kernel) rfl)
theorem lkL_53 : ow_lk RL 53 yX8_soonest := Or.inl (ow_mb 878 (by decide +kernel) rfl)
theorem lkL_57 : ow_lk RL 57 yX8_cut := Or.inl (ow_mb 882 (by decide +kernel) rfl)
theorem lkL_62 : ow_lk RL 62 yX8_order := Or.inl (ow_mb 886 (by decide +kernel) rfl)
theorem lkX8_190 : ow_lk RX8 190 yX8_barred := Or.inl (ow_mb 890 (by decide +kernel) rfl)
theorem lkX8_193 : ow_lk RX8 193 yX8_changes := Or.inl (ow_mb 894 (by decide +kernel) rfl)
theorem lkL_66 : ow_lk RL 66 yX8_coming := Or.inl (ow_mb 898 (by decide +kernel) rfl)
theorem lkX8_196 : ow_lk RX8 196 yX8_mayStand := Or.inl (ow_mb 902 (by decide +kernel) rfl)
theorem lkL_70 : ow_lk RL 70 yX8_letters := Or.inl (ow_mb 906 (by decide +kernel) rfl)
theorem lkX8_202 : ow_lk RX8 202 yX8_layLetters := Or.inl (ow_mb 910 (by decide +kernel) rfl)
theorem lkX8_199 : ow_lk RX8 199 yX8_readers := Or.inl (ow_mb 914 (by decide +kernel) rfl)
theorem lkX8_205 : ow_lk RX8 205 yX8_mateOf := Or.inl (ow_mb 918 (by decide +kernel) rfl)
theorem lkL_75 : ow_lk RL 75 yX8_heard := Or.inl (ow_mb 922 (by decide +kernel) rfl)
theorem lkX8_213 : ow_lk RX8 213 yX8_hearing := Or.inl (ow_mb 928 (by decide +kernel) rfl)
theorem lkX8_208 : ow_lk RX8 208 yX8_reached := Or.inl (ow_mb 932 (by decide +kernel) rfl)
theorem lkX8_217 : ow_lk RX8 217 yX8_inLeastTerms := Or.inl (ow_mb 936 (by decide +kernel) rfl)
theorem lkL_79 : ow_lk RL 79 yX8_stand := Or.inl (ow_mb 939 (by decide +kernel) rfl)
theorem lkL_83 : ow_lk RL 83 yX8_reading := Or.inl (ow_mb 943 (by decide +kernel) rfl)
theorem lkL_87 : ow_lk RL 87 yX8_back := Or.inl (ow_mb 947 (by decide +kernel) rfl)
theorem lkL_91 : ow_lk RL 91 yX8_kinds := Or.inl (ow_mb 951 (by decide +kernel) rfl)
theorem lkX8_221 : ow_lk RX8 221 yX8_areSo := Or.inl (ow_mb 955 (by decide +kernel) rfl)
theorem lkL_95 : ow_lk RL 95 yX8_walls := Or.inl (ow_mb 959 (by decide +kernel) rfl)
theorem lkL_100 : ow_lk RL 100 yX8_sheet := Or.inl (ow_mb 963 (by decide +kernel) rfl)
theorem lkL_104 : ow_lk RL 104 yX8_lose := Or.inl (ow_mb 967 (by decide +kernel) rfl)
theorem lkL_108 : ow_lk RL 108 yX8_put := Or.inl (ow_mb 971 (by decide +kernel) rfl)
theorem lkL_112 : ow_lk RL 112 yX8_cell := Or.inl (ow_mb 975 (by decide +kernel) rfl)
theorem lkX8_225 : ow_lk RX8 225 yX8_lost := Or.inl (ow_mb 979 (by decide +kernel) rfl)
theorem lkL_116 : ow_lk RL 116 yX8_copy := Or.inl (ow_mb 983 (by decide +kernel) rfl)
theorem lkL_120 : ow_lk RL 120 yX8_tell := Or.inl (ow_mb 987 (by decide +kernel) rfl)
theorem lkX8_232 : ow_lk RX8 232 yX8_begins := Or.inl (ow_mb 991 (by decide +kernel) rfl)
theorem lkL_124 : ow_lk RL 124 yX8_lean := Or.inl (ow_mb 995 (by decide +kernel) rfl)
theorem lkL_128 : ow_lk RL 128 yX8_as := Or.inl (ow_mb 999 (by decide +kernel) rfl)
theorem lkL_132 : ow_lk RL 132 yX8_trace := Or.inl (ow_mb 1003 (by decide +kernel) rfl)
theorem lkL_136 : ow_lk RL 136 yX8_fault := Or.inl (ow_mb 1007 (by decide +kernel) rfl)
theorem lkL_140 : ow_lk RL 140 yX8_many := Or.inl (ow_mb 1011 (by decide +kernel) rfl)
theorem lkX8_236 : ow_lk RX8 236 yX8_walled := Or.inl (ow_mb 1015 (by decide +kernel) rfl)
theorem mk_max : Cond.static Lib.Math.max.name ∈ ow_base ∧ Cond.initialized "java/lang/Math" ∈ ow_base ∧ Cond.code Lib.Math.max.name Lib.Math.max.code 2 (some .int) ∈ ow_base := ⟨ow_mb 455 (by decide +kernel) rfl, ow_mb 83 (by decide +kernel) rfl, ow_mb 456 (by decide +kernel) rfl⟩
theorem lkX6_84 : Cond.methodLink RX6 84 Lib.Math.max.name ∈ ow_base := ow_mb 454 (by decide +kernel) rfl
theorem mk_min : Cond.static Lib.Math.min.name ∈ ow_base ∧ Cond.initialized "java/lang/Math" ∈ ow_base ∧ Cond.code Lib.Math.min.name Lib.Math.min.code 2 (some .int) ∈ ow_base := ⟨ow_mb 325 (by decide +kernel) rfl, ow_mb 83 (by decide +kernel) rfl, ow_mb 326 (by decide +kernel) rfl⟩
theorem lkX0_45 : Cond.methodLink RX0 45 Lib.Math.min.name ∈ ow_base := ow_mb 324 (by decide +kernel) rfl
theorem lkX1_40 : Cond.methodLink RX1 40 Lib.Math.min.name ∈ ow_base := ow_mb 508 (by decide +kernel) rfl
theorem klX7_175 : Cond.constantLong RX7 175 (-9223372036854775808) ∈ ow_base := ow_mb 520 (by decide +kernel) rfl
theorem klX7_262 : Cond.constantLong RX7 262 (10) ∈ ow_base := ow_mb 538 (by decide +kernel) rfl
theorem klX8_80 : Cond.constantLong RX8 80 (-9223372036854775808) ∈ ow_base := ow_mb 926 (by decide +kernel) rfl
theorem klX8_211 : Cond.constantLong RX8 211 (10) ∈ ow_base := ow_mb 927 (by decide +kernel) rfl
end
