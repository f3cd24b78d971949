section
-- ===== PART A: goes FIRST, ahead of the names: the tables' words, and 'selects' of the private methods out of them =====
/-- a private method of a class that the tables say can be made, by its rows of tables_1 -/
def lw_okq (q : MethodName × Nat) : Prop := (q.1.cls ≠ "java/lang/invoke/MethodHandle" ∧ q.1.cls ≠ "java/lang/invoke/VarHandle") ∧ Cond.instantiable q.1.cls q.2 ∈ tables_1 ∧ Cond.privateMethod q.1 ∈ tables_1 ∧ Cond.instanceMethod q.1 ∈ tables_1
theorem lw_p0 : lw_okq (⟨"BedHouse$Plan", "startAnew", "()V"⟩, 11) := ⟨⟨by decide +kernel, by decide +kernel⟩, List.mem_of_getElem? (i := 123) (by decide +kernel), List.mem_of_getElem? (i := 129) (by decide +kernel), List.mem_of_getElem? (i := 130) (by decide +kernel)⟩
theorem lw_p1 : lw_okq (⟨"BedHouse$Text", "append", "(I)V"⟩, 8) := ⟨⟨by decide +kernel, by decide +kernel⟩, List.mem_of_getElem? (i := 22) (by decide +kernel), List.mem_of_getElem? (i := 213) (by decide +kernel), List.mem_of_getElem? (i := 214) (by decide +kernel)⟩
theorem lw_p2 : lw_okq (⟨"BedHouse$Text", "tell", "(LBedHouse$Plan;)I"⟩, 8) := ⟨⟨by decide +kernel, by decide +kernel⟩, List.mem_of_getElem? (i := 22) (by decide +kernel), List.mem_of_getElem? (i := 225) (by decide +kernel), List.mem_of_getElem? (i := 226) (by decide +kernel)⟩
theorem lw_p3 : lw_okq (⟨"BedHouse$Text", "nextToken", "()V"⟩, 8) := ⟨⟨by decide +kernel, by decide +kernel⟩, List.mem_of_getElem? (i := 22) (by decide +kernel), List.mem_of_getElem? (i := 230) (by decide +kernel), List.mem_of_getElem? (i := 231) (by decide +kernel)⟩
theorem lw_p4 : lw_okq (⟨"BedHouse$Text", "byteAt", "(I)I"⟩, 8) := ⟨⟨by decide +kernel, by decide +kernel⟩, List.mem_of_getElem? (i := 22) (by decide +kernel), List.mem_of_getElem? (i := 234) (by decide +kernel), List.mem_of_getElem? (i := 235) (by decide +kernel)⟩
theorem lw_p5 : lw_okq (⟨"BedHouse$Text", "readWord", "()V"⟩, 8) := ⟨⟨by decide +kernel, by decide +kernel⟩, List.mem_of_getElem? (i := 22) (by decide +kernel), List.mem_of_getElem? (i := 241) (by decide +kernel), List.mem_of_getElem? (i := 242) (by decide +kernel)⟩
theorem lw_p6 : lw_okq (⟨"BedHouse$Text", "isSpelled", "(Ljava/lang/String;)Z"⟩, 8) := ⟨⟨by decide +kernel, by decide +kernel⟩, List.mem_of_getElem? (i := 22) (by decide +kernel), List.mem_of_getElem? (i := 259) (by decide +kernel), List.mem_of_getElem? (i := 260) (by decide +kernel)⟩
theorem lw_p7 : lw_okq (⟨"BedHouse$Text", "readNumber", "()V"⟩, 8) := ⟨⟨by decide +kernel, by decide +kernel⟩, List.mem_of_getElem? (i := 22) (by decide +kernel), List.mem_of_getElem? (i := 314) (by decide +kernel), List.mem_of_getElem? (i := 315) (by decide +kernel)⟩
theorem lw_p8 : lw_okq (⟨"BedHouse$Text", "tellItem", "(LBedHouse$Plan;)Z"⟩, 8) := ⟨⟨by decide +kernel, by decide +kernel⟩, List.mem_of_getElem? (i := 22) (by decide +kernel), List.mem_of_getElem? (i := 321) (by decide +kernel), List.mem_of_getElem? (i := 322) (by decide +kernel)⟩
theorem lw_p9 : lw_okq (⟨"BedHouse$Text", "mayBegin", "(ILBedHouse$Plan;)Z"⟩, 8) := ⟨⟨by decide +kernel, by decide +kernel⟩, List.mem_of_getElem? (i := 22) (by decide +kernel), List.mem_of_getElem? (i := 325) (by decide +kernel), List.mem_of_getElem? (i := 326) (by decide +kernel)⟩
theorem lw_p10 : lw_okq (⟨"BedHouse$Plan", "panelAt", "(II)I"⟩, 11) := ⟨⟨by decide +kernel, by decide +kernel⟩, List.mem_of_getElem? (i := 123) (by decide +kernel), List.mem_of_getElem? (i := 335) (by decide +kernel), List.mem_of_getElem? (i := 336) (by decide +kernel)⟩
theorem lw_p11 : lw_okq (⟨"BedHouse$Text", "apply", "(IIILBedHouse$Plan;)V"⟩, 8) := ⟨⟨by decide +kernel, by decide +kernel⟩, List.mem_of_getElem? (i := 22) (by decide +kernel), List.mem_of_getElem? (i := 342) (by decide +kernel), List.mem_of_getElem? (i := 343) (by decide +kernel)⟩
theorem lw_p12 : lw_okq (⟨"BedHouse$Plan", "addBeam", "(I)V"⟩, 11) := ⟨⟨by decide +kernel, by decide +kernel⟩, List.mem_of_getElem? (i := 123) (by decide +kernel), List.mem_of_getElem? (i := 349) (by decide +kernel), List.mem_of_getElem? (i := 350) (by decide +kernel)⟩
theorem lw_p13 : lw_okq (⟨"BedHouse$Plan", "addPanel", "(II)V"⟩, 11) := ⟨⟨by decide +kernel, by decide +kernel⟩, List.mem_of_getElem? (i := 123) (by decide +kernel), List.mem_of_getElem? (i := 353) (by decide +kernel), List.mem_of_getElem? (i := 354) (by decide +kernel)⟩
theorem lw_p14 : lw_okq (⟨"BedHouse$Moment", "begin", "(I)V"⟩, 8) := ⟨⟨by decide +kernel, by decide +kernel⟩, List.mem_of_getElem? (i := 79) (by decide +kernel), List.mem_of_getElem? (i := 360) (by decide +kernel), List.mem_of_getElem? (i := 361) (by decide +kernel)⟩
theorem lw_p15 : lw_okq (⟨"BedHouse$Plan", "hasPanel", "(I)Z"⟩, 11) := ⟨⟨by decide +kernel, by decide +kernel⟩, List.mem_of_getElem? (i := 123) (by decide +kernel), List.mem_of_getElem? (i := 368) (by decide +kernel), List.mem_of_getElem? (i := 369) (by decide +kernel)⟩
def lw_privs_1 : List (MethodName × Nat) := [(⟨"BedHouse$Plan", "startAnew", "()V"⟩, 11), (⟨"BedHouse$Text", "append", "(I)V"⟩, 8), (⟨"BedHouse$Text", "tell", "(LBedHouse$Plan;)I"⟩, 8), (⟨"BedHouse$Text", "nextToken", "()V"⟩, 8), (⟨"BedHouse$Text", "byteAt", "(I)I"⟩, 8), (⟨"BedHouse$Text", "readWord", "()V"⟩, 8), (⟨"BedHouse$Text", "isSpelled", "(Ljava/lang/String;)Z"⟩, 8), (⟨"BedHouse$Text", "readNumber", "()V"⟩, 8), (⟨"BedHouse$Text", "tellItem", "(LBedHouse$Plan;)Z"⟩, 8), (⟨"BedHouse$Text", "mayBegin", "(ILBedHouse$Plan;)Z"⟩, 8), (⟨"BedHouse$Plan", "panelAt", "(II)I"⟩, 11), (⟨"BedHouse$Text", "apply", "(IIILBedHouse$Plan;)V"⟩, 8), (⟨"BedHouse$Plan", "addBeam", "(I)V"⟩, 11), (⟨"BedHouse$Plan", "addPanel", "(II)V"⟩, 11), (⟨"BedHouse$Moment", "begin", "(I)V"⟩, 8), (⟨"BedHouse$Plan", "hasPanel", "(I)Z"⟩, 11)]
theorem lw_r1 : ∀ q ∈ lw_privs_1, lw_okq q := List.forall_mem_cons.mpr ⟨lw_p0, List.forall_mem_cons.mpr ⟨lw_p1, List.forall_mem_cons.mpr ⟨lw_p2, List.forall_mem_cons.mpr ⟨lw_p3, List.forall_mem_cons.mpr ⟨lw_p4, List.forall_mem_cons.mpr ⟨lw_p5, List.forall_mem_cons.mpr ⟨lw_p6, List.forall_mem_cons.mpr ⟨lw_p7, List.forall_mem_cons.mpr ⟨lw_p8, List.forall_mem_cons.mpr ⟨lw_p9, List.forall_mem_cons.mpr ⟨lw_p10, List.forall_mem_cons.mpr ⟨lw_p11, List.forall_mem_cons.mpr ⟨lw_p12, List.forall_mem_cons.mpr ⟨lw_p13, List.forall_mem_cons.mpr ⟨lw_p14, List.forall_mem_cons.mpr ⟨lw_p15, fun _ h => absurd h List.not_mem_nil⟩⟩⟩⟩⟩⟩⟩⟩⟩⟩⟩⟩⟩⟩⟩⟩
theorem lw_p16 : lw_okq (⟨"BedHouse$Plan", "sortOf", "(I)I"⟩, 11) := ⟨⟨by decide +kernel, by decide +kernel⟩, List.mem_of_getElem? (i := 123) (by decide +kernel), List.mem_of_getElem? (i := 372) (by decide +kernel), List.mem_of_getElem? (i := 373) (by decide +kernel)⟩
theorem lw_p17 : lw_okq (⟨"BedHouse$Plan", "hasBeam", "(I)Z"⟩, 11) := ⟨⟨by decide +kernel, by decide +kernel⟩, List.mem_of_getElem? (i := 123) (by decide +kernel), List.mem_of_getElem? (i := 392) (by decide +kernel), List.mem_of_getElem? (i := 393) (by decide +kernel)⟩
theorem lw_p18 : lw_okq (⟨"BedHouse$Plan", "isBorne", "(II)Z"⟩, 11) := ⟨⟨by decide +kernel, by decide +kernel⟩, List.mem_of_getElem? (i := 123) (by decide +kernel), List.mem_of_getElem? (i := 396) (by decide +kernel), List.mem_of_getElem? (i := 397) (by decide +kernel)⟩
theorem lw_p19 : lw_okq (⟨"BedHouse$Plan", "slotsUnder", "(II)I"⟩, 11) := ⟨⟨by decide +kernel, by decide +kernel⟩, List.mem_of_getElem? (i := 123) (by decide +kernel), List.mem_of_getElem? (i := 401) (by decide +kernel), List.mem_of_getElem? (i := 402) (by decide +kernel)⟩
theorem lw_p20 : lw_okq (⟨"BedHouse", "act", "(II)I"⟩, 7) := ⟨⟨by decide +kernel, by decide +kernel⟩, List.mem_of_getElem? (i := 14) (by decide +kernel), List.mem_of_getElem? (i := 412) (by decide +kernel), List.mem_of_getElem? (i := 413) (by decide +kernel)⟩
theorem lw_p21 : lw_okq (⟨"BedHouse$Plan", "allows", "(I)Z"⟩, 11) := ⟨⟨by decide +kernel, by decide +kernel⟩, List.mem_of_getElem? (i := 123) (by decide +kernel), List.mem_of_getElem? (i := 420) (by decide +kernel), List.mem_of_getElem? (i := 421) (by decide +kernel)⟩
theorem lw_p22 : lw_okq (⟨"BedHouse$Plan", "lyingIn", "(I)I"⟩, 11) := ⟨⟨by decide +kernel, by decide +kernel⟩, List.mem_of_getElem? (i := 123) (by decide +kernel), List.mem_of_getElem? (i := 424) (by decide +kernel), List.mem_of_getElem? (i := 425) (by decide +kernel)⟩
theorem lw_p23 : lw_okq (⟨"BedHouse$Plan", "leaksOf", "(I)I"⟩, 11) := ⟨⟨by decide +kernel, by decide +kernel⟩, List.mem_of_getElem? (i := 123) (by decide +kernel), List.mem_of_getElem? (i := 444) (by decide +kernel), List.mem_of_getElem? (i := 445) (by decide +kernel)⟩
theorem lw_p24 : lw_okq (⟨"BedHouse$Plan", "worthOf", "(I)I"⟩, 11) := ⟨⟨by decide +kernel, by decide +kernel⟩, List.mem_of_getElem? (i := 123) (by decide +kernel), List.mem_of_getElem? (i := 452) (by decide +kernel), List.mem_of_getElem? (i := 453) (by decide +kernel)⟩
theorem lw_p25 : lw_okq (⟨"BedHouse$Plan", "litHours", "(I)I"⟩, 11) := ⟨⟨by decide +kernel, by decide +kernel⟩, List.mem_of_getElem? (i := 123) (by decide +kernel), List.mem_of_getElem? (i := 456) (by decide +kernel), List.mem_of_getElem? (i := 457) (by decide +kernel)⟩
theorem lw_p26 : lw_okq (⟨"BedHouse$Plan", "quietIn", "(I)I"⟩, 11) := ⟨⟨by decide +kernel, by decide +kernel⟩, List.mem_of_getElem? (i := 123) (by decide +kernel), List.mem_of_getElem? (i := 461) (by decide +kernel), List.mem_of_getElem? (i := 462) (by decide +kernel)⟩
theorem lw_p27 : lw_okq (⟨"BedHouse", "isImage", "(I)Z"⟩, 7) := ⟨⟨by decide +kernel, by decide +kernel⟩, List.mem_of_getElem? (i := 14) (by decide +kernel), List.mem_of_getElem? (i := 475) (by decide +kernel), List.mem_of_getElem? (i := 476) (by decide +kernel)⟩
theorem lw_p28 : lw_okq (⟨"BedHouse$Search", "fewestActs", "(LBedHouse$Plan;II)I"⟩, 5) := ⟨⟨by decide +kernel, by decide +kernel⟩, List.mem_of_getElem? (i := 55) (by decide +kernel), List.mem_of_getElem? (i := 479) (by decide +kernel), List.mem_of_getElem? (i := 480) (by decide +kernel)⟩
theorem lw_p29 : lw_okq (⟨"BedHouse$Search", "survey", "(LBedHouse$Plan;)V"⟩, 5) := ⟨⟨by decide +kernel, by decide +kernel⟩, List.mem_of_getElem? (i := 55) (by decide +kernel), List.mem_of_getElem? (i := 483) (by decide +kernel), List.mem_of_getElem? (i := 484) (by decide +kernel)⟩
theorem lw_p30 : lw_okq (⟨"BedHouse$Search", "spreadFrom", "(LBedHouse$Plan;I)V"⟩, 5) := ⟨⟨by decide +kernel, by decide +kernel⟩, List.mem_of_getElem? (i := 55) (by decide +kernel), List.mem_of_getElem? (i := 489) (by decide +kernel), List.mem_of_getElem? (i := 490) (by decide +kernel)⟩
theorem lw_p31 : lw_okq (⟨"BedHouse$Search", "spread", "(LBedHouse$Plan;II)V"⟩, 5) := ⟨⟨by decide +kernel, by decide +kernel⟩, List.mem_of_getElem? (i := 55) (by decide +kernel), List.mem_of_getElem? (i := 493) (by decide +kernel), List.mem_of_getElem? (i := 494) (by decide +kernel)⟩
def lw_privs_2 : List (MethodName × Nat) := [(⟨"BedHouse$Plan", "sortOf", "(I)I"⟩, 11), (⟨"BedHouse$Plan", "hasBeam", "(I)Z"⟩, 11), (⟨"BedHouse$Plan", "isBorne", "(II)Z"⟩, 11), (⟨"BedHouse$Plan", "slotsUnder", "(II)I"⟩, 11), (⟨"BedHouse", "act", "(II)I"⟩, 7), (⟨"BedHouse$Plan", "allows", "(I)Z"⟩, 11), (⟨"BedHouse$Plan", "lyingIn", "(I)I"⟩, 11), (⟨"BedHouse$Plan", "leaksOf", "(I)I"⟩, 11), (⟨"BedHouse$Plan", "worthOf", "(I)I"⟩, 11), (⟨"BedHouse$Plan", "litHours", "(I)I"⟩, 11), (⟨"BedHouse$Plan", "quietIn", "(I)I"⟩, 11), (⟨"BedHouse", "isImage", "(I)Z"⟩, 7), (⟨"BedHouse$Search", "fewestActs", "(LBedHouse$Plan;II)I"⟩, 5), (⟨"BedHouse$Search", "survey", "(LBedHouse$Plan;)V"⟩, 5), (⟨"BedHouse$Search", "spreadFrom", "(LBedHouse$Plan;I)V"⟩, 5), (⟨"BedHouse$Search", "spread", "(LBedHouse$Plan;II)V"⟩, 5)]
theorem lw_r2 : ∀ q ∈ lw_privs_2, lw_okq q := List.forall_mem_cons.mpr ⟨lw_p16, List.forall_mem_cons.mpr ⟨lw_p17, List.forall_mem_cons.mpr ⟨lw_p18, List.forall_mem_cons.mpr ⟨lw_p19, List.forall_mem_cons.mpr ⟨lw_p20, List.forall_mem_cons.mpr ⟨lw_p21, List.forall_mem_cons.mpr ⟨lw_p22, List.forall_mem_cons.mpr ⟨lw_p23, List.forall_mem_cons.mpr ⟨lw_p24, List.forall_mem_cons.mpr ⟨lw_p25, List.forall_mem_cons.mpr ⟨lw_p26, List.forall_mem_cons.mpr ⟨lw_p27, List.forall_mem_cons.mpr ⟨lw_p28, List.forall_mem_cons.mpr ⟨lw_p29, List.forall_mem_cons.mpr ⟨lw_p30, List.forall_mem_cons.mpr ⟨lw_p31, fun _ h => absurd h List.not_mem_nil⟩⟩⟩⟩⟩⟩⟩⟩⟩⟩⟩⟩⟩⟩⟩⟩
theorem lw_p32 : lw_okq (⟨"BedHouse$Search", "farTo", "(I)I"⟩, 5) := ⟨⟨by decide +kernel, by decide +kernel⟩, List.mem_of_getElem? (i := 55) (by decide +kernel), List.mem_of_getElem? (i := 497) (by decide +kernel), List.mem_of_getElem? (i := 498) (by decide +kernel)⟩
theorem lw_p33 : lw_okq (⟨"BedHouse$Search", "spreadByOneAct", "(LBedHouse$Plan;II)V"⟩, 5) := ⟨⟨by decide +kernel, by decide +kernel⟩, List.mem_of_getElem? (i := 55) (by decide +kernel), List.mem_of_getElem? (i := 501) (by decide +kernel), List.mem_of_getElem? (i := 502) (by decide +kernel)⟩
theorem lw_p34 : lw_okq (⟨"BedHouse$Search", "reach", "(II)V"⟩, 5) := ⟨⟨by decide +kernel, by decide +kernel⟩, List.mem_of_getElem? (i := 55) (by decide +kernel), List.mem_of_getElem? (i := 507) (by decide +kernel), List.mem_of_getElem? (i := 508) (by decide +kernel)⟩
theorem lw_p35 : lw_okq (⟨"BedHouse$Search", "isLawful", "(I)Z"⟩, 5) := ⟨⟨by decide +kernel, by decide +kernel⟩, List.mem_of_getElem? (i := 55) (by decide +kernel), List.mem_of_getElem? (i := 511) (by decide +kernel), List.mem_of_getElem? (i := 512) (by decide +kernel)⟩
theorem lw_p36 : lw_okq (⟨"BedHouse$Search", "firstAct", "(LBedHouse$Plan;II)I"⟩, 5) := ⟨⟨by decide +kernel, by decide +kernel⟩, List.mem_of_getElem? (i := 55) (by decide +kernel), List.mem_of_getElem? (i := 519) (by decide +kernel), List.mem_of_getElem? (i := 520) (by decide +kernel)⟩
theorem lw_p37 : lw_okq (⟨"BedHouse$Search", "fewestNights", "(LBedHouse$Plan;LBedHouse$Moment;I)I"⟩, 5) := ⟨⟨by decide +kernel, by decide +kernel⟩, List.mem_of_getElem? (i := 55) (by decide +kernel), List.mem_of_getElem? (i := 527) (by decide +kernel), List.mem_of_getElem? (i := 528) (by decide +kernel)⟩
theorem lw_p38 : lw_okq (⟨"BedHouse$Search", "keepDry", "(LBedHouse$Plan;)I"⟩, 5) := ⟨⟨by decide +kernel, by decide +kernel⟩, List.mem_of_getElem? (i := 55) (by decide +kernel), List.mem_of_getElem? (i := 531) (by decide +kernel), List.mem_of_getElem? (i := 532) (by decide +kernel)⟩
theorem lw_p39 : lw_okq (⟨"BedHouse$Search", "actsToEmpty", "(LBedHouse$Plan;II)I"⟩, 5) := ⟨⟨by decide +kernel, by decide +kernel⟩, List.mem_of_getElem? (i := 55) (by decide +kernel), List.mem_of_getElem? (i := 540) (by decide +kernel), List.mem_of_getElem? (i := 541) (by decide +kernel)⟩
theorem lw_p40 : lw_okq (⟨"BedHouse$Search", "bestHome", "(LBedHouse$Plan;)I"⟩, 5) := ⟨⟨by decide +kernel, by decide +kernel⟩, List.mem_of_getElem? (i := 55) (by decide +kernel), List.mem_of_getElem? (i := 549) (by decide +kernel), List.mem_of_getElem? (i := 550) (by decide +kernel)⟩
theorem lw_p41 : lw_okq (⟨"BedHouse$Search", "countFitting", "(LBedHouse$Plan;LBedHouse$Moment;)I"⟩, 5) := ⟨⟨by decide +kernel, by decide +kernel⟩, List.mem_of_getElem? (i := 55) (by decide +kernel), List.mem_of_getElem? (i := 563) (by decide +kernel), List.mem_of_getElem? (i := 564) (by decide +kernel)⟩
theorem lw_p42 : lw_okq (⟨"BedHouse$Plan", "fitsLetter", "(ILBedHouse$Moment;)Z"⟩, 11) := ⟨⟨by decide +kernel, by decide +kernel⟩, List.mem_of_getElem? (i := 123) (by decide +kernel), List.mem_of_getElem? (i := 567) (by decide +kernel), List.mem_of_getElem? (i := 568) (by decide +kernel)⟩
theorem lw_p43 : lw_okq (⟨"BedHouse$Search", "surePlace", "(LBedHouse$Plan;LBedHouse$Moment;I)I"⟩, 5) := ⟨⟨by decide +kernel, by decide +kernel⟩, List.mem_of_getElem? (i := 55) (by decide +kernel), List.mem_of_getElem? (i := 575) (by decide +kernel), List.mem_of_getElem? (i := 576) (by decide +kernel)⟩
theorem lw_p44 : lw_okq (⟨"BedHouse", "markOfPanel", "(I)I"⟩, 7) := ⟨⟨by decide +kernel, by decide +kernel⟩, List.mem_of_getElem? (i := 14) (by decide +kernel), List.mem_of_getElem? (i := 587) (by decide +kernel), List.mem_of_getElem? (i := 588) (by decide +kernel)⟩
theorem lw_p45 : lw_okq (⟨"BedHouse", "markOfBearing", "(I)I"⟩, 7) := ⟨⟨by decide +kernel, by decide +kernel⟩, List.mem_of_getElem? (i := 14) (by decide +kernel), List.mem_of_getElem? (i := 591) (by decide +kernel), List.mem_of_getElem? (i := 592) (by decide +kernel)⟩
theorem lw_p46 : lw_okq (⟨"BedHouse", "markOfLight", "(I)I"⟩, 7) := ⟨⟨by decide +kernel, by decide +kernel⟩, List.mem_of_getElem? (i := 14) (by decide +kernel), List.mem_of_getElem? (i := 596) (by decide +kernel), List.mem_of_getElem? (i := 597) (by decide +kernel)⟩
theorem lw_p47 : lw_okq (⟨"BedHouse", "markOfOld", "(I)I"⟩, 7) := ⟨⟨by decide +kernel, by decide +kernel⟩, List.mem_of_getElem? (i := 14) (by decide +kernel), List.mem_of_getElem? (i := 601) (by decide +kernel), List.mem_of_getElem? (i := 602) (by decide +kernel)⟩
def lw_privs_3 : List (MethodName × Nat) := [(⟨"BedHouse$Search", "farTo", "(I)I"⟩, 5), (⟨"BedHouse$Search", "spreadByOneAct", "(LBedHouse$Plan;II)V"⟩, 5), (⟨"BedHouse$Search", "reach", "(II)V"⟩, 5), (⟨"BedHouse$Search", "isLawful", "(I)Z"⟩, 5), (⟨"BedHouse$Search", "firstAct", "(LBedHouse$Plan;II)I"⟩, 5), (⟨"BedHouse$Search", "fewestNights", "(LBedHouse$Plan;LBedHouse$Moment;I)I"⟩, 5), (⟨"BedHouse$Search", "keepDry", "(LBedHouse$Plan;)I"⟩, 5), (⟨"BedHouse$Search", "actsToEmpty", "(LBedHouse$Plan;II)I"⟩, 5), (⟨"BedHouse$Search", "bestHome", "(LBedHouse$Plan;)I"⟩, 5), (⟨"BedHouse$Search", "countFitting", "(LBedHouse$Plan;LBedHouse$Moment;)I"⟩, 5), (⟨"BedHouse$Plan", "fitsLetter", "(ILBedHouse$Moment;)Z"⟩, 11), (⟨"BedHouse$Search", "surePlace", "(LBedHouse$Plan;LBedHouse$Moment;I)I"⟩, 5), (⟨"BedHouse", "markOfPanel", "(I)I"⟩, 7), (⟨"BedHouse", "markOfBearing", "(I)I"⟩, 7), (⟨"BedHouse", "markOfLight", "(I)I"⟩, 7), (⟨"BedHouse", "markOfOld", "(I)I"⟩, 7)]
theorem lw_r3 : ∀ q ∈ lw_privs_3, lw_okq q := List.forall_mem_cons.mpr ⟨lw_p32, List.forall_mem_cons.mpr ⟨lw_p33, List.forall_mem_cons.mpr ⟨lw_p34, List.forall_mem_cons.mpr ⟨lw_p35, List.forall_mem_cons.mpr ⟨lw_p36, List.forall_mem_cons.mpr ⟨lw_p37, List.forall_mem_cons.mpr ⟨lw_p38, List.forall_mem_cons.mpr ⟨lw_p39, List.forall_mem_cons.mpr ⟨lw_p40, List.forall_mem_cons.mpr ⟨lw_p41, List.forall_mem_cons.mpr ⟨lw_p42, List.forall_mem_cons.mpr ⟨lw_p43, List.forall_mem_cons.mpr ⟨lw_p44, List.forall_mem_cons.mpr ⟨lw_p45, List.forall_mem_cons.mpr ⟨lw_p46, List.forall_mem_cons.mpr ⟨lw_p47, fun _ h => absurd h List.not_mem_nil⟩⟩⟩⟩⟩⟩⟩⟩⟩⟩⟩⟩⟩⟩⟩⟩
theorem lw_p48 : lw_okq (⟨"BedHouse", "markOfClear", "(I)I"⟩, 7) := ⟨⟨by decide +kernel, by decide +kernel⟩, List.mem_of_getElem? (i := 14) (by decide +kernel), List.mem_of_getElem? (i := 606) (by decide +kernel), List.mem_of_getElem? (i := 607) (by decide +kernel)⟩
theorem lw_p49 : lw_okq (⟨"BedHouse", "markOfNeighbours", "(I)I"⟩, 7) := ⟨⟨by decide +kernel, by decide +kernel⟩, List.mem_of_getElem? (i := 14) (by decide +kernel), List.mem_of_getElem? (i := 611) (by decide +kernel), List.mem_of_getElem? (i := 612) (by decide +kernel)⟩
theorem lw_p50 : lw_okq (⟨"BedHouse$Moment", "copyFrom", "(LBedHouse$Moment;)V"⟩, 8) := ⟨⟨by decide +kernel, by decide +kernel⟩, List.mem_of_getElem? (i := 79) (by decide +kernel), List.mem_of_getElem? (i := 620) (by decide +kernel), List.mem_of_getElem? (i := 621) (by decide +kernel)⟩
theorem lw_p51 : lw_okq (⟨"BedHouseModel", "begin", "(I)V"⟩, 19) := ⟨⟨by decide +kernel, by decide +kernel⟩, List.mem_of_getElem? (i := 636) (by decide +kernel), List.mem_of_getElem? (i := 642) (by decide +kernel), List.mem_of_getElem? (i := 643) (by decide +kernel)⟩
theorem lw_p52 : lw_okq (⟨"BedHouseModel", "next", "()V"⟩, 19) := ⟨⟨by decide +kernel, by decide +kernel⟩, List.mem_of_getElem? (i := 636) (by decide +kernel), List.mem_of_getElem? (i := 721) (by decide +kernel), List.mem_of_getElem? (i := 722) (by decide +kernel)⟩
theorem lw_p53 : lw_okq (⟨"BedHouseModel", "here", "()I"⟩, 19) := ⟨⟨by decide +kernel, by decide +kernel⟩, List.mem_of_getElem? (i := 636) (by decide +kernel), List.mem_of_getElem? (i := 725) (by decide +kernel), List.mem_of_getElem? (i := 726) (by decide +kernel)⟩
theorem lw_p54 : lw_okq (⟨"BedHouseModel", "readItem", "()V"⟩, 19) := ⟨⟨by decide +kernel, by decide +kernel⟩, List.mem_of_getElem? (i := 636) (by decide +kernel), List.mem_of_getElem? (i := 733) (by decide +kernel), List.mem_of_getElem? (i := 734) (by decide +kernel)⟩
theorem lw_p55 : lw_okq (⟨"BedHouseModel", "mayItem", "(I)Z"⟩, 19) := ⟨⟨by decide +kernel, by decide +kernel⟩, List.mem_of_getElem? (i := 636) (by decide +kernel), List.mem_of_getElem? (i := 737) (by decide +kernel), List.mem_of_getElem? (i := 738) (by decide +kernel)⟩
theorem lw_p56 : lw_okq (⟨"BedHouseModel", "due", "(Z)I"⟩, 19) := ⟨⟨by decide +kernel, by decide +kernel⟩, List.mem_of_getElem? (i := 636) (by decide +kernel), List.mem_of_getElem? (i := 741) (by decide +kernel), List.mem_of_getElem? (i := 742) (by decide +kernel)⟩
theorem lw_p57 : lw_okq (⟨"BedHouseModel", "stands", "(I)Z"⟩, 19) := ⟨⟨by decide +kernel, by decide +kernel⟩, List.mem_of_getElem? (i := 636) (by decide +kernel), List.mem_of_getElem? (i := 745) (by decide +kernel), List.mem_of_getElem? (i := 746) (by decide +kernel)⟩
theorem lw_p58 : lw_okq (⟨"BedHouseModel", "round", "()I"⟩, 19) := ⟨⟨by decide +kernel, by decide +kernel⟩, List.mem_of_getElem? (i := 636) (by decide +kernel), List.mem_of_getElem? (i := 749) (by decide +kernel), List.mem_of_getElem? (i := 750) (by decide +kernel)⟩
theorem lw_p59 : lw_okq (⟨"BedHouseModel", "number", "(II)I"⟩, 19) := ⟨⟨by decide +kernel, by decide +kernel⟩, List.mem_of_getElem? (i := 636) (by decide +kernel), List.mem_of_getElem? (i := 753) (by decide +kernel), List.mem_of_getElem? (i := 754) (by decide +kernel)⟩
theorem lw_p60 : lw_okq (⟨"BedHouseModel", "isPanel", "(I)Z"⟩, 19) := ⟨⟨by decide +kernel, by decide +kernel⟩, List.mem_of_getElem? (i := 636) (by decide +kernel), List.mem_of_getElem? (i := 761) (by decide +kernel), List.mem_of_getElem? (i := 762) (by decide +kernel)⟩
theorem lw_p61 : lw_okq (⟨"BedHouseModel", "slotIn", "(II)I"⟩, 19) := ⟨⟨by decide +kernel, by decide +kernel⟩, List.mem_of_getElem? (i := 636) (by decide +kernel), List.mem_of_getElem? (i := 765) (by decide +kernel), List.mem_of_getElem? (i := 766) (by decide +kernel)⟩
theorem lw_p62 : lw_okq (⟨"BedHouseModel", "panelAt", "(II)I"⟩, 19) := ⟨⟨by decide +kernel, by decide +kernel⟩, List.mem_of_getElem? (i := 636) (by decide +kernel), List.mem_of_getElem? (i := 776) (by decide +kernel), List.mem_of_getElem? (i := 777) (by decide +kernel)⟩
theorem lw_p63 : lw_okq (⟨"BedHouseModel", "isBorne", "(II)Z"⟩, 19) := ⟨⟨by decide +kernel, by decide +kernel⟩, List.mem_of_getElem? (i := 636) (by decide +kernel), List.mem_of_getElem? (i := 788) (by decide +kernel), List.mem_of_getElem? (i := 789) (by decide +kernel)⟩
def lw_privs_4 : List (MethodName × Nat) := [(⟨"BedHouse", "markOfClear", "(I)I"⟩, 7), (⟨"BedHouse", "markOfNeighbours", "(I)I"⟩, 7), (⟨"BedHouse$Moment", "copyFrom", "(LBedHouse$Moment;)V"⟩, 8), (⟨"BedHouseModel", "begin", "(I)V"⟩, 19), (⟨"BedHouseModel", "next", "()V"⟩, 19), (⟨"BedHouseModel", "here", "()I"⟩, 19), (⟨"BedHouseModel", "readItem", "()V"⟩, 19), (⟨"BedHouseModel", "mayItem", "(I)Z"⟩, 19), (⟨"BedHouseModel", "due", "(Z)I"⟩, 19), (⟨"BedHouseModel", "stands", "(I)Z"⟩, 19), (⟨"BedHouseModel", "round", "()I"⟩, 19), (⟨"BedHouseModel", "number", "(II)I"⟩, 19), (⟨"BedHouseModel", "isPanel", "(I)Z"⟩, 19), (⟨"BedHouseModel", "slotIn", "(II)I"⟩, 19), (⟨"BedHouseModel", "panelAt", "(II)I"⟩, 19), (⟨"BedHouseModel", "isBorne", "(II)Z"⟩, 19)]
theorem lw_r4 : ∀ q ∈ lw_privs_4, lw_okq q := List.forall_mem_cons.mpr ⟨lw_p48, List.forall_mem_cons.mpr ⟨lw_p49, List.forall_mem_cons.mpr ⟨lw_p50, List.forall_mem_cons.mpr ⟨lw_p51, List.forall_mem_cons.mpr ⟨lw_p52, List.forall_mem_cons.mpr ⟨lw_p53, List.forall_mem_cons.mpr ⟨lw_p54, List.forall_mem_cons.mpr ⟨lw_p55, List.forall_mem_cons.mpr ⟨lw_p56, List.forall_mem_cons.mpr ⟨lw_p57, List.forall_mem_cons.mpr ⟨lw_p58, List.forall_mem_cons.mpr ⟨lw_p59, List.forall_mem_cons.mpr ⟨lw_p60, List.forall_mem_cons.mpr ⟨lw_p61, List.forall_mem_cons.mpr ⟨lw_p62, List.forall_mem_cons.mpr ⟨lw_p63, fun _ h => absurd h List.not_mem_nil⟩⟩⟩⟩⟩⟩⟩⟩⟩⟩⟩⟩⟩⟩⟩⟩
theorem lw_p64 : lw_okq (⟨"BedHouseModel", "with", "(III)I"⟩, 19) := ⟨⟨by decide +kernel, by decide +kernel⟩, List.mem_of_getElem? (i := 636) (by decide +kernel), List.mem_of_getElem? (i := 796) (by decide +kernel), List.mem_of_getElem? (i := 797) (by decide +kernel)⟩
theorem lw_p65 : lw_okq (⟨"BedHouseModel", "act", "(I)I"⟩, 19) := ⟨⟨by decide +kernel, by decide +kernel⟩, List.mem_of_getElem? (i := 636) (by decide +kernel), List.mem_of_getElem? (i := 800) (by decide +kernel), List.mem_of_getElem? (i := 801) (by decide +kernel)⟩
theorem lw_p66 : lw_okq (⟨"BedHouseModel", "isLawful", "(I)Z"⟩, 19) := ⟨⟨by decide +kernel, by decide +kernel⟩, List.mem_of_getElem? (i := 636) (by decide +kernel), List.mem_of_getElem? (i := 804) (by decide +kernel), List.mem_of_getElem? (i := 805) (by decide +kernel)⟩
theorem lw_p67 : lw_okq (⟨"BedHouseModel", "lying", "(I)I"⟩, 19) := ⟨⟨by decide +kernel, by decide +kernel⟩, List.mem_of_getElem? (i := 636) (by decide +kernel), List.mem_of_getElem? (i := 808) (by decide +kernel), List.mem_of_getElem? (i := 809) (by decide +kernel)⟩
theorem lw_p68 : lw_okq (⟨"BedHouseModel", "leaksIn", "(I)I"⟩, 19) := ⟨⟨by decide +kernel, by decide +kernel⟩, List.mem_of_getElem? (i := 636) (by decide +kernel), List.mem_of_getElem? (i := 820) (by decide +kernel), List.mem_of_getElem? (i := 821) (by decide +kernel)⟩
theorem lw_p69 : lw_okq (⟨"BedHouseModel", "sortAt", "(II)I"⟩, 19) := ⟨⟨by decide +kernel, by decide +kernel⟩, List.mem_of_getElem? (i := 636) (by decide +kernel), List.mem_of_getElem? (i := 824) (by decide +kernel), List.mem_of_getElem? (i := 825) (by decide +kernel)⟩
theorem lw_p70 : lw_okq (⟨"BedHouseModel", "worthOf", "(I)I"⟩, 19) := ⟨⟨by decide +kernel, by decide +kernel⟩, List.mem_of_getElem? (i := 636) (by decide +kernel), List.mem_of_getElem? (i := 832) (by decide +kernel), List.mem_of_getElem? (i := 833) (by decide +kernel)⟩
theorem lw_p71 : lw_okq (⟨"BedHouseModel", "isLit", "(II)Z"⟩, 19) := ⟨⟨by decide +kernel, by decide +kernel⟩, List.mem_of_getElem? (i := 636) (by decide +kernel), List.mem_of_getElem? (i := 836) (by decide +kernel), List.mem_of_getElem? (i := 837) (by decide +kernel)⟩
theorem lw_p72 : lw_okq (⟨"BedHouseModel", "isOpen", "(II)Z"⟩, 19) := ⟨⟨by decide +kernel, by decide +kernel⟩, List.mem_of_getElem? (i := 636) (by decide +kernel), List.mem_of_getElem? (i := 840) (by decide +kernel), List.mem_of_getElem? (i := 841) (by decide +kernel)⟩
theorem lw_p73 : lw_okq (⟨"BedHouseModel", "refuses", "(I)I"⟩, 19) := ⟨⟨by decide +kernel, by decide +kernel⟩, List.mem_of_getElem? (i := 636) (by decide +kernel), List.mem_of_getElem? (i := 853) (by decide +kernel), List.mem_of_getElem? (i := 854) (by decide +kernel)⟩
theorem lw_p74 : lw_okq (⟨"BedHouseModel", "goFrom", "(I)V"⟩, 19) := ⟨⟨by decide +kernel, by decide +kernel⟩, List.mem_of_getElem? (i := 636) (by decide +kernel), List.mem_of_getElem? (i := 857) (by decide +kernel), List.mem_of_getElem? (i := 858) (by decide +kernel)⟩
theorem lw_p75 : lw_okq (⟨"BedHouseModel", "none", "()V"⟩, 19) := ⟨⟨by decide +kernel, by decide +kernel⟩, List.mem_of_getElem? (i := 636) (by decide +kernel), List.mem_of_getElem? (i := 861) (by decide +kernel), List.mem_of_getElem? (i := 862) (by decide +kernel)⟩
theorem lw_p76 : lw_okq (⟨"BedHouseModel", "reach", "(II)V"⟩, 19) := ⟨⟨by decide +kernel, by decide +kernel⟩, List.mem_of_getElem? (i := 636) (by decide +kernel), List.mem_of_getElem? (i := 865) (by decide +kernel), List.mem_of_getElem? (i := 866) (by decide +kernel)⟩
theorem lw_p77 : lw_okq (⟨"BedHouseModel", "go", "(I)V"⟩, 19) := ⟨⟨by decide +kernel, by decide +kernel⟩, List.mem_of_getElem? (i := 636) (by decide +kernel), List.mem_of_getElem? (i := 869) (by decide +kernel), List.mem_of_getElem? (i := 870) (by decide +kernel)⟩
theorem lw_p78 : lw_okq (⟨"BedHouseModel", "houseOf", "(I)I"⟩, 19) := ⟨⟨by decide +kernel, by decide +kernel⟩, List.mem_of_getElem? (i := 636) (by decide +kernel), List.mem_of_getElem? (i := 873) (by decide +kernel), List.mem_of_getElem? (i := 874) (by decide +kernel)⟩
theorem lw_p79 : lw_okq (⟨"BedHouseModel", "houses", "()I"⟩, 19) := ⟨⟨by decide +kernel, by decide +kernel⟩, List.mem_of_getElem? (i := 636) (by decide +kernel), List.mem_of_getElem? (i := 885) (by decide +kernel), List.mem_of_getElem? (i := 886) (by decide +kernel)⟩
def lw_privs_5 : List (MethodName × Nat) := [(⟨"BedHouseModel", "with", "(III)I"⟩, 19), (⟨"BedHouseModel", "act", "(I)I"⟩, 19), (⟨"BedHouseModel", "isLawful", "(I)Z"⟩, 19), (⟨"BedHouseModel", "lying", "(I)I"⟩, 19), (⟨"BedHouseModel", "leaksIn", "(I)I"⟩, 19), (⟨"BedHouseModel", "sortAt", "(II)I"⟩, 19), (⟨"BedHouseModel", "worthOf", "(I)I"⟩, 19), (⟨"BedHouseModel", "isLit", "(II)Z"⟩, 19), (⟨"BedHouseModel", "isOpen", "(II)Z"⟩, 19), (⟨"BedHouseModel", "refuses", "(I)I"⟩, 19), (⟨"BedHouseModel", "goFrom", "(I)V"⟩, 19), (⟨"BedHouseModel", "none", "()V"⟩, 19), (⟨"BedHouseModel", "reach", "(II)V"⟩, 19), (⟨"BedHouseModel", "go", "(I)V"⟩, 19), (⟨"BedHouseModel", "houseOf", "(I)I"⟩, 19), (⟨"BedHouseModel", "houses", "()I"⟩, 19)]
theorem lw_r5 : ∀ q ∈ lw_privs_5, lw_okq q := List.forall_mem_cons.mpr ⟨lw_p64, List.forall_mem_cons.mpr ⟨lw_p65, List.forall_mem_cons.mpr ⟨lw_p66, List.forall_mem_cons.mpr ⟨lw_p67, List.forall_mem_cons.mpr ⟨lw_p68, List.forall_mem_cons.mpr ⟨lw_p69, List.forall_mem_cons.mpr ⟨lw_p70, List.forall_mem_cons.mpr ⟨lw_p71, List.forall_mem_cons.mpr ⟨lw_p72, List.forall_mem_cons.mpr ⟨lw_p73, List.forall_mem_cons.mpr ⟨lw_p74, List.forall_mem_cons.mpr ⟨lw_p75, List.forall_mem_cons.mpr ⟨lw_p76, List.forall_mem_cons.mpr ⟨lw_p77, List.forall_mem_cons.mpr ⟨lw_p78, List.forall_mem_cons.mpr ⟨lw_p79, fun _ h => absurd h List.not_mem_nil⟩⟩⟩⟩⟩⟩⟩⟩⟩⟩⟩⟩⟩⟩⟩⟩
theorem lw_p80 : lw_okq (⟨"BedHouseModel", "isFit", "(I)Z"⟩, 19) := ⟨⟨by decide +kernel, by decide +kernel⟩, List.mem_of_getElem? (i := 636) (by decide +kernel), List.mem_of_getElem? (i := 905) (by decide +kernel), List.mem_of_getElem? (i := 906) (by decide +kernel)⟩
theorem lw_p81 : lw_okq (⟨"BedHouseModel", "copy", "(II)V"⟩, 19) := ⟨⟨by decide +kernel, by decide +kernel⟩, List.mem_of_getElem? (i := 636) (by decide +kernel), List.mem_of_getElem? (i := 930) (by decide +kernel), List.mem_of_getElem? (i := 931) (by decide +kernel)⟩
def lw_privs_6 : List (MethodName × Nat) := [(⟨"BedHouseModel", "isFit", "(I)Z"⟩, 19), (⟨"BedHouseModel", "copy", "(II)V"⟩, 19)]
theorem lw_r6 : ∀ q ∈ lw_privs_6, lw_okq q := List.forall_mem_cons.mpr ⟨lw_p80, List.forall_mem_cons.mpr ⟨lw_p81, fun _ h => absurd h List.not_mem_nil⟩⟩
def lw_privs : List (MethodName × Nat) := lw_privs_1 ++ (lw_privs_2 ++ (lw_privs_3 ++ (lw_privs_4 ++ (lw_privs_5 ++ (lw_privs_6)))))
def lw_tbl : List Cond := k2_sels lw_privs ++ tables_1
theorem lw_privs_ok : ∀ q ∈ lw_privs, lw_okq q := by
  show ∀ q ∈ lw_privs_1 ++ (lw_privs_2 ++ (lw_privs_3 ++ (lw_privs_4 ++ (lw_privs_5 ++ (lw_privs_6))))), lw_okq q
  exact List.forall_mem_append.mpr ⟨lw_r1, List.forall_mem_append.mpr ⟨lw_r2, List.forall_mem_append.mpr ⟨lw_r3, List.forall_mem_append.mpr ⟨lw_r4, List.forall_mem_append.mpr ⟨lw_r5, lw_r6⟩⟩⟩⟩⟩
end
section
/-! ===== BEGIN words of one list among another's, by their places ===== -/
theorem goodIn_r {big : List Cond} (ws : List Cond) (ps : List Nat) (hp : ws = ps.filterMap (fun i => big[i]?)) (h : ws.all goodWord = true) : GoodIn big ws := by
  intro w hw
  have h1 := List.all_eq_true.mp h w hw
  rw [hp] at hw
  obtain ⟨i, -, hi⟩ := List.mem_filterMap.mp hw
  have hm : w ∈ big := by first | exact List.mem_of_getElem? hi | exact List.getElem?_mem hi
  exact ⟨hm, good_of_word h1⟩
theorem goodIn_app {big a b : List Cond} (ha : GoodIn big a) (hb : GoodIn big b) : GoodIn big (a ++ b) := fun w h => (List.mem_append.mp h).elim (ha w) (hb w)
theorem goodIn_ca {big a b : List Cond} {c : Cond} (ha : GoodIn big (c :: a)) (hb : GoodIn big b) : GoodIn big (c :: (a ++ b)) := fun w h => (List.mem_cons.mp h).elim (fun e => ha w (List.mem_cons.mpr (Or.inl e))) (fun h => (List.mem_append.mp h).elim (fun h => ha w (List.mem_cons.mpr (Or.inr h))) (hb w))
theorem goodIn_sub {big ws : List Cond} (hm : ∀ w ∈ ws, w ∈ big) (h : ws.all goodWord = true) : GoodIn big ws := fun w hw => ⟨hm w hw, good_of_word (List.all_eq_true.mp h w hw)⟩
/-! ===== END ===== -/

/-! ===== BEGIN printed: names, fields, word lists, decode rows ===== -/
def RX0 : String := "BedHouse$Moment"
def TX0 : u_T := fun k => match k with
  | 0 => ("BedHouse$Moment", "home", "I", false)
  | 1 => ("BedHouse$Moment", "day", "I", false)
  | 2 => ("BedHouse$Moment", "acts", "I", false)
  | 3 => ("BedHouse$Moment", "leaks", "I", false)
  | 4 => ("BedHouse$Moment", "clues", "I", false)
  | 5 => ("BedHouse$Moment", "litHours", "I", false)
  | 6 => ("BedHouse$Moment", "darkHours", "I", false)
  | _ => ("BedHouse$Moment", "kept", "Z", false)
def tyX0 : Nat → FieldType := fun k => match k with
  | 0 => .int
  | 1 => .int
  | 2 => .int
  | 3 => .int
  | 4 => .int
  | 5 => .int
  | 6 => .int
  | _ => .boolean
abbrev wsX00 : List Cond := u_ws RX0 TX0 8
theorem nmX0 : ∀ a, a < 8 → ∀ b, b < 8 → a ≠ b → (TX0 a).2.1 ≠ (TX0 b).2.1 := by decide +kernel
theorem tyX0_ok : ∀ k, k < 8 → parseFieldDescriptor (TX0 k).2.2.1 = some (tyX0 k) := by decide +kernel
abbrev cX0_init : ByteArray := prog_2_method_1_code
def yX0_init : MethodName := ⟨RX0, "<init>", "()V"⟩
abbrev cX0_begin : ByteArray := prog_2_method_2_code
def yX0_begin : MethodName := ⟨RX0, "begin", "(I)V"⟩
abbrev cX0_copyFrom : ByteArray := prog_2_method_3_code
def yX0_copyFrom : MethodName := ⟨RX0, "copyFrom", "(LBedHouse$Moment;)V"⟩
def RX1 : String := "BedHouse$Plan"
def TX1 : u_T := fun k => match k with
  | 0 => ("BedHouse$Plan", "sorts", "[I", true)
  | 1 => ("BedHouse$Plan", "panels", "I", false)
  | 2 => ("BedHouse$Plan", "toldHouse", "I", false)
  | 3 => ("BedHouse$Plan", "beamSlots", "[I", true)
  | 4 => ("BedHouse$Plan", "beams", "I", false)
  | 5 => ("BedHouse$Plan", "rain", "I", false)
  | 6 => ("BedHouse$Plan", "sun", "I", false)
  | 7 => ("BedHouse$Plan", "view", "I", false)
  | 8 => ("BedHouse$Plan", "noise", "I", false)
  | 9 => ("BedHouse$Plan", "mostLying", "I", false)
  | _ => ("BedHouse$Plan", "hands", "I", false)
def tyX1 : Nat → FieldType := fun k => match k with
  | 0 => .array .int
  | 1 => .int
  | 2 => .int
  | 3 => .array .int
  | 4 => .int
  | 5 => .int
  | 6 => .int
  | 7 => .int
  | 8 => .int
  | 9 => .int
  | _ => .int
abbrev wsX10 : List Cond := u_ws RX1 TX1 11
theorem nmX1 : ∀ a, a < 11 → ∀ b, b < 11 → a ≠ b → (TX1 a).2.1 ≠ (TX1 b).2.1 := by decide +kernel
theorem tyX1_ok : ∀ k, k < 11 → parseFieldDescriptor (TX1 k).2.2.1 = some (tyX1 k) := by decide +kernel
abbrev cX1_init : ByteArray := prog_3_method_1_code
def yX1_init : MethodName := ⟨RX1, "<init>", "()V"⟩
abbrev cX1_startAnew : ByteArray := prog_3_method_2_code
def yX1_startAnew : MethodName := ⟨RX1, "startAnew", "()V"⟩
abbrev cX1_hasPanel : ByteArray := prog_3_method_3_code
def yX1_hasPanel : MethodName := ⟨RX1, "hasPanel", "(I)Z"⟩
abbrev cX1_hasBeam : ByteArray := prog_3_method_4_code
def yX1_hasBeam : MethodName := ⟨RX1, "hasBeam", "(I)Z"⟩
abbrev cX1_addPanel : ByteArray := prog_3_method_5_code
def yX1_addPanel : MethodName := ⟨RX1, "addPanel", "(II)V"⟩
abbrev cX1_addBeam : ByteArray := prog_3_method_6_code
def yX1_addBeam : MethodName := ⟨RX1, "addBeam", "(I)V"⟩
abbrev cX1_sortOf : ByteArray := prog_3_method_7_code
def yX1_sortOf : MethodName := ⟨RX1, "sortOf", "(I)I"⟩
abbrev cX1_panelAt : ByteArray := prog_3_method_8_code
def yX1_panelAt : MethodName := ⟨RX1, "panelAt", "(II)I"⟩
abbrev cX1_slotsUnder : ByteArray := prog_3_method_9_code
def yX1_slotsUnder : MethodName := ⟨RX1, "slotsUnder", "(II)I"⟩
abbrev cX1_lyingIn : ByteArray := prog_3_method_10_code
def yX1_lyingIn : MethodName := ⟨RX1, "lyingIn", "(I)I"⟩
abbrev cX1_isBorne : ByteArray := prog_3_method_11_code
def yX1_isBorne : MethodName := ⟨RX1, "isBorne", "(II)Z"⟩
abbrev cX1_allows : ByteArray := prog_3_method_12_code
def yX1_allows : MethodName := ⟨RX1, "allows", "(I)Z"⟩
abbrev cX1_leaksOf : ByteArray := prog_3_method_13_code
def yX1_leaksOf : MethodName := ⟨RX1, "leaksOf", "(I)I"⟩
abbrev cX1_litHours : ByteArray := prog_3_method_14_code
def yX1_litHours : MethodName := ⟨RX1, "litHours", "(I)I"⟩
abbrev cX1_worthOf : ByteArray := prog_3_method_15_code
def yX1_worthOf : MethodName := ⟨RX1, "worthOf", "(I)I"⟩
abbrev cX1_quietIn : ByteArray := prog_3_method_16_code
def yX1_quietIn : MethodName := ⟨RX1, "quietIn", "(I)I"⟩
abbrev cX1_fitsLetter : ByteArray := prog_3_method_17_code
def yX1_fitsLetter : MethodName := ⟨RX1, "fitsLetter", "(ILBedHouse$Moment;)Z"⟩
def RX2 : String := "BedHouse$Search"
def TX2 : u_T := fun k => match k with
  | 0 => ("BedHouse$Search", "lawful", "[B", true)
  | 1 => ("BedHouse$Search", "far", "[I", true)
  | 2 => ("BedHouse$Search", "queue", "[I", true)
  | 3 => ("BedHouse$Search", "reached", "I", false)
  | _ => ("BedHouse$Search", "surveyed", "Z", false)
def tyX2 : Nat → FieldType := fun k => match k with
  | 0 => .array .byte
  | 1 => .array .int
  | 2 => .array .int
  | 3 => .int
  | _ => .boolean
abbrev wsX20 : List Cond := u_ws RX2 TX2 5
theorem nmX2 : ∀ a, a < 5 → ∀ b, b < 5 → a ≠ b → (TX2 a).2.1 ≠ (TX2 b).2.1 := by decide +kernel
theorem tyX2_ok : ∀ k, k < 5 → parseFieldDescriptor (TX2 k).2.2.1 = some (tyX2 k) := by decide +kernel
abbrev cX2_init : ByteArray := prog_4_method_1_code
def yX2_init : MethodName := ⟨RX2, "<init>", "()V"⟩
abbrev cX2_survey : ByteArray := prog_4_method_2_code
def yX2_survey : MethodName := ⟨RX2, "survey", "(LBedHouse$Plan;)V"⟩
abbrev cX2_isLawful : ByteArray := prog_4_method_3_code
def yX2_isLawful : MethodName := ⟨RX2, "isLawful", "(I)Z"⟩
abbrev cX2_farTo : ByteArray := prog_4_method_4_code
def yX2_farTo : MethodName := ⟨RX2, "farTo", "(I)I"⟩
abbrev cX2_spreadFrom : ByteArray := prog_4_method_5_code
def yX2_spreadFrom : MethodName := ⟨RX2, "spreadFrom", "(LBedHouse$Plan;I)V"⟩
abbrev cX2_spread : ByteArray := prog_4_method_6_code
def yX2_spread : MethodName := ⟨RX2, "spread", "(LBedHouse$Plan;II)V"⟩
abbrev cX2_spreadByOneAct : ByteArray := prog_4_method_7_code
def yX2_spreadByOneAct : MethodName := ⟨RX2, "spreadByOneAct", "(LBedHouse$Plan;II)V"⟩
abbrev cX2_reach : ByteArray := prog_4_method_8_code
def yX2_reach : MethodName := ⟨RX2, "reach", "(II)V"⟩
abbrev cX2_fewestActs : ByteArray := prog_4_method_9_code
def yX2_fewestActs : MethodName := ⟨RX2, "fewestActs", "(LBedHouse$Plan;II)I"⟩
abbrev cX2_firstAct : ByteArray := prog_4_method_10_code
def yX2_firstAct : MethodName := ⟨RX2, "firstAct", "(LBedHouse$Plan;II)I"⟩
abbrev cX2_fewestNights : ByteArray := prog_4_method_11_code
def yX2_fewestNights : MethodName := ⟨RX2, "fewestNights", "(LBedHouse$Plan;LBedHouse$Moment;I)I"⟩
abbrev cX2_keepDry : ByteArray := prog_4_method_12_code
def yX2_keepDry : MethodName := ⟨RX2, "keepDry", "(LBedHouse$Plan;)I"⟩
abbrev cX2_actsToEmpty : ByteArray := prog_4_method_13_code
def yX2_actsToEmpty : MethodName := ⟨RX2, "actsToEmpty", "(LBedHouse$Plan;II)I"⟩
abbrev cX2_bestHome : ByteArray := prog_4_method_14_code
def yX2_bestHome : MethodName := ⟨RX2, "bestHome", "(LBedHouse$Plan;)I"⟩
abbrev cX2_countFitting : ByteArray := prog_4_method_15_code
def yX2_countFitting : MethodName := ⟨RX2, "countFitting", "(LBedHouse$Plan;LBedHouse$Moment;)I"⟩
abbrev cX2_surePlace : ByteArray := prog_4_method_16_code
def yX2_surePlace : MethodName := ⟨RX2, "surePlace", "(LBedHouse$Plan;LBedHouse$Moment;I)I"⟩
def RX3 : String := "BedHouse$Text"
def TX3 : u_T := fun k => match k with
  | 0 => ("BedHouse$Text", "bytes", "[I", true)
  | 1 => ("BedHouse$Text", "length", "I", false)
  | 2 => ("BedHouse$Text", "at", "I", false)
  | 3 => ("BedHouse$Text", "tokenStart", "I", false)
  | 4 => ("BedHouse$Text", "token", "I", false)
  | 5 => ("BedHouse$Text", "value", "I", false)
  | 6 => ("BedHouse$Text", "downTold", "Z", false)
  | _ => ("BedHouse$Text", "handsTold", "Z", false)
def tyX3 : Nat → FieldType := fun k => match k with
  | 0 => .array .int
  | 1 => .int
  | 2 => .int
  | 3 => .int
  | 4 => .int
  | 5 => .int
  | 6 => .boolean
  | _ => .boolean
abbrev wsX30 : List Cond := u_ws RX3 TX3 8
theorem nmX3 : ∀ a, a < 8 → ∀ b, b < 8 → a ≠ b → (TX3 a).2.1 ≠ (TX3 b).2.1 := by decide +kernel
theorem tyX3_ok : ∀ k, k < 8 → parseFieldDescriptor (TX3 k).2.2.1 = some (tyX3 k) := by decide +kernel
abbrev cX3_init : ByteArray := prog_5_method_1_code
def yX3_init : MethodName := ⟨RX3, "<init>", "()V"⟩
abbrev cX3_append : ByteArray := prog_5_method_2_code
def yX3_append : MethodName := ⟨RX3, "append", "(I)V"⟩
abbrev cX3_byteAt : ByteArray := prog_5_method_3_code
def yX3_byteAt : MethodName := ⟨RX3, "byteAt", "(I)I"⟩
abbrev cX3_tell : ByteArray := prog_5_method_4_code
def yX3_tell : MethodName := ⟨RX3, "tell", "(LBedHouse$Plan;)I"⟩
abbrev cX3_tellItem : ByteArray := prog_5_method_5_code
def yX3_tellItem : MethodName := ⟨RX3, "tellItem", "(LBedHouse$Plan;)Z"⟩
abbrev cX3_mayBegin : ByteArray := prog_5_method_6_code
def yX3_mayBegin : MethodName := ⟨RX3, "mayBegin", "(ILBedHouse$Plan;)Z"⟩
abbrev cX3_mayBeFirst : ByteArray := prog_5_method_7_code
def yX3_mayBeFirst : MethodName := ⟨RX3, "mayBeFirst", "(IILBedHouse$Plan;)Z"⟩
abbrev cX3_apply : ByteArray := prog_5_method_8_code
def yX3_apply : MethodName := ⟨RX3, "apply", "(IIILBedHouse$Plan;)V"⟩
abbrev cX3_slotsFrom : ByteArray := prog_5_method_9_code
def yX3_slotsFrom : MethodName := ⟨RX3, "slotsFrom", "(II)I"⟩
abbrev cX3_nextToken : ByteArray := prog_5_method_10_code
def yX3_nextToken : MethodName := ⟨RX3, "nextToken", "()V"⟩
abbrev cX3_readWord : ByteArray := prog_5_method_11_code
def yX3_readWord : MethodName := ⟨RX3, "readWord", "()V"⟩
abbrev cX3_isSpelled : ByteArray := prog_5_method_12_code
def yX3_isSpelled : MethodName := ⟨RX3, "isSpelled", "(Ljava/lang/String;)Z"⟩
abbrev cX3_readNumber : ByteArray := prog_5_method_13_code
def yX3_readNumber : MethodName := ⟨RX3, "readNumber", "()V"⟩
abbrev cX3_isLetter : ByteArray := prog_5_method_14_code
def yX3_isLetter : MethodName := ⟨RX3, "isLetter", "(I)Z"⟩
abbrev cX3_isDigit : ByteArray := prog_5_method_15_code
def yX3_isDigit : MethodName := ⟨RX3, "isDigit", "(I)Z"⟩
abbrev cX3_spelling : ByteArray := prog_5_method_16_code
def yX3_spelling : MethodName := ⟨RX3, "spelling", "(I)Ljava/lang/String;"⟩
def RX4 : String := "BedHouse"
def TX4 : u_T := fun k => match k with
  | 0 => ("BedHouse", "text", "LBedHouse$Text;", true)
  | 1 => ("BedHouse", "search", "LBedHouse$Search;", true)
  | 2 => ("BedHouse", "present", "LBedHouse$Moment;", true)
  | 3 => ("BedHouse", "images", "[LBedHouse$Moment;", true)
  | 4 => ("BedHouse", "plan", "LBedHouse$Plan;", false)
  | 5 => ("BedHouse", "draft", "LBedHouse$Plan;", false)
  | _ => ("BedHouse", "traced", "J", false)
def tyX4 : Nat → FieldType := fun k => match k with
  | 0 => .object "BedHouse$Text"
  | 1 => .object "BedHouse$Search"
  | 2 => .object "BedHouse$Moment"
  | 3 => .array (.object "BedHouse$Moment")
  | 4 => .object "BedHouse$Plan"
  | 5 => .object "BedHouse$Plan"
  | _ => .long
abbrev wsX40 : List Cond := u_ws RX4 TX4 7
theorem nmX4 : ∀ a, a < 7 → ∀ b, b < 7 → a ≠ b → (TX4 a).2.1 ≠ (TX4 b).2.1 := by decide +kernel
theorem tyX4_ok : ∀ k, k < 7 → parseFieldDescriptor (TX4 k).2.2.1 = some (tyX4 k) := by decide +kernel
abbrev cX4_init : ByteArray := prog_1_method_1_code
def yX4_init : MethodName := ⟨RX4, "<init>", "()V"⟩
abbrev cX4_type : ByteArray := prog_1_method_2_code
def yX4_type : MethodName := ⟨RX4, "type", "(JI)I"⟩
abbrev cX4_clear : ByteArray := prog_1_method_3_code
def yX4_clear : MethodName := ⟨RX4, "clear", "()I"⟩
abbrev cX4_house : ByteArray := prog_1_method_4_code
def yX4_house : MethodName := ⟨RX4, "house", "()I"⟩
abbrev cX4_panel : ByteArray := prog_1_method_5_code
def yX4_panel : MethodName := ⟨RX4, "panel", "(II)I"⟩
abbrev cX4_slot : ByteArray := prog_1_method_6_code
def yX4_slot : MethodName := ⟨RX4, "slot", "(II)I"⟩
abbrev cX4_told : ByteArray := prog_1_method_7_code
def yX4_told : MethodName := ⟨RX4, "told", "(I)I"⟩
abbrev cX4_beam : ByteArray := prog_1_method_8_code
def yX4_beam : MethodName := ⟨RX4, "beam", "(I)I"⟩
abbrev cX4_down : ByteArray := prog_1_method_9_code
def yX4_down : MethodName := ⟨RX4, "down", "(I)I"⟩
abbrev cX4_up : ByteArray := prog_1_method_10_code
def yX4_up : MethodName := ⟨RX4, "up", "(II)I"⟩
abbrev cX4_night : ByteArray := prog_1_method_11_code
def yX4_night : MethodName := ⟨RX4, "night", "()I"⟩
abbrev cX4_now : ByteArray := prog_1_method_12_code
def yX4_now : MethodName := ⟨RX4, "now", "(I)I"⟩
abbrev cX4_lit : ByteArray := prog_1_method_13_code
def yX4_lit : MethodName := ⟨RX4, "lit", "(I)I"⟩
abbrev cX4_fewest : ByteArray := prog_1_method_14_code
def yX4_fewest : MethodName := ⟨RX4, "fewest", "(I)I"⟩
abbrev cX4_first : ByteArray := prog_1_method_15_code
def yX4_first : MethodName := ⟨RX4, "first", "(I)I"⟩
abbrev cX4_nights : ByteArray := prog_1_method_16_code
def yX4_nights : MethodName := ⟨RX4, "nights", "(I)I"⟩
abbrev cX4_piano : ByteArray := prog_1_method_17_code
def yX4_piano : MethodName := ⟨RX4, "piano", "(I)I"⟩
abbrev cX4_best : ByteArray := prog_1_method_18_code
def yX4_best : MethodName := ⟨RX4, "best", "(I)I"⟩
abbrev cX4_clue : ByteArray := prog_1_method_19_code
def yX4_clue : MethodName := ⟨RX4, "clue", "(II)I"⟩
abbrev cX4_fit : ByteArray := prog_1_method_20_code
def yX4_fit : MethodName := ⟨RX4, "fit", "()I"⟩
abbrev cX4_sure : ByteArray := prog_1_method_21_code
def yX4_sure : MethodName := ⟨RX4, "sure", "(I)I"⟩
abbrev cX4_forget : ByteArray := prog_1_method_22_code
def yX4_forget : MethodName := ⟨RX4, "forget", "()I"⟩
abbrev cX4_mark : ByteArray := prog_1_method_23_code
def yX4_mark : MethodName := ⟨RX4, "mark", "(II)I"⟩
abbrev cX4_keep : ByteArray := prog_1_method_24_code
def yX4_keep : MethodName := ⟨RX4, "keep", "(I)I"⟩
abbrev cX4_back : ByteArray := prog_1_method_25_code
def yX4_back : MethodName := ⟨RX4, "back", "(I)I"⟩
abbrev cX4_count : ByteArray := prog_1_method_26_code
def yX4_count : MethodName := ⟨RX4, "count", "(I)I"⟩
abbrev cX4_trace : ByteArray := prog_1_method_27_code
def yX4_trace : MethodName := ⟨RX4, "trace", "()J"⟩
abbrev cX4_act : ByteArray := prog_1_method_28_code
def yX4_act : MethodName := ⟨RX4, "act", "(II)I"⟩
abbrev cX4_isImage : ByteArray := prog_1_method_29_code
def yX4_isImage : MethodName := ⟨RX4, "isImage", "(I)Z"⟩
abbrev cX4_markOfPanel : ByteArray := prog_1_method_30_code
def yX4_markOfPanel : MethodName := ⟨RX4, "markOfPanel", "(I)I"⟩
abbrev cX4_markOfBearing : ByteArray := prog_1_method_31_code
def yX4_markOfBearing : MethodName := ⟨RX4, "markOfBearing", "(I)I"⟩
abbrev cX4_markOfLight : ByteArray := prog_1_method_32_code
def yX4_markOfLight : MethodName := ⟨RX4, "markOfLight", "(I)I"⟩
abbrev cX4_markOfOld : ByteArray := prog_1_method_33_code
def yX4_markOfOld : MethodName := ⟨RX4, "markOfOld", "(I)I"⟩
abbrev cX4_markOfClear : ByteArray := prog_1_method_34_code
def yX4_markOfClear : MethodName := ⟨RX4, "markOfClear", "(I)I"⟩
abbrev cX4_markOfNeighbours : ByteArray := prog_1_method_35_code
def yX4_markOfNeighbours : MethodName := ⟨RX4, "markOfNeighbours", "(I)I"⟩
abbrev cX4_isSlot : ByteArray := prog_1_method_36_code
def yX4_isSlot : MethodName := ⟨RX4, "isSlot", "(I)Z"⟩
abbrev cX4_asNumber : ByteArray := prog_1_method_37_code
def yX4_asNumber : MethodName := ⟨RX4, "asNumber", "(Z)I"⟩
abbrev cX4_placeIn : ByteArray := prog_1_method_38_code
def yX4_placeIn : MethodName := ⟨RX4, "placeIn", "(II)I"⟩
abbrev cX4_unitOf : ByteArray := prog_1_method_39_code
def yX4_unitOf : MethodName := ⟨RX4, "unitOf", "(I)I"⟩
abbrev cX4_moved : ByteArray := prog_1_method_40_code
def yX4_moved : MethodName := ⟨RX4, "moved", "(III)I"⟩
def RX5 : String := "BedHouseModel"
def TX5 : u_T := fun k => match k with
  | 0 => ("BedHouseModel", "trace", "J", false)
  | 1 => ("BedHouseModel", "text", "[B", true)
  | 2 => ("BedHouseModel", "typed", "I", false)
  | 3 => ("BedHouseModel", "plan", "[I", true)
  | 4 => ("BedHouseModel", "sorts", "[I", true)
  | 5 => ("BedHouseModel", "at0", "[I", true)
  | 6 => ("BedHouseModel", "beams", "[I", true)
  | 7 => ("BedHouseModel", "at", "I", false)
  | 8 => ("BedHouseModel", "start", "I", false)
  | 9 => ("BedHouseModel", "sort", "I", false)
  | 10 => ("BedHouseModel", "value", "I", false)
  | 11 => ("BedHouseModel", "fault", "I", false)
  | 12 => ("BedHouseModel", "told", "I", false)
  | 13 => ("BedHouseModel", "now", "[I", true)
  | 14 => ("BedHouseModel", "isKept", "[Z", true)
  | 15 => ("BedHouseModel", "off", "[I", true)
  | 16 => ("BedHouseModel", "reached", "[I", true)
  | 17 => ("BedHouseModel", "reachedMany", "I", false)
  | _ => ("BedHouseModel", "isSlept", "[Z", true)
def tyX5 : Nat → FieldType := fun k => match k with
  | 0 => .long
  | 1 => .array .byte
  | 2 => .int
  | 3 => .array .int
  | 4 => .array .int
  | 5 => .array .int
  | 6 => .array .int
  | 7 => .int
  | 8 => .int
  | 9 => .int
  | 10 => .int
  | 11 => .int
  | 12 => .int
  | 13 => .array .int
  | 14 => .array .boolean
  | 15 => .array .int
  | 16 => .array .int
  | 17 => .int
  | _ => .array .boolean
abbrev wsX50 : List Cond := u_ws RX5 TX5 19
theorem nmX5 : ∀ a, a < 19 → ∀ b, b < 19 → a ≠ b → (TX5 a).2.1 ≠ (TX5 b).2.1 := by decide +kernel
theorem tyX5_ok : ∀ k, k < 19 → parseFieldDescriptor (TX5 k).2.2.1 = some (tyX5 k) := by decide +kernel
abbrev cX5_init : ByteArray := prog_7_method_1_code
def yX5_init : MethodName := ⟨RX5, "<init>", "()V"⟩
abbrev cX5_in : ByteArray := prog_7_method_3_code
def yX5_in : MethodName := ⟨RX5, "in", "(III)Z"⟩
abbrev cX5_begin : ByteArray := prog_7_method_4_code
def yX5_begin : MethodName := ⟨RX5, "begin", "(I)V"⟩
abbrev cX5_type : ByteArray := prog_7_method_5_code
def yX5_type : MethodName := ⟨RX5, "type", "(JI)I"⟩
abbrev cX5_clear : ByteArray := prog_7_method_6_code
def yX5_clear : MethodName := ⟨RX5, "clear", "()I"⟩
abbrev cX5_here : ByteArray := prog_7_method_7_code
def yX5_here : MethodName := ⟨RX5, "here", "()I"⟩
abbrev cX5_meaning : ByteArray := prog_7_method_8_code
def yX5_meaning : MethodName := ⟨RX5, "meaning", "(I)I"⟩
abbrev cX5_next : ByteArray := prog_7_method_9_code
def yX5_next : MethodName := ⟨RX5, "next", "()V"⟩
abbrev cX5_due : ByteArray := prog_7_method_10_code
def yX5_due : MethodName := ⟨RX5, "due", "(Z)I"⟩
abbrev cX5_number : ByteArray := prog_7_method_11_code
def yX5_number : MethodName := ⟨RX5, "number", "(II)I"⟩
abbrev cX5_stands : ByteArray := prog_7_method_12_code
def yX5_stands : MethodName := ⟨RX5, "stands", "(I)Z"⟩
abbrev cX5_round : ByteArray := prog_7_method_13_code
def yX5_round : MethodName := ⟨RX5, "round", "()I"⟩
abbrev cX5_mayItem : ByteArray := prog_7_method_14_code
def yX5_mayItem : MethodName := ⟨RX5, "mayItem", "(I)Z"⟩
abbrev cX5_readItem : ByteArray := prog_7_method_15_code
def yX5_readItem : MethodName := ⟨RX5, "readItem", "()V"⟩
abbrev cX5_house : ByteArray := prog_7_method_16_code
def yX5_house : MethodName := ⟨RX5, "house", "()I"⟩
abbrev cX5_isPanel : ByteArray := prog_7_method_17_code
def yX5_isPanel : MethodName := ⟨RX5, "isPanel", "(I)Z"⟩
abbrev cX5_power : ByteArray := prog_7_method_18_code
def yX5_power : MethodName := ⟨RX5, "power", "(I)I"⟩
abbrev cX5_houses : ByteArray := prog_7_method_19_code
def yX5_houses : MethodName := ⟨RX5, "houses", "()I"⟩
abbrev cX5_slotIn : ByteArray := prog_7_method_20_code
def yX5_slotIn : MethodName := ⟨RX5, "slotIn", "(II)I"⟩
abbrev cX5_with : ByteArray := prog_7_method_21_code
def yX5_with : MethodName := ⟨RX5, "with", "(III)I"⟩
abbrev cX5_panelAt : ByteArray := prog_7_method_22_code
def yX5_panelAt : MethodName := ⟨RX5, "panelAt", "(II)I"⟩
abbrev cX5_lying : ByteArray := prog_7_method_23_code
def yX5_lying : MethodName := ⟨RX5, "lying", "(I)I"⟩
abbrev cX5_isBorne : ByteArray := prog_7_method_24_code
def yX5_isBorne : MethodName := ⟨RX5, "isBorne", "(II)Z"⟩
abbrev cX5_isLawful : ByteArray := prog_7_method_25_code
def yX5_isLawful : MethodName := ⟨RX5, "isLawful", "(I)Z"⟩
abbrev cX5_sortAt : ByteArray := prog_7_method_26_code
def yX5_sortAt : MethodName := ⟨RX5, "sortAt", "(II)I"⟩
abbrev cX5_leaksIn : ByteArray := prog_7_method_27_code
def yX5_leaksIn : MethodName := ⟨RX5, "leaksIn", "(I)I"⟩
abbrev cX5_isOpen : ByteArray := prog_7_method_28_code
def yX5_isOpen : MethodName := ⟨RX5, "isOpen", "(II)Z"⟩
abbrev cX5_isLit : ByteArray := prog_7_method_29_code
def yX5_isLit : MethodName := ⟨RX5, "isLit", "(II)Z"⟩
abbrev cX5_worthOf : ByteArray := prog_7_method_30_code
def yX5_worthOf : MethodName := ⟨RX5, "worthOf", "(I)I"⟩
abbrev cX5_panel : ByteArray := prog_7_method_31_code
def yX5_panel : MethodName := ⟨RX5, "panel", "(II)I"⟩
abbrev cX5_slot : ByteArray := prog_7_method_32_code
def yX5_slot : MethodName := ⟨RX5, "slot", "(II)I"⟩
abbrev cX5_told : ByteArray := prog_7_method_33_code
def yX5_told : MethodName := ⟨RX5, "told", "(I)I"⟩
abbrev cX5_beam : ByteArray := prog_7_method_34_code
def yX5_beam : MethodName := ⟨RX5, "beam", "(I)I"⟩
abbrev cX5_act : ByteArray := prog_7_method_35_code
def yX5_act : MethodName := ⟨RX5, "act", "(I)I"⟩
abbrev cX5_down : ByteArray := prog_7_method_36_code
def yX5_down : MethodName := ⟨RX5, "down", "(I)I"⟩
abbrev cX5_up : ByteArray := prog_7_method_37_code
def yX5_up : MethodName := ⟨RX5, "up", "(II)I"⟩
abbrev cX5_night : ByteArray := prog_7_method_38_code
def yX5_night : MethodName := ⟨RX5, "night", "()I"⟩
abbrev cX5_now : ByteArray := prog_7_method_39_code
def yX5_now : MethodName := ⟨RX5, "now", "(I)I"⟩
abbrev cX5_lit : ByteArray := prog_7_method_40_code
def yX5_lit : MethodName := ⟨RX5, "lit", "(I)I"⟩
abbrev cX5_reach : ByteArray := prog_7_method_41_code
def yX5_reach : MethodName := ⟨RX5, "reach", "(II)V"⟩
abbrev cX5_none : ByteArray := prog_7_method_42_code
def yX5_none : MethodName := ⟨RX5, "none", "()V"⟩
abbrev cX5_go : ByteArray := prog_7_method_43_code
def yX5_go : MethodName := ⟨RX5, "go", "(I)V"⟩
abbrev cX5_goFrom : ByteArray := prog_7_method_44_code
def yX5_goFrom : MethodName := ⟨RX5, "goFrom", "(I)V"⟩
abbrev cX5_refuses : ByteArray := prog_7_method_45_code
def yX5_refuses : MethodName := ⟨RX5, "refuses", "(I)I"⟩
abbrev cX5_houseOf : ByteArray := prog_7_method_46_code
def yX5_houseOf : MethodName := ⟨RX5, "houseOf", "(I)I"⟩
abbrev cX5_fewest : ByteArray := prog_7_method_47_code
def yX5_fewest : MethodName := ⟨RX5, "fewest", "(I)I"⟩
abbrev cX5_first : ByteArray := prog_7_method_48_code
def yX5_first : MethodName := ⟨RX5, "first", "(I)I"⟩
abbrev cX5_nights : ByteArray := prog_7_method_49_code
def yX5_nights : MethodName := ⟨RX5, "nights", "(I)I"⟩
abbrev cX5_piano : ByteArray := prog_7_method_50_code
def yX5_piano : MethodName := ⟨RX5, "piano", "(I)I"⟩
abbrev cX5_best : ByteArray := prog_7_method_51_code
def yX5_best : MethodName := ⟨RX5, "best", "(I)I"⟩
abbrev cX5_clue : ByteArray := prog_7_method_52_code
def yX5_clue : MethodName := ⟨RX5, "clue", "(II)I"⟩
abbrev cX5_isFit : ByteArray := prog_7_method_53_code
def yX5_isFit : MethodName := ⟨RX5, "isFit", "(I)Z"⟩
abbrev cX5_fit : ByteArray := prog_7_method_54_code
def yX5_fit : MethodName := ⟨RX5, "fit", "()I"⟩
abbrev cX5_sure : ByteArray := prog_7_method_55_code
def yX5_sure : MethodName := ⟨RX5, "sure", "(I)I"⟩
abbrev cX5_forget : ByteArray := prog_7_method_56_code
def yX5_forget : MethodName := ⟨RX5, "forget", "()I"⟩
abbrev cX5_mark : ByteArray := prog_7_method_57_code
def yX5_mark : MethodName := ⟨RX5, "mark", "(II)I"⟩
abbrev cX5_copy : ByteArray := prog_7_method_58_code
def yX5_copy : MethodName := ⟨RX5, "copy", "(II)V"⟩
abbrev cX5_keep : ByteArray := prog_7_method_59_code
def yX5_keep : MethodName := ⟨RX5, "keep", "(I)I"⟩
abbrev cX5_back : ByteArray := prog_7_method_60_code
def yX5_back : MethodName := ⟨RX5, "back", "(I)I"⟩
abbrev cX5_count : ByteArray := prog_7_method_61_code
def yX5_count : MethodName := ⟨RX5, "count", "(I)I"⟩
abbrev cX5_trace : ByteArray := prog_7_method_62_code
def yX5_trace : MethodName := ⟨RX5, "trace", "()J"⟩
def RJ6 : String := "java/lang/Integer"
def TJ6 : u_T := fun k => match k with
  | _ => ("", "", "", false)
def tyJ6 : Nat → FieldType := fun k => match k with
  | _ => .int
abbrev wsJ60 : List Cond := u_ws RJ6 TJ6 0
theorem nmJ6 : ∀ a, a < 0 → ∀ b, b < 0 → a ≠ b → (TJ6 a).2.1 ≠ (TJ6 b).2.1 := by decide +kernel
theorem tyJ6_ok : ∀ k, k < 0 → parseFieldDescriptor (TJ6 k).2.2.1 = some (tyJ6 k) := by decide +kernel
abbrev cJ6_bitCount_0f7a4 : ByteArray := prog_8_method_49_code
def yJ6_bitCount_0f7a4 : MethodName := ⟨RJ6, "bitCount", "(I)I"⟩
def RJ9 : String := "java/lang/Math"
def TJ9 : u_T := fun k => match k with
  | _ => ("", "", "", false)
def tyJ9 : Nat → FieldType := fun k => match k with
  | _ => .int
abbrev wsJ90 : List Cond := u_ws RJ9 TJ9 0
theorem nmJ9 : ∀ a, a < 0 → ∀ b, b < 0 → a ≠ b → (TJ9 a).2.1 ≠ (TJ9 b).2.1 := by decide +kernel
theorem tyJ9_ok : ∀ k, k < 0 → parseFieldDescriptor (TJ9 k).2.2.1 = some (tyJ9 k) := by decide +kernel
abbrev cJ9_min_7cf53 : ByteArray := prog_9_method_69_code
def yJ9_min_7cf53 : MethodName := ⟨RJ9, "min", "(II)I"⟩
def RJ0 : String := "java/lang/String"
def TJ0 : u_T := fun k => match k with
  | _ => ("", "", "", false)
def tyJ0 : Nat → FieldType := fun k => match k with
  | _ => .int
abbrev wsJ00 : List Cond := u_ws RJ0 TJ0 0
theorem nmJ0 : ∀ a, a < 0 → ∀ b, b < 0 → a ≠ b → (TJ0 a).2.1 ≠ (TJ0 b).2.1 := by decide +kernel
theorem tyJ0_ok : ∀ k, k < 0 → parseFieldDescriptor (TJ0 k).2.2.1 = some (tyJ0 k) := by decide +kernel
abbrev cJ0_length_8abf5 : ByteArray := prog_10_method_54_code
def yJ0_length_8abf5 : MethodName := ⟨RJ0, "length", "()I"⟩
abbrev cJ0_charAt_5068e : ByteArray := prog_10_method_56_code
def yJ0_charAt_5068e : MethodName := ⟨RJ0, "charAt", "(I)C"⟩
abbrev cJ0_coder_7d493 : ByteArray := prog_10_method_152_code
def yJ0_coder_7d493 : MethodName := ⟨RJ0, "coder", "()B"⟩
abbrev cJ0_isLatin1_aae02 : ByteArray := prog_10_method_154_code
def yJ0_isLatin1_aae02 : MethodName := ⟨RJ0, "isLatin1", "()Z"⟩
abbrev cJ0_checkIndex_df160 : ByteArray := prog_10_method_155_code
def yJ0_checkIndex_df160 : MethodName := ⟨RJ0, "checkIndex", "(II)V"⟩
def RJ1 : String := "java/lang/StringLatin1"
def TJ1 : u_T := fun k => match k with
  | _ => ("", "", "", false)
def tyJ1 : Nat → FieldType := fun k => match k with
  | _ => .int
abbrev wsJ10 : List Cond := u_ws RJ1 TJ1 0
theorem nmJ1 : ∀ a, a < 0 → ∀ b, b < 0 → a ≠ b → (TJ1 a).2.1 ≠ (TJ1 b).2.1 := by decide +kernel
theorem tyJ1_ok : ∀ k, k < 0 → parseFieldDescriptor (TJ1 k).2.2.1 = some (tyJ1 k) := by decide +kernel
abbrev cJ1_charAt_3b067 : ByteArray := prog_11_method_2_code
def yJ1_charAt_3b067 : MethodName := ⟨RJ1, "charAt", "([BI)C"⟩
def RJ2 : String := "java/lang/StringUTF16"
def TJ2 : u_T := fun k => match k with
  | _ => ("", "", "", false)
def tyJ2 : Nat → FieldType := fun k => match k with
  | _ => .int
abbrev wsJ20 : List Cond := u_ws RJ2 TJ2 0
theorem nmJ2 : ∀ a, a < 0 → ∀ b, b < 0 → a ≠ b → (TJ2 a).2.1 ≠ (TJ2 b).2.1 := by decide +kernel
theorem tyJ2_ok : ∀ k, k < 0 → parseFieldDescriptor (TJ2 k).2.2.1 = some (tyJ2 k) := by decide +kernel
abbrev cJ2_getChar_3b067 : ByteArray := prog_12_method_5_code
def yJ2_getChar_3b067 : MethodName := ⟨RJ2, "getChar", "([BI)C"⟩
abbrev cJ2_length_9d52b : ByteArray := prog_12_method_6_code
def yJ2_length_9d52b : MethodName := ⟨RJ2, "length", "([B)I"⟩
abbrev cJ2_charAt_3b067 : ByteArray := prog_12_method_83_code
def yJ2_charAt_3b067 : MethodName := ⟨RJ2, "charAt", "([BI)C"⟩
abbrev cJ2_checkIndex_2214a : ByteArray := prog_12_method_91_code
def yJ2_checkIndex_2214a : MethodName := ⟨RJ2, "checkIndex", "(I[B)V"⟩
def RJ3 : String := "jdk/internal/util/Preconditions"
def TJ3 : u_T := fun k => match k with
  | _ => ("", "", "", false)
def tyJ3 : Nat → FieldType := fun k => match k with
  | _ => .int
abbrev wsJ30 : List Cond := u_ws RJ3 TJ3 0
theorem nmJ3 : ∀ a, a < 0 → ∀ b, b < 0 → a ≠ b → (TJ3 a).2.1 ≠ (TJ3 b).2.1 := by decide +kernel
theorem tyJ3_ok : ∀ k, k < 0 → parseFieldDescriptor (TJ3 k).2.2.1 = some (tyJ3 k) := by decide +kernel
abbrev cJ3_checkIndex_8e157 : ByteArray := prog_13_method_11_code
def yJ3_checkIndex_8e157 : MethodName := ⟨RJ3, "checkIndex", "(IILjava/util/function/BiFunction;)I"⟩
def RL : String := "BedHouseLaw"
abbrev cL_law : ByteArray := code
def yL_law : MethodName := ⟨RL, "law", "([I)Z"⟩
def wsX0_init : List Cond := .code yX0_init cX0_init 1 none :: ([.methodLink RX0 1 objectInit, .instanceMethod objectInit, .code objectInit ⟨#[0xb1]⟩ 1 none])
def wsX0_begin : List Cond := .code yX0_begin cX0_begin 2 none :: ([.fieldLink RX0 7 "BedHouse$Moment" "home" "I", .fieldLink RX0 13 "BedHouse$Moment" "day" "I", .fieldLink RX0 16 "BedHouse$Moment" "acts" "I", .fieldLink RX0 19 "BedHouse$Moment" "leaks" "I", .fieldLink RX0 22 "BedHouse$Moment" "clues" "I", .fieldLink RX0 25 "BedHouse$Moment" "litHours" "I", .fieldLink RX0 28 "BedHouse$Moment" "darkHours" "I"] ++ wsX00)
def wsX0_copyFrom : List Cond := .code yX0_copyFrom cX0_copyFrom 2 none :: ([.fieldLink RX0 7 "BedHouse$Moment" "home" "I", .fieldLink RX0 13 "BedHouse$Moment" "day" "I", .fieldLink RX0 16 "BedHouse$Moment" "acts" "I", .fieldLink RX0 19 "BedHouse$Moment" "leaks" "I", .fieldLink RX0 22 "BedHouse$Moment" "clues" "I", .fieldLink RX0 25 "BedHouse$Moment" "litHours" "I", .fieldLink RX0 28 "BedHouse$Moment" "darkHours" "I"] ++ wsX00)
def wsX1_startAnew : List Cond := .code yX1_startAnew cX1_startAnew 1 none :: ([.fieldLink RX1 21 "BedHouse$Plan" "panels" "I", .fieldLink RX1 25 "BedHouse$Plan" "toldHouse" "I", .fieldLink RX1 28 "BedHouse$Plan" "beams" "I", .fieldLink RX1 31 "BedHouse$Plan" "rain" "I", .fieldLink RX1 34 "BedHouse$Plan" "sun" "I", .fieldLink RX1 37 "BedHouse$Plan" "view" "I", .fieldLink RX1 40 "BedHouse$Plan" "noise" "I", .fieldLink RX1 43 "BedHouse$Plan" "mostLying" "I", .fieldLink RX1 46 "BedHouse$Plan" "hands" "I"] ++ wsX10)
def wsX1_init : List Cond := .code yX1_init cX1_init 1 none :: ([.methodLink RX1 3 objectInit, .instanceMethod objectInit, .code objectInit ⟨#[0xb1]⟩ 1 none, .arrayClass .int, .fieldLink RX1 9 "BedHouse$Plan" "sorts" "[I", .fieldLink RX1 15 "BedHouse$Plan" "beamSlots" "[I", .methodLink RX1 18 yX1_startAnew, .instanceMethod yX1_startAnew, .selects RX1 yX1_startAnew yX1_startAnew, .initialized RX1, .code yX1_startAnew cX1_startAnew 1 none, .fieldLink RX1 21 "BedHouse$Plan" "panels" "I", .fieldLink RX1 25 "BedHouse$Plan" "toldHouse" "I", .fieldLink RX1 28 "BedHouse$Plan" "beams" "I", .fieldLink RX1 31 "BedHouse$Plan" "rain" "I", .fieldLink RX1 34 "BedHouse$Plan" "sun" "I", .fieldLink RX1 37 "BedHouse$Plan" "view" "I", .fieldLink RX1 40 "BedHouse$Plan" "noise" "I", .fieldLink RX1 43 "BedHouse$Plan" "mostLying" "I", .fieldLink RX1 46 "BedHouse$Plan" "hands" "I"] ++ wsX10)
def wsX1_hasPanel : List Cond := .code yX1_hasPanel cX1_hasPanel 2 (some .boolean) :: ([.fieldLink RX1 21 "BedHouse$Plan" "panels" "I", .fieldLink RX1 9 "BedHouse$Plan" "sorts" "[I"] ++ wsX10)
def wsX1_hasBeam : List Cond := .code yX1_hasBeam cX1_hasBeam 2 (some .boolean) :: ([.fieldLink RX1 28 "BedHouse$Plan" "beams" "I", .fieldLink RX1 15 "BedHouse$Plan" "beamSlots" "[I"] ++ wsX10)
def wsX4_unitOf : List Cond := .code yX4_unitOf cX4_unitOf 1 (some .int) :: ([])
def wsX1_addPanel : List Cond := .code yX1_addPanel cX1_addPanel 3 none :: ([.fieldLink RX1 21 "BedHouse$Plan" "panels" "I", .fieldLink RX1 9 "BedHouse$Plan" "sorts" "[I", .fieldLink RX1 25 "BedHouse$Plan" "toldHouse" "I", .static yX4_unitOf, .initialized RX4, .code yX4_unitOf cX4_unitOf 1 (some .int)] ++ wsX10)
def wsX1_addBeam : List Cond := .code yX1_addBeam cX1_addBeam 2 none :: ([.fieldLink RX1 28 "BedHouse$Plan" "beams" "I", .fieldLink RX1 15 "BedHouse$Plan" "beamSlots" "[I"] ++ wsX10)
def wsX1_sortOf : List Cond := .code yX1_sortOf cX1_sortOf 2 (some .int) :: ([.fieldLink RX1 9 "BedHouse$Plan" "sorts" "[I", .methodLink RX1 53 yX1_hasPanel, .instanceMethod yX1_hasPanel, .selects RX1 yX1_hasPanel yX1_hasPanel, .initialized RX1, .code yX1_hasPanel cX1_hasPanel 2 (some .boolean), .fieldLink RX1 21 "BedHouse$Plan" "panels" "I"] ++ wsX10)
def wsX4_placeIn : List Cond := .code yX4_placeIn cX4_placeIn 2 (some .int) :: ([])
def wsX1_panelAt : List Cond := .code yX1_panelAt cX1_panelAt 4 (some .int) :: ([.fieldLink RX1 21 "BedHouse$Plan" "panels" "I", .static yX4_placeIn, .initialized RX4, .code yX4_placeIn cX4_placeIn 2 (some .int)] ++ wsX10)
def wsX1_slotsUnder : List Cond := .code yX1_slotsUnder cX1_slotsUnder 6 (some .int) :: ([.fieldLink RX1 21 "BedHouse$Plan" "panels" "I", .fieldLink RX1 9 "BedHouse$Plan" "sorts" "[I", .static yX4_placeIn, .initialized RX4, .code yX4_placeIn cX4_placeIn 2 (some .int)] ++ wsX10)
def wsX1_lyingIn : List Cond := .code yX1_lyingIn cX1_lyingIn 4 (some .int) :: ([.fieldLink RX1 21 "BedHouse$Plan" "panels" "I", .static yX4_placeIn, .initialized RX4, .code yX4_placeIn cX4_placeIn 2 (some .int)] ++ wsX10)
def wsX1_isBorne : List Cond := .code yX1_isBorne cX1_isBorne 3 (some .boolean) :: ([.fieldLink RX1 15 "BedHouse$Plan" "beamSlots" "[I", .methodLink RX1 61 yX1_hasBeam, .instanceMethod yX1_hasBeam, .selects RX1 yX1_hasBeam yX1_hasBeam, .initialized RX1, .code yX1_hasBeam cX1_hasBeam 2 (some .boolean), .fieldLink RX1 28 "BedHouse$Plan" "beams" "I", .methodLink RX1 64 yX1_slotsUnder, .instanceMethod yX1_slotsUnder, .selects RX1 yX1_slotsUnder yX1_slotsUnder, .code yX1_slotsUnder cX1_slotsUnder 6 (some .int), .fieldLink RX1 21 "BedHouse$Plan" "panels" "I", .fieldLink RX1 9 "BedHouse$Plan" "sorts" "[I", .static yX4_placeIn, .initialized RX4, .code yX4_placeIn cX4_placeIn 2 (some .int)] ++ wsX10)
def wsJ6_bitCount_0f7a4 : List Cond := .code yJ6_bitCount_0f7a4 cJ6_bitCount_0f7a4 1 (some .int) :: ([.constant RJ6 265 (1431655765), .constant RJ6 266 (858993459), .constant RJ6 267 (252645135)])
def wsX1_allows_r1 : List Cond := [Cond.fieldLink RX1 43 "BedHouse$Plan" "mostLying" "I", Cond.fieldLink RX1 21 "BedHouse$Plan" "panels" "I", Cond.fieldLink RX1 28 "BedHouse$Plan" "beams" "I", Cond.methodLink RX1 67 yX1_lyingIn, Cond.instanceMethod yX1_lyingIn, Cond.selects RX1 yX1_lyingIn yX1_lyingIn, Cond.initialized RX1, Cond.code yX1_lyingIn cX1_lyingIn 4 (some .int), Cond.static yX4_placeIn, Cond.initialized RX4, Cond.code yX4_placeIn cX4_placeIn 2 (some .int), Cond.methodLink RX1 64 yX1_slotsUnder, Cond.instanceMethod yX1_slotsUnder, Cond.selects RX1 yX1_slotsUnder yX1_slotsUnder, Cond.code yX1_slotsUnder cX1_slotsUnder 6 (some .int), Cond.fieldLink RX1 9 "BedHouse$Plan" "sorts" "[I", Cond.methodLink RX1 70 yJ6_bitCount_0f7a4, Cond.static yJ6_bitCount_0f7a4, Cond.initialized RJ6, Cond.code yJ6_bitCount_0f7a4 cJ6_bitCount_0f7a4 1 (some .int), Cond.constant RJ6 265 (1431655765), Cond.constant RJ6 266 (858993459), Cond.constant RJ6 267 (252645135), Cond.methodLink RX1 75 yX1_isBorne]
def wsX1_allows_r2 : List Cond := [Cond.instanceMethod yX1_isBorne, Cond.selects RX1 yX1_isBorne yX1_isBorne, Cond.code yX1_isBorne cX1_isBorne 3 (some .boolean), Cond.fieldLink RX1 15 "BedHouse$Plan" "beamSlots" "[I", Cond.methodLink RX1 61 yX1_hasBeam, Cond.instanceMethod yX1_hasBeam, Cond.selects RX1 yX1_hasBeam yX1_hasBeam, Cond.code yX1_hasBeam cX1_hasBeam 2 (some .boolean)]
def wsX1_allows : List Cond := .code yX1_allows cX1_allows 4 (some .boolean) :: ((wsX1_allows_r1 ++ wsX1_allows_r2) ++ wsX10)
def wsX1_leaksOf : List Cond := .code yX1_leaksOf cX1_leaksOf 2 (some .int) :: ([.fieldLink RX1 31 "BedHouse$Plan" "rain" "I", .methodLink RX1 64 yX1_slotsUnder, .instanceMethod yX1_slotsUnder, .selects RX1 yX1_slotsUnder yX1_slotsUnder, .initialized RX1, .code yX1_slotsUnder cX1_slotsUnder 6 (some .int), .fieldLink RX1 21 "BedHouse$Plan" "panels" "I", .fieldLink RX1 9 "BedHouse$Plan" "sorts" "[I", .static yX4_placeIn, .initialized RX4, .code yX4_placeIn cX4_placeIn 2 (some .int), .methodLink RX1 70 yJ6_bitCount_0f7a4, .static yJ6_bitCount_0f7a4, .initialized RJ6, .code yJ6_bitCount_0f7a4 cJ6_bitCount_0f7a4 1 (some .int), .constant RJ6 265 (1431655765), .constant RJ6 266 (858993459), .constant RJ6 267 (252645135)] ++ wsX10)
def wsX1_litHours : List Cond := .code yX1_litHours cX1_litHours 2 (some .int) :: ([.fieldLink RX1 34 "BedHouse$Plan" "sun" "I", .methodLink RX1 64 yX1_slotsUnder, .instanceMethod yX1_slotsUnder, .selects RX1 yX1_slotsUnder yX1_slotsUnder, .initialized RX1, .code yX1_slotsUnder cX1_slotsUnder 6 (some .int), .fieldLink RX1 21 "BedHouse$Plan" "panels" "I", .fieldLink RX1 9 "BedHouse$Plan" "sorts" "[I", .static yX4_placeIn, .initialized RX4, .code yX4_placeIn cX4_placeIn 2 (some .int)] ++ wsX10)
def wsX1_quietIn : List Cond := .code yX1_quietIn cX1_quietIn 2 (some .int) :: ([.fieldLink RX1 40 "BedHouse$Plan" "noise" "I", .methodLink RX1 64 yX1_slotsUnder, .instanceMethod yX1_slotsUnder, .selects RX1 yX1_slotsUnder yX1_slotsUnder, .initialized RX1, .code yX1_slotsUnder cX1_slotsUnder 6 (some .int), .fieldLink RX1 21 "BedHouse$Plan" "panels" "I", .fieldLink RX1 9 "BedHouse$Plan" "sorts" "[I", .static yX4_placeIn, .initialized RX4, .code yX4_placeIn cX4_placeIn 2 (some .int)] ++ wsX10)
def wsX1_worthOf_r1 : List Cond := [Cond.fieldLink RX1 37 "BedHouse$Plan" "view" "I", Cond.fieldLink RX1 40 "BedHouse$Plan" "noise" "I", Cond.methodLink RX1 79 yX1_litHours, Cond.instanceMethod yX1_litHours, Cond.selects RX1 yX1_litHours yX1_litHours, Cond.initialized RX1, Cond.code yX1_litHours cX1_litHours 2 (some .int), Cond.fieldLink RX1 34 "BedHouse$Plan" "sun" "I", Cond.methodLink RX1 64 yX1_slotsUnder, Cond.instanceMethod yX1_slotsUnder, Cond.selects RX1 yX1_slotsUnder yX1_slotsUnder, Cond.code yX1_slotsUnder cX1_slotsUnder 6 (some .int), Cond.fieldLink RX1 21 "BedHouse$Plan" "panels" "I", Cond.fieldLink RX1 9 "BedHouse$Plan" "sorts" "[I", Cond.static yX4_placeIn, Cond.initialized RX4, Cond.code yX4_placeIn cX4_placeIn 2 (some .int), Cond.methodLink RX1 70 yJ6_bitCount_0f7a4, Cond.static yJ6_bitCount_0f7a4, Cond.initialized RJ6, Cond.code yJ6_bitCount_0f7a4 cJ6_bitCount_0f7a4 1 (some .int), Cond.constant RJ6 265 (1431655765), Cond.constant RJ6 266 (858993459), Cond.constant RJ6 267 (252645135)]
def wsX1_worthOf_r2 : List Cond := [Cond.methodLink RX1 82 yX1_leaksOf, Cond.instanceMethod yX1_leaksOf, Cond.selects RX1 yX1_leaksOf yX1_leaksOf, Cond.code yX1_leaksOf cX1_leaksOf 2 (some .int), Cond.fieldLink RX1 31 "BedHouse$Plan" "rain" "I", Cond.methodLink RX1 85 yX1_quietIn, Cond.instanceMethod yX1_quietIn, Cond.selects RX1 yX1_quietIn yX1_quietIn, Cond.code yX1_quietIn cX1_quietIn 2 (some .int)]
def wsX1_worthOf : List Cond := .code yX1_worthOf cX1_worthOf 3 (some .int) :: ((wsX1_worthOf_r1 ++ wsX1_worthOf_r2) ++ wsX10)
def wsX1_fitsLetter : List Cond := .code yX1_fitsLetter cX1_fitsLetter 4 (some .boolean) :: ([.methodLink RX1 79 yX1_litHours, .instanceMethod yX1_litHours, .selects RX1 yX1_litHours yX1_litHours, .initialized RX1, .code yX1_litHours cX1_litHours 2 (some .int), .fieldLink RX1 34 "BedHouse$Plan" "sun" "I", .methodLink RX1 64 yX1_slotsUnder, .instanceMethod yX1_slotsUnder, .selects RX1 yX1_slotsUnder yX1_slotsUnder, .code yX1_slotsUnder cX1_slotsUnder 6 (some .int), .fieldLink RX1 21 "BedHouse$Plan" "panels" "I", .fieldLink RX1 9 "BedHouse$Plan" "sorts" "[I", .static yX4_placeIn, .initialized RX4, .code yX4_placeIn cX4_placeIn 2 (some .int)] ++ wsX00 ++ wsX10)
def wsX2_init : List Cond := .code yX2_init cX2_init 1 none :: ([.methodLink RX2 3 objectInit, .instanceMethod objectInit, .code objectInit ⟨#[0xb1]⟩ 1 none, .arrayClass .byte, .fieldLink RX2 11 "BedHouse$Search" "lawful" "[B", .arrayClass .int, .fieldLink RX2 15 "BedHouse$Search" "far" "[I", .fieldLink RX2 19 "BedHouse$Search" "queue" "[I"] ++ wsX20)
def wsX2_survey_r1 : List Cond := [Cond.fieldLink RX2 22 "BedHouse$Search" "surveyed" "Z", Cond.fieldLink RX2 11 "BedHouse$Search" "lawful" "[B", Cond.static yX4_unitOf, Cond.initialized RX4, Cond.code yX4_unitOf cX4_unitOf 1 (some .int), Cond.instanceMethod yX1_allows, Cond.initialized RX1, Cond.selects RX1 yX1_allows yX1_allows, Cond.code yX1_allows cX1_allows 4 (some .boolean), Cond.fieldLink RX1 43 "BedHouse$Plan" "mostLying" "I", Cond.fieldLink RX1 21 "BedHouse$Plan" "panels" "I", Cond.fieldLink RX1 28 "BedHouse$Plan" "beams" "I", Cond.methodLink RX1 67 yX1_lyingIn, Cond.instanceMethod yX1_lyingIn, Cond.selects RX1 yX1_lyingIn yX1_lyingIn, Cond.code yX1_lyingIn cX1_lyingIn 4 (some .int), Cond.static yX4_placeIn, Cond.code yX4_placeIn cX4_placeIn 2 (some .int), Cond.methodLink RX1 64 yX1_slotsUnder, Cond.instanceMethod yX1_slotsUnder, Cond.selects RX1 yX1_slotsUnder yX1_slotsUnder, Cond.code yX1_slotsUnder cX1_slotsUnder 6 (some .int), Cond.fieldLink RX1 9 "BedHouse$Plan" "sorts" "[I", Cond.methodLink RX1 70 yJ6_bitCount_0f7a4]
def wsX2_survey_r2 : List Cond := [Cond.static yJ6_bitCount_0f7a4, Cond.initialized RJ6, Cond.code yJ6_bitCount_0f7a4 cJ6_bitCount_0f7a4 1 (some .int), Cond.constant RJ6 265 (1431655765), Cond.constant RJ6 266 (858993459), Cond.constant RJ6 267 (252645135), Cond.methodLink RX1 75 yX1_isBorne, Cond.instanceMethod yX1_isBorne, Cond.selects RX1 yX1_isBorne yX1_isBorne, Cond.code yX1_isBorne cX1_isBorne 3 (some .boolean), Cond.fieldLink RX1 15 "BedHouse$Plan" "beamSlots" "[I", Cond.methodLink RX1 61 yX1_hasBeam, Cond.instanceMethod yX1_hasBeam, Cond.selects RX1 yX1_hasBeam yX1_hasBeam, Cond.code yX1_hasBeam cX1_hasBeam 2 (some .boolean)]
def wsX2_survey : List Cond := .code yX2_survey cX2_survey 4 none :: ((wsX2_survey_r1 ++ wsX2_survey_r2) ++ wsX20 ++ wsX10)
def wsX2_isLawful : List Cond := .code yX2_isLawful cX2_isLawful 2 (some .boolean) :: ([.fieldLink RX2 11 "BedHouse$Search" "lawful" "[B"] ++ wsX20)
def wsX2_farTo : List Cond := .code yX2_farTo cX2_farTo 2 (some .int) :: ([.fieldLink RX2 15 "BedHouse$Search" "far" "[I"] ++ wsX20)
def wsX4_moved : List Cond := .code yX4_moved cX4_moved 3 (some .int) :: ([.methodLink RX4 80 yX4_placeIn, .static yX4_placeIn, .initialized RX4, .code yX4_placeIn cX4_placeIn 2 (some .int), .methodLink RX4 228 yX4_unitOf, .static yX4_unitOf, .code yX4_unitOf cX4_unitOf 1 (some .int)])
def wsX2_reach : List Cond := .code yX2_reach cX2_reach 3 none :: ([.fieldLink RX2 15 "BedHouse$Search" "far" "[I", .fieldLink RX2 44 "BedHouse$Search" "reached" "I", .fieldLink RX2 19 "BedHouse$Search" "queue" "[I", .methodLink RX2 65 yX2_isLawful, .instanceMethod yX2_isLawful, .selects RX2 yX2_isLawful yX2_isLawful, .initialized RX2, .code yX2_isLawful cX2_isLawful 2 (some .boolean), .fieldLink RX2 11 "BedHouse$Search" "lawful" "[B"] ++ wsX20)
def wsX2_spreadByOneAct : List Cond := .code yX2_spreadByOneAct cX2_spreadByOneAct 6 none :: ([.static yX4_placeIn, .initialized RX4, .code yX4_placeIn cX4_placeIn 2 (some .int), .static yX4_moved, .code yX4_moved cX4_moved 3 (some .int), .methodLink RX4 80 yX4_placeIn, .methodLink RX4 228 yX4_unitOf, .static yX4_unitOf, .code yX4_unitOf cX4_unitOf 1 (some .int), .methodLink RX2 61 yX2_reach, .instanceMethod yX2_reach, .selects RX2 yX2_reach yX2_reach, .initialized RX2, .code yX2_reach cX2_reach 3 none, .fieldLink RX2 15 "BedHouse$Search" "far" "[I", .fieldLink RX2 44 "BedHouse$Search" "reached" "I", .fieldLink RX2 19 "BedHouse$Search" "queue" "[I", .methodLink RX2 65 yX2_isLawful, .instanceMethod yX2_isLawful, .selects RX2 yX2_isLawful yX2_isLawful, .code yX2_isLawful cX2_isLawful 2 (some .boolean), .fieldLink RX2 11 "BedHouse$Search" "lawful" "[B"] ++ wsX10 ++ wsX20)
def wsX2_spread_r1 : List Cond := [Cond.fieldLink RX2 15 "BedHouse$Search" "far" "[I", Cond.fieldLink RX2 19 "BedHouse$Search" "queue" "[I", Cond.fieldLink RX2 44 "BedHouse$Search" "reached" "I", Cond.methodLink RX2 47 yX2_farTo, Cond.instanceMethod yX2_farTo, Cond.selects RX2 yX2_farTo yX2_farTo, Cond.initialized RX2, Cond.code yX2_farTo cX2_farTo 2 (some .int), Cond.methodLink RX2 50 yX2_spreadByOneAct, Cond.instanceMethod yX2_spreadByOneAct, Cond.selects RX2 yX2_spreadByOneAct yX2_spreadByOneAct, Cond.code yX2_spreadByOneAct cX2_spreadByOneAct 6 none, Cond.static yX4_placeIn, Cond.initialized RX4, Cond.code yX4_placeIn cX4_placeIn 2 (some .int), Cond.static yX4_moved, Cond.code yX4_moved cX4_moved 3 (some .int), Cond.methodLink RX4 80 yX4_placeIn, Cond.methodLink RX4 228 yX4_unitOf, Cond.static yX4_unitOf, Cond.code yX4_unitOf cX4_unitOf 1 (some .int), Cond.methodLink RX2 61 yX2_reach, Cond.instanceMethod yX2_reach, Cond.selects RX2 yX2_reach yX2_reach]
def wsX2_spread_r2 : List Cond := [Cond.code yX2_reach cX2_reach 3 none, Cond.methodLink RX2 65 yX2_isLawful, Cond.instanceMethod yX2_isLawful, Cond.selects RX2 yX2_isLawful yX2_isLawful, Cond.code yX2_isLawful cX2_isLawful 2 (some .boolean), Cond.fieldLink RX2 11 "BedHouse$Search" "lawful" "[B"]
def wsX2_spread : List Cond := .code yX2_spread cX2_spread 6 none :: ((wsX2_spread_r1 ++ wsX2_spread_r2) ++ wsX20 ++ wsX10)
def wsX2_spreadFrom_r1 : List Cond := [Cond.fieldLink RX2 19 "BedHouse$Search" "queue" "[I", Cond.methodLink RX2 40 yX2_spread, Cond.instanceMethod yX2_spread, Cond.selects RX2 yX2_spread yX2_spread, Cond.initialized RX2, Cond.code yX2_spread cX2_spread 6 none, Cond.fieldLink RX2 15 "BedHouse$Search" "far" "[I", Cond.fieldLink RX2 44 "BedHouse$Search" "reached" "I", Cond.methodLink RX2 47 yX2_farTo, Cond.instanceMethod yX2_farTo, Cond.selects RX2 yX2_farTo yX2_farTo, Cond.code yX2_farTo cX2_farTo 2 (some .int), Cond.methodLink RX2 50 yX2_spreadByOneAct, Cond.instanceMethod yX2_spreadByOneAct, Cond.selects RX2 yX2_spreadByOneAct yX2_spreadByOneAct, Cond.code yX2_spreadByOneAct cX2_spreadByOneAct 6 none, Cond.static yX4_placeIn, Cond.initialized RX4, Cond.code yX4_placeIn cX4_placeIn 2 (some .int), Cond.static yX4_moved, Cond.code yX4_moved cX4_moved 3 (some .int), Cond.methodLink RX4 80 yX4_placeIn, Cond.methodLink RX4 228 yX4_unitOf, Cond.static yX4_unitOf]
def wsX2_spreadFrom_r2 : List Cond := [Cond.code yX4_unitOf cX4_unitOf 1 (some .int), Cond.methodLink RX2 61 yX2_reach, Cond.instanceMethod yX2_reach, Cond.selects RX2 yX2_reach yX2_reach, Cond.code yX2_reach cX2_reach 3 none, Cond.methodLink RX2 65 yX2_isLawful, Cond.instanceMethod yX2_isLawful, Cond.selects RX2 yX2_isLawful yX2_isLawful, Cond.code yX2_isLawful cX2_isLawful 2 (some .boolean), Cond.fieldLink RX2 11 "BedHouse$Search" "lawful" "[B"]
def wsX2_spreadFrom : List Cond := .code yX2_spreadFrom cX2_spreadFrom 3 none :: ((wsX2_spreadFrom_r1 ++ wsX2_spreadFrom_r2) ++ wsX20 ++ wsX10)
def wsX2_fewestActs_r1 : List Cond := [Cond.methodLink RX2 68 yX2_survey, Cond.instanceMethod yX2_survey, Cond.selects RX2 yX2_survey yX2_survey, Cond.initialized RX2, Cond.code yX2_survey cX2_survey 4 none, Cond.fieldLink RX2 22 "BedHouse$Search" "surveyed" "Z", Cond.fieldLink RX2 11 "BedHouse$Search" "lawful" "[B", Cond.static yX4_unitOf, Cond.initialized RX4, Cond.code yX4_unitOf cX4_unitOf 1 (some .int), Cond.instanceMethod yX1_allows, Cond.initialized RX1, Cond.selects RX1 yX1_allows yX1_allows, Cond.code yX1_allows cX1_allows 4 (some .boolean), Cond.fieldLink RX1 43 "BedHouse$Plan" "mostLying" "I", Cond.fieldLink RX1 21 "BedHouse$Plan" "panels" "I", Cond.fieldLink RX1 28 "BedHouse$Plan" "beams" "I", Cond.methodLink RX1 67 yX1_lyingIn, Cond.instanceMethod yX1_lyingIn, Cond.selects RX1 yX1_lyingIn yX1_lyingIn, Cond.code yX1_lyingIn cX1_lyingIn 4 (some .int), Cond.static yX4_placeIn, Cond.code yX4_placeIn cX4_placeIn 2 (some .int), Cond.methodLink RX1 64 yX1_slotsUnder]
def wsX2_fewestActs_r2 : List Cond := [Cond.instanceMethod yX1_slotsUnder, Cond.selects RX1 yX1_slotsUnder yX1_slotsUnder, Cond.code yX1_slotsUnder cX1_slotsUnder 6 (some .int), Cond.fieldLink RX1 9 "BedHouse$Plan" "sorts" "[I", Cond.methodLink RX1 70 yJ6_bitCount_0f7a4, Cond.static yJ6_bitCount_0f7a4, Cond.initialized RJ6, Cond.code yJ6_bitCount_0f7a4 cJ6_bitCount_0f7a4 1 (some .int), Cond.constant RJ6 265 (1431655765), Cond.constant RJ6 266 (858993459), Cond.constant RJ6 267 (252645135), Cond.methodLink RX1 75 yX1_isBorne, Cond.instanceMethod yX1_isBorne, Cond.selects RX1 yX1_isBorne yX1_isBorne, Cond.code yX1_isBorne cX1_isBorne 3 (some .boolean), Cond.fieldLink RX1 15 "BedHouse$Plan" "beamSlots" "[I", Cond.methodLink RX1 61 yX1_hasBeam, Cond.instanceMethod yX1_hasBeam, Cond.selects RX1 yX1_hasBeam yX1_hasBeam, Cond.code yX1_hasBeam cX1_hasBeam 2 (some .boolean), Cond.methodLink RX2 72 yX2_spreadFrom, Cond.instanceMethod yX2_spreadFrom, Cond.selects RX2 yX2_spreadFrom yX2_spreadFrom, Cond.code yX2_spreadFrom cX2_spreadFrom 3 none]
def wsX2_fewestActs_r3 : List Cond := [Cond.fieldLink RX2 19 "BedHouse$Search" "queue" "[I", Cond.methodLink RX2 40 yX2_spread, Cond.instanceMethod yX2_spread, Cond.selects RX2 yX2_spread yX2_spread, Cond.code yX2_spread cX2_spread 6 none, Cond.fieldLink RX2 15 "BedHouse$Search" "far" "[I", Cond.fieldLink RX2 44 "BedHouse$Search" "reached" "I", Cond.methodLink RX2 47 yX2_farTo, Cond.instanceMethod yX2_farTo, Cond.selects RX2 yX2_farTo yX2_farTo, Cond.code yX2_farTo cX2_farTo 2 (some .int), Cond.methodLink RX2 50 yX2_spreadByOneAct, Cond.instanceMethod yX2_spreadByOneAct, Cond.selects RX2 yX2_spreadByOneAct yX2_spreadByOneAct, Cond.code yX2_spreadByOneAct cX2_spreadByOneAct 6 none, Cond.static yX4_moved, Cond.code yX4_moved cX4_moved 3 (some .int), Cond.methodLink RX4 80 yX4_placeIn, Cond.methodLink RX4 228 yX4_unitOf, Cond.methodLink RX2 61 yX2_reach, Cond.instanceMethod yX2_reach, Cond.selects RX2 yX2_reach yX2_reach, Cond.code yX2_reach cX2_reach 3 none, Cond.methodLink RX2 65 yX2_isLawful]
def wsX2_fewestActs_r4 : List Cond := [Cond.instanceMethod yX2_isLawful, Cond.selects RX2 yX2_isLawful yX2_isLawful, Cond.code yX2_isLawful cX2_isLawful 2 (some .boolean)]
def wsX2_fewestActs : List Cond := .code yX2_fewestActs cX2_fewestActs 4 (some .int) :: ((wsX2_fewestActs_r1 ++ (wsX2_fewestActs_r2 ++ (wsX2_fewestActs_r3 ++ wsX2_fewestActs_r4))) ++ wsX20 ++ wsX10)
def wsX2_firstAct_r1 : List Cond := [Cond.methodLink RX2 68 yX2_survey, Cond.instanceMethod yX2_survey, Cond.selects RX2 yX2_survey yX2_survey, Cond.initialized RX2, Cond.code yX2_survey cX2_survey 4 none, Cond.fieldLink RX2 22 "BedHouse$Search" "surveyed" "Z", Cond.fieldLink RX2 11 "BedHouse$Search" "lawful" "[B", Cond.static yX4_unitOf, Cond.initialized RX4, Cond.code yX4_unitOf cX4_unitOf 1 (some .int), Cond.instanceMethod yX1_allows, Cond.initialized RX1, Cond.selects RX1 yX1_allows yX1_allows, Cond.code yX1_allows cX1_allows 4 (some .boolean), Cond.fieldLink RX1 43 "BedHouse$Plan" "mostLying" "I", Cond.fieldLink RX1 21 "BedHouse$Plan" "panels" "I", Cond.fieldLink RX1 28 "BedHouse$Plan" "beams" "I", Cond.methodLink RX1 67 yX1_lyingIn, Cond.instanceMethod yX1_lyingIn, Cond.selects RX1 yX1_lyingIn yX1_lyingIn, Cond.code yX1_lyingIn cX1_lyingIn 4 (some .int), Cond.static yX4_placeIn, Cond.code yX4_placeIn cX4_placeIn 2 (some .int), Cond.methodLink RX1 64 yX1_slotsUnder]
def wsX2_firstAct_r2 : List Cond := [Cond.instanceMethod yX1_slotsUnder, Cond.selects RX1 yX1_slotsUnder yX1_slotsUnder, Cond.code yX1_slotsUnder cX1_slotsUnder 6 (some .int), Cond.fieldLink RX1 9 "BedHouse$Plan" "sorts" "[I", Cond.methodLink RX1 70 yJ6_bitCount_0f7a4, Cond.static yJ6_bitCount_0f7a4, Cond.initialized RJ6, Cond.code yJ6_bitCount_0f7a4 cJ6_bitCount_0f7a4 1 (some .int), Cond.constant RJ6 265 (1431655765), Cond.constant RJ6 266 (858993459), Cond.constant RJ6 267 (252645135), Cond.methodLink RX1 75 yX1_isBorne, Cond.instanceMethod yX1_isBorne, Cond.selects RX1 yX1_isBorne yX1_isBorne, Cond.code yX1_isBorne cX1_isBorne 3 (some .boolean), Cond.fieldLink RX1 15 "BedHouse$Plan" "beamSlots" "[I", Cond.methodLink RX1 61 yX1_hasBeam, Cond.instanceMethod yX1_hasBeam, Cond.selects RX1 yX1_hasBeam yX1_hasBeam, Cond.code yX1_hasBeam cX1_hasBeam 2 (some .boolean), Cond.methodLink RX2 65 yX2_isLawful, Cond.instanceMethod yX2_isLawful, Cond.selects RX2 yX2_isLawful yX2_isLawful, Cond.code yX2_isLawful cX2_isLawful 2 (some .boolean)]
def wsX2_firstAct_r3 : List Cond := [Cond.methodLink RX2 72 yX2_spreadFrom, Cond.instanceMethod yX2_spreadFrom, Cond.selects RX2 yX2_spreadFrom yX2_spreadFrom, Cond.code yX2_spreadFrom cX2_spreadFrom 3 none, Cond.fieldLink RX2 19 "BedHouse$Search" "queue" "[I", Cond.methodLink RX2 40 yX2_spread, Cond.instanceMethod yX2_spread, Cond.selects RX2 yX2_spread yX2_spread, Cond.code yX2_spread cX2_spread 6 none, Cond.fieldLink RX2 15 "BedHouse$Search" "far" "[I", Cond.fieldLink RX2 44 "BedHouse$Search" "reached" "I", Cond.methodLink RX2 47 yX2_farTo, Cond.instanceMethod yX2_farTo, Cond.selects RX2 yX2_farTo yX2_farTo, Cond.code yX2_farTo cX2_farTo 2 (some .int), Cond.methodLink RX2 50 yX2_spreadByOneAct, Cond.instanceMethod yX2_spreadByOneAct, Cond.selects RX2 yX2_spreadByOneAct yX2_spreadByOneAct, Cond.code yX2_spreadByOneAct cX2_spreadByOneAct 6 none, Cond.static yX4_moved, Cond.code yX4_moved cX4_moved 3 (some .int), Cond.methodLink RX4 80 yX4_placeIn, Cond.methodLink RX4 228 yX4_unitOf, Cond.methodLink RX2 61 yX2_reach]
def wsX2_firstAct_r4 : List Cond := [Cond.instanceMethod yX2_reach, Cond.selects RX2 yX2_reach yX2_reach, Cond.code yX2_reach cX2_reach 3 none]
def wsX2_firstAct : List Cond := .code yX2_firstAct cX2_firstAct 12 (some .int) :: ((wsX2_firstAct_r1 ++ (wsX2_firstAct_r2 ++ (wsX2_firstAct_r3 ++ wsX2_firstAct_r4))) ++ wsX10 ++ wsX20)
def wsX2_keepDry : List Cond := .code yX2_keepDry cX2_keepDry 4 (some .int) :: ([.fieldLink RX2 44 "BedHouse$Search" "reached" "I", .fieldLink RX2 19 "BedHouse$Search" "queue" "[I", .instanceMethod yX1_leaksOf, .initialized RX1, .selects RX1 yX1_leaksOf yX1_leaksOf, .code yX1_leaksOf cX1_leaksOf 2 (some .int), .fieldLink RX1 31 "BedHouse$Plan" "rain" "I", .methodLink RX1 64 yX1_slotsUnder, .instanceMethod yX1_slotsUnder, .selects RX1 yX1_slotsUnder yX1_slotsUnder, .code yX1_slotsUnder cX1_slotsUnder 6 (some .int), .fieldLink RX1 21 "BedHouse$Plan" "panels" "I", .fieldLink RX1 9 "BedHouse$Plan" "sorts" "[I", .static yX4_placeIn, .initialized RX4, .code yX4_placeIn cX4_placeIn 2 (some .int), .methodLink RX1 70 yJ6_bitCount_0f7a4, .static yJ6_bitCount_0f7a4, .initialized RJ6, .code yJ6_bitCount_0f7a4 cJ6_bitCount_0f7a4 1 (some .int), .constant RJ6 265 (1431655765), .constant RJ6 266 (858993459), .constant RJ6 267 (252645135)] ++ wsX20 ++ wsX10)
def wsX2_fewestNights_r1 : List Cond := [Cond.fieldLink RX2 19 "BedHouse$Search" "queue" "[I", Cond.methodLink RX2 68 yX2_survey, Cond.instanceMethod yX2_survey, Cond.selects RX2 yX2_survey yX2_survey, Cond.initialized RX2, Cond.code yX2_survey cX2_survey 4 none, Cond.fieldLink RX2 22 "BedHouse$Search" "surveyed" "Z", Cond.fieldLink RX2 11 "BedHouse$Search" "lawful" "[B", Cond.static yX4_unitOf, Cond.initialized RX4, Cond.code yX4_unitOf cX4_unitOf 1 (some .int), Cond.instanceMethod yX1_allows, Cond.initialized RX1, Cond.selects RX1 yX1_allows yX1_allows, Cond.code yX1_allows cX1_allows 4 (some .boolean), Cond.fieldLink RX1 43 "BedHouse$Plan" "mostLying" "I", Cond.fieldLink RX1 21 "BedHouse$Plan" "panels" "I", Cond.fieldLink RX1 28 "BedHouse$Plan" "beams" "I", Cond.methodLink RX1 67 yX1_lyingIn, Cond.instanceMethod yX1_lyingIn, Cond.selects RX1 yX1_lyingIn yX1_lyingIn, Cond.code yX1_lyingIn cX1_lyingIn 4 (some .int), Cond.static yX4_placeIn, Cond.code yX4_placeIn cX4_placeIn 2 (some .int)]
def wsX2_fewestNights_r2 : List Cond := [Cond.methodLink RX1 64 yX1_slotsUnder, Cond.instanceMethod yX1_slotsUnder, Cond.selects RX1 yX1_slotsUnder yX1_slotsUnder, Cond.code yX1_slotsUnder cX1_slotsUnder 6 (some .int), Cond.fieldLink RX1 9 "BedHouse$Plan" "sorts" "[I", Cond.methodLink RX1 70 yJ6_bitCount_0f7a4, Cond.static yJ6_bitCount_0f7a4, Cond.initialized RJ6, Cond.code yJ6_bitCount_0f7a4 cJ6_bitCount_0f7a4 1 (some .int), Cond.constant RJ6 265 (1431655765), Cond.constant RJ6 266 (858993459), Cond.constant RJ6 267 (252645135), Cond.methodLink RX1 75 yX1_isBorne, Cond.instanceMethod yX1_isBorne, Cond.selects RX1 yX1_isBorne yX1_isBorne, Cond.code yX1_isBorne cX1_isBorne 3 (some .boolean), Cond.fieldLink RX1 15 "BedHouse$Plan" "beamSlots" "[I", Cond.methodLink RX1 61 yX1_hasBeam, Cond.instanceMethod yX1_hasBeam, Cond.selects RX1 yX1_hasBeam yX1_hasBeam, Cond.code yX1_hasBeam cX1_hasBeam 2 (some .boolean), Cond.methodLink RX2 40 yX2_spread, Cond.instanceMethod yX2_spread, Cond.selects RX2 yX2_spread yX2_spread]
def wsX2_fewestNights_r3 : List Cond := [Cond.code yX2_spread cX2_spread 6 none, Cond.fieldLink RX2 15 "BedHouse$Search" "far" "[I", Cond.fieldLink RX2 44 "BedHouse$Search" "reached" "I", Cond.methodLink RX2 47 yX2_farTo, Cond.instanceMethod yX2_farTo, Cond.selects RX2 yX2_farTo yX2_farTo, Cond.code yX2_farTo cX2_farTo 2 (some .int), Cond.methodLink RX2 50 yX2_spreadByOneAct, Cond.instanceMethod yX2_spreadByOneAct, Cond.selects RX2 yX2_spreadByOneAct yX2_spreadByOneAct, Cond.code yX2_spreadByOneAct cX2_spreadByOneAct 6 none, Cond.static yX4_moved, Cond.code yX4_moved cX4_moved 3 (some .int), Cond.methodLink RX4 80 yX4_placeIn, Cond.methodLink RX4 228 yX4_unitOf, Cond.methodLink RX2 61 yX2_reach, Cond.instanceMethod yX2_reach, Cond.selects RX2 yX2_reach yX2_reach, Cond.code yX2_reach cX2_reach 3 none, Cond.methodLink RX2 65 yX2_isLawful, Cond.instanceMethod yX2_isLawful, Cond.selects RX2 yX2_isLawful yX2_isLawful, Cond.code yX2_isLawful cX2_isLawful 2 (some .boolean), Cond.methodLink RX2 90 yX2_keepDry]
def wsX2_fewestNights_r4 : List Cond := [Cond.instanceMethod yX2_keepDry, Cond.selects RX2 yX2_keepDry yX2_keepDry, Cond.code yX2_keepDry cX2_keepDry 4 (some .int), Cond.instanceMethod yX1_leaksOf, Cond.selects RX1 yX1_leaksOf yX1_leaksOf, Cond.code yX1_leaksOf cX1_leaksOf 2 (some .int), Cond.fieldLink RX1 31 "BedHouse$Plan" "rain" "I"]
def wsX2_fewestNights : List Cond := .code yX2_fewestNights cX2_fewestNights 7 (some .int) :: ((wsX2_fewestNights_r1 ++ (wsX2_fewestNights_r2 ++ (wsX2_fewestNights_r3 ++ wsX2_fewestNights_r4))) ++ wsX20 ++ wsX00 ++ wsX10)
def wsX2_actsToEmpty_r1 : List Cond := [Cond.fieldLink RX2 44 "BedHouse$Search" "reached" "I", Cond.fieldLink RX2 19 "BedHouse$Search" "queue" "[I", Cond.methodLink RX2 68 yX2_survey, Cond.instanceMethod yX2_survey, Cond.selects RX2 yX2_survey yX2_survey, Cond.initialized RX2, Cond.code yX2_survey cX2_survey 4 none, Cond.fieldLink RX2 22 "BedHouse$Search" "surveyed" "Z", Cond.fieldLink RX2 11 "BedHouse$Search" "lawful" "[B", Cond.static yX4_unitOf, Cond.initialized RX4, Cond.code yX4_unitOf cX4_unitOf 1 (some .int), Cond.instanceMethod yX1_allows, Cond.initialized RX1, Cond.selects RX1 yX1_allows yX1_allows, Cond.code yX1_allows cX1_allows 4 (some .boolean), Cond.fieldLink RX1 43 "BedHouse$Plan" "mostLying" "I", Cond.fieldLink RX1 21 "BedHouse$Plan" "panels" "I", Cond.fieldLink RX1 28 "BedHouse$Plan" "beams" "I", Cond.methodLink RX1 67 yX1_lyingIn, Cond.instanceMethod yX1_lyingIn, Cond.selects RX1 yX1_lyingIn yX1_lyingIn, Cond.code yX1_lyingIn cX1_lyingIn 4 (some .int), Cond.static yX4_placeIn]
def wsX2_actsToEmpty_r2 : List Cond := [Cond.code yX4_placeIn cX4_placeIn 2 (some .int), Cond.methodLink RX1 64 yX1_slotsUnder, Cond.instanceMethod yX1_slotsUnder, Cond.selects RX1 yX1_slotsUnder yX1_slotsUnder, Cond.code yX1_slotsUnder cX1_slotsUnder 6 (some .int), Cond.fieldLink RX1 9 "BedHouse$Plan" "sorts" "[I", Cond.methodLink RX1 70 yJ6_bitCount_0f7a4, Cond.static yJ6_bitCount_0f7a4, Cond.initialized RJ6, Cond.code yJ6_bitCount_0f7a4 cJ6_bitCount_0f7a4 1 (some .int), Cond.constant RJ6 265 (1431655765), Cond.constant RJ6 266 (858993459), Cond.constant RJ6 267 (252645135), Cond.methodLink RX1 75 yX1_isBorne, Cond.instanceMethod yX1_isBorne, Cond.selects RX1 yX1_isBorne yX1_isBorne, Cond.code yX1_isBorne cX1_isBorne 3 (some .boolean), Cond.fieldLink RX1 15 "BedHouse$Plan" "beamSlots" "[I", Cond.methodLink RX1 61 yX1_hasBeam, Cond.instanceMethod yX1_hasBeam, Cond.selects RX1 yX1_hasBeam yX1_hasBeam, Cond.code yX1_hasBeam cX1_hasBeam 2 (some .boolean), Cond.methodLink RX2 72 yX2_spreadFrom, Cond.instanceMethod yX2_spreadFrom]
def wsX2_actsToEmpty_r3 : List Cond := [Cond.selects RX2 yX2_spreadFrom yX2_spreadFrom, Cond.code yX2_spreadFrom cX2_spreadFrom 3 none, Cond.methodLink RX2 40 yX2_spread, Cond.instanceMethod yX2_spread, Cond.selects RX2 yX2_spread yX2_spread, Cond.code yX2_spread cX2_spread 6 none, Cond.fieldLink RX2 15 "BedHouse$Search" "far" "[I", Cond.methodLink RX2 47 yX2_farTo, Cond.instanceMethod yX2_farTo, Cond.selects RX2 yX2_farTo yX2_farTo, Cond.code yX2_farTo cX2_farTo 2 (some .int), Cond.methodLink RX2 50 yX2_spreadByOneAct, Cond.instanceMethod yX2_spreadByOneAct, Cond.selects RX2 yX2_spreadByOneAct yX2_spreadByOneAct, Cond.code yX2_spreadByOneAct cX2_spreadByOneAct 6 none, Cond.static yX4_moved, Cond.code yX4_moved cX4_moved 3 (some .int), Cond.methodLink RX4 80 yX4_placeIn, Cond.methodLink RX4 228 yX4_unitOf, Cond.methodLink RX2 61 yX2_reach, Cond.instanceMethod yX2_reach, Cond.selects RX2 yX2_reach yX2_reach, Cond.code yX2_reach cX2_reach 3 none, Cond.methodLink RX2 65 yX2_isLawful]
def wsX2_actsToEmpty_r4 : List Cond := [Cond.instanceMethod yX2_isLawful, Cond.selects RX2 yX2_isLawful yX2_isLawful, Cond.code yX2_isLawful cX2_isLawful 2 (some .boolean)]
def wsX2_actsToEmpty : List Cond := .code yX2_actsToEmpty cX2_actsToEmpty 5 (some .int) :: ((wsX2_actsToEmpty_r1 ++ (wsX2_actsToEmpty_r2 ++ (wsX2_actsToEmpty_r3 ++ wsX2_actsToEmpty_r4))) ++ wsX20 ++ wsX10)
def wsX2_bestHome_r1 : List Cond := [Cond.constant RX2 100 (-1000000), Cond.methodLink RX2 68 yX2_survey, Cond.instanceMethod yX2_survey, Cond.selects RX2 yX2_survey yX2_survey, Cond.initialized RX2, Cond.code yX2_survey cX2_survey 4 none, Cond.fieldLink RX2 22 "BedHouse$Search" "surveyed" "Z", Cond.fieldLink RX2 11 "BedHouse$Search" "lawful" "[B", Cond.static yX4_unitOf, Cond.initialized RX4, Cond.code yX4_unitOf cX4_unitOf 1 (some .int), Cond.instanceMethod yX1_allows, Cond.initialized RX1, Cond.selects RX1 yX1_allows yX1_allows, Cond.code yX1_allows cX1_allows 4 (some .boolean), Cond.fieldLink RX1 43 "BedHouse$Plan" "mostLying" "I", Cond.fieldLink RX1 21 "BedHouse$Plan" "panels" "I", Cond.fieldLink RX1 28 "BedHouse$Plan" "beams" "I", Cond.methodLink RX1 67 yX1_lyingIn, Cond.instanceMethod yX1_lyingIn, Cond.selects RX1 yX1_lyingIn yX1_lyingIn, Cond.code yX1_lyingIn cX1_lyingIn 4 (some .int), Cond.static yX4_placeIn, Cond.code yX4_placeIn cX4_placeIn 2 (some .int)]
def wsX2_bestHome_r2 : List Cond := [Cond.methodLink RX1 64 yX1_slotsUnder, Cond.instanceMethod yX1_slotsUnder, Cond.selects RX1 yX1_slotsUnder yX1_slotsUnder, Cond.code yX1_slotsUnder cX1_slotsUnder 6 (some .int), Cond.fieldLink RX1 9 "BedHouse$Plan" "sorts" "[I", Cond.methodLink RX1 70 yJ6_bitCount_0f7a4, Cond.static yJ6_bitCount_0f7a4, Cond.initialized RJ6, Cond.code yJ6_bitCount_0f7a4 cJ6_bitCount_0f7a4 1 (some .int), Cond.constant RJ6 265 (1431655765), Cond.constant RJ6 266 (858993459), Cond.constant RJ6 267 (252645135), Cond.methodLink RX1 75 yX1_isBorne, Cond.instanceMethod yX1_isBorne, Cond.selects RX1 yX1_isBorne yX1_isBorne, Cond.code yX1_isBorne cX1_isBorne 3 (some .boolean), Cond.fieldLink RX1 15 "BedHouse$Plan" "beamSlots" "[I", Cond.methodLink RX1 61 yX1_hasBeam, Cond.instanceMethod yX1_hasBeam, Cond.selects RX1 yX1_hasBeam yX1_hasBeam, Cond.code yX1_hasBeam cX1_hasBeam 2 (some .boolean), Cond.methodLink RX2 65 yX2_isLawful, Cond.instanceMethod yX2_isLawful, Cond.selects RX2 yX2_isLawful yX2_isLawful]
def wsX2_bestHome_r3 : List Cond := [Cond.code yX2_isLawful cX2_isLawful 2 (some .boolean), Cond.instanceMethod yX1_worthOf, Cond.selects RX1 yX1_worthOf yX1_worthOf, Cond.code yX1_worthOf cX1_worthOf 3 (some .int), Cond.fieldLink RX1 37 "BedHouse$Plan" "view" "I", Cond.fieldLink RX1 40 "BedHouse$Plan" "noise" "I", Cond.methodLink RX1 79 yX1_litHours, Cond.instanceMethod yX1_litHours, Cond.selects RX1 yX1_litHours yX1_litHours, Cond.code yX1_litHours cX1_litHours 2 (some .int), Cond.fieldLink RX1 34 "BedHouse$Plan" "sun" "I", Cond.methodLink RX1 82 yX1_leaksOf, Cond.instanceMethod yX1_leaksOf, Cond.selects RX1 yX1_leaksOf yX1_leaksOf, Cond.code yX1_leaksOf cX1_leaksOf 2 (some .int), Cond.fieldLink RX1 31 "BedHouse$Plan" "rain" "I", Cond.methodLink RX1 85 yX1_quietIn, Cond.instanceMethod yX1_quietIn, Cond.selects RX1 yX1_quietIn yX1_quietIn, Cond.code yX1_quietIn cX1_quietIn 2 (some .int)]
def wsX2_bestHome : List Cond := .code yX2_bestHome cX2_bestHome 6 (some .int) :: ((wsX2_bestHome_r1 ++ (wsX2_bestHome_r2 ++ wsX2_bestHome_r3)) ++ wsX20 ++ wsX10)
def wsX2_countFitting_r1 : List Cond := [Cond.methodLink RX2 68 yX2_survey, Cond.instanceMethod yX2_survey, Cond.selects RX2 yX2_survey yX2_survey, Cond.initialized RX2, Cond.code yX2_survey cX2_survey 4 none, Cond.fieldLink RX2 22 "BedHouse$Search" "surveyed" "Z", Cond.fieldLink RX2 11 "BedHouse$Search" "lawful" "[B", Cond.static yX4_unitOf, Cond.initialized RX4, Cond.code yX4_unitOf cX4_unitOf 1 (some .int), Cond.instanceMethod yX1_allows, Cond.initialized RX1, Cond.selects RX1 yX1_allows yX1_allows, Cond.code yX1_allows cX1_allows 4 (some .boolean), Cond.fieldLink RX1 43 "BedHouse$Plan" "mostLying" "I", Cond.fieldLink RX1 21 "BedHouse$Plan" "panels" "I", Cond.fieldLink RX1 28 "BedHouse$Plan" "beams" "I", Cond.methodLink RX1 67 yX1_lyingIn, Cond.instanceMethod yX1_lyingIn, Cond.selects RX1 yX1_lyingIn yX1_lyingIn, Cond.code yX1_lyingIn cX1_lyingIn 4 (some .int), Cond.static yX4_placeIn, Cond.code yX4_placeIn cX4_placeIn 2 (some .int), Cond.methodLink RX1 64 yX1_slotsUnder]
def wsX2_countFitting_r2 : List Cond := [Cond.instanceMethod yX1_slotsUnder, Cond.selects RX1 yX1_slotsUnder yX1_slotsUnder, Cond.code yX1_slotsUnder cX1_slotsUnder 6 (some .int), Cond.fieldLink RX1 9 "BedHouse$Plan" "sorts" "[I", Cond.methodLink RX1 70 yJ6_bitCount_0f7a4, Cond.static yJ6_bitCount_0f7a4, Cond.initialized RJ6, Cond.code yJ6_bitCount_0f7a4 cJ6_bitCount_0f7a4 1 (some .int), Cond.constant RJ6 265 (1431655765), Cond.constant RJ6 266 (858993459), Cond.constant RJ6 267 (252645135), Cond.methodLink RX1 75 yX1_isBorne, Cond.instanceMethod yX1_isBorne, Cond.selects RX1 yX1_isBorne yX1_isBorne, Cond.code yX1_isBorne cX1_isBorne 3 (some .boolean), Cond.fieldLink RX1 15 "BedHouse$Plan" "beamSlots" "[I", Cond.methodLink RX1 61 yX1_hasBeam, Cond.instanceMethod yX1_hasBeam, Cond.selects RX1 yX1_hasBeam yX1_hasBeam, Cond.code yX1_hasBeam cX1_hasBeam 2 (some .boolean), Cond.methodLink RX2 65 yX2_isLawful, Cond.instanceMethod yX2_isLawful, Cond.selects RX2 yX2_isLawful yX2_isLawful, Cond.code yX2_isLawful cX2_isLawful 2 (some .boolean)]
def wsX2_countFitting_r3 : List Cond := [Cond.instanceMethod yX1_fitsLetter, Cond.selects RX1 yX1_fitsLetter yX1_fitsLetter, Cond.code yX1_fitsLetter cX1_fitsLetter 4 (some .boolean), Cond.methodLink RX1 79 yX1_litHours, Cond.instanceMethod yX1_litHours, Cond.selects RX1 yX1_litHours yX1_litHours, Cond.code yX1_litHours cX1_litHours 2 (some .int), Cond.fieldLink RX1 34 "BedHouse$Plan" "sun" "I"]
def wsX2_countFitting : List Cond := .code yX2_countFitting cX2_countFitting 5 (some .int) :: ((wsX2_countFitting_r1 ++ (wsX2_countFitting_r2 ++ wsX2_countFitting_r3)) ++ wsX20 ++ wsX10 ++ wsX00)
def wsX2_surePlace_r1 : List Cond := [Cond.methodLink RX2 68 yX2_survey, Cond.instanceMethod yX2_survey, Cond.selects RX2 yX2_survey yX2_survey, Cond.initialized RX2, Cond.code yX2_survey cX2_survey 4 none, Cond.fieldLink RX2 22 "BedHouse$Search" "surveyed" "Z", Cond.fieldLink RX2 11 "BedHouse$Search" "lawful" "[B", Cond.static yX4_unitOf, Cond.initialized RX4, Cond.code yX4_unitOf cX4_unitOf 1 (some .int), Cond.instanceMethod yX1_allows, Cond.initialized RX1, Cond.selects RX1 yX1_allows yX1_allows, Cond.code yX1_allows cX1_allows 4 (some .boolean), Cond.fieldLink RX1 43 "BedHouse$Plan" "mostLying" "I", Cond.fieldLink RX1 21 "BedHouse$Plan" "panels" "I", Cond.fieldLink RX1 28 "BedHouse$Plan" "beams" "I", Cond.methodLink RX1 67 yX1_lyingIn, Cond.instanceMethod yX1_lyingIn, Cond.selects RX1 yX1_lyingIn yX1_lyingIn, Cond.code yX1_lyingIn cX1_lyingIn 4 (some .int), Cond.static yX4_placeIn, Cond.code yX4_placeIn cX4_placeIn 2 (some .int), Cond.methodLink RX1 64 yX1_slotsUnder]
def wsX2_surePlace_r2 : List Cond := [Cond.instanceMethod yX1_slotsUnder, Cond.selects RX1 yX1_slotsUnder yX1_slotsUnder, Cond.code yX1_slotsUnder cX1_slotsUnder 6 (some .int), Cond.fieldLink RX1 9 "BedHouse$Plan" "sorts" "[I", Cond.methodLink RX1 70 yJ6_bitCount_0f7a4, Cond.static yJ6_bitCount_0f7a4, Cond.initialized RJ6, Cond.code yJ6_bitCount_0f7a4 cJ6_bitCount_0f7a4 1 (some .int), Cond.constant RJ6 265 (1431655765), Cond.constant RJ6 266 (858993459), Cond.constant RJ6 267 (252645135), Cond.methodLink RX1 75 yX1_isBorne, Cond.instanceMethod yX1_isBorne, Cond.selects RX1 yX1_isBorne yX1_isBorne, Cond.code yX1_isBorne cX1_isBorne 3 (some .boolean), Cond.fieldLink RX1 15 "BedHouse$Plan" "beamSlots" "[I", Cond.methodLink RX1 61 yX1_hasBeam, Cond.instanceMethod yX1_hasBeam, Cond.selects RX1 yX1_hasBeam yX1_hasBeam, Cond.code yX1_hasBeam cX1_hasBeam 2 (some .boolean), Cond.methodLink RX2 65 yX2_isLawful, Cond.instanceMethod yX2_isLawful, Cond.selects RX2 yX2_isLawful yX2_isLawful, Cond.code yX2_isLawful cX2_isLawful 2 (some .boolean)]
def wsX2_surePlace_r3 : List Cond := [Cond.instanceMethod yX1_fitsLetter, Cond.selects RX1 yX1_fitsLetter yX1_fitsLetter, Cond.code yX1_fitsLetter cX1_fitsLetter 4 (some .boolean), Cond.methodLink RX1 79 yX1_litHours, Cond.instanceMethod yX1_litHours, Cond.selects RX1 yX1_litHours yX1_litHours, Cond.code yX1_litHours cX1_litHours 2 (some .int), Cond.fieldLink RX1 34 "BedHouse$Plan" "sun" "I"]
def wsX2_surePlace : List Cond := .code yX2_surePlace cX2_surePlace 7 (some .int) :: ((wsX2_surePlace_r1 ++ (wsX2_surePlace_r2 ++ wsX2_surePlace_r3)) ++ wsX20 ++ wsX10 ++ wsX00)
def wsX3_init : List Cond := .code yX3_init cX3_init 1 none :: ([.methodLink RX3 3 objectInit, .instanceMethod objectInit, .code objectInit ⟨#[0xb1]⟩ 1 none, .arrayClass .int, .fieldLink RX3 11 "BedHouse$Text" "bytes" "[I"] ++ wsX30)
def wsX3_append : List Cond := .code yX3_append cX3_append 2 none :: ([.fieldLink RX3 15 "BedHouse$Text" "length" "I", .fieldLink RX3 11 "BedHouse$Text" "bytes" "[I"] ++ wsX30)
def wsX3_byteAt : List Cond := .code yX3_byteAt cX3_byteAt 2 (some .int) :: ([.fieldLink RX3 15 "BedHouse$Text" "length" "I", .fieldLink RX3 11 "BedHouse$Text" "bytes" "[I"] ++ wsX30)
def wsX3_isLetter : List Cond := .code yX3_isLetter cX3_isLetter 1 (some .boolean) :: ([])
def wsX3_spelling : List Cond := .code yX3_spelling cX3_spelling 1 (some (.object "java/lang/String")) :: ([])
def wsJ0_coder_7d493 : List Cond := .code yJ0_coder_7d493 cJ0_coder_7d493 1 (some .byte) :: ([.fieldLink RJ0 38 "java/lang/String" "COMPACT_STRINGS" "Z", .fieldLink RJ0 15 "java/lang/String" "coder" "B"])
def wsJ0_length_8abf5 : List Cond := .code yJ0_length_8abf5 cJ0_length_8abf5 1 (some .int) :: ([.fieldLink RJ0 9 "java/lang/String" "value" "[B", .methodLink RJ0 335 yJ0_coder_7d493, .instanceMethod yJ0_coder_7d493, .selects RJ0 yJ0_coder_7d493 yJ0_coder_7d493, .initialized RJ0, .code yJ0_coder_7d493 cJ0_coder_7d493 1 (some .byte), .fieldLink RJ0 38 "java/lang/String" "COMPACT_STRINGS" "Z", .fieldLink RJ0 15 "java/lang/String" "coder" "B"])
def wsJ0_isLatin1_aae02 : List Cond := .code yJ0_isLatin1_aae02 cJ0_isLatin1_aae02 1 (some .boolean) :: ([.fieldLink RJ0 38 "java/lang/String" "COMPACT_STRINGS" "Z", .fieldLink RJ0 15 "java/lang/String" "coder" "B"])
def wsJ3_checkIndex_8e157 : List Cond := .code yJ3_checkIndex_8e157 cJ3_checkIndex_8e157 3 (some .int) :: ([])
def wsJ0_checkIndex_df160 : List Cond := .code yJ0_checkIndex_df160 cJ0_checkIndex_df160 2 none :: ([.fieldLink RJ0 1053 "jdk/internal/util/Preconditions" "SIOOBE_FORMATTER" "Ljava/util/function/BiFunction;", .methodLink RJ0 1059 yJ3_checkIndex_8e157, .static yJ3_checkIndex_8e157, .initialized RJ3, .code yJ3_checkIndex_8e157 cJ3_checkIndex_8e157 3 (some .int)])
def wsJ1_charAt_3b067 : List Cond := .code yJ1_charAt_3b067 cJ1_charAt_3b067 2 (some .char) :: ([.methodLink RJ1 9 yJ0_checkIndex_df160, .static yJ0_checkIndex_df160, .initialized RJ0, .code yJ0_checkIndex_df160 cJ0_checkIndex_df160 2 none, .fieldLink RJ0 1053 "jdk/internal/util/Preconditions" "SIOOBE_FORMATTER" "Ljava/util/function/BiFunction;", .methodLink RJ0 1059 yJ3_checkIndex_8e157, .static yJ3_checkIndex_8e157, .initialized RJ3, .code yJ3_checkIndex_8e157 cJ3_checkIndex_8e157 3 (some .int)])
def wsJ2_length_9d52b : List Cond := .code yJ2_length_9d52b cJ2_length_9d52b 1 (some .int) :: ([])
def wsJ2_checkIndex_2214a : List Cond := .code yJ2_checkIndex_2214a cJ2_checkIndex_2214a 2 none :: ([.methodLink RJ2 48 yJ2_length_9d52b, .static yJ2_length_9d52b, .initialized RJ2, .code yJ2_length_9d52b cJ2_length_9d52b 1 (some .int), .methodLink RJ2 414 yJ0_checkIndex_df160, .static yJ0_checkIndex_df160, .initialized RJ0, .code yJ0_checkIndex_df160 cJ0_checkIndex_df160 2 none, .fieldLink RJ0 1053 "jdk/internal/util/Preconditions" "SIOOBE_FORMATTER" "Ljava/util/function/BiFunction;", .methodLink RJ0 1059 yJ3_checkIndex_8e157, .static yJ3_checkIndex_8e157, .initialized RJ3, .code yJ3_checkIndex_8e157 cJ3_checkIndex_8e157 3 (some .int)])
def wsJ2_getChar_3b067 : List Cond := .code yJ2_getChar_3b067 cJ2_getChar_3b067 2 (some .char) :: ([.fieldLink RJ2 44 "java/lang/StringUTF16" "$assertionsDisabled" "Z", .fieldLink RJ2 59 "java/lang/StringUTF16" "HI_BYTE_SHIFT" "I", .fieldLink RJ2 63 "java/lang/StringUTF16" "LO_BYTE_SHIFT" "I", .methodLink RJ2 48 yJ2_length_9d52b, .static yJ2_length_9d52b, .initialized RJ2, .code yJ2_length_9d52b cJ2_length_9d52b 1 (some .int)])
def wsJ2_charAt_3b067 : List Cond := .code yJ2_charAt_3b067 cJ2_charAt_3b067 2 (some .char) :: ([.methodLink RJ2 67 yJ2_checkIndex_2214a, .static yJ2_checkIndex_2214a, .initialized RJ2, .code yJ2_checkIndex_2214a cJ2_checkIndex_2214a 2 none, .methodLink RJ2 48 yJ2_length_9d52b, .static yJ2_length_9d52b, .code yJ2_length_9d52b cJ2_length_9d52b 1 (some .int), .methodLink RJ2 414 yJ0_checkIndex_df160, .static yJ0_checkIndex_df160, .initialized RJ0, .code yJ0_checkIndex_df160 cJ0_checkIndex_df160 2 none, .fieldLink RJ0 1053 "jdk/internal/util/Preconditions" "SIOOBE_FORMATTER" "Ljava/util/function/BiFunction;", .methodLink RJ0 1059 yJ3_checkIndex_8e157, .static yJ3_checkIndex_8e157, .initialized RJ3, .code yJ3_checkIndex_8e157 cJ3_checkIndex_8e157 3 (some .int), .methodLink RJ2 71 yJ2_getChar_3b067, .static yJ2_getChar_3b067, .code yJ2_getChar_3b067 cJ2_getChar_3b067 2 (some .char), .fieldLink RJ2 44 "java/lang/StringUTF16" "$assertionsDisabled" "Z", .fieldLink RJ2 59 "java/lang/StringUTF16" "HI_BYTE_SHIFT" "I", .fieldLink RJ2 63 "java/lang/StringUTF16" "LO_BYTE_SHIFT" "I"])
def wsJ0_charAt_5068e_r1 : List Cond := [Cond.fieldLink RJ0 9 "java/lang/String" "value" "[B", Cond.methodLink RJ0 492 yJ0_isLatin1_aae02, Cond.instanceMethod yJ0_isLatin1_aae02, Cond.selects RJ0 yJ0_isLatin1_aae02 yJ0_isLatin1_aae02, Cond.initialized RJ0, Cond.code yJ0_isLatin1_aae02 cJ0_isLatin1_aae02 1 (some .boolean), Cond.fieldLink RJ0 38 "java/lang/String" "COMPACT_STRINGS" "Z", Cond.fieldLink RJ0 15 "java/lang/String" "coder" "B", Cond.methodLink RJ0 495 yJ1_charAt_3b067, Cond.static yJ1_charAt_3b067, Cond.initialized RJ1, Cond.code yJ1_charAt_3b067 cJ1_charAt_3b067 2 (some .char), Cond.methodLink RJ1 9 yJ0_checkIndex_df160, Cond.static yJ0_checkIndex_df160, Cond.code yJ0_checkIndex_df160 cJ0_checkIndex_df160 2 none, Cond.fieldLink RJ0 1053 "jdk/internal/util/Preconditions" "SIOOBE_FORMATTER" "Ljava/util/function/BiFunction;", Cond.methodLink RJ0 1059 yJ3_checkIndex_8e157, Cond.static yJ3_checkIndex_8e157, Cond.initialized RJ3, Cond.code yJ3_checkIndex_8e157 cJ3_checkIndex_8e157 3 (some .int), Cond.methodLink RJ0 498 yJ2_charAt_3b067, Cond.static yJ2_charAt_3b067, Cond.initialized RJ2, Cond.code yJ2_charAt_3b067 cJ2_charAt_3b067 2 (some .char)]
def wsJ0_charAt_5068e_r2 : List Cond := [Cond.methodLink RJ2 67 yJ2_checkIndex_2214a, Cond.static yJ2_checkIndex_2214a, Cond.code yJ2_checkIndex_2214a cJ2_checkIndex_2214a 2 none, Cond.methodLink RJ2 48 yJ2_length_9d52b, Cond.static yJ2_length_9d52b, Cond.code yJ2_length_9d52b cJ2_length_9d52b 1 (some .int), Cond.methodLink RJ2 414 yJ0_checkIndex_df160, Cond.methodLink RJ2 71 yJ2_getChar_3b067, Cond.static yJ2_getChar_3b067, Cond.code yJ2_getChar_3b067 cJ2_getChar_3b067 2 (some .char), Cond.fieldLink RJ2 44 "java/lang/StringUTF16" "$assertionsDisabled" "Z", Cond.fieldLink RJ2 59 "java/lang/StringUTF16" "HI_BYTE_SHIFT" "I", Cond.fieldLink RJ2 63 "java/lang/StringUTF16" "LO_BYTE_SHIFT" "I"]
def wsJ0_charAt_5068e : List Cond := .code yJ0_charAt_5068e cJ0_charAt_5068e 2 (some .char) :: ((wsJ0_charAt_5068e_r1 ++ wsJ0_charAt_5068e_r2))
def wsX3_isSpelled_r1 : List Cond := [Cond.fieldLink RX3 31 "BedHouse$Text" "at" "I", Cond.fieldLink RX3 44 "BedHouse$Text" "tokenStart" "I", Cond.methodLink RX3 132 yJ0_length_8abf5, Cond.instanceMethod yJ0_length_8abf5, Cond.selects RJ0 yJ0_length_8abf5 yJ0_length_8abf5, Cond.initialized RJ0, Cond.code yJ0_length_8abf5 cJ0_length_8abf5 1 (some .int), Cond.fieldLink RJ0 9 "java/lang/String" "value" "[B", Cond.methodLink RJ0 335 yJ0_coder_7d493, Cond.instanceMethod yJ0_coder_7d493, Cond.selects RJ0 yJ0_coder_7d493 yJ0_coder_7d493, Cond.code yJ0_coder_7d493 cJ0_coder_7d493 1 (some .byte), Cond.fieldLink RJ0 38 "java/lang/String" "COMPACT_STRINGS" "Z", Cond.fieldLink RJ0 15 "java/lang/String" "coder" "B", Cond.methodLink RX3 137 yJ0_charAt_5068e, Cond.instanceMethod yJ0_charAt_5068e, Cond.selects RJ0 yJ0_charAt_5068e yJ0_charAt_5068e, Cond.code yJ0_charAt_5068e cJ0_charAt_5068e 2 (some .char), Cond.methodLink RJ0 492 yJ0_isLatin1_aae02, Cond.instanceMethod yJ0_isLatin1_aae02, Cond.selects RJ0 yJ0_isLatin1_aae02 yJ0_isLatin1_aae02, Cond.code yJ0_isLatin1_aae02 cJ0_isLatin1_aae02 1 (some .boolean), Cond.methodLink RJ0 495 yJ1_charAt_3b067, Cond.static yJ1_charAt_3b067]
def wsX3_isSpelled_r2 : List Cond := [Cond.initialized RJ1, Cond.code yJ1_charAt_3b067 cJ1_charAt_3b067 2 (some .char), Cond.methodLink RJ1 9 yJ0_checkIndex_df160, Cond.static yJ0_checkIndex_df160, Cond.code yJ0_checkIndex_df160 cJ0_checkIndex_df160 2 none, Cond.fieldLink RJ0 1053 "jdk/internal/util/Preconditions" "SIOOBE_FORMATTER" "Ljava/util/function/BiFunction;", Cond.methodLink RJ0 1059 yJ3_checkIndex_8e157, Cond.static yJ3_checkIndex_8e157, Cond.initialized RJ3, Cond.code yJ3_checkIndex_8e157 cJ3_checkIndex_8e157 3 (some .int), Cond.methodLink RJ0 498 yJ2_charAt_3b067, Cond.static yJ2_charAt_3b067, Cond.initialized RJ2, Cond.code yJ2_charAt_3b067 cJ2_charAt_3b067 2 (some .char), Cond.methodLink RJ2 67 yJ2_checkIndex_2214a, Cond.static yJ2_checkIndex_2214a, Cond.code yJ2_checkIndex_2214a cJ2_checkIndex_2214a 2 none, Cond.methodLink RJ2 48 yJ2_length_9d52b, Cond.static yJ2_length_9d52b, Cond.code yJ2_length_9d52b cJ2_length_9d52b 1 (some .int), Cond.methodLink RJ2 414 yJ0_checkIndex_df160, Cond.methodLink RJ2 71 yJ2_getChar_3b067, Cond.static yJ2_getChar_3b067, Cond.code yJ2_getChar_3b067 cJ2_getChar_3b067 2 (some .char)]
def wsX3_isSpelled_r3 : List Cond := [Cond.fieldLink RJ2 44 "java/lang/StringUTF16" "$assertionsDisabled" "Z", Cond.fieldLink RJ2 59 "java/lang/StringUTF16" "HI_BYTE_SHIFT" "I", Cond.fieldLink RJ2 63 "java/lang/StringUTF16" "LO_BYTE_SHIFT" "I", Cond.methodLink RX3 108 yX3_byteAt, Cond.instanceMethod yX3_byteAt, Cond.selects RX3 yX3_byteAt yX3_byteAt, Cond.initialized RX3, Cond.code yX3_byteAt cX3_byteAt 2 (some .int), Cond.fieldLink RX3 15 "BedHouse$Text" "length" "I", Cond.fieldLink RX3 11 "BedHouse$Text" "bytes" "[I"]
def wsX3_isSpelled : List Cond := .code yX3_isSpelled cX3_isSpelled 3 (some .boolean) :: ((wsX3_isSpelled_r1 ++ (wsX3_isSpelled_r2 ++ wsX3_isSpelled_r3)) ++ wsX30)
def wsX3_readWord_r1 : List Cond := [Cond.fieldLink RX3 31 "BedHouse$Text" "at" "I", Cond.fieldLink RX3 15 "BedHouse$Text" "length" "I", Cond.fieldLink RX3 37 "BedHouse$Text" "token" "I", Cond.fieldLink RX3 47 "BedHouse$Text" "value" "I", Cond.methodLink RX3 108 yX3_byteAt, Cond.instanceMethod yX3_byteAt, Cond.selects RX3 yX3_byteAt yX3_byteAt, Cond.initialized RX3, Cond.code yX3_byteAt cX3_byteAt 2 (some .int), Cond.fieldLink RX3 11 "BedHouse$Text" "bytes" "[I", Cond.methodLink RX3 112 yX3_isLetter, Cond.static yX3_isLetter, Cond.code yX3_isLetter cX3_isLetter 1 (some .boolean), Cond.methodLink RX3 124 yX3_spelling, Cond.static yX3_spelling, Cond.code yX3_spelling cX3_spelling 1 (some (.object "java/lang/String")), Cond.methodLink RX3 128 yX3_isSpelled, Cond.instanceMethod yX3_isSpelled, Cond.selects RX3 yX3_isSpelled yX3_isSpelled, Cond.code yX3_isSpelled cX3_isSpelled 3 (some .boolean), Cond.fieldLink RX3 44 "BedHouse$Text" "tokenStart" "I", Cond.methodLink RX3 132 yJ0_length_8abf5, Cond.instanceMethod yJ0_length_8abf5, Cond.selects RJ0 yJ0_length_8abf5 yJ0_length_8abf5]
def wsX3_readWord_r2 : List Cond := [Cond.initialized RJ0, Cond.code yJ0_length_8abf5 cJ0_length_8abf5 1 (some .int), Cond.fieldLink RJ0 9 "java/lang/String" "value" "[B", Cond.methodLink RJ0 335 yJ0_coder_7d493, Cond.instanceMethod yJ0_coder_7d493, Cond.selects RJ0 yJ0_coder_7d493 yJ0_coder_7d493, Cond.code yJ0_coder_7d493 cJ0_coder_7d493 1 (some .byte), Cond.fieldLink RJ0 38 "java/lang/String" "COMPACT_STRINGS" "Z", Cond.fieldLink RJ0 15 "java/lang/String" "coder" "B", Cond.methodLink RX3 137 yJ0_charAt_5068e, Cond.instanceMethod yJ0_charAt_5068e, Cond.selects RJ0 yJ0_charAt_5068e yJ0_charAt_5068e, Cond.code yJ0_charAt_5068e cJ0_charAt_5068e 2 (some .char), Cond.methodLink RJ0 492 yJ0_isLatin1_aae02, Cond.instanceMethod yJ0_isLatin1_aae02, Cond.selects RJ0 yJ0_isLatin1_aae02 yJ0_isLatin1_aae02, Cond.code yJ0_isLatin1_aae02 cJ0_isLatin1_aae02 1 (some .boolean), Cond.methodLink RJ0 495 yJ1_charAt_3b067, Cond.static yJ1_charAt_3b067, Cond.initialized RJ1, Cond.code yJ1_charAt_3b067 cJ1_charAt_3b067 2 (some .char), Cond.methodLink RJ1 9 yJ0_checkIndex_df160, Cond.static yJ0_checkIndex_df160, Cond.code yJ0_checkIndex_df160 cJ0_checkIndex_df160 2 none]
def wsX3_readWord_r3 : List Cond := [Cond.fieldLink RJ0 1053 "jdk/internal/util/Preconditions" "SIOOBE_FORMATTER" "Ljava/util/function/BiFunction;", Cond.methodLink RJ0 1059 yJ3_checkIndex_8e157, Cond.static yJ3_checkIndex_8e157, Cond.initialized RJ3, Cond.code yJ3_checkIndex_8e157 cJ3_checkIndex_8e157 3 (some .int), Cond.methodLink RJ0 498 yJ2_charAt_3b067, Cond.static yJ2_charAt_3b067, Cond.initialized RJ2, Cond.code yJ2_charAt_3b067 cJ2_charAt_3b067 2 (some .char), Cond.methodLink RJ2 67 yJ2_checkIndex_2214a, Cond.static yJ2_checkIndex_2214a, Cond.code yJ2_checkIndex_2214a cJ2_checkIndex_2214a 2 none, Cond.methodLink RJ2 48 yJ2_length_9d52b, Cond.static yJ2_length_9d52b, Cond.code yJ2_length_9d52b cJ2_length_9d52b 1 (some .int), Cond.methodLink RJ2 414 yJ0_checkIndex_df160, Cond.methodLink RJ2 71 yJ2_getChar_3b067, Cond.static yJ2_getChar_3b067, Cond.code yJ2_getChar_3b067 cJ2_getChar_3b067 2 (some .char), Cond.fieldLink RJ2 44 "java/lang/StringUTF16" "$assertionsDisabled" "Z", Cond.fieldLink RJ2 59 "java/lang/StringUTF16" "HI_BYTE_SHIFT" "I", Cond.fieldLink RJ2 63 "java/lang/StringUTF16" "LO_BYTE_SHIFT" "I"]
def wsX3_readWord : List Cond := .code yX3_readWord cX3_readWord 2 none :: ((wsX3_readWord_r1 ++ (wsX3_readWord_r2 ++ wsX3_readWord_r3)) ++ wsX30)
def wsX3_isDigit : List Cond := .code yX3_isDigit cX3_isDigit 1 (some .boolean) :: ([])
def wsX3_readNumber : List Cond := .code yX3_readNumber cX3_readNumber 2 none :: ([.fieldLink RX3 47 "BedHouse$Text" "value" "I", .fieldLink RX3 31 "BedHouse$Text" "at" "I", .fieldLink RX3 15 "BedHouse$Text" "length" "I", .methodLink RX3 141 Lib.Math.min.name, .static Lib.Math.min.name, .initialized "java/lang/Math", .code Lib.Math.min.name Lib.Math.min.code 2 (some .int), .fieldLink RX3 44 "BedHouse$Text" "tokenStart" "I", .fieldLink RX3 37 "BedHouse$Text" "token" "I", .methodLink RX3 108 yX3_byteAt, .instanceMethod yX3_byteAt, .selects RX3 yX3_byteAt yX3_byteAt, .initialized RX3, .code yX3_byteAt cX3_byteAt 2 (some .int), .fieldLink RX3 11 "BedHouse$Text" "bytes" "[I", .methodLink RX3 118 yX3_isDigit, .static yX3_isDigit, .code yX3_isDigit cX3_isDigit 1 (some .boolean)] ++ wsX30)
def wsX3_nextToken_r1 : List Cond := [Cond.fieldLink RX3 31 "BedHouse$Text" "at" "I", Cond.fieldLink RX3 15 "BedHouse$Text" "length" "I", Cond.fieldLink RX3 44 "BedHouse$Text" "tokenStart" "I", Cond.fieldLink RX3 37 "BedHouse$Text" "token" "I", Cond.methodLink RX3 108 yX3_byteAt, Cond.instanceMethod yX3_byteAt, Cond.selects RX3 yX3_byteAt yX3_byteAt, Cond.initialized RX3, Cond.code yX3_byteAt cX3_byteAt 2 (some .int), Cond.fieldLink RX3 11 "BedHouse$Text" "bytes" "[I", Cond.methodLink RX3 112 yX3_isLetter, Cond.static yX3_isLetter, Cond.code yX3_isLetter cX3_isLetter 1 (some .boolean), Cond.methodLink RX3 115 yX3_readWord, Cond.instanceMethod yX3_readWord, Cond.selects RX3 yX3_readWord yX3_readWord, Cond.code yX3_readWord cX3_readWord 2 none, Cond.fieldLink RX3 47 "BedHouse$Text" "value" "I", Cond.methodLink RX3 124 yX3_spelling, Cond.static yX3_spelling, Cond.code yX3_spelling cX3_spelling 1 (some (.object "java/lang/String")), Cond.methodLink RX3 128 yX3_isSpelled, Cond.instanceMethod yX3_isSpelled, Cond.selects RX3 yX3_isSpelled yX3_isSpelled]
def wsX3_nextToken_r2 : List Cond := [Cond.code yX3_isSpelled cX3_isSpelled 3 (some .boolean), Cond.methodLink RX3 132 yJ0_length_8abf5, Cond.instanceMethod yJ0_length_8abf5, Cond.selects RJ0 yJ0_length_8abf5 yJ0_length_8abf5, Cond.initialized RJ0, Cond.code yJ0_length_8abf5 cJ0_length_8abf5 1 (some .int), Cond.fieldLink RJ0 9 "java/lang/String" "value" "[B", Cond.methodLink RJ0 335 yJ0_coder_7d493, Cond.instanceMethod yJ0_coder_7d493, Cond.selects RJ0 yJ0_coder_7d493 yJ0_coder_7d493, Cond.code yJ0_coder_7d493 cJ0_coder_7d493 1 (some .byte), Cond.fieldLink RJ0 38 "java/lang/String" "COMPACT_STRINGS" "Z", Cond.fieldLink RJ0 15 "java/lang/String" "coder" "B", Cond.methodLink RX3 137 yJ0_charAt_5068e, Cond.instanceMethod yJ0_charAt_5068e, Cond.selects RJ0 yJ0_charAt_5068e yJ0_charAt_5068e, Cond.code yJ0_charAt_5068e cJ0_charAt_5068e 2 (some .char), Cond.methodLink RJ0 492 yJ0_isLatin1_aae02, Cond.instanceMethod yJ0_isLatin1_aae02, Cond.selects RJ0 yJ0_isLatin1_aae02 yJ0_isLatin1_aae02, Cond.code yJ0_isLatin1_aae02 cJ0_isLatin1_aae02 1 (some .boolean), Cond.methodLink RJ0 495 yJ1_charAt_3b067, Cond.static yJ1_charAt_3b067, Cond.initialized RJ1]
def wsX3_nextToken_r3 : List Cond := [Cond.code yJ1_charAt_3b067 cJ1_charAt_3b067 2 (some .char), Cond.methodLink RJ1 9 yJ0_checkIndex_df160, Cond.static yJ0_checkIndex_df160, Cond.code yJ0_checkIndex_df160 cJ0_checkIndex_df160 2 none, Cond.fieldLink RJ0 1053 "jdk/internal/util/Preconditions" "SIOOBE_FORMATTER" "Ljava/util/function/BiFunction;", Cond.methodLink RJ0 1059 yJ3_checkIndex_8e157, Cond.static yJ3_checkIndex_8e157, Cond.initialized RJ3, Cond.code yJ3_checkIndex_8e157 cJ3_checkIndex_8e157 3 (some .int), Cond.methodLink RJ0 498 yJ2_charAt_3b067, Cond.static yJ2_charAt_3b067, Cond.initialized RJ2, Cond.code yJ2_charAt_3b067 cJ2_charAt_3b067 2 (some .char), Cond.methodLink RJ2 67 yJ2_checkIndex_2214a, Cond.static yJ2_checkIndex_2214a, Cond.code yJ2_checkIndex_2214a cJ2_checkIndex_2214a 2 none, Cond.methodLink RJ2 48 yJ2_length_9d52b, Cond.static yJ2_length_9d52b, Cond.code yJ2_length_9d52b cJ2_length_9d52b 1 (some .int), Cond.methodLink RJ2 414 yJ0_checkIndex_df160, Cond.methodLink RJ2 71 yJ2_getChar_3b067, Cond.static yJ2_getChar_3b067, Cond.code yJ2_getChar_3b067 cJ2_getChar_3b067 2 (some .char), Cond.fieldLink RJ2 44 "java/lang/StringUTF16" "$assertionsDisabled" "Z"]
def wsX3_nextToken_r4 : List Cond := [Cond.fieldLink RJ2 59 "java/lang/StringUTF16" "HI_BYTE_SHIFT" "I", Cond.fieldLink RJ2 63 "java/lang/StringUTF16" "LO_BYTE_SHIFT" "I", Cond.methodLink RX3 118 yX3_isDigit, Cond.static yX3_isDigit, Cond.code yX3_isDigit cX3_isDigit 1 (some .boolean), Cond.methodLink RX3 121 yX3_readNumber, Cond.instanceMethod yX3_readNumber, Cond.selects RX3 yX3_readNumber yX3_readNumber, Cond.code yX3_readNumber cX3_readNumber 2 none, Cond.methodLink RX3 141 Lib.Math.min.name, Cond.static Lib.Math.min.name, Cond.initialized "java/lang/Math", Cond.code Lib.Math.min.name Lib.Math.min.code 2 (some .int)]
def wsX3_nextToken : List Cond := .code yX3_nextToken cX3_nextToken 2 none :: ((wsX3_nextToken_r1 ++ (wsX3_nextToken_r2 ++ (wsX3_nextToken_r3 ++ wsX3_nextToken_r4))) ++ wsX30)
def wsX3_mayBegin : List Cond := .code yX3_mayBegin cX3_mayBegin 3 (some .boolean) :: ([.fieldLink RX3 24 "BedHouse$Text" "downTold" "Z", .fieldLink RX3 28 "BedHouse$Text" "handsTold" "Z"] ++ wsX10 ++ wsX30)
def wsX4_isSlot : List Cond := .code yX4_isSlot cX4_isSlot 1 (some .boolean) :: ([])
def wsX3_mayBeFirst : List Cond := .code yX3_mayBeFirst cX3_mayBeFirst 3 (some .boolean) :: ([.static yX4_isSlot, .initialized RX4, .code yX4_isSlot cX4_isSlot 1 (some .boolean), .instanceMethod yX1_panelAt, .initialized RX1, .selects RX1 yX1_panelAt yX1_panelAt, .code yX1_panelAt cX1_panelAt 4 (some .int), .fieldLink RX1 21 "BedHouse$Plan" "panels" "I", .static yX4_placeIn, .code yX4_placeIn cX4_placeIn 2 (some .int)] ++ wsX10)
def wsX3_slotsFrom : List Cond := .code yX3_slotsFrom cX3_slotsFrom 4 (some .int) :: ([])
def wsX3_apply : List Cond := .code yX3_apply cX3_apply 5 none :: ([.fieldLink RX3 24 "BedHouse$Text" "downTold" "Z", .fieldLink RX3 28 "BedHouse$Text" "handsTold" "Z", .methodLink RX3 85 yX3_slotsFrom, .static yX3_slotsFrom, .initialized RX3, .code yX3_slotsFrom cX3_slotsFrom 4 (some .int), .instanceMethod yX1_addBeam, .initialized RX1, .selects RX1 yX1_addBeam yX1_addBeam, .code yX1_addBeam cX1_addBeam 2 none, .fieldLink RX1 28 "BedHouse$Plan" "beams" "I", .fieldLink RX1 15 "BedHouse$Plan" "beamSlots" "[I", .instanceMethod yX1_addPanel, .selects RX1 yX1_addPanel yX1_addPanel, .code yX1_addPanel cX1_addPanel 3 none, .fieldLink RX1 21 "BedHouse$Plan" "panels" "I", .fieldLink RX1 9 "BedHouse$Plan" "sorts" "[I", .fieldLink RX1 25 "BedHouse$Plan" "toldHouse" "I", .static yX4_unitOf, .initialized RX4, .code yX4_unitOf cX4_unitOf 1 (some .int)] ++ wsX10 ++ wsX30)
def wsX3_tellItem_r1 : List Cond := [Cond.fieldLink RX3 37 "BedHouse$Text" "token" "I", Cond.fieldLink RX3 47 "BedHouse$Text" "value" "I", Cond.methodLink RX3 50 yX3_mayBegin, Cond.instanceMethod yX3_mayBegin, Cond.selects RX3 yX3_mayBegin yX3_mayBegin, Cond.initialized RX3, Cond.code yX3_mayBegin cX3_mayBegin 3 (some .boolean), Cond.fieldLink RX3 24 "BedHouse$Text" "downTold" "Z", Cond.fieldLink RX3 28 "BedHouse$Text" "handsTold" "Z", Cond.methodLink RX3 34 yX3_nextToken, Cond.instanceMethod yX3_nextToken, Cond.selects RX3 yX3_nextToken yX3_nextToken, Cond.code yX3_nextToken cX3_nextToken 2 none, Cond.fieldLink RX3 31 "BedHouse$Text" "at" "I", Cond.fieldLink RX3 15 "BedHouse$Text" "length" "I", Cond.fieldLink RX3 44 "BedHouse$Text" "tokenStart" "I", Cond.methodLink RX3 108 yX3_byteAt, Cond.instanceMethod yX3_byteAt, Cond.selects RX3 yX3_byteAt yX3_byteAt, Cond.code yX3_byteAt cX3_byteAt 2 (some .int), Cond.fieldLink RX3 11 "BedHouse$Text" "bytes" "[I", Cond.methodLink RX3 112 yX3_isLetter, Cond.static yX3_isLetter, Cond.code yX3_isLetter cX3_isLetter 1 (some .boolean)]
def wsX3_tellItem_r2 : List Cond := [Cond.methodLink RX3 115 yX3_readWord, Cond.instanceMethod yX3_readWord, Cond.selects RX3 yX3_readWord yX3_readWord, Cond.code yX3_readWord cX3_readWord 2 none, Cond.methodLink RX3 124 yX3_spelling, Cond.static yX3_spelling, Cond.code yX3_spelling cX3_spelling 1 (some (.object "java/lang/String")), Cond.methodLink RX3 128 yX3_isSpelled, Cond.instanceMethod yX3_isSpelled, Cond.selects RX3 yX3_isSpelled yX3_isSpelled, Cond.code yX3_isSpelled cX3_isSpelled 3 (some .boolean), Cond.methodLink RX3 132 yJ0_length_8abf5, Cond.instanceMethod yJ0_length_8abf5, Cond.selects RJ0 yJ0_length_8abf5 yJ0_length_8abf5, Cond.initialized RJ0, Cond.code yJ0_length_8abf5 cJ0_length_8abf5 1 (some .int), Cond.fieldLink RJ0 9 "java/lang/String" "value" "[B", Cond.methodLink RJ0 335 yJ0_coder_7d493, Cond.instanceMethod yJ0_coder_7d493, Cond.selects RJ0 yJ0_coder_7d493 yJ0_coder_7d493, Cond.code yJ0_coder_7d493 cJ0_coder_7d493 1 (some .byte), Cond.fieldLink RJ0 38 "java/lang/String" "COMPACT_STRINGS" "Z", Cond.fieldLink RJ0 15 "java/lang/String" "coder" "B", Cond.methodLink RX3 137 yJ0_charAt_5068e]
def wsX3_tellItem_r3 : List Cond := [Cond.instanceMethod yJ0_charAt_5068e, Cond.selects RJ0 yJ0_charAt_5068e yJ0_charAt_5068e, Cond.code yJ0_charAt_5068e cJ0_charAt_5068e 2 (some .char), Cond.methodLink RJ0 492 yJ0_isLatin1_aae02, Cond.instanceMethod yJ0_isLatin1_aae02, Cond.selects RJ0 yJ0_isLatin1_aae02 yJ0_isLatin1_aae02, Cond.code yJ0_isLatin1_aae02 cJ0_isLatin1_aae02 1 (some .boolean), Cond.methodLink RJ0 495 yJ1_charAt_3b067, Cond.static yJ1_charAt_3b067, Cond.initialized RJ1, Cond.code yJ1_charAt_3b067 cJ1_charAt_3b067 2 (some .char), Cond.methodLink RJ1 9 yJ0_checkIndex_df160, Cond.static yJ0_checkIndex_df160, Cond.code yJ0_checkIndex_df160 cJ0_checkIndex_df160 2 none, Cond.fieldLink RJ0 1053 "jdk/internal/util/Preconditions" "SIOOBE_FORMATTER" "Ljava/util/function/BiFunction;", Cond.methodLink RJ0 1059 yJ3_checkIndex_8e157, Cond.static yJ3_checkIndex_8e157, Cond.initialized RJ3, Cond.code yJ3_checkIndex_8e157 cJ3_checkIndex_8e157 3 (some .int), Cond.methodLink RJ0 498 yJ2_charAt_3b067, Cond.static yJ2_charAt_3b067, Cond.initialized RJ2, Cond.code yJ2_charAt_3b067 cJ2_charAt_3b067 2 (some .char), Cond.methodLink RJ2 67 yJ2_checkIndex_2214a]
def wsX3_tellItem_r4 : List Cond := [Cond.static yJ2_checkIndex_2214a, Cond.code yJ2_checkIndex_2214a cJ2_checkIndex_2214a 2 none, Cond.methodLink RJ2 48 yJ2_length_9d52b, Cond.static yJ2_length_9d52b, Cond.code yJ2_length_9d52b cJ2_length_9d52b 1 (some .int), Cond.methodLink RJ2 414 yJ0_checkIndex_df160, Cond.methodLink RJ2 71 yJ2_getChar_3b067, Cond.static yJ2_getChar_3b067, Cond.code yJ2_getChar_3b067 cJ2_getChar_3b067 2 (some .char), Cond.fieldLink RJ2 44 "java/lang/StringUTF16" "$assertionsDisabled" "Z", Cond.fieldLink RJ2 59 "java/lang/StringUTF16" "HI_BYTE_SHIFT" "I", Cond.fieldLink RJ2 63 "java/lang/StringUTF16" "LO_BYTE_SHIFT" "I", Cond.methodLink RX3 118 yX3_isDigit, Cond.static yX3_isDigit, Cond.code yX3_isDigit cX3_isDigit 1 (some .boolean), Cond.methodLink RX3 121 yX3_readNumber, Cond.instanceMethod yX3_readNumber, Cond.selects RX3 yX3_readNumber yX3_readNumber, Cond.code yX3_readNumber cX3_readNumber 2 none, Cond.methodLink RX3 141 Lib.Math.min.name, Cond.static Lib.Math.min.name, Cond.initialized "java/lang/Math", Cond.code Lib.Math.min.name Lib.Math.min.code 2 (some .int), Cond.methodLink RX3 54 yX3_mayBeFirst]
def wsX3_tellItem_r5 : List Cond := [Cond.static yX3_mayBeFirst, Cond.code yX3_mayBeFirst cX3_mayBeFirst 3 (some .boolean), Cond.static yX4_isSlot, Cond.initialized RX4, Cond.code yX4_isSlot cX4_isSlot 1 (some .boolean), Cond.instanceMethod yX1_panelAt, Cond.initialized RX1, Cond.selects RX1 yX1_panelAt yX1_panelAt, Cond.code yX1_panelAt cX1_panelAt 4 (some .int), Cond.fieldLink RX1 21 "BedHouse$Plan" "panels" "I", Cond.static yX4_placeIn, Cond.code yX4_placeIn cX4_placeIn 2 (some .int), Cond.methodLink RX3 58 yX3_apply, Cond.instanceMethod yX3_apply, Cond.selects RX3 yX3_apply yX3_apply, Cond.code yX3_apply cX3_apply 5 none, Cond.methodLink RX3 85 yX3_slotsFrom, Cond.static yX3_slotsFrom, Cond.code yX3_slotsFrom cX3_slotsFrom 4 (some .int), Cond.instanceMethod yX1_addBeam, Cond.selects RX1 yX1_addBeam yX1_addBeam, Cond.code yX1_addBeam cX1_addBeam 2 none, Cond.fieldLink RX1 28 "BedHouse$Plan" "beams" "I", Cond.fieldLink RX1 15 "BedHouse$Plan" "beamSlots" "[I"]
def wsX3_tellItem_r6 : List Cond := [Cond.instanceMethod yX1_addPanel, Cond.selects RX1 yX1_addPanel yX1_addPanel, Cond.code yX1_addPanel cX1_addPanel 3 none, Cond.fieldLink RX1 9 "BedHouse$Plan" "sorts" "[I", Cond.fieldLink RX1 25 "BedHouse$Plan" "toldHouse" "I", Cond.static yX4_unitOf, Cond.code yX4_unitOf cX4_unitOf 1 (some .int)]
def wsX3_tellItem : List Cond := .code yX3_tellItem cX3_tellItem 5 (some .boolean) :: ((wsX3_tellItem_r1 ++ (wsX3_tellItem_r2 ++ (wsX3_tellItem_r3 ++ (wsX3_tellItem_r4 ++ (wsX3_tellItem_r5 ++ wsX3_tellItem_r6))))) ++ wsX30 ++ wsX10)
def wsX3_tell_r1 : List Cond := [Cond.fieldLink RX3 24 "BedHouse$Text" "downTold" "Z", Cond.fieldLink RX3 28 "BedHouse$Text" "handsTold" "Z", Cond.fieldLink RX3 31 "BedHouse$Text" "at" "I", Cond.fieldLink RX3 37 "BedHouse$Text" "token" "I", Cond.fieldLink RX3 44 "BedHouse$Text" "tokenStart" "I", Cond.instanceMethod yX1_startAnew, Cond.initialized RX1, Cond.selects RX1 yX1_startAnew yX1_startAnew, Cond.code yX1_startAnew cX1_startAnew 1 none, Cond.fieldLink RX1 21 "BedHouse$Plan" "panels" "I", Cond.fieldLink RX1 25 "BedHouse$Plan" "toldHouse" "I", Cond.fieldLink RX1 28 "BedHouse$Plan" "beams" "I", Cond.fieldLink RX1 31 "BedHouse$Plan" "rain" "I", Cond.fieldLink RX1 34 "BedHouse$Plan" "sun" "I", Cond.fieldLink RX1 37 "BedHouse$Plan" "view" "I", Cond.fieldLink RX1 40 "BedHouse$Plan" "noise" "I", Cond.fieldLink RX1 43 "BedHouse$Plan" "mostLying" "I", Cond.fieldLink RX1 46 "BedHouse$Plan" "hands" "I", Cond.methodLink RX3 34 yX3_nextToken, Cond.instanceMethod yX3_nextToken, Cond.selects RX3 yX3_nextToken yX3_nextToken, Cond.initialized RX3, Cond.code yX3_nextToken cX3_nextToken 2 none, Cond.fieldLink RX3 15 "BedHouse$Text" "length" "I"]
def wsX3_tell_r2 : List Cond := [Cond.methodLink RX3 108 yX3_byteAt, Cond.instanceMethod yX3_byteAt, Cond.selects RX3 yX3_byteAt yX3_byteAt, Cond.code yX3_byteAt cX3_byteAt 2 (some .int), Cond.fieldLink RX3 11 "BedHouse$Text" "bytes" "[I", Cond.methodLink RX3 112 yX3_isLetter, Cond.static yX3_isLetter, Cond.code yX3_isLetter cX3_isLetter 1 (some .boolean), Cond.methodLink RX3 115 yX3_readWord, Cond.instanceMethod yX3_readWord, Cond.selects RX3 yX3_readWord yX3_readWord, Cond.code yX3_readWord cX3_readWord 2 none, Cond.fieldLink RX3 47 "BedHouse$Text" "value" "I", Cond.methodLink RX3 124 yX3_spelling, Cond.static yX3_spelling, Cond.code yX3_spelling cX3_spelling 1 (some (.object "java/lang/String")), Cond.methodLink RX3 128 yX3_isSpelled, Cond.instanceMethod yX3_isSpelled, Cond.selects RX3 yX3_isSpelled yX3_isSpelled, Cond.code yX3_isSpelled cX3_isSpelled 3 (some .boolean), Cond.methodLink RX3 132 yJ0_length_8abf5, Cond.instanceMethod yJ0_length_8abf5, Cond.selects RJ0 yJ0_length_8abf5 yJ0_length_8abf5, Cond.initialized RJ0]
def wsX3_tell_r3 : List Cond := [Cond.code yJ0_length_8abf5 cJ0_length_8abf5 1 (some .int), Cond.fieldLink RJ0 9 "java/lang/String" "value" "[B", Cond.methodLink RJ0 335 yJ0_coder_7d493, Cond.instanceMethod yJ0_coder_7d493, Cond.selects RJ0 yJ0_coder_7d493 yJ0_coder_7d493, Cond.code yJ0_coder_7d493 cJ0_coder_7d493 1 (some .byte), Cond.fieldLink RJ0 38 "java/lang/String" "COMPACT_STRINGS" "Z", Cond.fieldLink RJ0 15 "java/lang/String" "coder" "B", Cond.methodLink RX3 137 yJ0_charAt_5068e, Cond.instanceMethod yJ0_charAt_5068e, Cond.selects RJ0 yJ0_charAt_5068e yJ0_charAt_5068e, Cond.code yJ0_charAt_5068e cJ0_charAt_5068e 2 (some .char), Cond.methodLink RJ0 492 yJ0_isLatin1_aae02, Cond.instanceMethod yJ0_isLatin1_aae02, Cond.selects RJ0 yJ0_isLatin1_aae02 yJ0_isLatin1_aae02, Cond.code yJ0_isLatin1_aae02 cJ0_isLatin1_aae02 1 (some .boolean), Cond.methodLink RJ0 495 yJ1_charAt_3b067, Cond.static yJ1_charAt_3b067, Cond.initialized RJ1, Cond.code yJ1_charAt_3b067 cJ1_charAt_3b067 2 (some .char), Cond.methodLink RJ1 9 yJ0_checkIndex_df160, Cond.static yJ0_checkIndex_df160, Cond.code yJ0_checkIndex_df160 cJ0_checkIndex_df160 2 none, Cond.fieldLink RJ0 1053 "jdk/internal/util/Preconditions" "SIOOBE_FORMATTER" "Ljava/util/function/BiFunction;"]
def wsX3_tell_r4 : List Cond := [Cond.methodLink RJ0 1059 yJ3_checkIndex_8e157, Cond.static yJ3_checkIndex_8e157, Cond.initialized RJ3, Cond.code yJ3_checkIndex_8e157 cJ3_checkIndex_8e157 3 (some .int), Cond.methodLink RJ0 498 yJ2_charAt_3b067, Cond.static yJ2_charAt_3b067, Cond.initialized RJ2, Cond.code yJ2_charAt_3b067 cJ2_charAt_3b067 2 (some .char), Cond.methodLink RJ2 67 yJ2_checkIndex_2214a, Cond.static yJ2_checkIndex_2214a, Cond.code yJ2_checkIndex_2214a cJ2_checkIndex_2214a 2 none, Cond.methodLink RJ2 48 yJ2_length_9d52b, Cond.static yJ2_length_9d52b, Cond.code yJ2_length_9d52b cJ2_length_9d52b 1 (some .int), Cond.methodLink RJ2 414 yJ0_checkIndex_df160, Cond.methodLink RJ2 71 yJ2_getChar_3b067, Cond.static yJ2_getChar_3b067, Cond.code yJ2_getChar_3b067 cJ2_getChar_3b067 2 (some .char), Cond.fieldLink RJ2 44 "java/lang/StringUTF16" "$assertionsDisabled" "Z", Cond.fieldLink RJ2 59 "java/lang/StringUTF16" "HI_BYTE_SHIFT" "I", Cond.fieldLink RJ2 63 "java/lang/StringUTF16" "LO_BYTE_SHIFT" "I", Cond.methodLink RX3 118 yX3_isDigit, Cond.static yX3_isDigit, Cond.code yX3_isDigit cX3_isDigit 1 (some .boolean)]
def wsX3_tell_r5 : List Cond := [Cond.methodLink RX3 121 yX3_readNumber, Cond.instanceMethod yX3_readNumber, Cond.selects RX3 yX3_readNumber yX3_readNumber, Cond.code yX3_readNumber cX3_readNumber 2 none, Cond.methodLink RX3 141 Lib.Math.min.name, Cond.static Lib.Math.min.name, Cond.initialized "java/lang/Math", Cond.code Lib.Math.min.name Lib.Math.min.code 2 (some .int), Cond.methodLink RX3 40 yX3_tellItem, Cond.instanceMethod yX3_tellItem, Cond.selects RX3 yX3_tellItem yX3_tellItem, Cond.code yX3_tellItem cX3_tellItem 5 (some .boolean), Cond.methodLink RX3 50 yX3_mayBegin, Cond.instanceMethod yX3_mayBegin, Cond.selects RX3 yX3_mayBegin yX3_mayBegin, Cond.code yX3_mayBegin cX3_mayBegin 3 (some .boolean), Cond.methodLink RX3 54 yX3_mayBeFirst, Cond.static yX3_mayBeFirst, Cond.code yX3_mayBeFirst cX3_mayBeFirst 3 (some .boolean), Cond.static yX4_isSlot, Cond.initialized RX4, Cond.code yX4_isSlot cX4_isSlot 1 (some .boolean), Cond.instanceMethod yX1_panelAt, Cond.selects RX1 yX1_panelAt yX1_panelAt]
def wsX3_tell_r6 : List Cond := [Cond.code yX1_panelAt cX1_panelAt 4 (some .int), Cond.static yX4_placeIn, Cond.code yX4_placeIn cX4_placeIn 2 (some .int), Cond.methodLink RX3 58 yX3_apply, Cond.instanceMethod yX3_apply, Cond.selects RX3 yX3_apply yX3_apply, Cond.code yX3_apply cX3_apply 5 none, Cond.methodLink RX3 85 yX3_slotsFrom, Cond.static yX3_slotsFrom, Cond.code yX3_slotsFrom cX3_slotsFrom 4 (some .int), Cond.instanceMethod yX1_addBeam, Cond.selects RX1 yX1_addBeam yX1_addBeam, Cond.code yX1_addBeam cX1_addBeam 2 none, Cond.fieldLink RX1 15 "BedHouse$Plan" "beamSlots" "[I", Cond.instanceMethod yX1_addPanel, Cond.selects RX1 yX1_addPanel yX1_addPanel, Cond.code yX1_addPanel cX1_addPanel 3 none, Cond.fieldLink RX1 9 "BedHouse$Plan" "sorts" "[I", Cond.static yX4_unitOf, Cond.code yX4_unitOf cX4_unitOf 1 (some .int)]
def wsX3_tell : List Cond := .code yX3_tell cX3_tell 4 (some .int) :: ((wsX3_tell_r1 ++ (wsX3_tell_r2 ++ (wsX3_tell_r3 ++ (wsX3_tell_r4 ++ (wsX3_tell_r5 ++ wsX3_tell_r6))))) ++ wsX30 ++ wsX10)
def wsX4_init_r1 : List Cond := [Cond.methodLink RX4 3 objectInit, Cond.instanceMethod objectInit, Cond.code objectInit ⟨#[0xb1]⟩ 1 none, Cond.classLink RX4 9 RX3, Cond.instantiable RX3 8, Cond.initialized RX3, Cond.fieldLink RX4 12 "BedHouse" "text" "LBedHouse$Text;", Cond.classLink RX4 16 RX2, Cond.instantiable RX2 5, Cond.initialized RX2, Cond.fieldLink RX4 19 "BedHouse" "search" "LBedHouse$Search;", Cond.classLink RX4 23 RX0, Cond.instantiable RX0 8, Cond.initialized RX0, Cond.fieldLink RX4 26 "BedHouse" "present" "LBedHouse$Moment;", Cond.fieldLink RX4 30 "BedHouse" "images" "[LBedHouse$Moment;", Cond.classLink RX4 34 RX1, Cond.instantiable RX1 11, Cond.initialized RX1, Cond.fieldLink RX4 37 "BedHouse" "plan" "LBedHouse$Plan;", Cond.fieldLink RX4 41 "BedHouse" "draft" "LBedHouse$Plan;", Cond.instanceMethod yX3_init, Cond.code yX3_init cX3_init 1 none, Cond.methodLink RX3 3 objectInit]
def wsX4_init_r2 : List Cond := [Cond.arrayClass .int, Cond.fieldLink RX3 11 "BedHouse$Text" "bytes" "[I", Cond.instanceMethod yX2_init, Cond.code yX2_init cX2_init 1 none, Cond.methodLink RX2 3 objectInit, Cond.arrayClass .byte, Cond.fieldLink RX2 11 "BedHouse$Search" "lawful" "[B", Cond.fieldLink RX2 15 "BedHouse$Search" "far" "[I", Cond.fieldLink RX2 19 "BedHouse$Search" "queue" "[I", Cond.instanceMethod yX0_init, Cond.code yX0_init cX0_init 1 none, Cond.methodLink RX0 1 objectInit, Cond.instanceMethod yX1_init, Cond.code yX1_init cX1_init 1 none, Cond.methodLink RX1 3 objectInit, Cond.fieldLink RX1 9 "BedHouse$Plan" "sorts" "[I", Cond.fieldLink RX1 15 "BedHouse$Plan" "beamSlots" "[I", Cond.methodLink RX1 18 yX1_startAnew, Cond.instanceMethod yX1_startAnew, Cond.selects RX1 yX1_startAnew yX1_startAnew, Cond.code yX1_startAnew cX1_startAnew 1 none, Cond.fieldLink RX1 21 "BedHouse$Plan" "panels" "I", Cond.fieldLink RX1 25 "BedHouse$Plan" "toldHouse" "I", Cond.fieldLink RX1 28 "BedHouse$Plan" "beams" "I"]
def wsX4_init_r3 : List Cond := [Cond.fieldLink RX1 31 "BedHouse$Plan" "rain" "I", Cond.fieldLink RX1 34 "BedHouse$Plan" "sun" "I", Cond.fieldLink RX1 37 "BedHouse$Plan" "view" "I", Cond.fieldLink RX1 40 "BedHouse$Plan" "noise" "I", Cond.fieldLink RX1 43 "BedHouse$Plan" "mostLying" "I", Cond.fieldLink RX1 46 "BedHouse$Plan" "hands" "I"]
def wsX4_init : List Cond := .code yX4_init cX4_init 1 none :: ((wsX4_init_r1 ++ (wsX4_init_r2 ++ wsX4_init_r3)) ++ wsX30 ++ wsX40 ++ wsX20 ++ wsX00 ++ wsX10)
def wsX4_type : List Cond := .code yX4_type cX4_type 5 (some .int) :: ([.fieldLink RX4 12 "BedHouse" "text" "LBedHouse$Text;", .instanceMethod yX3_append, .initialized RX3, .selects RX3 yX3_append yX3_append, .code yX3_append cX3_append 2 none, .fieldLink RX3 15 "BedHouse$Text" "length" "I", .fieldLink RX3 11 "BedHouse$Text" "bytes" "[I"] ++ wsX40 ++ wsX30)
def wsX4_clear : List Cond := .code yX4_clear cX4_clear 2 (some .int) :: ([.fieldLink RX4 12 "BedHouse" "text" "LBedHouse$Text;"] ++ wsX40 ++ wsX30)
def wsX4_house_r1 : List Cond := [Cond.fieldLink RX4 12 "BedHouse" "text" "LBedHouse$Text;", Cond.fieldLink RX4 41 "BedHouse" "draft" "LBedHouse$Plan;", Cond.fieldLink RX4 37 "BedHouse" "plan" "LBedHouse$Plan;", Cond.fieldLink RX4 19 "BedHouse" "search" "LBedHouse$Search;", Cond.fieldLink RX4 26 "BedHouse" "present" "LBedHouse$Moment;", Cond.fieldLink RX4 30 "BedHouse" "images" "[LBedHouse$Moment;", Cond.instanceMethod yX3_tell, Cond.initialized RX3, Cond.selects RX3 yX3_tell yX3_tell, Cond.code yX3_tell cX3_tell 4 (some .int), Cond.fieldLink RX3 24 "BedHouse$Text" "downTold" "Z", Cond.fieldLink RX3 28 "BedHouse$Text" "handsTold" "Z", Cond.fieldLink RX3 31 "BedHouse$Text" "at" "I", Cond.fieldLink RX3 37 "BedHouse$Text" "token" "I", Cond.fieldLink RX3 44 "BedHouse$Text" "tokenStart" "I", Cond.instanceMethod yX1_startAnew, Cond.initialized RX1, Cond.selects RX1 yX1_startAnew yX1_startAnew, Cond.code yX1_startAnew cX1_startAnew 1 none, Cond.fieldLink RX1 21 "BedHouse$Plan" "panels" "I", Cond.fieldLink RX1 25 "BedHouse$Plan" "toldHouse" "I", Cond.fieldLink RX1 28 "BedHouse$Plan" "beams" "I", Cond.fieldLink RX1 31 "BedHouse$Plan" "rain" "I", Cond.fieldLink RX1 34 "BedHouse$Plan" "sun" "I"]
def wsX4_house_r2 : List Cond := [Cond.fieldLink RX1 37 "BedHouse$Plan" "view" "I", Cond.fieldLink RX1 40 "BedHouse$Plan" "noise" "I", Cond.fieldLink RX1 43 "BedHouse$Plan" "mostLying" "I", Cond.fieldLink RX1 46 "BedHouse$Plan" "hands" "I", Cond.methodLink RX3 34 yX3_nextToken, Cond.instanceMethod yX3_nextToken, Cond.selects RX3 yX3_nextToken yX3_nextToken, Cond.code yX3_nextToken cX3_nextToken 2 none, Cond.fieldLink RX3 15 "BedHouse$Text" "length" "I", Cond.methodLink RX3 108 yX3_byteAt, Cond.instanceMethod yX3_byteAt, Cond.selects RX3 yX3_byteAt yX3_byteAt, Cond.code yX3_byteAt cX3_byteAt 2 (some .int), Cond.fieldLink RX3 11 "BedHouse$Text" "bytes" "[I", Cond.methodLink RX3 112 yX3_isLetter, Cond.static yX3_isLetter, Cond.code yX3_isLetter cX3_isLetter 1 (some .boolean), Cond.methodLink RX3 115 yX3_readWord, Cond.instanceMethod yX3_readWord, Cond.selects RX3 yX3_readWord yX3_readWord, Cond.code yX3_readWord cX3_readWord 2 none, Cond.fieldLink RX3 47 "BedHouse$Text" "value" "I", Cond.methodLink RX3 124 yX3_spelling, Cond.static yX3_spelling]
def wsX4_house_r3 : List Cond := [Cond.code yX3_spelling cX3_spelling 1 (some (.object "java/lang/String")), Cond.methodLink RX3 128 yX3_isSpelled, Cond.instanceMethod yX3_isSpelled, Cond.selects RX3 yX3_isSpelled yX3_isSpelled, Cond.code yX3_isSpelled cX3_isSpelled 3 (some .boolean), Cond.methodLink RX3 132 yJ0_length_8abf5, Cond.instanceMethod yJ0_length_8abf5, Cond.selects RJ0 yJ0_length_8abf5 yJ0_length_8abf5, Cond.initialized RJ0, Cond.code yJ0_length_8abf5 cJ0_length_8abf5 1 (some .int), Cond.fieldLink RJ0 9 "java/lang/String" "value" "[B", Cond.methodLink RJ0 335 yJ0_coder_7d493, Cond.instanceMethod yJ0_coder_7d493, Cond.selects RJ0 yJ0_coder_7d493 yJ0_coder_7d493, Cond.code yJ0_coder_7d493 cJ0_coder_7d493 1 (some .byte), Cond.fieldLink RJ0 38 "java/lang/String" "COMPACT_STRINGS" "Z", Cond.fieldLink RJ0 15 "java/lang/String" "coder" "B", Cond.methodLink RX3 137 yJ0_charAt_5068e, Cond.instanceMethod yJ0_charAt_5068e, Cond.selects RJ0 yJ0_charAt_5068e yJ0_charAt_5068e, Cond.code yJ0_charAt_5068e cJ0_charAt_5068e 2 (some .char), Cond.methodLink RJ0 492 yJ0_isLatin1_aae02, Cond.instanceMethod yJ0_isLatin1_aae02, Cond.selects RJ0 yJ0_isLatin1_aae02 yJ0_isLatin1_aae02]
def wsX4_house_r4 : List Cond := [Cond.code yJ0_isLatin1_aae02 cJ0_isLatin1_aae02 1 (some .boolean), Cond.methodLink RJ0 495 yJ1_charAt_3b067, Cond.static yJ1_charAt_3b067, Cond.initialized RJ1, Cond.code yJ1_charAt_3b067 cJ1_charAt_3b067 2 (some .char), Cond.methodLink RJ1 9 yJ0_checkIndex_df160, Cond.static yJ0_checkIndex_df160, Cond.code yJ0_checkIndex_df160 cJ0_checkIndex_df160 2 none, Cond.fieldLink RJ0 1053 "jdk/internal/util/Preconditions" "SIOOBE_FORMATTER" "Ljava/util/function/BiFunction;", Cond.methodLink RJ0 1059 yJ3_checkIndex_8e157, Cond.static yJ3_checkIndex_8e157, Cond.initialized RJ3, Cond.code yJ3_checkIndex_8e157 cJ3_checkIndex_8e157 3 (some .int), Cond.methodLink RJ0 498 yJ2_charAt_3b067, Cond.static yJ2_charAt_3b067, Cond.initialized RJ2, Cond.code yJ2_charAt_3b067 cJ2_charAt_3b067 2 (some .char), Cond.methodLink RJ2 67 yJ2_checkIndex_2214a, Cond.static yJ2_checkIndex_2214a, Cond.code yJ2_checkIndex_2214a cJ2_checkIndex_2214a 2 none, Cond.methodLink RJ2 48 yJ2_length_9d52b, Cond.static yJ2_length_9d52b, Cond.code yJ2_length_9d52b cJ2_length_9d52b 1 (some .int), Cond.methodLink RJ2 414 yJ0_checkIndex_df160]
def wsX4_house_r5 : List Cond := [Cond.methodLink RJ2 71 yJ2_getChar_3b067, Cond.static yJ2_getChar_3b067, Cond.code yJ2_getChar_3b067 cJ2_getChar_3b067 2 (some .char), Cond.fieldLink RJ2 44 "java/lang/StringUTF16" "$assertionsDisabled" "Z", Cond.fieldLink RJ2 59 "java/lang/StringUTF16" "HI_BYTE_SHIFT" "I", Cond.fieldLink RJ2 63 "java/lang/StringUTF16" "LO_BYTE_SHIFT" "I", Cond.methodLink RX3 118 yX3_isDigit, Cond.static yX3_isDigit, Cond.code yX3_isDigit cX3_isDigit 1 (some .boolean), Cond.methodLink RX3 121 yX3_readNumber, Cond.instanceMethod yX3_readNumber, Cond.selects RX3 yX3_readNumber yX3_readNumber, Cond.code yX3_readNumber cX3_readNumber 2 none, Cond.methodLink RX3 141 Lib.Math.min.name, Cond.static Lib.Math.min.name, Cond.initialized "java/lang/Math", Cond.code Lib.Math.min.name Lib.Math.min.code 2 (some .int), Cond.methodLink RX3 40 yX3_tellItem, Cond.instanceMethod yX3_tellItem, Cond.selects RX3 yX3_tellItem yX3_tellItem, Cond.code yX3_tellItem cX3_tellItem 5 (some .boolean), Cond.methodLink RX3 50 yX3_mayBegin, Cond.instanceMethod yX3_mayBegin, Cond.selects RX3 yX3_mayBegin yX3_mayBegin]
def wsX4_house_r6 : List Cond := [Cond.code yX3_mayBegin cX3_mayBegin 3 (some .boolean), Cond.methodLink RX3 54 yX3_mayBeFirst, Cond.static yX3_mayBeFirst, Cond.code yX3_mayBeFirst cX3_mayBeFirst 3 (some .boolean), Cond.static yX4_isSlot, Cond.initialized RX4, Cond.code yX4_isSlot cX4_isSlot 1 (some .boolean), Cond.instanceMethod yX1_panelAt, Cond.selects RX1 yX1_panelAt yX1_panelAt, Cond.code yX1_panelAt cX1_panelAt 4 (some .int), Cond.static yX4_placeIn, Cond.code yX4_placeIn cX4_placeIn 2 (some .int), Cond.methodLink RX3 58 yX3_apply, Cond.instanceMethod yX3_apply, Cond.selects RX3 yX3_apply yX3_apply, Cond.code yX3_apply cX3_apply 5 none, Cond.methodLink RX3 85 yX3_slotsFrom, Cond.static yX3_slotsFrom, Cond.code yX3_slotsFrom cX3_slotsFrom 4 (some .int), Cond.instanceMethod yX1_addBeam, Cond.selects RX1 yX1_addBeam yX1_addBeam, Cond.code yX1_addBeam cX1_addBeam 2 none, Cond.fieldLink RX1 15 "BedHouse$Plan" "beamSlots" "[I", Cond.instanceMethod yX1_addPanel]
def wsX4_house_r7 : List Cond := [Cond.selects RX1 yX1_addPanel yX1_addPanel, Cond.code yX1_addPanel cX1_addPanel 3 none, Cond.fieldLink RX1 9 "BedHouse$Plan" "sorts" "[I", Cond.static yX4_unitOf, Cond.code yX4_unitOf cX4_unitOf 1 (some .int), Cond.instanceMethod yX0_begin, Cond.initialized RX0, Cond.selects RX0 yX0_begin yX0_begin, Cond.code yX0_begin cX0_begin 2 none, Cond.fieldLink RX0 7 "BedHouse$Moment" "home" "I", Cond.fieldLink RX0 13 "BedHouse$Moment" "day" "I", Cond.fieldLink RX0 16 "BedHouse$Moment" "acts" "I", Cond.fieldLink RX0 19 "BedHouse$Moment" "leaks" "I", Cond.fieldLink RX0 22 "BedHouse$Moment" "clues" "I", Cond.fieldLink RX0 25 "BedHouse$Moment" "litHours" "I", Cond.fieldLink RX0 28 "BedHouse$Moment" "darkHours" "I"]
def wsX4_house : List Cond := .code yX4_house cX4_house 4 (some .int) :: ((wsX4_house_r1 ++ (wsX4_house_r2 ++ (wsX4_house_r3 ++ (wsX4_house_r4 ++ (wsX4_house_r5 ++ (wsX4_house_r6 ++ wsX4_house_r7)))))) ++ wsX40 ++ wsX30 ++ wsX20 ++ wsX10 ++ wsX00)
def wsX4_panel : List Cond := .code yX4_panel cX4_panel 3 (some .int) :: ([.fieldLink RX4 37 "BedHouse" "plan" "LBedHouse$Plan;", .fieldLink RX4 26 "BedHouse" "present" "LBedHouse$Moment;", .instanceMethod yX1_hasPanel, .initialized RX1, .selects RX1 yX1_hasPanel yX1_hasPanel, .code yX1_hasPanel cX1_hasPanel 2 (some .boolean), .fieldLink RX1 21 "BedHouse$Plan" "panels" "I", .fieldLink RX1 9 "BedHouse$Plan" "sorts" "[I", .instanceMethod yX1_sortOf, .selects RX1 yX1_sortOf yX1_sortOf, .code yX1_sortOf cX1_sortOf 2 (some .int), .methodLink RX1 53 yX1_hasPanel, .methodLink RX4 80 yX4_placeIn, .static yX4_placeIn, .initialized RX4, .code yX4_placeIn cX4_placeIn 2 (some .int)] ++ wsX40 ++ wsX00 ++ wsX10)
def wsX4_slot : List Cond := .code yX4_slot cX4_slot 3 (some .int) :: ([.fieldLink RX4 37 "BedHouse" "plan" "LBedHouse$Plan;", .fieldLink RX4 26 "BedHouse" "present" "LBedHouse$Moment;", .methodLink RX4 84 yX4_isSlot, .static yX4_isSlot, .initialized RX4, .code yX4_isSlot cX4_isSlot 1 (some .boolean), .instanceMethod yX1_panelAt, .initialized RX1, .selects RX1 yX1_panelAt yX1_panelAt, .code yX1_panelAt cX1_panelAt 4 (some .int), .fieldLink RX1 21 "BedHouse$Plan" "panels" "I", .static yX4_placeIn, .code yX4_placeIn cX4_placeIn 2 (some .int)] ++ wsX40 ++ wsX00 ++ wsX10)
def wsX4_told : List Cond := .code yX4_told cX4_told 2 (some .int) :: ([.fieldLink RX4 37 "BedHouse" "plan" "LBedHouse$Plan;"] ++ wsX40 ++ wsX10)
def wsX4_asNumber : List Cond := .code yX4_asNumber cX4_asNumber 1 (some .int) :: ([])
def wsX4_beam : List Cond := .code yX4_beam cX4_beam 2 (some .int) :: ([.fieldLink RX4 37 "BedHouse" "plan" "LBedHouse$Plan;", .fieldLink RX4 26 "BedHouse" "present" "LBedHouse$Moment;", .instanceMethod yX1_hasBeam, .initialized RX1, .selects RX1 yX1_hasBeam yX1_hasBeam, .code yX1_hasBeam cX1_hasBeam 2 (some .boolean), .fieldLink RX1 28 "BedHouse$Plan" "beams" "I", .fieldLink RX1 15 "BedHouse$Plan" "beamSlots" "[I", .instanceMethod yX1_isBorne, .selects RX1 yX1_isBorne yX1_isBorne, .code yX1_isBorne cX1_isBorne 3 (some .boolean), .methodLink RX1 61 yX1_hasBeam, .methodLink RX1 64 yX1_slotsUnder, .instanceMethod yX1_slotsUnder, .selects RX1 yX1_slotsUnder yX1_slotsUnder, .code yX1_slotsUnder cX1_slotsUnder 6 (some .int), .fieldLink RX1 21 "BedHouse$Plan" "panels" "I", .fieldLink RX1 9 "BedHouse$Plan" "sorts" "[I", .static yX4_placeIn, .initialized RX4, .code yX4_placeIn cX4_placeIn 2 (some .int), .methodLink RX4 115 yX4_asNumber, .static yX4_asNumber, .code yX4_asNumber cX4_asNumber 1 (some .int)] ++ wsX40 ++ wsX00 ++ wsX10)
def wsX4_act_r1 : List Cond := [Cond.fieldLink RX4 26 "BedHouse" "present" "LBedHouse$Moment;", Cond.fieldLink RX4 37 "BedHouse" "plan" "LBedHouse$Plan;", Cond.methodLink RX4 214 yX4_moved, Cond.static yX4_moved, Cond.initialized RX4, Cond.code yX4_moved cX4_moved 3 (some .int), Cond.methodLink RX4 80 yX4_placeIn, Cond.static yX4_placeIn, Cond.code yX4_placeIn cX4_placeIn 2 (some .int), Cond.methodLink RX4 228 yX4_unitOf, Cond.static yX4_unitOf, Cond.code yX4_unitOf cX4_unitOf 1 (some .int), Cond.instanceMethod yX1_allows, Cond.initialized RX1, Cond.selects RX1 yX1_allows yX1_allows, Cond.code yX1_allows cX1_allows 4 (some .boolean), Cond.fieldLink RX1 43 "BedHouse$Plan" "mostLying" "I", Cond.fieldLink RX1 21 "BedHouse$Plan" "panels" "I", Cond.fieldLink RX1 28 "BedHouse$Plan" "beams" "I", Cond.methodLink RX1 67 yX1_lyingIn, Cond.instanceMethod yX1_lyingIn, Cond.selects RX1 yX1_lyingIn yX1_lyingIn, Cond.code yX1_lyingIn cX1_lyingIn 4 (some .int), Cond.methodLink RX1 64 yX1_slotsUnder]
def wsX4_act_r2 : List Cond := [Cond.instanceMethod yX1_slotsUnder, Cond.selects RX1 yX1_slotsUnder yX1_slotsUnder, Cond.code yX1_slotsUnder cX1_slotsUnder 6 (some .int), Cond.fieldLink RX1 9 "BedHouse$Plan" "sorts" "[I", Cond.methodLink RX1 70 yJ6_bitCount_0f7a4, Cond.static yJ6_bitCount_0f7a4, Cond.initialized RJ6, Cond.code yJ6_bitCount_0f7a4 cJ6_bitCount_0f7a4 1 (some .int), Cond.constant RJ6 265 (1431655765), Cond.constant RJ6 266 (858993459), Cond.constant RJ6 267 (252645135), Cond.methodLink RX1 75 yX1_isBorne, Cond.instanceMethod yX1_isBorne, Cond.selects RX1 yX1_isBorne yX1_isBorne, Cond.code yX1_isBorne cX1_isBorne 3 (some .boolean), Cond.fieldLink RX1 15 "BedHouse$Plan" "beamSlots" "[I", Cond.methodLink RX1 61 yX1_hasBeam, Cond.instanceMethod yX1_hasBeam, Cond.selects RX1 yX1_hasBeam yX1_hasBeam, Cond.code yX1_hasBeam cX1_hasBeam 2 (some .boolean)]
def wsX4_act : List Cond := .code yX4_act cX4_act 4 (some .int) :: ((wsX4_act_r1 ++ wsX4_act_r2) ++ wsX40 ++ wsX00 ++ wsX10)
def wsX4_down_r1 : List Cond := [Cond.fieldLink RX4 37 "BedHouse" "plan" "LBedHouse$Plan;", Cond.fieldLink RX4 26 "BedHouse" "present" "LBedHouse$Moment;", Cond.instanceMethod yX1_hasPanel, Cond.initialized RX1, Cond.selects RX1 yX1_hasPanel yX1_hasPanel, Cond.code yX1_hasPanel cX1_hasPanel 2 (some .boolean), Cond.fieldLink RX1 21 "BedHouse$Plan" "panels" "I", Cond.fieldLink RX1 9 "BedHouse$Plan" "sorts" "[I", Cond.methodLink RX4 80 yX4_placeIn, Cond.static yX4_placeIn, Cond.initialized RX4, Cond.code yX4_placeIn cX4_placeIn 2 (some .int), Cond.methodLink RX4 119 yX4_act, Cond.instanceMethod yX4_act, Cond.selects RX4 yX4_act yX4_act, Cond.code yX4_act cX4_act 4 (some .int), Cond.methodLink RX4 214 yX4_moved, Cond.static yX4_moved, Cond.code yX4_moved cX4_moved 3 (some .int), Cond.methodLink RX4 228 yX4_unitOf, Cond.static yX4_unitOf, Cond.code yX4_unitOf cX4_unitOf 1 (some .int), Cond.instanceMethod yX1_allows, Cond.selects RX1 yX1_allows yX1_allows]
def wsX4_down_r2 : List Cond := [Cond.code yX1_allows cX1_allows 4 (some .boolean), Cond.fieldLink RX1 43 "BedHouse$Plan" "mostLying" "I", Cond.fieldLink RX1 28 "BedHouse$Plan" "beams" "I", Cond.methodLink RX1 67 yX1_lyingIn, Cond.instanceMethod yX1_lyingIn, Cond.selects RX1 yX1_lyingIn yX1_lyingIn, Cond.code yX1_lyingIn cX1_lyingIn 4 (some .int), Cond.methodLink RX1 64 yX1_slotsUnder, Cond.instanceMethod yX1_slotsUnder, Cond.selects RX1 yX1_slotsUnder yX1_slotsUnder, Cond.code yX1_slotsUnder cX1_slotsUnder 6 (some .int), Cond.methodLink RX1 70 yJ6_bitCount_0f7a4, Cond.static yJ6_bitCount_0f7a4, Cond.initialized RJ6, Cond.code yJ6_bitCount_0f7a4 cJ6_bitCount_0f7a4 1 (some .int), Cond.constant RJ6 265 (1431655765), Cond.constant RJ6 266 (858993459), Cond.constant RJ6 267 (252645135), Cond.methodLink RX1 75 yX1_isBorne, Cond.instanceMethod yX1_isBorne, Cond.selects RX1 yX1_isBorne yX1_isBorne, Cond.code yX1_isBorne cX1_isBorne 3 (some .boolean), Cond.fieldLink RX1 15 "BedHouse$Plan" "beamSlots" "[I", Cond.methodLink RX1 61 yX1_hasBeam]
def wsX4_down_r3 : List Cond := [Cond.instanceMethod yX1_hasBeam, Cond.selects RX1 yX1_hasBeam yX1_hasBeam, Cond.code yX1_hasBeam cX1_hasBeam 2 (some .boolean)]
def wsX4_down : List Cond := .code yX4_down cX4_down 2 (some .int) :: ((wsX4_down_r1 ++ (wsX4_down_r2 ++ wsX4_down_r3)) ++ wsX40 ++ wsX00 ++ wsX10)
def wsX4_up_r1 : List Cond := [Cond.fieldLink RX4 37 "BedHouse" "plan" "LBedHouse$Plan;", Cond.fieldLink RX4 26 "BedHouse" "present" "LBedHouse$Moment;", Cond.instanceMethod yX1_hasPanel, Cond.initialized RX1, Cond.selects RX1 yX1_hasPanel yX1_hasPanel, Cond.code yX1_hasPanel cX1_hasPanel 2 (some .boolean), Cond.fieldLink RX1 21 "BedHouse$Plan" "panels" "I", Cond.fieldLink RX1 9 "BedHouse$Plan" "sorts" "[I", Cond.methodLink RX4 84 yX4_isSlot, Cond.static yX4_isSlot, Cond.initialized RX4, Cond.code yX4_isSlot cX4_isSlot 1 (some .boolean), Cond.methodLink RX4 80 yX4_placeIn, Cond.static yX4_placeIn, Cond.code yX4_placeIn cX4_placeIn 2 (some .int), Cond.instanceMethod yX1_panelAt, Cond.selects RX1 yX1_panelAt yX1_panelAt, Cond.code yX1_panelAt cX1_panelAt 4 (some .int), Cond.methodLink RX4 119 yX4_act, Cond.instanceMethod yX4_act, Cond.selects RX4 yX4_act yX4_act, Cond.code yX4_act cX4_act 4 (some .int), Cond.methodLink RX4 214 yX4_moved, Cond.static yX4_moved]
def wsX4_up_r2 : List Cond := [Cond.code yX4_moved cX4_moved 3 (some .int), Cond.methodLink RX4 228 yX4_unitOf, Cond.static yX4_unitOf, Cond.code yX4_unitOf cX4_unitOf 1 (some .int), Cond.instanceMethod yX1_allows, Cond.selects RX1 yX1_allows yX1_allows, Cond.code yX1_allows cX1_allows 4 (some .boolean), Cond.fieldLink RX1 43 "BedHouse$Plan" "mostLying" "I", Cond.fieldLink RX1 28 "BedHouse$Plan" "beams" "I", Cond.methodLink RX1 67 yX1_lyingIn, Cond.instanceMethod yX1_lyingIn, Cond.selects RX1 yX1_lyingIn yX1_lyingIn, Cond.code yX1_lyingIn cX1_lyingIn 4 (some .int), Cond.methodLink RX1 64 yX1_slotsUnder, Cond.instanceMethod yX1_slotsUnder, Cond.selects RX1 yX1_slotsUnder yX1_slotsUnder, Cond.code yX1_slotsUnder cX1_slotsUnder 6 (some .int), Cond.methodLink RX1 70 yJ6_bitCount_0f7a4, Cond.static yJ6_bitCount_0f7a4, Cond.initialized RJ6, Cond.code yJ6_bitCount_0f7a4 cJ6_bitCount_0f7a4 1 (some .int), Cond.constant RJ6 265 (1431655765), Cond.constant RJ6 266 (858993459), Cond.constant RJ6 267 (252645135)]
def wsX4_up_r3 : List Cond := [Cond.methodLink RX1 75 yX1_isBorne, Cond.instanceMethod yX1_isBorne, Cond.selects RX1 yX1_isBorne yX1_isBorne, Cond.code yX1_isBorne cX1_isBorne 3 (some .boolean), Cond.fieldLink RX1 15 "BedHouse$Plan" "beamSlots" "[I", Cond.methodLink RX1 61 yX1_hasBeam, Cond.instanceMethod yX1_hasBeam, Cond.selects RX1 yX1_hasBeam yX1_hasBeam, Cond.code yX1_hasBeam cX1_hasBeam 2 (some .boolean)]
def wsX4_up : List Cond := .code yX4_up cX4_up 3 (some .int) :: ((wsX4_up_r1 ++ (wsX4_up_r2 ++ wsX4_up_r3)) ++ wsX40 ++ wsX00 ++ wsX10)
def wsX4_night : List Cond := .code yX4_night cX4_night 2 (some .int) :: ([.fieldLink RX4 26 "BedHouse" "present" "LBedHouse$Moment;", .fieldLink RX4 37 "BedHouse" "plan" "LBedHouse$Plan;", .instanceMethod yX1_leaksOf, .initialized RX1, .selects RX1 yX1_leaksOf yX1_leaksOf, .code yX1_leaksOf cX1_leaksOf 2 (some .int), .fieldLink RX1 31 "BedHouse$Plan" "rain" "I", .methodLink RX1 64 yX1_slotsUnder, .instanceMethod yX1_slotsUnder, .selects RX1 yX1_slotsUnder yX1_slotsUnder, .code yX1_slotsUnder cX1_slotsUnder 6 (some .int), .fieldLink RX1 21 "BedHouse$Plan" "panels" "I", .fieldLink RX1 9 "BedHouse$Plan" "sorts" "[I", .static yX4_placeIn, .initialized RX4, .code yX4_placeIn cX4_placeIn 2 (some .int), .methodLink RX1 70 yJ6_bitCount_0f7a4, .static yJ6_bitCount_0f7a4, .initialized RJ6, .code yJ6_bitCount_0f7a4 cJ6_bitCount_0f7a4 1 (some .int), .constant RJ6 265 (1431655765), .constant RJ6 266 (858993459), .constant RJ6 267 (252645135)] ++ wsX40 ++ wsX00 ++ wsX10)
def wsX4_now_r1 : List Cond := [Cond.fieldLink RX4 26 "BedHouse" "present" "LBedHouse$Moment;", Cond.fieldLink RX4 37 "BedHouse" "plan" "LBedHouse$Plan;", Cond.constant RX4 140 (-1000000), Cond.instanceMethod yX1_worthOf, Cond.initialized RX1, Cond.selects RX1 yX1_worthOf yX1_worthOf, Cond.code yX1_worthOf cX1_worthOf 3 (some .int), Cond.fieldLink RX1 37 "BedHouse$Plan" "view" "I", Cond.fieldLink RX1 40 "BedHouse$Plan" "noise" "I", Cond.methodLink RX1 79 yX1_litHours, Cond.instanceMethod yX1_litHours, Cond.selects RX1 yX1_litHours yX1_litHours, Cond.code yX1_litHours cX1_litHours 2 (some .int), Cond.fieldLink RX1 34 "BedHouse$Plan" "sun" "I", Cond.methodLink RX1 64 yX1_slotsUnder, Cond.instanceMethod yX1_slotsUnder, Cond.selects RX1 yX1_slotsUnder yX1_slotsUnder, Cond.code yX1_slotsUnder cX1_slotsUnder 6 (some .int), Cond.fieldLink RX1 21 "BedHouse$Plan" "panels" "I", Cond.fieldLink RX1 9 "BedHouse$Plan" "sorts" "[I", Cond.static yX4_placeIn, Cond.initialized RX4, Cond.code yX4_placeIn cX4_placeIn 2 (some .int), Cond.methodLink RX1 70 yJ6_bitCount_0f7a4]
def wsX4_now_r2 : List Cond := [Cond.static yJ6_bitCount_0f7a4, Cond.initialized RJ6, Cond.code yJ6_bitCount_0f7a4 cJ6_bitCount_0f7a4 1 (some .int), Cond.constant RJ6 265 (1431655765), Cond.constant RJ6 266 (858993459), Cond.constant RJ6 267 (252645135), Cond.methodLink RX1 82 yX1_leaksOf, Cond.instanceMethod yX1_leaksOf, Cond.selects RX1 yX1_leaksOf yX1_leaksOf, Cond.code yX1_leaksOf cX1_leaksOf 2 (some .int), Cond.fieldLink RX1 31 "BedHouse$Plan" "rain" "I", Cond.methodLink RX1 85 yX1_quietIn, Cond.instanceMethod yX1_quietIn, Cond.selects RX1 yX1_quietIn yX1_quietIn, Cond.code yX1_quietIn cX1_quietIn 2 (some .int), Cond.instanceMethod yX1_allows, Cond.selects RX1 yX1_allows yX1_allows, Cond.code yX1_allows cX1_allows 4 (some .boolean), Cond.fieldLink RX1 43 "BedHouse$Plan" "mostLying" "I", Cond.fieldLink RX1 28 "BedHouse$Plan" "beams" "I", Cond.methodLink RX1 67 yX1_lyingIn, Cond.instanceMethod yX1_lyingIn, Cond.selects RX1 yX1_lyingIn yX1_lyingIn, Cond.code yX1_lyingIn cX1_lyingIn 4 (some .int)]
def wsX4_now_r3 : List Cond := [Cond.methodLink RX1 75 yX1_isBorne, Cond.instanceMethod yX1_isBorne, Cond.selects RX1 yX1_isBorne yX1_isBorne, Cond.code yX1_isBorne cX1_isBorne 3 (some .boolean), Cond.fieldLink RX1 15 "BedHouse$Plan" "beamSlots" "[I", Cond.methodLink RX1 61 yX1_hasBeam, Cond.instanceMethod yX1_hasBeam, Cond.selects RX1 yX1_hasBeam yX1_hasBeam, Cond.code yX1_hasBeam cX1_hasBeam 2 (some .boolean), Cond.methodLink RX4 115 yX4_asNumber, Cond.static yX4_asNumber, Cond.code yX4_asNumber cX4_asNumber 1 (some .int)]
def wsX4_now : List Cond := .code yX4_now cX4_now 2 (some .int) :: ((wsX4_now_r1 ++ (wsX4_now_r2 ++ wsX4_now_r3)) ++ wsX40 ++ wsX00 ++ wsX10)
def wsX4_lit : List Cond := .code yX4_lit cX4_lit 2 (some .int) :: ([.fieldLink RX4 37 "BedHouse" "plan" "LBedHouse$Plan;", .fieldLink RX4 26 "BedHouse" "present" "LBedHouse$Moment;", .methodLink RX4 84 yX4_isSlot, .static yX4_isSlot, .initialized RX4, .code yX4_isSlot cX4_isSlot 1 (some .boolean), .instanceMethod yX1_litHours, .initialized RX1, .selects RX1 yX1_litHours yX1_litHours, .code yX1_litHours cX1_litHours 2 (some .int), .fieldLink RX1 34 "BedHouse$Plan" "sun" "I", .methodLink RX1 64 yX1_slotsUnder, .instanceMethod yX1_slotsUnder, .selects RX1 yX1_slotsUnder yX1_slotsUnder, .code yX1_slotsUnder cX1_slotsUnder 6 (some .int), .fieldLink RX1 21 "BedHouse$Plan" "panels" "I", .fieldLink RX1 9 "BedHouse$Plan" "sorts" "[I", .static yX4_placeIn, .code yX4_placeIn cX4_placeIn 2 (some .int)] ++ wsX40 ++ wsX00 ++ wsX10)
def wsX4_isImage : List Cond := .code yX4_isImage cX4_isImage 2 (some .boolean) :: ([.fieldLink RX4 30 "BedHouse" "images" "[LBedHouse$Moment;"] ++ wsX40)
def wsX4_fewest_r1 : List Cond := [Cond.fieldLink RX4 30 "BedHouse" "images" "[LBedHouse$Moment;", Cond.fieldLink RX4 19 "BedHouse" "search" "LBedHouse$Search;", Cond.fieldLink RX4 37 "BedHouse" "plan" "LBedHouse$Plan;", Cond.fieldLink RX4 26 "BedHouse" "present" "LBedHouse$Moment;", Cond.methodLink RX4 144 yX4_isImage, Cond.instanceMethod yX4_isImage, Cond.selects RX4 yX4_isImage yX4_isImage, Cond.initialized RX4, Cond.code yX4_isImage cX4_isImage 2 (some .boolean), Cond.instanceMethod yX2_fewestActs, Cond.initialized RX2, Cond.selects RX2 yX2_fewestActs yX2_fewestActs, Cond.code yX2_fewestActs cX2_fewestActs 4 (some .int), Cond.methodLink RX2 68 yX2_survey, Cond.instanceMethod yX2_survey, Cond.selects RX2 yX2_survey yX2_survey, Cond.code yX2_survey cX2_survey 4 none, Cond.fieldLink RX2 22 "BedHouse$Search" "surveyed" "Z", Cond.fieldLink RX2 11 "BedHouse$Search" "lawful" "[B", Cond.static yX4_unitOf, Cond.code yX4_unitOf cX4_unitOf 1 (some .int), Cond.instanceMethod yX1_allows, Cond.initialized RX1, Cond.selects RX1 yX1_allows yX1_allows]
def wsX4_fewest_r2 : List Cond := [Cond.code yX1_allows cX1_allows 4 (some .boolean), Cond.fieldLink RX1 43 "BedHouse$Plan" "mostLying" "I", Cond.fieldLink RX1 21 "BedHouse$Plan" "panels" "I", Cond.fieldLink RX1 28 "BedHouse$Plan" "beams" "I", Cond.methodLink RX1 67 yX1_lyingIn, Cond.instanceMethod yX1_lyingIn, Cond.selects RX1 yX1_lyingIn yX1_lyingIn, Cond.code yX1_lyingIn cX1_lyingIn 4 (some .int), Cond.static yX4_placeIn, Cond.code yX4_placeIn cX4_placeIn 2 (some .int), Cond.methodLink RX1 64 yX1_slotsUnder, Cond.instanceMethod yX1_slotsUnder, Cond.selects RX1 yX1_slotsUnder yX1_slotsUnder, Cond.code yX1_slotsUnder cX1_slotsUnder 6 (some .int), Cond.fieldLink RX1 9 "BedHouse$Plan" "sorts" "[I", Cond.methodLink RX1 70 yJ6_bitCount_0f7a4, Cond.static yJ6_bitCount_0f7a4, Cond.initialized RJ6, Cond.code yJ6_bitCount_0f7a4 cJ6_bitCount_0f7a4 1 (some .int), Cond.constant RJ6 265 (1431655765), Cond.constant RJ6 266 (858993459), Cond.constant RJ6 267 (252645135), Cond.methodLink RX1 75 yX1_isBorne, Cond.instanceMethod yX1_isBorne]
def wsX4_fewest_r3 : List Cond := [Cond.selects RX1 yX1_isBorne yX1_isBorne, Cond.code yX1_isBorne cX1_isBorne 3 (some .boolean), Cond.fieldLink RX1 15 "BedHouse$Plan" "beamSlots" "[I", Cond.methodLink RX1 61 yX1_hasBeam, Cond.instanceMethod yX1_hasBeam, Cond.selects RX1 yX1_hasBeam yX1_hasBeam, Cond.code yX1_hasBeam cX1_hasBeam 2 (some .boolean), Cond.methodLink RX2 72 yX2_spreadFrom, Cond.instanceMethod yX2_spreadFrom, Cond.selects RX2 yX2_spreadFrom yX2_spreadFrom, Cond.code yX2_spreadFrom cX2_spreadFrom 3 none, Cond.fieldLink RX2 19 "BedHouse$Search" "queue" "[I", Cond.methodLink RX2 40 yX2_spread, Cond.instanceMethod yX2_spread, Cond.selects RX2 yX2_spread yX2_spread, Cond.code yX2_spread cX2_spread 6 none, Cond.fieldLink RX2 15 "BedHouse$Search" "far" "[I", Cond.fieldLink RX2 44 "BedHouse$Search" "reached" "I", Cond.methodLink RX2 47 yX2_farTo, Cond.instanceMethod yX2_farTo, Cond.selects RX2 yX2_farTo yX2_farTo, Cond.code yX2_farTo cX2_farTo 2 (some .int), Cond.methodLink RX2 50 yX2_spreadByOneAct, Cond.instanceMethod yX2_spreadByOneAct]
def wsX4_fewest_r4 : List Cond := [Cond.selects RX2 yX2_spreadByOneAct yX2_spreadByOneAct, Cond.code yX2_spreadByOneAct cX2_spreadByOneAct 6 none, Cond.static yX4_moved, Cond.code yX4_moved cX4_moved 3 (some .int), Cond.methodLink RX4 80 yX4_placeIn, Cond.methodLink RX4 228 yX4_unitOf, Cond.methodLink RX2 61 yX2_reach, Cond.instanceMethod yX2_reach, Cond.selects RX2 yX2_reach yX2_reach, Cond.code yX2_reach cX2_reach 3 none, Cond.methodLink RX2 65 yX2_isLawful, Cond.instanceMethod yX2_isLawful, Cond.selects RX2 yX2_isLawful yX2_isLawful, Cond.code yX2_isLawful cX2_isLawful 2 (some .boolean)]
def wsX4_fewest : List Cond := .code yX4_fewest cX4_fewest 2 (some .int) :: ((wsX4_fewest_r1 ++ (wsX4_fewest_r2 ++ (wsX4_fewest_r3 ++ wsX4_fewest_r4))) ++ wsX40 ++ wsX00 ++ wsX20 ++ wsX10)
def wsX4_first_r1 : List Cond := [Cond.fieldLink RX4 30 "BedHouse" "images" "[LBedHouse$Moment;", Cond.fieldLink RX4 19 "BedHouse" "search" "LBedHouse$Search;", Cond.fieldLink RX4 37 "BedHouse" "plan" "LBedHouse$Plan;", Cond.fieldLink RX4 26 "BedHouse" "present" "LBedHouse$Moment;", Cond.methodLink RX4 144 yX4_isImage, Cond.instanceMethod yX4_isImage, Cond.selects RX4 yX4_isImage yX4_isImage, Cond.initialized RX4, Cond.code yX4_isImage cX4_isImage 2 (some .boolean), Cond.instanceMethod yX2_firstAct, Cond.initialized RX2, Cond.selects RX2 yX2_firstAct yX2_firstAct, Cond.code yX2_firstAct cX2_firstAct 12 (some .int), Cond.methodLink RX2 68 yX2_survey, Cond.instanceMethod yX2_survey, Cond.selects RX2 yX2_survey yX2_survey, Cond.code yX2_survey cX2_survey 4 none, Cond.fieldLink RX2 22 "BedHouse$Search" "surveyed" "Z", Cond.fieldLink RX2 11 "BedHouse$Search" "lawful" "[B", Cond.static yX4_unitOf, Cond.code yX4_unitOf cX4_unitOf 1 (some .int), Cond.instanceMethod yX1_allows, Cond.initialized RX1, Cond.selects RX1 yX1_allows yX1_allows]
def wsX4_first_r2 : List Cond := [Cond.code yX1_allows cX1_allows 4 (some .boolean), Cond.fieldLink RX1 43 "BedHouse$Plan" "mostLying" "I", Cond.fieldLink RX1 21 "BedHouse$Plan" "panels" "I", Cond.fieldLink RX1 28 "BedHouse$Plan" "beams" "I", Cond.methodLink RX1 67 yX1_lyingIn, Cond.instanceMethod yX1_lyingIn, Cond.selects RX1 yX1_lyingIn yX1_lyingIn, Cond.code yX1_lyingIn cX1_lyingIn 4 (some .int), Cond.static yX4_placeIn, Cond.code yX4_placeIn cX4_placeIn 2 (some .int), Cond.methodLink RX1 64 yX1_slotsUnder, Cond.instanceMethod yX1_slotsUnder, Cond.selects RX1 yX1_slotsUnder yX1_slotsUnder, Cond.code yX1_slotsUnder cX1_slotsUnder 6 (some .int), Cond.fieldLink RX1 9 "BedHouse$Plan" "sorts" "[I", Cond.methodLink RX1 70 yJ6_bitCount_0f7a4, Cond.static yJ6_bitCount_0f7a4, Cond.initialized RJ6, Cond.code yJ6_bitCount_0f7a4 cJ6_bitCount_0f7a4 1 (some .int), Cond.constant RJ6 265 (1431655765), Cond.constant RJ6 266 (858993459), Cond.constant RJ6 267 (252645135), Cond.methodLink RX1 75 yX1_isBorne, Cond.instanceMethod yX1_isBorne]
def wsX4_first_r3 : List Cond := [Cond.selects RX1 yX1_isBorne yX1_isBorne, Cond.code yX1_isBorne cX1_isBorne 3 (some .boolean), Cond.fieldLink RX1 15 "BedHouse$Plan" "beamSlots" "[I", Cond.methodLink RX1 61 yX1_hasBeam, Cond.instanceMethod yX1_hasBeam, Cond.selects RX1 yX1_hasBeam yX1_hasBeam, Cond.code yX1_hasBeam cX1_hasBeam 2 (some .boolean), Cond.methodLink RX2 65 yX2_isLawful, Cond.instanceMethod yX2_isLawful, Cond.selects RX2 yX2_isLawful yX2_isLawful, Cond.code yX2_isLawful cX2_isLawful 2 (some .boolean), Cond.methodLink RX2 72 yX2_spreadFrom, Cond.instanceMethod yX2_spreadFrom, Cond.selects RX2 yX2_spreadFrom yX2_spreadFrom, Cond.code yX2_spreadFrom cX2_spreadFrom 3 none, Cond.fieldLink RX2 19 "BedHouse$Search" "queue" "[I", Cond.methodLink RX2 40 yX2_spread, Cond.instanceMethod yX2_spread, Cond.selects RX2 yX2_spread yX2_spread, Cond.code yX2_spread cX2_spread 6 none, Cond.fieldLink RX2 15 "BedHouse$Search" "far" "[I", Cond.fieldLink RX2 44 "BedHouse$Search" "reached" "I", Cond.methodLink RX2 47 yX2_farTo, Cond.instanceMethod yX2_farTo]
def wsX4_first_r4 : List Cond := [Cond.selects RX2 yX2_farTo yX2_farTo, Cond.code yX2_farTo cX2_farTo 2 (some .int), Cond.methodLink RX2 50 yX2_spreadByOneAct, Cond.instanceMethod yX2_spreadByOneAct, Cond.selects RX2 yX2_spreadByOneAct yX2_spreadByOneAct, Cond.code yX2_spreadByOneAct cX2_spreadByOneAct 6 none, Cond.static yX4_moved, Cond.code yX4_moved cX4_moved 3 (some .int), Cond.methodLink RX4 80 yX4_placeIn, Cond.methodLink RX4 228 yX4_unitOf, Cond.methodLink RX2 61 yX2_reach, Cond.instanceMethod yX2_reach, Cond.selects RX2 yX2_reach yX2_reach, Cond.code yX2_reach cX2_reach 3 none]
def wsX4_first : List Cond := .code yX4_first cX4_first 2 (some .int) :: ((wsX4_first_r1 ++ (wsX4_first_r2 ++ (wsX4_first_r3 ++ wsX4_first_r4))) ++ wsX40 ++ wsX00 ++ wsX10 ++ wsX20)
def wsX4_nights_r1 : List Cond := [Cond.fieldLink RX4 30 "BedHouse" "images" "[LBedHouse$Moment;", Cond.fieldLink RX4 19 "BedHouse" "search" "LBedHouse$Search;", Cond.fieldLink RX4 37 "BedHouse" "plan" "LBedHouse$Plan;", Cond.fieldLink RX4 26 "BedHouse" "present" "LBedHouse$Moment;", Cond.methodLink RX4 144 yX4_isImage, Cond.instanceMethod yX4_isImage, Cond.selects RX4 yX4_isImage yX4_isImage, Cond.initialized RX4, Cond.code yX4_isImage cX4_isImage 2 (some .boolean), Cond.instanceMethod yX2_fewestNights, Cond.initialized RX2, Cond.selects RX2 yX2_fewestNights yX2_fewestNights, Cond.code yX2_fewestNights cX2_fewestNights 7 (some .int), Cond.fieldLink RX2 19 "BedHouse$Search" "queue" "[I", Cond.methodLink RX2 68 yX2_survey, Cond.instanceMethod yX2_survey, Cond.selects RX2 yX2_survey yX2_survey, Cond.code yX2_survey cX2_survey 4 none, Cond.fieldLink RX2 22 "BedHouse$Search" "surveyed" "Z", Cond.fieldLink RX2 11 "BedHouse$Search" "lawful" "[B", Cond.static yX4_unitOf, Cond.code yX4_unitOf cX4_unitOf 1 (some .int), Cond.instanceMethod yX1_allows, Cond.initialized RX1]
def wsX4_nights_r2 : List Cond := [Cond.selects RX1 yX1_allows yX1_allows, Cond.code yX1_allows cX1_allows 4 (some .boolean), Cond.fieldLink RX1 43 "BedHouse$Plan" "mostLying" "I", Cond.fieldLink RX1 21 "BedHouse$Plan" "panels" "I", Cond.fieldLink RX1 28 "BedHouse$Plan" "beams" "I", Cond.methodLink RX1 67 yX1_lyingIn, Cond.instanceMethod yX1_lyingIn, Cond.selects RX1 yX1_lyingIn yX1_lyingIn, Cond.code yX1_lyingIn cX1_lyingIn 4 (some .int), Cond.static yX4_placeIn, Cond.code yX4_placeIn cX4_placeIn 2 (some .int), Cond.methodLink RX1 64 yX1_slotsUnder, Cond.instanceMethod yX1_slotsUnder, Cond.selects RX1 yX1_slotsUnder yX1_slotsUnder, Cond.code yX1_slotsUnder cX1_slotsUnder 6 (some .int), Cond.fieldLink RX1 9 "BedHouse$Plan" "sorts" "[I", Cond.methodLink RX1 70 yJ6_bitCount_0f7a4, Cond.static yJ6_bitCount_0f7a4, Cond.initialized RJ6, Cond.code yJ6_bitCount_0f7a4 cJ6_bitCount_0f7a4 1 (some .int), Cond.constant RJ6 265 (1431655765), Cond.constant RJ6 266 (858993459), Cond.constant RJ6 267 (252645135), Cond.methodLink RX1 75 yX1_isBorne]
def wsX4_nights_r3 : List Cond := [Cond.instanceMethod yX1_isBorne, Cond.selects RX1 yX1_isBorne yX1_isBorne, Cond.code yX1_isBorne cX1_isBorne 3 (some .boolean), Cond.fieldLink RX1 15 "BedHouse$Plan" "beamSlots" "[I", Cond.methodLink RX1 61 yX1_hasBeam, Cond.instanceMethod yX1_hasBeam, Cond.selects RX1 yX1_hasBeam yX1_hasBeam, Cond.code yX1_hasBeam cX1_hasBeam 2 (some .boolean), Cond.methodLink RX2 40 yX2_spread, Cond.instanceMethod yX2_spread, Cond.selects RX2 yX2_spread yX2_spread, Cond.code yX2_spread cX2_spread 6 none, Cond.fieldLink RX2 15 "BedHouse$Search" "far" "[I", Cond.fieldLink RX2 44 "BedHouse$Search" "reached" "I", Cond.methodLink RX2 47 yX2_farTo, Cond.instanceMethod yX2_farTo, Cond.selects RX2 yX2_farTo yX2_farTo, Cond.code yX2_farTo cX2_farTo 2 (some .int), Cond.methodLink RX2 50 yX2_spreadByOneAct, Cond.instanceMethod yX2_spreadByOneAct, Cond.selects RX2 yX2_spreadByOneAct yX2_spreadByOneAct, Cond.code yX2_spreadByOneAct cX2_spreadByOneAct 6 none, Cond.static yX4_moved, Cond.code yX4_moved cX4_moved 3 (some .int)]
def wsX4_nights_r4 : List Cond := [Cond.methodLink RX4 80 yX4_placeIn, Cond.methodLink RX4 228 yX4_unitOf, Cond.methodLink RX2 61 yX2_reach, Cond.instanceMethod yX2_reach, Cond.selects RX2 yX2_reach yX2_reach, Cond.code yX2_reach cX2_reach 3 none, Cond.methodLink RX2 65 yX2_isLawful, Cond.instanceMethod yX2_isLawful, Cond.selects RX2 yX2_isLawful yX2_isLawful, Cond.code yX2_isLawful cX2_isLawful 2 (some .boolean), Cond.methodLink RX2 90 yX2_keepDry, Cond.instanceMethod yX2_keepDry, Cond.selects RX2 yX2_keepDry yX2_keepDry, Cond.code yX2_keepDry cX2_keepDry 4 (some .int), Cond.instanceMethod yX1_leaksOf, Cond.selects RX1 yX1_leaksOf yX1_leaksOf, Cond.code yX1_leaksOf cX1_leaksOf 2 (some .int), Cond.fieldLink RX1 31 "BedHouse$Plan" "rain" "I"]
def wsX4_nights : List Cond := .code yX4_nights cX4_nights 2 (some .int) :: ((wsX4_nights_r1 ++ (wsX4_nights_r2 ++ (wsX4_nights_r3 ++ wsX4_nights_r4))) ++ wsX40 ++ wsX00 ++ wsX20 ++ wsX10)
def wsX4_piano_r1 : List Cond := [Cond.fieldLink RX4 19 "BedHouse" "search" "LBedHouse$Search;", Cond.fieldLink RX4 37 "BedHouse" "plan" "LBedHouse$Plan;", Cond.fieldLink RX4 26 "BedHouse" "present" "LBedHouse$Moment;", Cond.methodLink RX4 84 yX4_isSlot, Cond.static yX4_isSlot, Cond.initialized RX4, Cond.code yX4_isSlot cX4_isSlot 1 (some .boolean), Cond.instanceMethod yX2_actsToEmpty, Cond.initialized RX2, Cond.selects RX2 yX2_actsToEmpty yX2_actsToEmpty, Cond.code yX2_actsToEmpty cX2_actsToEmpty 5 (some .int), Cond.fieldLink RX2 44 "BedHouse$Search" "reached" "I", Cond.fieldLink RX2 19 "BedHouse$Search" "queue" "[I", Cond.methodLink RX2 68 yX2_survey, Cond.instanceMethod yX2_survey, Cond.selects RX2 yX2_survey yX2_survey, Cond.code yX2_survey cX2_survey 4 none, Cond.fieldLink RX2 22 "BedHouse$Search" "surveyed" "Z", Cond.fieldLink RX2 11 "BedHouse$Search" "lawful" "[B", Cond.static yX4_unitOf, Cond.code yX4_unitOf cX4_unitOf 1 (some .int), Cond.instanceMethod yX1_allows, Cond.initialized RX1, Cond.selects RX1 yX1_allows yX1_allows]
def wsX4_piano_r2 : List Cond := [Cond.code yX1_allows cX1_allows 4 (some .boolean), Cond.fieldLink RX1 43 "BedHouse$Plan" "mostLying" "I", Cond.fieldLink RX1 21 "BedHouse$Plan" "panels" "I", Cond.fieldLink RX1 28 "BedHouse$Plan" "beams" "I", Cond.methodLink RX1 67 yX1_lyingIn, Cond.instanceMethod yX1_lyingIn, Cond.selects RX1 yX1_lyingIn yX1_lyingIn, Cond.code yX1_lyingIn cX1_lyingIn 4 (some .int), Cond.static yX4_placeIn, Cond.code yX4_placeIn cX4_placeIn 2 (some .int), Cond.methodLink RX1 64 yX1_slotsUnder, Cond.instanceMethod yX1_slotsUnder, Cond.selects RX1 yX1_slotsUnder yX1_slotsUnder, Cond.code yX1_slotsUnder cX1_slotsUnder 6 (some .int), Cond.fieldLink RX1 9 "BedHouse$Plan" "sorts" "[I", Cond.methodLink RX1 70 yJ6_bitCount_0f7a4, Cond.static yJ6_bitCount_0f7a4, Cond.initialized RJ6, Cond.code yJ6_bitCount_0f7a4 cJ6_bitCount_0f7a4 1 (some .int), Cond.constant RJ6 265 (1431655765), Cond.constant RJ6 266 (858993459), Cond.constant RJ6 267 (252645135), Cond.methodLink RX1 75 yX1_isBorne, Cond.instanceMethod yX1_isBorne]
def wsX4_piano_r3 : List Cond := [Cond.selects RX1 yX1_isBorne yX1_isBorne, Cond.code yX1_isBorne cX1_isBorne 3 (some .boolean), Cond.fieldLink RX1 15 "BedHouse$Plan" "beamSlots" "[I", Cond.methodLink RX1 61 yX1_hasBeam, Cond.instanceMethod yX1_hasBeam, Cond.selects RX1 yX1_hasBeam yX1_hasBeam, Cond.code yX1_hasBeam cX1_hasBeam 2 (some .boolean), Cond.methodLink RX2 72 yX2_spreadFrom, Cond.instanceMethod yX2_spreadFrom, Cond.selects RX2 yX2_spreadFrom yX2_spreadFrom, Cond.code yX2_spreadFrom cX2_spreadFrom 3 none, Cond.methodLink RX2 40 yX2_spread, Cond.instanceMethod yX2_spread, Cond.selects RX2 yX2_spread yX2_spread, Cond.code yX2_spread cX2_spread 6 none, Cond.fieldLink RX2 15 "BedHouse$Search" "far" "[I", Cond.methodLink RX2 47 yX2_farTo, Cond.instanceMethod yX2_farTo, Cond.selects RX2 yX2_farTo yX2_farTo, Cond.code yX2_farTo cX2_farTo 2 (some .int), Cond.methodLink RX2 50 yX2_spreadByOneAct, Cond.instanceMethod yX2_spreadByOneAct, Cond.selects RX2 yX2_spreadByOneAct yX2_spreadByOneAct, Cond.code yX2_spreadByOneAct cX2_spreadByOneAct 6 none]
def wsX4_piano_r4 : List Cond := [Cond.static yX4_moved, Cond.code yX4_moved cX4_moved 3 (some .int), Cond.methodLink RX4 80 yX4_placeIn, Cond.methodLink RX4 228 yX4_unitOf, Cond.methodLink RX2 61 yX2_reach, Cond.instanceMethod yX2_reach, Cond.selects RX2 yX2_reach yX2_reach, Cond.code yX2_reach cX2_reach 3 none, Cond.methodLink RX2 65 yX2_isLawful, Cond.instanceMethod yX2_isLawful, Cond.selects RX2 yX2_isLawful yX2_isLawful, Cond.code yX2_isLawful cX2_isLawful 2 (some .boolean)]
def wsX4_piano : List Cond := .code yX4_piano cX4_piano 2 (some .int) :: ((wsX4_piano_r1 ++ (wsX4_piano_r2 ++ (wsX4_piano_r3 ++ wsX4_piano_r4))) ++ wsX40 ++ wsX00 ++ wsX20 ++ wsX10)
def wsX4_best_r1 : List Cond := [Cond.fieldLink RX4 37 "BedHouse" "plan" "LBedHouse$Plan;", Cond.constant RX4 140 (-1000000), Cond.fieldLink RX4 19 "BedHouse" "search" "LBedHouse$Search;", Cond.instanceMethod yX1_hasPanel, Cond.initialized RX1, Cond.selects RX1 yX1_hasPanel yX1_hasPanel, Cond.code yX1_hasPanel cX1_hasPanel 2 (some .boolean), Cond.fieldLink RX1 21 "BedHouse$Plan" "panels" "I", Cond.fieldLink RX1 9 "BedHouse$Plan" "sorts" "[I", Cond.instanceMethod yX2_bestHome, Cond.initialized RX2, Cond.selects RX2 yX2_bestHome yX2_bestHome, Cond.code yX2_bestHome cX2_bestHome 6 (some .int), Cond.constant RX2 100 (-1000000), Cond.methodLink RX2 68 yX2_survey, Cond.instanceMethod yX2_survey, Cond.selects RX2 yX2_survey yX2_survey, Cond.code yX2_survey cX2_survey 4 none, Cond.fieldLink RX2 22 "BedHouse$Search" "surveyed" "Z", Cond.fieldLink RX2 11 "BedHouse$Search" "lawful" "[B", Cond.static yX4_unitOf, Cond.initialized RX4, Cond.code yX4_unitOf cX4_unitOf 1 (some .int), Cond.instanceMethod yX1_allows]
def wsX4_best_r2 : List Cond := [Cond.selects RX1 yX1_allows yX1_allows, Cond.code yX1_allows cX1_allows 4 (some .boolean), Cond.fieldLink RX1 43 "BedHouse$Plan" "mostLying" "I", Cond.fieldLink RX1 28 "BedHouse$Plan" "beams" "I", Cond.methodLink RX1 67 yX1_lyingIn, Cond.instanceMethod yX1_lyingIn, Cond.selects RX1 yX1_lyingIn yX1_lyingIn, Cond.code yX1_lyingIn cX1_lyingIn 4 (some .int), Cond.static yX4_placeIn, Cond.code yX4_placeIn cX4_placeIn 2 (some .int), Cond.methodLink RX1 64 yX1_slotsUnder, Cond.instanceMethod yX1_slotsUnder, Cond.selects RX1 yX1_slotsUnder yX1_slotsUnder, Cond.code yX1_slotsUnder cX1_slotsUnder 6 (some .int), Cond.methodLink RX1 70 yJ6_bitCount_0f7a4, Cond.static yJ6_bitCount_0f7a4, Cond.initialized RJ6, Cond.code yJ6_bitCount_0f7a4 cJ6_bitCount_0f7a4 1 (some .int), Cond.constant RJ6 265 (1431655765), Cond.constant RJ6 266 (858993459), Cond.constant RJ6 267 (252645135), Cond.methodLink RX1 75 yX1_isBorne, Cond.instanceMethod yX1_isBorne, Cond.selects RX1 yX1_isBorne yX1_isBorne]
def wsX4_best_r3 : List Cond := [Cond.code yX1_isBorne cX1_isBorne 3 (some .boolean), Cond.fieldLink RX1 15 "BedHouse$Plan" "beamSlots" "[I", Cond.methodLink RX1 61 yX1_hasBeam, Cond.instanceMethod yX1_hasBeam, Cond.selects RX1 yX1_hasBeam yX1_hasBeam, Cond.code yX1_hasBeam cX1_hasBeam 2 (some .boolean), Cond.methodLink RX2 65 yX2_isLawful, Cond.instanceMethod yX2_isLawful, Cond.selects RX2 yX2_isLawful yX2_isLawful, Cond.code yX2_isLawful cX2_isLawful 2 (some .boolean), Cond.instanceMethod yX1_worthOf, Cond.selects RX1 yX1_worthOf yX1_worthOf, Cond.code yX1_worthOf cX1_worthOf 3 (some .int), Cond.fieldLink RX1 37 "BedHouse$Plan" "view" "I", Cond.fieldLink RX1 40 "BedHouse$Plan" "noise" "I", Cond.methodLink RX1 79 yX1_litHours, Cond.instanceMethod yX1_litHours, Cond.selects RX1 yX1_litHours yX1_litHours, Cond.code yX1_litHours cX1_litHours 2 (some .int), Cond.fieldLink RX1 34 "BedHouse$Plan" "sun" "I", Cond.methodLink RX1 82 yX1_leaksOf, Cond.instanceMethod yX1_leaksOf, Cond.selects RX1 yX1_leaksOf yX1_leaksOf, Cond.code yX1_leaksOf cX1_leaksOf 2 (some .int)]
def wsX4_best_r4 : List Cond := [Cond.fieldLink RX1 31 "BedHouse$Plan" "rain" "I", Cond.methodLink RX1 85 yX1_quietIn, Cond.instanceMethod yX1_quietIn, Cond.selects RX1 yX1_quietIn yX1_quietIn, Cond.code yX1_quietIn cX1_quietIn 2 (some .int), Cond.methodLink RX4 80 yX4_placeIn]
def wsX4_best : List Cond := .code yX4_best cX4_best 3 (some .int) :: ((wsX4_best_r1 ++ (wsX4_best_r2 ++ (wsX4_best_r3 ++ wsX4_best_r4))) ++ wsX40 ++ wsX10 ++ wsX20)
def wsX4_clue : List Cond := .code yX4_clue cX4_clue 3 (some .int) :: ([.fieldLink RX4 26 "BedHouse" "present" "LBedHouse$Moment;", .methodLink RX4 84 yX4_isSlot, .static yX4_isSlot, .initialized RX4, .code yX4_isSlot cX4_isSlot 1 (some .boolean)] ++ wsX40 ++ wsX00)
def wsX4_fit_r1 : List Cond := [Cond.fieldLink RX4 19 "BedHouse" "search" "LBedHouse$Search;", Cond.fieldLink RX4 37 "BedHouse" "plan" "LBedHouse$Plan;", Cond.fieldLink RX4 26 "BedHouse" "present" "LBedHouse$Moment;", Cond.instanceMethod yX2_countFitting, Cond.initialized RX2, Cond.selects RX2 yX2_countFitting yX2_countFitting, Cond.code yX2_countFitting cX2_countFitting 5 (some .int), Cond.methodLink RX2 68 yX2_survey, Cond.instanceMethod yX2_survey, Cond.selects RX2 yX2_survey yX2_survey, Cond.code yX2_survey cX2_survey 4 none, Cond.fieldLink RX2 22 "BedHouse$Search" "surveyed" "Z", Cond.fieldLink RX2 11 "BedHouse$Search" "lawful" "[B", Cond.static yX4_unitOf, Cond.initialized RX4, Cond.code yX4_unitOf cX4_unitOf 1 (some .int), Cond.instanceMethod yX1_allows, Cond.initialized RX1, Cond.selects RX1 yX1_allows yX1_allows, Cond.code yX1_allows cX1_allows 4 (some .boolean), Cond.fieldLink RX1 43 "BedHouse$Plan" "mostLying" "I", Cond.fieldLink RX1 21 "BedHouse$Plan" "panels" "I", Cond.fieldLink RX1 28 "BedHouse$Plan" "beams" "I", Cond.methodLink RX1 67 yX1_lyingIn]
def wsX4_fit_r2 : List Cond := [Cond.instanceMethod yX1_lyingIn, Cond.selects RX1 yX1_lyingIn yX1_lyingIn, Cond.code yX1_lyingIn cX1_lyingIn 4 (some .int), Cond.static yX4_placeIn, Cond.code yX4_placeIn cX4_placeIn 2 (some .int), Cond.methodLink RX1 64 yX1_slotsUnder, Cond.instanceMethod yX1_slotsUnder, Cond.selects RX1 yX1_slotsUnder yX1_slotsUnder, Cond.code yX1_slotsUnder cX1_slotsUnder 6 (some .int), Cond.fieldLink RX1 9 "BedHouse$Plan" "sorts" "[I", Cond.methodLink RX1 70 yJ6_bitCount_0f7a4, Cond.static yJ6_bitCount_0f7a4, Cond.initialized RJ6, Cond.code yJ6_bitCount_0f7a4 cJ6_bitCount_0f7a4 1 (some .int), Cond.constant RJ6 265 (1431655765), Cond.constant RJ6 266 (858993459), Cond.constant RJ6 267 (252645135), Cond.methodLink RX1 75 yX1_isBorne, Cond.instanceMethod yX1_isBorne, Cond.selects RX1 yX1_isBorne yX1_isBorne, Cond.code yX1_isBorne cX1_isBorne 3 (some .boolean), Cond.fieldLink RX1 15 "BedHouse$Plan" "beamSlots" "[I", Cond.methodLink RX1 61 yX1_hasBeam, Cond.instanceMethod yX1_hasBeam]
def wsX4_fit_r3 : List Cond := [Cond.selects RX1 yX1_hasBeam yX1_hasBeam, Cond.code yX1_hasBeam cX1_hasBeam 2 (some .boolean), Cond.methodLink RX2 65 yX2_isLawful, Cond.instanceMethod yX2_isLawful, Cond.selects RX2 yX2_isLawful yX2_isLawful, Cond.code yX2_isLawful cX2_isLawful 2 (some .boolean), Cond.instanceMethod yX1_fitsLetter, Cond.selects RX1 yX1_fitsLetter yX1_fitsLetter, Cond.code yX1_fitsLetter cX1_fitsLetter 4 (some .boolean), Cond.methodLink RX1 79 yX1_litHours, Cond.instanceMethod yX1_litHours, Cond.selects RX1 yX1_litHours yX1_litHours, Cond.code yX1_litHours cX1_litHours 2 (some .int), Cond.fieldLink RX1 34 "BedHouse$Plan" "sun" "I"]
def wsX4_fit : List Cond := .code yX4_fit cX4_fit 1 (some .int) :: ((wsX4_fit_r1 ++ (wsX4_fit_r2 ++ wsX4_fit_r3)) ++ wsX40 ++ wsX20 ++ wsX10 ++ wsX00)
def wsX4_sure_r1 : List Cond := [Cond.fieldLink RX4 37 "BedHouse" "plan" "LBedHouse$Plan;", Cond.fieldLink RX4 19 "BedHouse" "search" "LBedHouse$Search;", Cond.fieldLink RX4 26 "BedHouse" "present" "LBedHouse$Moment;", Cond.instanceMethod yX1_hasPanel, Cond.initialized RX1, Cond.selects RX1 yX1_hasPanel yX1_hasPanel, Cond.code yX1_hasPanel cX1_hasPanel 2 (some .boolean), Cond.fieldLink RX1 21 "BedHouse$Plan" "panels" "I", Cond.fieldLink RX1 9 "BedHouse$Plan" "sorts" "[I", Cond.instanceMethod yX2_surePlace, Cond.initialized RX2, Cond.selects RX2 yX2_surePlace yX2_surePlace, Cond.code yX2_surePlace cX2_surePlace 7 (some .int), Cond.methodLink RX2 68 yX2_survey, Cond.instanceMethod yX2_survey, Cond.selects RX2 yX2_survey yX2_survey, Cond.code yX2_survey cX2_survey 4 none, Cond.fieldLink RX2 22 "BedHouse$Search" "surveyed" "Z", Cond.fieldLink RX2 11 "BedHouse$Search" "lawful" "[B", Cond.static yX4_unitOf, Cond.initialized RX4, Cond.code yX4_unitOf cX4_unitOf 1 (some .int), Cond.instanceMethod yX1_allows, Cond.selects RX1 yX1_allows yX1_allows]
def wsX4_sure_r2 : List Cond := [Cond.code yX1_allows cX1_allows 4 (some .boolean), Cond.fieldLink RX1 43 "BedHouse$Plan" "mostLying" "I", Cond.fieldLink RX1 28 "BedHouse$Plan" "beams" "I", Cond.methodLink RX1 67 yX1_lyingIn, Cond.instanceMethod yX1_lyingIn, Cond.selects RX1 yX1_lyingIn yX1_lyingIn, Cond.code yX1_lyingIn cX1_lyingIn 4 (some .int), Cond.static yX4_placeIn, Cond.code yX4_placeIn cX4_placeIn 2 (some .int), Cond.methodLink RX1 64 yX1_slotsUnder, Cond.instanceMethod yX1_slotsUnder, Cond.selects RX1 yX1_slotsUnder yX1_slotsUnder, Cond.code yX1_slotsUnder cX1_slotsUnder 6 (some .int), Cond.methodLink RX1 70 yJ6_bitCount_0f7a4, Cond.static yJ6_bitCount_0f7a4, Cond.initialized RJ6, Cond.code yJ6_bitCount_0f7a4 cJ6_bitCount_0f7a4 1 (some .int), Cond.constant RJ6 265 (1431655765), Cond.constant RJ6 266 (858993459), Cond.constant RJ6 267 (252645135), Cond.methodLink RX1 75 yX1_isBorne, Cond.instanceMethod yX1_isBorne, Cond.selects RX1 yX1_isBorne yX1_isBorne, Cond.code yX1_isBorne cX1_isBorne 3 (some .boolean)]
def wsX4_sure_r3 : List Cond := [Cond.fieldLink RX1 15 "BedHouse$Plan" "beamSlots" "[I", Cond.methodLink RX1 61 yX1_hasBeam, Cond.instanceMethod yX1_hasBeam, Cond.selects RX1 yX1_hasBeam yX1_hasBeam, Cond.code yX1_hasBeam cX1_hasBeam 2 (some .boolean), Cond.methodLink RX2 65 yX2_isLawful, Cond.instanceMethod yX2_isLawful, Cond.selects RX2 yX2_isLawful yX2_isLawful, Cond.code yX2_isLawful cX2_isLawful 2 (some .boolean), Cond.instanceMethod yX1_fitsLetter, Cond.selects RX1 yX1_fitsLetter yX1_fitsLetter, Cond.code yX1_fitsLetter cX1_fitsLetter 4 (some .boolean), Cond.methodLink RX1 79 yX1_litHours, Cond.instanceMethod yX1_litHours, Cond.selects RX1 yX1_litHours yX1_litHours, Cond.code yX1_litHours cX1_litHours 2 (some .int), Cond.fieldLink RX1 34 "BedHouse$Plan" "sun" "I"]
def wsX4_sure : List Cond := .code yX4_sure cX4_sure 2 (some .int) :: ((wsX4_sure_r1 ++ (wsX4_sure_r2 ++ wsX4_sure_r3)) ++ wsX40 ++ wsX10 ++ wsX20 ++ wsX00)
def wsX4_forget : List Cond := .code yX4_forget cX4_forget 2 (some .int) :: ([.fieldLink RX4 26 "BedHouse" "present" "LBedHouse$Moment;"] ++ wsX40 ++ wsX00)
def wsX4_markOfPanel : List Cond := .code yX4_markOfPanel cX4_markOfPanel 2 (some .int) :: ([.fieldLink RX4 210 "BedHouse" "traced" "J", .fieldLink RX4 26 "BedHouse" "present" "LBedHouse$Moment;", .methodLink RX4 80 yX4_placeIn, .static yX4_placeIn, .initialized RX4, .code yX4_placeIn cX4_placeIn 2 (some .int)] ++ wsX40 ++ wsX00)
def wsX4_markOfBearing : List Cond := .code yX4_markOfBearing cX4_markOfBearing 2 (some .int) :: ([.fieldLink RX4 210 "BedHouse" "traced" "J", .constantLong RX4 218 (10), .methodLink RX4 179 yX4_markOfPanel, .instanceMethod yX4_markOfPanel, .selects RX4 yX4_markOfPanel yX4_markOfPanel, .initialized RX4, .code yX4_markOfPanel cX4_markOfPanel 2 (some .int), .fieldLink RX4 26 "BedHouse" "present" "LBedHouse$Moment;", .methodLink RX4 80 yX4_placeIn, .static yX4_placeIn, .code yX4_placeIn cX4_placeIn 2 (some .int)] ++ wsX40 ++ wsX00)
def wsX4_markOfLight : List Cond := .code yX4_markOfLight cX4_markOfLight 2 (some .int) :: ([.fieldLink RX4 210 "BedHouse" "traced" "J", .constantLong RX4 220 (100), .fieldLink RX4 37 "BedHouse" "plan" "LBedHouse$Plan;", .methodLink RX4 179 yX4_markOfPanel, .instanceMethod yX4_markOfPanel, .selects RX4 yX4_markOfPanel yX4_markOfPanel, .initialized RX4, .code yX4_markOfPanel cX4_markOfPanel 2 (some .int), .fieldLink RX4 26 "BedHouse" "present" "LBedHouse$Moment;", .methodLink RX4 80 yX4_placeIn, .static yX4_placeIn, .code yX4_placeIn cX4_placeIn 2 (some .int), .instanceMethod yX1_sortOf, .initialized RX1, .selects RX1 yX1_sortOf yX1_sortOf, .code yX1_sortOf cX1_sortOf 2 (some .int), .fieldLink RX1 9 "BedHouse$Plan" "sorts" "[I", .methodLink RX1 53 yX1_hasPanel, .instanceMethod yX1_hasPanel, .selects RX1 yX1_hasPanel yX1_hasPanel, .code yX1_hasPanel cX1_hasPanel 2 (some .boolean), .fieldLink RX1 21 "BedHouse$Plan" "panels" "I"] ++ wsX40 ++ wsX00 ++ wsX10)
def wsX4_markOfOld : List Cond := .code yX4_markOfOld cX4_markOfOld 2 (some .int) :: ([.fieldLink RX4 210 "BedHouse" "traced" "J", .constantLong RX4 222 (1000), .fieldLink RX4 26 "BedHouse" "present" "LBedHouse$Moment;", .methodLink RX4 182 yX4_markOfBearing, .instanceMethod yX4_markOfBearing, .selects RX4 yX4_markOfBearing yX4_markOfBearing, .initialized RX4, .code yX4_markOfBearing cX4_markOfBearing 2 (some .int), .constantLong RX4 218 (10), .methodLink RX4 179 yX4_markOfPanel, .instanceMethod yX4_markOfPanel, .selects RX4 yX4_markOfPanel yX4_markOfPanel, .code yX4_markOfPanel cX4_markOfPanel 2 (some .int), .methodLink RX4 80 yX4_placeIn, .static yX4_placeIn, .code yX4_placeIn cX4_placeIn 2 (some .int)] ++ wsX40 ++ wsX00)
def wsX4_markOfClear_r1 : List Cond := [Cond.fieldLink RX4 210 "BedHouse" "traced" "J", Cond.constantLong RX4 224 (10000), Cond.fieldLink RX4 37 "BedHouse" "plan" "LBedHouse$Plan;", Cond.fieldLink RX4 26 "BedHouse" "present" "LBedHouse$Moment;", Cond.methodLink RX4 185 yX4_markOfLight, Cond.instanceMethod yX4_markOfLight, Cond.selects RX4 yX4_markOfLight yX4_markOfLight, Cond.initialized RX4, Cond.code yX4_markOfLight cX4_markOfLight 2 (some .int), Cond.constantLong RX4 220 (100), Cond.methodLink RX4 179 yX4_markOfPanel, Cond.instanceMethod yX4_markOfPanel, Cond.selects RX4 yX4_markOfPanel yX4_markOfPanel, Cond.code yX4_markOfPanel cX4_markOfPanel 2 (some .int), Cond.methodLink RX4 80 yX4_placeIn, Cond.static yX4_placeIn, Cond.code yX4_placeIn cX4_placeIn 2 (some .int), Cond.instanceMethod yX1_sortOf, Cond.initialized RX1, Cond.selects RX1 yX1_sortOf yX1_sortOf, Cond.code yX1_sortOf cX1_sortOf 2 (some .int), Cond.fieldLink RX1 9 "BedHouse$Plan" "sorts" "[I", Cond.methodLink RX1 53 yX1_hasPanel, Cond.instanceMethod yX1_hasPanel]
def wsX4_markOfClear_r2 : List Cond := [Cond.selects RX1 yX1_hasPanel yX1_hasPanel, Cond.code yX1_hasPanel cX1_hasPanel 2 (some .boolean), Cond.fieldLink RX1 21 "BedHouse$Plan" "panels" "I", Cond.instanceMethod yX1_lyingIn, Cond.selects RX1 yX1_lyingIn yX1_lyingIn, Cond.code yX1_lyingIn cX1_lyingIn 4 (some .int)]
def wsX4_markOfClear : List Cond := .code yX4_markOfClear cX4_markOfClear 2 (some .int) :: ((wsX4_markOfClear_r1 ++ wsX4_markOfClear_r2) ++ wsX40 ++ wsX00 ++ wsX10)
def wsX4_markOfNeighbours : List Cond := .code yX4_markOfNeighbours cX4_markOfNeighbours 2 (some .int) :: ([.fieldLink RX4 210 "BedHouse" "traced" "J", .constantLong RX4 226 (100000), .methodLink RX4 179 yX4_markOfPanel, .instanceMethod yX4_markOfPanel, .selects RX4 yX4_markOfPanel yX4_markOfPanel, .initialized RX4, .code yX4_markOfPanel cX4_markOfPanel 2 (some .int), .fieldLink RX4 26 "BedHouse" "present" "LBedHouse$Moment;", .methodLink RX4 80 yX4_placeIn, .static yX4_placeIn, .code yX4_placeIn cX4_placeIn 2 (some .int)] ++ wsX40 ++ wsX00)
def wsX4_mark_r1 : List Cond := [Cond.fieldLink RX4 37 "BedHouse" "plan" "LBedHouse$Plan;", Cond.constant RX4 140 (-1000000), Cond.instanceMethod yX1_hasPanel, Cond.initialized RX1, Cond.selects RX1 yX1_hasPanel yX1_hasPanel, Cond.code yX1_hasPanel cX1_hasPanel 2 (some .boolean), Cond.fieldLink RX1 21 "BedHouse$Plan" "panels" "I", Cond.fieldLink RX1 9 "BedHouse$Plan" "sorts" "[I", Cond.methodLink RX4 179 yX4_markOfPanel, Cond.instanceMethod yX4_markOfPanel, Cond.selects RX4 yX4_markOfPanel yX4_markOfPanel, Cond.initialized RX4, Cond.code yX4_markOfPanel cX4_markOfPanel 2 (some .int), Cond.fieldLink RX4 210 "BedHouse" "traced" "J", Cond.fieldLink RX4 26 "BedHouse" "present" "LBedHouse$Moment;", Cond.methodLink RX4 80 yX4_placeIn, Cond.static yX4_placeIn, Cond.code yX4_placeIn cX4_placeIn 2 (some .int), Cond.methodLink RX4 182 yX4_markOfBearing, Cond.instanceMethod yX4_markOfBearing, Cond.selects RX4 yX4_markOfBearing yX4_markOfBearing, Cond.code yX4_markOfBearing cX4_markOfBearing 2 (some .int), Cond.constantLong RX4 218 (10), Cond.methodLink RX4 185 yX4_markOfLight]
def wsX4_mark_r2 : List Cond := [Cond.instanceMethod yX4_markOfLight, Cond.selects RX4 yX4_markOfLight yX4_markOfLight, Cond.code yX4_markOfLight cX4_markOfLight 2 (some .int), Cond.constantLong RX4 220 (100), Cond.instanceMethod yX1_sortOf, Cond.selects RX1 yX1_sortOf yX1_sortOf, Cond.code yX1_sortOf cX1_sortOf 2 (some .int), Cond.methodLink RX1 53 yX1_hasPanel, Cond.methodLink RX4 188 yX4_markOfOld, Cond.instanceMethod yX4_markOfOld, Cond.selects RX4 yX4_markOfOld yX4_markOfOld, Cond.code yX4_markOfOld cX4_markOfOld 2 (some .int), Cond.constantLong RX4 222 (1000), Cond.methodLink RX4 191 yX4_markOfClear, Cond.instanceMethod yX4_markOfClear, Cond.selects RX4 yX4_markOfClear yX4_markOfClear, Cond.code yX4_markOfClear cX4_markOfClear 2 (some .int), Cond.constantLong RX4 224 (10000), Cond.instanceMethod yX1_lyingIn, Cond.selects RX1 yX1_lyingIn yX1_lyingIn, Cond.code yX1_lyingIn cX1_lyingIn 4 (some .int), Cond.methodLink RX4 194 yX4_markOfNeighbours, Cond.instanceMethod yX4_markOfNeighbours, Cond.selects RX4 yX4_markOfNeighbours yX4_markOfNeighbours]
def wsX4_mark_r3 : List Cond := [Cond.code yX4_markOfNeighbours cX4_markOfNeighbours 2 (some .int), Cond.constantLong RX4 226 (100000)]
def wsX4_mark : List Cond := .code yX4_mark cX4_mark 3 (some .int) :: ((wsX4_mark_r1 ++ (wsX4_mark_r2 ++ wsX4_mark_r3)) ++ wsX40 ++ wsX10 ++ wsX00)
def wsX4_keep : List Cond := .code yX4_keep cX4_keep 2 (some .int) :: ([.fieldLink RX4 30 "BedHouse" "images" "[LBedHouse$Moment;", .fieldLink RX4 26 "BedHouse" "present" "LBedHouse$Moment;", .methodLink RX4 144 yX4_isImage, .instanceMethod yX4_isImage, .selects RX4 yX4_isImage yX4_isImage, .initialized RX4, .code yX4_isImage cX4_isImage 2 (some .boolean), .instanceMethod yX0_copyFrom, .initialized RX0, .selects RX0 yX0_copyFrom yX0_copyFrom, .code yX0_copyFrom cX0_copyFrom 2 none, .fieldLink RX0 7 "BedHouse$Moment" "home" "I", .fieldLink RX0 13 "BedHouse$Moment" "day" "I", .fieldLink RX0 16 "BedHouse$Moment" "acts" "I", .fieldLink RX0 19 "BedHouse$Moment" "leaks" "I", .fieldLink RX0 22 "BedHouse$Moment" "clues" "I", .fieldLink RX0 25 "BedHouse$Moment" "litHours" "I", .fieldLink RX0 28 "BedHouse$Moment" "darkHours" "I"] ++ wsX40 ++ wsX00)
def wsX4_back : List Cond := .code yX4_back cX4_back 2 (some .int) :: ([.fieldLink RX4 30 "BedHouse" "images" "[LBedHouse$Moment;", .fieldLink RX4 26 "BedHouse" "present" "LBedHouse$Moment;", .methodLink RX4 144 yX4_isImage, .instanceMethod yX4_isImage, .selects RX4 yX4_isImage yX4_isImage, .initialized RX4, .code yX4_isImage cX4_isImage 2 (some .boolean), .instanceMethod yX0_copyFrom, .initialized RX0, .selects RX0 yX0_copyFrom yX0_copyFrom, .code yX0_copyFrom cX0_copyFrom 2 none, .fieldLink RX0 7 "BedHouse$Moment" "home" "I", .fieldLink RX0 13 "BedHouse$Moment" "day" "I", .fieldLink RX0 16 "BedHouse$Moment" "acts" "I", .fieldLink RX0 19 "BedHouse$Moment" "leaks" "I", .fieldLink RX0 22 "BedHouse$Moment" "clues" "I", .fieldLink RX0 25 "BedHouse$Moment" "litHours" "I", .fieldLink RX0 28 "BedHouse$Moment" "darkHours" "I"] ++ wsX40 ++ wsX00)
def wsX4_count : List Cond := .code yX4_count cX4_count 2 (some .int) :: ([.fieldLink RX4 37 "BedHouse" "plan" "LBedHouse$Plan;", .fieldLink RX4 26 "BedHouse" "present" "LBedHouse$Moment;", .fieldLink RX4 12 "BedHouse" "text" "LBedHouse$Text;", .instanceMethod yX1_lyingIn, .initialized RX1, .selects RX1 yX1_lyingIn yX1_lyingIn, .code yX1_lyingIn cX1_lyingIn 4 (some .int), .fieldLink RX1 21 "BedHouse$Plan" "panels" "I", .static yX4_placeIn, .initialized RX4, .code yX4_placeIn cX4_placeIn 2 (some .int)] ++ wsX40 ++ wsX10 ++ wsX00 ++ wsX30)
def wsX4_trace : List Cond := .code yX4_trace cX4_trace 1 (some .long) :: ([.fieldLink RX4 210 "BedHouse" "traced" "J"] ++ wsX40)
def wsX5_begin : List Cond := .code yX5_begin cX5_begin 2 none :: ([.fieldLink RX5 13 "BedHouseModel" "plan" "[I"] ++ wsX50)
def wsX5_init : List Cond := .code yX5_init cX5_init 1 none :: ([.methodLink RX5 1 objectInit, .instanceMethod objectInit, .code objectInit ⟨#[0xb1]⟩ 1 none, .arrayClass .byte, .fieldLink RX5 7 "BedHouseModel" "text" "[B", .arrayClass .int, .fieldLink RX5 13 "BedHouseModel" "plan" "[I", .fieldLink RX5 17 "BedHouseModel" "sorts" "[I", .fieldLink RX5 20 "BedHouseModel" "at0" "[I", .fieldLink RX5 23 "BedHouseModel" "beams" "[I", .fieldLink RX5 26 "BedHouseModel" "now" "[I", .arrayClass .boolean, .fieldLink RX5 29 "BedHouseModel" "isKept" "[Z", .fieldLink RX5 33 "BedHouseModel" "off" "[I", .fieldLink RX5 36 "BedHouseModel" "reached" "[I", .fieldLink RX5 39 "BedHouseModel" "isSlept" "[Z", .methodLink RX5 42 yX5_begin, .instanceMethod yX5_begin, .selects RX5 yX5_begin yX5_begin, .initialized RX5, .code yX5_begin cX5_begin 2 none] ++ wsX50)
def wsX5_in : List Cond := .code yX5_in cX5_in 3 (some .boolean) :: ([])
def wsX5_type : List Cond := .code yX5_type cX5_type 5 (some .int) :: ([.fieldLink RX5 50 "BedHouseModel" "typed" "I", .fieldLink RX5 7 "BedHouseModel" "text" "[B", .constantLong RX5 54 (255), .methodLink RX5 46 yX5_in, .static yX5_in, .initialized RX5, .code yX5_in cX5_in 3 (some .boolean)] ++ wsX50)
def wsX5_clear : List Cond := .code yX5_clear cX5_clear 2 (some .int) :: ([.fieldLink RX5 50 "BedHouseModel" "typed" "I"] ++ wsX50)
def wsX5_here : List Cond := .code yX5_here cX5_here 1 (some .int) :: ([.fieldLink RX5 56 "BedHouseModel" "at" "I", .fieldLink RX5 50 "BedHouseModel" "typed" "I", .fieldLink RX5 7 "BedHouseModel" "text" "[B"] ++ wsX50)
def wsX5_meaning : List Cond := .code yX5_meaning cX5_meaning 1 (some .int) :: ([])
def wsX5_next : List Cond := .code yX5_next cX5_next 5 none :: ([.fieldLink RX5 56 "BedHouseModel" "at" "I", .fieldLink RX5 63 "BedHouseModel" "start" "I", .fieldLink RX5 66 "BedHouseModel" "value" "I", .fieldLink RX5 69 "BedHouseModel" "sort" "I", .constant RX5 76 (54575892), .methodLink RX5 59 yX5_here, .instanceMethod yX5_here, .selects RX5 yX5_here yX5_here, .initialized RX5, .code yX5_here cX5_here 1 (some .int), .fieldLink RX5 50 "BedHouseModel" "typed" "I", .fieldLink RX5 7 "BedHouseModel" "text" "[B", .methodLink RX5 46 yX5_in, .static yX5_in, .code yX5_in cX5_in 3 (some .boolean), .methodLink RX5 72 yX5_meaning, .static yX5_meaning, .code yX5_meaning cX5_meaning 1 (some .int)] ++ wsX50)
def wsX5_due : List Cond := .code yX5_due cX5_due 3 (some .int) :: ([.fieldLink RX5 66 "BedHouseModel" "value" "I", .fieldLink RX5 77 "BedHouseModel" "fault" "I", .fieldLink RX5 63 "BedHouseModel" "start" "I", .methodLink RX5 80 yX5_next, .instanceMethod yX5_next, .selects RX5 yX5_next yX5_next, .initialized RX5, .code yX5_next cX5_next 5 none, .fieldLink RX5 56 "BedHouseModel" "at" "I", .fieldLink RX5 69 "BedHouseModel" "sort" "I", .constant RX5 76 (54575892), .methodLink RX5 59 yX5_here, .instanceMethod yX5_here, .selects RX5 yX5_here yX5_here, .code yX5_here cX5_here 1 (some .int), .fieldLink RX5 50 "BedHouseModel" "typed" "I", .fieldLink RX5 7 "BedHouseModel" "text" "[B", .methodLink RX5 46 yX5_in, .static yX5_in, .code yX5_in cX5_in 3 (some .boolean), .methodLink RX5 72 yX5_meaning, .static yX5_meaning, .code yX5_meaning cX5_meaning 1 (some .int)] ++ wsX50)
def wsX5_number_r1 : List Cond := [Cond.fieldLink RX5 69 "BedHouseModel" "sort" "I", Cond.fieldLink RX5 66 "BedHouseModel" "value" "I", Cond.methodLink RX5 46 yX5_in, Cond.static yX5_in, Cond.initialized RX5, Cond.code yX5_in cX5_in 3 (some .boolean), Cond.methodLink RX5 83 yX5_due, Cond.instanceMethod yX5_due, Cond.selects RX5 yX5_due yX5_due, Cond.code yX5_due cX5_due 3 (some .int), Cond.fieldLink RX5 77 "BedHouseModel" "fault" "I", Cond.fieldLink RX5 63 "BedHouseModel" "start" "I", Cond.methodLink RX5 80 yX5_next, Cond.instanceMethod yX5_next, Cond.selects RX5 yX5_next yX5_next, Cond.code yX5_next cX5_next 5 none, Cond.fieldLink RX5 56 "BedHouseModel" "at" "I", Cond.constant RX5 76 (54575892), Cond.methodLink RX5 59 yX5_here, Cond.instanceMethod yX5_here, Cond.selects RX5 yX5_here yX5_here, Cond.code yX5_here cX5_here 1 (some .int), Cond.fieldLink RX5 50 "BedHouseModel" "typed" "I", Cond.fieldLink RX5 7 "BedHouseModel" "text" "[B"]
def wsX5_number_r2 : List Cond := [Cond.methodLink RX5 72 yX5_meaning, Cond.static yX5_meaning, Cond.code yX5_meaning cX5_meaning 1 (some .int)]
def wsX5_number : List Cond := .code yX5_number cX5_number 3 (some .int) :: ((wsX5_number_r1 ++ wsX5_number_r2) ++ wsX50)
def wsX5_stands : List Cond := .code yX5_stands cX5_stands 4 (some .boolean) :: ([.fieldLink RX5 13 "BedHouseModel" "plan" "[I", .fieldLink RX5 20 "BedHouseModel" "at0" "[I"] ++ wsX50)
def wsX5_round_r1 : List Cond := [Cond.fieldLink RX5 77 "BedHouseModel" "fault" "I", Cond.methodLink RX5 87 yX5_number, Cond.instanceMethod yX5_number, Cond.selects RX5 yX5_number yX5_number, Cond.initialized RX5, Cond.code yX5_number cX5_number 3 (some .int), Cond.fieldLink RX5 69 "BedHouseModel" "sort" "I", Cond.fieldLink RX5 66 "BedHouseModel" "value" "I", Cond.methodLink RX5 46 yX5_in, Cond.static yX5_in, Cond.code yX5_in cX5_in 3 (some .boolean), Cond.methodLink RX5 83 yX5_due, Cond.instanceMethod yX5_due, Cond.selects RX5 yX5_due yX5_due, Cond.code yX5_due cX5_due 3 (some .int), Cond.fieldLink RX5 63 "BedHouseModel" "start" "I", Cond.methodLink RX5 80 yX5_next, Cond.instanceMethod yX5_next, Cond.selects RX5 yX5_next yX5_next, Cond.code yX5_next cX5_next 5 none, Cond.fieldLink RX5 56 "BedHouseModel" "at" "I", Cond.constant RX5 76 (54575892), Cond.methodLink RX5 59 yX5_here, Cond.instanceMethod yX5_here]
def wsX5_round_r2 : List Cond := [Cond.selects RX5 yX5_here yX5_here, Cond.code yX5_here cX5_here 1 (some .int), Cond.fieldLink RX5 50 "BedHouseModel" "typed" "I", Cond.fieldLink RX5 7 "BedHouseModel" "text" "[B", Cond.methodLink RX5 72 yX5_meaning, Cond.static yX5_meaning, Cond.code yX5_meaning cX5_meaning 1 (some .int)]
def wsX5_round : List Cond := .code yX5_round cX5_round 5 (some .int) :: ((wsX5_round_r1 ++ wsX5_round_r2) ++ wsX50)
def wsX5_mayItem : List Cond := .code yX5_mayItem cX5_mayItem 2 (some .boolean) :: ([.fieldLink RX5 13 "BedHouseModel" "plan" "[I", .fieldLink RX5 91 "BedHouseModel" "told" "I"] ++ wsX50)
def wsX5_readItem_r1 : List Cond := [Cond.fieldLink RX5 69 "BedHouseModel" "sort" "I", Cond.fieldLink RX5 77 "BedHouseModel" "fault" "I", Cond.fieldLink RX5 91 "BedHouseModel" "told" "I", Cond.fieldLink RX5 13 "BedHouseModel" "plan" "[I", Cond.fieldLink RX5 17 "BedHouseModel" "sorts" "[I", Cond.fieldLink RX5 66 "BedHouseModel" "value" "I", Cond.fieldLink RX5 20 "BedHouseModel" "at0" "[I", Cond.fieldLink RX5 23 "BedHouseModel" "beams" "[I", Cond.methodLink RX5 94 yX5_mayItem, Cond.instanceMethod yX5_mayItem, Cond.selects RX5 yX5_mayItem yX5_mayItem, Cond.initialized RX5, Cond.code yX5_mayItem cX5_mayItem 2 (some .boolean), Cond.methodLink RX5 83 yX5_due, Cond.instanceMethod yX5_due, Cond.selects RX5 yX5_due yX5_due, Cond.code yX5_due cX5_due 3 (some .int), Cond.fieldLink RX5 63 "BedHouseModel" "start" "I", Cond.methodLink RX5 80 yX5_next, Cond.instanceMethod yX5_next, Cond.selects RX5 yX5_next yX5_next, Cond.code yX5_next cX5_next 5 none, Cond.fieldLink RX5 56 "BedHouseModel" "at" "I", Cond.constant RX5 76 (54575892)]
def wsX5_readItem_r2 : List Cond := [Cond.methodLink RX5 59 yX5_here, Cond.instanceMethod yX5_here, Cond.selects RX5 yX5_here yX5_here, Cond.code yX5_here cX5_here 1 (some .int), Cond.fieldLink RX5 50 "BedHouseModel" "typed" "I", Cond.fieldLink RX5 7 "BedHouseModel" "text" "[B", Cond.methodLink RX5 46 yX5_in, Cond.static yX5_in, Cond.code yX5_in cX5_in 3 (some .boolean), Cond.methodLink RX5 72 yX5_meaning, Cond.static yX5_meaning, Cond.code yX5_meaning cX5_meaning 1 (some .int), Cond.methodLink RX5 98 yX5_stands, Cond.instanceMethod yX5_stands, Cond.selects RX5 yX5_stands yX5_stands, Cond.code yX5_stands cX5_stands 4 (some .boolean), Cond.methodLink RX5 101 yX5_round, Cond.instanceMethod yX5_round, Cond.selects RX5 yX5_round yX5_round, Cond.code yX5_round cX5_round 5 (some .int), Cond.methodLink RX5 87 yX5_number, Cond.instanceMethod yX5_number, Cond.selects RX5 yX5_number yX5_number, Cond.code yX5_number cX5_number 3 (some .int)]
def wsX5_readItem : List Cond := .code yX5_readItem cX5_readItem 4 none :: ((wsX5_readItem_r1 ++ wsX5_readItem_r2) ++ wsX50)
def wsX5_house_r1 : List Cond := [Cond.fieldLink RX5 56 "BedHouseModel" "at" "I", Cond.fieldLink RX5 77 "BedHouseModel" "fault" "I", Cond.fieldLink RX5 91 "BedHouseModel" "told" "I", Cond.fieldLink RX5 69 "BedHouseModel" "sort" "I", Cond.fieldLink RX5 13 "BedHouseModel" "plan" "[I", Cond.fieldLink RX5 17 "BedHouseModel" "sorts" "[I", Cond.fieldLink RX5 20 "BedHouseModel" "at0" "[I", Cond.fieldLink RX5 23 "BedHouseModel" "beams" "[I", Cond.fieldLink RX5 26 "BedHouseModel" "now" "[I", Cond.fieldLink RX5 29 "BedHouseModel" "isKept" "[Z", Cond.fieldLink RX5 50 "BedHouseModel" "typed" "I", Cond.methodLink RX5 42 yX5_begin, Cond.instanceMethod yX5_begin, Cond.selects RX5 yX5_begin yX5_begin, Cond.initialized RX5, Cond.code yX5_begin cX5_begin 2 none, Cond.methodLink RX5 80 yX5_next, Cond.instanceMethod yX5_next, Cond.selects RX5 yX5_next yX5_next, Cond.code yX5_next cX5_next 5 none, Cond.fieldLink RX5 63 "BedHouseModel" "start" "I", Cond.fieldLink RX5 66 "BedHouseModel" "value" "I", Cond.constant RX5 76 (54575892), Cond.methodLink RX5 59 yX5_here]
def wsX5_house_r2 : List Cond := [Cond.instanceMethod yX5_here, Cond.selects RX5 yX5_here yX5_here, Cond.code yX5_here cX5_here 1 (some .int), Cond.fieldLink RX5 7 "BedHouseModel" "text" "[B", Cond.methodLink RX5 46 yX5_in, Cond.static yX5_in, Cond.code yX5_in cX5_in 3 (some .boolean), Cond.methodLink RX5 72 yX5_meaning, Cond.static yX5_meaning, Cond.code yX5_meaning cX5_meaning 1 (some .int), Cond.methodLink RX5 104 yX5_readItem, Cond.instanceMethod yX5_readItem, Cond.selects RX5 yX5_readItem yX5_readItem, Cond.code yX5_readItem cX5_readItem 4 none, Cond.methodLink RX5 94 yX5_mayItem, Cond.instanceMethod yX5_mayItem, Cond.selects RX5 yX5_mayItem yX5_mayItem, Cond.code yX5_mayItem cX5_mayItem 2 (some .boolean), Cond.methodLink RX5 83 yX5_due, Cond.instanceMethod yX5_due, Cond.selects RX5 yX5_due yX5_due, Cond.code yX5_due cX5_due 3 (some .int), Cond.methodLink RX5 98 yX5_stands, Cond.instanceMethod yX5_stands]
def wsX5_house_r3 : List Cond := [Cond.selects RX5 yX5_stands yX5_stands, Cond.code yX5_stands cX5_stands 4 (some .boolean), Cond.methodLink RX5 101 yX5_round, Cond.instanceMethod yX5_round, Cond.selects RX5 yX5_round yX5_round, Cond.code yX5_round cX5_round 5 (some .int), Cond.methodLink RX5 87 yX5_number, Cond.instanceMethod yX5_number, Cond.selects RX5 yX5_number yX5_number, Cond.code yX5_number cX5_number 3 (some .int)]
def wsX5_house : List Cond := .code yX5_house cX5_house 4 (some .int) :: ((wsX5_house_r1 ++ (wsX5_house_r2 ++ wsX5_house_r3)) ++ wsX50)
def wsX5_isPanel : List Cond := .code yX5_isPanel cX5_isPanel 2 (some .boolean) :: ([.fieldLink RX5 13 "BedHouseModel" "plan" "[I", .methodLink RX5 46 yX5_in, .static yX5_in, .initialized RX5, .code yX5_in cX5_in 3 (some .boolean)] ++ wsX50)
def wsX5_power : List Cond := .code yX5_power cX5_power 3 (some .int) :: ([])
def wsX5_houses : List Cond := .code yX5_houses cX5_houses 1 (some .int) :: ([.fieldLink RX5 13 "BedHouseModel" "plan" "[I", .methodLink RX5 107 yX5_power, .static yX5_power, .initialized RX5, .code yX5_power cX5_power 3 (some .int)] ++ wsX50)
def wsX5_slotIn : List Cond := .code yX5_slotIn cX5_slotIn 3 (some .int) :: ([.fieldLink RX5 13 "BedHouseModel" "plan" "[I", .methodLink RX5 107 yX5_power, .static yX5_power, .initialized RX5, .code yX5_power cX5_power 3 (some .int)] ++ wsX50)
def wsX5_with : List Cond := .code yX5_with cX5_with 4 (some .int) :: ([.fieldLink RX5 13 "BedHouseModel" "plan" "[I", .methodLink RX5 110 yX5_slotIn, .instanceMethod yX5_slotIn, .selects RX5 yX5_slotIn yX5_slotIn, .initialized RX5, .code yX5_slotIn cX5_slotIn 3 (some .int), .methodLink RX5 107 yX5_power, .static yX5_power, .code yX5_power cX5_power 3 (some .int)] ++ wsX50)
def wsX5_panelAt : List Cond := .code yX5_panelAt cX5_panelAt 4 (some .int) :: ([.fieldLink RX5 13 "BedHouseModel" "plan" "[I", .methodLink RX5 110 yX5_slotIn, .instanceMethod yX5_slotIn, .selects RX5 yX5_slotIn yX5_slotIn, .initialized RX5, .code yX5_slotIn cX5_slotIn 3 (some .int), .methodLink RX5 107 yX5_power, .static yX5_power, .code yX5_power cX5_power 3 (some .int)] ++ wsX50)
def wsX5_lying : List Cond := .code yX5_lying cX5_lying 4 (some .int) :: ([.fieldLink RX5 13 "BedHouseModel" "plan" "[I", .methodLink RX5 110 yX5_slotIn, .instanceMethod yX5_slotIn, .selects RX5 yX5_slotIn yX5_slotIn, .initialized RX5, .code yX5_slotIn cX5_slotIn 3 (some .int), .methodLink RX5 107 yX5_power, .static yX5_power, .code yX5_power cX5_power 3 (some .int)] ++ wsX50)
def wsX5_isBorne : List Cond := .code yX5_isBorne cX5_isBorne 6 (some .boolean) :: ([.fieldLink RX5 13 "BedHouseModel" "plan" "[I", .fieldLink RX5 17 "BedHouseModel" "sorts" "[I", .fieldLink RX5 23 "BedHouseModel" "beams" "[I", .methodLink RX5 110 yX5_slotIn, .instanceMethod yX5_slotIn, .selects RX5 yX5_slotIn yX5_slotIn, .initialized RX5, .code yX5_slotIn cX5_slotIn 3 (some .int), .methodLink RX5 107 yX5_power, .static yX5_power, .code yX5_power cX5_power 3 (some .int)] ++ wsX50)
def wsX5_isLawful : List Cond := .code yX5_isLawful cX5_isLawful 6 (some .boolean) :: ([.fieldLink RX5 13 "BedHouseModel" "plan" "[I", .methodLink RX5 113 yX5_lying, .instanceMethod yX5_lying, .selects RX5 yX5_lying yX5_lying, .initialized RX5, .code yX5_lying cX5_lying 4 (some .int), .methodLink RX5 110 yX5_slotIn, .instanceMethod yX5_slotIn, .selects RX5 yX5_slotIn yX5_slotIn, .code yX5_slotIn cX5_slotIn 3 (some .int), .methodLink RX5 107 yX5_power, .static yX5_power, .code yX5_power cX5_power 3 (some .int), .methodLink RX5 116 yX5_isBorne, .instanceMethod yX5_isBorne, .selects RX5 yX5_isBorne yX5_isBorne, .code yX5_isBorne cX5_isBorne 6 (some .boolean), .fieldLink RX5 17 "BedHouseModel" "sorts" "[I", .fieldLink RX5 23 "BedHouseModel" "beams" "[I"] ++ wsX50)
def wsX5_sortAt : List Cond := .code yX5_sortAt cX5_sortAt 4 (some .int) :: ([.fieldLink RX5 17 "BedHouseModel" "sorts" "[I", .methodLink RX5 120 yX5_panelAt, .instanceMethod yX5_panelAt, .selects RX5 yX5_panelAt yX5_panelAt, .initialized RX5, .code yX5_panelAt cX5_panelAt 4 (some .int), .fieldLink RX5 13 "BedHouseModel" "plan" "[I", .methodLink RX5 110 yX5_slotIn, .instanceMethod yX5_slotIn, .selects RX5 yX5_slotIn yX5_slotIn, .code yX5_slotIn cX5_slotIn 3 (some .int), .methodLink RX5 107 yX5_power, .static yX5_power, .code yX5_power cX5_power 3 (some .int)] ++ wsX50)
def wsX5_leaksIn : List Cond := .code yX5_leaksIn cX5_leaksIn 4 (some .int) :: ([.fieldLink RX5 13 "BedHouseModel" "plan" "[I", .methodLink RX5 123 yX5_sortAt, .instanceMethod yX5_sortAt, .selects RX5 yX5_sortAt yX5_sortAt, .initialized RX5, .code yX5_sortAt cX5_sortAt 4 (some .int), .fieldLink RX5 17 "BedHouseModel" "sorts" "[I", .methodLink RX5 120 yX5_panelAt, .instanceMethod yX5_panelAt, .selects RX5 yX5_panelAt yX5_panelAt, .code yX5_panelAt cX5_panelAt 4 (some .int), .methodLink RX5 110 yX5_slotIn, .instanceMethod yX5_slotIn, .selects RX5 yX5_slotIn yX5_slotIn, .code yX5_slotIn cX5_slotIn 3 (some .int), .methodLink RX5 107 yX5_power, .static yX5_power, .code yX5_power cX5_power 3 (some .int), .methodLink RX5 46 yX5_in, .static yX5_in, .code yX5_in cX5_in 3 (some .boolean)] ++ wsX50)
def wsX5_isOpen : List Cond := .code yX5_isOpen cX5_isOpen 4 (some .boolean) :: ([.methodLink RX5 123 yX5_sortAt, .instanceMethod yX5_sortAt, .selects RX5 yX5_sortAt yX5_sortAt, .initialized RX5, .code yX5_sortAt cX5_sortAt 4 (some .int), .fieldLink RX5 17 "BedHouseModel" "sorts" "[I", .methodLink RX5 120 yX5_panelAt, .instanceMethod yX5_panelAt, .selects RX5 yX5_panelAt yX5_panelAt, .code yX5_panelAt cX5_panelAt 4 (some .int), .fieldLink RX5 13 "BedHouseModel" "plan" "[I", .methodLink RX5 110 yX5_slotIn, .instanceMethod yX5_slotIn, .selects RX5 yX5_slotIn yX5_slotIn, .code yX5_slotIn cX5_slotIn 3 (some .int), .methodLink RX5 107 yX5_power, .static yX5_power, .code yX5_power cX5_power 3 (some .int)] ++ wsX50)
def wsX5_isLit : List Cond := .code yX5_isLit cX5_isLit 3 (some .boolean) :: ([.fieldLink RX5 13 "BedHouseModel" "plan" "[I", .methodLink RX5 126 yX5_isOpen, .instanceMethod yX5_isOpen, .selects RX5 yX5_isOpen yX5_isOpen, .initialized RX5, .code yX5_isOpen cX5_isOpen 4 (some .boolean), .methodLink RX5 123 yX5_sortAt, .instanceMethod yX5_sortAt, .selects RX5 yX5_sortAt yX5_sortAt, .code yX5_sortAt cX5_sortAt 4 (some .int), .fieldLink RX5 17 "BedHouseModel" "sorts" "[I", .methodLink RX5 120 yX5_panelAt, .instanceMethod yX5_panelAt, .selects RX5 yX5_panelAt yX5_panelAt, .code yX5_panelAt cX5_panelAt 4 (some .int), .methodLink RX5 110 yX5_slotIn, .instanceMethod yX5_slotIn, .selects RX5 yX5_slotIn yX5_slotIn, .code yX5_slotIn cX5_slotIn 3 (some .int), .methodLink RX5 107 yX5_power, .static yX5_power, .code yX5_power cX5_power 3 (some .int)] ++ wsX50)
def wsX5_worthOf_r1 : List Cond := [Cond.fieldLink RX5 13 "BedHouseModel" "plan" "[I", Cond.methodLink RX5 129 yX5_leaksIn, Cond.instanceMethod yX5_leaksIn, Cond.selects RX5 yX5_leaksIn yX5_leaksIn, Cond.initialized RX5, Cond.code yX5_leaksIn cX5_leaksIn 4 (some .int), Cond.methodLink RX5 123 yX5_sortAt, Cond.instanceMethod yX5_sortAt, Cond.selects RX5 yX5_sortAt yX5_sortAt, Cond.code yX5_sortAt cX5_sortAt 4 (some .int), Cond.fieldLink RX5 17 "BedHouseModel" "sorts" "[I", Cond.methodLink RX5 120 yX5_panelAt, Cond.instanceMethod yX5_panelAt, Cond.selects RX5 yX5_panelAt yX5_panelAt, Cond.code yX5_panelAt cX5_panelAt 4 (some .int), Cond.methodLink RX5 110 yX5_slotIn, Cond.instanceMethod yX5_slotIn, Cond.selects RX5 yX5_slotIn yX5_slotIn, Cond.code yX5_slotIn cX5_slotIn 3 (some .int), Cond.methodLink RX5 107 yX5_power, Cond.static yX5_power, Cond.code yX5_power cX5_power 3 (some .int), Cond.methodLink RX5 46 yX5_in, Cond.static yX5_in]
def wsX5_worthOf_r2 : List Cond := [Cond.code yX5_in cX5_in 3 (some .boolean), Cond.methodLink RX5 132 yX5_isLit, Cond.instanceMethod yX5_isLit, Cond.selects RX5 yX5_isLit yX5_isLit, Cond.code yX5_isLit cX5_isLit 3 (some .boolean), Cond.methodLink RX5 126 yX5_isOpen, Cond.instanceMethod yX5_isOpen, Cond.selects RX5 yX5_isOpen yX5_isOpen, Cond.code yX5_isOpen cX5_isOpen 4 (some .boolean)]
def wsX5_worthOf : List Cond := .code yX5_worthOf cX5_worthOf 4 (some .int) :: ((wsX5_worthOf_r1 ++ wsX5_worthOf_r2) ++ wsX50)
def wsX5_panel : List Cond := .code yX5_panel cX5_panel 3 (some .int) :: ([.fieldLink RX5 17 "BedHouseModel" "sorts" "[I", .fieldLink RX5 26 "BedHouseModel" "now" "[I", .methodLink RX5 135 yX5_isPanel, .instanceMethod yX5_isPanel, .selects RX5 yX5_isPanel yX5_isPanel, .initialized RX5, .code yX5_isPanel cX5_isPanel 2 (some .boolean), .fieldLink RX5 13 "BedHouseModel" "plan" "[I", .methodLink RX5 46 yX5_in, .static yX5_in, .code yX5_in cX5_in 3 (some .boolean), .methodLink RX5 110 yX5_slotIn, .instanceMethod yX5_slotIn, .selects RX5 yX5_slotIn yX5_slotIn, .code yX5_slotIn cX5_slotIn 3 (some .int), .methodLink RX5 107 yX5_power, .static yX5_power, .code yX5_power cX5_power 3 (some .int)] ++ wsX50)
def wsX5_slot : List Cond := .code yX5_slot cX5_slot 3 (some .int) :: ([.fieldLink RX5 26 "BedHouseModel" "now" "[I", .fieldLink RX5 13 "BedHouseModel" "plan" "[I", .methodLink RX5 46 yX5_in, .static yX5_in, .initialized RX5, .code yX5_in cX5_in 3 (some .boolean), .methodLink RX5 120 yX5_panelAt, .instanceMethod yX5_panelAt, .selects RX5 yX5_panelAt yX5_panelAt, .code yX5_panelAt cX5_panelAt 4 (some .int), .methodLink RX5 110 yX5_slotIn, .instanceMethod yX5_slotIn, .selects RX5 yX5_slotIn yX5_slotIn, .code yX5_slotIn cX5_slotIn 3 (some .int), .methodLink RX5 107 yX5_power, .static yX5_power, .code yX5_power cX5_power 3 (some .int)] ++ wsX50)
def wsX5_told : List Cond := .code yX5_told cX5_told 2 (some .int) :: ([.fieldLink RX5 13 "BedHouseModel" "plan" "[I", .methodLink RX5 46 yX5_in, .static yX5_in, .initialized RX5, .code yX5_in cX5_in 3 (some .boolean)] ++ wsX50)
def wsX5_beam : List Cond := .code yX5_beam cX5_beam 2 (some .int) :: ([.fieldLink RX5 13 "BedHouseModel" "plan" "[I", .fieldLink RX5 26 "BedHouseModel" "now" "[I", .methodLink RX5 46 yX5_in, .static yX5_in, .initialized RX5, .code yX5_in cX5_in 3 (some .boolean), .methodLink RX5 116 yX5_isBorne, .instanceMethod yX5_isBorne, .selects RX5 yX5_isBorne yX5_isBorne, .code yX5_isBorne cX5_isBorne 6 (some .boolean), .fieldLink RX5 17 "BedHouseModel" "sorts" "[I", .fieldLink RX5 23 "BedHouseModel" "beams" "[I", .methodLink RX5 110 yX5_slotIn, .instanceMethod yX5_slotIn, .selects RX5 yX5_slotIn yX5_slotIn, .code yX5_slotIn cX5_slotIn 3 (some .int), .methodLink RX5 107 yX5_power, .static yX5_power, .code yX5_power cX5_power 3 (some .int)] ++ wsX50)
def wsX5_act : List Cond := .code yX5_act cX5_act 2 (some .int) :: ([.fieldLink RX5 26 "BedHouseModel" "now" "[I", .fieldLink RX5 13 "BedHouseModel" "plan" "[I", .methodLink RX5 138 yX5_isLawful, .instanceMethod yX5_isLawful, .selects RX5 yX5_isLawful yX5_isLawful, .initialized RX5, .code yX5_isLawful cX5_isLawful 6 (some .boolean), .methodLink RX5 113 yX5_lying, .instanceMethod yX5_lying, .selects RX5 yX5_lying yX5_lying, .code yX5_lying cX5_lying 4 (some .int), .methodLink RX5 110 yX5_slotIn, .instanceMethod yX5_slotIn, .selects RX5 yX5_slotIn yX5_slotIn, .code yX5_slotIn cX5_slotIn 3 (some .int), .methodLink RX5 107 yX5_power, .static yX5_power, .code yX5_power cX5_power 3 (some .int), .methodLink RX5 116 yX5_isBorne, .instanceMethod yX5_isBorne, .selects RX5 yX5_isBorne yX5_isBorne, .code yX5_isBorne cX5_isBorne 6 (some .boolean), .fieldLink RX5 17 "BedHouseModel" "sorts" "[I", .fieldLink RX5 23 "BedHouseModel" "beams" "[I"] ++ wsX50)
def wsX5_down_r1 : List Cond := [Cond.fieldLink RX5 26 "BedHouseModel" "now" "[I", Cond.methodLink RX5 135 yX5_isPanel, Cond.instanceMethod yX5_isPanel, Cond.selects RX5 yX5_isPanel yX5_isPanel, Cond.initialized RX5, Cond.code yX5_isPanel cX5_isPanel 2 (some .boolean), Cond.fieldLink RX5 13 "BedHouseModel" "plan" "[I", Cond.methodLink RX5 46 yX5_in, Cond.static yX5_in, Cond.code yX5_in cX5_in 3 (some .boolean), Cond.methodLink RX5 110 yX5_slotIn, Cond.instanceMethod yX5_slotIn, Cond.selects RX5 yX5_slotIn yX5_slotIn, Cond.code yX5_slotIn cX5_slotIn 3 (some .int), Cond.methodLink RX5 107 yX5_power, Cond.static yX5_power, Cond.code yX5_power cX5_power 3 (some .int), Cond.methodLink RX5 141 yX5_with, Cond.instanceMethod yX5_with, Cond.selects RX5 yX5_with yX5_with, Cond.code yX5_with cX5_with 4 (some .int), Cond.methodLink RX5 145 yX5_act, Cond.instanceMethod yX5_act, Cond.selects RX5 yX5_act yX5_act]
def wsX5_down_r2 : List Cond := [Cond.code yX5_act cX5_act 2 (some .int), Cond.methodLink RX5 138 yX5_isLawful, Cond.instanceMethod yX5_isLawful, Cond.selects RX5 yX5_isLawful yX5_isLawful, Cond.code yX5_isLawful cX5_isLawful 6 (some .boolean), Cond.methodLink RX5 113 yX5_lying, Cond.instanceMethod yX5_lying, Cond.selects RX5 yX5_lying yX5_lying, Cond.code yX5_lying cX5_lying 4 (some .int), Cond.methodLink RX5 116 yX5_isBorne, Cond.instanceMethod yX5_isBorne, Cond.selects RX5 yX5_isBorne yX5_isBorne, Cond.code yX5_isBorne cX5_isBorne 6 (some .boolean), Cond.fieldLink RX5 17 "BedHouseModel" "sorts" "[I", Cond.fieldLink RX5 23 "BedHouseModel" "beams" "[I"]
def wsX5_down : List Cond := .code yX5_down cX5_down 2 (some .int) :: ((wsX5_down_r1 ++ wsX5_down_r2) ++ wsX50)
def wsX5_up_r1 : List Cond := [Cond.fieldLink RX5 26 "BedHouseModel" "now" "[I", Cond.methodLink RX5 135 yX5_isPanel, Cond.instanceMethod yX5_isPanel, Cond.selects RX5 yX5_isPanel yX5_isPanel, Cond.initialized RX5, Cond.code yX5_isPanel cX5_isPanel 2 (some .boolean), Cond.fieldLink RX5 13 "BedHouseModel" "plan" "[I", Cond.methodLink RX5 46 yX5_in, Cond.static yX5_in, Cond.code yX5_in cX5_in 3 (some .boolean), Cond.methodLink RX5 110 yX5_slotIn, Cond.instanceMethod yX5_slotIn, Cond.selects RX5 yX5_slotIn yX5_slotIn, Cond.code yX5_slotIn cX5_slotIn 3 (some .int), Cond.methodLink RX5 107 yX5_power, Cond.static yX5_power, Cond.code yX5_power cX5_power 3 (some .int), Cond.methodLink RX5 120 yX5_panelAt, Cond.instanceMethod yX5_panelAt, Cond.selects RX5 yX5_panelAt yX5_panelAt, Cond.code yX5_panelAt cX5_panelAt 4 (some .int), Cond.methodLink RX5 141 yX5_with, Cond.instanceMethod yX5_with, Cond.selects RX5 yX5_with yX5_with]
def wsX5_up_r2 : List Cond := [Cond.code yX5_with cX5_with 4 (some .int), Cond.methodLink RX5 145 yX5_act, Cond.instanceMethod yX5_act, Cond.selects RX5 yX5_act yX5_act, Cond.code yX5_act cX5_act 2 (some .int), Cond.methodLink RX5 138 yX5_isLawful, Cond.instanceMethod yX5_isLawful, Cond.selects RX5 yX5_isLawful yX5_isLawful, Cond.code yX5_isLawful cX5_isLawful 6 (some .boolean), Cond.methodLink RX5 113 yX5_lying, Cond.instanceMethod yX5_lying, Cond.selects RX5 yX5_lying yX5_lying, Cond.code yX5_lying cX5_lying 4 (some .int), Cond.methodLink RX5 116 yX5_isBorne, Cond.instanceMethod yX5_isBorne, Cond.selects RX5 yX5_isBorne yX5_isBorne, Cond.code yX5_isBorne cX5_isBorne 6 (some .boolean), Cond.fieldLink RX5 17 "BedHouseModel" "sorts" "[I", Cond.fieldLink RX5 23 "BedHouseModel" "beams" "[I"]
def wsX5_up : List Cond := .code yX5_up cX5_up 3 (some .int) :: ((wsX5_up_r1 ++ wsX5_up_r2) ++ wsX50)
def wsX5_night_r1 : List Cond := [Cond.fieldLink RX5 26 "BedHouseModel" "now" "[I", Cond.methodLink RX5 129 yX5_leaksIn, Cond.instanceMethod yX5_leaksIn, Cond.selects RX5 yX5_leaksIn yX5_leaksIn, Cond.initialized RX5, Cond.code yX5_leaksIn cX5_leaksIn 4 (some .int), Cond.fieldLink RX5 13 "BedHouseModel" "plan" "[I", Cond.methodLink RX5 123 yX5_sortAt, Cond.instanceMethod yX5_sortAt, Cond.selects RX5 yX5_sortAt yX5_sortAt, Cond.code yX5_sortAt cX5_sortAt 4 (some .int), Cond.fieldLink RX5 17 "BedHouseModel" "sorts" "[I", Cond.methodLink RX5 120 yX5_panelAt, Cond.instanceMethod yX5_panelAt, Cond.selects RX5 yX5_panelAt yX5_panelAt, Cond.code yX5_panelAt cX5_panelAt 4 (some .int), Cond.methodLink RX5 110 yX5_slotIn, Cond.instanceMethod yX5_slotIn, Cond.selects RX5 yX5_slotIn yX5_slotIn, Cond.code yX5_slotIn cX5_slotIn 3 (some .int), Cond.methodLink RX5 107 yX5_power, Cond.static yX5_power, Cond.code yX5_power cX5_power 3 (some .int), Cond.methodLink RX5 46 yX5_in]
def wsX5_night_r2 : List Cond := [Cond.static yX5_in, Cond.code yX5_in cX5_in 3 (some .boolean)]
def wsX5_night : List Cond := .code yX5_night cX5_night 2 (some .int) :: ((wsX5_night_r1 ++ wsX5_night_r2) ++ wsX50)
def wsX5_now_r1 : List Cond := [Cond.fieldLink RX5 26 "BedHouseModel" "now" "[I", Cond.constant RX5 151 (-1000000), Cond.methodLink RX5 148 yX5_worthOf, Cond.instanceMethod yX5_worthOf, Cond.selects RX5 yX5_worthOf yX5_worthOf, Cond.initialized RX5, Cond.code yX5_worthOf cX5_worthOf 4 (some .int), Cond.fieldLink RX5 13 "BedHouseModel" "plan" "[I", Cond.methodLink RX5 129 yX5_leaksIn, Cond.instanceMethod yX5_leaksIn, Cond.selects RX5 yX5_leaksIn yX5_leaksIn, Cond.code yX5_leaksIn cX5_leaksIn 4 (some .int), Cond.methodLink RX5 123 yX5_sortAt, Cond.instanceMethod yX5_sortAt, Cond.selects RX5 yX5_sortAt yX5_sortAt, Cond.code yX5_sortAt cX5_sortAt 4 (some .int), Cond.fieldLink RX5 17 "BedHouseModel" "sorts" "[I", Cond.methodLink RX5 120 yX5_panelAt, Cond.instanceMethod yX5_panelAt, Cond.selects RX5 yX5_panelAt yX5_panelAt, Cond.code yX5_panelAt cX5_panelAt 4 (some .int), Cond.methodLink RX5 110 yX5_slotIn, Cond.instanceMethod yX5_slotIn, Cond.selects RX5 yX5_slotIn yX5_slotIn]
def wsX5_now_r2 : List Cond := [Cond.code yX5_slotIn cX5_slotIn 3 (some .int), Cond.methodLink RX5 107 yX5_power, Cond.static yX5_power, Cond.code yX5_power cX5_power 3 (some .int), Cond.methodLink RX5 46 yX5_in, Cond.static yX5_in, Cond.code yX5_in cX5_in 3 (some .boolean), Cond.methodLink RX5 132 yX5_isLit, Cond.instanceMethod yX5_isLit, Cond.selects RX5 yX5_isLit yX5_isLit, Cond.code yX5_isLit cX5_isLit 3 (some .boolean), Cond.methodLink RX5 126 yX5_isOpen, Cond.instanceMethod yX5_isOpen, Cond.selects RX5 yX5_isOpen yX5_isOpen, Cond.code yX5_isOpen cX5_isOpen 4 (some .boolean), Cond.methodLink RX5 138 yX5_isLawful, Cond.instanceMethod yX5_isLawful, Cond.selects RX5 yX5_isLawful yX5_isLawful, Cond.code yX5_isLawful cX5_isLawful 6 (some .boolean), Cond.methodLink RX5 113 yX5_lying, Cond.instanceMethod yX5_lying, Cond.selects RX5 yX5_lying yX5_lying, Cond.code yX5_lying cX5_lying 4 (some .int), Cond.methodLink RX5 116 yX5_isBorne]
def wsX5_now_r3 : List Cond := [Cond.instanceMethod yX5_isBorne, Cond.selects RX5 yX5_isBorne yX5_isBorne, Cond.code yX5_isBorne cX5_isBorne 6 (some .boolean), Cond.fieldLink RX5 23 "BedHouseModel" "beams" "[I"]
def wsX5_now : List Cond := .code yX5_now cX5_now 2 (some .int) :: ((wsX5_now_r1 ++ (wsX5_now_r2 ++ wsX5_now_r3)) ++ wsX50)
def wsX5_lit_r1 : List Cond := [Cond.fieldLink RX5 26 "BedHouseModel" "now" "[I", Cond.methodLink RX5 46 yX5_in, Cond.static yX5_in, Cond.initialized RX5, Cond.code yX5_in cX5_in 3 (some .boolean), Cond.methodLink RX5 132 yX5_isLit, Cond.instanceMethod yX5_isLit, Cond.selects RX5 yX5_isLit yX5_isLit, Cond.code yX5_isLit cX5_isLit 3 (some .boolean), Cond.fieldLink RX5 13 "BedHouseModel" "plan" "[I", Cond.methodLink RX5 126 yX5_isOpen, Cond.instanceMethod yX5_isOpen, Cond.selects RX5 yX5_isOpen yX5_isOpen, Cond.code yX5_isOpen cX5_isOpen 4 (some .boolean), Cond.methodLink RX5 123 yX5_sortAt, Cond.instanceMethod yX5_sortAt, Cond.selects RX5 yX5_sortAt yX5_sortAt, Cond.code yX5_sortAt cX5_sortAt 4 (some .int), Cond.fieldLink RX5 17 "BedHouseModel" "sorts" "[I", Cond.methodLink RX5 120 yX5_panelAt, Cond.instanceMethod yX5_panelAt, Cond.selects RX5 yX5_panelAt yX5_panelAt, Cond.code yX5_panelAt cX5_panelAt 4 (some .int), Cond.methodLink RX5 110 yX5_slotIn]
def wsX5_lit_r2 : List Cond := [Cond.instanceMethod yX5_slotIn, Cond.selects RX5 yX5_slotIn yX5_slotIn, Cond.code yX5_slotIn cX5_slotIn 3 (some .int), Cond.methodLink RX5 107 yX5_power, Cond.static yX5_power, Cond.code yX5_power cX5_power 3 (some .int)]
def wsX5_lit : List Cond := .code yX5_lit cX5_lit 2 (some .int) :: ((wsX5_lit_r1 ++ wsX5_lit_r2) ++ wsX50)
def wsX5_reach : List Cond := .code yX5_reach cX5_reach 3 none :: ([.fieldLink RX5 33 "BedHouseModel" "off" "[I", .fieldLink RX5 36 "BedHouseModel" "reached" "[I", .fieldLink RX5 152 "BedHouseModel" "reachedMany" "I"] ++ wsX50)
def wsX5_none : List Cond := .code yX5_none cX5_none 2 none :: ([.fieldLink RX5 33 "BedHouseModel" "off" "[I", .fieldLink RX5 152 "BedHouseModel" "reachedMany" "I"] ++ wsX50)
def wsX5_go_r1 : List Cond := [Cond.fieldLink RX5 152 "BedHouseModel" "reachedMany" "I", Cond.fieldLink RX5 36 "BedHouseModel" "reached" "[I", Cond.fieldLink RX5 13 "BedHouseModel" "plan" "[I", Cond.fieldLink RX5 33 "BedHouseModel" "off" "[I", Cond.methodLink RX5 110 yX5_slotIn, Cond.instanceMethod yX5_slotIn, Cond.selects RX5 yX5_slotIn yX5_slotIn, Cond.initialized RX5, Cond.code yX5_slotIn cX5_slotIn 3 (some .int), Cond.methodLink RX5 107 yX5_power, Cond.static yX5_power, Cond.code yX5_power cX5_power 3 (some .int), Cond.methodLink RX5 120 yX5_panelAt, Cond.instanceMethod yX5_panelAt, Cond.selects RX5 yX5_panelAt yX5_panelAt, Cond.code yX5_panelAt cX5_panelAt 4 (some .int), Cond.methodLink RX5 141 yX5_with, Cond.instanceMethod yX5_with, Cond.selects RX5 yX5_with yX5_with, Cond.code yX5_with cX5_with 4 (some .int), Cond.methodLink RX5 138 yX5_isLawful, Cond.instanceMethod yX5_isLawful, Cond.selects RX5 yX5_isLawful yX5_isLawful, Cond.code yX5_isLawful cX5_isLawful 6 (some .boolean)]
def wsX5_go_r2 : List Cond := [Cond.methodLink RX5 113 yX5_lying, Cond.instanceMethod yX5_lying, Cond.selects RX5 yX5_lying yX5_lying, Cond.code yX5_lying cX5_lying 4 (some .int), Cond.methodLink RX5 116 yX5_isBorne, Cond.instanceMethod yX5_isBorne, Cond.selects RX5 yX5_isBorne yX5_isBorne, Cond.code yX5_isBorne cX5_isBorne 6 (some .boolean), Cond.fieldLink RX5 17 "BedHouseModel" "sorts" "[I", Cond.fieldLink RX5 23 "BedHouseModel" "beams" "[I", Cond.methodLink RX5 155 yX5_reach, Cond.instanceMethod yX5_reach, Cond.selects RX5 yX5_reach yX5_reach, Cond.code yX5_reach cX5_reach 3 none]
def wsX5_go : List Cond := .code yX5_go cX5_go 8 none :: ((wsX5_go_r1 ++ wsX5_go_r2) ++ wsX50)
def wsX5_goFrom_r1 : List Cond := [Cond.methodLink RX5 159 yX5_none, Cond.instanceMethod yX5_none, Cond.selects RX5 yX5_none yX5_none, Cond.initialized RX5, Cond.code yX5_none cX5_none 2 none, Cond.fieldLink RX5 33 "BedHouseModel" "off" "[I", Cond.fieldLink RX5 152 "BedHouseModel" "reachedMany" "I", Cond.methodLink RX5 155 yX5_reach, Cond.instanceMethod yX5_reach, Cond.selects RX5 yX5_reach yX5_reach, Cond.code yX5_reach cX5_reach 3 none, Cond.fieldLink RX5 36 "BedHouseModel" "reached" "[I", Cond.methodLink RX5 162 yX5_go, Cond.instanceMethod yX5_go, Cond.selects RX5 yX5_go yX5_go, Cond.code yX5_go cX5_go 8 none, Cond.fieldLink RX5 13 "BedHouseModel" "plan" "[I", Cond.methodLink RX5 110 yX5_slotIn, Cond.instanceMethod yX5_slotIn, Cond.selects RX5 yX5_slotIn yX5_slotIn, Cond.code yX5_slotIn cX5_slotIn 3 (some .int), Cond.methodLink RX5 107 yX5_power, Cond.static yX5_power, Cond.code yX5_power cX5_power 3 (some .int)]
def wsX5_goFrom_r2 : List Cond := [Cond.methodLink RX5 120 yX5_panelAt, Cond.instanceMethod yX5_panelAt, Cond.selects RX5 yX5_panelAt yX5_panelAt, Cond.code yX5_panelAt cX5_panelAt 4 (some .int), Cond.methodLink RX5 141 yX5_with, Cond.instanceMethod yX5_with, Cond.selects RX5 yX5_with yX5_with, Cond.code yX5_with cX5_with 4 (some .int), Cond.methodLink RX5 138 yX5_isLawful, Cond.instanceMethod yX5_isLawful, Cond.selects RX5 yX5_isLawful yX5_isLawful, Cond.code yX5_isLawful cX5_isLawful 6 (some .boolean), Cond.methodLink RX5 113 yX5_lying, Cond.instanceMethod yX5_lying, Cond.selects RX5 yX5_lying yX5_lying, Cond.code yX5_lying cX5_lying 4 (some .int), Cond.methodLink RX5 116 yX5_isBorne, Cond.instanceMethod yX5_isBorne, Cond.selects RX5 yX5_isBorne yX5_isBorne, Cond.code yX5_isBorne cX5_isBorne 6 (some .boolean), Cond.fieldLink RX5 17 "BedHouseModel" "sorts" "[I", Cond.fieldLink RX5 23 "BedHouseModel" "beams" "[I"]
def wsX5_goFrom : List Cond := .code yX5_goFrom cX5_goFrom 2 none :: ((wsX5_goFrom_r1 ++ wsX5_goFrom_r2) ++ wsX50)
def wsX5_refuses : List Cond := .code yX5_refuses cX5_refuses 2 (some .int) :: ([.fieldLink RX5 29 "BedHouseModel" "isKept" "[Z", .methodLink RX5 46 yX5_in, .static yX5_in, .initialized RX5, .code yX5_in cX5_in 3 (some .boolean)] ++ wsX50)
def wsX5_houseOf : List Cond := .code yX5_houseOf cX5_houseOf 2 (some .int) :: ([.fieldLink RX5 26 "BedHouseModel" "now" "[I"] ++ wsX50)
def wsX5_fewest_r1 : List Cond := [Cond.fieldLink RX5 26 "BedHouseModel" "now" "[I", Cond.fieldLink RX5 33 "BedHouseModel" "off" "[I", Cond.methodLink RX5 165 yX5_refuses, Cond.instanceMethod yX5_refuses, Cond.selects RX5 yX5_refuses yX5_refuses, Cond.initialized RX5, Cond.code yX5_refuses cX5_refuses 2 (some .int), Cond.fieldLink RX5 29 "BedHouseModel" "isKept" "[Z", Cond.methodLink RX5 46 yX5_in, Cond.static yX5_in, Cond.code yX5_in cX5_in 3 (some .boolean), Cond.methodLink RX5 168 yX5_goFrom, Cond.instanceMethod yX5_goFrom, Cond.selects RX5 yX5_goFrom yX5_goFrom, Cond.code yX5_goFrom cX5_goFrom 2 none, Cond.methodLink RX5 159 yX5_none, Cond.instanceMethod yX5_none, Cond.selects RX5 yX5_none yX5_none, Cond.code yX5_none cX5_none 2 none, Cond.fieldLink RX5 152 "BedHouseModel" "reachedMany" "I", Cond.methodLink RX5 155 yX5_reach, Cond.instanceMethod yX5_reach, Cond.selects RX5 yX5_reach yX5_reach, Cond.code yX5_reach cX5_reach 3 none]
def wsX5_fewest_r2 : List Cond := [Cond.fieldLink RX5 36 "BedHouseModel" "reached" "[I", Cond.methodLink RX5 162 yX5_go, Cond.instanceMethod yX5_go, Cond.selects RX5 yX5_go yX5_go, Cond.code yX5_go cX5_go 8 none, Cond.fieldLink RX5 13 "BedHouseModel" "plan" "[I", Cond.methodLink RX5 110 yX5_slotIn, Cond.instanceMethod yX5_slotIn, Cond.selects RX5 yX5_slotIn yX5_slotIn, Cond.code yX5_slotIn cX5_slotIn 3 (some .int), Cond.methodLink RX5 107 yX5_power, Cond.static yX5_power, Cond.code yX5_power cX5_power 3 (some .int), Cond.methodLink RX5 120 yX5_panelAt, Cond.instanceMethod yX5_panelAt, Cond.selects RX5 yX5_panelAt yX5_panelAt, Cond.code yX5_panelAt cX5_panelAt 4 (some .int), Cond.methodLink RX5 141 yX5_with, Cond.instanceMethod yX5_with, Cond.selects RX5 yX5_with yX5_with, Cond.code yX5_with cX5_with 4 (some .int), Cond.methodLink RX5 138 yX5_isLawful, Cond.instanceMethod yX5_isLawful, Cond.selects RX5 yX5_isLawful yX5_isLawful]
def wsX5_fewest_r3 : List Cond := [Cond.code yX5_isLawful cX5_isLawful 6 (some .boolean), Cond.methodLink RX5 113 yX5_lying, Cond.instanceMethod yX5_lying, Cond.selects RX5 yX5_lying yX5_lying, Cond.code yX5_lying cX5_lying 4 (some .int), Cond.methodLink RX5 116 yX5_isBorne, Cond.instanceMethod yX5_isBorne, Cond.selects RX5 yX5_isBorne yX5_isBorne, Cond.code yX5_isBorne cX5_isBorne 6 (some .boolean), Cond.fieldLink RX5 17 "BedHouseModel" "sorts" "[I", Cond.fieldLink RX5 23 "BedHouseModel" "beams" "[I", Cond.methodLink RX5 171 yX5_houseOf, Cond.instanceMethod yX5_houseOf, Cond.selects RX5 yX5_houseOf yX5_houseOf, Cond.code yX5_houseOf cX5_houseOf 2 (some .int)]
def wsX5_fewest : List Cond := .code yX5_fewest cX5_fewest 3 (some .int) :: ((wsX5_fewest_r1 ++ (wsX5_fewest_r2 ++ wsX5_fewest_r3)) ++ wsX50)
def wsX5_first_r1 : List Cond := [Cond.fieldLink RX5 26 "BedHouseModel" "now" "[I", Cond.fieldLink RX5 13 "BedHouseModel" "plan" "[I", Cond.fieldLink RX5 33 "BedHouseModel" "off" "[I", Cond.methodLink RX5 165 yX5_refuses, Cond.instanceMethod yX5_refuses, Cond.selects RX5 yX5_refuses yX5_refuses, Cond.initialized RX5, Cond.code yX5_refuses cX5_refuses 2 (some .int), Cond.fieldLink RX5 29 "BedHouseModel" "isKept" "[Z", Cond.methodLink RX5 46 yX5_in, Cond.static yX5_in, Cond.code yX5_in cX5_in 3 (some .boolean), Cond.methodLink RX5 171 yX5_houseOf, Cond.instanceMethod yX5_houseOf, Cond.selects RX5 yX5_houseOf yX5_houseOf, Cond.code yX5_houseOf cX5_houseOf 2 (some .int), Cond.methodLink RX5 138 yX5_isLawful, Cond.instanceMethod yX5_isLawful, Cond.selects RX5 yX5_isLawful yX5_isLawful, Cond.code yX5_isLawful cX5_isLawful 6 (some .boolean), Cond.methodLink RX5 113 yX5_lying, Cond.instanceMethod yX5_lying, Cond.selects RX5 yX5_lying yX5_lying, Cond.code yX5_lying cX5_lying 4 (some .int)]
def wsX5_first_r2 : List Cond := [Cond.methodLink RX5 110 yX5_slotIn, Cond.instanceMethod yX5_slotIn, Cond.selects RX5 yX5_slotIn yX5_slotIn, Cond.code yX5_slotIn cX5_slotIn 3 (some .int), Cond.methodLink RX5 107 yX5_power, Cond.static yX5_power, Cond.code yX5_power cX5_power 3 (some .int), Cond.methodLink RX5 116 yX5_isBorne, Cond.instanceMethod yX5_isBorne, Cond.selects RX5 yX5_isBorne yX5_isBorne, Cond.code yX5_isBorne cX5_isBorne 6 (some .boolean), Cond.fieldLink RX5 17 "BedHouseModel" "sorts" "[I", Cond.fieldLink RX5 23 "BedHouseModel" "beams" "[I", Cond.methodLink RX5 168 yX5_goFrom, Cond.instanceMethod yX5_goFrom, Cond.selects RX5 yX5_goFrom yX5_goFrom, Cond.code yX5_goFrom cX5_goFrom 2 none, Cond.methodLink RX5 159 yX5_none, Cond.instanceMethod yX5_none, Cond.selects RX5 yX5_none yX5_none, Cond.code yX5_none cX5_none 2 none, Cond.fieldLink RX5 152 "BedHouseModel" "reachedMany" "I", Cond.methodLink RX5 155 yX5_reach, Cond.instanceMethod yX5_reach]
def wsX5_first_r3 : List Cond := [Cond.selects RX5 yX5_reach yX5_reach, Cond.code yX5_reach cX5_reach 3 none, Cond.fieldLink RX5 36 "BedHouseModel" "reached" "[I", Cond.methodLink RX5 162 yX5_go, Cond.instanceMethod yX5_go, Cond.selects RX5 yX5_go yX5_go, Cond.code yX5_go cX5_go 8 none, Cond.methodLink RX5 120 yX5_panelAt, Cond.instanceMethod yX5_panelAt, Cond.selects RX5 yX5_panelAt yX5_panelAt, Cond.code yX5_panelAt cX5_panelAt 4 (some .int), Cond.methodLink RX5 141 yX5_with, Cond.instanceMethod yX5_with, Cond.selects RX5 yX5_with yX5_with, Cond.code yX5_with cX5_with 4 (some .int)]
def wsX5_first : List Cond := .code yX5_first cX5_first 11 (some .int) :: ((wsX5_first_r1 ++ (wsX5_first_r2 ++ wsX5_first_r3)) ++ wsX50)
def wsX5_nights_r1 : List Cond := [Cond.fieldLink RX5 26 "BedHouseModel" "now" "[I", Cond.fieldLink RX5 13 "BedHouseModel" "plan" "[I", Cond.fieldLink RX5 33 "BedHouseModel" "off" "[I", Cond.fieldLink RX5 39 "BedHouseModel" "isSlept" "[Z", Cond.methodLink RX5 165 yX5_refuses, Cond.instanceMethod yX5_refuses, Cond.selects RX5 yX5_refuses yX5_refuses, Cond.initialized RX5, Cond.code yX5_refuses cX5_refuses 2 (some .int), Cond.fieldLink RX5 29 "BedHouseModel" "isKept" "[Z", Cond.methodLink RX5 46 yX5_in, Cond.static yX5_in, Cond.code yX5_in cX5_in 3 (some .boolean), Cond.methodLink RX5 171 yX5_houseOf, Cond.instanceMethod yX5_houseOf, Cond.selects RX5 yX5_houseOf yX5_houseOf, Cond.code yX5_houseOf cX5_houseOf 2 (some .int), Cond.methodLink RX5 159 yX5_none, Cond.instanceMethod yX5_none, Cond.selects RX5 yX5_none yX5_none, Cond.code yX5_none cX5_none 2 none, Cond.fieldLink RX5 152 "BedHouseModel" "reachedMany" "I", Cond.methodLink RX5 155 yX5_reach, Cond.instanceMethod yX5_reach]
def wsX5_nights_r2 : List Cond := [Cond.selects RX5 yX5_reach yX5_reach, Cond.code yX5_reach cX5_reach 3 none, Cond.fieldLink RX5 36 "BedHouseModel" "reached" "[I", Cond.methodLink RX5 162 yX5_go, Cond.instanceMethod yX5_go, Cond.selects RX5 yX5_go yX5_go, Cond.code yX5_go cX5_go 8 none, Cond.methodLink RX5 110 yX5_slotIn, Cond.instanceMethod yX5_slotIn, Cond.selects RX5 yX5_slotIn yX5_slotIn, Cond.code yX5_slotIn cX5_slotIn 3 (some .int), Cond.methodLink RX5 107 yX5_power, Cond.static yX5_power, Cond.code yX5_power cX5_power 3 (some .int), Cond.methodLink RX5 120 yX5_panelAt, Cond.instanceMethod yX5_panelAt, Cond.selects RX5 yX5_panelAt yX5_panelAt, Cond.code yX5_panelAt cX5_panelAt 4 (some .int), Cond.methodLink RX5 141 yX5_with, Cond.instanceMethod yX5_with, Cond.selects RX5 yX5_with yX5_with, Cond.code yX5_with cX5_with 4 (some .int), Cond.methodLink RX5 138 yX5_isLawful, Cond.instanceMethod yX5_isLawful]
def wsX5_nights_r3 : List Cond := [Cond.selects RX5 yX5_isLawful yX5_isLawful, Cond.code yX5_isLawful cX5_isLawful 6 (some .boolean), Cond.methodLink RX5 113 yX5_lying, Cond.instanceMethod yX5_lying, Cond.selects RX5 yX5_lying yX5_lying, Cond.code yX5_lying cX5_lying 4 (some .int), Cond.methodLink RX5 116 yX5_isBorne, Cond.instanceMethod yX5_isBorne, Cond.selects RX5 yX5_isBorne yX5_isBorne, Cond.code yX5_isBorne cX5_isBorne 6 (some .boolean), Cond.fieldLink RX5 17 "BedHouseModel" "sorts" "[I", Cond.fieldLink RX5 23 "BedHouseModel" "beams" "[I", Cond.methodLink RX5 174 yX5_houses, Cond.instanceMethod yX5_houses, Cond.selects RX5 yX5_houses yX5_houses, Cond.code yX5_houses cX5_houses 1 (some .int), Cond.methodLink RX5 129 yX5_leaksIn, Cond.instanceMethod yX5_leaksIn, Cond.selects RX5 yX5_leaksIn yX5_leaksIn, Cond.code yX5_leaksIn cX5_leaksIn 4 (some .int), Cond.methodLink RX5 123 yX5_sortAt, Cond.instanceMethod yX5_sortAt, Cond.selects RX5 yX5_sortAt yX5_sortAt, Cond.code yX5_sortAt cX5_sortAt 4 (some .int)]
def wsX5_nights : List Cond := .code yX5_nights cX5_nights 5 (some .int) :: ((wsX5_nights_r1 ++ (wsX5_nights_r2 ++ wsX5_nights_r3)) ++ wsX50)
def wsX5_piano_r1 : List Cond := [Cond.fieldLink RX5 26 "BedHouseModel" "now" "[I", Cond.fieldLink RX5 152 "BedHouseModel" "reachedMany" "I", Cond.fieldLink RX5 36 "BedHouseModel" "reached" "[I", Cond.fieldLink RX5 33 "BedHouseModel" "off" "[I", Cond.methodLink RX5 46 yX5_in, Cond.static yX5_in, Cond.initialized RX5, Cond.code yX5_in cX5_in 3 (some .boolean), Cond.methodLink RX5 168 yX5_goFrom, Cond.instanceMethod yX5_goFrom, Cond.selects RX5 yX5_goFrom yX5_goFrom, Cond.code yX5_goFrom cX5_goFrom 2 none, Cond.methodLink RX5 159 yX5_none, Cond.instanceMethod yX5_none, Cond.selects RX5 yX5_none yX5_none, Cond.code yX5_none cX5_none 2 none, Cond.methodLink RX5 155 yX5_reach, Cond.instanceMethod yX5_reach, Cond.selects RX5 yX5_reach yX5_reach, Cond.code yX5_reach cX5_reach 3 none, Cond.methodLink RX5 162 yX5_go, Cond.instanceMethod yX5_go, Cond.selects RX5 yX5_go yX5_go, Cond.code yX5_go cX5_go 8 none]
def wsX5_piano_r2 : List Cond := [Cond.fieldLink RX5 13 "BedHouseModel" "plan" "[I", Cond.methodLink RX5 110 yX5_slotIn, Cond.instanceMethod yX5_slotIn, Cond.selects RX5 yX5_slotIn yX5_slotIn, Cond.code yX5_slotIn cX5_slotIn 3 (some .int), Cond.methodLink RX5 107 yX5_power, Cond.static yX5_power, Cond.code yX5_power cX5_power 3 (some .int), Cond.methodLink RX5 120 yX5_panelAt, Cond.instanceMethod yX5_panelAt, Cond.selects RX5 yX5_panelAt yX5_panelAt, Cond.code yX5_panelAt cX5_panelAt 4 (some .int), Cond.methodLink RX5 141 yX5_with, Cond.instanceMethod yX5_with, Cond.selects RX5 yX5_with yX5_with, Cond.code yX5_with cX5_with 4 (some .int), Cond.methodLink RX5 138 yX5_isLawful, Cond.instanceMethod yX5_isLawful, Cond.selects RX5 yX5_isLawful yX5_isLawful, Cond.code yX5_isLawful cX5_isLawful 6 (some .boolean), Cond.methodLink RX5 113 yX5_lying, Cond.instanceMethod yX5_lying, Cond.selects RX5 yX5_lying yX5_lying, Cond.code yX5_lying cX5_lying 4 (some .int)]
def wsX5_piano_r3 : List Cond := [Cond.methodLink RX5 116 yX5_isBorne, Cond.instanceMethod yX5_isBorne, Cond.selects RX5 yX5_isBorne yX5_isBorne, Cond.code yX5_isBorne cX5_isBorne 6 (some .boolean), Cond.fieldLink RX5 17 "BedHouseModel" "sorts" "[I", Cond.fieldLink RX5 23 "BedHouseModel" "beams" "[I"]
def wsX5_piano : List Cond := .code yX5_piano cX5_piano 4 (some .int) :: ((wsX5_piano_r1 ++ (wsX5_piano_r2 ++ wsX5_piano_r3)) ++ wsX50)
def wsX5_best_r1 : List Cond := [Cond.fieldLink RX5 13 "BedHouseModel" "plan" "[I", Cond.constant RX5 151 (-1000000), Cond.methodLink RX5 46 yX5_in, Cond.static yX5_in, Cond.initialized RX5, Cond.code yX5_in cX5_in 3 (some .boolean), Cond.methodLink RX5 174 yX5_houses, Cond.instanceMethod yX5_houses, Cond.selects RX5 yX5_houses yX5_houses, Cond.code yX5_houses cX5_houses 1 (some .int), Cond.methodLink RX5 107 yX5_power, Cond.static yX5_power, Cond.code yX5_power cX5_power 3 (some .int), Cond.methodLink RX5 138 yX5_isLawful, Cond.instanceMethod yX5_isLawful, Cond.selects RX5 yX5_isLawful yX5_isLawful, Cond.code yX5_isLawful cX5_isLawful 6 (some .boolean), Cond.methodLink RX5 113 yX5_lying, Cond.instanceMethod yX5_lying, Cond.selects RX5 yX5_lying yX5_lying, Cond.code yX5_lying cX5_lying 4 (some .int), Cond.methodLink RX5 110 yX5_slotIn, Cond.instanceMethod yX5_slotIn, Cond.selects RX5 yX5_slotIn yX5_slotIn]
def wsX5_best_r2 : List Cond := [Cond.code yX5_slotIn cX5_slotIn 3 (some .int), Cond.methodLink RX5 116 yX5_isBorne, Cond.instanceMethod yX5_isBorne, Cond.selects RX5 yX5_isBorne yX5_isBorne, Cond.code yX5_isBorne cX5_isBorne 6 (some .boolean), Cond.fieldLink RX5 17 "BedHouseModel" "sorts" "[I", Cond.fieldLink RX5 23 "BedHouseModel" "beams" "[I", Cond.methodLink RX5 148 yX5_worthOf, Cond.instanceMethod yX5_worthOf, Cond.selects RX5 yX5_worthOf yX5_worthOf, Cond.code yX5_worthOf cX5_worthOf 4 (some .int), Cond.methodLink RX5 129 yX5_leaksIn, Cond.instanceMethod yX5_leaksIn, Cond.selects RX5 yX5_leaksIn yX5_leaksIn, Cond.code yX5_leaksIn cX5_leaksIn 4 (some .int), Cond.methodLink RX5 123 yX5_sortAt, Cond.instanceMethod yX5_sortAt, Cond.selects RX5 yX5_sortAt yX5_sortAt, Cond.code yX5_sortAt cX5_sortAt 4 (some .int), Cond.methodLink RX5 120 yX5_panelAt, Cond.instanceMethod yX5_panelAt, Cond.selects RX5 yX5_panelAt yX5_panelAt, Cond.code yX5_panelAt cX5_panelAt 4 (some .int), Cond.methodLink RX5 132 yX5_isLit]
def wsX5_best_r3 : List Cond := [Cond.instanceMethod yX5_isLit, Cond.selects RX5 yX5_isLit yX5_isLit, Cond.code yX5_isLit cX5_isLit 3 (some .boolean), Cond.methodLink RX5 126 yX5_isOpen, Cond.instanceMethod yX5_isOpen, Cond.selects RX5 yX5_isOpen yX5_isOpen, Cond.code yX5_isOpen cX5_isOpen 4 (some .boolean)]
def wsX5_best : List Cond := .code yX5_best cX5_best 5 (some .int) :: ((wsX5_best_r1 ++ (wsX5_best_r2 ++ wsX5_best_r3)) ++ wsX50)
def wsX5_clue : List Cond := .code yX5_clue cX5_clue 3 (some .int) :: ([.fieldLink RX5 26 "BedHouseModel" "now" "[I", .methodLink RX5 46 yX5_in, .static yX5_in, .initialized RX5, .code yX5_in cX5_in 3 (some .boolean)] ++ wsX50)
def wsX5_isFit_r1 : List Cond := [Cond.fieldLink RX5 26 "BedHouseModel" "now" "[I", Cond.methodLink RX5 138 yX5_isLawful, Cond.instanceMethod yX5_isLawful, Cond.selects RX5 yX5_isLawful yX5_isLawful, Cond.initialized RX5, Cond.code yX5_isLawful cX5_isLawful 6 (some .boolean), Cond.fieldLink RX5 13 "BedHouseModel" "plan" "[I", Cond.methodLink RX5 113 yX5_lying, Cond.instanceMethod yX5_lying, Cond.selects RX5 yX5_lying yX5_lying, Cond.code yX5_lying cX5_lying 4 (some .int), Cond.methodLink RX5 110 yX5_slotIn, Cond.instanceMethod yX5_slotIn, Cond.selects RX5 yX5_slotIn yX5_slotIn, Cond.code yX5_slotIn cX5_slotIn 3 (some .int), Cond.methodLink RX5 107 yX5_power, Cond.static yX5_power, Cond.code yX5_power cX5_power 3 (some .int), Cond.methodLink RX5 116 yX5_isBorne, Cond.instanceMethod yX5_isBorne, Cond.selects RX5 yX5_isBorne yX5_isBorne, Cond.code yX5_isBorne cX5_isBorne 6 (some .boolean), Cond.fieldLink RX5 17 "BedHouseModel" "sorts" "[I", Cond.fieldLink RX5 23 "BedHouseModel" "beams" "[I"]
def wsX5_isFit_r2 : List Cond := [Cond.methodLink RX5 132 yX5_isLit, Cond.instanceMethod yX5_isLit, Cond.selects RX5 yX5_isLit yX5_isLit, Cond.code yX5_isLit cX5_isLit 3 (some .boolean), Cond.methodLink RX5 126 yX5_isOpen, Cond.instanceMethod yX5_isOpen, Cond.selects RX5 yX5_isOpen yX5_isOpen, Cond.code yX5_isOpen cX5_isOpen 4 (some .boolean), Cond.methodLink RX5 123 yX5_sortAt, Cond.instanceMethod yX5_sortAt, Cond.selects RX5 yX5_sortAt yX5_sortAt, Cond.code yX5_sortAt cX5_sortAt 4 (some .int), Cond.methodLink RX5 120 yX5_panelAt, Cond.instanceMethod yX5_panelAt, Cond.selects RX5 yX5_panelAt yX5_panelAt, Cond.code yX5_panelAt cX5_panelAt 4 (some .int)]
def wsX5_isFit : List Cond := .code yX5_isFit cX5_isFit 4 (some .boolean) :: ((wsX5_isFit_r1 ++ wsX5_isFit_r2) ++ wsX50)
def wsX5_fit_r1 : List Cond := [Cond.methodLink RX5 174 yX5_houses, Cond.instanceMethod yX5_houses, Cond.selects RX5 yX5_houses yX5_houses, Cond.initialized RX5, Cond.code yX5_houses cX5_houses 1 (some .int), Cond.fieldLink RX5 13 "BedHouseModel" "plan" "[I", Cond.methodLink RX5 107 yX5_power, Cond.static yX5_power, Cond.code yX5_power cX5_power 3 (some .int), Cond.methodLink RX5 177 yX5_isFit, Cond.instanceMethod yX5_isFit, Cond.selects RX5 yX5_isFit yX5_isFit, Cond.code yX5_isFit cX5_isFit 4 (some .boolean), Cond.fieldLink RX5 26 "BedHouseModel" "now" "[I", Cond.methodLink RX5 138 yX5_isLawful, Cond.instanceMethod yX5_isLawful, Cond.selects RX5 yX5_isLawful yX5_isLawful, Cond.code yX5_isLawful cX5_isLawful 6 (some .boolean), Cond.methodLink RX5 113 yX5_lying, Cond.instanceMethod yX5_lying, Cond.selects RX5 yX5_lying yX5_lying, Cond.code yX5_lying cX5_lying 4 (some .int), Cond.methodLink RX5 110 yX5_slotIn, Cond.instanceMethod yX5_slotIn]
def wsX5_fit_r2 : List Cond := [Cond.selects RX5 yX5_slotIn yX5_slotIn, Cond.code yX5_slotIn cX5_slotIn 3 (some .int), Cond.methodLink RX5 116 yX5_isBorne, Cond.instanceMethod yX5_isBorne, Cond.selects RX5 yX5_isBorne yX5_isBorne, Cond.code yX5_isBorne cX5_isBorne 6 (some .boolean), Cond.fieldLink RX5 17 "BedHouseModel" "sorts" "[I", Cond.fieldLink RX5 23 "BedHouseModel" "beams" "[I", Cond.methodLink RX5 132 yX5_isLit, Cond.instanceMethod yX5_isLit, Cond.selects RX5 yX5_isLit yX5_isLit, Cond.code yX5_isLit cX5_isLit 3 (some .boolean), Cond.methodLink RX5 126 yX5_isOpen, Cond.instanceMethod yX5_isOpen, Cond.selects RX5 yX5_isOpen yX5_isOpen, Cond.code yX5_isOpen cX5_isOpen 4 (some .boolean), Cond.methodLink RX5 123 yX5_sortAt, Cond.instanceMethod yX5_sortAt, Cond.selects RX5 yX5_sortAt yX5_sortAt, Cond.code yX5_sortAt cX5_sortAt 4 (some .int), Cond.methodLink RX5 120 yX5_panelAt, Cond.instanceMethod yX5_panelAt, Cond.selects RX5 yX5_panelAt yX5_panelAt, Cond.code yX5_panelAt cX5_panelAt 4 (some .int)]
def wsX5_fit : List Cond := .code yX5_fit cX5_fit 3 (some .int) :: ((wsX5_fit_r1 ++ wsX5_fit_r2) ++ wsX50)
def wsX5_sure_r1 : List Cond := [Cond.methodLink RX5 135 yX5_isPanel, Cond.instanceMethod yX5_isPanel, Cond.selects RX5 yX5_isPanel yX5_isPanel, Cond.initialized RX5, Cond.code yX5_isPanel cX5_isPanel 2 (some .boolean), Cond.fieldLink RX5 13 "BedHouseModel" "plan" "[I", Cond.methodLink RX5 46 yX5_in, Cond.static yX5_in, Cond.code yX5_in cX5_in 3 (some .boolean), Cond.methodLink RX5 174 yX5_houses, Cond.instanceMethod yX5_houses, Cond.selects RX5 yX5_houses yX5_houses, Cond.code yX5_houses cX5_houses 1 (some .int), Cond.methodLink RX5 107 yX5_power, Cond.static yX5_power, Cond.code yX5_power cX5_power 3 (some .int), Cond.methodLink RX5 177 yX5_isFit, Cond.instanceMethod yX5_isFit, Cond.selects RX5 yX5_isFit yX5_isFit, Cond.code yX5_isFit cX5_isFit 4 (some .boolean), Cond.fieldLink RX5 26 "BedHouseModel" "now" "[I", Cond.methodLink RX5 138 yX5_isLawful, Cond.instanceMethod yX5_isLawful, Cond.selects RX5 yX5_isLawful yX5_isLawful]
def wsX5_sure_r2 : List Cond := [Cond.code yX5_isLawful cX5_isLawful 6 (some .boolean), Cond.methodLink RX5 113 yX5_lying, Cond.instanceMethod yX5_lying, Cond.selects RX5 yX5_lying yX5_lying, Cond.code yX5_lying cX5_lying 4 (some .int), Cond.methodLink RX5 110 yX5_slotIn, Cond.instanceMethod yX5_slotIn, Cond.selects RX5 yX5_slotIn yX5_slotIn, Cond.code yX5_slotIn cX5_slotIn 3 (some .int), Cond.methodLink RX5 116 yX5_isBorne, Cond.instanceMethod yX5_isBorne, Cond.selects RX5 yX5_isBorne yX5_isBorne, Cond.code yX5_isBorne cX5_isBorne 6 (some .boolean), Cond.fieldLink RX5 17 "BedHouseModel" "sorts" "[I", Cond.fieldLink RX5 23 "BedHouseModel" "beams" "[I", Cond.methodLink RX5 132 yX5_isLit, Cond.instanceMethod yX5_isLit, Cond.selects RX5 yX5_isLit yX5_isLit, Cond.code yX5_isLit cX5_isLit 3 (some .boolean), Cond.methodLink RX5 126 yX5_isOpen, Cond.instanceMethod yX5_isOpen, Cond.selects RX5 yX5_isOpen yX5_isOpen, Cond.code yX5_isOpen cX5_isOpen 4 (some .boolean), Cond.methodLink RX5 123 yX5_sortAt]
def wsX5_sure_r3 : List Cond := [Cond.instanceMethod yX5_sortAt, Cond.selects RX5 yX5_sortAt yX5_sortAt, Cond.code yX5_sortAt cX5_sortAt 4 (some .int), Cond.methodLink RX5 120 yX5_panelAt, Cond.instanceMethod yX5_panelAt, Cond.selects RX5 yX5_panelAt yX5_panelAt, Cond.code yX5_panelAt cX5_panelAt 4 (some .int)]
def wsX5_sure : List Cond := .code yX5_sure cX5_sure 5 (some .int) :: ((wsX5_sure_r1 ++ (wsX5_sure_r2 ++ wsX5_sure_r3)) ++ wsX50)
def wsX5_forget : List Cond := .code yX5_forget cX5_forget 2 (some .int) :: ([.fieldLink RX5 26 "BedHouseModel" "now" "[I"] ++ wsX50)
def wsX5_mark_r1 : List Cond := [Cond.constant RX5 151 (-1000000), Cond.fieldLink RX5 26 "BedHouseModel" "now" "[I", Cond.fieldLink RX5 180 "BedHouseModel" "trace" "J", Cond.constantLong RX5 184 (11), Cond.constantLong RX5 186 (101), Cond.fieldLink RX5 17 "BedHouseModel" "sorts" "[I", Cond.constantLong RX5 188 (1011), Cond.constantLong RX5 190 (10101), Cond.constantLong RX5 192 (100001), Cond.methodLink RX5 46 yX5_in, Cond.static yX5_in, Cond.initialized RX5, Cond.code yX5_in cX5_in 3 (some .boolean), Cond.methodLink RX5 135 yX5_isPanel, Cond.instanceMethod yX5_isPanel, Cond.selects RX5 yX5_isPanel yX5_isPanel, Cond.code yX5_isPanel cX5_isPanel 2 (some .boolean), Cond.fieldLink RX5 13 "BedHouseModel" "plan" "[I", Cond.methodLink RX5 110 yX5_slotIn, Cond.instanceMethod yX5_slotIn, Cond.selects RX5 yX5_slotIn yX5_slotIn, Cond.code yX5_slotIn cX5_slotIn 3 (some .int), Cond.methodLink RX5 107 yX5_power, Cond.static yX5_power]
def wsX5_mark_r2 : List Cond := [Cond.code yX5_power cX5_power 3 (some .int), Cond.methodLink RX5 113 yX5_lying, Cond.instanceMethod yX5_lying, Cond.selects RX5 yX5_lying yX5_lying, Cond.code yX5_lying cX5_lying 4 (some .int)]
def wsX5_mark : List Cond := .code yX5_mark cX5_mark 4 (some .int) :: ((wsX5_mark_r1 ++ wsX5_mark_r2) ++ wsX50)
def wsX5_copy : List Cond := .code yX5_copy cX5_copy 4 none :: ([.fieldLink RX5 26 "BedHouseModel" "now" "[I"] ++ wsX50)
def wsX5_keep : List Cond := .code yX5_keep cX5_keep 2 (some .int) :: ([.fieldLink RX5 29 "BedHouseModel" "isKept" "[Z", .fieldLink RX5 26 "BedHouseModel" "now" "[I", .methodLink RX5 46 yX5_in, .static yX5_in, .initialized RX5, .code yX5_in cX5_in 3 (some .boolean), .methodLink RX5 194 yX5_copy, .instanceMethod yX5_copy, .selects RX5 yX5_copy yX5_copy, .code yX5_copy cX5_copy 4 none] ++ wsX50)
def wsX5_back : List Cond := .code yX5_back cX5_back 2 (some .int) :: ([.fieldLink RX5 26 "BedHouseModel" "now" "[I", .methodLink RX5 165 yX5_refuses, .instanceMethod yX5_refuses, .selects RX5 yX5_refuses yX5_refuses, .initialized RX5, .code yX5_refuses cX5_refuses 2 (some .int), .fieldLink RX5 29 "BedHouseModel" "isKept" "[Z", .methodLink RX5 46 yX5_in, .static yX5_in, .code yX5_in cX5_in 3 (some .boolean), .methodLink RX5 194 yX5_copy, .instanceMethod yX5_copy, .selects RX5 yX5_copy yX5_copy, .code yX5_copy cX5_copy 4 none] ++ wsX50)
def wsX5_count : List Cond := .code yX5_count cX5_count 2 (some .int) :: ([.fieldLink RX5 13 "BedHouseModel" "plan" "[I", .fieldLink RX5 26 "BedHouseModel" "now" "[I", .fieldLink RX5 50 "BedHouseModel" "typed" "I", .methodLink RX5 113 yX5_lying, .instanceMethod yX5_lying, .selects RX5 yX5_lying yX5_lying, .initialized RX5, .code yX5_lying cX5_lying 4 (some .int), .methodLink RX5 110 yX5_slotIn, .instanceMethod yX5_slotIn, .selects RX5 yX5_slotIn yX5_slotIn, .code yX5_slotIn cX5_slotIn 3 (some .int), .methodLink RX5 107 yX5_power, .static yX5_power, .code yX5_power cX5_power 3 (some .int)] ++ wsX50)
def wsX5_trace : List Cond := .code yX5_trace cX5_trace 1 (some .long) :: ([.fieldLink RX5 180 "BedHouseModel" "trace" "J"] ++ wsX50)
def wsJ9_min_7cf53 : List Cond := .code yJ9_min_7cf53 cJ9_min_7cf53 2 (some .int) :: ([])
def wsL_law_r1 : List Cond := [Cond.classLink RL 7 RX4, Cond.instantiable RX4 7, Cond.initialized RX4, Cond.classLink RL 10 RX5, Cond.instantiable RX5 19, Cond.initialized RX5, Cond.constantLong RL 13 (4294967295), Cond.methodLink RL 9 yX4_init, Cond.instanceMethod yX4_init, Cond.code yX4_init cX4_init 1 none, Cond.methodLink RX4 3 objectInit, Cond.instanceMethod objectInit, Cond.code objectInit ⟨#[0xb1]⟩ 1 none, Cond.classLink RX4 9 RX3, Cond.instantiable RX3 8, Cond.initialized RX3, Cond.fieldLink RX4 12 "BedHouse" "text" "LBedHouse$Text;", Cond.classLink RX4 16 RX2, Cond.instantiable RX2 5, Cond.initialized RX2, Cond.fieldLink RX4 19 "BedHouse" "search" "LBedHouse$Search;", Cond.classLink RX4 23 RX0, Cond.instantiable RX0 8, Cond.initialized RX0]
def wsL_law_r2 : List Cond := [Cond.fieldLink RX4 26 "BedHouse" "present" "LBedHouse$Moment;", Cond.fieldLink RX4 30 "BedHouse" "images" "[LBedHouse$Moment;", Cond.classLink RX4 34 RX1, Cond.instantiable RX1 11, Cond.initialized RX1, Cond.fieldLink RX4 37 "BedHouse" "plan" "LBedHouse$Plan;", Cond.fieldLink RX4 41 "BedHouse" "draft" "LBedHouse$Plan;", Cond.instanceMethod yX3_init, Cond.code yX3_init cX3_init 1 none, Cond.methodLink RX3 3 objectInit, Cond.arrayClass .int, Cond.fieldLink RX3 11 "BedHouse$Text" "bytes" "[I", Cond.instanceMethod yX2_init, Cond.code yX2_init cX2_init 1 none, Cond.methodLink RX2 3 objectInit, Cond.arrayClass .byte, Cond.fieldLink RX2 11 "BedHouse$Search" "lawful" "[B", Cond.fieldLink RX2 15 "BedHouse$Search" "far" "[I", Cond.fieldLink RX2 19 "BedHouse$Search" "queue" "[I", Cond.instanceMethod yX0_init, Cond.code yX0_init cX0_init 1 none, Cond.methodLink RX0 1 objectInit, Cond.instanceMethod yX1_init, Cond.code yX1_init cX1_init 1 none]
def wsL_law_r3 : List Cond := [Cond.methodLink RX1 3 objectInit, Cond.fieldLink RX1 9 "BedHouse$Plan" "sorts" "[I", Cond.fieldLink RX1 15 "BedHouse$Plan" "beamSlots" "[I", Cond.methodLink RX1 18 yX1_startAnew, Cond.instanceMethod yX1_startAnew, Cond.selects RX1 yX1_startAnew yX1_startAnew, Cond.code yX1_startAnew cX1_startAnew 1 none, Cond.fieldLink RX1 21 "BedHouse$Plan" "panels" "I", Cond.fieldLink RX1 25 "BedHouse$Plan" "toldHouse" "I", Cond.fieldLink RX1 28 "BedHouse$Plan" "beams" "I", Cond.fieldLink RX1 31 "BedHouse$Plan" "rain" "I", Cond.fieldLink RX1 34 "BedHouse$Plan" "sun" "I", Cond.fieldLink RX1 37 "BedHouse$Plan" "view" "I", Cond.fieldLink RX1 40 "BedHouse$Plan" "noise" "I", Cond.fieldLink RX1 43 "BedHouse$Plan" "mostLying" "I", Cond.fieldLink RX1 46 "BedHouse$Plan" "hands" "I", Cond.methodLink RL 12 yX5_init, Cond.instanceMethod yX5_init, Cond.code yX5_init cX5_init 1 none, Cond.methodLink RX5 1 objectInit, Cond.fieldLink RX5 7 "BedHouseModel" "text" "[B", Cond.fieldLink RX5 13 "BedHouseModel" "plan" "[I", Cond.fieldLink RX5 17 "BedHouseModel" "sorts" "[I", Cond.fieldLink RX5 20 "BedHouseModel" "at0" "[I"]
def wsL_law_r4 : List Cond := [Cond.fieldLink RX5 23 "BedHouseModel" "beams" "[I", Cond.fieldLink RX5 26 "BedHouseModel" "now" "[I", Cond.arrayClass .boolean, Cond.fieldLink RX5 29 "BedHouseModel" "isKept" "[Z", Cond.fieldLink RX5 33 "BedHouseModel" "off" "[I", Cond.fieldLink RX5 36 "BedHouseModel" "reached" "[I", Cond.fieldLink RX5 39 "BedHouseModel" "isSlept" "[Z", Cond.methodLink RX5 42 yX5_begin, Cond.instanceMethod yX5_begin, Cond.selects RX5 yX5_begin yX5_begin, Cond.code yX5_begin cX5_begin 2 none, Cond.methodLink RL 15 yX4_type, Cond.instanceMethod yX4_type, Cond.selects RX4 yX4_type yX4_type, Cond.code yX4_type cX4_type 5 (some .int), Cond.instanceMethod yX3_append, Cond.selects RX3 yX3_append yX3_append, Cond.code yX3_append cX3_append 2 none, Cond.fieldLink RX3 15 "BedHouse$Text" "length" "I", Cond.methodLink RL 19 yX5_type, Cond.instanceMethod yX5_type, Cond.selects RX5 yX5_type yX5_type, Cond.code yX5_type cX5_type 5 (some .int), Cond.fieldLink RX5 50 "BedHouseModel" "typed" "I"]
def wsL_law_r5 : List Cond := [Cond.constantLong RX5 54 (255), Cond.methodLink RX5 46 yX5_in, Cond.static yX5_in, Cond.code yX5_in cX5_in 3 (some .boolean), Cond.methodLink RL 20 yX4_clear, Cond.instanceMethod yX4_clear, Cond.selects RX4 yX4_clear yX4_clear, Cond.code yX4_clear cX4_clear 2 (some .int), Cond.methodLink RL 24 yX5_clear, Cond.instanceMethod yX5_clear, Cond.selects RX5 yX5_clear yX5_clear, Cond.code yX5_clear cX5_clear 2 (some .int), Cond.methodLink RL 25 yX4_house, Cond.instanceMethod yX4_house, Cond.selects RX4 yX4_house yX4_house, Cond.code yX4_house cX4_house 4 (some .int), Cond.instanceMethod yX3_tell, Cond.selects RX3 yX3_tell yX3_tell, Cond.code yX3_tell cX3_tell 4 (some .int), Cond.fieldLink RX3 24 "BedHouse$Text" "downTold" "Z", Cond.fieldLink RX3 28 "BedHouse$Text" "handsTold" "Z", Cond.fieldLink RX3 31 "BedHouse$Text" "at" "I", Cond.fieldLink RX3 37 "BedHouse$Text" "token" "I", Cond.fieldLink RX3 44 "BedHouse$Text" "tokenStart" "I"]
def wsL_law_r6 : List Cond := [Cond.methodLink RX3 34 yX3_nextToken, Cond.instanceMethod yX3_nextToken, Cond.selects RX3 yX3_nextToken yX3_nextToken, Cond.code yX3_nextToken cX3_nextToken 2 none, Cond.methodLink RX3 108 yX3_byteAt, Cond.instanceMethod yX3_byteAt, Cond.selects RX3 yX3_byteAt yX3_byteAt, Cond.code yX3_byteAt cX3_byteAt 2 (some .int), Cond.methodLink RX3 112 yX3_isLetter, Cond.static yX3_isLetter, Cond.code yX3_isLetter cX3_isLetter 1 (some .boolean), Cond.methodLink RX3 115 yX3_readWord, Cond.instanceMethod yX3_readWord, Cond.selects RX3 yX3_readWord yX3_readWord, Cond.code yX3_readWord cX3_readWord 2 none, Cond.fieldLink RX3 47 "BedHouse$Text" "value" "I", Cond.methodLink RX3 124 yX3_spelling, Cond.static yX3_spelling, Cond.code yX3_spelling cX3_spelling 1 (some (.object "java/lang/String")), Cond.methodLink RX3 128 yX3_isSpelled, Cond.instanceMethod yX3_isSpelled, Cond.selects RX3 yX3_isSpelled yX3_isSpelled, Cond.code yX3_isSpelled cX3_isSpelled 3 (some .boolean), Cond.methodLink RX3 132 yJ0_length_8abf5]
def wsL_law_r7 : List Cond := [Cond.instanceMethod yJ0_length_8abf5, Cond.selects RJ0 yJ0_length_8abf5 yJ0_length_8abf5, Cond.initialized RJ0, Cond.code yJ0_length_8abf5 cJ0_length_8abf5 1 (some .int), Cond.fieldLink RJ0 9 "java/lang/String" "value" "[B", Cond.methodLink RJ0 335 yJ0_coder_7d493, Cond.instanceMethod yJ0_coder_7d493, Cond.selects RJ0 yJ0_coder_7d493 yJ0_coder_7d493, Cond.code yJ0_coder_7d493 cJ0_coder_7d493 1 (some .byte), Cond.fieldLink RJ0 38 "java/lang/String" "COMPACT_STRINGS" "Z", Cond.fieldLink RJ0 15 "java/lang/String" "coder" "B", Cond.methodLink RX3 137 yJ0_charAt_5068e, Cond.instanceMethod yJ0_charAt_5068e, Cond.selects RJ0 yJ0_charAt_5068e yJ0_charAt_5068e, Cond.code yJ0_charAt_5068e cJ0_charAt_5068e 2 (some .char), Cond.methodLink RJ0 492 yJ0_isLatin1_aae02, Cond.instanceMethod yJ0_isLatin1_aae02, Cond.selects RJ0 yJ0_isLatin1_aae02 yJ0_isLatin1_aae02, Cond.code yJ0_isLatin1_aae02 cJ0_isLatin1_aae02 1 (some .boolean), Cond.methodLink RJ0 495 yJ1_charAt_3b067, Cond.static yJ1_charAt_3b067, Cond.initialized RJ1, Cond.code yJ1_charAt_3b067 cJ1_charAt_3b067 2 (some .char), Cond.methodLink RJ1 9 yJ0_checkIndex_df160]
def wsL_law_r8 : List Cond := [Cond.static yJ0_checkIndex_df160, Cond.code yJ0_checkIndex_df160 cJ0_checkIndex_df160 2 none, Cond.fieldLink RJ0 1053 "jdk/internal/util/Preconditions" "SIOOBE_FORMATTER" "Ljava/util/function/BiFunction;", Cond.methodLink RJ0 1059 yJ3_checkIndex_8e157, Cond.static yJ3_checkIndex_8e157, Cond.initialized RJ3, Cond.code yJ3_checkIndex_8e157 cJ3_checkIndex_8e157 3 (some .int), Cond.methodLink RJ0 498 yJ2_charAt_3b067, Cond.static yJ2_charAt_3b067, Cond.initialized RJ2, Cond.code yJ2_charAt_3b067 cJ2_charAt_3b067 2 (some .char), Cond.methodLink RJ2 67 yJ2_checkIndex_2214a, Cond.static yJ2_checkIndex_2214a, Cond.code yJ2_checkIndex_2214a cJ2_checkIndex_2214a 2 none, Cond.methodLink RJ2 48 yJ2_length_9d52b, Cond.static yJ2_length_9d52b, Cond.code yJ2_length_9d52b cJ2_length_9d52b 1 (some .int), Cond.methodLink RJ2 414 yJ0_checkIndex_df160, Cond.methodLink RJ2 71 yJ2_getChar_3b067, Cond.static yJ2_getChar_3b067, Cond.code yJ2_getChar_3b067 cJ2_getChar_3b067 2 (some .char), Cond.fieldLink RJ2 44 "java/lang/StringUTF16" "$assertionsDisabled" "Z", Cond.fieldLink RJ2 59 "java/lang/StringUTF16" "HI_BYTE_SHIFT" "I", Cond.fieldLink RJ2 63 "java/lang/StringUTF16" "LO_BYTE_SHIFT" "I"]
def wsL_law_r9 : List Cond := [Cond.methodLink RX3 118 yX3_isDigit, Cond.static yX3_isDigit, Cond.code yX3_isDigit cX3_isDigit 1 (some .boolean), Cond.methodLink RX3 121 yX3_readNumber, Cond.instanceMethod yX3_readNumber, Cond.selects RX3 yX3_readNumber yX3_readNumber, Cond.code yX3_readNumber cX3_readNumber 2 none, Cond.methodLink RX3 141 Lib.Math.min.name, Cond.static Lib.Math.min.name, Cond.initialized "java/lang/Math", Cond.code Lib.Math.min.name Lib.Math.min.code 2 (some .int), Cond.methodLink RX3 40 yX3_tellItem, Cond.instanceMethod yX3_tellItem, Cond.selects RX3 yX3_tellItem yX3_tellItem, Cond.code yX3_tellItem cX3_tellItem 5 (some .boolean), Cond.methodLink RX3 50 yX3_mayBegin, Cond.instanceMethod yX3_mayBegin, Cond.selects RX3 yX3_mayBegin yX3_mayBegin, Cond.code yX3_mayBegin cX3_mayBegin 3 (some .boolean), Cond.methodLink RX3 54 yX3_mayBeFirst, Cond.static yX3_mayBeFirst, Cond.code yX3_mayBeFirst cX3_mayBeFirst 3 (some .boolean), Cond.static yX4_isSlot, Cond.code yX4_isSlot cX4_isSlot 1 (some .boolean)]
def wsL_law_r10 : List Cond := [Cond.instanceMethod yX1_panelAt, Cond.selects RX1 yX1_panelAt yX1_panelAt, Cond.code yX1_panelAt cX1_panelAt 4 (some .int), Cond.static yX4_placeIn, Cond.code yX4_placeIn cX4_placeIn 2 (some .int), Cond.methodLink RX3 58 yX3_apply, Cond.instanceMethod yX3_apply, Cond.selects RX3 yX3_apply yX3_apply, Cond.code yX3_apply cX3_apply 5 none, Cond.methodLink RX3 85 yX3_slotsFrom, Cond.static yX3_slotsFrom, Cond.code yX3_slotsFrom cX3_slotsFrom 4 (some .int), Cond.instanceMethod yX1_addBeam, Cond.selects RX1 yX1_addBeam yX1_addBeam, Cond.code yX1_addBeam cX1_addBeam 2 none, Cond.instanceMethod yX1_addPanel, Cond.selects RX1 yX1_addPanel yX1_addPanel, Cond.code yX1_addPanel cX1_addPanel 3 none, Cond.static yX4_unitOf, Cond.code yX4_unitOf cX4_unitOf 1 (some .int), Cond.instanceMethod yX0_begin, Cond.selects RX0 yX0_begin yX0_begin, Cond.code yX0_begin cX0_begin 2 none, Cond.fieldLink RX0 7 "BedHouse$Moment" "home" "I"]
def wsL_law_r11 : List Cond := [Cond.fieldLink RX0 13 "BedHouse$Moment" "day" "I", Cond.fieldLink RX0 16 "BedHouse$Moment" "acts" "I", Cond.fieldLink RX0 19 "BedHouse$Moment" "leaks" "I", Cond.fieldLink RX0 22 "BedHouse$Moment" "clues" "I", Cond.fieldLink RX0 25 "BedHouse$Moment" "litHours" "I", Cond.fieldLink RX0 28 "BedHouse$Moment" "darkHours" "I", Cond.methodLink RL 28 yX5_house, Cond.instanceMethod yX5_house, Cond.selects RX5 yX5_house yX5_house, Cond.code yX5_house cX5_house 4 (some .int), Cond.fieldLink RX5 56 "BedHouseModel" "at" "I", Cond.fieldLink RX5 77 "BedHouseModel" "fault" "I", Cond.fieldLink RX5 91 "BedHouseModel" "told" "I", Cond.fieldLink RX5 69 "BedHouseModel" "sort" "I", Cond.methodLink RX5 80 yX5_next, Cond.instanceMethod yX5_next, Cond.selects RX5 yX5_next yX5_next, Cond.code yX5_next cX5_next 5 none, Cond.fieldLink RX5 63 "BedHouseModel" "start" "I", Cond.fieldLink RX5 66 "BedHouseModel" "value" "I", Cond.constant RX5 76 (54575892), Cond.methodLink RX5 59 yX5_here, Cond.instanceMethod yX5_here, Cond.selects RX5 yX5_here yX5_here]
def wsL_law_r12 : List Cond := [Cond.code yX5_here cX5_here 1 (some .int), Cond.methodLink RX5 72 yX5_meaning, Cond.static yX5_meaning, Cond.code yX5_meaning cX5_meaning 1 (some .int), Cond.methodLink RX5 104 yX5_readItem, Cond.instanceMethod yX5_readItem, Cond.selects RX5 yX5_readItem yX5_readItem, Cond.code yX5_readItem cX5_readItem 4 none, Cond.methodLink RX5 94 yX5_mayItem, Cond.instanceMethod yX5_mayItem, Cond.selects RX5 yX5_mayItem yX5_mayItem, Cond.code yX5_mayItem cX5_mayItem 2 (some .boolean), Cond.methodLink RX5 83 yX5_due, Cond.instanceMethod yX5_due, Cond.selects RX5 yX5_due yX5_due, Cond.code yX5_due cX5_due 3 (some .int), Cond.methodLink RX5 98 yX5_stands, Cond.instanceMethod yX5_stands, Cond.selects RX5 yX5_stands yX5_stands, Cond.code yX5_stands cX5_stands 4 (some .boolean), Cond.methodLink RX5 101 yX5_round, Cond.instanceMethod yX5_round, Cond.selects RX5 yX5_round yX5_round, Cond.code yX5_round cX5_round 5 (some .int)]
def wsL_law_r13 : List Cond := [Cond.methodLink RX5 87 yX5_number, Cond.instanceMethod yX5_number, Cond.selects RX5 yX5_number yX5_number, Cond.code yX5_number cX5_number 3 (some .int), Cond.methodLink RL 29 yX4_panel, Cond.instanceMethod yX4_panel, Cond.selects RX4 yX4_panel yX4_panel, Cond.code yX4_panel cX4_panel 3 (some .int), Cond.instanceMethod yX1_hasPanel, Cond.selects RX1 yX1_hasPanel yX1_hasPanel, Cond.code yX1_hasPanel cX1_hasPanel 2 (some .boolean), Cond.instanceMethod yX1_sortOf, Cond.selects RX1 yX1_sortOf yX1_sortOf, Cond.code yX1_sortOf cX1_sortOf 2 (some .int), Cond.methodLink RX1 53 yX1_hasPanel, Cond.methodLink RX4 80 yX4_placeIn, Cond.methodLink RL 33 yX5_panel, Cond.instanceMethod yX5_panel, Cond.selects RX5 yX5_panel yX5_panel, Cond.code yX5_panel cX5_panel 3 (some .int), Cond.methodLink RX5 135 yX5_isPanel, Cond.instanceMethod yX5_isPanel, Cond.selects RX5 yX5_isPanel yX5_isPanel, Cond.code yX5_isPanel cX5_isPanel 2 (some .boolean)]
def wsL_law_r14 : List Cond := [Cond.methodLink RX5 110 yX5_slotIn, Cond.instanceMethod yX5_slotIn, Cond.selects RX5 yX5_slotIn yX5_slotIn, Cond.code yX5_slotIn cX5_slotIn 3 (some .int), Cond.methodLink RX5 107 yX5_power, Cond.static yX5_power, Cond.code yX5_power cX5_power 3 (some .int), Cond.methodLink RL 34 yX4_slot, Cond.instanceMethod yX4_slot, Cond.selects RX4 yX4_slot yX4_slot, Cond.code yX4_slot cX4_slot 3 (some .int), Cond.methodLink RX4 84 yX4_isSlot, Cond.methodLink RL 37 yX5_slot, Cond.instanceMethod yX5_slot, Cond.selects RX5 yX5_slot yX5_slot, Cond.code yX5_slot cX5_slot 3 (some .int), Cond.methodLink RX5 120 yX5_panelAt, Cond.instanceMethod yX5_panelAt, Cond.selects RX5 yX5_panelAt yX5_panelAt, Cond.code yX5_panelAt cX5_panelAt 4 (some .int), Cond.methodLink RL 38 yX4_told, Cond.instanceMethod yX4_told, Cond.selects RX4 yX4_told yX4_told, Cond.code yX4_told cX4_told 2 (some .int)]
def wsL_law_r15 : List Cond := [Cond.methodLink RL 42 yX5_told, Cond.instanceMethod yX5_told, Cond.selects RX5 yX5_told yX5_told, Cond.code yX5_told cX5_told 2 (some .int), Cond.methodLink RL 43 yX4_beam, Cond.instanceMethod yX4_beam, Cond.selects RX4 yX4_beam yX4_beam, Cond.code yX4_beam cX4_beam 2 (some .int), Cond.instanceMethod yX1_hasBeam, Cond.selects RX1 yX1_hasBeam yX1_hasBeam, Cond.code yX1_hasBeam cX1_hasBeam 2 (some .boolean), Cond.instanceMethod yX1_isBorne, Cond.selects RX1 yX1_isBorne yX1_isBorne, Cond.code yX1_isBorne cX1_isBorne 3 (some .boolean), Cond.methodLink RX1 61 yX1_hasBeam, Cond.methodLink RX1 64 yX1_slotsUnder, Cond.instanceMethod yX1_slotsUnder, Cond.selects RX1 yX1_slotsUnder yX1_slotsUnder, Cond.code yX1_slotsUnder cX1_slotsUnder 6 (some .int), Cond.methodLink RX4 115 yX4_asNumber, Cond.static yX4_asNumber, Cond.code yX4_asNumber cX4_asNumber 1 (some .int), Cond.methodLink RL 46 yX5_beam, Cond.instanceMethod yX5_beam]
def wsL_law_r16 : List Cond := [Cond.selects RX5 yX5_beam yX5_beam, Cond.code yX5_beam cX5_beam 2 (some .int), Cond.methodLink RX5 116 yX5_isBorne, Cond.instanceMethod yX5_isBorne, Cond.selects RX5 yX5_isBorne yX5_isBorne, Cond.code yX5_isBorne cX5_isBorne 6 (some .boolean), Cond.methodLink RL 47 yX4_down, Cond.instanceMethod yX4_down, Cond.selects RX4 yX4_down yX4_down, Cond.code yX4_down cX4_down 2 (some .int), Cond.methodLink RX4 119 yX4_act, Cond.instanceMethod yX4_act, Cond.selects RX4 yX4_act yX4_act, Cond.code yX4_act cX4_act 4 (some .int), Cond.methodLink RX4 214 yX4_moved, Cond.static yX4_moved, Cond.code yX4_moved cX4_moved 3 (some .int), Cond.methodLink RX4 228 yX4_unitOf, Cond.instanceMethod yX1_allows, Cond.selects RX1 yX1_allows yX1_allows, Cond.code yX1_allows cX1_allows 4 (some .boolean), Cond.methodLink RX1 67 yX1_lyingIn, Cond.instanceMethod yX1_lyingIn, Cond.selects RX1 yX1_lyingIn yX1_lyingIn]
def wsL_law_r17 : List Cond := [Cond.code yX1_lyingIn cX1_lyingIn 4 (some .int), Cond.methodLink RX1 70 yJ6_bitCount_0f7a4, Cond.static yJ6_bitCount_0f7a4, Cond.initialized RJ6, Cond.code yJ6_bitCount_0f7a4 cJ6_bitCount_0f7a4 1 (some .int), Cond.constant RJ6 265 (1431655765), Cond.constant RJ6 266 (858993459), Cond.constant RJ6 267 (252645135), Cond.methodLink RX1 75 yX1_isBorne, Cond.methodLink RL 50 yX5_down, Cond.instanceMethod yX5_down, Cond.selects RX5 yX5_down yX5_down, Cond.code yX5_down cX5_down 2 (some .int), Cond.methodLink RX5 141 yX5_with, Cond.instanceMethod yX5_with, Cond.selects RX5 yX5_with yX5_with, Cond.code yX5_with cX5_with 4 (some .int), Cond.methodLink RX5 145 yX5_act, Cond.instanceMethod yX5_act, Cond.selects RX5 yX5_act yX5_act, Cond.code yX5_act cX5_act 2 (some .int), Cond.methodLink RX5 138 yX5_isLawful, Cond.instanceMethod yX5_isLawful, Cond.selects RX5 yX5_isLawful yX5_isLawful]
def wsL_law_r18 : List Cond := [Cond.code yX5_isLawful cX5_isLawful 6 (some .boolean), Cond.methodLink RX5 113 yX5_lying, Cond.instanceMethod yX5_lying, Cond.selects RX5 yX5_lying yX5_lying, Cond.code yX5_lying cX5_lying 4 (some .int), Cond.methodLink RL 51 yX4_up, Cond.instanceMethod yX4_up, Cond.selects RX4 yX4_up yX4_up, Cond.code yX4_up cX4_up 3 (some .int), Cond.methodLink RL 54 yX5_up, Cond.instanceMethod yX5_up, Cond.selects RX5 yX5_up yX5_up, Cond.code yX5_up cX5_up 3 (some .int), Cond.methodLink RL 55 yX4_night, Cond.instanceMethod yX4_night, Cond.selects RX4 yX4_night yX4_night, Cond.code yX4_night cX4_night 2 (some .int), Cond.instanceMethod yX1_leaksOf, Cond.selects RX1 yX1_leaksOf yX1_leaksOf, Cond.code yX1_leaksOf cX1_leaksOf 2 (some .int), Cond.methodLink RL 58 yX5_night, Cond.instanceMethod yX5_night, Cond.selects RX5 yX5_night yX5_night, Cond.code yX5_night cX5_night 2 (some .int)]
def wsL_law_r19 : List Cond := [Cond.methodLink RX5 129 yX5_leaksIn, Cond.instanceMethod yX5_leaksIn, Cond.selects RX5 yX5_leaksIn yX5_leaksIn, Cond.code yX5_leaksIn cX5_leaksIn 4 (some .int), Cond.methodLink RX5 123 yX5_sortAt, Cond.instanceMethod yX5_sortAt, Cond.selects RX5 yX5_sortAt yX5_sortAt, Cond.code yX5_sortAt cX5_sortAt 4 (some .int), Cond.methodLink RL 59 yX4_now, Cond.instanceMethod yX4_now, Cond.selects RX4 yX4_now yX4_now, Cond.code yX4_now cX4_now 2 (some .int), Cond.constant RX4 140 (-1000000), Cond.instanceMethod yX1_worthOf, Cond.selects RX1 yX1_worthOf yX1_worthOf, Cond.code yX1_worthOf cX1_worthOf 3 (some .int), Cond.methodLink RX1 79 yX1_litHours, Cond.instanceMethod yX1_litHours, Cond.selects RX1 yX1_litHours yX1_litHours, Cond.code yX1_litHours cX1_litHours 2 (some .int), Cond.methodLink RX1 82 yX1_leaksOf, Cond.methodLink RX1 85 yX1_quietIn, Cond.instanceMethod yX1_quietIn, Cond.selects RX1 yX1_quietIn yX1_quietIn]
def wsL_law_r20 : List Cond := [Cond.code yX1_quietIn cX1_quietIn 2 (some .int), Cond.methodLink RL 62 yX5_now, Cond.instanceMethod yX5_now, Cond.selects RX5 yX5_now yX5_now, Cond.code yX5_now cX5_now 2 (some .int), Cond.constant RX5 151 (-1000000), Cond.methodLink RX5 148 yX5_worthOf, Cond.instanceMethod yX5_worthOf, Cond.selects RX5 yX5_worthOf yX5_worthOf, Cond.code yX5_worthOf cX5_worthOf 4 (some .int), Cond.methodLink RX5 132 yX5_isLit, Cond.instanceMethod yX5_isLit, Cond.selects RX5 yX5_isLit yX5_isLit, Cond.code yX5_isLit cX5_isLit 3 (some .boolean), Cond.methodLink RX5 126 yX5_isOpen, Cond.instanceMethod yX5_isOpen, Cond.selects RX5 yX5_isOpen yX5_isOpen, Cond.code yX5_isOpen cX5_isOpen 4 (some .boolean), Cond.methodLink RL 63 yX4_lit, Cond.instanceMethod yX4_lit, Cond.selects RX4 yX4_lit yX4_lit, Cond.code yX4_lit cX4_lit 2 (some .int), Cond.methodLink RL 66 yX5_lit, Cond.instanceMethod yX5_lit]
def wsL_law_r21 : List Cond := [Cond.selects RX5 yX5_lit yX5_lit, Cond.code yX5_lit cX5_lit 2 (some .int), Cond.methodLink RL 67 yX4_fewest, Cond.instanceMethod yX4_fewest, Cond.selects RX4 yX4_fewest yX4_fewest, Cond.code yX4_fewest cX4_fewest 2 (some .int), Cond.methodLink RX4 144 yX4_isImage, Cond.instanceMethod yX4_isImage, Cond.selects RX4 yX4_isImage yX4_isImage, Cond.code yX4_isImage cX4_isImage 2 (some .boolean), Cond.instanceMethod yX2_fewestActs, Cond.selects RX2 yX2_fewestActs yX2_fewestActs, Cond.code yX2_fewestActs cX2_fewestActs 4 (some .int), Cond.methodLink RX2 68 yX2_survey, Cond.instanceMethod yX2_survey, Cond.selects RX2 yX2_survey yX2_survey, Cond.code yX2_survey cX2_survey 4 none, Cond.fieldLink RX2 22 "BedHouse$Search" "surveyed" "Z", Cond.methodLink RX2 72 yX2_spreadFrom, Cond.instanceMethod yX2_spreadFrom, Cond.selects RX2 yX2_spreadFrom yX2_spreadFrom, Cond.code yX2_spreadFrom cX2_spreadFrom 3 none, Cond.methodLink RX2 40 yX2_spread, Cond.instanceMethod yX2_spread]
def wsL_law_r22 : List Cond := [Cond.selects RX2 yX2_spread yX2_spread, Cond.code yX2_spread cX2_spread 6 none, Cond.fieldLink RX2 44 "BedHouse$Search" "reached" "I", Cond.methodLink RX2 47 yX2_farTo, Cond.instanceMethod yX2_farTo, Cond.selects RX2 yX2_farTo yX2_farTo, Cond.code yX2_farTo cX2_farTo 2 (some .int), Cond.methodLink RX2 50 yX2_spreadByOneAct, Cond.instanceMethod yX2_spreadByOneAct, Cond.selects RX2 yX2_spreadByOneAct yX2_spreadByOneAct, Cond.code yX2_spreadByOneAct cX2_spreadByOneAct 6 none, Cond.methodLink RX2 61 yX2_reach, Cond.instanceMethod yX2_reach, Cond.selects RX2 yX2_reach yX2_reach, Cond.code yX2_reach cX2_reach 3 none, Cond.methodLink RX2 65 yX2_isLawful, Cond.instanceMethod yX2_isLawful, Cond.selects RX2 yX2_isLawful yX2_isLawful, Cond.code yX2_isLawful cX2_isLawful 2 (some .boolean), Cond.methodLink RL 70 yX5_fewest, Cond.instanceMethod yX5_fewest, Cond.selects RX5 yX5_fewest yX5_fewest, Cond.code yX5_fewest cX5_fewest 3 (some .int), Cond.methodLink RX5 165 yX5_refuses]
def wsL_law_r23 : List Cond := [Cond.instanceMethod yX5_refuses, Cond.selects RX5 yX5_refuses yX5_refuses, Cond.code yX5_refuses cX5_refuses 2 (some .int), Cond.methodLink RX5 168 yX5_goFrom, Cond.instanceMethod yX5_goFrom, Cond.selects RX5 yX5_goFrom yX5_goFrom, Cond.code yX5_goFrom cX5_goFrom 2 none, Cond.methodLink RX5 159 yX5_none, Cond.instanceMethod yX5_none, Cond.selects RX5 yX5_none yX5_none, Cond.code yX5_none cX5_none 2 none, Cond.fieldLink RX5 152 "BedHouseModel" "reachedMany" "I", Cond.methodLink RX5 155 yX5_reach, Cond.instanceMethod yX5_reach, Cond.selects RX5 yX5_reach yX5_reach, Cond.code yX5_reach cX5_reach 3 none, Cond.methodLink RX5 162 yX5_go, Cond.instanceMethod yX5_go, Cond.selects RX5 yX5_go yX5_go, Cond.code yX5_go cX5_go 8 none, Cond.methodLink RX5 171 yX5_houseOf, Cond.instanceMethod yX5_houseOf, Cond.selects RX5 yX5_houseOf yX5_houseOf, Cond.code yX5_houseOf cX5_houseOf 2 (some .int)]
def wsL_law_r24 : List Cond := [Cond.methodLink RL 71 yX4_first, Cond.instanceMethod yX4_first, Cond.selects RX4 yX4_first yX4_first, Cond.code yX4_first cX4_first 2 (some .int), Cond.instanceMethod yX2_firstAct, Cond.selects RX2 yX2_firstAct yX2_firstAct, Cond.code yX2_firstAct cX2_firstAct 12 (some .int), Cond.methodLink RL 74 yX5_first, Cond.instanceMethod yX5_first, Cond.selects RX5 yX5_first yX5_first, Cond.code yX5_first cX5_first 11 (some .int), Cond.methodLink RL 75 yX4_nights, Cond.instanceMethod yX4_nights, Cond.selects RX4 yX4_nights yX4_nights, Cond.code yX4_nights cX4_nights 2 (some .int), Cond.instanceMethod yX2_fewestNights, Cond.selects RX2 yX2_fewestNights yX2_fewestNights, Cond.code yX2_fewestNights cX2_fewestNights 7 (some .int), Cond.methodLink RX2 90 yX2_keepDry, Cond.instanceMethod yX2_keepDry, Cond.selects RX2 yX2_keepDry yX2_keepDry, Cond.code yX2_keepDry cX2_keepDry 4 (some .int), Cond.methodLink RL 78 yX5_nights, Cond.instanceMethod yX5_nights]
def wsL_law_r25 : List Cond := [Cond.selects RX5 yX5_nights yX5_nights, Cond.code yX5_nights cX5_nights 5 (some .int), Cond.methodLink RX5 174 yX5_houses, Cond.instanceMethod yX5_houses, Cond.selects RX5 yX5_houses yX5_houses, Cond.code yX5_houses cX5_houses 1 (some .int), Cond.methodLink RL 79 yX4_piano, Cond.instanceMethod yX4_piano, Cond.selects RX4 yX4_piano yX4_piano, Cond.code yX4_piano cX4_piano 2 (some .int), Cond.instanceMethod yX2_actsToEmpty, Cond.selects RX2 yX2_actsToEmpty yX2_actsToEmpty, Cond.code yX2_actsToEmpty cX2_actsToEmpty 5 (some .int), Cond.methodLink RL 82 yX5_piano, Cond.instanceMethod yX5_piano, Cond.selects RX5 yX5_piano yX5_piano, Cond.code yX5_piano cX5_piano 4 (some .int), Cond.methodLink RL 83 yX4_best, Cond.instanceMethod yX4_best, Cond.selects RX4 yX4_best yX4_best, Cond.code yX4_best cX4_best 3 (some .int), Cond.instanceMethod yX2_bestHome, Cond.selects RX2 yX2_bestHome yX2_bestHome, Cond.code yX2_bestHome cX2_bestHome 6 (some .int)]
def wsL_law_r26 : List Cond := [Cond.constant RX2 100 (-1000000), Cond.methodLink RL 86 yX5_best, Cond.instanceMethod yX5_best, Cond.selects RX5 yX5_best yX5_best, Cond.code yX5_best cX5_best 5 (some .int), Cond.methodLink RL 87 yX4_clue, Cond.instanceMethod yX4_clue, Cond.selects RX4 yX4_clue yX4_clue, Cond.code yX4_clue cX4_clue 3 (some .int), Cond.methodLink RL 90 yX5_clue, Cond.instanceMethod yX5_clue, Cond.selects RX5 yX5_clue yX5_clue, Cond.code yX5_clue cX5_clue 3 (some .int), Cond.methodLink RL 91 yX4_fit, Cond.instanceMethod yX4_fit, Cond.selects RX4 yX4_fit yX4_fit, Cond.code yX4_fit cX4_fit 1 (some .int), Cond.instanceMethod yX2_countFitting, Cond.selects RX2 yX2_countFitting yX2_countFitting, Cond.code yX2_countFitting cX2_countFitting 5 (some .int), Cond.instanceMethod yX1_fitsLetter, Cond.selects RX1 yX1_fitsLetter yX1_fitsLetter, Cond.code yX1_fitsLetter cX1_fitsLetter 4 (some .boolean), Cond.methodLink RL 94 yX5_fit]
def wsL_law_r27 : List Cond := [Cond.instanceMethod yX5_fit, Cond.selects RX5 yX5_fit yX5_fit, Cond.code yX5_fit cX5_fit 3 (some .int), Cond.methodLink RX5 177 yX5_isFit, Cond.instanceMethod yX5_isFit, Cond.selects RX5 yX5_isFit yX5_isFit, Cond.code yX5_isFit cX5_isFit 4 (some .boolean), Cond.methodLink RL 95 yX4_sure, Cond.instanceMethod yX4_sure, Cond.selects RX4 yX4_sure yX4_sure, Cond.code yX4_sure cX4_sure 2 (some .int), Cond.instanceMethod yX2_surePlace, Cond.selects RX2 yX2_surePlace yX2_surePlace, Cond.code yX2_surePlace cX2_surePlace 7 (some .int), Cond.methodLink RL 98 yX5_sure, Cond.instanceMethod yX5_sure, Cond.selects RX5 yX5_sure yX5_sure, Cond.code yX5_sure cX5_sure 5 (some .int), Cond.methodLink RL 99 yX4_forget, Cond.instanceMethod yX4_forget, Cond.selects RX4 yX4_forget yX4_forget, Cond.code yX4_forget cX4_forget 2 (some .int), Cond.methodLink RL 102 yX5_forget, Cond.instanceMethod yX5_forget]
def wsL_law_r28 : List Cond := [Cond.selects RX5 yX5_forget yX5_forget, Cond.code yX5_forget cX5_forget 2 (some .int), Cond.methodLink RL 103 yX4_mark, Cond.instanceMethod yX4_mark, Cond.selects RX4 yX4_mark yX4_mark, Cond.code yX4_mark cX4_mark 3 (some .int), Cond.methodLink RX4 179 yX4_markOfPanel, Cond.instanceMethod yX4_markOfPanel, Cond.selects RX4 yX4_markOfPanel yX4_markOfPanel, Cond.code yX4_markOfPanel cX4_markOfPanel 2 (some .int), Cond.fieldLink RX4 210 "BedHouse" "traced" "J", Cond.methodLink RX4 182 yX4_markOfBearing, Cond.instanceMethod yX4_markOfBearing, Cond.selects RX4 yX4_markOfBearing yX4_markOfBearing, Cond.code yX4_markOfBearing cX4_markOfBearing 2 (some .int), Cond.constantLong RX4 218 (10), Cond.methodLink RX4 185 yX4_markOfLight, Cond.instanceMethod yX4_markOfLight, Cond.selects RX4 yX4_markOfLight yX4_markOfLight, Cond.code yX4_markOfLight cX4_markOfLight 2 (some .int), Cond.constantLong RX4 220 (100), Cond.methodLink RX4 188 yX4_markOfOld, Cond.instanceMethod yX4_markOfOld, Cond.selects RX4 yX4_markOfOld yX4_markOfOld]
def wsL_law_r29 : List Cond := [Cond.code yX4_markOfOld cX4_markOfOld 2 (some .int), Cond.constantLong RX4 222 (1000), Cond.methodLink RX4 191 yX4_markOfClear, Cond.instanceMethod yX4_markOfClear, Cond.selects RX4 yX4_markOfClear yX4_markOfClear, Cond.code yX4_markOfClear cX4_markOfClear 2 (some .int), Cond.constantLong RX4 224 (10000), Cond.methodLink RX4 194 yX4_markOfNeighbours, Cond.instanceMethod yX4_markOfNeighbours, Cond.selects RX4 yX4_markOfNeighbours yX4_markOfNeighbours, Cond.code yX4_markOfNeighbours cX4_markOfNeighbours 2 (some .int), Cond.constantLong RX4 226 (100000), Cond.methodLink RL 106 yX5_mark, Cond.instanceMethod yX5_mark, Cond.selects RX5 yX5_mark yX5_mark, Cond.code yX5_mark cX5_mark 4 (some .int), Cond.fieldLink RX5 180 "BedHouseModel" "trace" "J", Cond.constantLong RX5 184 (11), Cond.constantLong RX5 186 (101), Cond.constantLong RX5 188 (1011), Cond.constantLong RX5 190 (10101), Cond.constantLong RX5 192 (100001), Cond.methodLink RL 107 yX4_keep, Cond.instanceMethod yX4_keep]
def wsL_law_r30 : List Cond := [Cond.selects RX4 yX4_keep yX4_keep, Cond.code yX4_keep cX4_keep 2 (some .int), Cond.instanceMethod yX0_copyFrom, Cond.selects RX0 yX0_copyFrom yX0_copyFrom, Cond.code yX0_copyFrom cX0_copyFrom 2 none, Cond.methodLink RL 110 yX5_keep, Cond.instanceMethod yX5_keep, Cond.selects RX5 yX5_keep yX5_keep, Cond.code yX5_keep cX5_keep 2 (some .int), Cond.methodLink RX5 194 yX5_copy, Cond.instanceMethod yX5_copy, Cond.selects RX5 yX5_copy yX5_copy, Cond.code yX5_copy cX5_copy 4 none, Cond.methodLink RL 111 yX4_back, Cond.instanceMethod yX4_back, Cond.selects RX4 yX4_back yX4_back, Cond.code yX4_back cX4_back 2 (some .int), Cond.methodLink RL 114 yX5_back, Cond.instanceMethod yX5_back, Cond.selects RX5 yX5_back yX5_back, Cond.code yX5_back cX5_back 2 (some .int), Cond.methodLink RL 115 yX4_count, Cond.instanceMethod yX4_count, Cond.selects RX4 yX4_count yX4_count]
def wsL_law_r31 : List Cond := [Cond.code yX4_count cX4_count 2 (some .int), Cond.methodLink RL 118 yX5_count, Cond.instanceMethod yX5_count, Cond.selects RX5 yX5_count yX5_count, Cond.code yX5_count cX5_count 2 (some .int), Cond.methodLink RL 119 yX4_trace, Cond.instanceMethod yX4_trace, Cond.selects RX4 yX4_trace yX4_trace, Cond.code yX4_trace cX4_trace 1 (some .long), Cond.methodLink RL 123 yX5_trace, Cond.instanceMethod yX5_trace, Cond.selects RX5 yX5_trace yX5_trace, Cond.code yX5_trace cX5_trace 1 (some .long)]
def wsL_law : List Cond := (wsL_law_r1 ++ (wsL_law_r2 ++ (wsL_law_r3 ++ (wsL_law_r4 ++ (wsL_law_r5 ++ (wsL_law_r6 ++ (wsL_law_r7 ++ (wsL_law_r8 ++ (wsL_law_r9 ++ (wsL_law_r10 ++ (wsL_law_r11 ++ (wsL_law_r12 ++ (wsL_law_r13 ++ (wsL_law_r14 ++ (wsL_law_r15 ++ (wsL_law_r16 ++ (wsL_law_r17 ++ (wsL_law_r18 ++ (wsL_law_r19 ++ (wsL_law_r20 ++ (wsL_law_r21 ++ (wsL_law_r22 ++ (wsL_law_r23 ++ (wsL_law_r24 ++ (wsL_law_r25 ++ (wsL_law_r26 ++ (wsL_law_r27 ++ (wsL_law_r28 ++ (wsL_law_r29 ++ (wsL_law_r30 ++ wsL_law_r31)))))))))))))))))))))))))))))) ++ wsX40 ++ wsX50 ++ wsX30 ++ wsX20 ++ wsX00 ++ wsX10 ++ ([] : List Cond)
abbrev vwCl : List vw_C := [(RX0, TX0, 8), (RX1, TX1, 11), (RX2, TX2, 5), (RX3, TX3, 8), (RX4, TX4, 7), (RX5, TX5, 19)]
end
section
theorem dX0_init_0 : decode cX0_init 0 = .ok (.aload_n 0, 1) := by decide +kernel
theorem dX0_init_1 : decode cX0_init 1 = .ok (.invokespecial 1, 3) := by decide +kernel
theorem dX0_init_4 : decode cX0_init 4 = .ok (.return_, 1) := by decide +kernel
theorem dX0_begin_0 : decode cX0_begin 0 = .ok (.aload_n 0, 1) := by decide +kernel
theorem dX0_begin_1 : decode cX0_begin 1 = .ok (.iload_n 1, 1) := by decide +kernel
theorem dX0_begin_2 : decode cX0_begin 2 = .ok (.putfield 7, 3) := by decide +kernel
theorem dX0_begin_5 : decode cX0_begin 5 = .ok (.aload_n 0, 1) := by decide +kernel
theorem dX0_begin_6 : decode cX0_begin 6 = .ok (.iconst 0, 1) := by decide +kernel
theorem dX0_begin_7 : decode cX0_begin 7 = .ok (.putfield 13, 3) := by decide +kernel
theorem dX0_begin_10 : decode cX0_begin 10 = .ok (.aload_n 0, 1) := by decide +kernel
theorem dX0_begin_11 : decode cX0_begin 11 = .ok (.iconst 0, 1) := by decide +kernel
theorem dX0_begin_12 : decode cX0_begin 12 = .ok (.putfield 16, 3) := by decide +kernel
theorem dX0_begin_15 : decode cX0_begin 15 = .ok (.aload_n 0, 1) := by decide +kernel
theorem dX0_begin_16 : decode cX0_begin 16 = .ok (.iconst 0, 1) := by decide +kernel
theorem dX0_begin_17 : decode cX0_begin 17 = .ok (.putfield 19, 3) := by decide +kernel
theorem dX0_begin_20 : decode cX0_begin 20 = .ok (.aload_n 0, 1) := by decide +kernel
theorem dX0_begin_21 : decode cX0_begin 21 = .ok (.iconst 0, 1) := by decide +kernel
theorem dX0_begin_22 : decode cX0_begin 22 = .ok (.putfield 22, 3) := by decide +kernel
theorem dX0_begin_25 : decode cX0_begin 25 = .ok (.aload_n 0, 1) := by decide +kernel
theorem dX0_begin_26 : decode cX0_begin 26 = .ok (.iconst 0, 1) := by decide +kernel
theorem dX0_begin_27 : decode cX0_begin 27 = .ok (.putfield 25, 3) := by decide +kernel
theorem dX0_begin_30 : decode cX0_begin 30 = .ok (.aload_n 0, 1) := by decide +kernel
theorem dX0_begin_31 : decode cX0_begin 31 = .ok (.iconst 0, 1) := by decide +kernel
theorem dX0_begin_32 : decode cX0_begin 32 = .ok (.putfield 28, 3) := by decide +kernel
theorem dX0_begin_35 : decode cX0_begin 35 = .ok (.return_, 1) := by decide +kernel
theorem dX0_copyFrom_0 : decode cX0_copyFrom 0 = .ok (.aload_n 0, 1) := by decide +kernel
theorem dX0_copyFrom_1 : decode cX0_copyFrom 1 = .ok (.aload_n 1, 1) := by decide +kernel
theorem dX0_copyFrom_2 : decode cX0_copyFrom 2 = .ok (.getfield 7, 3) := by decide +kernel
theorem dX0_copyFrom_5 : decode cX0_copyFrom 5 = .ok (.putfield 7, 3) := by decide +kernel
theorem dX0_copyFrom_8 : decode cX0_copyFrom 8 = .ok (.aload_n 0, 1) := by decide +kernel
theorem dX0_copyFrom_9 : decode cX0_copyFrom 9 = .ok (.aload_n 1, 1) := by decide +kernel
theorem dX0_copyFrom_10 : decode cX0_copyFrom 10 = .ok (.getfield 13, 3) := by decide +kernel
theorem dX0_copyFrom_13 : decode cX0_copyFrom 13 = .ok (.putfield 13, 3) := by decide +kernel
theorem dX0_copyFrom_16 : decode cX0_copyFrom 16 = .ok (.aload_n 0, 1) := by decide +kernel
theorem dX0_copyFrom_17 : decode cX0_copyFrom 17 = .ok (.aload_n 1, 1) := by decide +kernel
theorem dX0_copyFrom_18 : decode cX0_copyFrom 18 = .ok (.getfield 16, 3) := by decide +kernel
theorem dX0_copyFrom_21 : decode cX0_copyFrom 21 = .ok (.putfield 16, 3) := by decide +kernel
theorem dX0_copyFrom_24 : decode cX0_copyFrom 24 = .ok (.aload_n 0, 1) := by decide +kernel
theorem dX0_copyFrom_25 : decode cX0_copyFrom 25 = .ok (.aload_n 1, 1) := by decide +kernel
theorem dX0_copyFrom_26 : decode cX0_copyFrom 26 = .ok (.getfield 19, 3) := by decide +kernel
theorem dX0_copyFrom_29 : decode cX0_copyFrom 29 = .ok (.putfield 19, 3) := by decide +kernel
theorem dX0_copyFrom_32 : decode cX0_copyFrom 32 = .ok (.aload_n 0, 1) := by decide +kernel
theorem dX0_copyFrom_33 : decode cX0_copyFrom 33 = .ok (.aload_n 1, 1) := by decide +kernel
theorem dX0_copyFrom_34 : decode cX0_copyFrom 34 = .ok (.getfield 22, 3) := by decide +kernel
theorem dX0_copyFrom_37 : decode cX0_copyFrom 37 = .ok (.putfield 22, 3) := by decide +kernel
theorem dX0_copyFrom_40 : decode cX0_copyFrom 40 = .ok (.aload_n 0, 1) := by decide +kernel
theorem dX0_copyFrom_41 : decode cX0_copyFrom 41 = .ok (.aload_n 1, 1) := by decide +kernel
theorem dX0_copyFrom_42 : decode cX0_copyFrom 42 = .ok (.getfield 25, 3) := by decide +kernel
theorem dX0_copyFrom_45 : decode cX0_copyFrom 45 = .ok (.putfield 25, 3) := by decide +kernel
theorem dX0_copyFrom_48 : decode cX0_copyFrom 48 = .ok (.aload_n 0, 1) := by decide +kernel
theorem dX0_copyFrom_49 : decode cX0_copyFrom 49 = .ok (.aload_n 1, 1) := by decide +kernel
theorem dX0_copyFrom_50 : decode cX0_copyFrom 50 = .ok (.getfield 28, 3) := by decide +kernel
theorem dX0_copyFrom_53 : decode cX0_copyFrom 53 = .ok (.putfield 28, 3) := by decide +kernel
theorem dX0_copyFrom_56 : decode cX0_copyFrom 56 = .ok (.return_, 1) := by decide +kernel
set_option maxRecDepth 20000 in
theorem ggX1_init_X1_startAnew : GoodIn wsX1_init wsX1_startAnew := goodIn_r _ [11, 12, 13, 14, 15, 16, 17, 18, 19, 20, 21, 22, 23, 24, 25, 26, 27, 28, 29, 30, 31] (by decide +kernel) (by decide +kernel)
set_option maxRecDepth 20000 in
theorem gX1_init_X1_startAnew : GoodIn wsX1_init (wsV RX1 18 RX1 yX1_startAnew wsX1_startAnew) := goodIn_app (goodIn_of _ (by decide +kernel)) ggX1_init_X1_startAnew
theorem dX1_init_0 : decode cX1_init 0 = .ok (.aload_n 0, 1) := by decide +kernel
theorem dX1_init_1 : decode cX1_init 1 = .ok (.invokespecial 3, 3) := by decide +kernel
theorem dX1_init_4 : decode cX1_init 4 = .ok (.aload_n 0, 1) := by decide +kernel
theorem dX1_init_5 : decode cX1_init 5 = .ok (.iconst 4, 1) := by decide +kernel
theorem dX1_init_6 : decode cX1_init 6 = .ok (.newarray .int, 2) := by decide +kernel
theorem dX1_init_8 : decode cX1_init 8 = .ok (.putfield 9, 3) := by decide +kernel
theorem dX1_init_11 : decode cX1_init 11 = .ok (.aload_n 0, 1) := by decide +kernel
theorem dX1_init_12 : decode cX1_init 12 = .ok (.iconst 2, 1) := by decide +kernel
theorem dX1_init_13 : decode cX1_init 13 = .ok (.newarray .int, 2) := by decide +kernel
theorem dX1_init_15 : decode cX1_init 15 = .ok (.putfield 15, 3) := by decide +kernel
theorem dX1_init_18 : decode cX1_init 18 = .ok (.aload_n 0, 1) := by decide +kernel
theorem dX1_init_19 : decode cX1_init 19 = .ok (.invokevirtual 18, 3) := by decide +kernel
theorem dX1_init_22 : decode cX1_init 22 = .ok (.return_, 1) := by decide +kernel
theorem dX1_startAnew_0 : decode cX1_startAnew 0 = .ok (.aload_n 0, 1) := by decide +kernel
theorem dX1_startAnew_1 : decode cX1_startAnew 1 = .ok (.iconst 0, 1) := by decide +kernel
theorem dX1_startAnew_2 : decode cX1_startAnew 2 = .ok (.putfield 21, 3) := by decide +kernel
theorem dX1_startAnew_5 : decode cX1_startAnew 5 = .ok (.aload_n 0, 1) := by decide +kernel
theorem dX1_startAnew_6 : decode cX1_startAnew 6 = .ok (.iconst 0, 1) := by decide +kernel
theorem dX1_startAnew_7 : decode cX1_startAnew 7 = .ok (.putfield 25, 3) := by decide +kernel
theorem dX1_startAnew_10 : decode cX1_startAnew 10 = .ok (.aload_n 0, 1) := by decide +kernel
theorem dX1_startAnew_11 : decode cX1_startAnew 11 = .ok (.iconst 0, 1) := by decide +kernel
theorem dX1_startAnew_12 : decode cX1_startAnew 12 = .ok (.putfield 28, 3) := by decide +kernel
theorem dX1_startAnew_15 : decode cX1_startAnew 15 = .ok (.aload_n 0, 1) := by decide +kernel
theorem dX1_startAnew_16 : decode cX1_startAnew 16 = .ok (.iconst 0, 1) := by decide +kernel
theorem dX1_startAnew_17 : decode cX1_startAnew 17 = .ok (.putfield 31, 3) := by decide +kernel
theorem dX1_startAnew_20 : decode cX1_startAnew 20 = .ok (.aload_n 0, 1) := by decide +kernel
theorem dX1_startAnew_21 : decode cX1_startAnew 21 = .ok (.iconst 0, 1) := by decide +kernel
theorem dX1_startAnew_22 : decode cX1_startAnew 22 = .ok (.putfield 34, 3) := by decide +kernel
theorem dX1_startAnew_25 : decode cX1_startAnew 25 = .ok (.aload_n 0, 1) := by decide +kernel
theorem dX1_startAnew_26 : decode cX1_startAnew 26 = .ok (.bipush (-9), 2) := by decide +kernel
theorem dX1_startAnew_28 : decode cX1_startAnew 28 = .ok (.putfield 37, 3) := by decide +kernel
theorem dX1_startAnew_31 : decode cX1_startAnew 31 = .ok (.aload_n 0, 1) := by decide +kernel
theorem dX1_startAnew_32 : decode cX1_startAnew 32 = .ok (.bipush (-9), 2) := by decide +kernel
theorem dX1_startAnew_34 : decode cX1_startAnew 34 = .ok (.putfield 40, 3) := by decide +kernel
theorem dX1_startAnew_37 : decode cX1_startAnew 37 = .ok (.aload_n 0, 1) := by decide +kernel
theorem dX1_startAnew_38 : decode cX1_startAnew 38 = .ok (.iconst 3, 1) := by decide +kernel
theorem dX1_startAnew_39 : decode cX1_startAnew 39 = .ok (.putfield 43, 3) := by decide +kernel
theorem dX1_startAnew_42 : decode cX1_startAnew 42 = .ok (.aload_n 0, 1) := by decide +kernel
theorem dX1_startAnew_43 : decode cX1_startAnew 43 = .ok (.iconst 2, 1) := by decide +kernel
theorem dX1_startAnew_44 : decode cX1_startAnew 44 = .ok (.putfield 46, 3) := by decide +kernel
theorem dX1_startAnew_47 : decode cX1_startAnew 47 = .ok (.return_, 1) := by decide +kernel
theorem dX1_hasPanel_0 : decode cX1_hasPanel 0 = .ok (.iload_n 1, 1) := by decide +kernel
theorem dX1_hasPanel_1 : decode cX1_hasPanel 1 = .ok (.ifCond .lt 24, 3) := by decide +kernel
theorem dX1_hasPanel_4 : decode cX1_hasPanel 4 = .ok (.iload_n 1, 1) := by decide +kernel
theorem dX1_hasPanel_5 : decode cX1_hasPanel 5 = .ok (.aload_n 0, 1) := by decide +kernel
theorem dX1_hasPanel_6 : decode cX1_hasPanel 6 = .ok (.getfield 21, 3) := by decide +kernel
theorem dX1_hasPanel_9 : decode cX1_hasPanel 9 = .ok (.if_icmp .ge 16, 3) := by decide +kernel
theorem dX1_hasPanel_12 : decode cX1_hasPanel 12 = .ok (.iload_n 1, 1) := by decide +kernel
theorem dX1_hasPanel_13 : decode cX1_hasPanel 13 = .ok (.aload_n 0, 1) := by decide +kernel
theorem dX1_hasPanel_14 : decode cX1_hasPanel 14 = .ok (.getfield 9, 3) := by decide +kernel
theorem dX1_hasPanel_17 : decode cX1_hasPanel 17 = .ok (.arraylength, 1) := by decide +kernel
theorem dX1_hasPanel_18 : decode cX1_hasPanel 18 = .ok (.if_icmp .ge 7, 3) := by decide +kernel
theorem dX1_hasPanel_21 : decode cX1_hasPanel 21 = .ok (.iconst 1, 1) := by decide +kernel
theorem dX1_hasPanel_22 : decode cX1_hasPanel 22 = .ok (.goto 4, 3) := by decide +kernel
theorem dX1_hasPanel_25 : decode cX1_hasPanel 25 = .ok (.iconst 0, 1) := by decide +kernel
theorem dX1_hasPanel_26 : decode cX1_hasPanel 26 = .ok (.ireturn, 1) := by decide +kernel
theorem dX1_hasBeam_0 : decode cX1_hasBeam 0 = .ok (.iload_n 1, 1) := by decide +kernel
theorem dX1_hasBeam_1 : decode cX1_hasBeam 1 = .ok (.ifCond .lt 24, 3) := by decide +kernel
theorem dX1_hasBeam_4 : decode cX1_hasBeam 4 = .ok (.iload_n 1, 1) := by decide +kernel
theorem dX1_hasBeam_5 : decode cX1_hasBeam 5 = .ok (.aload_n 0, 1) := by decide +kernel
theorem dX1_hasBeam_6 : decode cX1_hasBeam 6 = .ok (.getfield 28, 3) := by decide +kernel
theorem dX1_hasBeam_9 : decode cX1_hasBeam 9 = .ok (.if_icmp .ge 16, 3) := by decide +kernel
theorem dX1_hasBeam_12 : decode cX1_hasBeam 12 = .ok (.iload_n 1, 1) := by decide +kernel
theorem dX1_hasBeam_13 : decode cX1_hasBeam 13 = .ok (.aload_n 0, 1) := by decide +kernel
theorem dX1_hasBeam_14 : decode cX1_hasBeam 14 = .ok (.getfield 15, 3) := by decide +kernel
theorem dX1_hasBeam_17 : decode cX1_hasBeam 17 = .ok (.arraylength, 1) := by decide +kernel
theorem dX1_hasBeam_18 : decode cX1_hasBeam 18 = .ok (.if_icmp .ge 7, 3) := by decide +kernel
theorem dX1_hasBeam_21 : decode cX1_hasBeam 21 = .ok (.iconst 1, 1) := by decide +kernel
theorem dX1_hasBeam_22 : decode cX1_hasBeam 22 = .ok (.goto 4, 3) := by decide +kernel
theorem dX1_hasBeam_25 : decode cX1_hasBeam 25 = .ok (.iconst 0, 1) := by decide +kernel
theorem dX1_hasBeam_26 : decode cX1_hasBeam 26 = .ok (.ireturn, 1) := by decide +kernel
set_option maxRecDepth 20000 in
theorem ggX1_addPanel_X4_unitOf : GoodIn wsX1_addPanel wsX4_unitOf := goodIn_r _ [6] (by decide +kernel) (by decide +kernel)
set_option maxRecDepth 20000 in
theorem gX1_addPanel_X4_unitOf_n49 : GoodIn wsX1_addPanel (wsX4_unitOf) := ggX1_addPanel_X4_unitOf
theorem dX1_addPanel_0 : decode cX1_addPanel 0 = .ok (.aload_n 0, 1) := by decide +kernel
theorem dX1_addPanel_1 : decode cX1_addPanel 1 = .ok (.getfield 21, 3) := by decide +kernel
theorem dX1_addPanel_4 : decode cX1_addPanel 4 = .ok (.aload_n 0, 1) := by decide +kernel
theorem dX1_addPanel_5 : decode cX1_addPanel 5 = .ok (.getfield 9, 3) := by decide +kernel
theorem dX1_addPanel_8 : decode cX1_addPanel 8 = .ok (.arraylength, 1) := by decide +kernel
theorem dX1_addPanel_9 : decode cX1_addPanel 9 = .ok (.if_icmp .ge 41, 3) := by decide +kernel
theorem dX1_addPanel_12 : decode cX1_addPanel 12 = .ok (.aload_n 0, 1) := by decide +kernel
theorem dX1_addPanel_13 : decode cX1_addPanel 13 = .ok (.getfield 9, 3) := by decide +kernel
theorem dX1_addPanel_16 : decode cX1_addPanel 16 = .ok (.aload_n 0, 1) := by decide +kernel
theorem dX1_addPanel_17 : decode cX1_addPanel 17 = .ok (.getfield 21, 3) := by decide +kernel
theorem dX1_addPanel_20 : decode cX1_addPanel 20 = .ok (.iload_n 1, 1) := by decide +kernel
theorem dX1_addPanel_21 : decode cX1_addPanel 21 = .ok (.iastore, 1) := by decide +kernel
theorem dX1_addPanel_22 : decode cX1_addPanel 22 = .ok (.aload_n 0, 1) := by decide +kernel
theorem dX1_addPanel_23 : decode cX1_addPanel 23 = .ok (.dup, 1) := by decide +kernel
theorem dX1_addPanel_24 : decode cX1_addPanel 24 = .ok (.getfield 25, 3) := by decide +kernel
theorem dX1_addPanel_27 : decode cX1_addPanel 27 = .ok (.iload_n 2, 1) := by decide +kernel
theorem dX1_addPanel_28 : decode cX1_addPanel 28 = .ok (.aload_n 0, 1) := by decide +kernel
theorem dX1_addPanel_29 : decode cX1_addPanel 29 = .ok (.getfield 21, 3) := by decide +kernel
theorem dX1_addPanel_32 : decode cX1_addPanel 32 = .ok (.invokestatic 49, 3) := by decide +kernel
theorem dX1_addPanel_35 : decode cX1_addPanel 35 = .ok (.imul, 1) := by decide +kernel
theorem dX1_addPanel_36 : decode cX1_addPanel 36 = .ok (.iadd, 1) := by decide +kernel
theorem dX1_addPanel_37 : decode cX1_addPanel 37 = .ok (.putfield 25, 3) := by decide +kernel
theorem dX1_addPanel_40 : decode cX1_addPanel 40 = .ok (.aload_n 0, 1) := by decide +kernel
theorem dX1_addPanel_41 : decode cX1_addPanel 41 = .ok (.dup, 1) := by decide +kernel
theorem dX1_addPanel_42 : decode cX1_addPanel 42 = .ok (.getfield 21, 3) := by decide +kernel
theorem dX1_addPanel_45 : decode cX1_addPanel 45 = .ok (.iconst 1, 1) := by decide +kernel
theorem dX1_addPanel_46 : decode cX1_addPanel 46 = .ok (.iadd, 1) := by decide +kernel
theorem dX1_addPanel_47 : decode cX1_addPanel 47 = .ok (.putfield 21, 3) := by decide +kernel
theorem dX1_addPanel_50 : decode cX1_addPanel 50 = .ok (.return_, 1) := by decide +kernel
theorem dX1_addBeam_0 : decode cX1_addBeam 0 = .ok (.aload_n 0, 1) := by decide +kernel
theorem dX1_addBeam_1 : decode cX1_addBeam 1 = .ok (.getfield 28, 3) := by decide +kernel
theorem dX1_addBeam_4 : decode cX1_addBeam 4 = .ok (.aload_n 0, 1) := by decide +kernel
theorem dX1_addBeam_5 : decode cX1_addBeam 5 = .ok (.getfield 15, 3) := by decide +kernel
theorem dX1_addBeam_8 : decode cX1_addBeam 8 = .ok (.arraylength, 1) := by decide +kernel
theorem dX1_addBeam_9 : decode cX1_addBeam 9 = .ok (.if_icmp .ge 23, 3) := by decide +kernel
theorem dX1_addBeam_12 : decode cX1_addBeam 12 = .ok (.aload_n 0, 1) := by decide +kernel
theorem dX1_addBeam_13 : decode cX1_addBeam 13 = .ok (.getfield 15, 3) := by decide +kernel
theorem dX1_addBeam_16 : decode cX1_addBeam 16 = .ok (.aload_n 0, 1) := by decide +kernel
theorem dX1_addBeam_17 : decode cX1_addBeam 17 = .ok (.getfield 28, 3) := by decide +kernel
theorem dX1_addBeam_20 : decode cX1_addBeam 20 = .ok (.iload_n 1, 1) := by decide +kernel
theorem dX1_addBeam_21 : decode cX1_addBeam 21 = .ok (.iastore, 1) := by decide +kernel
theorem dX1_addBeam_22 : decode cX1_addBeam 22 = .ok (.aload_n 0, 1) := by decide +kernel
theorem dX1_addBeam_23 : decode cX1_addBeam 23 = .ok (.dup, 1) := by decide +kernel
theorem dX1_addBeam_24 : decode cX1_addBeam 24 = .ok (.getfield 28, 3) := by decide +kernel
theorem dX1_addBeam_27 : decode cX1_addBeam 27 = .ok (.iconst 1, 1) := by decide +kernel
theorem dX1_addBeam_28 : decode cX1_addBeam 28 = .ok (.iadd, 1) := by decide +kernel
theorem dX1_addBeam_29 : decode cX1_addBeam 29 = .ok (.putfield 28, 3) := by decide +kernel
theorem dX1_addBeam_32 : decode cX1_addBeam 32 = .ok (.return_, 1) := by decide +kernel
set_option maxRecDepth 20000 in
theorem ggX1_sortOf_X1_hasPanel : GoodIn wsX1_sortOf wsX1_hasPanel := goodIn_r _ [6, 7, 1, 8, 9, 10, 11, 12, 13, 14, 15, 16, 17, 18] (by decide +kernel) (by decide +kernel)
set_option maxRecDepth 20000 in
theorem gX1_sortOf_X1_hasPanel : GoodIn wsX1_sortOf (wsV RX1 53 RX1 yX1_hasPanel wsX1_hasPanel) := goodIn_app (goodIn_of _ (by decide +kernel)) ggX1_sortOf_X1_hasPanel
theorem dX1_sortOf_0 : decode cX1_sortOf 0 = .ok (.aload_n 0, 1) := by decide +kernel
theorem dX1_sortOf_1 : decode cX1_sortOf 1 = .ok (.iload_n 1, 1) := by decide +kernel
theorem dX1_sortOf_2 : decode cX1_sortOf 2 = .ok (.invokevirtual 53, 3) := by decide +kernel
theorem dX1_sortOf_5 : decode cX1_sortOf 5 = .ok (.ifCond .eq 12, 3) := by decide +kernel
theorem dX1_sortOf_8 : decode cX1_sortOf 8 = .ok (.aload_n 0, 1) := by decide +kernel
theorem dX1_sortOf_9 : decode cX1_sortOf 9 = .ok (.getfield 9, 3) := by decide +kernel
theorem dX1_sortOf_12 : decode cX1_sortOf 12 = .ok (.iload_n 1, 1) := by decide +kernel
theorem dX1_sortOf_13 : decode cX1_sortOf 13 = .ok (.iaload, 1) := by decide +kernel
theorem dX1_sortOf_14 : decode cX1_sortOf 14 = .ok (.goto 5, 3) := by decide +kernel
theorem dX1_sortOf_17 : decode cX1_sortOf 17 = .ok (.bipush (-9), 2) := by decide +kernel
theorem dX1_sortOf_19 : decode cX1_sortOf 19 = .ok (.ireturn, 1) := by decide +kernel
set_option maxRecDepth 20000 in
theorem ggX1_panelAt_X4_placeIn : GoodIn wsX1_panelAt wsX4_placeIn := goodIn_r _ [4] (by decide +kernel) (by decide +kernel)
set_option maxRecDepth 20000 in
theorem gX1_panelAt_X4_placeIn_n57 : GoodIn wsX1_panelAt (wsX4_placeIn) := ggX1_panelAt_X4_placeIn
theorem dX1_panelAt_0 : decode cX1_panelAt 0 = .ok (.iconst 0, 1) := by decide +kernel
theorem dX1_panelAt_1 : decode cX1_panelAt 1 = .ok (.istore_n 3, 1) := by decide +kernel
theorem dX1_panelAt_2 : decode cX1_panelAt 2 = .ok (.iload_n 3, 1) := by decide +kernel
theorem dX1_panelAt_3 : decode cX1_panelAt 3 = .ok (.aload_n 0, 1) := by decide +kernel
theorem dX1_panelAt_4 : decode cX1_panelAt 4 = .ok (.getfield 21, 3) := by decide +kernel
theorem dX1_panelAt_7 : decode cX1_panelAt 7 = .ok (.if_icmp .ge 20, 3) := by decide +kernel
theorem dX1_panelAt_10 : decode cX1_panelAt 10 = .ok (.iload_n 1, 1) := by decide +kernel
theorem dX1_panelAt_11 : decode cX1_panelAt 11 = .ok (.iload_n 3, 1) := by decide +kernel
theorem dX1_panelAt_12 : decode cX1_panelAt 12 = .ok (.invokestatic 57, 3) := by decide +kernel
theorem dX1_panelAt_15 : decode cX1_panelAt 15 = .ok (.iload_n 2, 1) := by decide +kernel
theorem dX1_panelAt_16 : decode cX1_panelAt 16 = .ok (.if_icmp .ne 5, 3) := by decide +kernel
theorem dX1_panelAt_19 : decode cX1_panelAt 19 = .ok (.iload_n 3, 1) := by decide +kernel
theorem dX1_panelAt_20 : decode cX1_panelAt 20 = .ok (.ireturn, 1) := by decide +kernel
theorem dX1_panelAt_21 : decode cX1_panelAt 21 = .ok (.iinc 3 1, 3) := by decide +kernel
theorem dX1_panelAt_24 : decode cX1_panelAt 24 = .ok (.goto (-22), 3) := by decide +kernel
theorem dX1_panelAt_27 : decode cX1_panelAt 27 = .ok (.bipush (-9), 2) := by decide +kernel
theorem dX1_panelAt_29 : decode cX1_panelAt 29 = .ok (.ireturn, 1) := by decide +kernel
set_option maxRecDepth 20000 in
theorem ggX1_slotsUnder_X4_placeIn : GoodIn wsX1_slotsUnder wsX4_placeIn := goodIn_r _ [5] (by decide +kernel) (by decide +kernel)
set_option maxRecDepth 20000 in
theorem gX1_slotsUnder_X4_placeIn_n57 : GoodIn wsX1_slotsUnder (wsX4_placeIn) := ggX1_slotsUnder_X4_placeIn
theorem dX1_slotsUnder_0 : decode cX1_slotsUnder 0 = .ok (.iconst 0, 1) := by decide +kernel
theorem dX1_slotsUnder_1 : decode cX1_slotsUnder 1 = .ok (.istore_n 3, 1) := by decide +kernel
theorem dX1_slotsUnder_2 : decode cX1_slotsUnder 2 = .ok (.iconst 0, 1) := by decide +kernel
theorem dX1_slotsUnder_3 : decode cX1_slotsUnder 3 = .ok (.istore 4, 2) := by decide +kernel
theorem dX1_slotsUnder_5 : decode cX1_slotsUnder 5 = .ok (.iload 4, 2) := by decide +kernel
theorem dX1_slotsUnder_7 : decode cX1_slotsUnder 7 = .ok (.aload_n 0, 1) := by decide +kernel
theorem dX1_slotsUnder_8 : decode cX1_slotsUnder 8 = .ok (.getfield 21, 3) := by decide +kernel
theorem dX1_slotsUnder_11 : decode cX1_slotsUnder 11 = .ok (.if_icmp .ge 56, 3) := by decide +kernel
theorem dX1_slotsUnder_14 : decode cX1_slotsUnder 14 = .ok (.iload 4, 2) := by decide +kernel
theorem dX1_slotsUnder_16 : decode cX1_slotsUnder 16 = .ok (.aload_n 0, 1) := by decide +kernel
theorem dX1_slotsUnder_17 : decode cX1_slotsUnder 17 = .ok (.getfield 9, 3) := by decide +kernel
theorem dX1_slotsUnder_20 : decode cX1_slotsUnder 20 = .ok (.arraylength, 1) := by decide +kernel
theorem dX1_slotsUnder_21 : decode cX1_slotsUnder 21 = .ok (.if_icmp .ge 46, 3) := by decide +kernel
theorem dX1_slotsUnder_24 : decode cX1_slotsUnder 24 = .ok (.iload_n 1, 1) := by decide +kernel
theorem dX1_slotsUnder_25 : decode cX1_slotsUnder 25 = .ok (.iload 4, 2) := by decide +kernel
theorem dX1_slotsUnder_27 : decode cX1_slotsUnder 27 = .ok (.invokestatic 57, 3) := by decide +kernel
theorem dX1_slotsUnder_30 : decode cX1_slotsUnder 30 = .ok (.istore 5, 2) := by decide +kernel
theorem dX1_slotsUnder_32 : decode cX1_slotsUnder 32 = .ok (.iload 5, 2) := by decide +kernel
theorem dX1_slotsUnder_34 : decode cX1_slotsUnder 34 = .ok (.bipush 8, 2) := by decide +kernel
theorem dX1_slotsUnder_36 : decode cX1_slotsUnder 36 = .ok (.if_icmp .eq 25, 3) := by decide +kernel
theorem dX1_slotsUnder_39 : decode cX1_slotsUnder 39 = .ok (.iload_n 2, 1) := by decide +kernel
theorem dX1_slotsUnder_40 : decode cX1_slotsUnder 40 = .ok (.aload_n 0, 1) := by decide +kernel
theorem dX1_slotsUnder_41 : decode cX1_slotsUnder 41 = .ok (.getfield 9, 3) := by decide +kernel
theorem dX1_slotsUnder_44 : decode cX1_slotsUnder 44 = .ok (.iload 4, 2) := by decide +kernel
theorem dX1_slotsUnder_46 : decode cX1_slotsUnder 46 = .ok (.iaload, 1) := by decide +kernel
theorem dX1_slotsUnder_47 : decode cX1_slotsUnder 47 = .ok (.ishr, 1) := by decide +kernel
theorem dX1_slotsUnder_48 : decode cX1_slotsUnder 48 = .ok (.iconst 1, 1) := by decide +kernel
theorem dX1_slotsUnder_49 : decode cX1_slotsUnder 49 = .ok (.iand, 1) := by decide +kernel
theorem dX1_slotsUnder_50 : decode cX1_slotsUnder 50 = .ok (.iconst 1, 1) := by decide +kernel
theorem dX1_slotsUnder_51 : decode cX1_slotsUnder 51 = .ok (.if_icmp .ne 10, 3) := by decide +kernel
theorem dX1_slotsUnder_54 : decode cX1_slotsUnder 54 = .ok (.iload_n 3, 1) := by decide +kernel
theorem dX1_slotsUnder_55 : decode cX1_slotsUnder 55 = .ok (.iconst 1, 1) := by decide +kernel
theorem dX1_slotsUnder_56 : decode cX1_slotsUnder 56 = .ok (.iload 5, 2) := by decide +kernel
theorem dX1_slotsUnder_58 : decode cX1_slotsUnder 58 = .ok (.ishl, 1) := by decide +kernel
theorem dX1_slotsUnder_59 : decode cX1_slotsUnder 59 = .ok (.ior, 1) := by decide +kernel
theorem dX1_slotsUnder_60 : decode cX1_slotsUnder 60 = .ok (.istore_n 3, 1) := by decide +kernel
theorem dX1_slotsUnder_61 : decode cX1_slotsUnder 61 = .ok (.iinc 4 1, 3) := by decide +kernel
theorem dX1_slotsUnder_64 : decode cX1_slotsUnder 64 = .ok (.goto (-59), 3) := by decide +kernel
theorem dX1_slotsUnder_67 : decode cX1_slotsUnder 67 = .ok (.iload_n 3, 1) := by decide +kernel
theorem dX1_slotsUnder_68 : decode cX1_slotsUnder 68 = .ok (.ireturn, 1) := by decide +kernel
set_option maxRecDepth 20000 in
theorem ggX1_lyingIn_X4_placeIn : GoodIn wsX1_lyingIn wsX4_placeIn := goodIn_r _ [4] (by decide +kernel) (by decide +kernel)
set_option maxRecDepth 20000 in
theorem gX1_lyingIn_X4_placeIn_n57 : GoodIn wsX1_lyingIn (wsX4_placeIn) := ggX1_lyingIn_X4_placeIn
theorem dX1_lyingIn_0 : decode cX1_lyingIn 0 = .ok (.iconst 0, 1) := by decide +kernel
theorem dX1_lyingIn_1 : decode cX1_lyingIn 1 = .ok (.istore_n 2, 1) := by decide +kernel
theorem dX1_lyingIn_2 : decode cX1_lyingIn 2 = .ok (.iconst 0, 1) := by decide +kernel
theorem dX1_lyingIn_3 : decode cX1_lyingIn 3 = .ok (.istore_n 3, 1) := by decide +kernel
theorem dX1_lyingIn_4 : decode cX1_lyingIn 4 = .ok (.iload_n 3, 1) := by decide +kernel
theorem dX1_lyingIn_5 : decode cX1_lyingIn 5 = .ok (.aload_n 0, 1) := by decide +kernel
theorem dX1_lyingIn_6 : decode cX1_lyingIn 6 = .ok (.getfield 21, 3) := by decide +kernel
theorem dX1_lyingIn_9 : decode cX1_lyingIn 9 = .ok (.if_icmp .ge 22, 3) := by decide +kernel
theorem dX1_lyingIn_12 : decode cX1_lyingIn 12 = .ok (.iload_n 1, 1) := by decide +kernel
theorem dX1_lyingIn_13 : decode cX1_lyingIn 13 = .ok (.iload_n 3, 1) := by decide +kernel
theorem dX1_lyingIn_14 : decode cX1_lyingIn 14 = .ok (.invokestatic 57, 3) := by decide +kernel
theorem dX1_lyingIn_17 : decode cX1_lyingIn 17 = .ok (.bipush 8, 2) := by decide +kernel
theorem dX1_lyingIn_19 : decode cX1_lyingIn 19 = .ok (.if_icmp .ne 6, 3) := by decide +kernel
theorem dX1_lyingIn_22 : decode cX1_lyingIn 22 = .ok (.iinc 2 1, 3) := by decide +kernel
theorem dX1_lyingIn_25 : decode cX1_lyingIn 25 = .ok (.iinc 3 1, 3) := by decide +kernel
theorem dX1_lyingIn_28 : decode cX1_lyingIn 28 = .ok (.goto (-24), 3) := by decide +kernel
theorem dX1_lyingIn_31 : decode cX1_lyingIn 31 = .ok (.iload_n 2, 1) := by decide +kernel
theorem dX1_lyingIn_32 : decode cX1_lyingIn 32 = .ok (.ireturn, 1) := by decide +kernel
set_option maxRecDepth 20000 in
theorem ggX1_isBorne_X1_hasBeam : GoodIn wsX1_isBorne wsX1_hasBeam := goodIn_r _ [6, 7, 1, 17, 18, 19, 20, 21, 22, 23, 24, 25, 26, 27] (by decide +kernel) (by decide +kernel)
set_option maxRecDepth 20000 in
theorem gX1_isBorne_X1_hasBeam : GoodIn wsX1_isBorne (wsV RX1 61 RX1 yX1_hasBeam wsX1_hasBeam) := goodIn_app (goodIn_of _ (by decide +kernel)) ggX1_isBorne_X1_hasBeam
set_option maxRecDepth 20000 in
theorem ggX1_isBorne_X1_slotsUnder : GoodIn wsX1_isBorne wsX1_slotsUnder := goodIn_r _ [11, 12, 13, 14, 15, 16, 17, 18, 19, 20, 21, 22, 23, 24, 25, 26, 27] (by decide +kernel) (by decide +kernel)
set_option maxRecDepth 20000 in
theorem gX1_isBorne_X1_slotsUnder : GoodIn wsX1_isBorne (wsV RX1 64 RX1 yX1_slotsUnder wsX1_slotsUnder) := goodIn_app (goodIn_of _ (by decide +kernel)) ggX1_isBorne_X1_slotsUnder
theorem dX1_isBorne_0 : decode cX1_isBorne 0 = .ok (.aload_n 0, 1) := by decide +kernel
theorem dX1_isBorne_1 : decode cX1_isBorne 1 = .ok (.iload_n 2, 1) := by decide +kernel
theorem dX1_isBorne_2 : decode cX1_isBorne 2 = .ok (.invokevirtual 61, 3) := by decide +kernel
theorem dX1_isBorne_5 : decode cX1_isBorne 5 = .ok (.ifCond .eq 23, 3) := by decide +kernel
theorem dX1_isBorne_8 : decode cX1_isBorne 8 = .ok (.aload_n 0, 1) := by decide +kernel
theorem dX1_isBorne_9 : decode cX1_isBorne 9 = .ok (.iload_n 1, 1) := by decide +kernel
theorem dX1_isBorne_10 : decode cX1_isBorne 10 = .ok (.iconst 1, 1) := by decide +kernel
theorem dX1_isBorne_11 : decode cX1_isBorne 11 = .ok (.invokevirtual 64, 3) := by decide +kernel
theorem dX1_isBorne_14 : decode cX1_isBorne 14 = .ok (.aload_n 0, 1) := by decide +kernel
theorem dX1_isBorne_15 : decode cX1_isBorne 15 = .ok (.getfield 15, 3) := by decide +kernel
theorem dX1_isBorne_18 : decode cX1_isBorne 18 = .ok (.iload_n 2, 1) := by decide +kernel
theorem dX1_isBorne_19 : decode cX1_isBorne 19 = .ok (.iaload, 1) := by decide +kernel
theorem dX1_isBorne_20 : decode cX1_isBorne 20 = .ok (.iand, 1) := by decide +kernel
theorem dX1_isBorne_21 : decode cX1_isBorne 21 = .ok (.ifCond .eq 7, 3) := by decide +kernel
theorem dX1_isBorne_24 : decode cX1_isBorne 24 = .ok (.iconst 1, 1) := by decide +kernel
theorem dX1_isBorne_25 : decode cX1_isBorne 25 = .ok (.goto 4, 3) := by decide +kernel
theorem dX1_isBorne_28 : decode cX1_isBorne 28 = .ok (.iconst 0, 1) := by decide +kernel
theorem dX1_isBorne_29 : decode cX1_isBorne 29 = .ok (.ireturn, 1) := by decide +kernel
set_option maxRecDepth 20000 in
theorem ggX1_allows_X1_lyingIn : GoodIn wsX1_allows wsX1_lyingIn := goodIn_r _ [8, 2, 9, 10, 11, 33, 34, 35, 36, 37, 38, 39, 40, 41, 42, 43] (by decide +kernel) (by decide +kernel)
set_option maxRecDepth 20000 in
theorem gX1_allows_X1_lyingIn : GoodIn wsX1_allows (wsV RX1 67 RX1 yX1_lyingIn wsX1_lyingIn) := goodIn_app (goodIn_of _ (by decide +kernel)) ggX1_allows_X1_lyingIn
set_option maxRecDepth 20000 in
theorem ggX1_allows_X1_slotsUnder : GoodIn wsX1_allows wsX1_slotsUnder := goodIn_r _ [15, 2, 16, 9, 10, 11, 33, 34, 35, 36, 37, 38, 39, 40, 41, 42, 43] (by decide +kernel) (by decide +kernel)
set_option maxRecDepth 20000 in
theorem gX1_allows_X1_slotsUnder : GoodIn wsX1_allows (wsV RX1 64 RX1 yX1_slotsUnder wsX1_slotsUnder) := goodIn_app (goodIn_of _ (by decide +kernel)) ggX1_allows_X1_slotsUnder
set_option maxRecDepth 20000 in
theorem ggX1_allows_J6_bitCount_0f7a4 : GoodIn wsX1_allows wsJ6_bitCount_0f7a4 := goodIn_r _ [20, 21, 22, 23] (by decide +kernel) (by decide +kernel)
set_option maxRecDepth 20000 in
theorem gX1_allows_J6_bitCount_0f7a4 : GoodIn wsX1_allows (va_wsS RX1 70 yJ6_bitCount_0f7a4 wsJ6_bitCount_0f7a4) := goodIn_app (goodIn_of _ (by decide +kernel)) ggX1_allows_J6_bitCount_0f7a4
set_option maxRecDepth 20000 in
theorem ggX1_allows_X1_isBorne : GoodIn wsX1_allows wsX1_isBorne := goodIn_r _ [27, 28, 29, 30, 31, 7, 32, 3, 12, 13, 14, 15, 2, 16, 9, 10, 11, 33, 34, 35, 36, 37, 38, 39, 40, 41, 42, 43] (by decide +kernel) (by decide +kernel)
set_option maxRecDepth 20000 in
theorem gX1_allows_X1_isBorne : GoodIn wsX1_allows (wsV RX1 75 RX1 yX1_isBorne wsX1_isBorne) := goodIn_app (goodIn_of _ (by decide +kernel)) ggX1_allows_X1_isBorne
theorem dX1_allows_0 : decode cX1_allows 0 = .ok (.aload_n 0, 1) := by decide +kernel
theorem dX1_allows_1 : decode cX1_allows 1 = .ok (.iload_n 1, 1) := by decide +kernel
theorem dX1_allows_2 : decode cX1_allows 2 = .ok (.invokevirtual 67, 3) := by decide +kernel
theorem dX1_allows_5 : decode cX1_allows 5 = .ok (.istore_n 2, 1) := by decide +kernel
theorem dX1_allows_6 : decode cX1_allows 6 = .ok (.iload_n 2, 1) := by decide +kernel
theorem dX1_allows_7 : decode cX1_allows 7 = .ok (.aload_n 0, 1) := by decide +kernel
theorem dX1_allows_8 : decode cX1_allows 8 = .ok (.getfield 43, 3) := by decide +kernel
theorem dX1_allows_11 : decode cX1_allows 11 = .ok (.if_icmp .le 5, 3) := by decide +kernel
theorem dX1_allows_14 : decode cX1_allows 14 = .ok (.iconst 0, 1) := by decide +kernel
theorem dX1_allows_15 : decode cX1_allows 15 = .ok (.ireturn, 1) := by decide +kernel
theorem dX1_allows_16 : decode cX1_allows 16 = .ok (.aload_n 0, 1) := by decide +kernel
theorem dX1_allows_17 : decode cX1_allows 17 = .ok (.iload_n 1, 1) := by decide +kernel
theorem dX1_allows_18 : decode cX1_allows 18 = .ok (.bipush 15, 2) := by decide +kernel
theorem dX1_allows_20 : decode cX1_allows 20 = .ok (.invokevirtual 64, 3) := by decide +kernel
theorem dX1_allows_23 : decode cX1_allows 23 = .ok (.invokestatic 70, 3) := by decide +kernel
theorem dX1_allows_26 : decode cX1_allows 26 = .ok (.iload_n 2, 1) := by decide +kernel
theorem dX1_allows_27 : decode cX1_allows 27 = .ok (.iadd, 1) := by decide +kernel
theorem dX1_allows_28 : decode cX1_allows 28 = .ok (.aload_n 0, 1) := by decide +kernel
theorem dX1_allows_29 : decode cX1_allows 29 = .ok (.getfield 21, 3) := by decide +kernel
theorem dX1_allows_32 : decode cX1_allows 32 = .ok (.if_icmp .eq 5, 3) := by decide +kernel
theorem dX1_allows_35 : decode cX1_allows 35 = .ok (.iconst 0, 1) := by decide +kernel
theorem dX1_allows_36 : decode cX1_allows 36 = .ok (.ireturn, 1) := by decide +kernel
theorem dX1_allows_37 : decode cX1_allows 37 = .ok (.iconst 0, 1) := by decide +kernel
theorem dX1_allows_38 : decode cX1_allows 38 = .ok (.istore_n 3, 1) := by decide +kernel
theorem dX1_allows_39 : decode cX1_allows 39 = .ok (.iload_n 3, 1) := by decide +kernel
theorem dX1_allows_40 : decode cX1_allows 40 = .ok (.aload_n 0, 1) := by decide +kernel
theorem dX1_allows_41 : decode cX1_allows 41 = .ok (.getfield 28, 3) := by decide +kernel
theorem dX1_allows_44 : decode cX1_allows 44 = .ok (.if_icmp .ge 20, 3) := by decide +kernel
theorem dX1_allows_47 : decode cX1_allows 47 = .ok (.aload_n 0, 1) := by decide +kernel
theorem dX1_allows_48 : decode cX1_allows 48 = .ok (.iload_n 1, 1) := by decide +kernel
theorem dX1_allows_49 : decode cX1_allows 49 = .ok (.iload_n 3, 1) := by decide +kernel
theorem dX1_allows_50 : decode cX1_allows 50 = .ok (.invokevirtual 75, 3) := by decide +kernel
theorem dX1_allows_53 : decode cX1_allows 53 = .ok (.ifCond .ne 5, 3) := by decide +kernel
theorem dX1_allows_56 : decode cX1_allows 56 = .ok (.iconst 0, 1) := by decide +kernel
theorem dX1_allows_57 : decode cX1_allows 57 = .ok (.ireturn, 1) := by decide +kernel
theorem dX1_allows_58 : decode cX1_allows 58 = .ok (.iinc 3 1, 3) := by decide +kernel
theorem dX1_allows_61 : decode cX1_allows 61 = .ok (.goto (-22), 3) := by decide +kernel
theorem dX1_allows_64 : decode cX1_allows 64 = .ok (.iconst 1, 1) := by decide +kernel
theorem dX1_allows_65 : decode cX1_allows 65 = .ok (.ireturn, 1) := by decide +kernel
set_option maxRecDepth 20000 in
theorem ggX1_leaksOf_X1_slotsUnder : GoodIn wsX1_leaksOf wsX1_slotsUnder := goodIn_r _ [6, 7, 8, 9, 10, 11, 19, 20, 21, 22, 23, 24, 25, 26, 27, 28, 29] (by decide +kernel) (by decide +kernel)
set_option maxRecDepth 20000 in
theorem gX1_leaksOf_X1_slotsUnder : GoodIn wsX1_leaksOf (wsV RX1 64 RX1 yX1_slotsUnder wsX1_slotsUnder) := goodIn_app (goodIn_of _ (by decide +kernel)) ggX1_leaksOf_X1_slotsUnder
set_option maxRecDepth 20000 in
theorem ggX1_leaksOf_J6_bitCount_0f7a4 : GoodIn wsX1_leaksOf wsJ6_bitCount_0f7a4 := goodIn_r _ [15, 16, 17, 18] (by decide +kernel) (by decide +kernel)
set_option maxRecDepth 20000 in
theorem gX1_leaksOf_J6_bitCount_0f7a4 : GoodIn wsX1_leaksOf (va_wsS RX1 70 yJ6_bitCount_0f7a4 wsJ6_bitCount_0f7a4) := goodIn_app (goodIn_of _ (by decide +kernel)) ggX1_leaksOf_J6_bitCount_0f7a4
theorem dX1_leaksOf_0 : decode cX1_leaksOf 0 = .ok (.aload_n 0, 1) := by decide +kernel
theorem dX1_leaksOf_1 : decode cX1_leaksOf 1 = .ok (.getfield 31, 3) := by decide +kernel
theorem dX1_leaksOf_4 : decode cX1_leaksOf 4 = .ok (.aload_n 0, 1) := by decide +kernel
theorem dX1_leaksOf_5 : decode cX1_leaksOf 5 = .ok (.iload_n 1, 1) := by decide +kernel
theorem dX1_leaksOf_6 : decode cX1_leaksOf 6 = .ok (.iconst 3, 1) := by decide +kernel
theorem dX1_leaksOf_7 : decode cX1_leaksOf 7 = .ok (.invokevirtual 64, 3) := by decide +kernel
theorem dX1_leaksOf_10 : decode cX1_leaksOf 10 = .ok (.iconst (-1), 1) := by decide +kernel
theorem dX1_leaksOf_11 : decode cX1_leaksOf 11 = .ok (.ixor, 1) := by decide +kernel
theorem dX1_leaksOf_12 : decode cX1_leaksOf 12 = .ok (.iand, 1) := by decide +kernel
theorem dX1_leaksOf_13 : decode cX1_leaksOf 13 = .ok (.invokestatic 70, 3) := by decide +kernel
theorem dX1_leaksOf_16 : decode cX1_leaksOf 16 = .ok (.ireturn, 1) := by decide +kernel
set_option maxRecDepth 20000 in
theorem ggX1_litHours_X1_slotsUnder : GoodIn wsX1_litHours wsX1_slotsUnder := goodIn_r _ [6, 7, 8, 9, 10, 11, 12, 13, 14, 15, 16, 17, 18, 19, 20, 21, 22] (by decide +kernel) (by decide +kernel)
set_option maxRecDepth 20000 in
theorem gX1_litHours_X1_slotsUnder : GoodIn wsX1_litHours (wsV RX1 64 RX1 yX1_slotsUnder wsX1_slotsUnder) := goodIn_app (goodIn_of _ (by decide +kernel)) ggX1_litHours_X1_slotsUnder
theorem dX1_litHours_0 : decode cX1_litHours 0 = .ok (.aload_n 0, 1) := by decide +kernel
theorem dX1_litHours_1 : decode cX1_litHours 1 = .ok (.getfield 34, 3) := by decide +kernel
theorem dX1_litHours_4 : decode cX1_litHours 4 = .ok (.aload_n 0, 1) := by decide +kernel
theorem dX1_litHours_5 : decode cX1_litHours 5 = .ok (.iload_n 1, 1) := by decide +kernel
theorem dX1_litHours_6 : decode cX1_litHours 6 = .ok (.bipush 13, 2) := by decide +kernel
theorem dX1_litHours_8 : decode cX1_litHours 8 = .ok (.invokevirtual 64, 3) := by decide +kernel
theorem dX1_litHours_11 : decode cX1_litHours 11 = .ok (.iconst (-1), 1) := by decide +kernel
theorem dX1_litHours_12 : decode cX1_litHours 12 = .ok (.ixor, 1) := by decide +kernel
theorem dX1_litHours_13 : decode cX1_litHours 13 = .ok (.iand, 1) := by decide +kernel
theorem dX1_litHours_14 : decode cX1_litHours 14 = .ok (.ireturn, 1) := by decide +kernel
set_option maxRecDepth 20000 in
theorem ggX1_worthOf_X1_litHours : GoodIn wsX1_worthOf wsX1_litHours := goodIn_r _ [7, 8, 9, 10, 11, 6, 12, 13, 14, 15, 16, 17, 34, 35, 36, 37, 38, 39, 40, 41, 42, 43, 44] (by decide +kernel) (by decide +kernel)
set_option maxRecDepth 20000 in
theorem gX1_worthOf_X1_litHours : GoodIn wsX1_worthOf (wsV RX1 79 RX1 yX1_litHours wsX1_litHours) := goodIn_app (goodIn_of _ (by decide +kernel)) ggX1_worthOf_X1_litHours
set_option maxRecDepth 20000 in
theorem ggX1_worthOf_J6_bitCount_0f7a4 : GoodIn wsX1_worthOf wsJ6_bitCount_0f7a4 := goodIn_r _ [21, 22, 23, 24] (by decide +kernel) (by decide +kernel)
set_option maxRecDepth 20000 in
theorem gX1_worthOf_J6_bitCount_0f7a4 : GoodIn wsX1_worthOf (va_wsS RX1 70 yJ6_bitCount_0f7a4 wsJ6_bitCount_0f7a4) := goodIn_app (goodIn_of _ (by decide +kernel)) ggX1_worthOf_J6_bitCount_0f7a4
set_option maxRecDepth 20000 in
theorem ggX1_worthOf_X1_leaksOf : GoodIn wsX1_worthOf wsX1_leaksOf := goodIn_r _ [28, 29, 9, 10, 11, 6, 12, 13, 14, 15, 16, 17, 18, 19, 20, 21, 22, 23, 24, 34, 35, 36, 37, 38, 39, 40, 41, 42, 43, 44] (by decide +kernel) (by decide +kernel)
set_option maxRecDepth 20000 in
theorem gX1_worthOf_X1_leaksOf : GoodIn wsX1_worthOf (wsV RX1 82 RX1 yX1_leaksOf wsX1_leaksOf) := goodIn_app (goodIn_of _ (by decide +kernel)) ggX1_worthOf_X1_leaksOf
set_option maxRecDepth 20000 in
theorem ggX1_worthOf_X1_slotsUnder : GoodIn wsX1_worthOf wsX1_slotsUnder := goodIn_r _ [12, 13, 14, 15, 16, 17, 34, 35, 36, 37, 38, 39, 40, 41, 42, 43, 44] (by decide +kernel) (by decide +kernel)
set_option maxRecDepth 20000 in
theorem gX1_worthOf_X1_slotsUnder : GoodIn wsX1_worthOf (wsV RX1 64 RX1 yX1_slotsUnder wsX1_slotsUnder) := goodIn_app (goodIn_of _ (by decide +kernel)) ggX1_worthOf_X1_slotsUnder
set_option maxRecDepth 20000 in
theorem ggX1_worthOf_X1_quietIn : GoodIn wsX1_worthOf wsX1_quietIn := goodIn_r _ [33, 2, 9, 10, 11, 6, 12, 13, 14, 15, 16, 17, 34, 35, 36, 37, 38, 39, 40, 41, 42, 43, 44] (by decide +kernel) (by decide +kernel)
set_option maxRecDepth 20000 in
theorem gX1_worthOf_X1_quietIn : GoodIn wsX1_worthOf (wsV RX1 85 RX1 yX1_quietIn wsX1_quietIn) := goodIn_app (goodIn_of _ (by decide +kernel)) ggX1_worthOf_X1_quietIn
theorem dX1_worthOf_0 : decode cX1_worthOf 0 = .ok (.iconst 3, 1) := by decide +kernel
theorem dX1_worthOf_1 : decode cX1_worthOf 1 = .ok (.aload_n 0, 1) := by decide +kernel
theorem dX1_worthOf_2 : decode cX1_worthOf 2 = .ok (.iload_n 1, 1) := by decide +kernel
theorem dX1_worthOf_3 : decode cX1_worthOf 3 = .ok (.invokevirtual 79, 3) := by decide +kernel
theorem dX1_worthOf_6 : decode cX1_worthOf 6 = .ok (.invokestatic 70, 3) := by decide +kernel
theorem dX1_worthOf_9 : decode cX1_worthOf 9 = .ok (.imul, 1) := by decide +kernel
theorem dX1_worthOf_10 : decode cX1_worthOf 10 = .ok (.iconst 2, 1) := by decide +kernel
theorem dX1_worthOf_11 : decode cX1_worthOf 11 = .ok (.aload_n 0, 1) := by decide +kernel
theorem dX1_worthOf_12 : decode cX1_worthOf 12 = .ok (.iload_n 1, 1) := by decide +kernel
theorem dX1_worthOf_13 : decode cX1_worthOf 13 = .ok (.invokevirtual 82, 3) := by decide +kernel
theorem dX1_worthOf_16 : decode cX1_worthOf 16 = .ok (.imul, 1) := by decide +kernel
theorem dX1_worthOf_17 : decode cX1_worthOf 17 = .ok (.isub, 1) := by decide +kernel
theorem dX1_worthOf_18 : decode cX1_worthOf 18 = .ok (.istore_n 2, 1) := by decide +kernel
theorem dX1_worthOf_19 : decode cX1_worthOf 19 = .ok (.aload_n 0, 1) := by decide +kernel
theorem dX1_worthOf_20 : decode cX1_worthOf 20 = .ok (.getfield 37, 3) := by decide +kernel
theorem dX1_worthOf_23 : decode cX1_worthOf 23 = .ok (.bipush (-9), 2) := by decide +kernel
theorem dX1_worthOf_25 : decode cX1_worthOf 25 = .ok (.if_icmp .eq 23, 3) := by decide +kernel
theorem dX1_worthOf_28 : decode cX1_worthOf 28 = .ok (.aload_n 0, 1) := by decide +kernel
theorem dX1_worthOf_29 : decode cX1_worthOf 29 = .ok (.iload_n 1, 1) := by decide +kernel
theorem dX1_worthOf_30 : decode cX1_worthOf 30 = .ok (.bipush 13, 2) := by decide +kernel
theorem dX1_worthOf_32 : decode cX1_worthOf 32 = .ok (.invokevirtual 64, 3) := by decide +kernel
theorem dX1_worthOf_35 : decode cX1_worthOf 35 = .ok (.aload_n 0, 1) := by decide +kernel
theorem dX1_worthOf_36 : decode cX1_worthOf 36 = .ok (.getfield 37, 3) := by decide +kernel
theorem dX1_worthOf_39 : decode cX1_worthOf 39 = .ok (.ishr, 1) := by decide +kernel
theorem dX1_worthOf_40 : decode cX1_worthOf 40 = .ok (.iconst 1, 1) := by decide +kernel
theorem dX1_worthOf_41 : decode cX1_worthOf 41 = .ok (.iand, 1) := by decide +kernel
theorem dX1_worthOf_42 : decode cX1_worthOf 42 = .ok (.ifCond .ne 6, 3) := by decide +kernel
theorem dX1_worthOf_45 : decode cX1_worthOf 45 = .ok (.iinc 2 5, 3) := by decide +kernel
theorem dX1_worthOf_48 : decode cX1_worthOf 48 = .ok (.aload_n 0, 1) := by decide +kernel
theorem dX1_worthOf_49 : decode cX1_worthOf 49 = .ok (.getfield 40, 3) := by decide +kernel
theorem dX1_worthOf_52 : decode cX1_worthOf 52 = .ok (.bipush (-9), 2) := by decide +kernel
theorem dX1_worthOf_54 : decode cX1_worthOf 54 = .ok (.if_icmp .eq 11, 3) := by decide +kernel
theorem dX1_worthOf_57 : decode cX1_worthOf 57 = .ok (.iload_n 2, 1) := by decide +kernel
theorem dX1_worthOf_58 : decode cX1_worthOf 58 = .ok (.aload_n 0, 1) := by decide +kernel
theorem dX1_worthOf_59 : decode cX1_worthOf 59 = .ok (.iload_n 1, 1) := by decide +kernel
theorem dX1_worthOf_60 : decode cX1_worthOf 60 = .ok (.invokevirtual 85, 3) := by decide +kernel
theorem dX1_worthOf_63 : decode cX1_worthOf 63 = .ok (.iadd, 1) := by decide +kernel
theorem dX1_worthOf_64 : decode cX1_worthOf 64 = .ok (.istore_n 2, 1) := by decide +kernel
theorem dX1_worthOf_65 : decode cX1_worthOf 65 = .ok (.iload_n 2, 1) := by decide +kernel
theorem dX1_worthOf_66 : decode cX1_worthOf 66 = .ok (.ireturn, 1) := by decide +kernel
set_option maxRecDepth 20000 in
theorem ggX1_quietIn_X1_slotsUnder : GoodIn wsX1_quietIn wsX1_slotsUnder := goodIn_r _ [6, 7, 8, 9, 10, 11, 12, 13, 14, 15, 16, 17, 18, 19, 20, 21, 22] (by decide +kernel) (by decide +kernel)
set_option maxRecDepth 20000 in
theorem gX1_quietIn_X1_slotsUnder : GoodIn wsX1_quietIn (wsV RX1 64 RX1 yX1_slotsUnder wsX1_slotsUnder) := goodIn_app (goodIn_of _ (by decide +kernel)) ggX1_quietIn_X1_slotsUnder
theorem dX1_quietIn_0 : decode cX1_quietIn 0 = .ok (.aload_n 0, 1) := by decide +kernel
theorem dX1_quietIn_1 : decode cX1_quietIn 1 = .ok (.iload_n 1, 1) := by decide +kernel
theorem dX1_quietIn_2 : decode cX1_quietIn 2 = .ok (.iconst 1, 1) := by decide +kernel
theorem dX1_quietIn_3 : decode cX1_quietIn 3 = .ok (.invokevirtual 64, 3) := by decide +kernel
theorem dX1_quietIn_6 : decode cX1_quietIn 6 = .ok (.aload_n 0, 1) := by decide +kernel
theorem dX1_quietIn_7 : decode cX1_quietIn 7 = .ok (.getfield 40, 3) := by decide +kernel
theorem dX1_quietIn_10 : decode cX1_quietIn 10 = .ok (.ishr, 1) := by decide +kernel
theorem dX1_quietIn_11 : decode cX1_quietIn 11 = .ok (.iconst 1, 1) := by decide +kernel
theorem dX1_quietIn_12 : decode cX1_quietIn 12 = .ok (.iand, 1) := by decide +kernel
theorem dX1_quietIn_13 : decode cX1_quietIn 13 = .ok (.iconst 1, 1) := by decide +kernel
theorem dX1_quietIn_14 : decode cX1_quietIn 14 = .ok (.if_icmp .ne 5, 3) := by decide +kernel
theorem dX1_quietIn_17 : decode cX1_quietIn 17 = .ok (.iconst 4, 1) := by decide +kernel
theorem dX1_quietIn_18 : decode cX1_quietIn 18 = .ok (.ireturn, 1) := by decide +kernel
theorem dX1_quietIn_19 : decode cX1_quietIn 19 = .ok (.aload_n 0, 1) := by decide +kernel
theorem dX1_quietIn_20 : decode cX1_quietIn 20 = .ok (.iload_n 1, 1) := by decide +kernel
theorem dX1_quietIn_21 : decode cX1_quietIn 21 = .ok (.bipush 15, 2) := by decide +kernel
theorem dX1_quietIn_23 : decode cX1_quietIn 23 = .ok (.invokevirtual 64, 3) := by decide +kernel
theorem dX1_quietIn_26 : decode cX1_quietIn 26 = .ok (.aload_n 0, 1) := by decide +kernel
theorem dX1_quietIn_27 : decode cX1_quietIn 27 = .ok (.getfield 40, 3) := by decide +kernel
theorem dX1_quietIn_30 : decode cX1_quietIn 30 = .ok (.ishr, 1) := by decide +kernel
theorem dX1_quietIn_31 : decode cX1_quietIn 31 = .ok (.iconst 1, 1) := by decide +kernel
theorem dX1_quietIn_32 : decode cX1_quietIn 32 = .ok (.iand, 1) := by decide +kernel
theorem dX1_quietIn_33 : decode cX1_quietIn 33 = .ok (.iconst 1, 1) := by decide +kernel
theorem dX1_quietIn_34 : decode cX1_quietIn 34 = .ok (.if_icmp .ne 7, 3) := by decide +kernel
theorem dX1_quietIn_37 : decode cX1_quietIn 37 = .ok (.iconst 2, 1) := by decide +kernel
theorem dX1_quietIn_38 : decode cX1_quietIn 38 = .ok (.goto 4, 3) := by decide +kernel
theorem dX1_quietIn_41 : decode cX1_quietIn 41 = .ok (.iconst 0, 1) := by decide +kernel
theorem dX1_quietIn_42 : decode cX1_quietIn 42 = .ok (.ireturn, 1) := by decide +kernel
set_option maxRecDepth 20000 in
theorem ggX1_fitsLetter_X1_litHours : GoodIn wsX1_fitsLetter wsX1_litHours := goodIn_r _ [5, 6, 7, 8, 9, 4, 10, 11, 12, 13, 14, 15, 24, 25, 26, 27, 28, 29, 30, 31, 32, 33, 34] (by decide +kernel) (by decide +kernel)
set_option maxRecDepth 20000 in
theorem gX1_fitsLetter_X1_litHours : GoodIn wsX1_fitsLetter (wsV RX1 79 RX1 yX1_litHours wsX1_litHours) := goodIn_app (goodIn_of _ (by decide +kernel)) ggX1_fitsLetter_X1_litHours
theorem dX1_fitsLetter_0 : decode cX1_fitsLetter 0 = .ok (.aload_n 0, 1) := by decide +kernel
theorem dX1_fitsLetter_1 : decode cX1_fitsLetter 1 = .ok (.iload_n 1, 1) := by decide +kernel
theorem dX1_fitsLetter_2 : decode cX1_fitsLetter 2 = .ok (.invokevirtual 79, 3) := by decide +kernel
theorem dX1_fitsLetter_5 : decode cX1_fitsLetter 5 = .ok (.istore_n 3, 1) := by decide +kernel
theorem dX1_fitsLetter_6 : decode cX1_fitsLetter 6 = .ok (.aload_n 2, 1) := by decide +kernel
theorem dX1_fitsLetter_7 : decode cX1_fitsLetter 7 = .ok (.getfield 88, 3) := by decide +kernel
theorem dX1_fitsLetter_10 : decode cX1_fitsLetter 10 = .ok (.iload_n 3, 1) := by decide +kernel
theorem dX1_fitsLetter_11 : decode cX1_fitsLetter 11 = .ok (.iconst (-1), 1) := by decide +kernel
theorem dX1_fitsLetter_12 : decode cX1_fitsLetter 12 = .ok (.ixor, 1) := by decide +kernel
theorem dX1_fitsLetter_13 : decode cX1_fitsLetter 13 = .ok (.iand, 1) := by decide +kernel
theorem dX1_fitsLetter_14 : decode cX1_fitsLetter 14 = .ok (.ifCond .ne 16, 3) := by decide +kernel
theorem dX1_fitsLetter_17 : decode cX1_fitsLetter 17 = .ok (.aload_n 2, 1) := by decide +kernel
theorem dX1_fitsLetter_18 : decode cX1_fitsLetter 18 = .ok (.getfield 92, 3) := by decide +kernel
theorem dX1_fitsLetter_21 : decode cX1_fitsLetter 21 = .ok (.iload_n 3, 1) := by decide +kernel
theorem dX1_fitsLetter_22 : decode cX1_fitsLetter 22 = .ok (.iand, 1) := by decide +kernel
theorem dX1_fitsLetter_23 : decode cX1_fitsLetter 23 = .ok (.ifCond .ne 7, 3) := by decide +kernel
theorem dX1_fitsLetter_26 : decode cX1_fitsLetter 26 = .ok (.iconst 1, 1) := by decide +kernel
theorem dX1_fitsLetter_27 : decode cX1_fitsLetter 27 = .ok (.goto 4, 3) := by decide +kernel
theorem dX1_fitsLetter_30 : decode cX1_fitsLetter 30 = .ok (.iconst 0, 1) := by decide +kernel
theorem dX1_fitsLetter_31 : decode cX1_fitsLetter 31 = .ok (.ireturn, 1) := by decide +kernel
theorem dX2_init_0 : decode cX2_init 0 = .ok (.aload_n 0, 1) := by decide +kernel
theorem dX2_init_1 : decode cX2_init 1 = .ok (.invokespecial 3, 3) := by decide +kernel
theorem dX2_init_4 : decode cX2_init 4 = .ok (.aload_n 0, 1) := by decide +kernel
theorem dX2_init_5 : decode cX2_init 5 = .ok (.sipush 6561, 3) := by decide +kernel
theorem dX2_init_8 : decode cX2_init 8 = .ok (.newarray .byte, 2) := by decide +kernel
theorem dX2_init_10 : decode cX2_init 10 = .ok (.putfield 11, 3) := by decide +kernel
theorem dX2_init_13 : decode cX2_init 13 = .ok (.aload_n 0, 1) := by decide +kernel
theorem dX2_init_14 : decode cX2_init 14 = .ok (.sipush 6561, 3) := by decide +kernel
theorem dX2_init_17 : decode cX2_init 17 = .ok (.newarray .int, 2) := by decide +kernel
theorem dX2_init_19 : decode cX2_init 19 = .ok (.putfield 15, 3) := by decide +kernel
theorem dX2_init_22 : decode cX2_init 22 = .ok (.aload_n 0, 1) := by decide +kernel
theorem dX2_init_23 : decode cX2_init 23 = .ok (.sipush 3394, 3) := by decide +kernel
theorem dX2_init_26 : decode cX2_init 26 = .ok (.newarray .int, 2) := by decide +kernel
theorem dX2_init_28 : decode cX2_init 28 = .ok (.putfield 19, 3) := by decide +kernel
theorem dX2_init_31 : decode cX2_init 31 = .ok (.return_, 1) := by decide +kernel
set_option maxRecDepth 20000 in
theorem ggX2_survey_X4_unitOf : GoodIn wsX2_survey wsX4_unitOf := goodIn_r _ [5] (by decide +kernel) (by decide +kernel)
set_option maxRecDepth 20000 in
theorem gX2_survey_X4_unitOf_n32 : GoodIn wsX2_survey (wsX4_unitOf) := ggX2_survey_X4_unitOf
set_option maxRecDepth 20000 in
theorem ggX2_survey_X1_allows : GoodIn wsX2_survey wsX1_allows := goodIn_r _ [9, 10, 11, 12, 13, 14, 15, 7, 16, 17, 4, 18, 19, 20, 21, 22, 23, 24, 25, 26, 27, 28, 29, 30, 31, 32, 33, 34, 35, 36, 37, 38, 39, 45, 46, 47, 48, 49, 50, 51, 52, 53, 54, 55] (by decide +kernel) (by decide +kernel)
set_option maxRecDepth 20000 in
theorem gX2_survey_X1_allows_n36 : GoodIn wsX2_survey (wsX1_allows) := ggX2_survey_X1_allows
theorem dX2_survey_0 : decode cX2_survey 0 = .ok (.aload_n 0, 1) := by decide +kernel
theorem dX2_survey_1 : decode cX2_survey 1 = .ok (.getfield 22, 3) := by decide +kernel
theorem dX2_survey_4 : decode cX2_survey 4 = .ok (.ifCond .eq 4, 3) := by decide +kernel
theorem dX2_survey_7 : decode cX2_survey 7 = .ok (.return_, 1) := by decide +kernel
theorem dX2_survey_8 : decode cX2_survey 8 = .ok (.iconst 0, 1) := by decide +kernel
theorem dX2_survey_9 : decode cX2_survey 9 = .ok (.istore_n 2, 1) := by decide +kernel
theorem dX2_survey_10 : decode cX2_survey 10 = .ok (.iload_n 2, 1) := by decide +kernel
theorem dX2_survey_11 : decode cX2_survey 11 = .ok (.sipush 6561, 3) := by decide +kernel
theorem dX2_survey_14 : decode cX2_survey 14 = .ok (.if_icmp .ge 16, 3) := by decide +kernel
theorem dX2_survey_17 : decode cX2_survey 17 = .ok (.aload_n 0, 1) := by decide +kernel
theorem dX2_survey_18 : decode cX2_survey 18 = .ok (.getfield 11, 3) := by decide +kernel
theorem dX2_survey_21 : decode cX2_survey 21 = .ok (.iload_n 2, 1) := by decide +kernel
theorem dX2_survey_22 : decode cX2_survey 22 = .ok (.iconst 0, 1) := by decide +kernel
theorem dX2_survey_23 : decode cX2_survey 23 = .ok (.bastore, 1) := by decide +kernel
theorem dX2_survey_24 : decode cX2_survey 24 = .ok (.iinc 2 1, 3) := by decide +kernel
theorem dX2_survey_27 : decode cX2_survey 27 = .ok (.goto (-17), 3) := by decide +kernel
theorem dX2_survey_30 : decode cX2_survey 30 = .ok (.aload_n 1, 1) := by decide +kernel
theorem dX2_survey_31 : decode cX2_survey 31 = .ok (.getfield 26, 3) := by decide +kernel
theorem dX2_survey_34 : decode cX2_survey 34 = .ok (.ifCond .ne 9, 3) := by decide +kernel
theorem dX2_survey_37 : decode cX2_survey 37 = .ok (.sipush 6561, 3) := by decide +kernel
theorem dX2_survey_40 : decode cX2_survey 40 = .ok (.goto 12, 3) := by decide +kernel
theorem dX2_survey_43 : decode cX2_survey 43 = .ok (.aload_n 1, 1) := by decide +kernel
theorem dX2_survey_44 : decode cX2_survey 44 = .ok (.getfield 26, 3) := by decide +kernel
theorem dX2_survey_47 : decode cX2_survey 47 = .ok (.iconst 1, 1) := by decide +kernel
theorem dX2_survey_48 : decode cX2_survey 48 = .ok (.isub, 1) := by decide +kernel
theorem dX2_survey_49 : decode cX2_survey 49 = .ok (.invokestatic 32, 3) := by decide +kernel
theorem dX2_survey_52 : decode cX2_survey 52 = .ok (.istore_n 2, 1) := by decide +kernel
theorem dX2_survey_53 : decode cX2_survey 53 = .ok (.iconst 0, 1) := by decide +kernel
theorem dX2_survey_54 : decode cX2_survey 54 = .ok (.istore_n 3, 1) := by decide +kernel
theorem dX2_survey_55 : decode cX2_survey 55 = .ok (.iload_n 3, 1) := by decide +kernel
theorem dX2_survey_56 : decode cX2_survey 56 = .ok (.sipush 6561, 3) := by decide +kernel
theorem dX2_survey_59 : decode cX2_survey 59 = .ok (.if_icmp .ge 37, 3) := by decide +kernel
theorem dX2_survey_62 : decode cX2_survey 62 = .ok (.iload_n 3, 1) := by decide +kernel
theorem dX2_survey_63 : decode cX2_survey 63 = .ok (.iload_n 2, 1) := by decide +kernel
theorem dX2_survey_64 : decode cX2_survey 64 = .ok (.imul, 1) := by decide +kernel
theorem dX2_survey_65 : decode cX2_survey 65 = .ok (.sipush 6561, 3) := by decide +kernel
theorem dX2_survey_68 : decode cX2_survey 68 = .ok (.if_icmp .ge 28, 3) := by decide +kernel
theorem dX2_survey_71 : decode cX2_survey 71 = .ok (.aload_n 1, 1) := by decide +kernel
theorem dX2_survey_72 : decode cX2_survey 72 = .ok (.iload_n 3, 1) := by decide +kernel
theorem dX2_survey_73 : decode cX2_survey 73 = .ok (.iload_n 2, 1) := by decide +kernel
theorem dX2_survey_74 : decode cX2_survey 74 = .ok (.imul, 1) := by decide +kernel
theorem dX2_survey_75 : decode cX2_survey 75 = .ok (.invokevirtual 36, 3) := by decide +kernel
theorem dX2_survey_78 : decode cX2_survey 78 = .ok (.ifCond .eq 12, 3) := by decide +kernel
theorem dX2_survey_81 : decode cX2_survey 81 = .ok (.aload_n 0, 1) := by decide +kernel
theorem dX2_survey_82 : decode cX2_survey 82 = .ok (.getfield 11, 3) := by decide +kernel
theorem dX2_survey_85 : decode cX2_survey 85 = .ok (.iload_n 3, 1) := by decide +kernel
theorem dX2_survey_86 : decode cX2_survey 86 = .ok (.iload_n 2, 1) := by decide +kernel
theorem dX2_survey_87 : decode cX2_survey 87 = .ok (.imul, 1) := by decide +kernel
theorem dX2_survey_88 : decode cX2_survey 88 = .ok (.iconst 1, 1) := by decide +kernel
theorem dX2_survey_89 : decode cX2_survey 89 = .ok (.bastore, 1) := by decide +kernel
theorem dX2_survey_90 : decode cX2_survey 90 = .ok (.iinc 3 1, 3) := by decide +kernel
theorem dX2_survey_93 : decode cX2_survey 93 = .ok (.goto (-38), 3) := by decide +kernel
theorem dX2_survey_96 : decode cX2_survey 96 = .ok (.aload_n 0, 1) := by decide +kernel
theorem dX2_survey_97 : decode cX2_survey 97 = .ok (.iconst 1, 1) := by decide +kernel
theorem dX2_survey_98 : decode cX2_survey 98 = .ok (.putfield 22, 3) := by decide +kernel
theorem dX2_survey_101 : decode cX2_survey 101 = .ok (.return_, 1) := by decide +kernel
theorem dX2_isLawful_0 : decode cX2_isLawful 0 = .ok (.iload_n 1, 1) := by decide +kernel
theorem dX2_isLawful_1 : decode cX2_isLawful 1 = .ok (.ifCond .lt 24, 3) := by decide +kernel
theorem dX2_isLawful_4 : decode cX2_isLawful 4 = .ok (.iload_n 1, 1) := by decide +kernel
theorem dX2_isLawful_5 : decode cX2_isLawful 5 = .ok (.sipush 6561, 3) := by decide +kernel
theorem dX2_isLawful_8 : decode cX2_isLawful 8 = .ok (.if_icmp .ge 17, 3) := by decide +kernel
theorem dX2_isLawful_11 : decode cX2_isLawful 11 = .ok (.aload_n 0, 1) := by decide +kernel
theorem dX2_isLawful_12 : decode cX2_isLawful 12 = .ok (.getfield 11, 3) := by decide +kernel
theorem dX2_isLawful_15 : decode cX2_isLawful 15 = .ok (.iload_n 1, 1) := by decide +kernel
theorem dX2_isLawful_16 : decode cX2_isLawful 16 = .ok (.baload, 1) := by decide +kernel
theorem dX2_isLawful_17 : decode cX2_isLawful 17 = .ok (.iconst 1, 1) := by decide +kernel
theorem dX2_isLawful_18 : decode cX2_isLawful 18 = .ok (.if_icmp .ne 7, 3) := by decide +kernel
theorem dX2_isLawful_21 : decode cX2_isLawful 21 = .ok (.iconst 1, 1) := by decide +kernel
theorem dX2_isLawful_22 : decode cX2_isLawful 22 = .ok (.goto 4, 3) := by decide +kernel
theorem dX2_isLawful_25 : decode cX2_isLawful 25 = .ok (.iconst 0, 1) := by decide +kernel
theorem dX2_isLawful_26 : decode cX2_isLawful 26 = .ok (.ireturn, 1) := by decide +kernel
theorem dX2_farTo_0 : decode cX2_farTo 0 = .ok (.iload_n 1, 1) := by decide +kernel
theorem dX2_farTo_1 : decode cX2_farTo 1 = .ok (.ifCond .lt 19, 3) := by decide +kernel
theorem dX2_farTo_4 : decode cX2_farTo 4 = .ok (.iload_n 1, 1) := by decide +kernel
theorem dX2_farTo_5 : decode cX2_farTo 5 = .ok (.sipush 6561, 3) := by decide +kernel
theorem dX2_farTo_8 : decode cX2_farTo 8 = .ok (.if_icmp .ge 12, 3) := by decide +kernel
theorem dX2_farTo_11 : decode cX2_farTo 11 = .ok (.aload_n 0, 1) := by decide +kernel
theorem dX2_farTo_12 : decode cX2_farTo 12 = .ok (.getfield 15, 3) := by decide +kernel
theorem dX2_farTo_15 : decode cX2_farTo 15 = .ok (.iload_n 1, 1) := by decide +kernel
theorem dX2_farTo_16 : decode cX2_farTo 16 = .ok (.iaload, 1) := by decide +kernel
theorem dX2_farTo_17 : decode cX2_farTo 17 = .ok (.goto 5, 3) := by decide +kernel
theorem dX2_farTo_20 : decode cX2_farTo 20 = .ok (.bipush (-9), 2) := by decide +kernel
theorem dX2_farTo_22 : decode cX2_farTo 22 = .ok (.ireturn, 1) := by decide +kernel
set_option maxRecDepth 20000 in
theorem ggX2_spreadFrom_X2_spread : GoodIn wsX2_spreadFrom wsX2_spread := goodIn_r _ [6, 7, 1, 8, 9, 10, 11, 5, 12, 13, 14, 15, 16, 17, 18, 19, 20, 21, 22, 23, 24, 25, 26, 27, 28, 29, 30, 31, 32, 33, 34, 35, 36, 37, 38, 39, 40, 41, 42, 43, 44, 45, 46, 47, 48, 49, 50] (by decide +kernel) (by decide +kernel)
set_option maxRecDepth 20000 in
theorem gX2_spreadFrom_X2_spread : GoodIn wsX2_spreadFrom (wsV RX2 40 RX2 yX2_spread wsX2_spread) := goodIn_app (goodIn_of _ (by decide +kernel)) ggX2_spreadFrom_X2_spread
theorem dX2_spreadFrom_0 : decode cX2_spreadFrom 0 = .ok (.aload_n 0, 1) := by decide +kernel
theorem dX2_spreadFrom_1 : decode cX2_spreadFrom 1 = .ok (.getfield 19, 3) := by decide +kernel
theorem dX2_spreadFrom_4 : decode cX2_spreadFrom 4 = .ok (.iconst 0, 1) := by decide +kernel
theorem dX2_spreadFrom_5 : decode cX2_spreadFrom 5 = .ok (.iload_n 2, 1) := by decide +kernel
theorem dX2_spreadFrom_6 : decode cX2_spreadFrom 6 = .ok (.iastore, 1) := by decide +kernel
theorem dX2_spreadFrom_7 : decode cX2_spreadFrom 7 = .ok (.aload_n 0, 1) := by decide +kernel
theorem dX2_spreadFrom_8 : decode cX2_spreadFrom 8 = .ok (.aload_n 1, 1) := by decide +kernel
theorem dX2_spreadFrom_9 : decode cX2_spreadFrom 9 = .ok (.iconst 1, 1) := by decide +kernel
theorem dX2_spreadFrom_10 : decode cX2_spreadFrom 10 = .ok (.sipush 6561, 3) := by decide +kernel
theorem dX2_spreadFrom_13 : decode cX2_spreadFrom 13 = .ok (.invokevirtual 40, 3) := by decide +kernel
theorem dX2_spreadFrom_16 : decode cX2_spreadFrom 16 = .ok (.return_, 1) := by decide +kernel
set_option maxRecDepth 20000 in
theorem ggX2_spread_X2_farTo : GoodIn wsX2_spread wsX2_farTo := goodIn_r _ [8, 1, 31, 32, 33, 34, 35] (by decide +kernel) (by decide +kernel)
set_option maxRecDepth 20000 in
theorem gX2_spread_X2_farTo : GoodIn wsX2_spread (wsV RX2 47 RX2 yX2_farTo wsX2_farTo) := goodIn_app (goodIn_of _ (by decide +kernel)) ggX2_spread_X2_farTo
set_option maxRecDepth 20000 in
theorem ggX2_spread_X2_spreadByOneAct : GoodIn wsX2_spread wsX2_spreadByOneAct := goodIn_r _ [12, 13, 14, 15, 16, 17, 18, 19, 20, 21, 22, 23, 24, 7, 25, 1, 3, 2, 26, 27, 28, 29, 30, 36, 37, 38, 39, 40, 41, 42, 43, 44, 45, 46, 31, 32, 33, 34, 35] (by decide +kernel) (by decide +kernel)
set_option maxRecDepth 20000 in
theorem gX2_spread_X2_spreadByOneAct : GoodIn wsX2_spread (wsV RX2 50 RX2 yX2_spreadByOneAct wsX2_spreadByOneAct) := goodIn_app (goodIn_of _ (by decide +kernel)) ggX2_spread_X2_spreadByOneAct
theorem dX2_spread_0 : decode cX2_spread 0 = .ok (.iconst 0, 1) := by decide +kernel
theorem dX2_spread_1 : decode cX2_spread 1 = .ok (.istore 4, 2) := by decide +kernel
theorem dX2_spread_3 : decode cX2_spread 3 = .ok (.iload 4, 2) := by decide +kernel
theorem dX2_spread_5 : decode cX2_spread 5 = .ok (.sipush 6561, 3) := by decide +kernel
theorem dX2_spread_8 : decode cX2_spread 8 = .ok (.if_icmp .ge 18, 3) := by decide +kernel
theorem dX2_spread_11 : decode cX2_spread 11 = .ok (.aload_n 0, 1) := by decide +kernel
theorem dX2_spread_12 : decode cX2_spread 12 = .ok (.getfield 15, 3) := by decide +kernel
theorem dX2_spread_15 : decode cX2_spread 15 = .ok (.iload 4, 2) := by decide +kernel
theorem dX2_spread_17 : decode cX2_spread 17 = .ok (.bipush (-9), 2) := by decide +kernel
theorem dX2_spread_19 : decode cX2_spread 19 = .ok (.iastore, 1) := by decide +kernel
theorem dX2_spread_20 : decode cX2_spread 20 = .ok (.iinc 4 1, 3) := by decide +kernel
theorem dX2_spread_23 : decode cX2_spread 23 = .ok (.goto (-20), 3) := by decide +kernel
theorem dX2_spread_26 : decode cX2_spread 26 = .ok (.iconst 0, 1) := by decide +kernel
theorem dX2_spread_27 : decode cX2_spread 27 = .ok (.istore 4, 2) := by decide +kernel
theorem dX2_spread_29 : decode cX2_spread 29 = .ok (.iload 4, 2) := by decide +kernel
theorem dX2_spread_31 : decode cX2_spread 31 = .ok (.iload_n 2, 1) := by decide +kernel
theorem dX2_spread_32 : decode cX2_spread 32 = .ok (.if_icmp .ge 47, 3) := by decide +kernel
theorem dX2_spread_35 : decode cX2_spread 35 = .ok (.iload 4, 2) := by decide +kernel
theorem dX2_spread_37 : decode cX2_spread 37 = .ok (.sipush 3394, 3) := by decide +kernel
theorem dX2_spread_40 : decode cX2_spread 40 = .ok (.if_icmp .ge 39, 3) := by decide +kernel
theorem dX2_spread_43 : decode cX2_spread 43 = .ok (.aload_n 0, 1) := by decide +kernel
theorem dX2_spread_44 : decode cX2_spread 44 = .ok (.getfield 19, 3) := by decide +kernel
theorem dX2_spread_47 : decode cX2_spread 47 = .ok (.iload 4, 2) := by decide +kernel
theorem dX2_spread_49 : decode cX2_spread 49 = .ok (.iaload, 1) := by decide +kernel
theorem dX2_spread_50 : decode cX2_spread 50 = .ok (.istore 5, 2) := by decide +kernel
theorem dX2_spread_52 : decode cX2_spread 52 = .ok (.iload 5, 2) := by decide +kernel
theorem dX2_spread_54 : decode cX2_spread 54 = .ok (.ifCond .lt 19, 3) := by decide +kernel
theorem dX2_spread_57 : decode cX2_spread 57 = .ok (.iload 5, 2) := by decide +kernel
theorem dX2_spread_59 : decode cX2_spread 59 = .ok (.sipush 6561, 3) := by decide +kernel
theorem dX2_spread_62 : decode cX2_spread 62 = .ok (.if_icmp .ge 11, 3) := by decide +kernel
theorem dX2_spread_65 : decode cX2_spread 65 = .ok (.aload_n 0, 1) := by decide +kernel
theorem dX2_spread_66 : decode cX2_spread 66 = .ok (.getfield 15, 3) := by decide +kernel
theorem dX2_spread_69 : decode cX2_spread 69 = .ok (.iload 5, 2) := by decide +kernel
theorem dX2_spread_71 : decode cX2_spread 71 = .ok (.iconst 0, 1) := by decide +kernel
theorem dX2_spread_72 : decode cX2_spread 72 = .ok (.iastore, 1) := by decide +kernel
theorem dX2_spread_73 : decode cX2_spread 73 = .ok (.iinc 4 1, 3) := by decide +kernel
theorem dX2_spread_76 : decode cX2_spread 76 = .ok (.goto (-47), 3) := by decide +kernel
theorem dX2_spread_79 : decode cX2_spread 79 = .ok (.aload_n 0, 1) := by decide +kernel
theorem dX2_spread_80 : decode cX2_spread 80 = .ok (.iload_n 2, 1) := by decide +kernel
theorem dX2_spread_81 : decode cX2_spread 81 = .ok (.putfield 44, 3) := by decide +kernel
theorem dX2_spread_84 : decode cX2_spread 84 = .ok (.iconst 0, 1) := by decide +kernel
theorem dX2_spread_85 : decode cX2_spread 85 = .ok (.istore 4, 2) := by decide +kernel
theorem dX2_spread_87 : decode cX2_spread 87 = .ok (.iload 4, 2) := by decide +kernel
theorem dX2_spread_89 : decode cX2_spread 89 = .ok (.aload_n 0, 1) := by decide +kernel
theorem dX2_spread_90 : decode cX2_spread 90 = .ok (.getfield 44, 3) := by decide +kernel
theorem dX2_spread_93 : decode cX2_spread 93 = .ok (.if_icmp .ge 52, 3) := by decide +kernel
theorem dX2_spread_96 : decode cX2_spread 96 = .ok (.iload 4, 2) := by decide +kernel
theorem dX2_spread_98 : decode cX2_spread 98 = .ok (.sipush 3394, 3) := by decide +kernel
theorem dX2_spread_101 : decode cX2_spread 101 = .ok (.if_icmp .ge 44, 3) := by decide +kernel
theorem dX2_spread_104 : decode cX2_spread 104 = .ok (.aload_n 0, 1) := by decide +kernel
theorem dX2_spread_105 : decode cX2_spread 105 = .ok (.getfield 19, 3) := by decide +kernel
theorem dX2_spread_108 : decode cX2_spread 108 = .ok (.iload 4, 2) := by decide +kernel
theorem dX2_spread_110 : decode cX2_spread 110 = .ok (.iaload, 1) := by decide +kernel
theorem dX2_spread_111 : decode cX2_spread 111 = .ok (.istore 5, 2) := by decide +kernel
theorem dX2_spread_113 : decode cX2_spread 113 = .ok (.aload_n 0, 1) := by decide +kernel
theorem dX2_spread_114 : decode cX2_spread 114 = .ok (.iload 5, 2) := by decide +kernel
theorem dX2_spread_116 : decode cX2_spread 116 = .ok (.invokevirtual 47, 3) := by decide +kernel
theorem dX2_spread_119 : decode cX2_spread 119 = .ok (.iload_n 3, 1) := by decide +kernel
theorem dX2_spread_120 : decode cX2_spread 120 = .ok (.if_icmp .lt 4, 3) := by decide +kernel
theorem dX2_spread_123 : decode cX2_spread 123 = .ok (.return_, 1) := by decide +kernel
theorem dX2_spread_124 : decode cX2_spread 124 = .ok (.aload_n 0, 1) := by decide +kernel
theorem dX2_spread_125 : decode cX2_spread 125 = .ok (.aload_n 1, 1) := by decide +kernel
theorem dX2_spread_126 : decode cX2_spread 126 = .ok (.iload 5, 2) := by decide +kernel
theorem dX2_spread_128 : decode cX2_spread 128 = .ok (.aload_n 0, 1) := by decide +kernel
theorem dX2_spread_129 : decode cX2_spread 129 = .ok (.iload 5, 2) := by decide +kernel
theorem dX2_spread_131 : decode cX2_spread 131 = .ok (.invokevirtual 47, 3) := by decide +kernel
theorem dX2_spread_134 : decode cX2_spread 134 = .ok (.iconst 1, 1) := by decide +kernel
theorem dX2_spread_135 : decode cX2_spread 135 = .ok (.iadd, 1) := by decide +kernel
theorem dX2_spread_136 : decode cX2_spread 136 = .ok (.invokevirtual 50, 3) := by decide +kernel
theorem dX2_spread_139 : decode cX2_spread 139 = .ok (.iinc 4 1, 3) := by decide +kernel
theorem dX2_spread_142 : decode cX2_spread 142 = .ok (.goto (-55), 3) := by decide +kernel
theorem dX2_spread_145 : decode cX2_spread 145 = .ok (.return_, 1) := by decide +kernel
set_option maxRecDepth 20000 in
theorem ggX2_spreadByOneAct_X4_placeIn : GoodIn wsX2_spreadByOneAct wsX4_placeIn := goodIn_r _ [3] (by decide +kernel) (by decide +kernel)
set_option maxRecDepth 20000 in
theorem gX2_spreadByOneAct_X4_placeIn_n53 : GoodIn wsX2_spreadByOneAct (wsX4_placeIn) := ggX2_spreadByOneAct_X4_placeIn
set_option maxRecDepth 20000 in
theorem ggX2_spreadByOneAct_X4_moved : GoodIn wsX2_spreadByOneAct wsX4_moved := goodIn_r _ [5, 6, 1, 2, 3, 7, 8, 9] (by decide +kernel) (by decide +kernel)
set_option maxRecDepth 20000 in
theorem gX2_spreadByOneAct_X4_moved_n57 : GoodIn wsX2_spreadByOneAct (wsX4_moved) := ggX2_spreadByOneAct_X4_moved
set_option maxRecDepth 20000 in
theorem ggX2_spreadByOneAct_X2_reach : GoodIn wsX2_spreadByOneAct wsX2_reach := goodIn_r _ [14, 15, 16, 17, 18, 19, 20, 13, 21, 22, 34, 35, 36, 37, 38] (by decide +kernel) (by decide +kernel)
set_option maxRecDepth 20000 in
theorem gX2_spreadByOneAct_X2_reach : GoodIn wsX2_spreadByOneAct (wsV RX2 61 RX2 yX2_reach wsX2_reach) := goodIn_app (goodIn_of _ (by decide +kernel)) ggX2_spreadByOneAct_X2_reach
theorem dX2_spreadByOneAct_0 : decode cX2_spreadByOneAct 0 = .ok (.iconst 0, 1) := by decide +kernel
theorem dX2_spreadByOneAct_1 : decode cX2_spreadByOneAct 1 = .ok (.istore 4, 2) := by decide +kernel
theorem dX2_spreadByOneAct_3 : decode cX2_spreadByOneAct 3 = .ok (.iload 4, 2) := by decide +kernel
theorem dX2_spreadByOneAct_5 : decode cX2_spreadByOneAct 5 = .ok (.aload_n 1, 1) := by decide +kernel
theorem dX2_spreadByOneAct_6 : decode cX2_spreadByOneAct 6 = .ok (.getfield 26, 3) := by decide +kernel
theorem dX2_spreadByOneAct_9 : decode cX2_spreadByOneAct 9 = .ok (.if_icmp .ge 65, 3) := by decide +kernel
theorem dX2_spreadByOneAct_12 : decode cX2_spreadByOneAct 12 = .ok (.iload_n 2, 1) := by decide +kernel
theorem dX2_spreadByOneAct_13 : decode cX2_spreadByOneAct 13 = .ok (.iload 4, 2) := by decide +kernel
theorem dX2_spreadByOneAct_15 : decode cX2_spreadByOneAct 15 = .ok (.invokestatic 53, 3) := by decide +kernel
theorem dX2_spreadByOneAct_18 : decode cX2_spreadByOneAct 18 = .ok (.bipush 8, 2) := by decide +kernel
theorem dX2_spreadByOneAct_20 : decode cX2_spreadByOneAct 20 = .ok (.if_icmp .eq 19, 3) := by decide +kernel
theorem dX2_spreadByOneAct_23 : decode cX2_spreadByOneAct 23 = .ok (.aload_n 0, 1) := by decide +kernel
theorem dX2_spreadByOneAct_24 : decode cX2_spreadByOneAct 24 = .ok (.iload_n 2, 1) := by decide +kernel
theorem dX2_spreadByOneAct_25 : decode cX2_spreadByOneAct 25 = .ok (.iload 4, 2) := by decide +kernel
theorem dX2_spreadByOneAct_27 : decode cX2_spreadByOneAct 27 = .ok (.bipush 8, 2) := by decide +kernel
theorem dX2_spreadByOneAct_29 : decode cX2_spreadByOneAct 29 = .ok (.invokestatic 57, 3) := by decide +kernel
theorem dX2_spreadByOneAct_32 : decode cX2_spreadByOneAct 32 = .ok (.iload_n 3, 1) := by decide +kernel
theorem dX2_spreadByOneAct_33 : decode cX2_spreadByOneAct 33 = .ok (.invokevirtual 61, 3) := by decide +kernel
theorem dX2_spreadByOneAct_36 : decode cX2_spreadByOneAct 36 = .ok (.goto 32, 3) := by decide +kernel
theorem dX2_spreadByOneAct_39 : decode cX2_spreadByOneAct 39 = .ok (.iconst 0, 1) := by decide +kernel
theorem dX2_spreadByOneAct_40 : decode cX2_spreadByOneAct 40 = .ok (.istore 5, 2) := by decide +kernel
theorem dX2_spreadByOneAct_42 : decode cX2_spreadByOneAct 42 = .ok (.iload 5, 2) := by decide +kernel
theorem dX2_spreadByOneAct_44 : decode cX2_spreadByOneAct 44 = .ok (.bipush 8, 2) := by decide +kernel
theorem dX2_spreadByOneAct_46 : decode cX2_spreadByOneAct 46 = .ok (.if_icmp .ge 22, 3) := by decide +kernel
theorem dX2_spreadByOneAct_49 : decode cX2_spreadByOneAct 49 = .ok (.aload_n 0, 1) := by decide +kernel
theorem dX2_spreadByOneAct_50 : decode cX2_spreadByOneAct 50 = .ok (.iload_n 2, 1) := by decide +kernel
theorem dX2_spreadByOneAct_51 : decode cX2_spreadByOneAct 51 = .ok (.iload 4, 2) := by decide +kernel
theorem dX2_spreadByOneAct_53 : decode cX2_spreadByOneAct 53 = .ok (.iload 5, 2) := by decide +kernel
theorem dX2_spreadByOneAct_55 : decode cX2_spreadByOneAct 55 = .ok (.invokestatic 57, 3) := by decide +kernel
theorem dX2_spreadByOneAct_58 : decode cX2_spreadByOneAct 58 = .ok (.iload_n 3, 1) := by decide +kernel
theorem dX2_spreadByOneAct_59 : decode cX2_spreadByOneAct 59 = .ok (.invokevirtual 61, 3) := by decide +kernel
theorem dX2_spreadByOneAct_62 : decode cX2_spreadByOneAct 62 = .ok (.iinc 5 1, 3) := by decide +kernel
theorem dX2_spreadByOneAct_65 : decode cX2_spreadByOneAct 65 = .ok (.goto (-23), 3) := by decide +kernel
theorem dX2_spreadByOneAct_68 : decode cX2_spreadByOneAct 68 = .ok (.iinc 4 1, 3) := by decide +kernel
theorem dX2_spreadByOneAct_71 : decode cX2_spreadByOneAct 71 = .ok (.goto (-68), 3) := by decide +kernel
theorem dX2_spreadByOneAct_74 : decode cX2_spreadByOneAct 74 = .ok (.return_, 1) := by decide +kernel
set_option maxRecDepth 20000 in
theorem ggX2_reach_X2_isLawful : GoodIn wsX2_reach wsX2_isLawful := goodIn_r _ [8, 9, 10, 11, 12, 13, 14] (by decide +kernel) (by decide +kernel)
set_option maxRecDepth 20000 in
theorem gX2_reach_X2_isLawful : GoodIn wsX2_reach (wsV RX2 65 RX2 yX2_isLawful wsX2_isLawful) := goodIn_app (goodIn_of _ (by decide +kernel)) ggX2_reach_X2_isLawful
theorem dX2_reach_0 : decode cX2_reach 0 = .ok (.aload_n 0, 1) := by decide +kernel
theorem dX2_reach_1 : decode cX2_reach 1 = .ok (.iload_n 1, 1) := by decide +kernel
theorem dX2_reach_2 : decode cX2_reach 2 = .ok (.invokevirtual 65, 3) := by decide +kernel
theorem dX2_reach_5 : decode cX2_reach 5 = .ok (.ifCond .eq 51, 3) := by decide +kernel
theorem dX2_reach_8 : decode cX2_reach 8 = .ok (.aload_n 0, 1) := by decide +kernel
theorem dX2_reach_9 : decode cX2_reach 9 = .ok (.getfield 15, 3) := by decide +kernel
theorem dX2_reach_12 : decode cX2_reach 12 = .ok (.iload_n 1, 1) := by decide +kernel
theorem dX2_reach_13 : decode cX2_reach 13 = .ok (.iaload, 1) := by decide +kernel
theorem dX2_reach_14 : decode cX2_reach 14 = .ok (.bipush (-9), 2) := by decide +kernel
theorem dX2_reach_16 : decode cX2_reach 16 = .ok (.if_icmp .ne 40, 3) := by decide +kernel
theorem dX2_reach_19 : decode cX2_reach 19 = .ok (.aload_n 0, 1) := by decide +kernel
theorem dX2_reach_20 : decode cX2_reach 20 = .ok (.getfield 44, 3) := by decide +kernel
theorem dX2_reach_23 : decode cX2_reach 23 = .ok (.sipush 3394, 3) := by decide +kernel
theorem dX2_reach_26 : decode cX2_reach 26 = .ok (.if_icmp .ge 30, 3) := by decide +kernel
theorem dX2_reach_29 : decode cX2_reach 29 = .ok (.aload_n 0, 1) := by decide +kernel
theorem dX2_reach_30 : decode cX2_reach 30 = .ok (.getfield 15, 3) := by decide +kernel
theorem dX2_reach_33 : decode cX2_reach 33 = .ok (.iload_n 1, 1) := by decide +kernel
theorem dX2_reach_34 : decode cX2_reach 34 = .ok (.iload_n 2, 1) := by decide +kernel
theorem dX2_reach_35 : decode cX2_reach 35 = .ok (.iastore, 1) := by decide +kernel
theorem dX2_reach_36 : decode cX2_reach 36 = .ok (.aload_n 0, 1) := by decide +kernel
theorem dX2_reach_37 : decode cX2_reach 37 = .ok (.getfield 19, 3) := by decide +kernel
theorem dX2_reach_40 : decode cX2_reach 40 = .ok (.aload_n 0, 1) := by decide +kernel
theorem dX2_reach_41 : decode cX2_reach 41 = .ok (.getfield 44, 3) := by decide +kernel
theorem dX2_reach_44 : decode cX2_reach 44 = .ok (.iload_n 1, 1) := by decide +kernel
theorem dX2_reach_45 : decode cX2_reach 45 = .ok (.iastore, 1) := by decide +kernel
theorem dX2_reach_46 : decode cX2_reach 46 = .ok (.aload_n 0, 1) := by decide +kernel
theorem dX2_reach_47 : decode cX2_reach 47 = .ok (.dup, 1) := by decide +kernel
theorem dX2_reach_48 : decode cX2_reach 48 = .ok (.getfield 44, 3) := by decide +kernel
theorem dX2_reach_51 : decode cX2_reach 51 = .ok (.iconst 1, 1) := by decide +kernel
theorem dX2_reach_52 : decode cX2_reach 52 = .ok (.iadd, 1) := by decide +kernel
theorem dX2_reach_53 : decode cX2_reach 53 = .ok (.putfield 44, 3) := by decide +kernel
theorem dX2_reach_56 : decode cX2_reach 56 = .ok (.return_, 1) := by decide +kernel
set_option maxRecDepth 20000 in
theorem ggX2_fewestActs_X2_survey : GoodIn wsX2_fewestActs wsX2_survey := goodIn_r _ [5, 6, 7, 8, 9, 10, 11, 12, 13, 14, 15, 16, 17, 18, 19, 20, 21, 22, 23, 24, 25, 26, 27, 28, 29, 30, 31, 32, 33, 34, 35, 36, 37, 38, 39, 40, 41, 42, 43, 44, 76, 77, 78, 79, 80, 81, 82, 83, 84, 85, 86, 87, 88, 89, 90, 91] (by decide +kernel) (by decide +kernel)
set_option maxRecDepth 20000 in
theorem gX2_fewestActs_X2_survey : GoodIn wsX2_fewestActs (wsV RX2 68 RX2 yX2_survey wsX2_survey) := goodIn_app (goodIn_of _ (by decide +kernel)) ggX2_fewestActs_X2_survey
set_option maxRecDepth 20000 in
theorem ggX2_fewestActs_X2_spreadFrom : GoodIn wsX2_fewestActs wsX2_spreadFrom := goodIn_r _ [48, 49, 50, 51, 52, 4, 53, 54, 55, 56, 57, 58, 59, 60, 61, 62, 63, 22, 9, 23, 64, 65, 66, 67, 8, 10, 68, 69, 70, 71, 72, 73, 74, 75, 7, 76, 77, 78, 79, 80, 81, 82, 83, 84, 85, 86, 87, 88, 89, 90, 91] (by decide +kernel) (by decide +kernel)
set_option maxRecDepth 20000 in
theorem gX2_fewestActs_X2_spreadFrom : GoodIn wsX2_fewestActs (wsV RX2 72 RX2 yX2_spreadFrom wsX2_spreadFrom) := goodIn_app (goodIn_of _ (by decide +kernel)) ggX2_fewestActs_X2_spreadFrom
set_option maxRecDepth 20000 in
theorem ggX2_fewestActs_X2_farTo : GoodIn wsX2_fewestActs wsX2_farTo := goodIn_r _ [59, 54, 76, 77, 78, 79, 80] (by decide +kernel) (by decide +kernel)
set_option maxRecDepth 20000 in
theorem gX2_fewestActs_X2_farTo : GoodIn wsX2_fewestActs (wsV RX2 47 RX2 yX2_farTo wsX2_farTo) := goodIn_app (goodIn_of _ (by decide +kernel)) ggX2_fewestActs_X2_farTo
theorem dX2_fewestActs_0 : decode cX2_fewestActs 0 = .ok (.aload_n 0, 1) := by decide +kernel
theorem dX2_fewestActs_1 : decode cX2_fewestActs 1 = .ok (.aload_n 1, 1) := by decide +kernel
theorem dX2_fewestActs_2 : decode cX2_fewestActs 2 = .ok (.invokevirtual 68, 3) := by decide +kernel
theorem dX2_fewestActs_5 : decode cX2_fewestActs 5 = .ok (.aload_n 0, 1) := by decide +kernel
theorem dX2_fewestActs_6 : decode cX2_fewestActs 6 = .ok (.aload_n 1, 1) := by decide +kernel
theorem dX2_fewestActs_7 : decode cX2_fewestActs 7 = .ok (.iload_n 2, 1) := by decide +kernel
theorem dX2_fewestActs_8 : decode cX2_fewestActs 8 = .ok (.invokevirtual 72, 3) := by decide +kernel
theorem dX2_fewestActs_11 : decode cX2_fewestActs 11 = .ok (.aload_n 0, 1) := by decide +kernel
theorem dX2_fewestActs_12 : decode cX2_fewestActs 12 = .ok (.iload_n 3, 1) := by decide +kernel
theorem dX2_fewestActs_13 : decode cX2_fewestActs 13 = .ok (.invokevirtual 47, 3) := by decide +kernel
theorem dX2_fewestActs_16 : decode cX2_fewestActs 16 = .ok (.ireturn, 1) := by decide +kernel
set_option maxRecDepth 20000 in
theorem ggX2_firstAct_X2_survey : GoodIn wsX2_firstAct wsX2_survey := goodIn_r _ [5, 6, 7, 8, 9, 10, 11, 12, 13, 14, 15, 16, 17, 18, 19, 20, 21, 22, 23, 24, 25, 26, 27, 28, 29, 30, 31, 32, 33, 34, 35, 36, 37, 38, 39, 40, 41, 42, 43, 44, 87, 88, 89, 90, 91, 76, 77, 78, 79, 80, 81, 82, 83, 84, 85, 86] (by decide +kernel) (by decide +kernel)
set_option maxRecDepth 20000 in
theorem gX2_firstAct_X2_survey : GoodIn wsX2_firstAct (wsV RX2 68 RX2 yX2_survey wsX2_survey) := goodIn_app (goodIn_of _ (by decide +kernel)) ggX2_firstAct_X2_survey
set_option maxRecDepth 20000 in
theorem ggX2_firstAct_X2_isLawful : GoodIn wsX2_firstAct wsX2_isLawful := goodIn_r _ [48, 7, 87, 88, 89, 90, 91] (by decide +kernel) (by decide +kernel)
set_option maxRecDepth 20000 in
theorem gX2_firstAct_X2_isLawful : GoodIn wsX2_firstAct (wsV RX2 65 RX2 yX2_isLawful wsX2_isLawful) := goodIn_app (goodIn_of _ (by decide +kernel)) ggX2_firstAct_X2_isLawful
set_option maxRecDepth 20000 in
theorem ggX2_firstAct_X2_spreadFrom : GoodIn wsX2_firstAct wsX2_spreadFrom := goodIn_r _ [52, 53, 54, 55, 56, 4, 57, 58, 59, 60, 61, 62, 63, 64, 65, 66, 67, 22, 9, 23, 68, 69, 70, 71, 8, 10, 72, 73, 74, 75, 45, 46, 47, 48, 7, 87, 88, 89, 90, 91, 76, 77, 78, 79, 80, 81, 82, 83, 84, 85, 86] (by decide +kernel) (by decide +kernel)
set_option maxRecDepth 20000 in
theorem gX2_firstAct_X2_spreadFrom : GoodIn wsX2_firstAct (wsV RX2 72 RX2 yX2_spreadFrom wsX2_spreadFrom) := goodIn_app (goodIn_of _ (by decide +kernel)) ggX2_firstAct_X2_spreadFrom
set_option maxRecDepth 20000 in
theorem ggX2_firstAct_X4_placeIn : GoodIn wsX2_firstAct wsX4_placeIn := goodIn_r _ [23] (by decide +kernel) (by decide +kernel)
set_option maxRecDepth 20000 in
theorem gX2_firstAct_X4_placeIn_n53 : GoodIn wsX2_firstAct (wsX4_placeIn) := ggX2_firstAct_X4_placeIn
set_option maxRecDepth 20000 in
theorem ggX2_firstAct_X4_moved : GoodIn wsX2_firstAct wsX4_moved := goodIn_r _ [69, 70, 22, 9, 23, 71, 8, 10] (by decide +kernel) (by decide +kernel)
set_option maxRecDepth 20000 in
theorem gX2_firstAct_X4_moved_n57 : GoodIn wsX2_firstAct (wsX4_moved) := ggX2_firstAct_X4_moved
set_option maxRecDepth 20000 in
theorem ggX2_firstAct_X2_farTo : GoodIn wsX2_firstAct wsX2_farTo := goodIn_r _ [63, 58, 87, 88, 89, 90, 91] (by decide +kernel) (by decide +kernel)
set_option maxRecDepth 20000 in
theorem gX2_firstAct_X2_farTo : GoodIn wsX2_firstAct (wsV RX2 47 RX2 yX2_farTo wsX2_farTo) := goodIn_app (goodIn_of _ (by decide +kernel)) ggX2_firstAct_X2_farTo
theorem dX2_firstAct_0 : decode cX2_firstAct 0 = .ok (.aload_n 0, 1) := by decide +kernel
theorem dX2_firstAct_1 : decode cX2_firstAct 1 = .ok (.aload_n 1, 1) := by decide +kernel
theorem dX2_firstAct_2 : decode cX2_firstAct 2 = .ok (.invokevirtual 68, 3) := by decide +kernel
theorem dX2_firstAct_5 : decode cX2_firstAct 5 = .ok (.iload_n 2, 1) := by decide +kernel
theorem dX2_firstAct_6 : decode cX2_firstAct 6 = .ok (.iload_n 3, 1) := by decide +kernel
theorem dX2_firstAct_7 : decode cX2_firstAct 7 = .ok (.if_icmp .eq 11, 3) := by decide +kernel
theorem dX2_firstAct_10 : decode cX2_firstAct 10 = .ok (.aload_n 0, 1) := by decide +kernel
theorem dX2_firstAct_11 : decode cX2_firstAct 11 = .ok (.iload_n 3, 1) := by decide +kernel
theorem dX2_firstAct_12 : decode cX2_firstAct 12 = .ok (.invokevirtual 65, 3) := by decide +kernel
theorem dX2_firstAct_15 : decode cX2_firstAct 15 = .ok (.ifCond .ne 6, 3) := by decide +kernel
theorem dX2_firstAct_18 : decode cX2_firstAct 18 = .ok (.bipush (-9), 2) := by decide +kernel
theorem dX2_firstAct_20 : decode cX2_firstAct 20 = .ok (.ireturn, 1) := by decide +kernel
theorem dX2_firstAct_21 : decode cX2_firstAct 21 = .ok (.aload_n 0, 1) := by decide +kernel
theorem dX2_firstAct_22 : decode cX2_firstAct 22 = .ok (.aload_n 1, 1) := by decide +kernel
theorem dX2_firstAct_23 : decode cX2_firstAct 23 = .ok (.iload_n 3, 1) := by decide +kernel
theorem dX2_firstAct_24 : decode cX2_firstAct 24 = .ok (.invokevirtual 72, 3) := by decide +kernel
theorem dX2_firstAct_27 : decode cX2_firstAct 27 = .ok (.sipush 6561, 3) := by decide +kernel
theorem dX2_firstAct_30 : decode cX2_firstAct 30 = .ok (.istore 4, 2) := by decide +kernel
theorem dX2_firstAct_32 : decode cX2_firstAct 32 = .ok (.bipush (-9), 2) := by decide +kernel
theorem dX2_firstAct_34 : decode cX2_firstAct 34 = .ok (.istore 5, 2) := by decide +kernel
theorem dX2_firstAct_36 : decode cX2_firstAct 36 = .ok (.iconst 0, 1) := by decide +kernel
theorem dX2_firstAct_37 : decode cX2_firstAct 37 = .ok (.istore 6, 2) := by decide +kernel
theorem dX2_firstAct_39 : decode cX2_firstAct 39 = .ok (.iload 6, 2) := by decide +kernel
theorem dX2_firstAct_41 : decode cX2_firstAct 41 = .ok (.aload_n 1, 1) := by decide +kernel
theorem dX2_firstAct_42 : decode cX2_firstAct 42 = .ok (.getfield 26, 3) := by decide +kernel
theorem dX2_firstAct_45 : decode cX2_firstAct 45 = .ok (.if_icmp .ge 113, 3) := by decide +kernel
theorem dX2_firstAct_48 : decode cX2_firstAct 48 = .ok (.iload_n 2, 1) := by decide +kernel
theorem dX2_firstAct_49 : decode cX2_firstAct 49 = .ok (.iload 6, 2) := by decide +kernel
theorem dX2_firstAct_51 : decode cX2_firstAct 51 = .ok (.invokestatic 53, 3) := by decide +kernel
theorem dX2_firstAct_54 : decode cX2_firstAct 54 = .ok (.bipush 8, 2) := by decide +kernel
theorem dX2_firstAct_56 : decode cX2_firstAct 56 = .ok (.if_icmp .ne 7, 3) := by decide +kernel
theorem dX2_firstAct_59 : decode cX2_firstAct 59 = .ok (.iconst 1, 1) := by decide +kernel
theorem dX2_firstAct_60 : decode cX2_firstAct 60 = .ok (.goto 4, 3) := by decide +kernel
theorem dX2_firstAct_63 : decode cX2_firstAct 63 = .ok (.iconst 0, 1) := by decide +kernel
theorem dX2_firstAct_64 : decode cX2_firstAct 64 = .ok (.istore 7, 2) := by decide +kernel
theorem dX2_firstAct_66 : decode cX2_firstAct 66 = .ok (.iload 7, 2) := by decide +kernel
theorem dX2_firstAct_68 : decode cX2_firstAct 68 = .ok (.ifCond .eq 7, 3) := by decide +kernel
theorem dX2_firstAct_71 : decode cX2_firstAct 71 = .ok (.iconst 0, 1) := by decide +kernel
theorem dX2_firstAct_72 : decode cX2_firstAct 72 = .ok (.goto 5, 3) := by decide +kernel
theorem dX2_firstAct_75 : decode cX2_firstAct 75 = .ok (.bipush 8, 2) := by decide +kernel
theorem dX2_firstAct_77 : decode cX2_firstAct 77 = .ok (.istore 8, 2) := by decide +kernel
theorem dX2_firstAct_79 : decode cX2_firstAct 79 = .ok (.iload 7, 2) := by decide +kernel
theorem dX2_firstAct_81 : decode cX2_firstAct 81 = .ok (.ifCond .eq 8, 3) := by decide +kernel
theorem dX2_firstAct_84 : decode cX2_firstAct 84 = .ok (.bipush 7, 2) := by decide +kernel
theorem dX2_firstAct_86 : decode cX2_firstAct 86 = .ok (.goto 5, 3) := by decide +kernel
theorem dX2_firstAct_89 : decode cX2_firstAct 89 = .ok (.bipush 8, 2) := by decide +kernel
theorem dX2_firstAct_91 : decode cX2_firstAct 91 = .ok (.istore 9, 2) := by decide +kernel
theorem dX2_firstAct_93 : decode cX2_firstAct 93 = .ok (.iload 8, 2) := by decide +kernel
theorem dX2_firstAct_95 : decode cX2_firstAct 95 = .ok (.istore 10, 2) := by decide +kernel
theorem dX2_firstAct_97 : decode cX2_firstAct 97 = .ok (.iload 10, 2) := by decide +kernel
theorem dX2_firstAct_99 : decode cX2_firstAct 99 = .ok (.iload 9, 2) := by decide +kernel
theorem dX2_firstAct_101 : decode cX2_firstAct 101 = .ok (.if_icmp .gt 51, 3) := by decide +kernel
theorem dX2_firstAct_104 : decode cX2_firstAct 104 = .ok (.aload_n 0, 1) := by decide +kernel
theorem dX2_firstAct_105 : decode cX2_firstAct 105 = .ok (.iload_n 2, 1) := by decide +kernel
theorem dX2_firstAct_106 : decode cX2_firstAct 106 = .ok (.iload 6, 2) := by decide +kernel
theorem dX2_firstAct_108 : decode cX2_firstAct 108 = .ok (.iload 10, 2) := by decide +kernel
theorem dX2_firstAct_110 : decode cX2_firstAct 110 = .ok (.invokestatic 57, 3) := by decide +kernel
theorem dX2_firstAct_113 : decode cX2_firstAct 113 = .ok (.invokevirtual 47, 3) := by decide +kernel
theorem dX2_firstAct_116 : decode cX2_firstAct 116 = .ok (.istore 11, 2) := by decide +kernel
theorem dX2_firstAct_118 : decode cX2_firstAct 118 = .ok (.iload 11, 2) := by decide +kernel
theorem dX2_firstAct_120 : decode cX2_firstAct 120 = .ok (.bipush (-9), 2) := by decide +kernel
theorem dX2_firstAct_122 : decode cX2_firstAct 122 = .ok (.if_icmp .eq 24, 3) := by decide +kernel
theorem dX2_firstAct_125 : decode cX2_firstAct 125 = .ok (.iload 11, 2) := by decide +kernel
theorem dX2_firstAct_127 : decode cX2_firstAct 127 = .ok (.iload 4, 2) := by decide +kernel
theorem dX2_firstAct_129 : decode cX2_firstAct 129 = .ok (.if_icmp .ge 17, 3) := by decide +kernel
theorem dX2_firstAct_132 : decode cX2_firstAct 132 = .ok (.iload 11, 2) := by decide +kernel
theorem dX2_firstAct_134 : decode cX2_firstAct 134 = .ok (.istore 4, 2) := by decide +kernel
theorem dX2_firstAct_136 : decode cX2_firstAct 136 = .ok (.bipush 10, 2) := by decide +kernel
theorem dX2_firstAct_138 : decode cX2_firstAct 138 = .ok (.iload 6, 2) := by decide +kernel
theorem dX2_firstAct_140 : decode cX2_firstAct 140 = .ok (.imul, 1) := by decide +kernel
theorem dX2_firstAct_141 : decode cX2_firstAct 141 = .ok (.iload 10, 2) := by decide +kernel
theorem dX2_firstAct_143 : decode cX2_firstAct 143 = .ok (.iadd, 1) := by decide +kernel
theorem dX2_firstAct_144 : decode cX2_firstAct 144 = .ok (.istore 5, 2) := by decide +kernel
theorem dX2_firstAct_146 : decode cX2_firstAct 146 = .ok (.iinc 10 1, 3) := by decide +kernel
theorem dX2_firstAct_149 : decode cX2_firstAct 149 = .ok (.goto (-52), 3) := by decide +kernel
theorem dX2_firstAct_152 : decode cX2_firstAct 152 = .ok (.iinc 6 1, 3) := by decide +kernel
theorem dX2_firstAct_155 : decode cX2_firstAct 155 = .ok (.goto (-116), 3) := by decide +kernel
theorem dX2_firstAct_158 : decode cX2_firstAct 158 = .ok (.iload 5, 2) := by decide +kernel
theorem dX2_firstAct_160 : decode cX2_firstAct 160 = .ok (.ireturn, 1) := by decide +kernel
set_option maxRecDepth 20000 in
theorem ggX2_fewestNights_X2_survey : GoodIn wsX2_fewestNights wsX2_survey := goodIn_r _ [6, 7, 8, 9, 10, 11, 12, 13, 14, 15, 16, 17, 18, 19, 20, 21, 22, 23, 24, 25, 26, 27, 28, 29, 30, 31, 32, 33, 34, 35, 36, 37, 38, 39, 40, 41, 42, 43, 44, 45, 80, 81, 82, 83, 84, 93, 94, 95, 96, 97, 98, 99, 100, 101, 102, 103] (by decide +kernel) (by decide +kernel)
set_option maxRecDepth 20000 in
theorem gX2_fewestNights_X2_survey : GoodIn wsX2_fewestNights (wsV RX2 68 RX2 yX2_survey wsX2_survey) := goodIn_app (goodIn_of _ (by decide +kernel)) ggX2_fewestNights_X2_survey
set_option maxRecDepth 20000 in
theorem ggX2_fewestNights_X2_spread : GoodIn wsX2_fewestNights wsX2_spread := goodIn_r _ [49, 50, 1, 51, 52, 53, 54, 5, 55, 56, 57, 58, 59, 23, 10, 24, 60, 61, 62, 63, 9, 11, 64, 65, 66, 67, 68, 69, 70, 71, 8, 80, 81, 82, 83, 84, 93, 94, 95, 96, 97, 98, 99, 100, 101, 102, 103] (by decide +kernel) (by decide +kernel)
set_option maxRecDepth 20000 in
theorem gX2_fewestNights_X2_spread : GoodIn wsX2_fewestNights (wsV RX2 40 RX2 yX2_spread wsX2_spread) := goodIn_app (goodIn_of _ (by decide +kernel)) ggX2_fewestNights_X2_spread
set_option maxRecDepth 20000 in
theorem ggX2_fewestNights_X2_farTo : GoodIn wsX2_fewestNights wsX2_farTo := goodIn_r _ [55, 50, 80, 81, 82, 83, 84] (by decide +kernel) (by decide +kernel)
set_option maxRecDepth 20000 in
theorem gX2_fewestNights_X2_farTo : GoodIn wsX2_fewestNights (wsV RX2 47 RX2 yX2_farTo wsX2_farTo) := goodIn_app (goodIn_of _ (by decide +kernel)) ggX2_fewestNights_X2_farTo
set_option maxRecDepth 20000 in
theorem ggX2_fewestNights_X2_keepDry : GoodIn wsX2_fewestNights wsX2_keepDry := goodIn_r _ [75, 51, 1, 76, 13, 77, 78, 79, 25, 26, 27, 28, 17, 29, 23, 10, 24, 30, 31, 32, 33, 34, 35, 36, 80, 81, 82, 83, 84, 93, 94, 95, 96, 97, 98, 99, 100, 101, 102, 103] (by decide +kernel) (by decide +kernel)
set_option maxRecDepth 20000 in
theorem gX2_fewestNights_X2_keepDry : GoodIn wsX2_fewestNights (wsV RX2 90 RX2 yX2_keepDry wsX2_keepDry) := goodIn_app (goodIn_of _ (by decide +kernel)) ggX2_fewestNights_X2_keepDry
theorem dX2_fewestNights_0 : decode cX2_fewestNights 0 = .ok (.aload_n 0, 1) := by decide +kernel
theorem dX2_fewestNights_1 : decode cX2_fewestNights 1 = .ok (.aload_n 1, 1) := by decide +kernel
theorem dX2_fewestNights_2 : decode cX2_fewestNights 2 = .ok (.invokevirtual 68, 3) := by decide +kernel
theorem dX2_fewestNights_5 : decode cX2_fewestNights 5 = .ok (.aload_n 0, 1) := by decide +kernel
theorem dX2_fewestNights_6 : decode cX2_fewestNights 6 = .ok (.getfield 19, 3) := by decide +kernel
theorem dX2_fewestNights_9 : decode cX2_fewestNights 9 = .ok (.iconst 0, 1) := by decide +kernel
theorem dX2_fewestNights_10 : decode cX2_fewestNights 10 = .ok (.aload_n 2, 1) := by decide +kernel
theorem dX2_fewestNights_11 : decode cX2_fewestNights 11 = .ok (.getfield 76, 3) := by decide +kernel
theorem dX2_fewestNights_14 : decode cX2_fewestNights 14 = .ok (.iastore, 1) := by decide +kernel
theorem dX2_fewestNights_15 : decode cX2_fewestNights 15 = .ok (.aload_n 0, 1) := by decide +kernel
theorem dX2_fewestNights_16 : decode cX2_fewestNights 16 = .ok (.aload_n 1, 1) := by decide +kernel
theorem dX2_fewestNights_17 : decode cX2_fewestNights 17 = .ok (.iconst 1, 1) := by decide +kernel
theorem dX2_fewestNights_18 : decode cX2_fewestNights 18 = .ok (.aload_n 1, 1) := by decide +kernel
theorem dX2_fewestNights_19 : decode cX2_fewestNights 19 = .ok (.getfield 81, 3) := by decide +kernel
theorem dX2_fewestNights_22 : decode cX2_fewestNights 22 = .ok (.aload_n 2, 1) := by decide +kernel
theorem dX2_fewestNights_23 : decode cX2_fewestNights 23 = .ok (.getfield 84, 3) := by decide +kernel
theorem dX2_fewestNights_26 : decode cX2_fewestNights 26 = .ok (.isub, 1) := by decide +kernel
theorem dX2_fewestNights_27 : decode cX2_fewestNights 27 = .ok (.invokevirtual 40, 3) := by decide +kernel
theorem dX2_fewestNights_30 : decode cX2_fewestNights 30 = .ok (.iconst 0, 1) := by decide +kernel
theorem dX2_fewestNights_31 : decode cX2_fewestNights 31 = .ok (.istore 4, 2) := by decide +kernel
theorem dX2_fewestNights_33 : decode cX2_fewestNights 33 = .ok (.iconst 0, 1) := by decide +kernel
theorem dX2_fewestNights_34 : decode cX2_fewestNights 34 = .ok (.istore 5, 2) := by decide +kernel
theorem dX2_fewestNights_36 : decode cX2_fewestNights 36 = .ok (.iload 5, 2) := by decide +kernel
theorem dX2_fewestNights_38 : decode cX2_fewestNights 38 = .ok (.bipush 20, 2) := by decide +kernel
theorem dX2_fewestNights_40 : decode cX2_fewestNights 40 = .ok (.if_icmp .gt 67, 3) := by decide +kernel
theorem dX2_fewestNights_43 : decode cX2_fewestNights 43 = .ok (.aload_n 2, 1) := by decide +kernel
theorem dX2_fewestNights_44 : decode cX2_fewestNights 44 = .ok (.getfield 87, 3) := by decide +kernel
theorem dX2_fewestNights_47 : decode cX2_fewestNights 47 = .ok (.iload 5, 2) := by decide +kernel
theorem dX2_fewestNights_49 : decode cX2_fewestNights 49 = .ok (.iadd, 1) := by decide +kernel
theorem dX2_fewestNights_50 : decode cX2_fewestNights 50 = .ok (.sipush 999, 3) := by decide +kernel
theorem dX2_fewestNights_53 : decode cX2_fewestNights 53 = .ok (.if_icmp .gt 54, 3) := by decide +kernel
theorem dX2_fewestNights_56 : decode cX2_fewestNights 56 = .ok (.aload_n 0, 1) := by decide +kernel
theorem dX2_fewestNights_57 : decode cX2_fewestNights 57 = .ok (.iload_n 3, 1) := by decide +kernel
theorem dX2_fewestNights_58 : decode cX2_fewestNights 58 = .ok (.invokevirtual 47, 3) := by decide +kernel
theorem dX2_fewestNights_61 : decode cX2_fewestNights 61 = .ok (.bipush (-9), 2) := by decide +kernel
theorem dX2_fewestNights_63 : decode cX2_fewestNights 63 = .ok (.if_icmp .eq 6, 3) := by decide +kernel
theorem dX2_fewestNights_66 : decode cX2_fewestNights 66 = .ok (.iload 5, 2) := by decide +kernel
theorem dX2_fewestNights_68 : decode cX2_fewestNights 68 = .ok (.ireturn, 1) := by decide +kernel
theorem dX2_fewestNights_69 : decode cX2_fewestNights 69 = .ok (.aload_n 0, 1) := by decide +kernel
theorem dX2_fewestNights_70 : decode cX2_fewestNights 70 = .ok (.aload_n 1, 1) := by decide +kernel
theorem dX2_fewestNights_71 : decode cX2_fewestNights 71 = .ok (.invokevirtual 90, 3) := by decide +kernel
theorem dX2_fewestNights_74 : decode cX2_fewestNights 74 = .ok (.istore 6, 2) := by decide +kernel
theorem dX2_fewestNights_76 : decode cX2_fewestNights 76 = .ok (.iload 6, 2) := by decide +kernel
theorem dX2_fewestNights_78 : decode cX2_fewestNights 78 = .ok (.iload 4, 2) := by decide +kernel
theorem dX2_fewestNights_80 : decode cX2_fewestNights 80 = .ok (.if_icmp .ne 6, 3) := by decide +kernel
theorem dX2_fewestNights_83 : decode cX2_fewestNights 83 = .ok (.bipush (-9), 2) := by decide +kernel
theorem dX2_fewestNights_85 : decode cX2_fewestNights 85 = .ok (.ireturn, 1) := by decide +kernel
theorem dX2_fewestNights_86 : decode cX2_fewestNights 86 = .ok (.iload 6, 2) := by decide +kernel
theorem dX2_fewestNights_88 : decode cX2_fewestNights 88 = .ok (.istore 4, 2) := by decide +kernel
theorem dX2_fewestNights_90 : decode cX2_fewestNights 90 = .ok (.aload_n 0, 1) := by decide +kernel
theorem dX2_fewestNights_91 : decode cX2_fewestNights 91 = .ok (.aload_n 1, 1) := by decide +kernel
theorem dX2_fewestNights_92 : decode cX2_fewestNights 92 = .ok (.iload 4, 2) := by decide +kernel
theorem dX2_fewestNights_94 : decode cX2_fewestNights 94 = .ok (.aload_n 1, 1) := by decide +kernel
theorem dX2_fewestNights_95 : decode cX2_fewestNights 95 = .ok (.getfield 81, 3) := by decide +kernel
theorem dX2_fewestNights_98 : decode cX2_fewestNights 98 = .ok (.invokevirtual 40, 3) := by decide +kernel
theorem dX2_fewestNights_101 : decode cX2_fewestNights 101 = .ok (.iinc 5 1, 3) := by decide +kernel
theorem dX2_fewestNights_104 : decode cX2_fewestNights 104 = .ok (.goto (-68), 3) := by decide +kernel
theorem dX2_fewestNights_107 : decode cX2_fewestNights 107 = .ok (.bipush (-9), 2) := by decide +kernel
theorem dX2_fewestNights_109 : decode cX2_fewestNights 109 = .ok (.ireturn, 1) := by decide +kernel
set_option maxRecDepth 20000 in
theorem ggX2_keepDry_X1_leaksOf : GoodIn wsX2_keepDry wsX1_leaksOf := goodIn_r _ [6, 7, 8, 9, 10, 4, 11, 12, 13, 14, 15, 16, 17, 18, 19, 20, 21, 22, 23, 29, 30, 31, 32, 33, 34, 35, 36, 37, 38, 39] (by decide +kernel) (by decide +kernel)
set_option maxRecDepth 20000 in
theorem gX2_keepDry_X1_leaksOf_n94 : GoodIn wsX2_keepDry (wsX1_leaksOf) := ggX2_keepDry_X1_leaksOf
theorem dX2_keepDry_0 : decode cX2_keepDry 0 = .ok (.iconst 0, 1) := by decide +kernel
theorem dX2_keepDry_1 : decode cX2_keepDry 1 = .ok (.istore_n 2, 1) := by decide +kernel
theorem dX2_keepDry_2 : decode cX2_keepDry 2 = .ok (.iconst 0, 1) := by decide +kernel
theorem dX2_keepDry_3 : decode cX2_keepDry 3 = .ok (.istore_n 3, 1) := by decide +kernel
theorem dX2_keepDry_4 : decode cX2_keepDry 4 = .ok (.iload_n 3, 1) := by decide +kernel
theorem dX2_keepDry_5 : decode cX2_keepDry 5 = .ok (.aload_n 0, 1) := by decide +kernel
theorem dX2_keepDry_6 : decode cX2_keepDry 6 = .ok (.getfield 44, 3) := by decide +kernel
theorem dX2_keepDry_9 : decode cX2_keepDry 9 = .ok (.if_icmp .ge 44, 3) := by decide +kernel
theorem dX2_keepDry_12 : decode cX2_keepDry 12 = .ok (.iload_n 3, 1) := by decide +kernel
theorem dX2_keepDry_13 : decode cX2_keepDry 13 = .ok (.sipush 3394, 3) := by decide +kernel
theorem dX2_keepDry_16 : decode cX2_keepDry 16 = .ok (.if_icmp .ge 37, 3) := by decide +kernel
theorem dX2_keepDry_19 : decode cX2_keepDry 19 = .ok (.aload_n 1, 1) := by decide +kernel
theorem dX2_keepDry_20 : decode cX2_keepDry 20 = .ok (.aload_n 0, 1) := by decide +kernel
theorem dX2_keepDry_21 : decode cX2_keepDry 21 = .ok (.getfield 19, 3) := by decide +kernel
theorem dX2_keepDry_24 : decode cX2_keepDry 24 = .ok (.iload_n 3, 1) := by decide +kernel
theorem dX2_keepDry_25 : decode cX2_keepDry 25 = .ok (.iaload, 1) := by decide +kernel
theorem dX2_keepDry_26 : decode cX2_keepDry 26 = .ok (.invokevirtual 94, 3) := by decide +kernel
theorem dX2_keepDry_29 : decode cX2_keepDry 29 = .ok (.ifCond .ne 18, 3) := by decide +kernel
theorem dX2_keepDry_32 : decode cX2_keepDry 32 = .ok (.aload_n 0, 1) := by decide +kernel
theorem dX2_keepDry_33 : decode cX2_keepDry 33 = .ok (.getfield 19, 3) := by decide +kernel
theorem dX2_keepDry_36 : decode cX2_keepDry 36 = .ok (.iload_n 2, 1) := by decide +kernel
theorem dX2_keepDry_37 : decode cX2_keepDry 37 = .ok (.aload_n 0, 1) := by decide +kernel
theorem dX2_keepDry_38 : decode cX2_keepDry 38 = .ok (.getfield 19, 3) := by decide +kernel
theorem dX2_keepDry_41 : decode cX2_keepDry 41 = .ok (.iload_n 3, 1) := by decide +kernel
theorem dX2_keepDry_42 : decode cX2_keepDry 42 = .ok (.iaload, 1) := by decide +kernel
theorem dX2_keepDry_43 : decode cX2_keepDry 43 = .ok (.iastore, 1) := by decide +kernel
theorem dX2_keepDry_44 : decode cX2_keepDry 44 = .ok (.iinc 2 1, 3) := by decide +kernel
theorem dX2_keepDry_47 : decode cX2_keepDry 47 = .ok (.iinc 3 1, 3) := by decide +kernel
theorem dX2_keepDry_50 : decode cX2_keepDry 50 = .ok (.goto (-46), 3) := by decide +kernel
theorem dX2_keepDry_53 : decode cX2_keepDry 53 = .ok (.iload_n 2, 1) := by decide +kernel
theorem dX2_keepDry_54 : decode cX2_keepDry 54 = .ok (.ireturn, 1) := by decide +kernel
set_option maxRecDepth 20000 in
theorem ggX2_actsToEmpty_X2_survey : GoodIn wsX2_actsToEmpty wsX2_survey := goodIn_r _ [7, 8, 9, 10, 11, 12, 13, 14, 15, 16, 17, 18, 19, 20, 21, 22, 23, 24, 25, 26, 27, 28, 29, 30, 31, 32, 33, 34, 35, 36, 37, 38, 39, 40, 41, 42, 43, 44, 45, 46, 76, 77, 78, 79, 80, 81, 82, 83, 84, 85, 86, 87, 88, 89, 90, 91] (by decide +kernel) (by decide +kernel)
set_option maxRecDepth 20000 in
theorem gX2_actsToEmpty_X2_survey : GoodIn wsX2_actsToEmpty (wsV RX2 68 RX2 yX2_survey wsX2_survey) := goodIn_app (goodIn_of _ (by decide +kernel)) ggX2_actsToEmpty_X2_survey
set_option maxRecDepth 20000 in
theorem ggX2_actsToEmpty_X2_spreadFrom : GoodIn wsX2_actsToEmpty wsX2_spreadFrom := goodIn_r _ [50, 2, 51, 52, 53, 6, 54, 55, 1, 56, 57, 58, 59, 60, 61, 62, 63, 24, 11, 25, 64, 65, 66, 67, 10, 12, 68, 69, 70, 71, 72, 73, 74, 75, 9, 76, 77, 78, 79, 80, 81, 82, 83, 84, 85, 86, 87, 88, 89, 90, 91] (by decide +kernel) (by decide +kernel)
set_option maxRecDepth 20000 in
theorem gX2_actsToEmpty_X2_spreadFrom : GoodIn wsX2_actsToEmpty (wsV RX2 72 RX2 yX2_spreadFrom wsX2_spreadFrom) := goodIn_app (goodIn_of _ (by decide +kernel)) ggX2_actsToEmpty_X2_spreadFrom
set_option maxRecDepth 20000 in
theorem ggX2_actsToEmpty_X1_slotsUnder : GoodIn wsX2_actsToEmpty wsX1_slotsUnder := goodIn_r _ [29, 18, 30, 24, 11, 25, 81, 82, 83, 84, 85, 86, 87, 88, 89, 90, 91] (by decide +kernel) (by decide +kernel)
set_option maxRecDepth 20000 in
theorem gX2_actsToEmpty_X1_slotsUnder_n97 : GoodIn wsX2_actsToEmpty (wsX1_slotsUnder) := ggX2_actsToEmpty_X1_slotsUnder
set_option maxRecDepth 20000 in
theorem ggX2_actsToEmpty_X2_farTo : GoodIn wsX2_actsToEmpty wsX2_farTo := goodIn_r _ [59, 55, 76, 77, 78, 79, 80] (by decide +kernel) (by decide +kernel)
set_option maxRecDepth 20000 in
theorem gX2_actsToEmpty_X2_farTo : GoodIn wsX2_actsToEmpty (wsV RX2 47 RX2 yX2_farTo wsX2_farTo) := goodIn_app (goodIn_of _ (by decide +kernel)) ggX2_actsToEmpty_X2_farTo
theorem dX2_actsToEmpty_0 : decode cX2_actsToEmpty 0 = .ok (.aload_n 0, 1) := by decide +kernel
theorem dX2_actsToEmpty_1 : decode cX2_actsToEmpty 1 = .ok (.aload_n 1, 1) := by decide +kernel
theorem dX2_actsToEmpty_2 : decode cX2_actsToEmpty 2 = .ok (.invokevirtual 68, 3) := by decide +kernel
theorem dX2_actsToEmpty_5 : decode cX2_actsToEmpty 5 = .ok (.aload_n 0, 1) := by decide +kernel
theorem dX2_actsToEmpty_6 : decode cX2_actsToEmpty 6 = .ok (.aload_n 1, 1) := by decide +kernel
theorem dX2_actsToEmpty_7 : decode cX2_actsToEmpty 7 = .ok (.iload_n 2, 1) := by decide +kernel
theorem dX2_actsToEmpty_8 : decode cX2_actsToEmpty 8 = .ok (.invokevirtual 72, 3) := by decide +kernel
theorem dX2_actsToEmpty_11 : decode cX2_actsToEmpty 11 = .ok (.iconst 0, 1) := by decide +kernel
theorem dX2_actsToEmpty_12 : decode cX2_actsToEmpty 12 = .ok (.istore 4, 2) := by decide +kernel
theorem dX2_actsToEmpty_14 : decode cX2_actsToEmpty 14 = .ok (.iload 4, 2) := by decide +kernel
theorem dX2_actsToEmpty_16 : decode cX2_actsToEmpty 16 = .ok (.aload_n 0, 1) := by decide +kernel
theorem dX2_actsToEmpty_17 : decode cX2_actsToEmpty 17 = .ok (.getfield 44, 3) := by decide +kernel
theorem dX2_actsToEmpty_20 : decode cX2_actsToEmpty 20 = .ok (.if_icmp .ge 47, 3) := by decide +kernel
theorem dX2_actsToEmpty_23 : decode cX2_actsToEmpty 23 = .ok (.iload 4, 2) := by decide +kernel
theorem dX2_actsToEmpty_25 : decode cX2_actsToEmpty 25 = .ok (.sipush 3394, 3) := by decide +kernel
theorem dX2_actsToEmpty_28 : decode cX2_actsToEmpty 28 = .ok (.if_icmp .ge 39, 3) := by decide +kernel
theorem dX2_actsToEmpty_31 : decode cX2_actsToEmpty 31 = .ok (.aload_n 1, 1) := by decide +kernel
theorem dX2_actsToEmpty_32 : decode cX2_actsToEmpty 32 = .ok (.aload_n 0, 1) := by decide +kernel
theorem dX2_actsToEmpty_33 : decode cX2_actsToEmpty 33 = .ok (.getfield 19, 3) := by decide +kernel
theorem dX2_actsToEmpty_36 : decode cX2_actsToEmpty 36 = .ok (.iload 4, 2) := by decide +kernel
theorem dX2_actsToEmpty_38 : decode cX2_actsToEmpty 38 = .ok (.iaload, 1) := by decide +kernel
theorem dX2_actsToEmpty_39 : decode cX2_actsToEmpty 39 = .ok (.bipush 15, 2) := by decide +kernel
theorem dX2_actsToEmpty_41 : decode cX2_actsToEmpty 41 = .ok (.invokevirtual 97, 3) := by decide +kernel
theorem dX2_actsToEmpty_44 : decode cX2_actsToEmpty 44 = .ok (.iload_n 3, 1) := by decide +kernel
theorem dX2_actsToEmpty_45 : decode cX2_actsToEmpty 45 = .ok (.iand, 1) := by decide +kernel
theorem dX2_actsToEmpty_46 : decode cX2_actsToEmpty 46 = .ok (.ifCond .ne 15, 3) := by decide +kernel
theorem dX2_actsToEmpty_49 : decode cX2_actsToEmpty 49 = .ok (.aload_n 0, 1) := by decide +kernel
theorem dX2_actsToEmpty_50 : decode cX2_actsToEmpty 50 = .ok (.aload_n 0, 1) := by decide +kernel
theorem dX2_actsToEmpty_51 : decode cX2_actsToEmpty 51 = .ok (.getfield 19, 3) := by decide +kernel
theorem dX2_actsToEmpty_54 : decode cX2_actsToEmpty 54 = .ok (.iload 4, 2) := by decide +kernel
theorem dX2_actsToEmpty_56 : decode cX2_actsToEmpty 56 = .ok (.iaload, 1) := by decide +kernel
theorem dX2_actsToEmpty_57 : decode cX2_actsToEmpty 57 = .ok (.invokevirtual 47, 3) := by decide +kernel
theorem dX2_actsToEmpty_60 : decode cX2_actsToEmpty 60 = .ok (.ireturn, 1) := by decide +kernel
theorem dX2_actsToEmpty_61 : decode cX2_actsToEmpty 61 = .ok (.iinc 4 1, 3) := by decide +kernel
theorem dX2_actsToEmpty_64 : decode cX2_actsToEmpty 64 = .ok (.goto (-50), 3) := by decide +kernel
theorem dX2_actsToEmpty_67 : decode cX2_actsToEmpty 67 = .ok (.bipush (-9), 2) := by decide +kernel
theorem dX2_actsToEmpty_69 : decode cX2_actsToEmpty 69 = .ok (.ireturn, 1) := by decide +kernel
set_option maxRecDepth 20000 in
theorem ggX2_bestHome_X2_survey : GoodIn wsX2_bestHome wsX2_survey := goodIn_r _ [6, 7, 8, 9, 10, 11, 12, 13, 14, 15, 16, 17, 18, 19, 20, 21, 22, 23, 24, 25, 26, 27, 28, 29, 30, 31, 32, 33, 34, 35, 36, 37, 38, 39, 40, 41, 42, 43, 44, 45, 69, 70, 71, 72, 73, 74, 75, 76, 77, 78, 79, 80, 81, 82, 83, 84] (by decide +kernel) (by decide +kernel)
set_option maxRecDepth 20000 in
theorem gX2_bestHome_X2_survey : GoodIn wsX2_bestHome (wsV RX2 68 RX2 yX2_survey wsX2_survey) := goodIn_app (goodIn_of _ (by decide +kernel)) ggX2_bestHome_X2_survey
set_option maxRecDepth 20000 in
theorem ggX2_bestHome_X2_isLawful : GoodIn wsX2_bestHome wsX2_isLawful := goodIn_r _ [49, 8, 69, 70, 71, 72, 73] (by decide +kernel) (by decide +kernel)
set_option maxRecDepth 20000 in
theorem gX2_bestHome_X2_isLawful : GoodIn wsX2_bestHome (wsV RX2 65 RX2 yX2_isLawful wsX2_isLawful) := goodIn_app (goodIn_of _ (by decide +kernel)) ggX2_bestHome_X2_isLawful
set_option maxRecDepth 20000 in
theorem ggX2_bestHome_X1_worthOf : GoodIn wsX2_bestHome wsX1_worthOf := goodIn_r _ [52, 53, 54, 55, 56, 57, 13, 58, 59, 25, 26, 27, 28, 17, 29, 23, 10, 24, 30, 31, 32, 33, 34, 35, 36, 60, 61, 62, 63, 64, 65, 66, 67, 68, 74, 75, 76, 77, 78, 79, 80, 81, 82, 83, 84] (by decide +kernel) (by decide +kernel)
set_option maxRecDepth 20000 in
theorem gX2_bestHome_X1_worthOf_n101 : GoodIn wsX2_bestHome (wsX1_worthOf) := ggX2_bestHome_X1_worthOf
theorem dX2_bestHome_0 : decode cX2_bestHome 0 = .ok (.aload_n 0, 1) := by decide +kernel
theorem dX2_bestHome_1 : decode cX2_bestHome 1 = .ok (.aload_n 1, 1) := by decide +kernel
theorem dX2_bestHome_2 : decode cX2_bestHome 2 = .ok (.invokevirtual 68, 3) := by decide +kernel
theorem dX2_bestHome_5 : decode cX2_bestHome 5 = .ok (.bipush (-9), 2) := by decide +kernel
theorem dX2_bestHome_7 : decode cX2_bestHome 7 = .ok (.istore_n 2, 1) := by decide +kernel
theorem dX2_bestHome_8 : decode cX2_bestHome 8 = .ok (.ldc 100, 2) := by decide +kernel
theorem dX2_bestHome_10 : decode cX2_bestHome 10 = .ok (.istore_n 3, 1) := by decide +kernel
theorem dX2_bestHome_11 : decode cX2_bestHome 11 = .ok (.iconst 0, 1) := by decide +kernel
theorem dX2_bestHome_12 : decode cX2_bestHome 12 = .ok (.istore 4, 2) := by decide +kernel
theorem dX2_bestHome_14 : decode cX2_bestHome 14 = .ok (.iload 4, 2) := by decide +kernel
theorem dX2_bestHome_16 : decode cX2_bestHome 16 = .ok (.sipush 6561, 3) := by decide +kernel
theorem dX2_bestHome_19 : decode cX2_bestHome 19 = .ok (.if_icmp .ge 43, 3) := by decide +kernel
theorem dX2_bestHome_22 : decode cX2_bestHome 22 = .ok (.aload_n 0, 1) := by decide +kernel
theorem dX2_bestHome_23 : decode cX2_bestHome 23 = .ok (.iload 4, 2) := by decide +kernel
theorem dX2_bestHome_25 : decode cX2_bestHome 25 = .ok (.invokevirtual 65, 3) := by decide +kernel
theorem dX2_bestHome_28 : decode cX2_bestHome 28 = .ok (.ifCond .eq 12, 3) := by decide +kernel
theorem dX2_bestHome_31 : decode cX2_bestHome 31 = .ok (.aload_n 1, 1) := by decide +kernel
theorem dX2_bestHome_32 : decode cX2_bestHome 32 = .ok (.iload 4, 2) := by decide +kernel
theorem dX2_bestHome_34 : decode cX2_bestHome 34 = .ok (.invokevirtual 101, 3) := by decide +kernel
theorem dX2_bestHome_37 : decode cX2_bestHome 37 = .ok (.goto 5, 3) := by decide +kernel
theorem dX2_bestHome_40 : decode cX2_bestHome 40 = .ok (.ldc 100, 2) := by decide +kernel
theorem dX2_bestHome_42 : decode cX2_bestHome 42 = .ok (.istore 5, 2) := by decide +kernel
theorem dX2_bestHome_44 : decode cX2_bestHome 44 = .ok (.iload 5, 2) := by decide +kernel
theorem dX2_bestHome_46 : decode cX2_bestHome 46 = .ok (.iload_n 3, 1) := by decide +kernel
theorem dX2_bestHome_47 : decode cX2_bestHome 47 = .ok (.if_icmp .le 9, 3) := by decide +kernel
theorem dX2_bestHome_50 : decode cX2_bestHome 50 = .ok (.iload 5, 2) := by decide +kernel
theorem dX2_bestHome_52 : decode cX2_bestHome 52 = .ok (.istore_n 3, 1) := by decide +kernel
theorem dX2_bestHome_53 : decode cX2_bestHome 53 = .ok (.iload 4, 2) := by decide +kernel
theorem dX2_bestHome_55 : decode cX2_bestHome 55 = .ok (.istore_n 2, 1) := by decide +kernel
theorem dX2_bestHome_56 : decode cX2_bestHome 56 = .ok (.iinc 4 1, 3) := by decide +kernel
theorem dX2_bestHome_59 : decode cX2_bestHome 59 = .ok (.goto (-45), 3) := by decide +kernel
theorem dX2_bestHome_62 : decode cX2_bestHome 62 = .ok (.iload_n 2, 1) := by decide +kernel
theorem dX2_bestHome_63 : decode cX2_bestHome 63 = .ok (.ireturn, 1) := by decide +kernel
set_option maxRecDepth 20000 in
theorem ggX2_countFitting_X2_survey : GoodIn wsX2_countFitting wsX2_survey := goodIn_r _ [5, 6, 7, 8, 9, 10, 11, 12, 13, 14, 15, 16, 17, 18, 19, 20, 21, 22, 23, 24, 25, 26, 27, 28, 29, 30, 31, 32, 33, 34, 35, 36, 37, 38, 39, 40, 41, 42, 43, 44, 57, 58, 59, 60, 61, 62, 63, 64, 65, 66, 67, 68, 69, 70, 71, 72] (by decide +kernel) (by decide +kernel)
set_option maxRecDepth 20000 in
theorem gX2_countFitting_X2_survey : GoodIn wsX2_countFitting (wsV RX2 68 RX2 yX2_survey wsX2_survey) := goodIn_app (goodIn_of _ (by decide +kernel)) ggX2_countFitting_X2_survey
set_option maxRecDepth 20000 in
theorem ggX2_countFitting_X2_isLawful : GoodIn wsX2_countFitting wsX2_isLawful := goodIn_r _ [48, 7, 57, 58, 59, 60, 61] (by decide +kernel) (by decide +kernel)
set_option maxRecDepth 20000 in
theorem gX2_countFitting_X2_isLawful : GoodIn wsX2_countFitting (wsV RX2 65 RX2 yX2_isLawful wsX2_isLawful) := goodIn_app (goodIn_of _ (by decide +kernel)) ggX2_countFitting_X2_isLawful
set_option maxRecDepth 20000 in
theorem ggX2_countFitting_X1_fitsLetter : GoodIn wsX2_countFitting wsX1_fitsLetter := goodIn_r _ [51, 52, 53, 54, 12, 55, 56, 24, 25, 26, 27, 16, 28, 22, 9, 23, 73, 74, 75, 76, 77, 78, 79, 80, 62, 63, 64, 65, 66, 67, 68, 69, 70, 71, 72] (by decide +kernel) (by decide +kernel)
set_option maxRecDepth 20000 in
theorem gX2_countFitting_X1_fitsLetter_n104 : GoodIn wsX2_countFitting (wsX1_fitsLetter) := ggX2_countFitting_X1_fitsLetter
theorem dX2_countFitting_0 : decode cX2_countFitting 0 = .ok (.aload_n 0, 1) := by decide +kernel
theorem dX2_countFitting_1 : decode cX2_countFitting 1 = .ok (.aload_n 1, 1) := by decide +kernel
theorem dX2_countFitting_2 : decode cX2_countFitting 2 = .ok (.invokevirtual 68, 3) := by decide +kernel
theorem dX2_countFitting_5 : decode cX2_countFitting 5 = .ok (.iconst 0, 1) := by decide +kernel
theorem dX2_countFitting_6 : decode cX2_countFitting 6 = .ok (.istore_n 3, 1) := by decide +kernel
theorem dX2_countFitting_7 : decode cX2_countFitting 7 = .ok (.iconst 0, 1) := by decide +kernel
theorem dX2_countFitting_8 : decode cX2_countFitting 8 = .ok (.istore 4, 2) := by decide +kernel
theorem dX2_countFitting_10 : decode cX2_countFitting 10 = .ok (.iload 4, 2) := by decide +kernel
theorem dX2_countFitting_12 : decode cX2_countFitting 12 = .ok (.sipush 6561, 3) := by decide +kernel
theorem dX2_countFitting_15 : decode cX2_countFitting 15 = .ok (.if_icmp .ge 31, 3) := by decide +kernel
theorem dX2_countFitting_18 : decode cX2_countFitting 18 = .ok (.aload_n 0, 1) := by decide +kernel
theorem dX2_countFitting_19 : decode cX2_countFitting 19 = .ok (.iload 4, 2) := by decide +kernel
theorem dX2_countFitting_21 : decode cX2_countFitting 21 = .ok (.invokevirtual 65, 3) := by decide +kernel
theorem dX2_countFitting_24 : decode cX2_countFitting 24 = .ok (.ifCond .eq 16, 3) := by decide +kernel
theorem dX2_countFitting_27 : decode cX2_countFitting 27 = .ok (.aload_n 1, 1) := by decide +kernel
theorem dX2_countFitting_28 : decode cX2_countFitting 28 = .ok (.iload 4, 2) := by decide +kernel
theorem dX2_countFitting_30 : decode cX2_countFitting 30 = .ok (.aload_n 2, 1) := by decide +kernel
theorem dX2_countFitting_31 : decode cX2_countFitting 31 = .ok (.invokevirtual 104, 3) := by decide +kernel
theorem dX2_countFitting_34 : decode cX2_countFitting 34 = .ok (.ifCond .eq 6, 3) := by decide +kernel
theorem dX2_countFitting_37 : decode cX2_countFitting 37 = .ok (.iinc 3 1, 3) := by decide +kernel
theorem dX2_countFitting_40 : decode cX2_countFitting 40 = .ok (.iinc 4 1, 3) := by decide +kernel
theorem dX2_countFitting_43 : decode cX2_countFitting 43 = .ok (.goto (-33), 3) := by decide +kernel
theorem dX2_countFitting_46 : decode cX2_countFitting 46 = .ok (.iload_n 3, 1) := by decide +kernel
theorem dX2_countFitting_47 : decode cX2_countFitting 47 = .ok (.ireturn, 1) := by decide +kernel
set_option maxRecDepth 20000 in
theorem ggX2_surePlace_X2_survey : GoodIn wsX2_surePlace wsX2_survey := goodIn_r _ [5, 6, 7, 8, 9, 10, 11, 12, 13, 14, 15, 16, 17, 18, 19, 20, 21, 22, 23, 24, 25, 26, 27, 28, 29, 30, 31, 32, 33, 34, 35, 36, 37, 38, 39, 40, 41, 42, 43, 44, 57, 58, 59, 60, 61, 62, 63, 64, 65, 66, 67, 68, 69, 70, 71, 72] (by decide +kernel) (by decide +kernel)
set_option maxRecDepth 20000 in
theorem gX2_surePlace_X2_survey : GoodIn wsX2_surePlace (wsV RX2 68 RX2 yX2_survey wsX2_survey) := goodIn_app (goodIn_of _ (by decide +kernel)) ggX2_surePlace_X2_survey
set_option maxRecDepth 20000 in
theorem ggX2_surePlace_X2_isLawful : GoodIn wsX2_surePlace wsX2_isLawful := goodIn_r _ [48, 7, 57, 58, 59, 60, 61] (by decide +kernel) (by decide +kernel)
set_option maxRecDepth 20000 in
theorem gX2_surePlace_X2_isLawful : GoodIn wsX2_surePlace (wsV RX2 65 RX2 yX2_isLawful wsX2_isLawful) := goodIn_app (goodIn_of _ (by decide +kernel)) ggX2_surePlace_X2_isLawful
set_option maxRecDepth 20000 in
theorem ggX2_surePlace_X1_fitsLetter : GoodIn wsX2_surePlace wsX1_fitsLetter := goodIn_r _ [51, 52, 53, 54, 12, 55, 56, 24, 25, 26, 27, 16, 28, 22, 9, 23, 73, 74, 75, 76, 77, 78, 79, 80, 62, 63, 64, 65, 66, 67, 68, 69, 70, 71, 72] (by decide +kernel) (by decide +kernel)
set_option maxRecDepth 20000 in
theorem gX2_surePlace_X1_fitsLetter_n104 : GoodIn wsX2_surePlace (wsX1_fitsLetter) := ggX2_surePlace_X1_fitsLetter
set_option maxRecDepth 20000 in
theorem ggX2_surePlace_X4_placeIn : GoodIn wsX2_surePlace wsX4_placeIn := goodIn_r _ [23] (by decide +kernel) (by decide +kernel)
set_option maxRecDepth 20000 in
theorem gX2_surePlace_X4_placeIn_n53 : GoodIn wsX2_surePlace (wsX4_placeIn) := ggX2_surePlace_X4_placeIn
theorem dX2_surePlace_0 : decode cX2_surePlace 0 = .ok (.aload_n 0, 1) := by decide +kernel
theorem dX2_surePlace_1 : decode cX2_surePlace 1 = .ok (.aload_n 1, 1) := by decide +kernel
theorem dX2_surePlace_2 : decode cX2_surePlace 2 = .ok (.invokevirtual 68, 3) := by decide +kernel
theorem dX2_surePlace_5 : decode cX2_surePlace 5 = .ok (.bipush (-9), 2) := by decide +kernel
theorem dX2_surePlace_7 : decode cX2_surePlace 7 = .ok (.istore 4, 2) := by decide +kernel
theorem dX2_surePlace_9 : decode cX2_surePlace 9 = .ok (.iconst 0, 1) := by decide +kernel
theorem dX2_surePlace_10 : decode cX2_surePlace 10 = .ok (.istore 5, 2) := by decide +kernel
theorem dX2_surePlace_12 : decode cX2_surePlace 12 = .ok (.iload 5, 2) := by decide +kernel
theorem dX2_surePlace_14 : decode cX2_surePlace 14 = .ok (.sipush 6561, 3) := by decide +kernel
theorem dX2_surePlace_17 : decode cX2_surePlace 17 = .ok (.if_icmp .ge 57, 3) := by decide +kernel
theorem dX2_surePlace_20 : decode cX2_surePlace 20 = .ok (.aload_n 0, 1) := by decide +kernel
theorem dX2_surePlace_21 : decode cX2_surePlace 21 = .ok (.iload 5, 2) := by decide +kernel
theorem dX2_surePlace_23 : decode cX2_surePlace 23 = .ok (.invokevirtual 65, 3) := by decide +kernel
theorem dX2_surePlace_26 : decode cX2_surePlace 26 = .ok (.ifCond .eq 42, 3) := by decide +kernel
theorem dX2_surePlace_29 : decode cX2_surePlace 29 = .ok (.aload_n 1, 1) := by decide +kernel
theorem dX2_surePlace_30 : decode cX2_surePlace 30 = .ok (.iload 5, 2) := by decide +kernel
theorem dX2_surePlace_32 : decode cX2_surePlace 32 = .ok (.aload_n 2, 1) := by decide +kernel
theorem dX2_surePlace_33 : decode cX2_surePlace 33 = .ok (.invokevirtual 104, 3) := by decide +kernel
theorem dX2_surePlace_36 : decode cX2_surePlace 36 = .ok (.ifCond .eq 32, 3) := by decide +kernel
theorem dX2_surePlace_39 : decode cX2_surePlace 39 = .ok (.iload 5, 2) := by decide +kernel
theorem dX2_surePlace_41 : decode cX2_surePlace 41 = .ok (.iload_n 3, 1) := by decide +kernel
theorem dX2_surePlace_42 : decode cX2_surePlace 42 = .ok (.invokestatic 53, 3) := by decide +kernel
theorem dX2_surePlace_45 : decode cX2_surePlace 45 = .ok (.istore 6, 2) := by decide +kernel
theorem dX2_surePlace_47 : decode cX2_surePlace 47 = .ok (.iload 4, 2) := by decide +kernel
theorem dX2_surePlace_49 : decode cX2_surePlace 49 = .ok (.bipush (-9), 2) := by decide +kernel
theorem dX2_surePlace_51 : decode cX2_surePlace 51 = .ok (.if_icmp .eq 13, 3) := by decide +kernel
theorem dX2_surePlace_54 : decode cX2_surePlace 54 = .ok (.iload 4, 2) := by decide +kernel
theorem dX2_surePlace_56 : decode cX2_surePlace 56 = .ok (.iload 6, 2) := by decide +kernel
theorem dX2_surePlace_58 : decode cX2_surePlace 58 = .ok (.if_icmp .eq 6, 3) := by decide +kernel
theorem dX2_surePlace_61 : decode cX2_surePlace 61 = .ok (.bipush (-9), 2) := by decide +kernel
theorem dX2_surePlace_63 : decode cX2_surePlace 63 = .ok (.ireturn, 1) := by decide +kernel
theorem dX2_surePlace_64 : decode cX2_surePlace 64 = .ok (.iload 6, 2) := by decide +kernel
theorem dX2_surePlace_66 : decode cX2_surePlace 66 = .ok (.istore 4, 2) := by decide +kernel
theorem dX2_surePlace_68 : decode cX2_surePlace 68 = .ok (.iinc 5 1, 3) := by decide +kernel
theorem dX2_surePlace_71 : decode cX2_surePlace 71 = .ok (.goto (-59), 3) := by decide +kernel
theorem dX2_surePlace_74 : decode cX2_surePlace 74 = .ok (.iload 4, 2) := by decide +kernel
theorem dX2_surePlace_76 : decode cX2_surePlace 76 = .ok (.ireturn, 1) := by decide +kernel
end
section
theorem dX3_init_0 : decode cX3_init 0 = .ok (.aload_n 0, 1) := by decide +kernel
theorem dX3_init_1 : decode cX3_init 1 = .ok (.invokespecial 3, 3) := by decide +kernel
theorem dX3_init_4 : decode cX3_init 4 = .ok (.aload_n 0, 1) := by decide +kernel
theorem dX3_init_5 : decode cX3_init 5 = .ok (.sipush 200, 3) := by decide +kernel
theorem dX3_init_8 : decode cX3_init 8 = .ok (.newarray .int, 2) := by decide +kernel
theorem dX3_init_10 : decode cX3_init 10 = .ok (.putfield 11, 3) := by decide +kernel
theorem dX3_init_13 : decode cX3_init 13 = .ok (.return_, 1) := by decide +kernel
theorem dX3_append_0 : decode cX3_append 0 = .ok (.aload_n 0, 1) := by decide +kernel
theorem dX3_append_1 : decode cX3_append 1 = .ok (.getfield 15, 3) := by decide +kernel
theorem dX3_append_4 : decode cX3_append 4 = .ok (.ifCond .lt 35, 3) := by decide +kernel
theorem dX3_append_7 : decode cX3_append 7 = .ok (.aload_n 0, 1) := by decide +kernel
theorem dX3_append_8 : decode cX3_append 8 = .ok (.getfield 15, 3) := by decide +kernel
theorem dX3_append_11 : decode cX3_append 11 = .ok (.aload_n 0, 1) := by decide +kernel
theorem dX3_append_12 : decode cX3_append 12 = .ok (.getfield 11, 3) := by decide +kernel
theorem dX3_append_15 : decode cX3_append 15 = .ok (.arraylength, 1) := by decide +kernel
theorem dX3_append_16 : decode cX3_append 16 = .ok (.if_icmp .ge 23, 3) := by decide +kernel
theorem dX3_append_19 : decode cX3_append 19 = .ok (.aload_n 0, 1) := by decide +kernel
theorem dX3_append_20 : decode cX3_append 20 = .ok (.getfield 11, 3) := by decide +kernel
theorem dX3_append_23 : decode cX3_append 23 = .ok (.aload_n 0, 1) := by decide +kernel
theorem dX3_append_24 : decode cX3_append 24 = .ok (.getfield 15, 3) := by decide +kernel
theorem dX3_append_27 : decode cX3_append 27 = .ok (.iload_n 1, 1) := by decide +kernel
theorem dX3_append_28 : decode cX3_append 28 = .ok (.iastore, 1) := by decide +kernel
theorem dX3_append_29 : decode cX3_append 29 = .ok (.aload_n 0, 1) := by decide +kernel
theorem dX3_append_30 : decode cX3_append 30 = .ok (.dup, 1) := by decide +kernel
theorem dX3_append_31 : decode cX3_append 31 = .ok (.getfield 15, 3) := by decide +kernel
theorem dX3_append_34 : decode cX3_append 34 = .ok (.iconst 1, 1) := by decide +kernel
theorem dX3_append_35 : decode cX3_append 35 = .ok (.iadd, 1) := by decide +kernel
theorem dX3_append_36 : decode cX3_append 36 = .ok (.putfield 15, 3) := by decide +kernel
theorem dX3_append_39 : decode cX3_append 39 = .ok (.return_, 1) := by decide +kernel
theorem dX3_byteAt_0 : decode cX3_byteAt 0 = .ok (.iload_n 1, 1) := by decide +kernel
theorem dX3_byteAt_1 : decode cX3_byteAt 1 = .ok (.ifCond .lt 29, 3) := by decide +kernel
theorem dX3_byteAt_4 : decode cX3_byteAt 4 = .ok (.iload_n 1, 1) := by decide +kernel
theorem dX3_byteAt_5 : decode cX3_byteAt 5 = .ok (.aload_n 0, 1) := by decide +kernel
theorem dX3_byteAt_6 : decode cX3_byteAt 6 = .ok (.getfield 15, 3) := by decide +kernel
theorem dX3_byteAt_9 : decode cX3_byteAt 9 = .ok (.if_icmp .ge 21, 3) := by decide +kernel
theorem dX3_byteAt_12 : decode cX3_byteAt 12 = .ok (.iload_n 1, 1) := by decide +kernel
theorem dX3_byteAt_13 : decode cX3_byteAt 13 = .ok (.aload_n 0, 1) := by decide +kernel
theorem dX3_byteAt_14 : decode cX3_byteAt 14 = .ok (.getfield 11, 3) := by decide +kernel
theorem dX3_byteAt_17 : decode cX3_byteAt 17 = .ok (.arraylength, 1) := by decide +kernel
theorem dX3_byteAt_18 : decode cX3_byteAt 18 = .ok (.if_icmp .ge 12, 3) := by decide +kernel
theorem dX3_byteAt_21 : decode cX3_byteAt 21 = .ok (.aload_n 0, 1) := by decide +kernel
theorem dX3_byteAt_22 : decode cX3_byteAt 22 = .ok (.getfield 11, 3) := by decide +kernel
theorem dX3_byteAt_25 : decode cX3_byteAt 25 = .ok (.iload_n 1, 1) := by decide +kernel
theorem dX3_byteAt_26 : decode cX3_byteAt 26 = .ok (.iaload, 1) := by decide +kernel
theorem dX3_byteAt_27 : decode cX3_byteAt 27 = .ok (.goto 4, 3) := by decide +kernel
theorem dX3_byteAt_30 : decode cX3_byteAt 30 = .ok (.iconst (-1), 1) := by decide +kernel
theorem dX3_byteAt_31 : decode cX3_byteAt 31 = .ok (.ireturn, 1) := by decide +kernel
set_option maxRecDepth 20000 in
theorem ggX3_tell_X1_startAnew : GoodIn wsX3_tell wsX1_startAnew := goodIn_r _ [9, 10, 11, 12, 13, 14, 15, 16, 17, 18, 149, 150, 151, 152, 153, 154, 155, 156, 157, 158, 159] (by decide +kernel) (by decide +kernel)
set_option maxRecDepth 20000 in
theorem gX3_tell_X1_startAnew_n19 : GoodIn wsX3_tell (wsX1_startAnew) := ggX3_tell_X1_startAnew
set_option maxRecDepth 20000 in
theorem ggX3_tell_X3_nextToken : GoodIn wsX3_tell wsX3_nextToken := goodIn_r _ [23, 3, 24, 5, 4, 25, 26, 27, 22, 28, 29, 30, 31, 32, 33, 34, 35, 36, 37, 38, 39, 40, 41, 42, 43, 44, 45, 46, 47, 48, 49, 50, 51, 52, 53, 54, 55, 56, 57, 58, 59, 60, 61, 62, 63, 64, 65, 66, 67, 68, 69, 70, 71, 72, 73, 74, 75, 76, 77, 78, 79, 80, 81, 82, 83, 84, 85, 86, 87, 88, 89, 90, 91, 92, 93, 94, 95, 96, 97, 98, 99, 100, 101, 102, 103, 104, 141, 142, 143, 144, 145, 146, 147, 148] (by decide +kernel) (by decide +kernel)
set_option maxRecDepth 20000 in
theorem gX3_tell_X3_nextToken : GoodIn wsX3_tell (wsV RX3 34 RX3 yX3_nextToken wsX3_nextToken) := goodIn_app (goodIn_of _ (by decide +kernel)) ggX3_tell_X3_nextToken
set_option maxRecDepth 20000 in
theorem ggX3_tell_X3_tellItem : GoodIn wsX3_tell wsX3_tellItem := goodIn_r _ [108, 4, 37, 109, 110, 111, 22, 112, 1, 2, 19, 20, 21, 23, 3, 24, 5, 25, 26, 27, 28, 29, 30, 31, 32, 33, 34, 35, 36, 38, 39, 40, 41, 42, 43, 44, 45, 46, 47, 48, 49, 50, 51, 52, 53, 54, 55, 56, 57, 58, 59, 60, 61, 62, 63, 64, 65, 66, 67, 68, 69, 70, 71, 72, 73, 74, 75, 76, 77, 78, 79, 80, 81, 82, 83, 84, 85, 86, 87, 88, 89, 90, 91, 92, 93, 94, 95, 96, 97, 98, 99, 100, 101, 102, 103, 104, 113, 114, 115, 116, 117, 118, 119, 7, 120, 121, 10, 122, 123, 124, 125, 126, 127, 128, 129, 130, 131, 132, 133, 12, 134, 135, 136, 137, 138, 11, 139, 140, 141, 142, 143, 144, 145, 146, 147, 148, 149, 150, 151, 152, 153, 154, 155, 156, 157, 158, 159] (by decide +kernel) (by decide +kernel)
set_option maxRecDepth 20000 in
theorem gX3_tell_X3_tellItem : GoodIn wsX3_tell (wsV RX3 40 RX3 yX3_tellItem wsX3_tellItem) := goodIn_app (goodIn_of _ (by decide +kernel)) ggX3_tell_X3_tellItem
theorem dX3_tell_0 : decode cX3_tell 0 = .ok (.aload_n 1, 1) := by decide +kernel
theorem dX3_tell_1 : decode cX3_tell 1 = .ok (.invokevirtual 19, 3) := by decide +kernel
theorem dX3_tell_4 : decode cX3_tell 4 = .ok (.aload_n 0, 1) := by decide +kernel
theorem dX3_tell_5 : decode cX3_tell 5 = .ok (.iconst 0, 1) := by decide +kernel
theorem dX3_tell_6 : decode cX3_tell 6 = .ok (.putfield 24, 3) := by decide +kernel
theorem dX3_tell_9 : decode cX3_tell 9 = .ok (.aload_n 0, 1) := by decide +kernel
theorem dX3_tell_10 : decode cX3_tell 10 = .ok (.iconst 0, 1) := by decide +kernel
theorem dX3_tell_11 : decode cX3_tell 11 = .ok (.putfield 28, 3) := by decide +kernel
theorem dX3_tell_14 : decode cX3_tell 14 = .ok (.aload_n 0, 1) := by decide +kernel
theorem dX3_tell_15 : decode cX3_tell 15 = .ok (.iconst 0, 1) := by decide +kernel
theorem dX3_tell_16 : decode cX3_tell 16 = .ok (.putfield 31, 3) := by decide +kernel
theorem dX3_tell_19 : decode cX3_tell 19 = .ok (.iconst 0, 1) := by decide +kernel
theorem dX3_tell_20 : decode cX3_tell 20 = .ok (.istore_n 2, 1) := by decide +kernel
theorem dX3_tell_21 : decode cX3_tell 21 = .ok (.aload_n 0, 1) := by decide +kernel
theorem dX3_tell_22 : decode cX3_tell 22 = .ok (.invokevirtual 34, 3) := by decide +kernel
theorem dX3_tell_25 : decode cX3_tell 25 = .ok (.iconst 0, 1) := by decide +kernel
theorem dX3_tell_26 : decode cX3_tell 26 = .ok (.istore_n 3, 1) := by decide +kernel
theorem dX3_tell_27 : decode cX3_tell 27 = .ok (.iload_n 3, 1) := by decide +kernel
theorem dX3_tell_28 : decode cX3_tell 28 = .ok (.sipush 200, 3) := by decide +kernel
theorem dX3_tell_31 : decode cX3_tell 31 = .ok (.if_icmp .gt 39, 3) := by decide +kernel
theorem dX3_tell_34 : decode cX3_tell 34 = .ok (.aload_n 0, 1) := by decide +kernel
theorem dX3_tell_35 : decode cX3_tell 35 = .ok (.getfield 37, 3) := by decide +kernel
theorem dX3_tell_38 : decode cX3_tell 38 = .ok (.ifCond .eq 32, 3) := by decide +kernel
theorem dX3_tell_41 : decode cX3_tell 41 = .ok (.aload_n 0, 1) := by decide +kernel
theorem dX3_tell_42 : decode cX3_tell 42 = .ok (.aload_n 1, 1) := by decide +kernel
theorem dX3_tell_43 : decode cX3_tell 43 = .ok (.invokevirtual 40, 3) := by decide +kernel
theorem dX3_tell_46 : decode cX3_tell 46 = .ok (.ifCond .ne 11, 3) := by decide +kernel
theorem dX3_tell_49 : decode cX3_tell 49 = .ok (.bipush (-10), 2) := by decide +kernel
theorem dX3_tell_51 : decode cX3_tell 51 = .ok (.aload_n 0, 1) := by decide +kernel
theorem dX3_tell_52 : decode cX3_tell 52 = .ok (.getfield 44, 3) := by decide +kernel
theorem dX3_tell_55 : decode cX3_tell 55 = .ok (.isub, 1) := by decide +kernel
theorem dX3_tell_56 : decode cX3_tell 56 = .ok (.ireturn, 1) := by decide +kernel
theorem dX3_tell_57 : decode cX3_tell 57 = .ok (.iinc 2 1, 3) := by decide +kernel
theorem dX3_tell_60 : decode cX3_tell 60 = .ok (.aload_n 0, 1) := by decide +kernel
theorem dX3_tell_61 : decode cX3_tell 61 = .ok (.invokevirtual 34, 3) := by decide +kernel
theorem dX3_tell_64 : decode cX3_tell 64 = .ok (.iinc 3 1, 3) := by decide +kernel
theorem dX3_tell_67 : decode cX3_tell 67 = .ok (.goto (-40), 3) := by decide +kernel
theorem dX3_tell_70 : decode cX3_tell 70 = .ok (.iload_n 2, 1) := by decide +kernel
theorem dX3_tell_71 : decode cX3_tell 71 = .ok (.ireturn, 1) := by decide +kernel
set_option maxRecDepth 20000 in
theorem ggX3_tellItem_X3_mayBegin : GoodIn wsX3_tellItem wsX3_mayBegin := goodIn_r _ [7, 8, 9, 136, 137, 138, 139, 140, 141, 142, 143, 144, 145, 146, 128, 129, 130, 131, 132, 133, 134, 135] (by decide +kernel) (by decide +kernel)
set_option maxRecDepth 20000 in
theorem gX3_tellItem_X3_mayBegin : GoodIn wsX3_tellItem (wsV RX3 50 RX3 yX3_mayBegin wsX3_mayBegin) := goodIn_app (goodIn_of _ (by decide +kernel)) ggX3_tellItem_X3_mayBegin
set_option maxRecDepth 20000 in
theorem ggX3_tellItem_X3_nextToken : GoodIn wsX3_tellItem wsX3_nextToken := goodIn_r _ [13, 14, 15, 16, 1, 17, 18, 19, 6, 20, 21, 22, 23, 24, 25, 26, 27, 28, 2, 29, 30, 31, 32, 33, 34, 35, 36, 37, 38, 39, 40, 41, 42, 43, 44, 45, 46, 47, 48, 49, 50, 51, 52, 53, 54, 55, 56, 57, 58, 59, 60, 61, 62, 63, 64, 65, 66, 67, 68, 69, 70, 71, 72, 73, 74, 75, 76, 77, 78, 79, 80, 81, 82, 83, 84, 85, 86, 87, 88, 89, 90, 91, 92, 93, 94, 95, 128, 129, 130, 131, 132, 133, 134, 135] (by decide +kernel) (by decide +kernel)
set_option maxRecDepth 20000 in
theorem gX3_tellItem_X3_nextToken : GoodIn wsX3_tellItem (wsV RX3 34 RX3 yX3_nextToken wsX3_nextToken) := goodIn_app (goodIn_of _ (by decide +kernel)) ggX3_tellItem_X3_nextToken
set_option maxRecDepth 20000 in
theorem ggX3_tellItem_X3_mayBeFirst : GoodIn wsX3_tellItem wsX3_mayBeFirst := goodIn_r _ [98, 99, 100, 101, 102, 103, 104, 105, 106, 107, 108, 136, 137, 138, 139, 140, 141, 142, 143, 144, 145, 146] (by decide +kernel) (by decide +kernel)
set_option maxRecDepth 20000 in
theorem gX3_tellItem_X3_mayBeFirst : GoodIn wsX3_tellItem (va_wsS RX3 54 yX3_mayBeFirst wsX3_mayBeFirst) := goodIn_app (goodIn_of _ (by decide +kernel)) ggX3_tellItem_X3_mayBeFirst
set_option maxRecDepth 20000 in
theorem ggX3_tellItem_X3_apply : GoodIn wsX3_tellItem wsX3_apply := goodIn_r _ [112, 8, 9, 113, 114, 6, 115, 116, 103, 117, 118, 119, 120, 121, 122, 123, 106, 124, 125, 126, 100, 127, 136, 137, 138, 139, 140, 141, 142, 143, 144, 145, 146, 128, 129, 130, 131, 132, 133, 134, 135] (by decide +kernel) (by decide +kernel)
set_option maxRecDepth 20000 in
theorem gX3_tellItem_X3_apply : GoodIn wsX3_tellItem (wsV RX3 58 RX3 yX3_apply wsX3_apply) := goodIn_app (goodIn_of _ (by decide +kernel)) ggX3_tellItem_X3_apply
theorem dX3_tellItem_0 : decode cX3_tellItem 0 = .ok (.aload_n 0, 1) := by decide +kernel
theorem dX3_tellItem_1 : decode cX3_tellItem 1 = .ok (.getfield 37, 3) := by decide +kernel
theorem dX3_tellItem_4 : decode cX3_tellItem 4 = .ok (.iconst 1, 1) := by decide +kernel
theorem dX3_tellItem_5 : decode cX3_tellItem 5 = .ok (.if_icmp .ne 15, 3) := by decide +kernel
theorem dX3_tellItem_8 : decode cX3_tellItem 8 = .ok (.aload_n 0, 1) := by decide +kernel
theorem dX3_tellItem_9 : decode cX3_tellItem 9 = .ok (.aload_n 0, 1) := by decide +kernel
theorem dX3_tellItem_10 : decode cX3_tellItem 10 = .ok (.getfield 47, 3) := by decide +kernel
theorem dX3_tellItem_13 : decode cX3_tellItem 13 = .ok (.aload_n 1, 1) := by decide +kernel
theorem dX3_tellItem_14 : decode cX3_tellItem 14 = .ok (.invokevirtual 50, 3) := by decide +kernel
theorem dX3_tellItem_17 : decode cX3_tellItem 17 = .ok (.ifCond .ne 5, 3) := by decide +kernel
theorem dX3_tellItem_20 : decode cX3_tellItem 20 = .ok (.iconst 0, 1) := by decide +kernel
theorem dX3_tellItem_21 : decode cX3_tellItem 21 = .ok (.ireturn, 1) := by decide +kernel
theorem dX3_tellItem_22 : decode cX3_tellItem 22 = .ok (.aload_n 0, 1) := by decide +kernel
theorem dX3_tellItem_23 : decode cX3_tellItem 23 = .ok (.getfield 47, 3) := by decide +kernel
theorem dX3_tellItem_26 : decode cX3_tellItem 26 = .ok (.istore_n 2, 1) := by decide +kernel
theorem dX3_tellItem_27 : decode cX3_tellItem 27 = .ok (.aload_n 0, 1) := by decide +kernel
theorem dX3_tellItem_28 : decode cX3_tellItem 28 = .ok (.invokevirtual 34, 3) := by decide +kernel
theorem dX3_tellItem_31 : decode cX3_tellItem 31 = .ok (.aload_n 0, 1) := by decide +kernel
theorem dX3_tellItem_32 : decode cX3_tellItem 32 = .ok (.getfield 37, 3) := by decide +kernel
theorem dX3_tellItem_35 : decode cX3_tellItem 35 = .ok (.iconst 2, 1) := by decide +kernel
theorem dX3_tellItem_36 : decode cX3_tellItem 36 = .ok (.if_icmp .ne 15, 3) := by decide +kernel
theorem dX3_tellItem_39 : decode cX3_tellItem 39 = .ok (.iload_n 2, 1) := by decide +kernel
theorem dX3_tellItem_40 : decode cX3_tellItem 40 = .ok (.aload_n 0, 1) := by decide +kernel
theorem dX3_tellItem_41 : decode cX3_tellItem 41 = .ok (.getfield 47, 3) := by decide +kernel
theorem dX3_tellItem_44 : decode cX3_tellItem 44 = .ok (.aload_n 1, 1) := by decide +kernel
theorem dX3_tellItem_45 : decode cX3_tellItem 45 = .ok (.invokestatic 54, 3) := by decide +kernel
theorem dX3_tellItem_48 : decode cX3_tellItem 48 = .ok (.ifCond .ne 5, 3) := by decide +kernel
theorem dX3_tellItem_51 : decode cX3_tellItem 51 = .ok (.iconst 0, 1) := by decide +kernel
theorem dX3_tellItem_52 : decode cX3_tellItem 52 = .ok (.ireturn, 1) := by decide +kernel
theorem dX3_tellItem_53 : decode cX3_tellItem 53 = .ok (.aload_n 0, 1) := by decide +kernel
theorem dX3_tellItem_54 : decode cX3_tellItem 54 = .ok (.getfield 47, 3) := by decide +kernel
theorem dX3_tellItem_57 : decode cX3_tellItem 57 = .ok (.istore_n 3, 1) := by decide +kernel
theorem dX3_tellItem_58 : decode cX3_tellItem 58 = .ok (.iconst 1, 1) := by decide +kernel
theorem dX3_tellItem_59 : decode cX3_tellItem 59 = .ok (.istore 4, 2) := by decide +kernel
theorem dX3_tellItem_61 : decode cX3_tellItem 61 = .ok (.iload_n 2, 1) := by decide +kernel
theorem dX3_tellItem_62 : decode cX3_tellItem 62 = .ok (.iconst 4, 1) := by decide +kernel
theorem dX3_tellItem_63 : decode cX3_tellItem 63 = .ok (.if_icmp .eq 14, 3) := by decide +kernel
theorem dX3_tellItem_66 : decode cX3_tellItem 66 = .ok (.iload_n 2, 1) := by decide +kernel
theorem dX3_tellItem_67 : decode cX3_tellItem 67 = .ok (.iconst 5, 1) := by decide +kernel
theorem dX3_tellItem_68 : decode cX3_tellItem 68 = .ok (.if_icmp .eq 9, 3) := by decide +kernel
theorem dX3_tellItem_71 : decode cX3_tellItem 71 = .ok (.iload_n 2, 1) := by decide +kernel
theorem dX3_tellItem_72 : decode cX3_tellItem 72 = .ok (.bipush 6, 2) := by decide +kernel
theorem dX3_tellItem_74 : decode cX3_tellItem 74 = .ok (.if_icmp .ne 40, 3) := by decide +kernel
theorem dX3_tellItem_77 : decode cX3_tellItem 77 = .ok (.aload_n 0, 1) := by decide +kernel
theorem dX3_tellItem_78 : decode cX3_tellItem 78 = .ok (.invokevirtual 34, 3) := by decide +kernel
theorem dX3_tellItem_81 : decode cX3_tellItem 81 = .ok (.aload_n 0, 1) := by decide +kernel
theorem dX3_tellItem_82 : decode cX3_tellItem 82 = .ok (.getfield 37, 3) := by decide +kernel
theorem dX3_tellItem_85 : decode cX3_tellItem 85 = .ok (.iconst 2, 1) := by decide +kernel
theorem dX3_tellItem_86 : decode cX3_tellItem 86 = .ok (.if_icmp .ne 20, 3) := by decide +kernel
theorem dX3_tellItem_89 : decode cX3_tellItem 89 = .ok (.aload_n 0, 1) := by decide +kernel
theorem dX3_tellItem_90 : decode cX3_tellItem 90 = .ok (.getfield 47, 3) := by decide +kernel
theorem dX3_tellItem_93 : decode cX3_tellItem 93 = .ok (.iconst 1, 1) := by decide +kernel
theorem dX3_tellItem_94 : decode cX3_tellItem 94 = .ok (.if_icmp .lt 12, 3) := by decide +kernel
theorem dX3_tellItem_97 : decode cX3_tellItem 97 = .ok (.aload_n 0, 1) := by decide +kernel
theorem dX3_tellItem_98 : decode cX3_tellItem 98 = .ok (.getfield 47, 3) := by decide +kernel
theorem dX3_tellItem_101 : decode cX3_tellItem 101 = .ok (.bipush 8, 2) := by decide +kernel
theorem dX3_tellItem_103 : decode cX3_tellItem 103 = .ok (.if_icmp .le 5, 3) := by decide +kernel
theorem dX3_tellItem_106 : decode cX3_tellItem 106 = .ok (.iconst 0, 1) := by decide +kernel
theorem dX3_tellItem_107 : decode cX3_tellItem 107 = .ok (.ireturn, 1) := by decide +kernel
theorem dX3_tellItem_108 : decode cX3_tellItem 108 = .ok (.aload_n 0, 1) := by decide +kernel
theorem dX3_tellItem_109 : decode cX3_tellItem 109 = .ok (.getfield 47, 3) := by decide +kernel
theorem dX3_tellItem_112 : decode cX3_tellItem 112 = .ok (.istore 4, 2) := by decide +kernel
theorem dX3_tellItem_114 : decode cX3_tellItem 114 = .ok (.aload_n 0, 1) := by decide +kernel
theorem dX3_tellItem_115 : decode cX3_tellItem 115 = .ok (.invokevirtual 34, 3) := by decide +kernel
theorem dX3_tellItem_118 : decode cX3_tellItem 118 = .ok (.aload_n 0, 1) := by decide +kernel
theorem dX3_tellItem_119 : decode cX3_tellItem 119 = .ok (.getfield 37, 3) := by decide +kernel
theorem dX3_tellItem_122 : decode cX3_tellItem 122 = .ok (.iconst 3, 1) := by decide +kernel
theorem dX3_tellItem_123 : decode cX3_tellItem 123 = .ok (.if_icmp .eq 5, 3) := by decide +kernel
theorem dX3_tellItem_126 : decode cX3_tellItem 126 = .ok (.iconst 0, 1) := by decide +kernel
theorem dX3_tellItem_127 : decode cX3_tellItem 127 = .ok (.ireturn, 1) := by decide +kernel
theorem dX3_tellItem_128 : decode cX3_tellItem 128 = .ok (.aload_n 0, 1) := by decide +kernel
theorem dX3_tellItem_129 : decode cX3_tellItem 129 = .ok (.iload_n 2, 1) := by decide +kernel
theorem dX3_tellItem_130 : decode cX3_tellItem 130 = .ok (.iload_n 3, 1) := by decide +kernel
theorem dX3_tellItem_131 : decode cX3_tellItem 131 = .ok (.iload 4, 2) := by decide +kernel
theorem dX3_tellItem_133 : decode cX3_tellItem 133 = .ok (.aload_n 1, 1) := by decide +kernel
theorem dX3_tellItem_134 : decode cX3_tellItem 134 = .ok (.invokevirtual 58, 3) := by decide +kernel
theorem dX3_tellItem_137 : decode cX3_tellItem 137 = .ok (.iconst 1, 1) := by decide +kernel
theorem dX3_tellItem_138 : decode cX3_tellItem 138 = .ok (.ireturn, 1) := by decide +kernel
theorem dX3_mayBegin_0 : decode cX3_mayBegin 0 = .ok (.iload_n 1, 1) := by decide +kernel
theorem dX3_mayBegin_1 : decode cX3_mayBegin 1 = .ok (.tableswitch 115 4 10 #[43, 57, 57, 59, 74, 89, 102], 43) := by decide +kernel
theorem dX3_mayBegin_44 : decode cX3_mayBegin 44 = .ok (.aload_n 2, 1) := by decide +kernel
theorem dX3_mayBegin_45 : decode cX3_mayBegin 45 = .ok (.getfield 62, 3) := by decide +kernel
theorem dX3_mayBegin_48 : decode cX3_mayBegin 48 = .ok (.iconst 2, 1) := by decide +kernel
theorem dX3_mayBegin_49 : decode cX3_mayBegin 49 = .ok (.if_icmp .ge 7, 3) := by decide +kernel
theorem dX3_mayBegin_52 : decode cX3_mayBegin 52 = .ok (.iconst 1, 1) := by decide +kernel
theorem dX3_mayBegin_53 : decode cX3_mayBegin 53 = .ok (.goto 4, 3) := by decide +kernel
theorem dX3_mayBegin_56 : decode cX3_mayBegin 56 = .ok (.iconst 0, 1) := by decide +kernel
theorem dX3_mayBegin_57 : decode cX3_mayBegin 57 = .ok (.ireturn, 1) := by decide +kernel
theorem dX3_mayBegin_58 : decode cX3_mayBegin 58 = .ok (.iconst 1, 1) := by decide +kernel
theorem dX3_mayBegin_59 : decode cX3_mayBegin 59 = .ok (.ireturn, 1) := by decide +kernel
theorem dX3_mayBegin_60 : decode cX3_mayBegin 60 = .ok (.aload_n 2, 1) := by decide +kernel
theorem dX3_mayBegin_61 : decode cX3_mayBegin 61 = .ok (.getfield 65, 3) := by decide +kernel
theorem dX3_mayBegin_64 : decode cX3_mayBegin 64 = .ok (.bipush (-9), 2) := by decide +kernel
theorem dX3_mayBegin_66 : decode cX3_mayBegin 66 = .ok (.if_icmp .ne 7, 3) := by decide +kernel
theorem dX3_mayBegin_69 : decode cX3_mayBegin 69 = .ok (.iconst 1, 1) := by decide +kernel
theorem dX3_mayBegin_70 : decode cX3_mayBegin 70 = .ok (.goto 4, 3) := by decide +kernel
theorem dX3_mayBegin_73 : decode cX3_mayBegin 73 = .ok (.iconst 0, 1) := by decide +kernel
theorem dX3_mayBegin_74 : decode cX3_mayBegin 74 = .ok (.ireturn, 1) := by decide +kernel
theorem dX3_mayBegin_75 : decode cX3_mayBegin 75 = .ok (.aload_n 2, 1) := by decide +kernel
theorem dX3_mayBegin_76 : decode cX3_mayBegin 76 = .ok (.getfield 68, 3) := by decide +kernel
theorem dX3_mayBegin_79 : decode cX3_mayBegin 79 = .ok (.bipush (-9), 2) := by decide +kernel
theorem dX3_mayBegin_81 : decode cX3_mayBegin 81 = .ok (.if_icmp .ne 7, 3) := by decide +kernel
theorem dX3_mayBegin_84 : decode cX3_mayBegin 84 = .ok (.iconst 1, 1) := by decide +kernel
theorem dX3_mayBegin_85 : decode cX3_mayBegin 85 = .ok (.goto 4, 3) := by decide +kernel
theorem dX3_mayBegin_88 : decode cX3_mayBegin 88 = .ok (.iconst 0, 1) := by decide +kernel
theorem dX3_mayBegin_89 : decode cX3_mayBegin 89 = .ok (.ireturn, 1) := by decide +kernel
theorem dX3_mayBegin_90 : decode cX3_mayBegin 90 = .ok (.aload_n 0, 1) := by decide +kernel
theorem dX3_mayBegin_91 : decode cX3_mayBegin 91 = .ok (.getfield 24, 3) := by decide +kernel
theorem dX3_mayBegin_94 : decode cX3_mayBegin 94 = .ok (.ifCond .ne 7, 3) := by decide +kernel
theorem dX3_mayBegin_97 : decode cX3_mayBegin 97 = .ok (.iconst 1, 1) := by decide +kernel
theorem dX3_mayBegin_98 : decode cX3_mayBegin 98 = .ok (.goto 4, 3) := by decide +kernel
theorem dX3_mayBegin_101 : decode cX3_mayBegin 101 = .ok (.iconst 0, 1) := by decide +kernel
theorem dX3_mayBegin_102 : decode cX3_mayBegin 102 = .ok (.ireturn, 1) := by decide +kernel
theorem dX3_mayBegin_103 : decode cX3_mayBegin 103 = .ok (.aload_n 0, 1) := by decide +kernel
theorem dX3_mayBegin_104 : decode cX3_mayBegin 104 = .ok (.getfield 28, 3) := by decide +kernel
theorem dX3_mayBegin_107 : decode cX3_mayBegin 107 = .ok (.ifCond .ne 7, 3) := by decide +kernel
theorem dX3_mayBegin_110 : decode cX3_mayBegin 110 = .ok (.iconst 1, 1) := by decide +kernel
theorem dX3_mayBegin_111 : decode cX3_mayBegin 111 = .ok (.goto 4, 3) := by decide +kernel
theorem dX3_mayBegin_114 : decode cX3_mayBegin 114 = .ok (.iconst 0, 1) := by decide +kernel
theorem dX3_mayBegin_115 : decode cX3_mayBegin 115 = .ok (.ireturn, 1) := by decide +kernel
theorem dX3_mayBegin_116 : decode cX3_mayBegin 116 = .ok (.aload_n 2, 1) := by decide +kernel
theorem dX3_mayBegin_117 : decode cX3_mayBegin 117 = .ok (.getfield 71, 3) := by decide +kernel
theorem dX3_mayBegin_120 : decode cX3_mayBegin 120 = .ok (.iconst 4, 1) := by decide +kernel
theorem dX3_mayBegin_121 : decode cX3_mayBegin 121 = .ok (.if_icmp .ge 7, 3) := by decide +kernel
theorem dX3_mayBegin_124 : decode cX3_mayBegin 124 = .ok (.iconst 1, 1) := by decide +kernel
theorem dX3_mayBegin_125 : decode cX3_mayBegin 125 = .ok (.goto 4, 3) := by decide +kernel
theorem dX3_mayBegin_128 : decode cX3_mayBegin 128 = .ok (.iconst 0, 1) := by decide +kernel
theorem dX3_mayBegin_129 : decode cX3_mayBegin 129 = .ok (.ireturn, 1) := by decide +kernel
set_option maxRecDepth 20000 in
theorem ggX3_mayBeFirst_X4_isSlot : GoodIn wsX3_mayBeFirst wsX4_isSlot := goodIn_r _ [3] (by decide +kernel) (by decide +kernel)
set_option maxRecDepth 20000 in
theorem gX3_mayBeFirst_X4_isSlot_n74 : GoodIn wsX3_mayBeFirst (wsX4_isSlot) := ggX3_mayBeFirst_X4_isSlot
set_option maxRecDepth 20000 in
theorem ggX3_mayBeFirst_X1_panelAt : GoodIn wsX3_mayBeFirst wsX1_panelAt := goodIn_r _ [7, 8, 9, 2, 10, 11, 12, 13, 14, 15, 16, 17, 18, 19, 20, 21] (by decide +kernel) (by decide +kernel)
set_option maxRecDepth 20000 in
theorem gX3_mayBeFirst_X1_panelAt_n81 : GoodIn wsX3_mayBeFirst (wsX1_panelAt) := ggX3_mayBeFirst_X1_panelAt
theorem dX3_mayBeFirst_0 : decode cX3_mayBeFirst 0 = .ok (.iload_n 0, 1) := by decide +kernel
theorem dX3_mayBeFirst_1 : decode cX3_mayBeFirst 1 = .ok (.tableswitch 80 4 10 #[43, 43, 43, 43, 43, 48, 63], 43) := by decide +kernel
theorem dX3_mayBeFirst_44 : decode cX3_mayBeFirst 44 = .ok (.iload_n 1, 1) := by decide +kernel
theorem dX3_mayBeFirst_45 : decode cX3_mayBeFirst 45 = .ok (.invokestatic 74, 3) := by decide +kernel
theorem dX3_mayBeFirst_48 : decode cX3_mayBeFirst 48 = .ok (.ireturn, 1) := by decide +kernel
theorem dX3_mayBeFirst_49 : decode cX3_mayBeFirst 49 = .ok (.iload_n 1, 1) := by decide +kernel
theorem dX3_mayBeFirst_50 : decode cX3_mayBeFirst 50 = .ok (.ifCond .lt 12, 3) := by decide +kernel
theorem dX3_mayBeFirst_53 : decode cX3_mayBeFirst 53 = .ok (.iload_n 1, 1) := by decide +kernel
theorem dX3_mayBeFirst_54 : decode cX3_mayBeFirst 54 = .ok (.iconst 4, 1) := by decide +kernel
theorem dX3_mayBeFirst_55 : decode cX3_mayBeFirst 55 = .ok (.if_icmp .gt 7, 3) := by decide +kernel
theorem dX3_mayBeFirst_58 : decode cX3_mayBeFirst 58 = .ok (.iconst 1, 1) := by decide +kernel
theorem dX3_mayBeFirst_59 : decode cX3_mayBeFirst 59 = .ok (.goto 4, 3) := by decide +kernel
theorem dX3_mayBeFirst_62 : decode cX3_mayBeFirst 62 = .ok (.iconst 0, 1) := by decide +kernel
theorem dX3_mayBeFirst_63 : decode cX3_mayBeFirst 63 = .ok (.ireturn, 1) := by decide +kernel
theorem dX3_mayBeFirst_64 : decode cX3_mayBeFirst 64 = .ok (.iload_n 1, 1) := by decide +kernel
theorem dX3_mayBeFirst_65 : decode cX3_mayBeFirst 65 = .ok (.iconst 1, 1) := by decide +kernel
theorem dX3_mayBeFirst_66 : decode cX3_mayBeFirst 66 = .ok (.if_icmp .lt 13, 3) := by decide +kernel
theorem dX3_mayBeFirst_69 : decode cX3_mayBeFirst 69 = .ok (.iload_n 1, 1) := by decide +kernel
theorem dX3_mayBeFirst_70 : decode cX3_mayBeFirst 70 = .ok (.bipush 9, 2) := by decide +kernel
theorem dX3_mayBeFirst_72 : decode cX3_mayBeFirst 72 = .ok (.if_icmp .gt 7, 3) := by decide +kernel
theorem dX3_mayBeFirst_75 : decode cX3_mayBeFirst 75 = .ok (.iconst 1, 1) := by decide +kernel
theorem dX3_mayBeFirst_76 : decode cX3_mayBeFirst 76 = .ok (.goto 4, 3) := by decide +kernel
theorem dX3_mayBeFirst_79 : decode cX3_mayBeFirst 79 = .ok (.iconst 0, 1) := by decide +kernel
theorem dX3_mayBeFirst_80 : decode cX3_mayBeFirst 80 = .ok (.ireturn, 1) := by decide +kernel
theorem dX3_mayBeFirst_81 : decode cX3_mayBeFirst 81 = .ok (.iload_n 1, 1) := by decide +kernel
theorem dX3_mayBeFirst_82 : decode cX3_mayBeFirst 82 = .ok (.bipush 8, 2) := by decide +kernel
theorem dX3_mayBeFirst_84 : decode cX3_mayBeFirst 84 = .ok (.if_icmp .eq 24, 3) := by decide +kernel
theorem dX3_mayBeFirst_87 : decode cX3_mayBeFirst 87 = .ok (.iload_n 1, 1) := by decide +kernel
theorem dX3_mayBeFirst_88 : decode cX3_mayBeFirst 88 = .ok (.invokestatic 74, 3) := by decide +kernel
theorem dX3_mayBeFirst_91 : decode cX3_mayBeFirst 91 = .ok (.ifCond .eq 21, 3) := by decide +kernel
theorem dX3_mayBeFirst_94 : decode cX3_mayBeFirst 94 = .ok (.aload_n 2, 1) := by decide +kernel
theorem dX3_mayBeFirst_95 : decode cX3_mayBeFirst 95 = .ok (.aload_n 2, 1) := by decide +kernel
theorem dX3_mayBeFirst_96 : decode cX3_mayBeFirst 96 = .ok (.getfield 78, 3) := by decide +kernel
theorem dX3_mayBeFirst_99 : decode cX3_mayBeFirst 99 = .ok (.iload_n 1, 1) := by decide +kernel
theorem dX3_mayBeFirst_100 : decode cX3_mayBeFirst 100 = .ok (.invokevirtual 81, 3) := by decide +kernel
theorem dX3_mayBeFirst_103 : decode cX3_mayBeFirst 103 = .ok (.bipush (-9), 2) := by decide +kernel
theorem dX3_mayBeFirst_105 : decode cX3_mayBeFirst 105 = .ok (.if_icmp .ne 7, 3) := by decide +kernel
theorem dX3_mayBeFirst_108 : decode cX3_mayBeFirst 108 = .ok (.iconst 1, 1) := by decide +kernel
theorem dX3_mayBeFirst_109 : decode cX3_mayBeFirst 109 = .ok (.goto 4, 3) := by decide +kernel
theorem dX3_mayBeFirst_112 : decode cX3_mayBeFirst 112 = .ok (.iconst 0, 1) := by decide +kernel
theorem dX3_mayBeFirst_113 : decode cX3_mayBeFirst 113 = .ok (.ireturn, 1) := by decide +kernel
set_option maxRecDepth 20000 in
theorem ggX3_apply_X3_slotsFrom : GoodIn wsX3_apply wsX3_slotsFrom := goodIn_r _ [6] (by decide +kernel) (by decide +kernel)
set_option maxRecDepth 20000 in
theorem gX3_apply_X3_slotsFrom : GoodIn wsX3_apply (va_wsS RX3 85 yX3_slotsFrom wsX3_slotsFrom) := goodIn_app (goodIn_of _ (by decide +kernel)) ggX3_apply_X3_slotsFrom
set_option maxRecDepth 20000 in
theorem ggX3_apply_X1_addBeam : GoodIn wsX3_apply wsX1_addBeam := goodIn_r _ [10, 11, 12, 22, 23, 24, 25, 26, 27, 28, 29, 30, 31, 32] (by decide +kernel) (by decide +kernel)
set_option maxRecDepth 20000 in
theorem gX3_apply_X1_addBeam_n88 : GoodIn wsX3_apply (wsX1_addBeam) := ggX3_apply_X1_addBeam
set_option maxRecDepth 20000 in
theorem ggX3_apply_X1_addPanel : GoodIn wsX3_apply wsX1_addPanel := goodIn_r _ [15, 16, 17, 18, 19, 20, 21, 22, 23, 24, 25, 26, 27, 28, 29, 30, 31, 32] (by decide +kernel) (by decide +kernel)
set_option maxRecDepth 20000 in
theorem gX3_apply_X1_addPanel_n104 : GoodIn wsX3_apply (wsX1_addPanel) := ggX3_apply_X1_addPanel
theorem dX3_apply_0 : decode cX3_apply 0 = .ok (.iload_n 1, 1) := by decide +kernel
theorem dX3_apply_1 : decode cX3_apply 1 = .ok (.tableswitch 138 4 10 #[43, 56, 74, 92, 101, 110, 124], 43) := by decide +kernel
theorem dX3_apply_44 : decode cX3_apply 44 = .ok (.aload 4, 2) := by decide +kernel
theorem dX3_apply_46 : decode cX3_apply 46 = .ok (.iload_n 2, 1) := by decide +kernel
theorem dX3_apply_47 : decode cX3_apply 47 = .ok (.iload_n 3, 1) := by decide +kernel
theorem dX3_apply_48 : decode cX3_apply 48 = .ok (.invokestatic 85, 3) := by decide +kernel
theorem dX3_apply_51 : decode cX3_apply 51 = .ok (.invokevirtual 88, 3) := by decide +kernel
theorem dX3_apply_54 : decode cX3_apply 54 = .ok (.goto 92, 3) := by decide +kernel
theorem dX3_apply_57 : decode cX3_apply 57 = .ok (.aload 4, 2) := by decide +kernel
theorem dX3_apply_59 : decode cX3_apply 59 = .ok (.dup, 1) := by decide +kernel
theorem dX3_apply_60 : decode cX3_apply 60 = .ok (.getfield 92, 3) := by decide +kernel
theorem dX3_apply_63 : decode cX3_apply 63 = .ok (.iload_n 2, 1) := by decide +kernel
theorem dX3_apply_64 : decode cX3_apply 64 = .ok (.iload_n 3, 1) := by decide +kernel
theorem dX3_apply_65 : decode cX3_apply 65 = .ok (.invokestatic 85, 3) := by decide +kernel
theorem dX3_apply_68 : decode cX3_apply 68 = .ok (.ior, 1) := by decide +kernel
theorem dX3_apply_69 : decode cX3_apply 69 = .ok (.putfield 92, 3) := by decide +kernel
theorem dX3_apply_72 : decode cX3_apply 72 = .ok (.goto 74, 3) := by decide +kernel
theorem dX3_apply_75 : decode cX3_apply 75 = .ok (.aload 4, 2) := by decide +kernel
theorem dX3_apply_77 : decode cX3_apply 77 = .ok (.dup, 1) := by decide +kernel
theorem dX3_apply_78 : decode cX3_apply 78 = .ok (.getfield 95, 3) := by decide +kernel
theorem dX3_apply_81 : decode cX3_apply 81 = .ok (.iload_n 2, 1) := by decide +kernel
theorem dX3_apply_82 : decode cX3_apply 82 = .ok (.iload_n 3, 1) := by decide +kernel
theorem dX3_apply_83 : decode cX3_apply 83 = .ok (.invokestatic 85, 3) := by decide +kernel
theorem dX3_apply_86 : decode cX3_apply 86 = .ok (.ior, 1) := by decide +kernel
theorem dX3_apply_87 : decode cX3_apply 87 = .ok (.putfield 95, 3) := by decide +kernel
theorem dX3_apply_90 : decode cX3_apply 90 = .ok (.goto 56, 3) := by decide +kernel
theorem dX3_apply_93 : decode cX3_apply 93 = .ok (.aload 4, 2) := by decide +kernel
theorem dX3_apply_95 : decode cX3_apply 95 = .ok (.iload_n 2, 1) := by decide +kernel
theorem dX3_apply_96 : decode cX3_apply 96 = .ok (.putfield 65, 3) := by decide +kernel
theorem dX3_apply_99 : decode cX3_apply 99 = .ok (.goto 47, 3) := by decide +kernel
theorem dX3_apply_102 : decode cX3_apply 102 = .ok (.aload 4, 2) := by decide +kernel
theorem dX3_apply_104 : decode cX3_apply 104 = .ok (.iload_n 2, 1) := by decide +kernel
theorem dX3_apply_105 : decode cX3_apply 105 = .ok (.putfield 68, 3) := by decide +kernel
theorem dX3_apply_108 : decode cX3_apply 108 = .ok (.goto 38, 3) := by decide +kernel
theorem dX3_apply_111 : decode cX3_apply 111 = .ok (.aload 4, 2) := by decide +kernel
theorem dX3_apply_113 : decode cX3_apply 113 = .ok (.iload_n 2, 1) := by decide +kernel
theorem dX3_apply_114 : decode cX3_apply 114 = .ok (.putfield 98, 3) := by decide +kernel
theorem dX3_apply_117 : decode cX3_apply 117 = .ok (.aload_n 0, 1) := by decide +kernel
theorem dX3_apply_118 : decode cX3_apply 118 = .ok (.iconst 1, 1) := by decide +kernel
theorem dX3_apply_119 : decode cX3_apply 119 = .ok (.putfield 24, 3) := by decide +kernel
theorem dX3_apply_122 : decode cX3_apply 122 = .ok (.goto 24, 3) := by decide +kernel
theorem dX3_apply_125 : decode cX3_apply 125 = .ok (.aload 4, 2) := by decide +kernel
theorem dX3_apply_127 : decode cX3_apply 127 = .ok (.iload_n 2, 1) := by decide +kernel
theorem dX3_apply_128 : decode cX3_apply 128 = .ok (.putfield 101, 3) := by decide +kernel
theorem dX3_apply_131 : decode cX3_apply 131 = .ok (.aload_n 0, 1) := by decide +kernel
theorem dX3_apply_132 : decode cX3_apply 132 = .ok (.iconst 1, 1) := by decide +kernel
theorem dX3_apply_133 : decode cX3_apply 133 = .ok (.putfield 28, 3) := by decide +kernel
theorem dX3_apply_136 : decode cX3_apply 136 = .ok (.goto 10, 3) := by decide +kernel
theorem dX3_apply_139 : decode cX3_apply 139 = .ok (.aload 4, 2) := by decide +kernel
theorem dX3_apply_141 : decode cX3_apply 141 = .ok (.iload_n 1, 1) := by decide +kernel
theorem dX3_apply_142 : decode cX3_apply 142 = .ok (.iload_n 2, 1) := by decide +kernel
theorem dX3_apply_143 : decode cX3_apply 143 = .ok (.invokevirtual 104, 3) := by decide +kernel
theorem dX3_apply_146 : decode cX3_apply 146 = .ok (.return_, 1) := by decide +kernel
theorem dX3_slotsFrom_0 : decode cX3_slotsFrom 0 = .ok (.iconst 0, 1) := by decide +kernel
theorem dX3_slotsFrom_1 : decode cX3_slotsFrom 1 = .ok (.istore_n 2, 1) := by decide +kernel
theorem dX3_slotsFrom_2 : decode cX3_slotsFrom 2 = .ok (.iconst 0, 1) := by decide +kernel
theorem dX3_slotsFrom_3 : decode cX3_slotsFrom 3 = .ok (.istore_n 3, 1) := by decide +kernel
theorem dX3_slotsFrom_4 : decode cX3_slotsFrom 4 = .ok (.iload_n 3, 1) := by decide +kernel
theorem dX3_slotsFrom_5 : decode cX3_slotsFrom 5 = .ok (.iload_n 1, 1) := by decide +kernel
theorem dX3_slotsFrom_6 : decode cX3_slotsFrom 6 = .ok (.if_icmp .ge 26, 3) := by decide +kernel
theorem dX3_slotsFrom_9 : decode cX3_slotsFrom 9 = .ok (.iload_n 3, 1) := by decide +kernel
theorem dX3_slotsFrom_10 : decode cX3_slotsFrom 10 = .ok (.bipush 8, 2) := by decide +kernel
theorem dX3_slotsFrom_12 : decode cX3_slotsFrom 12 = .ok (.if_icmp .ge 20, 3) := by decide +kernel
theorem dX3_slotsFrom_15 : decode cX3_slotsFrom 15 = .ok (.iload_n 2, 1) := by decide +kernel
theorem dX3_slotsFrom_16 : decode cX3_slotsFrom 16 = .ok (.iconst 1, 1) := by decide +kernel
theorem dX3_slotsFrom_17 : decode cX3_slotsFrom 17 = .ok (.iload_n 0, 1) := by decide +kernel
theorem dX3_slotsFrom_18 : decode cX3_slotsFrom 18 = .ok (.iload_n 3, 1) := by decide +kernel
theorem dX3_slotsFrom_19 : decode cX3_slotsFrom 19 = .ok (.iadd, 1) := by decide +kernel
theorem dX3_slotsFrom_20 : decode cX3_slotsFrom 20 = .ok (.bipush 8, 2) := by decide +kernel
theorem dX3_slotsFrom_22 : decode cX3_slotsFrom 22 = .ok (.irem, 1) := by decide +kernel
theorem dX3_slotsFrom_23 : decode cX3_slotsFrom 23 = .ok (.ishl, 1) := by decide +kernel
theorem dX3_slotsFrom_24 : decode cX3_slotsFrom 24 = .ok (.ior, 1) := by decide +kernel
theorem dX3_slotsFrom_25 : decode cX3_slotsFrom 25 = .ok (.istore_n 2, 1) := by decide +kernel
theorem dX3_slotsFrom_26 : decode cX3_slotsFrom 26 = .ok (.iinc 3 1, 3) := by decide +kernel
theorem dX3_slotsFrom_29 : decode cX3_slotsFrom 29 = .ok (.goto (-25), 3) := by decide +kernel
theorem dX3_slotsFrom_32 : decode cX3_slotsFrom 32 = .ok (.iload_n 2, 1) := by decide +kernel
theorem dX3_slotsFrom_33 : decode cX3_slotsFrom 33 = .ok (.ireturn, 1) := by decide +kernel
set_option maxRecDepth 20000 in
theorem ggX3_nextToken_X3_byteAt : GoodIn wsX3_nextToken wsX3_byteAt := goodIn_r _ [9, 2, 10, 86, 87, 88, 89, 90, 91, 92, 93] (by decide +kernel) (by decide +kernel)
set_option maxRecDepth 20000 in
theorem gX3_nextToken_X3_byteAt : GoodIn wsX3_nextToken (wsV RX3 108 RX3 yX3_byteAt wsX3_byteAt) := goodIn_app (goodIn_of _ (by decide +kernel)) ggX3_nextToken_X3_byteAt
set_option maxRecDepth 20000 in
theorem ggX3_nextToken_X3_isLetter : GoodIn wsX3_nextToken wsX3_isLetter := goodIn_r _ [13] (by decide +kernel) (by decide +kernel)
set_option maxRecDepth 20000 in
theorem gX3_nextToken_X3_isLetter : GoodIn wsX3_nextToken (va_wsS RX3 112 yX3_isLetter wsX3_isLetter) := goodIn_app (goodIn_of _ (by decide +kernel)) ggX3_nextToken_X3_isLetter
set_option maxRecDepth 20000 in
theorem ggX3_nextToken_X3_readWord : GoodIn wsX3_nextToken wsX3_readWord := goodIn_r _ [17, 1, 2, 4, 18, 5, 6, 7, 8, 9, 10, 11, 12, 13, 19, 20, 21, 22, 23, 24, 25, 3, 26, 27, 28, 29, 30, 31, 32, 33, 34, 35, 36, 37, 38, 39, 40, 41, 42, 43, 44, 45, 46, 47, 48, 49, 50, 51, 52, 53, 54, 55, 56, 57, 58, 59, 60, 61, 62, 63, 64, 65, 66, 67, 68, 69, 70, 71, 72, 73, 74, 86, 87, 88, 89, 90, 91, 92, 93] (by decide +kernel) (by decide +kernel)
set_option maxRecDepth 20000 in
theorem gX3_nextToken_X3_readWord : GoodIn wsX3_nextToken (wsV RX3 115 RX3 yX3_readWord wsX3_readWord) := goodIn_app (goodIn_of _ (by decide +kernel)) ggX3_nextToken_X3_readWord
set_option maxRecDepth 20000 in
theorem ggX3_nextToken_X3_isDigit : GoodIn wsX3_nextToken wsX3_isDigit := goodIn_r _ [77] (by decide +kernel) (by decide +kernel)
set_option maxRecDepth 20000 in
theorem gX3_nextToken_X3_isDigit : GoodIn wsX3_nextToken (va_wsS RX3 118 yX3_isDigit wsX3_isDigit) := goodIn_app (goodIn_of _ (by decide +kernel)) ggX3_nextToken_X3_isDigit
set_option maxRecDepth 20000 in
theorem ggX3_nextToken_X3_readNumber : GoodIn wsX3_nextToken wsX3_readNumber := goodIn_r _ [81, 18, 1, 2, 82, 83, 84, 85, 3, 4, 5, 6, 7, 8, 9, 10, 75, 76, 77, 86, 87, 88, 89, 90, 91, 92, 93] (by decide +kernel) (by decide +kernel)
set_option maxRecDepth 20000 in
theorem gX3_nextToken_X3_readNumber : GoodIn wsX3_nextToken (wsV RX3 121 RX3 yX3_readNumber wsX3_readNumber) := goodIn_app (goodIn_of _ (by decide +kernel)) ggX3_nextToken_X3_readNumber
theorem dX3_nextToken_0 : decode cX3_nextToken 0 = .ok (.aload_n 0, 1) := by decide +kernel
theorem dX3_nextToken_1 : decode cX3_nextToken 1 = .ok (.getfield 31, 3) := by decide +kernel
theorem dX3_nextToken_4 : decode cX3_nextToken 4 = .ok (.aload_n 0, 1) := by decide +kernel
theorem dX3_nextToken_5 : decode cX3_nextToken 5 = .ok (.getfield 15, 3) := by decide +kernel
theorem dX3_nextToken_8 : decode cX3_nextToken 8 = .ok (.if_icmp .ge 29, 3) := by decide +kernel
theorem dX3_nextToken_11 : decode cX3_nextToken 11 = .ok (.aload_n 0, 1) := by decide +kernel
theorem dX3_nextToken_12 : decode cX3_nextToken 12 = .ok (.aload_n 0, 1) := by decide +kernel
theorem dX3_nextToken_13 : decode cX3_nextToken 13 = .ok (.getfield 31, 3) := by decide +kernel
theorem dX3_nextToken_16 : decode cX3_nextToken 16 = .ok (.invokevirtual 108, 3) := by decide +kernel
theorem dX3_nextToken_19 : decode cX3_nextToken 19 = .ok (.bipush 32, 2) := by decide +kernel
theorem dX3_nextToken_21 : decode cX3_nextToken 21 = .ok (.if_icmp .ne 16, 3) := by decide +kernel
theorem dX3_nextToken_24 : decode cX3_nextToken 24 = .ok (.aload_n 0, 1) := by decide +kernel
theorem dX3_nextToken_25 : decode cX3_nextToken 25 = .ok (.dup, 1) := by decide +kernel
theorem dX3_nextToken_26 : decode cX3_nextToken 26 = .ok (.getfield 31, 3) := by decide +kernel
theorem dX3_nextToken_29 : decode cX3_nextToken 29 = .ok (.iconst 1, 1) := by decide +kernel
theorem dX3_nextToken_30 : decode cX3_nextToken 30 = .ok (.iadd, 1) := by decide +kernel
theorem dX3_nextToken_31 : decode cX3_nextToken 31 = .ok (.putfield 31, 3) := by decide +kernel
theorem dX3_nextToken_34 : decode cX3_nextToken 34 = .ok (.goto (-34), 3) := by decide +kernel
theorem dX3_nextToken_37 : decode cX3_nextToken 37 = .ok (.aload_n 0, 1) := by decide +kernel
theorem dX3_nextToken_38 : decode cX3_nextToken 38 = .ok (.aload_n 0, 1) := by decide +kernel
theorem dX3_nextToken_39 : decode cX3_nextToken 39 = .ok (.getfield 31, 3) := by decide +kernel
theorem dX3_nextToken_42 : decode cX3_nextToken 42 = .ok (.putfield 44, 3) := by decide +kernel
theorem dX3_nextToken_45 : decode cX3_nextToken 45 = .ok (.aload_n 0, 1) := by decide +kernel
theorem dX3_nextToken_46 : decode cX3_nextToken 46 = .ok (.aload_n 0, 1) := by decide +kernel
theorem dX3_nextToken_47 : decode cX3_nextToken 47 = .ok (.getfield 31, 3) := by decide +kernel
theorem dX3_nextToken_50 : decode cX3_nextToken 50 = .ok (.invokevirtual 108, 3) := by decide +kernel
theorem dX3_nextToken_53 : decode cX3_nextToken 53 = .ok (.istore_n 1, 1) := by decide +kernel
theorem dX3_nextToken_54 : decode cX3_nextToken 54 = .ok (.iload_n 1, 1) := by decide +kernel
theorem dX3_nextToken_55 : decode cX3_nextToken 55 = .ok (.ifCond .ge 11, 3) := by decide +kernel
theorem dX3_nextToken_58 : decode cX3_nextToken 58 = .ok (.aload_n 0, 1) := by decide +kernel
theorem dX3_nextToken_59 : decode cX3_nextToken 59 = .ok (.iconst 0, 1) := by decide +kernel
theorem dX3_nextToken_60 : decode cX3_nextToken 60 = .ok (.putfield 37, 3) := by decide +kernel
theorem dX3_nextToken_63 : decode cX3_nextToken 63 = .ok (.goto 56, 3) := by decide +kernel
theorem dX3_nextToken_66 : decode cX3_nextToken 66 = .ok (.iload_n 1, 1) := by decide +kernel
theorem dX3_nextToken_67 : decode cX3_nextToken 67 = .ok (.invokestatic 112, 3) := by decide +kernel
theorem dX3_nextToken_70 : decode cX3_nextToken 70 = .ok (.ifCond .eq 10, 3) := by decide +kernel
theorem dX3_nextToken_73 : decode cX3_nextToken 73 = .ok (.aload_n 0, 1) := by decide +kernel
theorem dX3_nextToken_74 : decode cX3_nextToken 74 = .ok (.invokevirtual 115, 3) := by decide +kernel
theorem dX3_nextToken_77 : decode cX3_nextToken 77 = .ok (.goto 42, 3) := by decide +kernel
theorem dX3_nextToken_80 : decode cX3_nextToken 80 = .ok (.iload_n 1, 1) := by decide +kernel
theorem dX3_nextToken_81 : decode cX3_nextToken 81 = .ok (.invokestatic 118, 3) := by decide +kernel
theorem dX3_nextToken_84 : decode cX3_nextToken 84 = .ok (.ifCond .eq 10, 3) := by decide +kernel
theorem dX3_nextToken_87 : decode cX3_nextToken 87 = .ok (.aload_n 0, 1) := by decide +kernel
theorem dX3_nextToken_88 : decode cX3_nextToken 88 = .ok (.invokevirtual 121, 3) := by decide +kernel
theorem dX3_nextToken_91 : decode cX3_nextToken 91 = .ok (.goto 28, 3) := by decide +kernel
theorem dX3_nextToken_94 : decode cX3_nextToken 94 = .ok (.aload_n 0, 1) := by decide +kernel
theorem dX3_nextToken_95 : decode cX3_nextToken 95 = .ok (.iload_n 1, 1) := by decide +kernel
theorem dX3_nextToken_96 : decode cX3_nextToken 96 = .ok (.bipush 59, 2) := by decide +kernel
theorem dX3_nextToken_98 : decode cX3_nextToken 98 = .ok (.if_icmp .ne 7, 3) := by decide +kernel
theorem dX3_nextToken_101 : decode cX3_nextToken 101 = .ok (.iconst 3, 1) := by decide +kernel
theorem dX3_nextToken_102 : decode cX3_nextToken 102 = .ok (.goto 4, 3) := by decide +kernel
theorem dX3_nextToken_105 : decode cX3_nextToken 105 = .ok (.iconst 4, 1) := by decide +kernel
theorem dX3_nextToken_106 : decode cX3_nextToken 106 = .ok (.putfield 37, 3) := by decide +kernel
theorem dX3_nextToken_109 : decode cX3_nextToken 109 = .ok (.aload_n 0, 1) := by decide +kernel
theorem dX3_nextToken_110 : decode cX3_nextToken 110 = .ok (.dup, 1) := by decide +kernel
theorem dX3_nextToken_111 : decode cX3_nextToken 111 = .ok (.getfield 31, 3) := by decide +kernel
theorem dX3_nextToken_114 : decode cX3_nextToken 114 = .ok (.iconst 1, 1) := by decide +kernel
theorem dX3_nextToken_115 : decode cX3_nextToken 115 = .ok (.iadd, 1) := by decide +kernel
theorem dX3_nextToken_116 : decode cX3_nextToken 116 = .ok (.putfield 31, 3) := by decide +kernel
theorem dX3_nextToken_119 : decode cX3_nextToken 119 = .ok (.return_, 1) := by decide +kernel
set_option maxRecDepth 20000 in
theorem ggX3_readWord_X3_byteAt : GoodIn wsX3_readWord wsX3_byteAt := goodIn_r _ [9, 2, 10, 71, 72, 73, 74, 75, 76, 77, 78] (by decide +kernel) (by decide +kernel)
set_option maxRecDepth 20000 in
theorem gX3_readWord_X3_byteAt : GoodIn wsX3_readWord (wsV RX3 108 RX3 yX3_byteAt wsX3_byteAt) := goodIn_app (goodIn_of _ (by decide +kernel)) ggX3_readWord_X3_byteAt
set_option maxRecDepth 20000 in
theorem ggX3_readWord_X3_isLetter : GoodIn wsX3_readWord wsX3_isLetter := goodIn_r _ [13] (by decide +kernel) (by decide +kernel)
set_option maxRecDepth 20000 in
theorem gX3_readWord_X3_isLetter : GoodIn wsX3_readWord (va_wsS RX3 112 yX3_isLetter wsX3_isLetter) := goodIn_app (goodIn_of _ (by decide +kernel)) ggX3_readWord_X3_isLetter
set_option maxRecDepth 20000 in
theorem ggX3_readWord_X3_spelling : GoodIn wsX3_readWord wsX3_spelling := goodIn_r _ [16] (by decide +kernel) (by decide +kernel)
set_option maxRecDepth 20000 in
theorem gX3_readWord_X3_spelling : GoodIn wsX3_readWord (va_wsS RX3 124 yX3_spelling wsX3_spelling) := goodIn_app (goodIn_of _ (by decide +kernel)) ggX3_readWord_X3_spelling
set_option maxRecDepth 20000 in
theorem ggX3_readWord_X3_isSpelled : GoodIn wsX3_readWord wsX3_isSpelled := goodIn_r _ [20, 1, 21, 22, 23, 24, 25, 26, 27, 28, 29, 30, 31, 32, 33, 34, 35, 36, 37, 38, 39, 40, 41, 42, 43, 44, 45, 46, 47, 48, 49, 50, 51, 52, 53, 54, 55, 56, 57, 58, 59, 60, 61, 62, 63, 64, 65, 66, 67, 68, 69, 70, 5, 6, 7, 8, 9, 2, 10, 71, 72, 73, 74, 75, 76, 77, 78] (by decide +kernel) (by decide +kernel)
set_option maxRecDepth 20000 in
theorem gX3_readWord_X3_isSpelled : GoodIn wsX3_readWord (wsV RX3 128 RX3 yX3_isSpelled wsX3_isSpelled) := goodIn_app (goodIn_of _ (by decide +kernel)) ggX3_readWord_X3_isSpelled
theorem dX3_readWord_0 : decode cX3_readWord 0 = .ok (.aload_n 0, 1) := by decide +kernel
theorem dX3_readWord_1 : decode cX3_readWord 1 = .ok (.getfield 31, 3) := by decide +kernel
theorem dX3_readWord_4 : decode cX3_readWord 4 = .ok (.aload_n 0, 1) := by decide +kernel
theorem dX3_readWord_5 : decode cX3_readWord 5 = .ok (.getfield 15, 3) := by decide +kernel
theorem dX3_readWord_8 : decode cX3_readWord 8 = .ok (.if_icmp .ge 30, 3) := by decide +kernel
theorem dX3_readWord_11 : decode cX3_readWord 11 = .ok (.aload_n 0, 1) := by decide +kernel
theorem dX3_readWord_12 : decode cX3_readWord 12 = .ok (.aload_n 0, 1) := by decide +kernel
theorem dX3_readWord_13 : decode cX3_readWord 13 = .ok (.getfield 31, 3) := by decide +kernel
theorem dX3_readWord_16 : decode cX3_readWord 16 = .ok (.invokevirtual 108, 3) := by decide +kernel
theorem dX3_readWord_19 : decode cX3_readWord 19 = .ok (.invokestatic 112, 3) := by decide +kernel
theorem dX3_readWord_22 : decode cX3_readWord 22 = .ok (.ifCond .eq 16, 3) := by decide +kernel
theorem dX3_readWord_25 : decode cX3_readWord 25 = .ok (.aload_n 0, 1) := by decide +kernel
theorem dX3_readWord_26 : decode cX3_readWord 26 = .ok (.dup, 1) := by decide +kernel
theorem dX3_readWord_27 : decode cX3_readWord 27 = .ok (.getfield 31, 3) := by decide +kernel
theorem dX3_readWord_30 : decode cX3_readWord 30 = .ok (.iconst 1, 1) := by decide +kernel
theorem dX3_readWord_31 : decode cX3_readWord 31 = .ok (.iadd, 1) := by decide +kernel
theorem dX3_readWord_32 : decode cX3_readWord 32 = .ok (.putfield 31, 3) := by decide +kernel
theorem dX3_readWord_35 : decode cX3_readWord 35 = .ok (.goto (-35), 3) := by decide +kernel
theorem dX3_readWord_38 : decode cX3_readWord 38 = .ok (.aload_n 0, 1) := by decide +kernel
theorem dX3_readWord_39 : decode cX3_readWord 39 = .ok (.iconst 4, 1) := by decide +kernel
theorem dX3_readWord_40 : decode cX3_readWord 40 = .ok (.putfield 37, 3) := by decide +kernel
theorem dX3_readWord_43 : decode cX3_readWord 43 = .ok (.iconst 0, 1) := by decide +kernel
theorem dX3_readWord_44 : decode cX3_readWord 44 = .ok (.istore_n 1, 1) := by decide +kernel
theorem dX3_readWord_45 : decode cX3_readWord 45 = .ok (.iload_n 1, 1) := by decide +kernel
theorem dX3_readWord_46 : decode cX3_readWord 46 = .ok (.bipush 11, 2) := by decide +kernel
theorem dX3_readWord_48 : decode cX3_readWord 48 = .ok (.if_icmp .ge 30, 3) := by decide +kernel
theorem dX3_readWord_51 : decode cX3_readWord 51 = .ok (.aload_n 0, 1) := by decide +kernel
theorem dX3_readWord_52 : decode cX3_readWord 52 = .ok (.iload_n 1, 1) := by decide +kernel
theorem dX3_readWord_53 : decode cX3_readWord 53 = .ok (.invokestatic 124, 3) := by decide +kernel
theorem dX3_readWord_56 : decode cX3_readWord 56 = .ok (.invokevirtual 128, 3) := by decide +kernel
theorem dX3_readWord_59 : decode cX3_readWord 59 = .ok (.ifCond .eq 13, 3) := by decide +kernel
theorem dX3_readWord_62 : decode cX3_readWord 62 = .ok (.aload_n 0, 1) := by decide +kernel
theorem dX3_readWord_63 : decode cX3_readWord 63 = .ok (.iconst 1, 1) := by decide +kernel
theorem dX3_readWord_64 : decode cX3_readWord 64 = .ok (.putfield 37, 3) := by decide +kernel
theorem dX3_readWord_67 : decode cX3_readWord 67 = .ok (.aload_n 0, 1) := by decide +kernel
theorem dX3_readWord_68 : decode cX3_readWord 68 = .ok (.iload_n 1, 1) := by decide +kernel
theorem dX3_readWord_69 : decode cX3_readWord 69 = .ok (.putfield 47, 3) := by decide +kernel
theorem dX3_readWord_72 : decode cX3_readWord 72 = .ok (.iinc 1 1, 3) := by decide +kernel
theorem dX3_readWord_75 : decode cX3_readWord 75 = .ok (.goto (-30), 3) := by decide +kernel
theorem dX3_readWord_78 : decode cX3_readWord 78 = .ok (.return_, 1) := by decide +kernel
set_option maxRecDepth 20000 in
theorem ggX3_isSpelled_J0_length_8abf5 : GoodIn wsX3_isSpelled wsJ0_length_8abf5 := goodIn_r _ [7, 8, 9, 10, 11, 6, 12, 13, 14] (by decide +kernel) (by decide +kernel)
set_option maxRecDepth 20000 in
theorem gX3_isSpelled_J0_length_8abf5 : GoodIn wsX3_isSpelled (wsV RX3 132 RJ0 yJ0_length_8abf5 wsJ0_length_8abf5) := goodIn_app (goodIn_of _ (by decide +kernel)) ggX3_isSpelled_J0_length_8abf5
set_option maxRecDepth 20000 in
theorem ggX3_isSpelled_J0_charAt_5068e : GoodIn wsX3_isSpelled wsJ0_charAt_5068e := goodIn_r _ [18, 8, 19, 20, 21, 6, 22, 13, 14, 23, 24, 25, 26, 27, 28, 29, 30, 31, 32, 33, 34, 35, 36, 37, 38, 39, 40, 41, 42, 43, 44, 45, 46, 47, 48, 49, 50, 51] (by decide +kernel) (by decide +kernel)
set_option maxRecDepth 20000 in
theorem gX3_isSpelled_J0_charAt_5068e : GoodIn wsX3_isSpelled (wsV RX3 137 RJ0 yJ0_charAt_5068e wsJ0_charAt_5068e) := goodIn_app (goodIn_of _ (by decide +kernel)) ggX3_isSpelled_J0_charAt_5068e
set_option maxRecDepth 20000 in
theorem ggX3_isSpelled_X3_byteAt : GoodIn wsX3_isSpelled wsX3_byteAt := goodIn_r _ [56, 57, 58, 59, 60, 61, 62, 63, 64, 65, 66] (by decide +kernel) (by decide +kernel)
set_option maxRecDepth 20000 in
theorem gX3_isSpelled_X3_byteAt : GoodIn wsX3_isSpelled (wsV RX3 108 RX3 yX3_byteAt wsX3_byteAt) := goodIn_app (goodIn_of _ (by decide +kernel)) ggX3_isSpelled_X3_byteAt
theorem dX3_isSpelled_0 : decode cX3_isSpelled 0 = .ok (.aload_n 1, 1) := by decide +kernel
theorem dX3_isSpelled_1 : decode cX3_isSpelled 1 = .ok (.invokevirtual 132, 3) := by decide +kernel
theorem dX3_isSpelled_4 : decode cX3_isSpelled 4 = .ok (.aload_n 0, 1) := by decide +kernel
theorem dX3_isSpelled_5 : decode cX3_isSpelled 5 = .ok (.getfield 31, 3) := by decide +kernel
theorem dX3_isSpelled_8 : decode cX3_isSpelled 8 = .ok (.aload_n 0, 1) := by decide +kernel
theorem dX3_isSpelled_9 : decode cX3_isSpelled 9 = .ok (.getfield 44, 3) := by decide +kernel
theorem dX3_isSpelled_12 : decode cX3_isSpelled 12 = .ok (.isub, 1) := by decide +kernel
theorem dX3_isSpelled_13 : decode cX3_isSpelled 13 = .ok (.if_icmp .eq 5, 3) := by decide +kernel
theorem dX3_isSpelled_16 : decode cX3_isSpelled 16 = .ok (.iconst 0, 1) := by decide +kernel
theorem dX3_isSpelled_17 : decode cX3_isSpelled 17 = .ok (.ireturn, 1) := by decide +kernel
theorem dX3_isSpelled_18 : decode cX3_isSpelled 18 = .ok (.iconst 0, 1) := by decide +kernel
theorem dX3_isSpelled_19 : decode cX3_isSpelled 19 = .ok (.istore_n 2, 1) := by decide +kernel
theorem dX3_isSpelled_20 : decode cX3_isSpelled 20 = .ok (.iload_n 2, 1) := by decide +kernel
theorem dX3_isSpelled_21 : decode cX3_isSpelled 21 = .ok (.aload_n 1, 1) := by decide +kernel
theorem dX3_isSpelled_22 : decode cX3_isSpelled 22 = .ok (.invokevirtual 132, 3) := by decide +kernel
theorem dX3_isSpelled_25 : decode cX3_isSpelled 25 = .ok (.if_icmp .ge 29, 3) := by decide +kernel
theorem dX3_isSpelled_28 : decode cX3_isSpelled 28 = .ok (.aload_n 1, 1) := by decide +kernel
theorem dX3_isSpelled_29 : decode cX3_isSpelled 29 = .ok (.iload_n 2, 1) := by decide +kernel
theorem dX3_isSpelled_30 : decode cX3_isSpelled 30 = .ok (.invokevirtual 137, 3) := by decide +kernel
theorem dX3_isSpelled_33 : decode cX3_isSpelled 33 = .ok (.aload_n 0, 1) := by decide +kernel
theorem dX3_isSpelled_34 : decode cX3_isSpelled 34 = .ok (.aload_n 0, 1) := by decide +kernel
theorem dX3_isSpelled_35 : decode cX3_isSpelled 35 = .ok (.getfield 44, 3) := by decide +kernel
theorem dX3_isSpelled_38 : decode cX3_isSpelled 38 = .ok (.iload_n 2, 1) := by decide +kernel
theorem dX3_isSpelled_39 : decode cX3_isSpelled 39 = .ok (.iadd, 1) := by decide +kernel
theorem dX3_isSpelled_40 : decode cX3_isSpelled 40 = .ok (.invokevirtual 108, 3) := by decide +kernel
theorem dX3_isSpelled_43 : decode cX3_isSpelled 43 = .ok (.if_icmp .eq 5, 3) := by decide +kernel
theorem dX3_isSpelled_46 : decode cX3_isSpelled 46 = .ok (.iconst 0, 1) := by decide +kernel
theorem dX3_isSpelled_47 : decode cX3_isSpelled 47 = .ok (.ireturn, 1) := by decide +kernel
theorem dX3_isSpelled_48 : decode cX3_isSpelled 48 = .ok (.iinc 2 1, 3) := by decide +kernel
theorem dX3_isSpelled_51 : decode cX3_isSpelled 51 = .ok (.goto (-31), 3) := by decide +kernel
theorem dX3_isSpelled_54 : decode cX3_isSpelled 54 = .ok (.iconst 1, 1) := by decide +kernel
theorem dX3_isSpelled_55 : decode cX3_isSpelled 55 = .ok (.ireturn, 1) := by decide +kernel
set_option maxRecDepth 20000 in
theorem ggX3_readNumber_X3_byteAt : GoodIn wsX3_readNumber wsX3_byteAt := goodIn_r _ [14, 3, 15, 19, 20, 21, 22, 23, 24, 25, 26] (by decide +kernel) (by decide +kernel)
set_option maxRecDepth 20000 in
theorem gX3_readNumber_X3_byteAt : GoodIn wsX3_readNumber (wsV RX3 108 RX3 yX3_byteAt wsX3_byteAt) := goodIn_app (goodIn_of _ (by decide +kernel)) ggX3_readNumber_X3_byteAt
set_option maxRecDepth 20000 in
theorem ggX3_readNumber_X3_isDigit : GoodIn wsX3_readNumber wsX3_isDigit := goodIn_r _ [18] (by decide +kernel) (by decide +kernel)
set_option maxRecDepth 20000 in
theorem gX3_readNumber_X3_isDigit : GoodIn wsX3_readNumber (va_wsS RX3 118 yX3_isDigit wsX3_isDigit) := goodIn_app (goodIn_of _ (by decide +kernel)) ggX3_readNumber_X3_isDigit
theorem dX3_readNumber_0 : decode cX3_readNumber 0 = .ok (.aload_n 0, 1) := by decide +kernel
theorem dX3_readNumber_1 : decode cX3_readNumber 1 = .ok (.iconst 0, 1) := by decide +kernel
theorem dX3_readNumber_2 : decode cX3_readNumber 2 = .ok (.putfield 47, 3) := by decide +kernel
theorem dX3_readNumber_5 : decode cX3_readNumber 5 = .ok (.aload_n 0, 1) := by decide +kernel
theorem dX3_readNumber_6 : decode cX3_readNumber 6 = .ok (.getfield 31, 3) := by decide +kernel
theorem dX3_readNumber_9 : decode cX3_readNumber 9 = .ok (.aload_n 0, 1) := by decide +kernel
theorem dX3_readNumber_10 : decode cX3_readNumber 10 = .ok (.getfield 15, 3) := by decide +kernel
theorem dX3_readNumber_13 : decode cX3_readNumber 13 = .ok (.if_icmp .ge 58, 3) := by decide +kernel
theorem dX3_readNumber_16 : decode cX3_readNumber 16 = .ok (.aload_n 0, 1) := by decide +kernel
theorem dX3_readNumber_17 : decode cX3_readNumber 17 = .ok (.aload_n 0, 1) := by decide +kernel
theorem dX3_readNumber_18 : decode cX3_readNumber 18 = .ok (.getfield 31, 3) := by decide +kernel
theorem dX3_readNumber_21 : decode cX3_readNumber 21 = .ok (.invokevirtual 108, 3) := by decide +kernel
theorem dX3_readNumber_24 : decode cX3_readNumber 24 = .ok (.invokestatic 118, 3) := by decide +kernel
theorem dX3_readNumber_27 : decode cX3_readNumber 27 = .ok (.ifCond .eq 44, 3) := by decide +kernel
theorem dX3_readNumber_30 : decode cX3_readNumber 30 = .ok (.aload_n 0, 1) := by decide +kernel
theorem dX3_readNumber_31 : decode cX3_readNumber 31 = .ok (.bipush 100, 2) := by decide +kernel
theorem dX3_readNumber_33 : decode cX3_readNumber 33 = .ok (.aload_n 0, 1) := by decide +kernel
theorem dX3_readNumber_34 : decode cX3_readNumber 34 = .ok (.getfield 47, 3) := by decide +kernel
theorem dX3_readNumber_37 : decode cX3_readNumber 37 = .ok (.bipush 10, 2) := by decide +kernel
theorem dX3_readNumber_39 : decode cX3_readNumber 39 = .ok (.imul, 1) := by decide +kernel
theorem dX3_readNumber_40 : decode cX3_readNumber 40 = .ok (.aload_n 0, 1) := by decide +kernel
theorem dX3_readNumber_41 : decode cX3_readNumber 41 = .ok (.aload_n 0, 1) := by decide +kernel
theorem dX3_readNumber_42 : decode cX3_readNumber 42 = .ok (.getfield 31, 3) := by decide +kernel
theorem dX3_readNumber_45 : decode cX3_readNumber 45 = .ok (.invokevirtual 108, 3) := by decide +kernel
theorem dX3_readNumber_48 : decode cX3_readNumber 48 = .ok (.iadd, 1) := by decide +kernel
theorem dX3_readNumber_49 : decode cX3_readNumber 49 = .ok (.bipush 48, 2) := by decide +kernel
theorem dX3_readNumber_51 : decode cX3_readNumber 51 = .ok (.isub, 1) := by decide +kernel
theorem dX3_readNumber_52 : decode cX3_readNumber 52 = .ok (.invokestatic 141, 3) := by decide +kernel
theorem dX3_readNumber_55 : decode cX3_readNumber 55 = .ok (.putfield 47, 3) := by decide +kernel
theorem dX3_readNumber_58 : decode cX3_readNumber 58 = .ok (.aload_n 0, 1) := by decide +kernel
theorem dX3_readNumber_59 : decode cX3_readNumber 59 = .ok (.dup, 1) := by decide +kernel
theorem dX3_readNumber_60 : decode cX3_readNumber 60 = .ok (.getfield 31, 3) := by decide +kernel
theorem dX3_readNumber_63 : decode cX3_readNumber 63 = .ok (.iconst 1, 1) := by decide +kernel
theorem dX3_readNumber_64 : decode cX3_readNumber 64 = .ok (.iadd, 1) := by decide +kernel
theorem dX3_readNumber_65 : decode cX3_readNumber 65 = .ok (.putfield 31, 3) := by decide +kernel
theorem dX3_readNumber_68 : decode cX3_readNumber 68 = .ok (.goto (-63), 3) := by decide +kernel
theorem dX3_readNumber_71 : decode cX3_readNumber 71 = .ok (.aload_n 0, 1) := by decide +kernel
theorem dX3_readNumber_72 : decode cX3_readNumber 72 = .ok (.aload_n 0, 1) := by decide +kernel
theorem dX3_readNumber_73 : decode cX3_readNumber 73 = .ok (.getfield 44, 3) := by decide +kernel
theorem dX3_readNumber_76 : decode cX3_readNumber 76 = .ok (.invokevirtual 108, 3) := by decide +kernel
theorem dX3_readNumber_79 : decode cX3_readNumber 79 = .ok (.bipush 48, 2) := by decide +kernel
theorem dX3_readNumber_81 : decode cX3_readNumber 81 = .ok (.if_icmp .ne 20, 3) := by decide +kernel
theorem dX3_readNumber_84 : decode cX3_readNumber 84 = .ok (.aload_n 0, 1) := by decide +kernel
theorem dX3_readNumber_85 : decode cX3_readNumber 85 = .ok (.getfield 31, 3) := by decide +kernel
theorem dX3_readNumber_88 : decode cX3_readNumber 88 = .ok (.aload_n 0, 1) := by decide +kernel
theorem dX3_readNumber_89 : decode cX3_readNumber 89 = .ok (.getfield 44, 3) := by decide +kernel
theorem dX3_readNumber_92 : decode cX3_readNumber 92 = .ok (.isub, 1) := by decide +kernel
theorem dX3_readNumber_93 : decode cX3_readNumber 93 = .ok (.iconst 1, 1) := by decide +kernel
theorem dX3_readNumber_94 : decode cX3_readNumber 94 = .ok (.if_icmp .le 7, 3) := by decide +kernel
theorem dX3_readNumber_97 : decode cX3_readNumber 97 = .ok (.iconst 1, 1) := by decide +kernel
theorem dX3_readNumber_98 : decode cX3_readNumber 98 = .ok (.goto 4, 3) := by decide +kernel
theorem dX3_readNumber_101 : decode cX3_readNumber 101 = .ok (.iconst 0, 1) := by decide +kernel
theorem dX3_readNumber_102 : decode cX3_readNumber 102 = .ok (.istore_n 1, 1) := by decide +kernel
theorem dX3_readNumber_103 : decode cX3_readNumber 103 = .ok (.aload_n 0, 1) := by decide +kernel
theorem dX3_readNumber_104 : decode cX3_readNumber 104 = .ok (.iload_n 1, 1) := by decide +kernel
theorem dX3_readNumber_105 : decode cX3_readNumber 105 = .ok (.ifCond .ne 12, 3) := by decide +kernel
theorem dX3_readNumber_108 : decode cX3_readNumber 108 = .ok (.aload_n 0, 1) := by decide +kernel
theorem dX3_readNumber_109 : decode cX3_readNumber 109 = .ok (.getfield 47, 3) := by decide +kernel
theorem dX3_readNumber_112 : decode cX3_readNumber 112 = .ok (.bipush 99, 2) := by decide +kernel
theorem dX3_readNumber_114 : decode cX3_readNumber 114 = .ok (.if_icmp .le 7, 3) := by decide +kernel
theorem dX3_readNumber_117 : decode cX3_readNumber 117 = .ok (.iconst 4, 1) := by decide +kernel
theorem dX3_readNumber_118 : decode cX3_readNumber 118 = .ok (.goto 4, 3) := by decide +kernel
theorem dX3_readNumber_121 : decode cX3_readNumber 121 = .ok (.iconst 2, 1) := by decide +kernel
theorem dX3_readNumber_122 : decode cX3_readNumber 122 = .ok (.putfield 37, 3) := by decide +kernel
theorem dX3_readNumber_125 : decode cX3_readNumber 125 = .ok (.return_, 1) := by decide +kernel
theorem dX3_isLetter_0 : decode cX3_isLetter 0 = .ok (.iload_n 0, 1) := by decide +kernel
theorem dX3_isLetter_1 : decode cX3_isLetter 1 = .ok (.bipush 97, 2) := by decide +kernel
theorem dX3_isLetter_3 : decode cX3_isLetter 3 = .ok (.if_icmp .lt 13, 3) := by decide +kernel
theorem dX3_isLetter_6 : decode cX3_isLetter 6 = .ok (.iload_n 0, 1) := by decide +kernel
theorem dX3_isLetter_7 : decode cX3_isLetter 7 = .ok (.bipush 122, 2) := by decide +kernel
theorem dX3_isLetter_9 : decode cX3_isLetter 9 = .ok (.if_icmp .gt 7, 3) := by decide +kernel
theorem dX3_isLetter_12 : decode cX3_isLetter 12 = .ok (.iconst 1, 1) := by decide +kernel
theorem dX3_isLetter_13 : decode cX3_isLetter 13 = .ok (.goto 4, 3) := by decide +kernel
theorem dX3_isLetter_16 : decode cX3_isLetter 16 = .ok (.iconst 0, 1) := by decide +kernel
theorem dX3_isLetter_17 : decode cX3_isLetter 17 = .ok (.ireturn, 1) := by decide +kernel
theorem dX3_isDigit_0 : decode cX3_isDigit 0 = .ok (.iload_n 0, 1) := by decide +kernel
theorem dX3_isDigit_1 : decode cX3_isDigit 1 = .ok (.bipush 48, 2) := by decide +kernel
theorem dX3_isDigit_3 : decode cX3_isDigit 3 = .ok (.if_icmp .lt 13, 3) := by decide +kernel
theorem dX3_isDigit_6 : decode cX3_isDigit 6 = .ok (.iload_n 0, 1) := by decide +kernel
theorem dX3_isDigit_7 : decode cX3_isDigit 7 = .ok (.bipush 57, 2) := by decide +kernel
theorem dX3_isDigit_9 : decode cX3_isDigit 9 = .ok (.if_icmp .gt 7, 3) := by decide +kernel
theorem dX3_isDigit_12 : decode cX3_isDigit 12 = .ok (.iconst 1, 1) := by decide +kernel
theorem dX3_isDigit_13 : decode cX3_isDigit 13 = .ok (.goto 4, 3) := by decide +kernel
theorem dX3_isDigit_16 : decode cX3_isDigit 16 = .ok (.iconst 0, 1) := by decide +kernel
theorem dX3_isDigit_17 : decode cX3_isDigit 17 = .ok (.ireturn, 1) := by decide +kernel
theorem dX3_spelling_0 : decode cX3_spelling 0 = .ok (.iload_n 0, 1) := by decide +kernel
theorem dX3_spelling_1 : decode cX3_spelling 1 = .ok (.tableswitch 85 0 9 #[55, 58, 61, 64, 67, 70, 73, 76, 79, 82], 55) := by decide +kernel
theorem dX3_spelling_56 : decode cX3_spelling 56 = .ok (.ldc 146, 2) := by decide +kernel
theorem dX3_spelling_58 : decode cX3_spelling 58 = .ok (.areturn, 1) := by decide +kernel
theorem dX3_spelling_59 : decode cX3_spelling 59 = .ok (.ldc 148, 2) := by decide +kernel
theorem dX3_spelling_61 : decode cX3_spelling 61 = .ok (.areturn, 1) := by decide +kernel
theorem dX3_spelling_62 : decode cX3_spelling 62 = .ok (.ldc 150, 2) := by decide +kernel
theorem dX3_spelling_64 : decode cX3_spelling 64 = .ok (.areturn, 1) := by decide +kernel
theorem dX3_spelling_65 : decode cX3_spelling 65 = .ok (.ldc 152, 2) := by decide +kernel
theorem dX3_spelling_67 : decode cX3_spelling 67 = .ok (.areturn, 1) := by decide +kernel
theorem dX3_spelling_68 : decode cX3_spelling 68 = .ok (.ldc 154, 2) := by decide +kernel
theorem dX3_spelling_70 : decode cX3_spelling 70 = .ok (.areturn, 1) := by decide +kernel
theorem dX3_spelling_71 : decode cX3_spelling 71 = .ok (.ldc 156, 2) := by decide +kernel
theorem dX3_spelling_73 : decode cX3_spelling 73 = .ok (.areturn, 1) := by decide +kernel
theorem dX3_spelling_74 : decode cX3_spelling 74 = .ok (.ldc 157, 2) := by decide +kernel
theorem dX3_spelling_76 : decode cX3_spelling 76 = .ok (.areturn, 1) := by decide +kernel
theorem dX3_spelling_77 : decode cX3_spelling 77 = .ok (.ldc 158, 2) := by decide +kernel
theorem dX3_spelling_79 : decode cX3_spelling 79 = .ok (.areturn, 1) := by decide +kernel
theorem dX3_spelling_80 : decode cX3_spelling 80 = .ok (.ldc 159, 2) := by decide +kernel
theorem dX3_spelling_82 : decode cX3_spelling 82 = .ok (.areturn, 1) := by decide +kernel
theorem dX3_spelling_83 : decode cX3_spelling 83 = .ok (.ldc 160, 2) := by decide +kernel
theorem dX3_spelling_85 : decode cX3_spelling 85 = .ok (.areturn, 1) := by decide +kernel
theorem dX3_spelling_86 : decode cX3_spelling 86 = .ok (.ldc 162, 2) := by decide +kernel
theorem dX3_spelling_88 : decode cX3_spelling 88 = .ok (.areturn, 1) := by decide +kernel
set_option maxRecDepth 20000 in
theorem ggX4_init_X3_init : GoodIn wsX4_init wsX3_init := goodIn_r _ [23, 24, 2, 3, 25, 26, 55, 56, 57, 58, 59, 60, 61, 62] (by decide +kernel) (by decide +kernel)
set_option maxRecDepth 20000 in
theorem gX4_init_X3_init_n11 : GoodIn wsX4_init (wsX3_init) := ggX4_init_X3_init
set_option maxRecDepth 20000 in
theorem ggX4_init_X2_init : GoodIn wsX4_init wsX2_init := goodIn_r _ [28, 29, 2, 3, 30, 31, 25, 32, 33, 70, 71, 72, 73, 74] (by decide +kernel) (by decide +kernel)
set_option maxRecDepth 20000 in
theorem gX4_init_X2_init_n18 : GoodIn wsX4_init (wsX2_init) := ggX4_init_X2_init
set_option maxRecDepth 20000 in
theorem ggX4_init_X0_init : GoodIn wsX4_init wsX0_init := goodIn_r _ [35, 36, 2, 3] (by decide +kernel) (by decide +kernel)
set_option maxRecDepth 20000 in
theorem gX4_init_X0_init_n25 : GoodIn wsX4_init (wsX0_init) := ggX4_init_X0_init
set_option maxRecDepth 20000 in
theorem ggX4_init_X1_init : GoodIn wsX4_init wsX1_init := goodIn_r _ [38, 39, 2, 3, 25, 40, 41, 42, 43, 44, 19, 45, 46, 47, 48, 49, 50, 51, 52, 53, 54, 83, 84, 85, 86, 87, 88, 89, 90, 91, 92, 93] (by decide +kernel) (by decide +kernel)
set_option maxRecDepth 20000 in
theorem gX4_init_X1_init_n36 : GoodIn wsX4_init (wsX1_init) := ggX4_init_X1_init
theorem dX4_init_0 : decode cX4_init 0 = .ok (.aload_n 0, 1) := by decide +kernel
theorem dX4_init_1 : decode cX4_init 1 = .ok (.invokespecial 3, 3) := by decide +kernel
theorem dX4_init_4 : decode cX4_init 4 = .ok (.aload_n 0, 1) := by decide +kernel
theorem dX4_init_5 : decode cX4_init 5 = .ok (.new 9, 3) := by decide +kernel
theorem dX4_init_8 : decode cX4_init 8 = .ok (.dup, 1) := by decide +kernel
theorem dX4_init_9 : decode cX4_init 9 = .ok (.invokespecial 11, 3) := by decide +kernel
theorem dX4_init_12 : decode cX4_init 12 = .ok (.putfield 12, 3) := by decide +kernel
theorem dX4_init_15 : decode cX4_init 15 = .ok (.aload_n 0, 1) := by decide +kernel
theorem dX4_init_16 : decode cX4_init 16 = .ok (.new 16, 3) := by decide +kernel
theorem dX4_init_19 : decode cX4_init 19 = .ok (.dup, 1) := by decide +kernel
theorem dX4_init_20 : decode cX4_init 20 = .ok (.invokespecial 18, 3) := by decide +kernel
theorem dX4_init_23 : decode cX4_init 23 = .ok (.putfield 19, 3) := by decide +kernel
theorem dX4_init_26 : decode cX4_init 26 = .ok (.aload_n 0, 1) := by decide +kernel
theorem dX4_init_27 : decode cX4_init 27 = .ok (.new 23, 3) := by decide +kernel
theorem dX4_init_30 : decode cX4_init 30 = .ok (.dup, 1) := by decide +kernel
theorem dX4_init_31 : decode cX4_init 31 = .ok (.invokespecial 25, 3) := by decide +kernel
theorem dX4_init_34 : decode cX4_init 34 = .ok (.putfield 26, 3) := by decide +kernel
theorem dX4_init_37 : decode cX4_init 37 = .ok (.aload_n 0, 1) := by decide +kernel
theorem dX4_init_38 : decode cX4_init 38 = .ok (.iconst 2, 1) := by decide +kernel
theorem dX4_init_39 : decode cX4_init 39 = .ok (.anewarray 23, 3) := by decide +kernel
theorem dX4_init_42 : decode cX4_init 42 = .ok (.dup, 1) := by decide +kernel
theorem dX4_init_43 : decode cX4_init 43 = .ok (.iconst 0, 1) := by decide +kernel
theorem dX4_init_44 : decode cX4_init 44 = .ok (.new 23, 3) := by decide +kernel
theorem dX4_init_47 : decode cX4_init 47 = .ok (.dup, 1) := by decide +kernel
theorem dX4_init_48 : decode cX4_init 48 = .ok (.invokespecial 25, 3) := by decide +kernel
theorem dX4_init_51 : decode cX4_init 51 = .ok (.aastore, 1) := by decide +kernel
theorem dX4_init_52 : decode cX4_init 52 = .ok (.dup, 1) := by decide +kernel
theorem dX4_init_53 : decode cX4_init 53 = .ok (.iconst 1, 1) := by decide +kernel
theorem dX4_init_54 : decode cX4_init 54 = .ok (.new 23, 3) := by decide +kernel
theorem dX4_init_57 : decode cX4_init 57 = .ok (.dup, 1) := by decide +kernel
theorem dX4_init_58 : decode cX4_init 58 = .ok (.invokespecial 25, 3) := by decide +kernel
theorem dX4_init_61 : decode cX4_init 61 = .ok (.aastore, 1) := by decide +kernel
theorem dX4_init_62 : decode cX4_init 62 = .ok (.putfield 30, 3) := by decide +kernel
theorem dX4_init_65 : decode cX4_init 65 = .ok (.aload_n 0, 1) := by decide +kernel
theorem dX4_init_66 : decode cX4_init 66 = .ok (.new 34, 3) := by decide +kernel
theorem dX4_init_69 : decode cX4_init 69 = .ok (.dup, 1) := by decide +kernel
theorem dX4_init_70 : decode cX4_init 70 = .ok (.invokespecial 36, 3) := by decide +kernel
theorem dX4_init_73 : decode cX4_init 73 = .ok (.putfield 37, 3) := by decide +kernel
theorem dX4_init_76 : decode cX4_init 76 = .ok (.aload_n 0, 1) := by decide +kernel
theorem dX4_init_77 : decode cX4_init 77 = .ok (.new 34, 3) := by decide +kernel
theorem dX4_init_80 : decode cX4_init 80 = .ok (.dup, 1) := by decide +kernel
theorem dX4_init_81 : decode cX4_init 81 = .ok (.invokespecial 36, 3) := by decide +kernel
theorem dX4_init_84 : decode cX4_init 84 = .ok (.putfield 41, 3) := by decide +kernel
theorem dX4_init_87 : decode cX4_init 87 = .ok (.return_, 1) := by decide +kernel
set_option maxRecDepth 20000 in
theorem ggX4_type_X3_append : GoodIn wsX4_type wsX3_append := goodIn_r _ [5, 6, 7, 15, 16, 17, 18, 19, 20, 21, 22] (by decide +kernel) (by decide +kernel)
set_option maxRecDepth 20000 in
theorem gX4_type_X3_append_n48 : GoodIn wsX4_type (wsX3_append) := ggX4_type_X3_append
theorem dX4_type_0 : decode cX4_type 0 = .ok (.iload_n 3, 1) := by decide +kernel
theorem dX4_type_1 : decode cX4_type 1 = .ok (.iconst 1, 1) := by decide +kernel
theorem dX4_type_2 : decode cX4_type 2 = .ok (.if_icmp .lt 9, 3) := by decide +kernel
theorem dX4_type_5 : decode cX4_type 5 = .ok (.iload_n 3, 1) := by decide +kernel
theorem dX4_type_6 : decode cX4_type 6 = .ok (.bipush 8, 2) := by decide +kernel
theorem dX4_type_8 : decode cX4_type 8 = .ok (.if_icmp .le 5, 3) := by decide +kernel
theorem dX4_type_11 : decode cX4_type 11 = .ok (.iconst (-1), 1) := by decide +kernel
theorem dX4_type_12 : decode cX4_type 12 = .ok (.ireturn, 1) := by decide +kernel
theorem dX4_type_13 : decode cX4_type 13 = .ok (.iload_n 3, 1) := by decide +kernel
theorem dX4_type_14 : decode cX4_type 14 = .ok (.sipush 200, 3) := by decide +kernel
theorem dX4_type_17 : decode cX4_type 17 = .ok (.aload_n 0, 1) := by decide +kernel
theorem dX4_type_18 : decode cX4_type 18 = .ok (.getfield 12, 3) := by decide +kernel
theorem dX4_type_21 : decode cX4_type 21 = .ok (.getfield 44, 3) := by decide +kernel
theorem dX4_type_24 : decode cX4_type 24 = .ok (.isub, 1) := by decide +kernel
theorem dX4_type_25 : decode cX4_type 25 = .ok (.if_icmp .le 6, 3) := by decide +kernel
theorem dX4_type_28 : decode cX4_type 28 = .ok (.bipush (-3), 2) := by decide +kernel
theorem dX4_type_30 : decode cX4_type 30 = .ok (.ireturn, 1) := by decide +kernel
theorem dX4_type_31 : decode cX4_type 31 = .ok (.iload_n 3, 1) := by decide +kernel
theorem dX4_type_32 : decode cX4_type 32 = .ok (.iconst 1, 1) := by decide +kernel
theorem dX4_type_33 : decode cX4_type 33 = .ok (.isub, 1) := by decide +kernel
theorem dX4_type_34 : decode cX4_type 34 = .ok (.istore 4, 2) := by decide +kernel
theorem dX4_type_36 : decode cX4_type 36 = .ok (.iload 4, 2) := by decide +kernel
theorem dX4_type_38 : decode cX4_type 38 = .ok (.ifCond .lt 28, 3) := by decide +kernel
theorem dX4_type_41 : decode cX4_type 41 = .ok (.aload_n 0, 1) := by decide +kernel
theorem dX4_type_42 : decode cX4_type 42 = .ok (.getfield 12, 3) := by decide +kernel
theorem dX4_type_45 : decode cX4_type 45 = .ok (.lload_n 1, 1) := by decide +kernel
theorem dX4_type_46 : decode cX4_type 46 = .ok (.bipush 8, 2) := by decide +kernel
theorem dX4_type_48 : decode cX4_type 48 = .ok (.iload 4, 2) := by decide +kernel
theorem dX4_type_50 : decode cX4_type 50 = .ok (.imul, 1) := by decide +kernel
theorem dX4_type_51 : decode cX4_type 51 = .ok (.lushr, 1) := by decide +kernel
theorem dX4_type_52 : decode cX4_type 52 = .ok (.l2i, 1) := by decide +kernel
theorem dX4_type_53 : decode cX4_type 53 = .ok (.sipush 255, 3) := by decide +kernel
theorem dX4_type_56 : decode cX4_type 56 = .ok (.iand, 1) := by decide +kernel
theorem dX4_type_57 : decode cX4_type 57 = .ok (.invokevirtual 48, 3) := by decide +kernel
theorem dX4_type_60 : decode cX4_type 60 = .ok (.iinc 4 (-1), 3) := by decide +kernel
theorem dX4_type_63 : decode cX4_type 63 = .ok (.goto (-27), 3) := by decide +kernel
theorem dX4_type_66 : decode cX4_type 66 = .ok (.aload_n 0, 1) := by decide +kernel
theorem dX4_type_67 : decode cX4_type 67 = .ok (.getfield 12, 3) := by decide +kernel
theorem dX4_type_70 : decode cX4_type 70 = .ok (.getfield 44, 3) := by decide +kernel
theorem dX4_type_73 : decode cX4_type 73 = .ok (.ireturn, 1) := by decide +kernel
theorem dX4_clear_0 : decode cX4_clear 0 = .ok (.aload_n 0, 1) := by decide +kernel
theorem dX4_clear_1 : decode cX4_clear 1 = .ok (.getfield 12, 3) := by decide +kernel
theorem dX4_clear_4 : decode cX4_clear 4 = .ok (.getfield 44, 3) := by decide +kernel
theorem dX4_clear_7 : decode cX4_clear 7 = .ok (.istore_n 1, 1) := by decide +kernel
theorem dX4_clear_8 : decode cX4_clear 8 = .ok (.aload_n 0, 1) := by decide +kernel
theorem dX4_clear_9 : decode cX4_clear 9 = .ok (.getfield 12, 3) := by decide +kernel
theorem dX4_clear_12 : decode cX4_clear 12 = .ok (.iconst 0, 1) := by decide +kernel
theorem dX4_clear_13 : decode cX4_clear 13 = .ok (.putfield 44, 3) := by decide +kernel
theorem dX4_clear_16 : decode cX4_clear 16 = .ok (.iload_n 1, 1) := by decide +kernel
theorem dX4_clear_17 : decode cX4_clear 17 = .ok (.ireturn, 1) := by decide +kernel
set_option maxRecDepth 20000 in
theorem ggX4_house_X3_tell : GoodIn wsX4_house wsX3_tell := goodIn_r _ [10, 11, 12, 13, 14, 15, 16, 17, 18, 19, 20, 21, 22, 23, 24, 25, 26, 27, 28, 29, 30, 31, 8, 32, 33, 34, 35, 36, 37, 38, 39, 40, 41, 42, 43, 44, 45, 46, 47, 48, 49, 50, 51, 52, 53, 54, 55, 56, 57, 58, 59, 60, 61, 62, 63, 64, 65, 66, 67, 68, 69, 70, 71, 72, 73, 74, 75, 76, 77, 78, 79, 80, 81, 82, 83, 84, 85, 86, 87, 88, 89, 90, 91, 92, 93, 94, 95, 96, 97, 98, 99, 100, 101, 102, 103, 104, 105, 106, 107, 108, 109, 110, 111, 112, 113, 114, 115, 116, 117, 118, 119, 120, 121, 122, 123, 124, 125, 126, 127, 128, 129, 130, 131, 132, 133, 134, 135, 136, 137, 138, 139, 140, 141, 142, 143, 144, 145, 146, 147, 148, 149, 168, 169, 170, 171, 172, 173, 174, 175, 181, 182, 183, 184, 185, 186, 187, 188, 189, 190, 191] (by decide +kernel) (by decide +kernel)
set_option maxRecDepth 20000 in
theorem gX4_house_X3_tell_n52 : GoodIn wsX4_house (wsX3_tell) := ggX4_house_X3_tell
set_option maxRecDepth 20000 in
theorem ggX4_house_X0_begin : GoodIn wsX4_house wsX0_begin := goodIn_r _ [153, 154, 155, 156, 157, 158, 159, 160, 192, 193, 194, 195, 196, 197, 198, 199] (by decide +kernel) (by decide +kernel)
set_option maxRecDepth 20000 in
theorem gX4_house_X0_begin_n63 : GoodIn wsX4_house (wsX0_begin) := ggX4_house_X0_begin
theorem dX4_house_0 : decode cX4_house 0 = .ok (.aload_n 0, 1) := by decide +kernel
theorem dX4_house_1 : decode cX4_house 1 = .ok (.getfield 12, 3) := by decide +kernel
theorem dX4_house_4 : decode cX4_house 4 = .ok (.aload_n 0, 1) := by decide +kernel
theorem dX4_house_5 : decode cX4_house 5 = .ok (.getfield 41, 3) := by decide +kernel
theorem dX4_house_8 : decode cX4_house 8 = .ok (.invokevirtual 52, 3) := by decide +kernel
theorem dX4_house_11 : decode cX4_house 11 = .ok (.istore_n 1, 1) := by decide +kernel
theorem dX4_house_12 : decode cX4_house 12 = .ok (.iload_n 1, 1) := by decide +kernel
theorem dX4_house_13 : decode cX4_house 13 = .ok (.ifCond .ge 5, 3) := by decide +kernel
theorem dX4_house_16 : decode cX4_house 16 = .ok (.iload_n 1, 1) := by decide +kernel
theorem dX4_house_17 : decode cX4_house 17 = .ok (.ireturn, 1) := by decide +kernel
theorem dX4_house_18 : decode cX4_house 18 = .ok (.aload_n 0, 1) := by decide +kernel
theorem dX4_house_19 : decode cX4_house 19 = .ok (.getfield 37, 3) := by decide +kernel
theorem dX4_house_22 : decode cX4_house 22 = .ok (.astore_n 2, 1) := by decide +kernel
theorem dX4_house_23 : decode cX4_house 23 = .ok (.aload_n 0, 1) := by decide +kernel
theorem dX4_house_24 : decode cX4_house 24 = .ok (.aload_n 0, 1) := by decide +kernel
theorem dX4_house_25 : decode cX4_house 25 = .ok (.getfield 41, 3) := by decide +kernel
theorem dX4_house_28 : decode cX4_house 28 = .ok (.putfield 37, 3) := by decide +kernel
theorem dX4_house_31 : decode cX4_house 31 = .ok (.aload_n 0, 1) := by decide +kernel
theorem dX4_house_32 : decode cX4_house 32 = .ok (.aload_n 2, 1) := by decide +kernel
theorem dX4_house_33 : decode cX4_house 33 = .ok (.putfield 41, 3) := by decide +kernel
theorem dX4_house_36 : decode cX4_house 36 = .ok (.aload_n 0, 1) := by decide +kernel
theorem dX4_house_37 : decode cX4_house 37 = .ok (.getfield 12, 3) := by decide +kernel
theorem dX4_house_40 : decode cX4_house 40 = .ok (.iconst 0, 1) := by decide +kernel
theorem dX4_house_41 : decode cX4_house 41 = .ok (.putfield 44, 3) := by decide +kernel
theorem dX4_house_44 : decode cX4_house 44 = .ok (.aload_n 0, 1) := by decide +kernel
theorem dX4_house_45 : decode cX4_house 45 = .ok (.getfield 19, 3) := by decide +kernel
theorem dX4_house_48 : decode cX4_house 48 = .ok (.iconst 0, 1) := by decide +kernel
theorem dX4_house_49 : decode cX4_house 49 = .ok (.putfield 56, 3) := by decide +kernel
theorem dX4_house_52 : decode cX4_house 52 = .ok (.aload_n 0, 1) := by decide +kernel
theorem dX4_house_53 : decode cX4_house 53 = .ok (.getfield 26, 3) := by decide +kernel
theorem dX4_house_56 : decode cX4_house 56 = .ok (.aload_n 0, 1) := by decide +kernel
theorem dX4_house_57 : decode cX4_house 57 = .ok (.getfield 37, 3) := by decide +kernel
theorem dX4_house_60 : decode cX4_house 60 = .ok (.getfield 60, 3) := by decide +kernel
theorem dX4_house_63 : decode cX4_house 63 = .ok (.invokevirtual 63, 3) := by decide +kernel
theorem dX4_house_66 : decode cX4_house 66 = .ok (.iconst 0, 1) := by decide +kernel
theorem dX4_house_67 : decode cX4_house 67 = .ok (.istore_n 3, 1) := by decide +kernel
theorem dX4_house_68 : decode cX4_house 68 = .ok (.iload_n 3, 1) := by decide +kernel
theorem dX4_house_69 : decode cX4_house 69 = .ok (.aload_n 0, 1) := by decide +kernel
theorem dX4_house_70 : decode cX4_house 70 = .ok (.getfield 30, 3) := by decide +kernel
theorem dX4_house_73 : decode cX4_house 73 = .ok (.arraylength, 1) := by decide +kernel
theorem dX4_house_74 : decode cX4_house 74 = .ok (.if_icmp .ge 19, 3) := by decide +kernel
theorem dX4_house_77 : decode cX4_house 77 = .ok (.aload_n 0, 1) := by decide +kernel
theorem dX4_house_78 : decode cX4_house 78 = .ok (.getfield 30, 3) := by decide +kernel
theorem dX4_house_81 : decode cX4_house 81 = .ok (.iload_n 3, 1) := by decide +kernel
theorem dX4_house_82 : decode cX4_house 82 = .ok (.aaload, 1) := by decide +kernel
theorem dX4_house_83 : decode cX4_house 83 = .ok (.iconst 0, 1) := by decide +kernel
theorem dX4_house_84 : decode cX4_house 84 = .ok (.putfield 66, 3) := by decide +kernel
theorem dX4_house_87 : decode cX4_house 87 = .ok (.iinc 3 1, 3) := by decide +kernel
theorem dX4_house_90 : decode cX4_house 90 = .ok (.goto (-22), 3) := by decide +kernel
theorem dX4_house_93 : decode cX4_house 93 = .ok (.iload_n 1, 1) := by decide +kernel
theorem dX4_house_94 : decode cX4_house 94 = .ok (.ireturn, 1) := by decide +kernel
set_option maxRecDepth 20000 in
theorem ggX4_panel_X1_hasPanel : GoodIn wsX4_panel wsX1_hasPanel := goodIn_r _ [6, 7, 8, 32, 33, 34, 35, 36, 37, 38, 39, 40, 41, 42] (by decide +kernel) (by decide +kernel)
set_option maxRecDepth 20000 in
theorem gX4_panel_X1_hasPanel_n69 : GoodIn wsX4_panel (wsX1_hasPanel) := ggX4_panel_X1_hasPanel
set_option maxRecDepth 20000 in
theorem ggX4_panel_X1_sortOf : GoodIn wsX4_panel wsX1_sortOf := goodIn_r _ [11, 8, 12, 3, 5, 4, 6, 7, 32, 33, 34, 35, 36, 37, 38, 39, 40, 41, 42] (by decide +kernel) (by decide +kernel)
set_option maxRecDepth 20000 in
theorem gX4_panel_X1_sortOf_n73 : GoodIn wsX4_panel (wsX1_sortOf) := ggX4_panel_X1_sortOf
set_option maxRecDepth 20000 in
theorem ggX4_panel_X4_placeIn : GoodIn wsX4_panel wsX4_placeIn := goodIn_r _ [16] (by decide +kernel) (by decide +kernel)
set_option maxRecDepth 20000 in
theorem gX4_panel_X4_placeIn : GoodIn wsX4_panel (va_wsS RX4 80 yX4_placeIn wsX4_placeIn) := goodIn_app (goodIn_of _ (by decide +kernel)) ggX4_panel_X4_placeIn
theorem dX4_panel_0 : decode cX4_panel 0 = .ok (.aload_n 0, 1) := by decide +kernel
theorem dX4_panel_1 : decode cX4_panel 1 = .ok (.getfield 37, 3) := by decide +kernel
theorem dX4_panel_4 : decode cX4_panel 4 = .ok (.iload_n 1, 1) := by decide +kernel
theorem dX4_panel_5 : decode cX4_panel 5 = .ok (.invokevirtual 69, 3) := by decide +kernel
theorem dX4_panel_8 : decode cX4_panel 8 = .ok (.ifCond .ne 5, 3) := by decide +kernel
theorem dX4_panel_11 : decode cX4_panel 11 = .ok (.iconst (-1), 1) := by decide +kernel
theorem dX4_panel_12 : decode cX4_panel 12 = .ok (.ireturn, 1) := by decide +kernel
theorem dX4_panel_13 : decode cX4_panel 13 = .ok (.iload_n 2, 1) := by decide +kernel
theorem dX4_panel_14 : decode cX4_panel 14 = .ok (.lookupswitch 47 #[(0, 26), (1, 35)], 26) := by decide +kernel
theorem dX4_panel_40 : decode cX4_panel 40 = .ok (.aload_n 0, 1) := by decide +kernel
theorem dX4_panel_41 : decode cX4_panel 41 = .ok (.getfield 37, 3) := by decide +kernel
theorem dX4_panel_44 : decode cX4_panel 44 = .ok (.iload_n 1, 1) := by decide +kernel
theorem dX4_panel_45 : decode cX4_panel 45 = .ok (.invokevirtual 73, 3) := by decide +kernel
theorem dX4_panel_48 : decode cX4_panel 48 = .ok (.ireturn, 1) := by decide +kernel
theorem dX4_panel_49 : decode cX4_panel 49 = .ok (.aload_n 0, 1) := by decide +kernel
theorem dX4_panel_50 : decode cX4_panel 50 = .ok (.getfield 26, 3) := by decide +kernel
theorem dX4_panel_53 : decode cX4_panel 53 = .ok (.getfield 77, 3) := by decide +kernel
theorem dX4_panel_56 : decode cX4_panel 56 = .ok (.iload_n 1, 1) := by decide +kernel
theorem dX4_panel_57 : decode cX4_panel 57 = .ok (.invokestatic 80, 3) := by decide +kernel
theorem dX4_panel_60 : decode cX4_panel 60 = .ok (.ireturn, 1) := by decide +kernel
theorem dX4_panel_61 : decode cX4_panel 61 = .ok (.iconst (-1), 1) := by decide +kernel
theorem dX4_panel_62 : decode cX4_panel 62 = .ok (.ireturn, 1) := by decide +kernel
set_option maxRecDepth 20000 in
theorem ggX4_slot_X4_isSlot : GoodIn wsX4_slot wsX4_isSlot := goodIn_r _ [6] (by decide +kernel) (by decide +kernel)
set_option maxRecDepth 20000 in
theorem gX4_slot_X4_isSlot : GoodIn wsX4_slot (va_wsS RX4 84 yX4_isSlot wsX4_isSlot) := goodIn_app (goodIn_of _ (by decide +kernel)) ggX4_slot_X4_isSlot
set_option maxRecDepth 20000 in
theorem ggX4_slot_X1_panelAt : GoodIn wsX4_slot wsX1_panelAt := goodIn_r _ [10, 11, 12, 5, 13, 29, 30, 31, 32, 33, 34, 35, 36, 37, 38, 39] (by decide +kernel) (by decide +kernel)
set_option maxRecDepth 20000 in
theorem gX4_slot_X1_panelAt_n87 : GoodIn wsX4_slot (wsX1_panelAt) := ggX4_slot_X1_panelAt
theorem dX4_slot_0 : decode cX4_slot 0 = .ok (.iload_n 1, 1) := by decide +kernel
theorem dX4_slot_1 : decode cX4_slot 1 = .ok (.invokestatic 84, 3) := by decide +kernel
theorem dX4_slot_4 : decode cX4_slot 4 = .ok (.ifCond .ne 5, 3) := by decide +kernel
theorem dX4_slot_7 : decode cX4_slot 7 = .ok (.iconst (-1), 1) := by decide +kernel
theorem dX4_slot_8 : decode cX4_slot 8 = .ok (.ireturn, 1) := by decide +kernel
theorem dX4_slot_9 : decode cX4_slot 9 = .ok (.iload_n 2, 1) := by decide +kernel
theorem dX4_slot_10 : decode cX4_slot 10 = .ok (.tableswitch 66 0 2 #[26, 42, 54], 26) := by decide +kernel
theorem dX4_slot_36 : decode cX4_slot 36 = .ok (.aload_n 0, 1) := by decide +kernel
theorem dX4_slot_37 : decode cX4_slot 37 = .ok (.getfield 37, 3) := by decide +kernel
theorem dX4_slot_40 : decode cX4_slot 40 = .ok (.aload_n 0, 1) := by decide +kernel
theorem dX4_slot_41 : decode cX4_slot 41 = .ok (.getfield 26, 3) := by decide +kernel
theorem dX4_slot_44 : decode cX4_slot 44 = .ok (.getfield 77, 3) := by decide +kernel
theorem dX4_slot_47 : decode cX4_slot 47 = .ok (.iload_n 1, 1) := by decide +kernel
theorem dX4_slot_48 : decode cX4_slot 48 = .ok (.invokevirtual 87, 3) := by decide +kernel
theorem dX4_slot_51 : decode cX4_slot 51 = .ok (.ireturn, 1) := by decide +kernel
theorem dX4_slot_52 : decode cX4_slot 52 = .ok (.aload_n 0, 1) := by decide +kernel
theorem dX4_slot_53 : decode cX4_slot 53 = .ok (.getfield 37, 3) := by decide +kernel
theorem dX4_slot_56 : decode cX4_slot 56 = .ok (.getfield 90, 3) := by decide +kernel
theorem dX4_slot_59 : decode cX4_slot 59 = .ok (.iload_n 1, 1) := by decide +kernel
theorem dX4_slot_60 : decode cX4_slot 60 = .ok (.ishr, 1) := by decide +kernel
theorem dX4_slot_61 : decode cX4_slot 61 = .ok (.iconst 1, 1) := by decide +kernel
theorem dX4_slot_62 : decode cX4_slot 62 = .ok (.iand, 1) := by decide +kernel
theorem dX4_slot_63 : decode cX4_slot 63 = .ok (.ireturn, 1) := by decide +kernel
theorem dX4_slot_64 : decode cX4_slot 64 = .ok (.aload_n 0, 1) := by decide +kernel
theorem dX4_slot_65 : decode cX4_slot 65 = .ok (.getfield 37, 3) := by decide +kernel
theorem dX4_slot_68 : decode cX4_slot 68 = .ok (.getfield 93, 3) := by decide +kernel
theorem dX4_slot_71 : decode cX4_slot 71 = .ok (.iload_n 1, 1) := by decide +kernel
theorem dX4_slot_72 : decode cX4_slot 72 = .ok (.ishr, 1) := by decide +kernel
theorem dX4_slot_73 : decode cX4_slot 73 = .ok (.iconst 1, 1) := by decide +kernel
theorem dX4_slot_74 : decode cX4_slot 74 = .ok (.iand, 1) := by decide +kernel
theorem dX4_slot_75 : decode cX4_slot 75 = .ok (.ireturn, 1) := by decide +kernel
theorem dX4_slot_76 : decode cX4_slot 76 = .ok (.iconst (-1), 1) := by decide +kernel
theorem dX4_slot_77 : decode cX4_slot 77 = .ok (.ireturn, 1) := by decide +kernel
theorem dX4_told_0 : decode cX4_told 0 = .ok (.iload_n 1, 1) := by decide +kernel
theorem dX4_told_1 : decode cX4_told 1 = .ok (.tableswitch 63 0 3 #[31, 39, 47, 55], 31) := by decide +kernel
theorem dX4_told_32 : decode cX4_told 32 = .ok (.aload_n 0, 1) := by decide +kernel
theorem dX4_told_33 : decode cX4_told 33 = .ok (.getfield 37, 3) := by decide +kernel
theorem dX4_told_36 : decode cX4_told 36 = .ok (.getfield 96, 3) := by decide +kernel
theorem dX4_told_39 : decode cX4_told 39 = .ok (.ireturn, 1) := by decide +kernel
theorem dX4_told_40 : decode cX4_told 40 = .ok (.aload_n 0, 1) := by decide +kernel
theorem dX4_told_41 : decode cX4_told 41 = .ok (.getfield 37, 3) := by decide +kernel
theorem dX4_told_44 : decode cX4_told 44 = .ok (.getfield 99, 3) := by decide +kernel
theorem dX4_told_47 : decode cX4_told 47 = .ok (.ireturn, 1) := by decide +kernel
theorem dX4_told_48 : decode cX4_told 48 = .ok (.aload_n 0, 1) := by decide +kernel
theorem dX4_told_49 : decode cX4_told 49 = .ok (.getfield 37, 3) := by decide +kernel
theorem dX4_told_52 : decode cX4_told 52 = .ok (.getfield 102, 3) := by decide +kernel
theorem dX4_told_55 : decode cX4_told 55 = .ok (.ireturn, 1) := by decide +kernel
theorem dX4_told_56 : decode cX4_told 56 = .ok (.aload_n 0, 1) := by decide +kernel
theorem dX4_told_57 : decode cX4_told 57 = .ok (.getfield 37, 3) := by decide +kernel
theorem dX4_told_60 : decode cX4_told 60 = .ok (.getfield 105, 3) := by decide +kernel
theorem dX4_told_63 : decode cX4_told 63 = .ok (.ireturn, 1) := by decide +kernel
theorem dX4_told_64 : decode cX4_told 64 = .ok (.iconst (-1), 1) := by decide +kernel
theorem dX4_told_65 : decode cX4_told 65 = .ok (.ireturn, 1) := by decide +kernel
set_option maxRecDepth 20000 in
theorem ggX4_beam_X1_hasBeam : GoodIn wsX4_beam wsX1_hasBeam := goodIn_r _ [6, 7, 8, 40, 41, 42, 43, 44, 45, 46, 47, 48, 49, 50] (by decide +kernel) (by decide +kernel)
set_option maxRecDepth 20000 in
theorem gX4_beam_X1_hasBeam_n108 : GoodIn wsX4_beam (wsX1_hasBeam) := ggX4_beam_X1_hasBeam
set_option maxRecDepth 20000 in
theorem ggX4_beam_X1_isBorne : GoodIn wsX4_beam wsX1_isBorne := goodIn_r _ [11, 8, 12, 3, 5, 4, 6, 7, 13, 14, 15, 16, 17, 18, 19, 20, 21, 40, 41, 42, 43, 44, 45, 46, 47, 48, 49, 50] (by decide +kernel) (by decide +kernel)
set_option maxRecDepth 20000 in
theorem gX4_beam_X1_isBorne_n111 : GoodIn wsX4_beam (wsX1_isBorne) := ggX4_beam_X1_isBorne
set_option maxRecDepth 20000 in
theorem ggX4_beam_X4_asNumber : GoodIn wsX4_beam wsX4_asNumber := goodIn_r _ [24] (by decide +kernel) (by decide +kernel)
set_option maxRecDepth 20000 in
theorem gX4_beam_X4_asNumber : GoodIn wsX4_beam (va_wsS RX4 115 yX4_asNumber wsX4_asNumber) := goodIn_app (goodIn_of _ (by decide +kernel)) ggX4_beam_X4_asNumber
theorem dX4_beam_0 : decode cX4_beam 0 = .ok (.aload_n 0, 1) := by decide +kernel
theorem dX4_beam_1 : decode cX4_beam 1 = .ok (.getfield 37, 3) := by decide +kernel
theorem dX4_beam_4 : decode cX4_beam 4 = .ok (.iload_n 1, 1) := by decide +kernel
theorem dX4_beam_5 : decode cX4_beam 5 = .ok (.invokevirtual 108, 3) := by decide +kernel
theorem dX4_beam_8 : decode cX4_beam 8 = .ok (.ifCond .ne 5, 3) := by decide +kernel
theorem dX4_beam_11 : decode cX4_beam 11 = .ok (.iconst (-1), 1) := by decide +kernel
theorem dX4_beam_12 : decode cX4_beam 12 = .ok (.ireturn, 1) := by decide +kernel
theorem dX4_beam_13 : decode cX4_beam 13 = .ok (.aload_n 0, 1) := by decide +kernel
theorem dX4_beam_14 : decode cX4_beam 14 = .ok (.getfield 37, 3) := by decide +kernel
theorem dX4_beam_17 : decode cX4_beam 17 = .ok (.aload_n 0, 1) := by decide +kernel
theorem dX4_beam_18 : decode cX4_beam 18 = .ok (.getfield 26, 3) := by decide +kernel
theorem dX4_beam_21 : decode cX4_beam 21 = .ok (.getfield 77, 3) := by decide +kernel
theorem dX4_beam_24 : decode cX4_beam 24 = .ok (.iload_n 1, 1) := by decide +kernel
theorem dX4_beam_25 : decode cX4_beam 25 = .ok (.invokevirtual 111, 3) := by decide +kernel
theorem dX4_beam_28 : decode cX4_beam 28 = .ok (.invokestatic 115, 3) := by decide +kernel
theorem dX4_beam_31 : decode cX4_beam 31 = .ok (.ireturn, 1) := by decide +kernel
set_option maxRecDepth 20000 in
theorem ggX4_down_X1_hasPanel : GoodIn wsX4_down wsX1_hasPanel := goodIn_r _ [6, 7, 8, 67, 68, 69, 70, 71, 72, 73, 74, 75, 76, 77] (by decide +kernel) (by decide +kernel)
set_option maxRecDepth 20000 in
theorem gX4_down_X1_hasPanel_n69 : GoodIn wsX4_down (wsX1_hasPanel) := ggX4_down_X1_hasPanel
set_option maxRecDepth 20000 in
theorem ggX4_down_X4_placeIn : GoodIn wsX4_down wsX4_placeIn := goodIn_r _ [12] (by decide +kernel) (by decide +kernel)
set_option maxRecDepth 20000 in
theorem gX4_down_X4_placeIn : GoodIn wsX4_down (va_wsS RX4 80 yX4_placeIn wsX4_placeIn) := goodIn_app (goodIn_of _ (by decide +kernel)) ggX4_down_X4_placeIn
set_option maxRecDepth 20000 in
theorem ggX4_down_X4_act : GoodIn wsX4_down wsX4_act := goodIn_r _ [16, 2, 1, 17, 18, 11, 19, 9, 10, 12, 20, 21, 22, 23, 4, 24, 25, 26, 7, 27, 28, 29, 30, 31, 32, 33, 34, 35, 8, 36, 37, 38, 39, 40, 41, 42, 43, 44, 45, 46, 47, 48, 49, 50, 51, 52, 53, 54, 55, 56, 57, 58, 59, 60, 61, 62, 63, 64, 65, 66, 67, 68, 69, 70, 71, 72, 73, 74, 75, 76, 77] (by decide +kernel) (by decide +kernel)
set_option maxRecDepth 20000 in
theorem gX4_down_X4_act : GoodIn wsX4_down (wsV RX4 119 RX4 yX4_act wsX4_act) := goodIn_app (goodIn_of _ (by decide +kernel)) ggX4_down_X4_act
theorem dX4_down_0 : decode cX4_down 0 = .ok (.aload_n 0, 1) := by decide +kernel
theorem dX4_down_1 : decode cX4_down 1 = .ok (.getfield 37, 3) := by decide +kernel
theorem dX4_down_4 : decode cX4_down 4 = .ok (.iload_n 1, 1) := by decide +kernel
theorem dX4_down_5 : decode cX4_down 5 = .ok (.invokevirtual 69, 3) := by decide +kernel
theorem dX4_down_8 : decode cX4_down 8 = .ok (.ifCond .ne 5, 3) := by decide +kernel
theorem dX4_down_11 : decode cX4_down 11 = .ok (.iconst (-1), 1) := by decide +kernel
theorem dX4_down_12 : decode cX4_down 12 = .ok (.ireturn, 1) := by decide +kernel
theorem dX4_down_13 : decode cX4_down 13 = .ok (.aload_n 0, 1) := by decide +kernel
theorem dX4_down_14 : decode cX4_down 14 = .ok (.getfield 26, 3) := by decide +kernel
theorem dX4_down_17 : decode cX4_down 17 = .ok (.getfield 77, 3) := by decide +kernel
theorem dX4_down_20 : decode cX4_down 20 = .ok (.iload_n 1, 1) := by decide +kernel
theorem dX4_down_21 : decode cX4_down 21 = .ok (.invokestatic 80, 3) := by decide +kernel
theorem dX4_down_24 : decode cX4_down 24 = .ok (.bipush 8, 2) := by decide +kernel
theorem dX4_down_26 : decode cX4_down 26 = .ok (.if_icmp .ne 6, 3) := by decide +kernel
theorem dX4_down_29 : decode cX4_down 29 = .ok (.bipush (-2), 2) := by decide +kernel
theorem dX4_down_31 : decode cX4_down 31 = .ok (.ireturn, 1) := by decide +kernel
theorem dX4_down_32 : decode cX4_down 32 = .ok (.aload_n 0, 1) := by decide +kernel
theorem dX4_down_33 : decode cX4_down 33 = .ok (.iload_n 1, 1) := by decide +kernel
theorem dX4_down_34 : decode cX4_down 34 = .ok (.bipush 8, 2) := by decide +kernel
theorem dX4_down_36 : decode cX4_down 36 = .ok (.invokevirtual 119, 3) := by decide +kernel
theorem dX4_down_39 : decode cX4_down 39 = .ok (.ireturn, 1) := by decide +kernel
set_option maxRecDepth 20000 in
theorem ggX4_up_X1_hasPanel : GoodIn wsX4_up wsX1_hasPanel := goodIn_r _ [6, 7, 8, 73, 74, 75, 76, 77, 78, 79, 80, 81, 82, 83] (by decide +kernel) (by decide +kernel)
set_option maxRecDepth 20000 in
theorem gX4_up_X1_hasPanel_n69 : GoodIn wsX4_up (wsX1_hasPanel) := ggX4_up_X1_hasPanel
set_option maxRecDepth 20000 in
theorem ggX4_up_X4_isSlot : GoodIn wsX4_up wsX4_isSlot := goodIn_r _ [12] (by decide +kernel) (by decide +kernel)
set_option maxRecDepth 20000 in
theorem gX4_up_X4_isSlot : GoodIn wsX4_up (va_wsS RX4 84 yX4_isSlot wsX4_isSlot) := goodIn_app (goodIn_of _ (by decide +kernel)) ggX4_up_X4_isSlot
set_option maxRecDepth 20000 in
theorem ggX4_up_X4_placeIn : GoodIn wsX4_up wsX4_placeIn := goodIn_r _ [15] (by decide +kernel) (by decide +kernel)
set_option maxRecDepth 20000 in
theorem gX4_up_X4_placeIn : GoodIn wsX4_up (va_wsS RX4 80 yX4_placeIn wsX4_placeIn) := goodIn_app (goodIn_of _ (by decide +kernel)) ggX4_up_X4_placeIn
set_option maxRecDepth 20000 in
theorem ggX4_up_X1_panelAt : GoodIn wsX4_up wsX1_panelAt := goodIn_r _ [18, 7, 14, 11, 15, 73, 74, 75, 76, 77, 78, 79, 80, 81, 82, 83] (by decide +kernel) (by decide +kernel)
set_option maxRecDepth 20000 in
theorem gX4_up_X1_panelAt_n87 : GoodIn wsX4_up (wsX1_panelAt) := ggX4_up_X1_panelAt
set_option maxRecDepth 20000 in
theorem ggX4_up_X4_act : GoodIn wsX4_up wsX4_act := goodIn_r _ [22, 2, 1, 23, 24, 11, 25, 13, 14, 15, 26, 27, 28, 29, 4, 30, 31, 32, 7, 33, 34, 35, 36, 37, 38, 39, 40, 41, 8, 42, 43, 44, 45, 46, 47, 48, 49, 50, 51, 52, 53, 54, 55, 56, 57, 58, 59, 60, 61, 62, 63, 64, 65, 66, 67, 68, 69, 70, 71, 72, 73, 74, 75, 76, 77, 78, 79, 80, 81, 82, 83] (by decide +kernel) (by decide +kernel)
set_option maxRecDepth 20000 in
theorem gX4_up_X4_act : GoodIn wsX4_up (wsV RX4 119 RX4 yX4_act wsX4_act) := goodIn_app (goodIn_of _ (by decide +kernel)) ggX4_up_X4_act
theorem dX4_up_0 : decode cX4_up 0 = .ok (.aload_n 0, 1) := by decide +kernel
theorem dX4_up_1 : decode cX4_up 1 = .ok (.getfield 37, 3) := by decide +kernel
theorem dX4_up_4 : decode cX4_up 4 = .ok (.iload_n 1, 1) := by decide +kernel
theorem dX4_up_5 : decode cX4_up 5 = .ok (.invokevirtual 69, 3) := by decide +kernel
theorem dX4_up_8 : decode cX4_up 8 = .ok (.ifCond .eq 10, 3) := by decide +kernel
theorem dX4_up_11 : decode cX4_up 11 = .ok (.iload_n 2, 1) := by decide +kernel
theorem dX4_up_12 : decode cX4_up 12 = .ok (.invokestatic 84, 3) := by decide +kernel
theorem dX4_up_15 : decode cX4_up 15 = .ok (.ifCond .ne 5, 3) := by decide +kernel
theorem dX4_up_18 : decode cX4_up 18 = .ok (.iconst (-1), 1) := by decide +kernel
theorem dX4_up_19 : decode cX4_up 19 = .ok (.ireturn, 1) := by decide +kernel
theorem dX4_up_20 : decode cX4_up 20 = .ok (.aload_n 0, 1) := by decide +kernel
theorem dX4_up_21 : decode cX4_up 21 = .ok (.getfield 26, 3) := by decide +kernel
theorem dX4_up_24 : decode cX4_up 24 = .ok (.getfield 77, 3) := by decide +kernel
theorem dX4_up_27 : decode cX4_up 27 = .ok (.iload_n 1, 1) := by decide +kernel
theorem dX4_up_28 : decode cX4_up 28 = .ok (.invokestatic 80, 3) := by decide +kernel
theorem dX4_up_31 : decode cX4_up 31 = .ok (.bipush 8, 2) := by decide +kernel
theorem dX4_up_33 : decode cX4_up 33 = .ok (.if_icmp .ne 23, 3) := by decide +kernel
theorem dX4_up_36 : decode cX4_up 36 = .ok (.aload_n 0, 1) := by decide +kernel
theorem dX4_up_37 : decode cX4_up 37 = .ok (.getfield 37, 3) := by decide +kernel
theorem dX4_up_40 : decode cX4_up 40 = .ok (.aload_n 0, 1) := by decide +kernel
theorem dX4_up_41 : decode cX4_up 41 = .ok (.getfield 26, 3) := by decide +kernel
theorem dX4_up_44 : decode cX4_up 44 = .ok (.getfield 77, 3) := by decide +kernel
theorem dX4_up_47 : decode cX4_up 47 = .ok (.iload_n 2, 1) := by decide +kernel
theorem dX4_up_48 : decode cX4_up 48 = .ok (.invokevirtual 87, 3) := by decide +kernel
theorem dX4_up_51 : decode cX4_up 51 = .ok (.bipush (-9), 2) := by decide +kernel
theorem dX4_up_53 : decode cX4_up 53 = .ok (.if_icmp .eq 6, 3) := by decide +kernel
theorem dX4_up_56 : decode cX4_up 56 = .ok (.bipush (-2), 2) := by decide +kernel
theorem dX4_up_58 : decode cX4_up 58 = .ok (.ireturn, 1) := by decide +kernel
theorem dX4_up_59 : decode cX4_up 59 = .ok (.aload_n 0, 1) := by decide +kernel
theorem dX4_up_60 : decode cX4_up 60 = .ok (.iload_n 1, 1) := by decide +kernel
theorem dX4_up_61 : decode cX4_up 61 = .ok (.iload_n 2, 1) := by decide +kernel
theorem dX4_up_62 : decode cX4_up 62 = .ok (.invokevirtual 119, 3) := by decide +kernel
theorem dX4_up_65 : decode cX4_up 65 = .ok (.ireturn, 1) := by decide +kernel
set_option maxRecDepth 20000 in
theorem ggX4_night_X1_leaksOf : GoodIn wsX4_night wsX1_leaksOf := goodIn_r _ [6, 7, 8, 9, 10, 4, 11, 12, 13, 14, 15, 16, 17, 18, 19, 20, 21, 22, 23, 39, 40, 41, 42, 43, 44, 45, 46, 47, 48, 49] (by decide +kernel) (by decide +kernel)
set_option maxRecDepth 20000 in
theorem gX4_night_X1_leaksOf_n125 : GoodIn wsX4_night (wsX1_leaksOf) := ggX4_night_X1_leaksOf
theorem dX4_night_0 : decode cX4_night 0 = .ok (.aload_n 0, 1) := by decide +kernel
theorem dX4_night_1 : decode cX4_night 1 = .ok (.getfield 26, 3) := by decide +kernel
theorem dX4_night_4 : decode cX4_night 4 = .ok (.getfield 122, 3) := by decide +kernel
theorem dX4_night_7 : decode cX4_night 7 = .ok (.sipush 999, 3) := by decide +kernel
theorem dX4_night_10 : decode cX4_night 10 = .ok (.if_icmp .lt 6, 3) := by decide +kernel
theorem dX4_night_13 : decode cX4_night 13 = .ok (.bipush (-2), 2) := by decide +kernel
theorem dX4_night_15 : decode cX4_night 15 = .ok (.ireturn, 1) := by decide +kernel
theorem dX4_night_16 : decode cX4_night 16 = .ok (.aload_n 0, 1) := by decide +kernel
theorem dX4_night_17 : decode cX4_night 17 = .ok (.getfield 37, 3) := by decide +kernel
theorem dX4_night_20 : decode cX4_night 20 = .ok (.aload_n 0, 1) := by decide +kernel
theorem dX4_night_21 : decode cX4_night 21 = .ok (.getfield 26, 3) := by decide +kernel
theorem dX4_night_24 : decode cX4_night 24 = .ok (.getfield 77, 3) := by decide +kernel
theorem dX4_night_27 : decode cX4_night 27 = .ok (.invokevirtual 125, 3) := by decide +kernel
theorem dX4_night_30 : decode cX4_night 30 = .ok (.istore_n 1, 1) := by decide +kernel
theorem dX4_night_31 : decode cX4_night 31 = .ok (.aload_n 0, 1) := by decide +kernel
theorem dX4_night_32 : decode cX4_night 32 = .ok (.getfield 26, 3) := by decide +kernel
theorem dX4_night_35 : decode cX4_night 35 = .ok (.dup, 1) := by decide +kernel
theorem dX4_night_36 : decode cX4_night 36 = .ok (.getfield 128, 3) := by decide +kernel
theorem dX4_night_39 : decode cX4_night 39 = .ok (.iload_n 1, 1) := by decide +kernel
theorem dX4_night_40 : decode cX4_night 40 = .ok (.iadd, 1) := by decide +kernel
theorem dX4_night_41 : decode cX4_night 41 = .ok (.putfield 128, 3) := by decide +kernel
theorem dX4_night_44 : decode cX4_night 44 = .ok (.aload_n 0, 1) := by decide +kernel
theorem dX4_night_45 : decode cX4_night 45 = .ok (.getfield 26, 3) := by decide +kernel
theorem dX4_night_48 : decode cX4_night 48 = .ok (.dup, 1) := by decide +kernel
theorem dX4_night_49 : decode cX4_night 49 = .ok (.getfield 122, 3) := by decide +kernel
theorem dX4_night_52 : decode cX4_night 52 = .ok (.iconst 1, 1) := by decide +kernel
theorem dX4_night_53 : decode cX4_night 53 = .ok (.iadd, 1) := by decide +kernel
theorem dX4_night_54 : decode cX4_night 54 = .ok (.putfield 122, 3) := by decide +kernel
theorem dX4_night_57 : decode cX4_night 57 = .ok (.aload_n 0, 1) := by decide +kernel
theorem dX4_night_58 : decode cX4_night 58 = .ok (.getfield 26, 3) := by decide +kernel
theorem dX4_night_61 : decode cX4_night 61 = .ok (.iconst 0, 1) := by decide +kernel
theorem dX4_night_62 : decode cX4_night 62 = .ok (.putfield 131, 3) := by decide +kernel
theorem dX4_night_65 : decode cX4_night 65 = .ok (.iload_n 1, 1) := by decide +kernel
theorem dX4_night_66 : decode cX4_night 66 = .ok (.ireturn, 1) := by decide +kernel
set_option maxRecDepth 20000 in
theorem ggX4_now_X1_worthOf : GoodIn wsX4_now wsX1_worthOf := goodIn_r _ [7, 8, 9, 10, 11, 12, 5, 13, 14, 15, 16, 17, 18, 19, 20, 21, 22, 23, 24, 25, 26, 27, 28, 29, 30, 31, 32, 33, 34, 35, 36, 37, 38, 39, 76, 77, 78, 79, 80, 81, 82, 83, 84, 85, 86] (by decide +kernel) (by decide +kernel)
set_option maxRecDepth 20000 in
theorem gX4_now_X1_worthOf_n134 : GoodIn wsX4_now (wsX1_worthOf) := ggX4_now_X1_worthOf
set_option maxRecDepth 20000 in
theorem ggX4_now_X1_allows : GoodIn wsX4_now wsX1_allows := goodIn_r _ [42, 43, 19, 44, 45, 46, 47, 5, 48, 21, 22, 23, 15, 16, 17, 18, 20, 24, 25, 26, 27, 28, 29, 30, 49, 50, 51, 52, 53, 54, 55, 56, 57, 76, 77, 78, 79, 80, 81, 82, 83, 84, 85, 86] (by decide +kernel) (by decide +kernel)
set_option maxRecDepth 20000 in
theorem gX4_now_X1_allows_n137 : GoodIn wsX4_now (wsX1_allows) := ggX4_now_X1_allows
set_option maxRecDepth 20000 in
theorem ggX4_now_X4_asNumber : GoodIn wsX4_now wsX4_asNumber := goodIn_r _ [60] (by decide +kernel) (by decide +kernel)
set_option maxRecDepth 20000 in
theorem gX4_now_X4_asNumber : GoodIn wsX4_now (va_wsS RX4 115 yX4_asNumber wsX4_asNumber) := goodIn_app (goodIn_of _ (by decide +kernel)) ggX4_now_X4_asNumber
set_option maxRecDepth 20000 in
theorem ggX4_now_X1_leaksOf : GoodIn wsX4_now wsX1_leaksOf := goodIn_r _ [34, 35, 15, 16, 17, 5, 18, 19, 20, 21, 22, 23, 24, 25, 26, 27, 28, 29, 30, 76, 77, 78, 79, 80, 81, 82, 83, 84, 85, 86] (by decide +kernel) (by decide +kernel)
set_option maxRecDepth 20000 in
theorem gX4_now_X1_leaksOf_n125 : GoodIn wsX4_now (wsX1_leaksOf) := ggX4_now_X1_leaksOf
theorem dX4_now_0 : decode cX4_now 0 = .ok (.iload_n 1, 1) := by decide +kernel
theorem dX4_now_1 : decode cX4_now 1 = .ok (.tableswitch 111 0 5 #[39, 47, 55, 63, 78, 96], 39) := by decide +kernel
theorem dX4_now_40 : decode cX4_now 40 = .ok (.aload_n 0, 1) := by decide +kernel
theorem dX4_now_41 : decode cX4_now 41 = .ok (.getfield 26, 3) := by decide +kernel
theorem dX4_now_44 : decode cX4_now 44 = .ok (.getfield 122, 3) := by decide +kernel
theorem dX4_now_47 : decode cX4_now 47 = .ok (.ireturn, 1) := by decide +kernel
theorem dX4_now_48 : decode cX4_now 48 = .ok (.aload_n 0, 1) := by decide +kernel
theorem dX4_now_49 : decode cX4_now 49 = .ok (.getfield 26, 3) := by decide +kernel
theorem dX4_now_52 : decode cX4_now 52 = .ok (.getfield 131, 3) := by decide +kernel
theorem dX4_now_55 : decode cX4_now 55 = .ok (.ireturn, 1) := by decide +kernel
theorem dX4_now_56 : decode cX4_now 56 = .ok (.aload_n 0, 1) := by decide +kernel
theorem dX4_now_57 : decode cX4_now 57 = .ok (.getfield 26, 3) := by decide +kernel
theorem dX4_now_60 : decode cX4_now 60 = .ok (.getfield 128, 3) := by decide +kernel
theorem dX4_now_63 : decode cX4_now 63 = .ok (.ireturn, 1) := by decide +kernel
theorem dX4_now_64 : decode cX4_now 64 = .ok (.aload_n 0, 1) := by decide +kernel
theorem dX4_now_65 : decode cX4_now 65 = .ok (.getfield 37, 3) := by decide +kernel
theorem dX4_now_68 : decode cX4_now 68 = .ok (.aload_n 0, 1) := by decide +kernel
theorem dX4_now_69 : decode cX4_now 69 = .ok (.getfield 26, 3) := by decide +kernel
theorem dX4_now_72 : decode cX4_now 72 = .ok (.getfield 77, 3) := by decide +kernel
theorem dX4_now_75 : decode cX4_now 75 = .ok (.invokevirtual 134, 3) := by decide +kernel
theorem dX4_now_78 : decode cX4_now 78 = .ok (.ireturn, 1) := by decide +kernel
theorem dX4_now_79 : decode cX4_now 79 = .ok (.aload_n 0, 1) := by decide +kernel
theorem dX4_now_80 : decode cX4_now 80 = .ok (.getfield 37, 3) := by decide +kernel
theorem dX4_now_83 : decode cX4_now 83 = .ok (.aload_n 0, 1) := by decide +kernel
theorem dX4_now_84 : decode cX4_now 84 = .ok (.getfield 26, 3) := by decide +kernel
theorem dX4_now_87 : decode cX4_now 87 = .ok (.getfield 77, 3) := by decide +kernel
theorem dX4_now_90 : decode cX4_now 90 = .ok (.invokevirtual 137, 3) := by decide +kernel
theorem dX4_now_93 : decode cX4_now 93 = .ok (.invokestatic 115, 3) := by decide +kernel
theorem dX4_now_96 : decode cX4_now 96 = .ok (.ireturn, 1) := by decide +kernel
theorem dX4_now_97 : decode cX4_now 97 = .ok (.aload_n 0, 1) := by decide +kernel
theorem dX4_now_98 : decode cX4_now 98 = .ok (.getfield 37, 3) := by decide +kernel
theorem dX4_now_101 : decode cX4_now 101 = .ok (.aload_n 0, 1) := by decide +kernel
theorem dX4_now_102 : decode cX4_now 102 = .ok (.getfield 26, 3) := by decide +kernel
theorem dX4_now_105 : decode cX4_now 105 = .ok (.getfield 77, 3) := by decide +kernel
theorem dX4_now_108 : decode cX4_now 108 = .ok (.invokevirtual 125, 3) := by decide +kernel
theorem dX4_now_111 : decode cX4_now 111 = .ok (.ireturn, 1) := by decide +kernel
theorem dX4_now_112 : decode cX4_now 112 = .ok (.ldc 140, 2) := by decide +kernel
theorem dX4_now_114 : decode cX4_now 114 = .ok (.ireturn, 1) := by decide +kernel
set_option maxRecDepth 20000 in
theorem ggX4_lit_X4_isSlot : GoodIn wsX4_lit wsX4_isSlot := goodIn_r _ [6] (by decide +kernel) (by decide +kernel)
set_option maxRecDepth 20000 in
theorem gX4_lit_X4_isSlot : GoodIn wsX4_lit (va_wsS RX4 84 yX4_isSlot wsX4_isSlot) := goodIn_app (goodIn_of _ (by decide +kernel)) ggX4_lit_X4_isSlot
set_option maxRecDepth 20000 in
theorem ggX4_lit_X1_litHours : GoodIn wsX4_lit wsX1_litHours := goodIn_r _ [10, 11, 12, 13, 14, 8, 15, 16, 17, 18, 5, 19, 35, 36, 37, 38, 39, 40, 41, 42, 43, 44, 45] (by decide +kernel) (by decide +kernel)
set_option maxRecDepth 20000 in
theorem gX4_lit_X1_litHours_n141 : GoodIn wsX4_lit (wsX1_litHours) := ggX4_lit_X1_litHours
theorem dX4_lit_0 : decode cX4_lit 0 = .ok (.iload_n 1, 1) := by decide +kernel
theorem dX4_lit_1 : decode cX4_lit 1 = .ok (.invokestatic 84, 3) := by decide +kernel
theorem dX4_lit_4 : decode cX4_lit 4 = .ok (.ifCond .ne 5, 3) := by decide +kernel
theorem dX4_lit_7 : decode cX4_lit 7 = .ok (.iconst (-1), 1) := by decide +kernel
theorem dX4_lit_8 : decode cX4_lit 8 = .ok (.ireturn, 1) := by decide +kernel
theorem dX4_lit_9 : decode cX4_lit 9 = .ok (.aload_n 0, 1) := by decide +kernel
theorem dX4_lit_10 : decode cX4_lit 10 = .ok (.getfield 37, 3) := by decide +kernel
theorem dX4_lit_13 : decode cX4_lit 13 = .ok (.aload_n 0, 1) := by decide +kernel
theorem dX4_lit_14 : decode cX4_lit 14 = .ok (.getfield 26, 3) := by decide +kernel
theorem dX4_lit_17 : decode cX4_lit 17 = .ok (.getfield 77, 3) := by decide +kernel
theorem dX4_lit_20 : decode cX4_lit 20 = .ok (.invokevirtual 141, 3) := by decide +kernel
theorem dX4_lit_23 : decode cX4_lit 23 = .ok (.iload_n 1, 1) := by decide +kernel
theorem dX4_lit_24 : decode cX4_lit 24 = .ok (.ishr, 1) := by decide +kernel
theorem dX4_lit_25 : decode cX4_lit 25 = .ok (.iconst 1, 1) := by decide +kernel
theorem dX4_lit_26 : decode cX4_lit 26 = .ok (.iand, 1) := by decide +kernel
theorem dX4_lit_27 : decode cX4_lit 27 = .ok (.ireturn, 1) := by decide +kernel
set_option maxRecDepth 20000 in
theorem ggX4_fewest_X4_isImage : GoodIn wsX4_fewest wsX4_isImage := goodIn_r _ [9, 1, 87, 88, 89, 90, 91, 92, 93] (by decide +kernel) (by decide +kernel)
set_option maxRecDepth 20000 in
theorem gX4_fewest_X4_isImage : GoodIn wsX4_fewest (wsV RX4 144 RX4 yX4_isImage wsX4_isImage) := goodIn_app (goodIn_of _ (by decide +kernel)) ggX4_fewest_X4_isImage
set_option maxRecDepth 20000 in
theorem ggX4_fewest_X2_fewestActs : GoodIn wsX4_fewest wsX2_fewestActs := goodIn_r _ [13, 14, 15, 16, 11, 17, 18, 19, 20, 8, 21, 22, 23, 24, 25, 26, 27, 28, 29, 30, 31, 32, 33, 34, 35, 36, 37, 38, 39, 40, 41, 42, 43, 44, 45, 46, 47, 48, 49, 50, 51, 52, 53, 54, 55, 56, 57, 58, 59, 60, 61, 62, 63, 64, 65, 66, 67, 68, 69, 70, 71, 72, 73, 74, 75, 76, 77, 78, 79, 80, 81, 82, 83, 84, 85, 86, 102, 103, 104, 105, 106, 107, 108, 109, 110, 111, 112, 113, 114, 115, 116, 117] (by decide +kernel) (by decide +kernel)
set_option maxRecDepth 20000 in
theorem gX4_fewest_X2_fewestActs_n147 : GoodIn wsX4_fewest (wsX2_fewestActs) := ggX4_fewest_X2_fewestActs
theorem dX4_fewest_0 : decode cX4_fewest 0 = .ok (.aload_n 0, 1) := by decide +kernel
theorem dX4_fewest_1 : decode cX4_fewest 1 = .ok (.iload_n 1, 1) := by decide +kernel
theorem dX4_fewest_2 : decode cX4_fewest 2 = .ok (.invokevirtual 144, 3) := by decide +kernel
theorem dX4_fewest_5 : decode cX4_fewest 5 = .ok (.ifCond .ne 5, 3) := by decide +kernel
theorem dX4_fewest_8 : decode cX4_fewest 8 = .ok (.iconst (-1), 1) := by decide +kernel
theorem dX4_fewest_9 : decode cX4_fewest 9 = .ok (.ireturn, 1) := by decide +kernel
theorem dX4_fewest_10 : decode cX4_fewest 10 = .ok (.aload_n 0, 1) := by decide +kernel
theorem dX4_fewest_11 : decode cX4_fewest 11 = .ok (.getfield 30, 3) := by decide +kernel
theorem dX4_fewest_14 : decode cX4_fewest 14 = .ok (.iload_n 1, 1) := by decide +kernel
theorem dX4_fewest_15 : decode cX4_fewest 15 = .ok (.aaload, 1) := by decide +kernel
theorem dX4_fewest_16 : decode cX4_fewest 16 = .ok (.getfield 66, 3) := by decide +kernel
theorem dX4_fewest_19 : decode cX4_fewest 19 = .ok (.ifCond .ne 6, 3) := by decide +kernel
theorem dX4_fewest_22 : decode cX4_fewest 22 = .ok (.bipush (-2), 2) := by decide +kernel
theorem dX4_fewest_24 : decode cX4_fewest 24 = .ok (.ireturn, 1) := by decide +kernel
theorem dX4_fewest_25 : decode cX4_fewest 25 = .ok (.aload_n 0, 1) := by decide +kernel
theorem dX4_fewest_26 : decode cX4_fewest 26 = .ok (.getfield 19, 3) := by decide +kernel
theorem dX4_fewest_29 : decode cX4_fewest 29 = .ok (.aload_n 0, 1) := by decide +kernel
theorem dX4_fewest_30 : decode cX4_fewest 30 = .ok (.getfield 37, 3) := by decide +kernel
theorem dX4_fewest_33 : decode cX4_fewest 33 = .ok (.aload_n 0, 1) := by decide +kernel
theorem dX4_fewest_34 : decode cX4_fewest 34 = .ok (.getfield 26, 3) := by decide +kernel
theorem dX4_fewest_37 : decode cX4_fewest 37 = .ok (.getfield 77, 3) := by decide +kernel
theorem dX4_fewest_40 : decode cX4_fewest 40 = .ok (.aload_n 0, 1) := by decide +kernel
theorem dX4_fewest_41 : decode cX4_fewest 41 = .ok (.getfield 30, 3) := by decide +kernel
theorem dX4_fewest_44 : decode cX4_fewest 44 = .ok (.iload_n 1, 1) := by decide +kernel
theorem dX4_fewest_45 : decode cX4_fewest 45 = .ok (.aaload, 1) := by decide +kernel
theorem dX4_fewest_46 : decode cX4_fewest 46 = .ok (.getfield 77, 3) := by decide +kernel
theorem dX4_fewest_49 : decode cX4_fewest 49 = .ok (.invokevirtual 147, 3) := by decide +kernel
theorem dX4_fewest_52 : decode cX4_fewest 52 = .ok (.ireturn, 1) := by decide +kernel
set_option maxRecDepth 20000 in
theorem ggX4_first_X4_isImage : GoodIn wsX4_first wsX4_isImage := goodIn_r _ [9, 1, 87, 88, 89, 90, 91, 92, 93] (by decide +kernel) (by decide +kernel)
set_option maxRecDepth 20000 in
theorem gX4_first_X4_isImage : GoodIn wsX4_first (wsV RX4 144 RX4 yX4_isImage wsX4_isImage) := goodIn_app (goodIn_of _ (by decide +kernel)) ggX4_first_X4_isImage
set_option maxRecDepth 20000 in
theorem ggX4_first_X2_firstAct : GoodIn wsX4_first wsX2_firstAct := goodIn_r _ [13, 14, 15, 16, 11, 17, 18, 19, 20, 8, 21, 22, 23, 24, 25, 26, 27, 28, 29, 30, 31, 32, 33, 34, 35, 36, 37, 38, 39, 40, 41, 42, 43, 44, 45, 46, 47, 48, 49, 50, 51, 52, 53, 54, 55, 56, 57, 58, 59, 60, 61, 62, 63, 64, 65, 66, 67, 68, 69, 70, 71, 72, 73, 74, 75, 76, 77, 78, 79, 80, 81, 82, 83, 84, 85, 86, 102, 103, 104, 105, 106, 107, 108, 109, 110, 111, 112, 113, 114, 115, 116, 117] (by decide +kernel) (by decide +kernel)
set_option maxRecDepth 20000 in
theorem gX4_first_X2_firstAct_n151 : GoodIn wsX4_first (wsX2_firstAct) := ggX4_first_X2_firstAct
theorem dX4_first_0 : decode cX4_first 0 = .ok (.aload_n 0, 1) := by decide +kernel
theorem dX4_first_1 : decode cX4_first 1 = .ok (.iload_n 1, 1) := by decide +kernel
theorem dX4_first_2 : decode cX4_first 2 = .ok (.invokevirtual 144, 3) := by decide +kernel
theorem dX4_first_5 : decode cX4_first 5 = .ok (.ifCond .ne 5, 3) := by decide +kernel
theorem dX4_first_8 : decode cX4_first 8 = .ok (.iconst (-1), 1) := by decide +kernel
theorem dX4_first_9 : decode cX4_first 9 = .ok (.ireturn, 1) := by decide +kernel
theorem dX4_first_10 : decode cX4_first 10 = .ok (.aload_n 0, 1) := by decide +kernel
theorem dX4_first_11 : decode cX4_first 11 = .ok (.getfield 30, 3) := by decide +kernel
theorem dX4_first_14 : decode cX4_first 14 = .ok (.iload_n 1, 1) := by decide +kernel
theorem dX4_first_15 : decode cX4_first 15 = .ok (.aaload, 1) := by decide +kernel
theorem dX4_first_16 : decode cX4_first 16 = .ok (.getfield 66, 3) := by decide +kernel
theorem dX4_first_19 : decode cX4_first 19 = .ok (.ifCond .ne 6, 3) := by decide +kernel
theorem dX4_first_22 : decode cX4_first 22 = .ok (.bipush (-2), 2) := by decide +kernel
theorem dX4_first_24 : decode cX4_first 24 = .ok (.ireturn, 1) := by decide +kernel
theorem dX4_first_25 : decode cX4_first 25 = .ok (.aload_n 0, 1) := by decide +kernel
theorem dX4_first_26 : decode cX4_first 26 = .ok (.getfield 19, 3) := by decide +kernel
theorem dX4_first_29 : decode cX4_first 29 = .ok (.aload_n 0, 1) := by decide +kernel
theorem dX4_first_30 : decode cX4_first 30 = .ok (.getfield 37, 3) := by decide +kernel
theorem dX4_first_33 : decode cX4_first 33 = .ok (.aload_n 0, 1) := by decide +kernel
theorem dX4_first_34 : decode cX4_first 34 = .ok (.getfield 26, 3) := by decide +kernel
theorem dX4_first_37 : decode cX4_first 37 = .ok (.getfield 77, 3) := by decide +kernel
theorem dX4_first_40 : decode cX4_first 40 = .ok (.aload_n 0, 1) := by decide +kernel
theorem dX4_first_41 : decode cX4_first 41 = .ok (.getfield 30, 3) := by decide +kernel
theorem dX4_first_44 : decode cX4_first 44 = .ok (.iload_n 1, 1) := by decide +kernel
theorem dX4_first_45 : decode cX4_first 45 = .ok (.aaload, 1) := by decide +kernel
theorem dX4_first_46 : decode cX4_first 46 = .ok (.getfield 77, 3) := by decide +kernel
theorem dX4_first_49 : decode cX4_first 49 = .ok (.invokevirtual 151, 3) := by decide +kernel
theorem dX4_first_52 : decode cX4_first 52 = .ok (.ireturn, 1) := by decide +kernel
set_option maxRecDepth 20000 in
theorem ggX4_nights_X4_isImage : GoodIn wsX4_nights wsX4_isImage := goodIn_r _ [9, 1, 91, 92, 93, 94, 95, 96, 97] (by decide +kernel) (by decide +kernel)
set_option maxRecDepth 20000 in
theorem gX4_nights_X4_isImage : GoodIn wsX4_nights (wsV RX4 144 RX4 yX4_isImage wsX4_isImage) := goodIn_app (goodIn_of _ (by decide +kernel)) ggX4_nights_X4_isImage
set_option maxRecDepth 20000 in
theorem ggX4_nights_X2_fewestNights : GoodIn wsX4_nights wsX2_fewestNights := goodIn_r _ [13, 14, 15, 16, 17, 11, 18, 19, 20, 21, 8, 22, 23, 24, 25, 26, 27, 28, 29, 30, 31, 32, 33, 34, 35, 36, 37, 38, 39, 40, 41, 42, 43, 44, 45, 46, 47, 48, 49, 50, 51, 52, 53, 54, 55, 56, 57, 58, 59, 60, 61, 62, 63, 64, 65, 66, 67, 68, 69, 70, 71, 72, 73, 74, 75, 76, 77, 78, 79, 80, 81, 82, 83, 84, 85, 86, 87, 88, 89, 90, 106, 107, 108, 109, 110, 98, 99, 100, 101, 102, 103, 104, 105, 111, 112, 113, 114, 115, 116, 117, 118, 119, 120, 121] (by decide +kernel) (by decide +kernel)
set_option maxRecDepth 20000 in
theorem gX4_nights_X2_fewestNights_n154 : GoodIn wsX4_nights (wsX2_fewestNights) := ggX4_nights_X2_fewestNights
theorem dX4_nights_0 : decode cX4_nights 0 = .ok (.aload_n 0, 1) := by decide +kernel
theorem dX4_nights_1 : decode cX4_nights 1 = .ok (.iload_n 1, 1) := by decide +kernel
theorem dX4_nights_2 : decode cX4_nights 2 = .ok (.invokevirtual 144, 3) := by decide +kernel
theorem dX4_nights_5 : decode cX4_nights 5 = .ok (.ifCond .ne 5, 3) := by decide +kernel
theorem dX4_nights_8 : decode cX4_nights 8 = .ok (.iconst (-1), 1) := by decide +kernel
theorem dX4_nights_9 : decode cX4_nights 9 = .ok (.ireturn, 1) := by decide +kernel
theorem dX4_nights_10 : decode cX4_nights 10 = .ok (.aload_n 0, 1) := by decide +kernel
theorem dX4_nights_11 : decode cX4_nights 11 = .ok (.getfield 30, 3) := by decide +kernel
theorem dX4_nights_14 : decode cX4_nights 14 = .ok (.iload_n 1, 1) := by decide +kernel
theorem dX4_nights_15 : decode cX4_nights 15 = .ok (.aaload, 1) := by decide +kernel
theorem dX4_nights_16 : decode cX4_nights 16 = .ok (.getfield 66, 3) := by decide +kernel
theorem dX4_nights_19 : decode cX4_nights 19 = .ok (.ifCond .ne 6, 3) := by decide +kernel
theorem dX4_nights_22 : decode cX4_nights 22 = .ok (.bipush (-2), 2) := by decide +kernel
theorem dX4_nights_24 : decode cX4_nights 24 = .ok (.ireturn, 1) := by decide +kernel
theorem dX4_nights_25 : decode cX4_nights 25 = .ok (.aload_n 0, 1) := by decide +kernel
theorem dX4_nights_26 : decode cX4_nights 26 = .ok (.getfield 19, 3) := by decide +kernel
theorem dX4_nights_29 : decode cX4_nights 29 = .ok (.aload_n 0, 1) := by decide +kernel
theorem dX4_nights_30 : decode cX4_nights 30 = .ok (.getfield 37, 3) := by decide +kernel
theorem dX4_nights_33 : decode cX4_nights 33 = .ok (.aload_n 0, 1) := by decide +kernel
theorem dX4_nights_34 : decode cX4_nights 34 = .ok (.getfield 26, 3) := by decide +kernel
theorem dX4_nights_37 : decode cX4_nights 37 = .ok (.aload_n 0, 1) := by decide +kernel
theorem dX4_nights_38 : decode cX4_nights 38 = .ok (.getfield 30, 3) := by decide +kernel
theorem dX4_nights_41 : decode cX4_nights 41 = .ok (.iload_n 1, 1) := by decide +kernel
theorem dX4_nights_42 : decode cX4_nights 42 = .ok (.aaload, 1) := by decide +kernel
theorem dX4_nights_43 : decode cX4_nights 43 = .ok (.getfield 77, 3) := by decide +kernel
theorem dX4_nights_46 : decode cX4_nights 46 = .ok (.invokevirtual 154, 3) := by decide +kernel
theorem dX4_nights_49 : decode cX4_nights 49 = .ok (.ireturn, 1) := by decide +kernel
set_option maxRecDepth 20000 in
theorem ggX4_piano_X4_isSlot : GoodIn wsX4_piano wsX4_isSlot := goodIn_r _ [7] (by decide +kernel) (by decide +kernel)
set_option maxRecDepth 20000 in
theorem gX4_piano_X4_isSlot : GoodIn wsX4_piano (va_wsS RX4 84 yX4_isSlot wsX4_isSlot) := goodIn_app (goodIn_of _ (by decide +kernel)) ggX4_piano_X4_isSlot
set_option maxRecDepth 20000 in
theorem ggX4_piano_X2_actsToEmpty : GoodIn wsX4_piano wsX2_actsToEmpty := goodIn_r _ [11, 12, 13, 14, 15, 16, 9, 17, 18, 19, 20, 6, 21, 22, 23, 24, 25, 26, 27, 28, 29, 30, 31, 32, 33, 34, 35, 36, 37, 38, 39, 40, 41, 42, 43, 44, 45, 46, 47, 48, 49, 50, 51, 52, 53, 54, 55, 56, 57, 58, 59, 60, 61, 62, 63, 64, 65, 66, 67, 68, 69, 70, 71, 72, 73, 74, 75, 76, 77, 78, 79, 80, 81, 82, 83, 84, 100, 101, 102, 103, 104, 105, 106, 107, 108, 109, 110, 111, 112, 113, 114, 115] (by decide +kernel) (by decide +kernel)
set_option maxRecDepth 20000 in
theorem gX4_piano_X2_actsToEmpty_n158 : GoodIn wsX4_piano (wsX2_actsToEmpty) := ggX4_piano_X2_actsToEmpty
theorem dX4_piano_0 : decode cX4_piano 0 = .ok (.iload_n 1, 1) := by decide +kernel
theorem dX4_piano_1 : decode cX4_piano 1 = .ok (.invokestatic 84, 3) := by decide +kernel
theorem dX4_piano_4 : decode cX4_piano 4 = .ok (.ifCond .ne 5, 3) := by decide +kernel
theorem dX4_piano_7 : decode cX4_piano 7 = .ok (.iconst (-1), 1) := by decide +kernel
theorem dX4_piano_8 : decode cX4_piano 8 = .ok (.ireturn, 1) := by decide +kernel
theorem dX4_piano_9 : decode cX4_piano 9 = .ok (.aload_n 0, 1) := by decide +kernel
theorem dX4_piano_10 : decode cX4_piano 10 = .ok (.getfield 19, 3) := by decide +kernel
theorem dX4_piano_13 : decode cX4_piano 13 = .ok (.aload_n 0, 1) := by decide +kernel
theorem dX4_piano_14 : decode cX4_piano 14 = .ok (.getfield 37, 3) := by decide +kernel
theorem dX4_piano_17 : decode cX4_piano 17 = .ok (.aload_n 0, 1) := by decide +kernel
theorem dX4_piano_18 : decode cX4_piano 18 = .ok (.getfield 26, 3) := by decide +kernel
theorem dX4_piano_21 : decode cX4_piano 21 = .ok (.getfield 77, 3) := by decide +kernel
theorem dX4_piano_24 : decode cX4_piano 24 = .ok (.iconst 1, 1) := by decide +kernel
theorem dX4_piano_25 : decode cX4_piano 25 = .ok (.iload_n 1, 1) := by decide +kernel
theorem dX4_piano_26 : decode cX4_piano 26 = .ok (.ishl, 1) := by decide +kernel
theorem dX4_piano_27 : decode cX4_piano 27 = .ok (.iconst 1, 1) := by decide +kernel
theorem dX4_piano_28 : decode cX4_piano 28 = .ok (.iload_n 1, 1) := by decide +kernel
theorem dX4_piano_29 : decode cX4_piano 29 = .ok (.iconst 1, 1) := by decide +kernel
theorem dX4_piano_30 : decode cX4_piano 30 = .ok (.iadd, 1) := by decide +kernel
theorem dX4_piano_31 : decode cX4_piano 31 = .ok (.bipush 8, 2) := by decide +kernel
theorem dX4_piano_33 : decode cX4_piano 33 = .ok (.irem, 1) := by decide +kernel
theorem dX4_piano_34 : decode cX4_piano 34 = .ok (.ishl, 1) := by decide +kernel
theorem dX4_piano_35 : decode cX4_piano 35 = .ok (.ior, 1) := by decide +kernel
theorem dX4_piano_36 : decode cX4_piano 36 = .ok (.invokevirtual 158, 3) := by decide +kernel
theorem dX4_piano_39 : decode cX4_piano 39 = .ok (.ireturn, 1) := by decide +kernel
set_option maxRecDepth 20000 in
theorem ggX4_best_X1_hasPanel : GoodIn wsX4_best wsX1_hasPanel := goodIn_r _ [7, 8, 9, 86, 87, 88, 89, 90, 91, 92, 93, 94, 95, 96] (by decide +kernel) (by decide +kernel)
set_option maxRecDepth 20000 in
theorem gX4_best_X1_hasPanel_n69 : GoodIn wsX4_best (wsX1_hasPanel) := ggX4_best_X1_hasPanel
set_option maxRecDepth 20000 in
theorem ggX4_best_X2_bestHome : GoodIn wsX4_best wsX2_bestHome := goodIn_r _ [13, 14, 15, 16, 17, 11, 18, 19, 20, 21, 22, 23, 24, 5, 25, 26, 27, 8, 28, 29, 30, 31, 32, 33, 34, 35, 36, 37, 38, 9, 39, 40, 41, 42, 43, 44, 45, 46, 47, 48, 49, 50, 51, 52, 53, 54, 55, 56, 57, 58, 59, 60, 61, 62, 63, 64, 65, 66, 67, 68, 69, 70, 71, 72, 73, 74, 75, 76, 77, 97, 98, 99, 100, 101, 86, 87, 88, 89, 90, 91, 92, 93, 94, 95, 96] (by decide +kernel) (by decide +kernel)
set_option maxRecDepth 20000 in
theorem gX4_best_X2_bestHome_n161 : GoodIn wsX4_best (wsX2_bestHome) := ggX4_best_X2_bestHome
set_option maxRecDepth 20000 in
theorem ggX4_best_X1_worthOf : GoodIn wsX4_best wsX1_worthOf := goodIn_r _ [61, 62, 63, 64, 65, 66, 5, 67, 68, 35, 36, 37, 38, 8, 9, 33, 22, 34, 39, 40, 41, 42, 43, 44, 45, 69, 70, 71, 72, 73, 74, 75, 76, 77, 86, 87, 88, 89, 90, 91, 92, 93, 94, 95, 96] (by decide +kernel) (by decide +kernel)
set_option maxRecDepth 20000 in
theorem gX4_best_X1_worthOf_n134 : GoodIn wsX4_best (wsX1_worthOf) := ggX4_best_X1_worthOf
set_option maxRecDepth 20000 in
theorem ggX4_best_X4_placeIn : GoodIn wsX4_best wsX4_placeIn := goodIn_r _ [34] (by decide +kernel) (by decide +kernel)
set_option maxRecDepth 20000 in
theorem gX4_best_X4_placeIn : GoodIn wsX4_best (va_wsS RX4 80 yX4_placeIn wsX4_placeIn) := goodIn_app (goodIn_of _ (by decide +kernel)) ggX4_best_X4_placeIn
theorem dX4_best_0 : decode cX4_best 0 = .ok (.iload_n 1, 1) := by decide +kernel
theorem dX4_best_1 : decode cX4_best 1 = .ok (.iconst (-1), 1) := by decide +kernel
theorem dX4_best_2 : decode cX4_best 2 = .ok (.if_icmp .eq 17, 3) := by decide +kernel
theorem dX4_best_5 : decode cX4_best 5 = .ok (.aload_n 0, 1) := by decide +kernel
theorem dX4_best_6 : decode cX4_best 6 = .ok (.getfield 37, 3) := by decide +kernel
theorem dX4_best_9 : decode cX4_best 9 = .ok (.iload_n 1, 1) := by decide +kernel
theorem dX4_best_10 : decode cX4_best 10 = .ok (.invokevirtual 69, 3) := by decide +kernel
theorem dX4_best_13 : decode cX4_best 13 = .ok (.ifCond .ne 6, 3) := by decide +kernel
theorem dX4_best_16 : decode cX4_best 16 = .ok (.ldc 140, 2) := by decide +kernel
theorem dX4_best_18 : decode cX4_best 18 = .ok (.ireturn, 1) := by decide +kernel
theorem dX4_best_19 : decode cX4_best 19 = .ok (.aload_n 0, 1) := by decide +kernel
theorem dX4_best_20 : decode cX4_best 20 = .ok (.getfield 19, 3) := by decide +kernel
theorem dX4_best_23 : decode cX4_best 23 = .ok (.aload_n 0, 1) := by decide +kernel
theorem dX4_best_24 : decode cX4_best 24 = .ok (.getfield 37, 3) := by decide +kernel
theorem dX4_best_27 : decode cX4_best 27 = .ok (.invokevirtual 161, 3) := by decide +kernel
theorem dX4_best_30 : decode cX4_best 30 = .ok (.istore_n 2, 1) := by decide +kernel
theorem dX4_best_31 : decode cX4_best 31 = .ok (.iload_n 2, 1) := by decide +kernel
theorem dX4_best_32 : decode cX4_best 32 = .ok (.bipush (-9), 2) := by decide +kernel
theorem dX4_best_34 : decode cX4_best 34 = .ok (.if_icmp .ne 6, 3) := by decide +kernel
theorem dX4_best_37 : decode cX4_best 37 = .ok (.ldc 140, 2) := by decide +kernel
theorem dX4_best_39 : decode cX4_best 39 = .ok (.ireturn, 1) := by decide +kernel
theorem dX4_best_40 : decode cX4_best 40 = .ok (.iload_n 1, 1) := by decide +kernel
theorem dX4_best_41 : decode cX4_best 41 = .ok (.iconst (-1), 1) := by decide +kernel
theorem dX4_best_42 : decode cX4_best 42 = .ok (.if_icmp .ne 14, 3) := by decide +kernel
theorem dX4_best_45 : decode cX4_best 45 = .ok (.aload_n 0, 1) := by decide +kernel
theorem dX4_best_46 : decode cX4_best 46 = .ok (.getfield 37, 3) := by decide +kernel
theorem dX4_best_49 : decode cX4_best 49 = .ok (.iload_n 2, 1) := by decide +kernel
theorem dX4_best_50 : decode cX4_best 50 = .ok (.invokevirtual 134, 3) := by decide +kernel
theorem dX4_best_53 : decode cX4_best 53 = .ok (.goto 8, 3) := by decide +kernel
theorem dX4_best_56 : decode cX4_best 56 = .ok (.iload_n 2, 1) := by decide +kernel
theorem dX4_best_57 : decode cX4_best 57 = .ok (.iload_n 1, 1) := by decide +kernel
theorem dX4_best_58 : decode cX4_best 58 = .ok (.invokestatic 80, 3) := by decide +kernel
theorem dX4_best_61 : decode cX4_best 61 = .ok (.ireturn, 1) := by decide +kernel
set_option maxRecDepth 20000 in
theorem ggX4_clue_X4_isSlot : GoodIn wsX4_clue wsX4_isSlot := goodIn_r _ [5] (by decide +kernel) (by decide +kernel)
set_option maxRecDepth 20000 in
theorem gX4_clue_X4_isSlot : GoodIn wsX4_clue (va_wsS RX4 84 yX4_isSlot wsX4_isSlot) := goodIn_app (goodIn_of _ (by decide +kernel)) ggX4_clue_X4_isSlot
theorem dX4_clue_0 : decode cX4_clue 0 = .ok (.iload_n 1, 1) := by decide +kernel
theorem dX4_clue_1 : decode cX4_clue 1 = .ok (.invokestatic 84, 3) := by decide +kernel
theorem dX4_clue_4 : decode cX4_clue 4 = .ok (.ifCond .eq 12, 3) := by decide +kernel
theorem dX4_clue_7 : decode cX4_clue 7 = .ok (.iload_n 2, 1) := by decide +kernel
theorem dX4_clue_8 : decode cX4_clue 8 = .ok (.ifCond .lt 8, 3) := by decide +kernel
theorem dX4_clue_11 : decode cX4_clue 11 = .ok (.iload_n 2, 1) := by decide +kernel
theorem dX4_clue_12 : decode cX4_clue 12 = .ok (.iconst 1, 1) := by decide +kernel
theorem dX4_clue_13 : decode cX4_clue 13 = .ok (.if_icmp .le 5, 3) := by decide +kernel
theorem dX4_clue_16 : decode cX4_clue 16 = .ok (.iconst (-1), 1) := by decide +kernel
theorem dX4_clue_17 : decode cX4_clue 17 = .ok (.ireturn, 1) := by decide +kernel
theorem dX4_clue_18 : decode cX4_clue 18 = .ok (.aload_n 0, 1) := by decide +kernel
theorem dX4_clue_19 : decode cX4_clue 19 = .ok (.getfield 26, 3) := by decide +kernel
theorem dX4_clue_22 : decode cX4_clue 22 = .ok (.getfield 164, 3) := by decide +kernel
theorem dX4_clue_25 : decode cX4_clue 25 = .ok (.bipush 8, 2) := by decide +kernel
theorem dX4_clue_27 : decode cX4_clue 27 = .ok (.if_icmp .lt 6, 3) := by decide +kernel
theorem dX4_clue_30 : decode cX4_clue 30 = .ok (.bipush (-3), 2) := by decide +kernel
theorem dX4_clue_32 : decode cX4_clue 32 = .ok (.ireturn, 1) := by decide +kernel
theorem dX4_clue_33 : decode cX4_clue 33 = .ok (.aload_n 0, 1) := by decide +kernel
theorem dX4_clue_34 : decode cX4_clue 34 = .ok (.getfield 26, 3) := by decide +kernel
theorem dX4_clue_37 : decode cX4_clue 37 = .ok (.dup, 1) := by decide +kernel
theorem dX4_clue_38 : decode cX4_clue 38 = .ok (.getfield 164, 3) := by decide +kernel
theorem dX4_clue_41 : decode cX4_clue 41 = .ok (.iconst 1, 1) := by decide +kernel
theorem dX4_clue_42 : decode cX4_clue 42 = .ok (.iadd, 1) := by decide +kernel
theorem dX4_clue_43 : decode cX4_clue 43 = .ok (.putfield 164, 3) := by decide +kernel
theorem dX4_clue_46 : decode cX4_clue 46 = .ok (.iload_n 2, 1) := by decide +kernel
theorem dX4_clue_47 : decode cX4_clue 47 = .ok (.iconst 1, 1) := by decide +kernel
theorem dX4_clue_48 : decode cX4_clue 48 = .ok (.if_icmp .ne 21, 3) := by decide +kernel
theorem dX4_clue_51 : decode cX4_clue 51 = .ok (.aload_n 0, 1) := by decide +kernel
theorem dX4_clue_52 : decode cX4_clue 52 = .ok (.getfield 26, 3) := by decide +kernel
theorem dX4_clue_55 : decode cX4_clue 55 = .ok (.dup, 1) := by decide +kernel
theorem dX4_clue_56 : decode cX4_clue 56 = .ok (.getfield 167, 3) := by decide +kernel
theorem dX4_clue_59 : decode cX4_clue 59 = .ok (.iconst 1, 1) := by decide +kernel
theorem dX4_clue_60 : decode cX4_clue 60 = .ok (.iload_n 1, 1) := by decide +kernel
theorem dX4_clue_61 : decode cX4_clue 61 = .ok (.ishl, 1) := by decide +kernel
theorem dX4_clue_62 : decode cX4_clue 62 = .ok (.ior, 1) := by decide +kernel
theorem dX4_clue_63 : decode cX4_clue 63 = .ok (.putfield 167, 3) := by decide +kernel
theorem dX4_clue_66 : decode cX4_clue 66 = .ok (.goto 18, 3) := by decide +kernel
theorem dX4_clue_69 : decode cX4_clue 69 = .ok (.aload_n 0, 1) := by decide +kernel
theorem dX4_clue_70 : decode cX4_clue 70 = .ok (.getfield 26, 3) := by decide +kernel
theorem dX4_clue_73 : decode cX4_clue 73 = .ok (.dup, 1) := by decide +kernel
theorem dX4_clue_74 : decode cX4_clue 74 = .ok (.getfield 169, 3) := by decide +kernel
theorem dX4_clue_77 : decode cX4_clue 77 = .ok (.iconst 1, 1) := by decide +kernel
theorem dX4_clue_78 : decode cX4_clue 78 = .ok (.iload_n 1, 1) := by decide +kernel
theorem dX4_clue_79 : decode cX4_clue 79 = .ok (.ishl, 1) := by decide +kernel
theorem dX4_clue_80 : decode cX4_clue 80 = .ok (.ior, 1) := by decide +kernel
theorem dX4_clue_81 : decode cX4_clue 81 = .ok (.putfield 169, 3) := by decide +kernel
theorem dX4_clue_84 : decode cX4_clue 84 = .ok (.aload_n 0, 1) := by decide +kernel
theorem dX4_clue_85 : decode cX4_clue 85 = .ok (.getfield 26, 3) := by decide +kernel
theorem dX4_clue_88 : decode cX4_clue 88 = .ok (.getfield 164, 3) := by decide +kernel
theorem dX4_clue_91 : decode cX4_clue 91 = .ok (.ireturn, 1) := by decide +kernel
set_option maxRecDepth 20000 in
theorem ggX4_fit_X2_countFitting : GoodIn wsX4_fit wsX2_countFitting := goodIn_r _ [7, 8, 9, 10, 5, 11, 12, 13, 14, 15, 16, 17, 18, 19, 20, 21, 22, 23, 24, 25, 26, 27, 28, 29, 30, 31, 32, 33, 34, 35, 36, 37, 38, 39, 40, 41, 42, 43, 44, 45, 46, 47, 48, 49, 50, 51, 52, 53, 54, 55, 56, 57, 58, 59, 60, 61, 62, 70, 71, 72, 73, 74, 75, 76, 77, 78, 79, 80, 81, 82, 83, 84, 85, 86, 87, 88, 89, 90, 91, 92, 93] (by decide +kernel) (by decide +kernel)
set_option maxRecDepth 20000 in
theorem gX4_fit_X2_countFitting_n172 : GoodIn wsX4_fit (wsX2_countFitting) := ggX4_fit_X2_countFitting
theorem dX4_fit_0 : decode cX4_fit 0 = .ok (.aload_n 0, 1) := by decide +kernel
theorem dX4_fit_1 : decode cX4_fit 1 = .ok (.getfield 19, 3) := by decide +kernel
theorem dX4_fit_4 : decode cX4_fit 4 = .ok (.aload_n 0, 1) := by decide +kernel
theorem dX4_fit_5 : decode cX4_fit 5 = .ok (.getfield 37, 3) := by decide +kernel
theorem dX4_fit_8 : decode cX4_fit 8 = .ok (.aload_n 0, 1) := by decide +kernel
theorem dX4_fit_9 : decode cX4_fit 9 = .ok (.getfield 26, 3) := by decide +kernel
theorem dX4_fit_12 : decode cX4_fit 12 = .ok (.invokevirtual 172, 3) := by decide +kernel
theorem dX4_fit_15 : decode cX4_fit 15 = .ok (.ireturn, 1) := by decide +kernel
set_option maxRecDepth 20000 in
theorem ggX4_sure_X1_hasPanel : GoodIn wsX4_sure wsX1_hasPanel := goodIn_r _ [7, 8, 9, 73, 74, 75, 76, 77, 78, 79, 80, 81, 82, 83] (by decide +kernel) (by decide +kernel)
set_option maxRecDepth 20000 in
theorem gX4_sure_X1_hasPanel_n69 : GoodIn wsX4_sure (wsX1_hasPanel) := ggX4_sure_X1_hasPanel
set_option maxRecDepth 20000 in
theorem ggX4_sure_X2_surePlace : GoodIn wsX4_sure wsX2_surePlace := goodIn_r _ [13, 14, 15, 16, 11, 17, 18, 19, 20, 21, 22, 23, 5, 24, 25, 26, 8, 27, 28, 29, 30, 31, 32, 33, 34, 35, 36, 37, 9, 38, 39, 40, 41, 42, 43, 44, 45, 46, 47, 48, 49, 50, 51, 52, 53, 54, 55, 56, 57, 58, 59, 60, 61, 62, 63, 64, 65, 84, 85, 86, 87, 88, 73, 74, 75, 76, 77, 78, 79, 80, 81, 82, 83, 89, 90, 91, 92, 93, 94, 95, 96] (by decide +kernel) (by decide +kernel)
set_option maxRecDepth 20000 in
theorem gX4_sure_X2_surePlace_n176 : GoodIn wsX4_sure (wsX2_surePlace) := ggX4_sure_X2_surePlace
theorem dX4_sure_0 : decode cX4_sure 0 = .ok (.aload_n 0, 1) := by decide +kernel
theorem dX4_sure_1 : decode cX4_sure 1 = .ok (.getfield 37, 3) := by decide +kernel
theorem dX4_sure_4 : decode cX4_sure 4 = .ok (.iload_n 1, 1) := by decide +kernel
theorem dX4_sure_5 : decode cX4_sure 5 = .ok (.invokevirtual 69, 3) := by decide +kernel
theorem dX4_sure_8 : decode cX4_sure 8 = .ok (.ifCond .ne 5, 3) := by decide +kernel
theorem dX4_sure_11 : decode cX4_sure 11 = .ok (.iconst (-1), 1) := by decide +kernel
theorem dX4_sure_12 : decode cX4_sure 12 = .ok (.ireturn, 1) := by decide +kernel
theorem dX4_sure_13 : decode cX4_sure 13 = .ok (.aload_n 0, 1) := by decide +kernel
theorem dX4_sure_14 : decode cX4_sure 14 = .ok (.getfield 19, 3) := by decide +kernel
theorem dX4_sure_17 : decode cX4_sure 17 = .ok (.aload_n 0, 1) := by decide +kernel
theorem dX4_sure_18 : decode cX4_sure 18 = .ok (.getfield 37, 3) := by decide +kernel
theorem dX4_sure_21 : decode cX4_sure 21 = .ok (.aload_n 0, 1) := by decide +kernel
theorem dX4_sure_22 : decode cX4_sure 22 = .ok (.getfield 26, 3) := by decide +kernel
theorem dX4_sure_25 : decode cX4_sure 25 = .ok (.iload_n 1, 1) := by decide +kernel
theorem dX4_sure_26 : decode cX4_sure 26 = .ok (.invokevirtual 176, 3) := by decide +kernel
theorem dX4_sure_29 : decode cX4_sure 29 = .ok (.ireturn, 1) := by decide +kernel
theorem dX4_forget_0 : decode cX4_forget 0 = .ok (.aload_n 0, 1) := by decide +kernel
theorem dX4_forget_1 : decode cX4_forget 1 = .ok (.getfield 26, 3) := by decide +kernel
theorem dX4_forget_4 : decode cX4_forget 4 = .ok (.getfield 164, 3) := by decide +kernel
theorem dX4_forget_7 : decode cX4_forget 7 = .ok (.istore_n 1, 1) := by decide +kernel
theorem dX4_forget_8 : decode cX4_forget 8 = .ok (.aload_n 0, 1) := by decide +kernel
theorem dX4_forget_9 : decode cX4_forget 9 = .ok (.getfield 26, 3) := by decide +kernel
theorem dX4_forget_12 : decode cX4_forget 12 = .ok (.iconst 0, 1) := by decide +kernel
theorem dX4_forget_13 : decode cX4_forget 13 = .ok (.putfield 164, 3) := by decide +kernel
theorem dX4_forget_16 : decode cX4_forget 16 = .ok (.aload_n 0, 1) := by decide +kernel
theorem dX4_forget_17 : decode cX4_forget 17 = .ok (.getfield 26, 3) := by decide +kernel
theorem dX4_forget_20 : decode cX4_forget 20 = .ok (.iconst 0, 1) := by decide +kernel
theorem dX4_forget_21 : decode cX4_forget 21 = .ok (.putfield 167, 3) := by decide +kernel
theorem dX4_forget_24 : decode cX4_forget 24 = .ok (.aload_n 0, 1) := by decide +kernel
theorem dX4_forget_25 : decode cX4_forget 25 = .ok (.getfield 26, 3) := by decide +kernel
theorem dX4_forget_28 : decode cX4_forget 28 = .ok (.iconst 0, 1) := by decide +kernel
theorem dX4_forget_29 : decode cX4_forget 29 = .ok (.putfield 169, 3) := by decide +kernel
theorem dX4_forget_32 : decode cX4_forget 32 = .ok (.iload_n 1, 1) := by decide +kernel
theorem dX4_forget_33 : decode cX4_forget 33 = .ok (.ireturn, 1) := by decide +kernel
set_option maxRecDepth 20000 in
theorem ggX4_mark_X1_hasPanel : GoodIn wsX4_mark wsX1_hasPanel := goodIn_r _ [6, 7, 8, 58, 59, 60, 61, 62, 63, 64, 65, 66, 67, 68] (by decide +kernel) (by decide +kernel)
set_option maxRecDepth 20000 in
theorem gX4_mark_X1_hasPanel_n69 : GoodIn wsX4_mark (wsX1_hasPanel) := ggX4_mark_X1_hasPanel
set_option maxRecDepth 20000 in
theorem ggX4_mark_X4_markOfPanel : GoodIn wsX4_mark wsX4_markOfPanel := goodIn_r _ [13, 14, 15, 16, 17, 12, 18, 51, 52, 53, 54, 55, 56, 57, 69, 70, 71, 72, 73, 74, 75, 76] (by decide +kernel) (by decide +kernel)
set_option maxRecDepth 20000 in
theorem gX4_mark_X4_markOfPanel : GoodIn wsX4_mark (wsV RX4 179 RX4 yX4_markOfPanel wsX4_markOfPanel) := goodIn_app (goodIn_of _ (by decide +kernel)) ggX4_mark_X4_markOfPanel
set_option maxRecDepth 20000 in
theorem ggX4_mark_X4_markOfBearing : GoodIn wsX4_mark wsX4_markOfBearing := goodIn_r _ [22, 14, 23, 9, 10, 11, 12, 13, 15, 16, 17, 18, 51, 52, 53, 54, 55, 56, 57, 69, 70, 71, 72, 73, 74, 75, 76] (by decide +kernel) (by decide +kernel)
set_option maxRecDepth 20000 in
theorem gX4_mark_X4_markOfBearing : GoodIn wsX4_mark (wsV RX4 182 RX4 yX4_markOfBearing wsX4_markOfBearing) := goodIn_app (goodIn_of _ (by decide +kernel)) ggX4_mark_X4_markOfBearing
set_option maxRecDepth 20000 in
theorem ggX4_mark_X4_markOfLight : GoodIn wsX4_mark wsX4_markOfLight := goodIn_r _ [27, 14, 28, 1, 9, 10, 11, 12, 13, 15, 16, 17, 18, 29, 4, 30, 31, 8, 32, 3, 5, 6, 7, 51, 52, 53, 54, 55, 56, 57, 69, 70, 71, 72, 73, 74, 75, 76, 58, 59, 60, 61, 62, 63, 64, 65, 66, 67, 68] (by decide +kernel) (by decide +kernel)
set_option maxRecDepth 20000 in
theorem gX4_mark_X4_markOfLight : GoodIn wsX4_mark (wsV RX4 185 RX4 yX4_markOfLight wsX4_markOfLight) := goodIn_app (goodIn_of _ (by decide +kernel)) ggX4_mark_X4_markOfLight
set_option maxRecDepth 20000 in
theorem ggX4_mark_X4_markOfOld : GoodIn wsX4_mark wsX4_markOfOld := goodIn_r _ [36, 14, 37, 15, 19, 20, 21, 12, 22, 23, 9, 10, 11, 13, 16, 17, 18, 51, 52, 53, 54, 55, 56, 57, 69, 70, 71, 72, 73, 74, 75, 76] (by decide +kernel) (by decide +kernel)
set_option maxRecDepth 20000 in
theorem gX4_mark_X4_markOfOld : GoodIn wsX4_mark (wsV RX4 188 RX4 yX4_markOfOld wsX4_markOfOld) := goodIn_app (goodIn_of _ (by decide +kernel)) ggX4_mark_X4_markOfOld
set_option maxRecDepth 20000 in
theorem ggX4_mark_X4_markOfClear : GoodIn wsX4_mark wsX4_markOfClear := goodIn_r _ [41, 14, 42, 1, 15, 24, 25, 26, 12, 27, 28, 9, 10, 11, 13, 16, 17, 18, 29, 4, 30, 31, 8, 32, 3, 5, 6, 7, 43, 44, 45, 51, 52, 53, 54, 55, 56, 57, 69, 70, 71, 72, 73, 74, 75, 76, 58, 59, 60, 61, 62, 63, 64, 65, 66, 67, 68] (by decide +kernel) (by decide +kernel)
set_option maxRecDepth 20000 in
theorem gX4_mark_X4_markOfClear : GoodIn wsX4_mark (wsV RX4 191 RX4 yX4_markOfClear wsX4_markOfClear) := goodIn_app (goodIn_of _ (by decide +kernel)) ggX4_mark_X4_markOfClear
set_option maxRecDepth 20000 in
theorem ggX4_mark_X4_markOfNeighbours : GoodIn wsX4_mark wsX4_markOfNeighbours := goodIn_r _ [49, 14, 50, 9, 10, 11, 12, 13, 15, 16, 17, 18, 51, 52, 53, 54, 55, 56, 57, 69, 70, 71, 72, 73, 74, 75, 76] (by decide +kernel) (by decide +kernel)
set_option maxRecDepth 20000 in
theorem gX4_mark_X4_markOfNeighbours : GoodIn wsX4_mark (wsV RX4 194 RX4 yX4_markOfNeighbours wsX4_markOfNeighbours) := goodIn_app (goodIn_of _ (by decide +kernel)) ggX4_mark_X4_markOfNeighbours
theorem dX4_mark_0 : decode cX4_mark 0 = .ok (.aload_n 0, 1) := by decide +kernel
theorem dX4_mark_1 : decode cX4_mark 1 = .ok (.getfield 37, 3) := by decide +kernel
theorem dX4_mark_4 : decode cX4_mark 4 = .ok (.iload_n 2, 1) := by decide +kernel
theorem dX4_mark_5 : decode cX4_mark 5 = .ok (.invokevirtual 69, 3) := by decide +kernel
theorem dX4_mark_8 : decode cX4_mark 8 = .ok (.ifCond .ne 6, 3) := by decide +kernel
theorem dX4_mark_11 : decode cX4_mark 11 = .ok (.ldc 140, 2) := by decide +kernel
theorem dX4_mark_13 : decode cX4_mark 13 = .ok (.ireturn, 1) := by decide +kernel
theorem dX4_mark_14 : decode cX4_mark 14 = .ok (.iload_n 1, 1) := by decide +kernel
theorem dX4_mark_15 : decode cX4_mark 15 = .ok (.tableswitch 73 0 5 #[37, 43, 49, 55, 61, 67], 37) := by decide +kernel
theorem dX4_mark_52 : decode cX4_mark 52 = .ok (.aload_n 0, 1) := by decide +kernel
theorem dX4_mark_53 : decode cX4_mark 53 = .ok (.iload_n 2, 1) := by decide +kernel
theorem dX4_mark_54 : decode cX4_mark 54 = .ok (.invokevirtual 179, 3) := by decide +kernel
theorem dX4_mark_57 : decode cX4_mark 57 = .ok (.ireturn, 1) := by decide +kernel
theorem dX4_mark_58 : decode cX4_mark 58 = .ok (.aload_n 0, 1) := by decide +kernel
theorem dX4_mark_59 : decode cX4_mark 59 = .ok (.iload_n 2, 1) := by decide +kernel
theorem dX4_mark_60 : decode cX4_mark 60 = .ok (.invokevirtual 182, 3) := by decide +kernel
theorem dX4_mark_63 : decode cX4_mark 63 = .ok (.ireturn, 1) := by decide +kernel
theorem dX4_mark_64 : decode cX4_mark 64 = .ok (.aload_n 0, 1) := by decide +kernel
theorem dX4_mark_65 : decode cX4_mark 65 = .ok (.iload_n 2, 1) := by decide +kernel
theorem dX4_mark_66 : decode cX4_mark 66 = .ok (.invokevirtual 185, 3) := by decide +kernel
theorem dX4_mark_69 : decode cX4_mark 69 = .ok (.ireturn, 1) := by decide +kernel
theorem dX4_mark_70 : decode cX4_mark 70 = .ok (.aload_n 0, 1) := by decide +kernel
theorem dX4_mark_71 : decode cX4_mark 71 = .ok (.iload_n 2, 1) := by decide +kernel
theorem dX4_mark_72 : decode cX4_mark 72 = .ok (.invokevirtual 188, 3) := by decide +kernel
theorem dX4_mark_75 : decode cX4_mark 75 = .ok (.ireturn, 1) := by decide +kernel
theorem dX4_mark_76 : decode cX4_mark 76 = .ok (.aload_n 0, 1) := by decide +kernel
theorem dX4_mark_77 : decode cX4_mark 77 = .ok (.iload_n 2, 1) := by decide +kernel
theorem dX4_mark_78 : decode cX4_mark 78 = .ok (.invokevirtual 191, 3) := by decide +kernel
theorem dX4_mark_81 : decode cX4_mark 81 = .ok (.ireturn, 1) := by decide +kernel
theorem dX4_mark_82 : decode cX4_mark 82 = .ok (.aload_n 0, 1) := by decide +kernel
theorem dX4_mark_83 : decode cX4_mark 83 = .ok (.iload_n 2, 1) := by decide +kernel
theorem dX4_mark_84 : decode cX4_mark 84 = .ok (.invokevirtual 194, 3) := by decide +kernel
theorem dX4_mark_87 : decode cX4_mark 87 = .ok (.ireturn, 1) := by decide +kernel
theorem dX4_mark_88 : decode cX4_mark 88 = .ok (.ldc 140, 2) := by decide +kernel
theorem dX4_mark_90 : decode cX4_mark 90 = .ok (.ireturn, 1) := by decide +kernel
set_option maxRecDepth 20000 in
theorem ggX4_keep_X4_isImage : GoodIn wsX4_keep wsX4_isImage := goodIn_r _ [7, 1, 19, 20, 21, 22, 23, 24, 25] (by decide +kernel) (by decide +kernel)
set_option maxRecDepth 20000 in
theorem gX4_keep_X4_isImage : GoodIn wsX4_keep (wsV RX4 144 RX4 yX4_isImage wsX4_isImage) := goodIn_app (goodIn_of _ (by decide +kernel)) ggX4_keep_X4_isImage
set_option maxRecDepth 20000 in
theorem ggX4_keep_X0_copyFrom : GoodIn wsX4_keep wsX0_copyFrom := goodIn_r _ [11, 12, 13, 14, 15, 16, 17, 18, 26, 27, 28, 29, 30, 31, 32, 33] (by decide +kernel) (by decide +kernel)
set_option maxRecDepth 20000 in
theorem gX4_keep_X0_copyFrom_n197 : GoodIn wsX4_keep (wsX0_copyFrom) := ggX4_keep_X0_copyFrom
theorem dX4_keep_0 : decode cX4_keep 0 = .ok (.aload_n 0, 1) := by decide +kernel
theorem dX4_keep_1 : decode cX4_keep 1 = .ok (.iload_n 1, 1) := by decide +kernel
theorem dX4_keep_2 : decode cX4_keep 2 = .ok (.invokevirtual 144, 3) := by decide +kernel
theorem dX4_keep_5 : decode cX4_keep 5 = .ok (.ifCond .ne 5, 3) := by decide +kernel
theorem dX4_keep_8 : decode cX4_keep 8 = .ok (.iconst (-1), 1) := by decide +kernel
theorem dX4_keep_9 : decode cX4_keep 9 = .ok (.ireturn, 1) := by decide +kernel
theorem dX4_keep_10 : decode cX4_keep 10 = .ok (.aload_n 0, 1) := by decide +kernel
theorem dX4_keep_11 : decode cX4_keep 11 = .ok (.getfield 30, 3) := by decide +kernel
theorem dX4_keep_14 : decode cX4_keep 14 = .ok (.iload_n 1, 1) := by decide +kernel
theorem dX4_keep_15 : decode cX4_keep 15 = .ok (.aaload, 1) := by decide +kernel
theorem dX4_keep_16 : decode cX4_keep 16 = .ok (.aload_n 0, 1) := by decide +kernel
theorem dX4_keep_17 : decode cX4_keep 17 = .ok (.getfield 26, 3) := by decide +kernel
theorem dX4_keep_20 : decode cX4_keep 20 = .ok (.invokevirtual 197, 3) := by decide +kernel
theorem dX4_keep_23 : decode cX4_keep 23 = .ok (.aload_n 0, 1) := by decide +kernel
theorem dX4_keep_24 : decode cX4_keep 24 = .ok (.getfield 30, 3) := by decide +kernel
theorem dX4_keep_27 : decode cX4_keep 27 = .ok (.iload_n 1, 1) := by decide +kernel
theorem dX4_keep_28 : decode cX4_keep 28 = .ok (.aaload, 1) := by decide +kernel
theorem dX4_keep_29 : decode cX4_keep 29 = .ok (.iconst 1, 1) := by decide +kernel
theorem dX4_keep_30 : decode cX4_keep 30 = .ok (.putfield 66, 3) := by decide +kernel
theorem dX4_keep_33 : decode cX4_keep 33 = .ok (.aload_n 0, 1) := by decide +kernel
theorem dX4_keep_34 : decode cX4_keep 34 = .ok (.getfield 26, 3) := by decide +kernel
theorem dX4_keep_37 : decode cX4_keep 37 = .ok (.getfield 122, 3) := by decide +kernel
theorem dX4_keep_40 : decode cX4_keep 40 = .ok (.ireturn, 1) := by decide +kernel
set_option maxRecDepth 20000 in
theorem ggX4_back_X4_isImage : GoodIn wsX4_back wsX4_isImage := goodIn_r _ [7, 1, 19, 20, 21, 22, 23, 24, 25] (by decide +kernel) (by decide +kernel)
set_option maxRecDepth 20000 in
theorem gX4_back_X4_isImage : GoodIn wsX4_back (wsV RX4 144 RX4 yX4_isImage wsX4_isImage) := goodIn_app (goodIn_of _ (by decide +kernel)) ggX4_back_X4_isImage
set_option maxRecDepth 20000 in
theorem ggX4_back_X0_copyFrom : GoodIn wsX4_back wsX0_copyFrom := goodIn_r _ [11, 12, 13, 14, 15, 16, 17, 18, 26, 27, 28, 29, 30, 31, 32, 33] (by decide +kernel) (by decide +kernel)
set_option maxRecDepth 20000 in
theorem gX4_back_X0_copyFrom_n197 : GoodIn wsX4_back (wsX0_copyFrom) := ggX4_back_X0_copyFrom
theorem dX4_back_0 : decode cX4_back 0 = .ok (.aload_n 0, 1) := by decide +kernel
theorem dX4_back_1 : decode cX4_back 1 = .ok (.iload_n 1, 1) := by decide +kernel
theorem dX4_back_2 : decode cX4_back 2 = .ok (.invokevirtual 144, 3) := by decide +kernel
theorem dX4_back_5 : decode cX4_back 5 = .ok (.ifCond .ne 5, 3) := by decide +kernel
theorem dX4_back_8 : decode cX4_back 8 = .ok (.iconst (-1), 1) := by decide +kernel
theorem dX4_back_9 : decode cX4_back 9 = .ok (.ireturn, 1) := by decide +kernel
theorem dX4_back_10 : decode cX4_back 10 = .ok (.aload_n 0, 1) := by decide +kernel
theorem dX4_back_11 : decode cX4_back 11 = .ok (.getfield 30, 3) := by decide +kernel
theorem dX4_back_14 : decode cX4_back 14 = .ok (.iload_n 1, 1) := by decide +kernel
theorem dX4_back_15 : decode cX4_back 15 = .ok (.aaload, 1) := by decide +kernel
theorem dX4_back_16 : decode cX4_back 16 = .ok (.getfield 66, 3) := by decide +kernel
theorem dX4_back_19 : decode cX4_back 19 = .ok (.ifCond .ne 6, 3) := by decide +kernel
theorem dX4_back_22 : decode cX4_back 22 = .ok (.bipush (-2), 2) := by decide +kernel
theorem dX4_back_24 : decode cX4_back 24 = .ok (.ireturn, 1) := by decide +kernel
theorem dX4_back_25 : decode cX4_back 25 = .ok (.aload_n 0, 1) := by decide +kernel
theorem dX4_back_26 : decode cX4_back 26 = .ok (.getfield 26, 3) := by decide +kernel
theorem dX4_back_29 : decode cX4_back 29 = .ok (.aload_n 0, 1) := by decide +kernel
theorem dX4_back_30 : decode cX4_back 30 = .ok (.getfield 30, 3) := by decide +kernel
theorem dX4_back_33 : decode cX4_back 33 = .ok (.iload_n 1, 1) := by decide +kernel
theorem dX4_back_34 : decode cX4_back 34 = .ok (.aaload, 1) := by decide +kernel
theorem dX4_back_35 : decode cX4_back 35 = .ok (.invokevirtual 197, 3) := by decide +kernel
theorem dX4_back_38 : decode cX4_back 38 = .ok (.aload_n 0, 1) := by decide +kernel
theorem dX4_back_39 : decode cX4_back 39 = .ok (.getfield 26, 3) := by decide +kernel
theorem dX4_back_42 : decode cX4_back 42 = .ok (.getfield 122, 3) := by decide +kernel
theorem dX4_back_45 : decode cX4_back 45 = .ok (.ireturn, 1) := by decide +kernel
set_option maxRecDepth 20000 in
theorem ggX4_count_X1_lyingIn : GoodIn wsX4_count wsX1_lyingIn := goodIn_r _ [7, 8, 9, 10, 11, 19, 20, 21, 22, 23, 24, 25, 26, 27, 28, 29] (by decide +kernel) (by decide +kernel)
set_option maxRecDepth 20000 in
theorem gX4_count_X1_lyingIn_n207 : GoodIn wsX4_count (wsX1_lyingIn) := ggX4_count_X1_lyingIn
theorem dX4_count_0 : decode cX4_count 0 = .ok (.iload_n 1, 1) := by decide +kernel
theorem dX4_count_1 : decode cX4_count 1 = .ok (.tableswitch 82 0 4 #[35, 43, 51, 66, 74], 35) := by decide +kernel
theorem dX4_count_36 : decode cX4_count 36 = .ok (.aload_n 0, 1) := by decide +kernel
theorem dX4_count_37 : decode cX4_count 37 = .ok (.getfield 37, 3) := by decide +kernel
theorem dX4_count_40 : decode cX4_count 40 = .ok (.getfield 201, 3) := by decide +kernel
theorem dX4_count_43 : decode cX4_count 43 = .ok (.ireturn, 1) := by decide +kernel
theorem dX4_count_44 : decode cX4_count 44 = .ok (.aload_n 0, 1) := by decide +kernel
theorem dX4_count_45 : decode cX4_count 45 = .ok (.getfield 37, 3) := by decide +kernel
theorem dX4_count_48 : decode cX4_count 48 = .ok (.getfield 204, 3) := by decide +kernel
theorem dX4_count_51 : decode cX4_count 51 = .ok (.ireturn, 1) := by decide +kernel
theorem dX4_count_52 : decode cX4_count 52 = .ok (.aload_n 0, 1) := by decide +kernel
theorem dX4_count_53 : decode cX4_count 53 = .ok (.getfield 37, 3) := by decide +kernel
theorem dX4_count_56 : decode cX4_count 56 = .ok (.aload_n 0, 1) := by decide +kernel
theorem dX4_count_57 : decode cX4_count 57 = .ok (.getfield 26, 3) := by decide +kernel
theorem dX4_count_60 : decode cX4_count 60 = .ok (.getfield 77, 3) := by decide +kernel
theorem dX4_count_63 : decode cX4_count 63 = .ok (.invokevirtual 207, 3) := by decide +kernel
theorem dX4_count_66 : decode cX4_count 66 = .ok (.ireturn, 1) := by decide +kernel
theorem dX4_count_67 : decode cX4_count 67 = .ok (.aload_n 0, 1) := by decide +kernel
theorem dX4_count_68 : decode cX4_count 68 = .ok (.getfield 26, 3) := by decide +kernel
theorem dX4_count_71 : decode cX4_count 71 = .ok (.getfield 164, 3) := by decide +kernel
theorem dX4_count_74 : decode cX4_count 74 = .ok (.ireturn, 1) := by decide +kernel
theorem dX4_count_75 : decode cX4_count 75 = .ok (.aload_n 0, 1) := by decide +kernel
theorem dX4_count_76 : decode cX4_count 76 = .ok (.getfield 12, 3) := by decide +kernel
theorem dX4_count_79 : decode cX4_count 79 = .ok (.getfield 44, 3) := by decide +kernel
theorem dX4_count_82 : decode cX4_count 82 = .ok (.ireturn, 1) := by decide +kernel
theorem dX4_count_83 : decode cX4_count 83 = .ok (.iconst (-1), 1) := by decide +kernel
theorem dX4_count_84 : decode cX4_count 84 = .ok (.ireturn, 1) := by decide +kernel
theorem dX4_trace_0 : decode cX4_trace 0 = .ok (.aload_n 0, 1) := by decide +kernel
theorem dX4_trace_1 : decode cX4_trace 1 = .ok (.getfield 210, 3) := by decide +kernel
theorem dX4_trace_4 : decode cX4_trace 4 = .ok (.lreturn, 1) := by decide +kernel
set_option maxRecDepth 20000 in
theorem ggX4_act_X4_moved : GoodIn wsX4_act wsX4_moved := goodIn_r _ [6, 7, 8, 5, 9, 10, 11, 12] (by decide +kernel) (by decide +kernel)
set_option maxRecDepth 20000 in
theorem gX4_act_X4_moved : GoodIn wsX4_act (va_wsS RX4 214 yX4_moved wsX4_moved) := goodIn_app (goodIn_of _ (by decide +kernel)) ggX4_act_X4_moved
set_option maxRecDepth 20000 in
theorem ggX4_act_X1_allows : GoodIn wsX4_act wsX1_allows := goodIn_r _ [16, 17, 18, 19, 20, 21, 22, 14, 23, 8, 5, 9, 24, 25, 26, 27, 28, 29, 30, 31, 32, 33, 34, 35, 36, 37, 38, 39, 40, 41, 42, 43, 44, 60, 61, 62, 63, 64, 65, 66, 67, 68, 69, 70] (by decide +kernel) (by decide +kernel)
set_option maxRecDepth 20000 in
theorem gX4_act_X1_allows_n137 : GoodIn wsX4_act (wsX1_allows) := ggX4_act_X1_allows
set_option maxRecDepth 20000 in
theorem ggX4_act_X1_lyingIn : GoodIn wsX4_act wsX1_lyingIn := goodIn_r _ [23, 18, 8, 5, 9, 60, 61, 62, 63, 64, 65, 66, 67, 68, 69, 70] (by decide +kernel) (by decide +kernel)
set_option maxRecDepth 20000 in
theorem gX4_act_X1_lyingIn_n207 : GoodIn wsX4_act (wsX1_lyingIn) := ggX4_act_X1_lyingIn
theorem dX4_act_0 : decode cX4_act 0 = .ok (.aload_n 0, 1) := by decide +kernel
theorem dX4_act_1 : decode cX4_act 1 = .ok (.getfield 26, 3) := by decide +kernel
theorem dX4_act_4 : decode cX4_act 4 = .ok (.getfield 77, 3) := by decide +kernel
theorem dX4_act_7 : decode cX4_act 7 = .ok (.iload_n 1, 1) := by decide +kernel
theorem dX4_act_8 : decode cX4_act 8 = .ok (.iload_n 2, 1) := by decide +kernel
theorem dX4_act_9 : decode cX4_act 9 = .ok (.invokestatic 214, 3) := by decide +kernel
theorem dX4_act_12 : decode cX4_act 12 = .ok (.istore_n 3, 1) := by decide +kernel
theorem dX4_act_13 : decode cX4_act 13 = .ok (.aload_n 0, 1) := by decide +kernel
theorem dX4_act_14 : decode cX4_act 14 = .ok (.getfield 26, 3) := by decide +kernel
theorem dX4_act_17 : decode cX4_act 17 = .ok (.getfield 131, 3) := by decide +kernel
theorem dX4_act_20 : decode cX4_act 20 = .ok (.aload_n 0, 1) := by decide +kernel
theorem dX4_act_21 : decode cX4_act 21 = .ok (.getfield 37, 3) := by decide +kernel
theorem dX4_act_24 : decode cX4_act 24 = .ok (.getfield 105, 3) := by decide +kernel
theorem dX4_act_27 : decode cX4_act 27 = .ok (.if_icmp .ge 14, 3) := by decide +kernel
theorem dX4_act_30 : decode cX4_act 30 = .ok (.aload_n 0, 1) := by decide +kernel
theorem dX4_act_31 : decode cX4_act 31 = .ok (.getfield 37, 3) := by decide +kernel
theorem dX4_act_34 : decode cX4_act 34 = .ok (.iload_n 3, 1) := by decide +kernel
theorem dX4_act_35 : decode cX4_act 35 = .ok (.invokevirtual 137, 3) := by decide +kernel
theorem dX4_act_38 : decode cX4_act 38 = .ok (.ifCond .ne 6, 3) := by decide +kernel
theorem dX4_act_41 : decode cX4_act 41 = .ok (.bipush (-2), 2) := by decide +kernel
theorem dX4_act_43 : decode cX4_act 43 = .ok (.ireturn, 1) := by decide +kernel
theorem dX4_act_44 : decode cX4_act 44 = .ok (.aload_n 0, 1) := by decide +kernel
theorem dX4_act_45 : decode cX4_act 45 = .ok (.getfield 26, 3) := by decide +kernel
theorem dX4_act_48 : decode cX4_act 48 = .ok (.iload_n 3, 1) := by decide +kernel
theorem dX4_act_49 : decode cX4_act 49 = .ok (.putfield 77, 3) := by decide +kernel
theorem dX4_act_52 : decode cX4_act 52 = .ok (.aload_n 0, 1) := by decide +kernel
theorem dX4_act_53 : decode cX4_act 53 = .ok (.getfield 26, 3) := by decide +kernel
theorem dX4_act_56 : decode cX4_act 56 = .ok (.dup, 1) := by decide +kernel
theorem dX4_act_57 : decode cX4_act 57 = .ok (.getfield 131, 3) := by decide +kernel
theorem dX4_act_60 : decode cX4_act 60 = .ok (.iconst 1, 1) := by decide +kernel
theorem dX4_act_61 : decode cX4_act 61 = .ok (.iadd, 1) := by decide +kernel
theorem dX4_act_62 : decode cX4_act 62 = .ok (.putfield 131, 3) := by decide +kernel
theorem dX4_act_65 : decode cX4_act 65 = .ok (.aload_n 0, 1) := by decide +kernel
theorem dX4_act_66 : decode cX4_act 66 = .ok (.getfield 37, 3) := by decide +kernel
theorem dX4_act_69 : decode cX4_act 69 = .ok (.iload_n 3, 1) := by decide +kernel
theorem dX4_act_70 : decode cX4_act 70 = .ok (.invokevirtual 207, 3) := by decide +kernel
theorem dX4_act_73 : decode cX4_act 73 = .ok (.ireturn, 1) := by decide +kernel
theorem dX4_isImage_0 : decode cX4_isImage 0 = .ok (.iload_n 1, 1) := by decide +kernel
theorem dX4_isImage_1 : decode cX4_isImage 1 = .ok (.ifCond .lt 21, 3) := by decide +kernel
theorem dX4_isImage_4 : decode cX4_isImage 4 = .ok (.iload_n 1, 1) := by decide +kernel
theorem dX4_isImage_5 : decode cX4_isImage 5 = .ok (.iconst 2, 1) := by decide +kernel
theorem dX4_isImage_6 : decode cX4_isImage 6 = .ok (.if_icmp .ge 16, 3) := by decide +kernel
theorem dX4_isImage_9 : decode cX4_isImage 9 = .ok (.iload_n 1, 1) := by decide +kernel
theorem dX4_isImage_10 : decode cX4_isImage 10 = .ok (.aload_n 0, 1) := by decide +kernel
theorem dX4_isImage_11 : decode cX4_isImage 11 = .ok (.getfield 30, 3) := by decide +kernel
theorem dX4_isImage_14 : decode cX4_isImage 14 = .ok (.arraylength, 1) := by decide +kernel
theorem dX4_isImage_15 : decode cX4_isImage 15 = .ok (.if_icmp .ge 7, 3) := by decide +kernel
theorem dX4_isImage_18 : decode cX4_isImage 18 = .ok (.iconst 1, 1) := by decide +kernel
theorem dX4_isImage_19 : decode cX4_isImage 19 = .ok (.goto 4, 3) := by decide +kernel
theorem dX4_isImage_22 : decode cX4_isImage 22 = .ok (.iconst 0, 1) := by decide +kernel
theorem dX4_isImage_23 : decode cX4_isImage 23 = .ok (.ireturn, 1) := by decide +kernel
set_option maxRecDepth 20000 in
theorem ggX4_markOfPanel_X4_placeIn : GoodIn wsX4_markOfPanel wsX4_placeIn := goodIn_r _ [6] (by decide +kernel) (by decide +kernel)
set_option maxRecDepth 20000 in
theorem gX4_markOfPanel_X4_placeIn : GoodIn wsX4_markOfPanel (va_wsS RX4 80 yX4_placeIn wsX4_placeIn) := goodIn_app (goodIn_of _ (by decide +kernel)) ggX4_markOfPanel_X4_placeIn
theorem dX4_markOfPanel_0 : decode cX4_markOfPanel 0 = .ok (.aload_n 0, 1) := by decide +kernel
theorem dX4_markOfPanel_1 : decode cX4_markOfPanel 1 = .ok (.dup, 1) := by decide +kernel
theorem dX4_markOfPanel_2 : decode cX4_markOfPanel 2 = .ok (.getfield 210, 3) := by decide +kernel
theorem dX4_markOfPanel_5 : decode cX4_markOfPanel 5 = .ok (.lconst 1, 1) := by decide +kernel
theorem dX4_markOfPanel_6 : decode cX4_markOfPanel 6 = .ok (.ladd, 1) := by decide +kernel
theorem dX4_markOfPanel_7 : decode cX4_markOfPanel 7 = .ok (.putfield 210, 3) := by decide +kernel
theorem dX4_markOfPanel_10 : decode cX4_markOfPanel 10 = .ok (.aload_n 0, 1) := by decide +kernel
theorem dX4_markOfPanel_11 : decode cX4_markOfPanel 11 = .ok (.getfield 26, 3) := by decide +kernel
theorem dX4_markOfPanel_14 : decode cX4_markOfPanel 14 = .ok (.getfield 77, 3) := by decide +kernel
theorem dX4_markOfPanel_17 : decode cX4_markOfPanel 17 = .ok (.iload_n 1, 1) := by decide +kernel
theorem dX4_markOfPanel_18 : decode cX4_markOfPanel 18 = .ok (.invokestatic 80, 3) := by decide +kernel
theorem dX4_markOfPanel_21 : decode cX4_markOfPanel 21 = .ok (.ireturn, 1) := by decide +kernel
set_option maxRecDepth 20000 in
theorem ggX4_markOfBearing_X4_markOfPanel : GoodIn wsX4_markOfBearing wsX4_markOfPanel := goodIn_r _ [7, 1, 8, 9, 10, 6, 11, 12, 13, 14, 15, 16, 17, 18, 19, 20, 21, 22, 23, 24, 25, 26] (by decide +kernel) (by decide +kernel)
set_option maxRecDepth 20000 in
theorem gX4_markOfBearing_X4_markOfPanel : GoodIn wsX4_markOfBearing (wsV RX4 179 RX4 yX4_markOfPanel wsX4_markOfPanel) := goodIn_app (goodIn_of _ (by decide +kernel)) ggX4_markOfBearing_X4_markOfPanel
theorem dX4_markOfBearing_0 : decode cX4_markOfBearing 0 = .ok (.aload_n 0, 1) := by decide +kernel
theorem dX4_markOfBearing_1 : decode cX4_markOfBearing 1 = .ok (.dup, 1) := by decide +kernel
theorem dX4_markOfBearing_2 : decode cX4_markOfBearing 2 = .ok (.getfield 210, 3) := by decide +kernel
theorem dX4_markOfBearing_5 : decode cX4_markOfBearing 5 = .ok (.ldc2_w 218, 3) := by decide +kernel
theorem dX4_markOfBearing_8 : decode cX4_markOfBearing 8 = .ok (.ladd, 1) := by decide +kernel
theorem dX4_markOfBearing_9 : decode cX4_markOfBearing 9 = .ok (.putfield 210, 3) := by decide +kernel
theorem dX4_markOfBearing_12 : decode cX4_markOfBearing 12 = .ok (.aload_n 0, 1) := by decide +kernel
theorem dX4_markOfBearing_13 : decode cX4_markOfBearing 13 = .ok (.iload_n 1, 1) := by decide +kernel
theorem dX4_markOfBearing_14 : decode cX4_markOfBearing 14 = .ok (.invokevirtual 179, 3) := by decide +kernel
theorem dX4_markOfBearing_17 : decode cX4_markOfBearing 17 = .ok (.iconst 2, 1) := by decide +kernel
theorem dX4_markOfBearing_18 : decode cX4_markOfBearing 18 = .ok (.imul, 1) := by decide +kernel
theorem dX4_markOfBearing_19 : decode cX4_markOfBearing 19 = .ok (.ireturn, 1) := by decide +kernel
set_option maxRecDepth 20000 in
theorem ggX4_markOfLight_X4_markOfPanel : GoodIn wsX4_markOfLight wsX4_markOfPanel := goodIn_r _ [8, 1, 9, 10, 11, 7, 12, 23, 24, 25, 26, 27, 28, 29, 30, 31, 32, 33, 34, 35, 36, 37] (by decide +kernel) (by decide +kernel)
set_option maxRecDepth 20000 in
theorem gX4_markOfLight_X4_markOfPanel : GoodIn wsX4_markOfLight (wsV RX4 179 RX4 yX4_markOfPanel wsX4_markOfPanel) := goodIn_app (goodIn_of _ (by decide +kernel)) ggX4_markOfLight_X4_markOfPanel
set_option maxRecDepth 20000 in
theorem ggX4_markOfLight_X1_sortOf : GoodIn wsX4_markOfLight wsX1_sortOf := goodIn_r _ [16, 17, 18, 19, 20, 14, 21, 22, 38, 39, 40, 41, 42, 43, 44, 45, 46, 47, 48] (by decide +kernel) (by decide +kernel)
set_option maxRecDepth 20000 in
theorem gX4_markOfLight_X1_sortOf_n73 : GoodIn wsX4_markOfLight (wsX1_sortOf) := ggX4_markOfLight_X1_sortOf
theorem dX4_markOfLight_0 : decode cX4_markOfLight 0 = .ok (.aload_n 0, 1) := by decide +kernel
theorem dX4_markOfLight_1 : decode cX4_markOfLight 1 = .ok (.dup, 1) := by decide +kernel
theorem dX4_markOfLight_2 : decode cX4_markOfLight 2 = .ok (.getfield 210, 3) := by decide +kernel
theorem dX4_markOfLight_5 : decode cX4_markOfLight 5 = .ok (.ldc2_w 220, 3) := by decide +kernel
theorem dX4_markOfLight_8 : decode cX4_markOfLight 8 = .ok (.ladd, 1) := by decide +kernel
theorem dX4_markOfLight_9 : decode cX4_markOfLight 9 = .ok (.putfield 210, 3) := by decide +kernel
theorem dX4_markOfLight_12 : decode cX4_markOfLight 12 = .ok (.aload_n 0, 1) := by decide +kernel
theorem dX4_markOfLight_13 : decode cX4_markOfLight 13 = .ok (.iload_n 1, 1) := by decide +kernel
theorem dX4_markOfLight_14 : decode cX4_markOfLight 14 = .ok (.invokevirtual 179, 3) := by decide +kernel
theorem dX4_markOfLight_17 : decode cX4_markOfLight 17 = .ok (.aload_n 0, 1) := by decide +kernel
theorem dX4_markOfLight_18 : decode cX4_markOfLight 18 = .ok (.getfield 37, 3) := by decide +kernel
theorem dX4_markOfLight_21 : decode cX4_markOfLight 21 = .ok (.iload_n 1, 1) := by decide +kernel
theorem dX4_markOfLight_22 : decode cX4_markOfLight 22 = .ok (.invokevirtual 73, 3) := by decide +kernel
theorem dX4_markOfLight_25 : decode cX4_markOfLight 25 = .ok (.iadd, 1) := by decide +kernel
theorem dX4_markOfLight_26 : decode cX4_markOfLight 26 = .ok (.ireturn, 1) := by decide +kernel
set_option maxRecDepth 20000 in
theorem ggX4_markOfOld_X4_markOfBearing : GoodIn wsX4_markOfOld wsX4_markOfBearing := goodIn_r _ [8, 1, 9, 10, 11, 12, 7, 13, 3, 14, 15, 16, 17, 18, 19, 20, 21, 22, 23, 24, 25, 26, 27, 28, 29, 30, 31] (by decide +kernel) (by decide +kernel)
set_option maxRecDepth 20000 in
theorem gX4_markOfOld_X4_markOfBearing : GoodIn wsX4_markOfOld (wsV RX4 182 RX4 yX4_markOfBearing wsX4_markOfBearing) := goodIn_app (goodIn_of _ (by decide +kernel)) ggX4_markOfOld_X4_markOfBearing
theorem dX4_markOfOld_0 : decode cX4_markOfOld 0 = .ok (.aload_n 0, 1) := by decide +kernel
theorem dX4_markOfOld_1 : decode cX4_markOfOld 1 = .ok (.dup, 1) := by decide +kernel
theorem dX4_markOfOld_2 : decode cX4_markOfOld 2 = .ok (.getfield 210, 3) := by decide +kernel
theorem dX4_markOfOld_5 : decode cX4_markOfOld 5 = .ok (.ldc2_w 222, 3) := by decide +kernel
theorem dX4_markOfOld_8 : decode cX4_markOfOld 8 = .ok (.ladd, 1) := by decide +kernel
theorem dX4_markOfOld_9 : decode cX4_markOfOld 9 = .ok (.putfield 210, 3) := by decide +kernel
theorem dX4_markOfOld_12 : decode cX4_markOfOld 12 = .ok (.aload_n 0, 1) := by decide +kernel
theorem dX4_markOfOld_13 : decode cX4_markOfOld 13 = .ok (.iload_n 1, 1) := by decide +kernel
theorem dX4_markOfOld_14 : decode cX4_markOfOld 14 = .ok (.invokevirtual 182, 3) := by decide +kernel
theorem dX4_markOfOld_17 : decode cX4_markOfOld 17 = .ok (.aload_n 0, 1) := by decide +kernel
theorem dX4_markOfOld_18 : decode cX4_markOfOld 18 = .ok (.getfield 26, 3) := by decide +kernel
theorem dX4_markOfOld_21 : decode cX4_markOfOld 21 = .ok (.getfield 122, 3) := by decide +kernel
theorem dX4_markOfOld_24 : decode cX4_markOfOld 24 = .ok (.iadd, 1) := by decide +kernel
theorem dX4_markOfOld_25 : decode cX4_markOfOld 25 = .ok (.ireturn, 1) := by decide +kernel
set_option maxRecDepth 20000 in
theorem ggX4_markOfClear_X4_markOfLight : GoodIn wsX4_markOfClear wsX4_markOfLight := goodIn_r _ [9, 1, 10, 3, 11, 12, 13, 8, 14, 4, 15, 16, 17, 18, 19, 20, 21, 22, 23, 24, 25, 26, 27, 31, 32, 33, 34, 35, 36, 37, 38, 39, 40, 41, 42, 43, 44, 45, 46, 47, 48, 49, 50, 51, 52, 53, 54, 55, 56] (by decide +kernel) (by decide +kernel)
set_option maxRecDepth 20000 in
theorem gX4_markOfClear_X4_markOfLight : GoodIn wsX4_markOfClear (wsV RX4 185 RX4 yX4_markOfLight wsX4_markOfLight) := goodIn_app (goodIn_of _ (by decide +kernel)) ggX4_markOfClear_X4_markOfLight
set_option maxRecDepth 20000 in
theorem ggX4_markOfClear_X1_lyingIn : GoodIn wsX4_markOfClear wsX1_lyingIn := goodIn_r _ [30, 27, 16, 8, 17, 46, 47, 48, 49, 50, 51, 52, 53, 54, 55, 56] (by decide +kernel) (by decide +kernel)
set_option maxRecDepth 20000 in
theorem gX4_markOfClear_X1_lyingIn_n207 : GoodIn wsX4_markOfClear (wsX1_lyingIn) := ggX4_markOfClear_X1_lyingIn
theorem dX4_markOfClear_0 : decode cX4_markOfClear 0 = .ok (.aload_n 0, 1) := by decide +kernel
theorem dX4_markOfClear_1 : decode cX4_markOfClear 1 = .ok (.dup, 1) := by decide +kernel
theorem dX4_markOfClear_2 : decode cX4_markOfClear 2 = .ok (.getfield 210, 3) := by decide +kernel
theorem dX4_markOfClear_5 : decode cX4_markOfClear 5 = .ok (.ldc2_w 224, 3) := by decide +kernel
theorem dX4_markOfClear_8 : decode cX4_markOfClear 8 = .ok (.ladd, 1) := by decide +kernel
theorem dX4_markOfClear_9 : decode cX4_markOfClear 9 = .ok (.putfield 210, 3) := by decide +kernel
theorem dX4_markOfClear_12 : decode cX4_markOfClear 12 = .ok (.aload_n 0, 1) := by decide +kernel
theorem dX4_markOfClear_13 : decode cX4_markOfClear 13 = .ok (.iload_n 1, 1) := by decide +kernel
theorem dX4_markOfClear_14 : decode cX4_markOfClear 14 = .ok (.invokevirtual 185, 3) := by decide +kernel
theorem dX4_markOfClear_17 : decode cX4_markOfClear 17 = .ok (.aload_n 0, 1) := by decide +kernel
theorem dX4_markOfClear_18 : decode cX4_markOfClear 18 = .ok (.getfield 37, 3) := by decide +kernel
theorem dX4_markOfClear_21 : decode cX4_markOfClear 21 = .ok (.aload_n 0, 1) := by decide +kernel
theorem dX4_markOfClear_22 : decode cX4_markOfClear 22 = .ok (.getfield 26, 3) := by decide +kernel
theorem dX4_markOfClear_25 : decode cX4_markOfClear 25 = .ok (.getfield 77, 3) := by decide +kernel
theorem dX4_markOfClear_28 : decode cX4_markOfClear 28 = .ok (.invokevirtual 207, 3) := by decide +kernel
theorem dX4_markOfClear_31 : decode cX4_markOfClear 31 = .ok (.iadd, 1) := by decide +kernel
theorem dX4_markOfClear_32 : decode cX4_markOfClear 32 = .ok (.ireturn, 1) := by decide +kernel
set_option maxRecDepth 20000 in
theorem ggX4_markOfNeighbours_X4_markOfPanel : GoodIn wsX4_markOfNeighbours wsX4_markOfPanel := goodIn_r _ [7, 1, 8, 9, 10, 6, 11, 12, 13, 14, 15, 16, 17, 18, 19, 20, 21, 22, 23, 24, 25, 26] (by decide +kernel) (by decide +kernel)
set_option maxRecDepth 20000 in
theorem gX4_markOfNeighbours_X4_markOfPanel : GoodIn wsX4_markOfNeighbours (wsV RX4 179 RX4 yX4_markOfPanel wsX4_markOfPanel) := goodIn_app (goodIn_of _ (by decide +kernel)) ggX4_markOfNeighbours_X4_markOfPanel
theorem dX4_markOfNeighbours_0 : decode cX4_markOfNeighbours 0 = .ok (.aload_n 0, 1) := by decide +kernel
theorem dX4_markOfNeighbours_1 : decode cX4_markOfNeighbours 1 = .ok (.dup, 1) := by decide +kernel
theorem dX4_markOfNeighbours_2 : decode cX4_markOfNeighbours 2 = .ok (.getfield 210, 3) := by decide +kernel
theorem dX4_markOfNeighbours_5 : decode cX4_markOfNeighbours 5 = .ok (.ldc2_w 226, 3) := by decide +kernel
theorem dX4_markOfNeighbours_8 : decode cX4_markOfNeighbours 8 = .ok (.ladd, 1) := by decide +kernel
theorem dX4_markOfNeighbours_9 : decode cX4_markOfNeighbours 9 = .ok (.putfield 210, 3) := by decide +kernel
theorem dX4_markOfNeighbours_12 : decode cX4_markOfNeighbours 12 = .ok (.aload_n 0, 1) := by decide +kernel
theorem dX4_markOfNeighbours_13 : decode cX4_markOfNeighbours 13 = .ok (.iload_n 1, 1) := by decide +kernel
theorem dX4_markOfNeighbours_14 : decode cX4_markOfNeighbours 14 = .ok (.invokevirtual 179, 3) := by decide +kernel
theorem dX4_markOfNeighbours_17 : decode cX4_markOfNeighbours 17 = .ok (.iload_n 1, 1) := by decide +kernel
theorem dX4_markOfNeighbours_18 : decode cX4_markOfNeighbours 18 = .ok (.isub, 1) := by decide +kernel
theorem dX4_markOfNeighbours_19 : decode cX4_markOfNeighbours 19 = .ok (.ireturn, 1) := by decide +kernel
theorem dX4_isSlot_0 : decode cX4_isSlot 0 = .ok (.iload_n 0, 1) := by decide +kernel
theorem dX4_isSlot_1 : decode cX4_isSlot 1 = .ok (.ifCond .lt 13, 3) := by decide +kernel
theorem dX4_isSlot_4 : decode cX4_isSlot 4 = .ok (.iload_n 0, 1) := by decide +kernel
theorem dX4_isSlot_5 : decode cX4_isSlot 5 = .ok (.bipush 8, 2) := by decide +kernel
theorem dX4_isSlot_7 : decode cX4_isSlot 7 = .ok (.if_icmp .ge 7, 3) := by decide +kernel
theorem dX4_isSlot_10 : decode cX4_isSlot 10 = .ok (.iconst 1, 1) := by decide +kernel
theorem dX4_isSlot_11 : decode cX4_isSlot 11 = .ok (.goto 4, 3) := by decide +kernel
theorem dX4_isSlot_14 : decode cX4_isSlot 14 = .ok (.iconst 0, 1) := by decide +kernel
theorem dX4_isSlot_15 : decode cX4_isSlot 15 = .ok (.ireturn, 1) := by decide +kernel
theorem dX4_asNumber_0 : decode cX4_asNumber 0 = .ok (.iload_n 0, 1) := by decide +kernel
theorem dX4_asNumber_1 : decode cX4_asNumber 1 = .ok (.ifCond .eq 7, 3) := by decide +kernel
theorem dX4_asNumber_4 : decode cX4_asNumber 4 = .ok (.iconst 1, 1) := by decide +kernel
theorem dX4_asNumber_5 : decode cX4_asNumber 5 = .ok (.goto 4, 3) := by decide +kernel
theorem dX4_asNumber_8 : decode cX4_asNumber 8 = .ok (.iconst 0, 1) := by decide +kernel
theorem dX4_asNumber_9 : decode cX4_asNumber 9 = .ok (.ireturn, 1) := by decide +kernel
theorem dX4_placeIn_0 : decode cX4_placeIn 0 = .ok (.iload_n 1, 1) := by decide +kernel
theorem dX4_placeIn_1 : decode cX4_placeIn 1 = .ok (.tableswitch 52 0 2 #[27, 36, 44], 27) := by decide +kernel
theorem dX4_placeIn_28 : decode cX4_placeIn 28 = .ok (.iload_n 0, 1) := by decide +kernel
theorem dX4_placeIn_29 : decode cX4_placeIn 29 = .ok (.sipush 729, 3) := by decide +kernel
theorem dX4_placeIn_32 : decode cX4_placeIn 32 = .ok (.idiv, 1) := by decide +kernel
theorem dX4_placeIn_33 : decode cX4_placeIn 33 = .ok (.bipush 9, 2) := by decide +kernel
theorem dX4_placeIn_35 : decode cX4_placeIn 35 = .ok (.irem, 1) := by decide +kernel
theorem dX4_placeIn_36 : decode cX4_placeIn 36 = .ok (.ireturn, 1) := by decide +kernel
theorem dX4_placeIn_37 : decode cX4_placeIn 37 = .ok (.iload_n 0, 1) := by decide +kernel
theorem dX4_placeIn_38 : decode cX4_placeIn 38 = .ok (.bipush 81, 2) := by decide +kernel
theorem dX4_placeIn_40 : decode cX4_placeIn 40 = .ok (.idiv, 1) := by decide +kernel
theorem dX4_placeIn_41 : decode cX4_placeIn 41 = .ok (.bipush 9, 2) := by decide +kernel
theorem dX4_placeIn_43 : decode cX4_placeIn 43 = .ok (.irem, 1) := by decide +kernel
theorem dX4_placeIn_44 : decode cX4_placeIn 44 = .ok (.ireturn, 1) := by decide +kernel
theorem dX4_placeIn_45 : decode cX4_placeIn 45 = .ok (.iload_n 0, 1) := by decide +kernel
theorem dX4_placeIn_46 : decode cX4_placeIn 46 = .ok (.bipush 9, 2) := by decide +kernel
theorem dX4_placeIn_48 : decode cX4_placeIn 48 = .ok (.idiv, 1) := by decide +kernel
theorem dX4_placeIn_49 : decode cX4_placeIn 49 = .ok (.bipush 9, 2) := by decide +kernel
theorem dX4_placeIn_51 : decode cX4_placeIn 51 = .ok (.irem, 1) := by decide +kernel
theorem dX4_placeIn_52 : decode cX4_placeIn 52 = .ok (.ireturn, 1) := by decide +kernel
theorem dX4_placeIn_53 : decode cX4_placeIn 53 = .ok (.iload_n 0, 1) := by decide +kernel
theorem dX4_placeIn_54 : decode cX4_placeIn 54 = .ok (.bipush 9, 2) := by decide +kernel
theorem dX4_placeIn_56 : decode cX4_placeIn 56 = .ok (.irem, 1) := by decide +kernel
theorem dX4_placeIn_57 : decode cX4_placeIn 57 = .ok (.ireturn, 1) := by decide +kernel
theorem dX4_unitOf_0 : decode cX4_unitOf 0 = .ok (.iload_n 0, 1) := by decide +kernel
theorem dX4_unitOf_1 : decode cX4_unitOf 1 = .ok (.tableswitch 37 0 2 #[27, 31, 34], 27) := by decide +kernel
theorem dX4_unitOf_28 : decode cX4_unitOf 28 = .ok (.sipush 729, 3) := by decide +kernel
theorem dX4_unitOf_31 : decode cX4_unitOf 31 = .ok (.ireturn, 1) := by decide +kernel
theorem dX4_unitOf_32 : decode cX4_unitOf 32 = .ok (.bipush 81, 2) := by decide +kernel
theorem dX4_unitOf_34 : decode cX4_unitOf 34 = .ok (.ireturn, 1) := by decide +kernel
theorem dX4_unitOf_35 : decode cX4_unitOf 35 = .ok (.bipush 9, 2) := by decide +kernel
theorem dX4_unitOf_37 : decode cX4_unitOf 37 = .ok (.ireturn, 1) := by decide +kernel
theorem dX4_unitOf_38 : decode cX4_unitOf 38 = .ok (.iconst 1, 1) := by decide +kernel
theorem dX4_unitOf_39 : decode cX4_unitOf 39 = .ok (.ireturn, 1) := by decide +kernel
set_option maxRecDepth 20000 in
theorem ggX4_moved_X4_placeIn : GoodIn wsX4_moved wsX4_placeIn := goodIn_r _ [4] (by decide +kernel) (by decide +kernel)
set_option maxRecDepth 20000 in
theorem gX4_moved_X4_placeIn : GoodIn wsX4_moved (va_wsS RX4 80 yX4_placeIn wsX4_placeIn) := goodIn_app (goodIn_of _ (by decide +kernel)) ggX4_moved_X4_placeIn
set_option maxRecDepth 20000 in
theorem ggX4_moved_X4_unitOf : GoodIn wsX4_moved wsX4_unitOf := goodIn_r _ [7] (by decide +kernel) (by decide +kernel)
set_option maxRecDepth 20000 in
theorem gX4_moved_X4_unitOf : GoodIn wsX4_moved (va_wsS RX4 228 yX4_unitOf wsX4_unitOf) := goodIn_app (goodIn_of _ (by decide +kernel)) ggX4_moved_X4_unitOf
theorem dX4_moved_0 : decode cX4_moved 0 = .ok (.iload_n 0, 1) := by decide +kernel
theorem dX4_moved_1 : decode cX4_moved 1 = .ok (.iload_n 2, 1) := by decide +kernel
theorem dX4_moved_2 : decode cX4_moved 2 = .ok (.iload_n 0, 1) := by decide +kernel
theorem dX4_moved_3 : decode cX4_moved 3 = .ok (.iload_n 1, 1) := by decide +kernel
theorem dX4_moved_4 : decode cX4_moved 4 = .ok (.invokestatic 80, 3) := by decide +kernel
theorem dX4_moved_7 : decode cX4_moved 7 = .ok (.isub, 1) := by decide +kernel
theorem dX4_moved_8 : decode cX4_moved 8 = .ok (.iload_n 1, 1) := by decide +kernel
theorem dX4_moved_9 : decode cX4_moved 9 = .ok (.invokestatic 228, 3) := by decide +kernel
theorem dX4_moved_12 : decode cX4_moved 12 = .ok (.imul, 1) := by decide +kernel
theorem dX4_moved_13 : decode cX4_moved 13 = .ok (.iadd, 1) := by decide +kernel
theorem dX4_moved_14 : decode cX4_moved 14 = .ok (.ireturn, 1) := by decide +kernel
end
section
theorem dJ6_bitCount_0f7a4_0 : decode cJ6_bitCount_0f7a4 0 = .ok (.iload_n 0, 1) := by decide +kernel
theorem dJ6_bitCount_0f7a4_1 : decode cJ6_bitCount_0f7a4 1 = .ok (.iload_n 0, 1) := by decide +kernel
theorem dJ6_bitCount_0f7a4_2 : decode cJ6_bitCount_0f7a4 2 = .ok (.iconst 1, 1) := by decide +kernel
theorem dJ6_bitCount_0f7a4_3 : decode cJ6_bitCount_0f7a4 3 = .ok (.iushr, 1) := by decide +kernel
theorem dJ6_bitCount_0f7a4_4 : decode cJ6_bitCount_0f7a4 4 = .ok (.ldc_w 265, 3) := by decide +kernel
theorem dJ6_bitCount_0f7a4_7 : decode cJ6_bitCount_0f7a4 7 = .ok (.iand, 1) := by decide +kernel
theorem dJ6_bitCount_0f7a4_8 : decode cJ6_bitCount_0f7a4 8 = .ok (.isub, 1) := by decide +kernel
theorem dJ6_bitCount_0f7a4_9 : decode cJ6_bitCount_0f7a4 9 = .ok (.istore_n 0, 1) := by decide +kernel
theorem dJ6_bitCount_0f7a4_10 : decode cJ6_bitCount_0f7a4 10 = .ok (.iload_n 0, 1) := by decide +kernel
theorem dJ6_bitCount_0f7a4_11 : decode cJ6_bitCount_0f7a4 11 = .ok (.ldc_w 266, 3) := by decide +kernel
theorem dJ6_bitCount_0f7a4_14 : decode cJ6_bitCount_0f7a4 14 = .ok (.iand, 1) := by decide +kernel
theorem dJ6_bitCount_0f7a4_15 : decode cJ6_bitCount_0f7a4 15 = .ok (.iload_n 0, 1) := by decide +kernel
theorem dJ6_bitCount_0f7a4_16 : decode cJ6_bitCount_0f7a4 16 = .ok (.iconst 2, 1) := by decide +kernel
theorem dJ6_bitCount_0f7a4_17 : decode cJ6_bitCount_0f7a4 17 = .ok (.iushr, 1) := by decide +kernel
theorem dJ6_bitCount_0f7a4_18 : decode cJ6_bitCount_0f7a4 18 = .ok (.ldc_w 266, 3) := by decide +kernel
theorem dJ6_bitCount_0f7a4_21 : decode cJ6_bitCount_0f7a4 21 = .ok (.iand, 1) := by decide +kernel
theorem dJ6_bitCount_0f7a4_22 : decode cJ6_bitCount_0f7a4 22 = .ok (.iadd, 1) := by decide +kernel
theorem dJ6_bitCount_0f7a4_23 : decode cJ6_bitCount_0f7a4 23 = .ok (.istore_n 0, 1) := by decide +kernel
theorem dJ6_bitCount_0f7a4_24 : decode cJ6_bitCount_0f7a4 24 = .ok (.iload_n 0, 1) := by decide +kernel
theorem dJ6_bitCount_0f7a4_25 : decode cJ6_bitCount_0f7a4 25 = .ok (.iload_n 0, 1) := by decide +kernel
theorem dJ6_bitCount_0f7a4_26 : decode cJ6_bitCount_0f7a4 26 = .ok (.iconst 4, 1) := by decide +kernel
theorem dJ6_bitCount_0f7a4_27 : decode cJ6_bitCount_0f7a4 27 = .ok (.iushr, 1) := by decide +kernel
theorem dJ6_bitCount_0f7a4_28 : decode cJ6_bitCount_0f7a4 28 = .ok (.iadd, 1) := by decide +kernel
theorem dJ6_bitCount_0f7a4_29 : decode cJ6_bitCount_0f7a4 29 = .ok (.ldc_w 267, 3) := by decide +kernel
theorem dJ6_bitCount_0f7a4_32 : decode cJ6_bitCount_0f7a4 32 = .ok (.iand, 1) := by decide +kernel
theorem dJ6_bitCount_0f7a4_33 : decode cJ6_bitCount_0f7a4 33 = .ok (.istore_n 0, 1) := by decide +kernel
theorem dJ6_bitCount_0f7a4_34 : decode cJ6_bitCount_0f7a4 34 = .ok (.iload_n 0, 1) := by decide +kernel
theorem dJ6_bitCount_0f7a4_35 : decode cJ6_bitCount_0f7a4 35 = .ok (.iload_n 0, 1) := by decide +kernel
theorem dJ6_bitCount_0f7a4_36 : decode cJ6_bitCount_0f7a4 36 = .ok (.bipush 8, 2) := by decide +kernel
theorem dJ6_bitCount_0f7a4_38 : decode cJ6_bitCount_0f7a4 38 = .ok (.iushr, 1) := by decide +kernel
theorem dJ6_bitCount_0f7a4_39 : decode cJ6_bitCount_0f7a4 39 = .ok (.iadd, 1) := by decide +kernel
theorem dJ6_bitCount_0f7a4_40 : decode cJ6_bitCount_0f7a4 40 = .ok (.istore_n 0, 1) := by decide +kernel
theorem dJ6_bitCount_0f7a4_41 : decode cJ6_bitCount_0f7a4 41 = .ok (.iload_n 0, 1) := by decide +kernel
theorem dJ6_bitCount_0f7a4_42 : decode cJ6_bitCount_0f7a4 42 = .ok (.iload_n 0, 1) := by decide +kernel
theorem dJ6_bitCount_0f7a4_43 : decode cJ6_bitCount_0f7a4 43 = .ok (.bipush 16, 2) := by decide +kernel
theorem dJ6_bitCount_0f7a4_45 : decode cJ6_bitCount_0f7a4 45 = .ok (.iushr, 1) := by decide +kernel
theorem dJ6_bitCount_0f7a4_46 : decode cJ6_bitCount_0f7a4 46 = .ok (.iadd, 1) := by decide +kernel
theorem dJ6_bitCount_0f7a4_47 : decode cJ6_bitCount_0f7a4 47 = .ok (.istore_n 0, 1) := by decide +kernel
theorem dJ6_bitCount_0f7a4_48 : decode cJ6_bitCount_0f7a4 48 = .ok (.iload_n 0, 1) := by decide +kernel
theorem dJ6_bitCount_0f7a4_49 : decode cJ6_bitCount_0f7a4 49 = .ok (.bipush 63, 2) := by decide +kernel
theorem dJ6_bitCount_0f7a4_51 : decode cJ6_bitCount_0f7a4 51 = .ok (.iand, 1) := by decide +kernel
theorem dJ6_bitCount_0f7a4_52 : decode cJ6_bitCount_0f7a4 52 = .ok (.ireturn, 1) := by decide +kernel
theorem dJ9_min_7cf53_0 : decode cJ9_min_7cf53 0 = .ok (.iload_n 0, 1) := by decide +kernel
theorem dJ9_min_7cf53_1 : decode cJ9_min_7cf53 1 = .ok (.iload_n 1, 1) := by decide +kernel
theorem dJ9_min_7cf53_2 : decode cJ9_min_7cf53 2 = .ok (.if_icmp .gt 7, 3) := by decide +kernel
theorem dJ9_min_7cf53_5 : decode cJ9_min_7cf53 5 = .ok (.iload_n 0, 1) := by decide +kernel
theorem dJ9_min_7cf53_6 : decode cJ9_min_7cf53 6 = .ok (.goto 4, 3) := by decide +kernel
theorem dJ9_min_7cf53_9 : decode cJ9_min_7cf53 9 = .ok (.iload_n 1, 1) := by decide +kernel
theorem dJ9_min_7cf53_10 : decode cJ9_min_7cf53 10 = .ok (.ireturn, 1) := by decide +kernel
set_option maxRecDepth 20000 in
theorem ggJ0_length_8abf5_J0_coder_7d493 : GoodIn wsJ0_length_8abf5 wsJ0_coder_7d493 := goodIn_r _ [6, 7, 8] (by decide +kernel) (by decide +kernel)
set_option maxRecDepth 20000 in
theorem gJ0_length_8abf5_J0_coder_7d493 : GoodIn wsJ0_length_8abf5 (wsV RJ0 335 RJ0 yJ0_coder_7d493 wsJ0_coder_7d493) := goodIn_app (goodIn_of _ (by decide +kernel)) ggJ0_length_8abf5_J0_coder_7d493
theorem dJ0_length_8abf5_0 : decode cJ0_length_8abf5 0 = .ok (.aload_n 0, 1) := by decide +kernel
theorem dJ0_length_8abf5_1 : decode cJ0_length_8abf5 1 = .ok (.getfield 9, 3) := by decide +kernel
theorem dJ0_length_8abf5_4 : decode cJ0_length_8abf5 4 = .ok (.arraylength, 1) := by decide +kernel
theorem dJ0_length_8abf5_5 : decode cJ0_length_8abf5 5 = .ok (.aload_n 0, 1) := by decide +kernel
theorem dJ0_length_8abf5_6 : decode cJ0_length_8abf5 6 = .ok (.invokevirtual 335, 3) := by decide +kernel
theorem dJ0_length_8abf5_9 : decode cJ0_length_8abf5 9 = .ok (.ishr, 1) := by decide +kernel
theorem dJ0_length_8abf5_10 : decode cJ0_length_8abf5 10 = .ok (.ireturn, 1) := by decide +kernel
set_option maxRecDepth 20000 in
theorem ggJ0_charAt_5068e_J0_isLatin1_aae02 : GoodIn wsJ0_charAt_5068e wsJ0_isLatin1_aae02 := goodIn_r _ [6, 7, 8] (by decide +kernel) (by decide +kernel)
set_option maxRecDepth 20000 in
theorem gJ0_charAt_5068e_J0_isLatin1_aae02 : GoodIn wsJ0_charAt_5068e (wsV RJ0 492 RJ0 yJ0_isLatin1_aae02 wsJ0_isLatin1_aae02) := goodIn_app (goodIn_of _ (by decide +kernel)) ggJ0_charAt_5068e_J0_isLatin1_aae02
set_option maxRecDepth 20000 in
theorem ggJ0_charAt_5068e_J1_charAt_3b067 : GoodIn wsJ0_charAt_5068e wsJ1_charAt_3b067 := goodIn_r _ [12, 13, 14, 5, 15, 16, 17, 18, 19, 20] (by decide +kernel) (by decide +kernel)
set_option maxRecDepth 20000 in
theorem gJ0_charAt_5068e_J1_charAt_3b067 : GoodIn wsJ0_charAt_5068e (va_wsS RJ0 495 yJ1_charAt_3b067 wsJ1_charAt_3b067) := goodIn_app (goodIn_of _ (by decide +kernel)) ggJ0_charAt_5068e_J1_charAt_3b067
set_option maxRecDepth 20000 in
theorem ggJ0_charAt_5068e_J2_charAt_3b067 : GoodIn wsJ0_charAt_5068e wsJ2_charAt_3b067 := goodIn_r _ [24, 25, 26, 23, 27, 28, 29, 30, 31, 14, 5, 15, 16, 17, 18, 19, 20, 32, 33, 34, 35, 36, 37] (by decide +kernel) (by decide +kernel)
set_option maxRecDepth 20000 in
theorem gJ0_charAt_5068e_J2_charAt_3b067 : GoodIn wsJ0_charAt_5068e (va_wsS RJ0 498 yJ2_charAt_3b067 wsJ2_charAt_3b067) := goodIn_app (goodIn_of _ (by decide +kernel)) ggJ0_charAt_5068e_J2_charAt_3b067
theorem dJ0_charAt_5068e_0 : decode cJ0_charAt_5068e 0 = .ok (.aload_n 0, 1) := by decide +kernel
theorem dJ0_charAt_5068e_1 : decode cJ0_charAt_5068e 1 = .ok (.invokevirtual 492, 3) := by decide +kernel
theorem dJ0_charAt_5068e_4 : decode cJ0_charAt_5068e 4 = .ok (.ifCond .eq 12, 3) := by decide +kernel
theorem dJ0_charAt_5068e_7 : decode cJ0_charAt_5068e 7 = .ok (.aload_n 0, 1) := by decide +kernel
theorem dJ0_charAt_5068e_8 : decode cJ0_charAt_5068e 8 = .ok (.getfield 9, 3) := by decide +kernel
theorem dJ0_charAt_5068e_11 : decode cJ0_charAt_5068e 11 = .ok (.iload_n 1, 1) := by decide +kernel
theorem dJ0_charAt_5068e_12 : decode cJ0_charAt_5068e 12 = .ok (.invokestatic 495, 3) := by decide +kernel
theorem dJ0_charAt_5068e_15 : decode cJ0_charAt_5068e 15 = .ok (.ireturn, 1) := by decide +kernel
theorem dJ0_charAt_5068e_16 : decode cJ0_charAt_5068e 16 = .ok (.aload_n 0, 1) := by decide +kernel
theorem dJ0_charAt_5068e_17 : decode cJ0_charAt_5068e 17 = .ok (.getfield 9, 3) := by decide +kernel
theorem dJ0_charAt_5068e_20 : decode cJ0_charAt_5068e 20 = .ok (.iload_n 1, 1) := by decide +kernel
theorem dJ0_charAt_5068e_21 : decode cJ0_charAt_5068e 21 = .ok (.invokestatic 498, 3) := by decide +kernel
theorem dJ0_charAt_5068e_24 : decode cJ0_charAt_5068e 24 = .ok (.ireturn, 1) := by decide +kernel
theorem dJ0_coder_7d493_0 : decode cJ0_coder_7d493 0 = .ok (.getstatic 38, 3) := by decide +kernel
theorem dJ0_coder_7d493_3 : decode cJ0_coder_7d493 3 = .ok (.ifCond .eq 10, 3) := by decide +kernel
theorem dJ0_coder_7d493_6 : decode cJ0_coder_7d493 6 = .ok (.aload_n 0, 1) := by decide +kernel
theorem dJ0_coder_7d493_7 : decode cJ0_coder_7d493 7 = .ok (.getfield 15, 3) := by decide +kernel
theorem dJ0_coder_7d493_10 : decode cJ0_coder_7d493 10 = .ok (.goto 4, 3) := by decide +kernel
theorem dJ0_coder_7d493_13 : decode cJ0_coder_7d493 13 = .ok (.iconst 1, 1) := by decide +kernel
theorem dJ0_coder_7d493_14 : decode cJ0_coder_7d493 14 = .ok (.ireturn, 1) := by decide +kernel
theorem dJ0_isLatin1_aae02_0 : decode cJ0_isLatin1_aae02 0 = .ok (.getstatic 38, 3) := by decide +kernel
theorem dJ0_isLatin1_aae02_3 : decode cJ0_isLatin1_aae02 3 = .ok (.ifCond .eq 14, 3) := by decide +kernel
theorem dJ0_isLatin1_aae02_6 : decode cJ0_isLatin1_aae02 6 = .ok (.aload_n 0, 1) := by decide +kernel
theorem dJ0_isLatin1_aae02_7 : decode cJ0_isLatin1_aae02 7 = .ok (.getfield 15, 3) := by decide +kernel
theorem dJ0_isLatin1_aae02_10 : decode cJ0_isLatin1_aae02 10 = .ok (.ifCond .ne 7, 3) := by decide +kernel
theorem dJ0_isLatin1_aae02_13 : decode cJ0_isLatin1_aae02 13 = .ok (.iconst 1, 1) := by decide +kernel
theorem dJ0_isLatin1_aae02_14 : decode cJ0_isLatin1_aae02 14 = .ok (.goto 4, 3) := by decide +kernel
theorem dJ0_isLatin1_aae02_17 : decode cJ0_isLatin1_aae02 17 = .ok (.iconst 0, 1) := by decide +kernel
theorem dJ0_isLatin1_aae02_18 : decode cJ0_isLatin1_aae02 18 = .ok (.ireturn, 1) := by decide +kernel
set_option maxRecDepth 20000 in
theorem ggJ0_checkIndex_df160_J3_checkIndex_8e157 : GoodIn wsJ0_checkIndex_df160 wsJ3_checkIndex_8e157 := goodIn_r _ [5] (by decide +kernel) (by decide +kernel)
set_option maxRecDepth 20000 in
theorem gJ0_checkIndex_df160_J3_checkIndex_8e157 : GoodIn wsJ0_checkIndex_df160 (va_wsS RJ0 1059 yJ3_checkIndex_8e157 wsJ3_checkIndex_8e157) := goodIn_app (goodIn_of _ (by decide +kernel)) ggJ0_checkIndex_df160_J3_checkIndex_8e157
theorem dJ0_checkIndex_df160_0 : decode cJ0_checkIndex_df160 0 = .ok (.iload_n 0, 1) := by decide +kernel
theorem dJ0_checkIndex_df160_1 : decode cJ0_checkIndex_df160 1 = .ok (.iload_n 1, 1) := by decide +kernel
theorem dJ0_checkIndex_df160_2 : decode cJ0_checkIndex_df160 2 = .ok (.getstatic 1053, 3) := by decide +kernel
theorem dJ0_checkIndex_df160_5 : decode cJ0_checkIndex_df160 5 = .ok (.invokestatic 1059, 3) := by decide +kernel
theorem dJ0_checkIndex_df160_8 : decode cJ0_checkIndex_df160 8 = .ok (.pop, 1) := by decide +kernel
theorem dJ0_checkIndex_df160_9 : decode cJ0_checkIndex_df160 9 = .ok (.return_, 1) := by decide +kernel
set_option maxRecDepth 20000 in
theorem ggJ1_charAt_3b067_J0_checkIndex_df160 : GoodIn wsJ1_charAt_3b067 wsJ0_checkIndex_df160 := goodIn_r _ [4, 5, 6, 7, 8, 9] (by decide +kernel) (by decide +kernel)
set_option maxRecDepth 20000 in
theorem gJ1_charAt_3b067_J0_checkIndex_df160 : GoodIn wsJ1_charAt_3b067 (va_wsS RJ1 9 yJ0_checkIndex_df160 wsJ0_checkIndex_df160) := goodIn_app (goodIn_of _ (by decide +kernel)) ggJ1_charAt_3b067_J0_checkIndex_df160
theorem dJ1_charAt_3b067_0 : decode cJ1_charAt_3b067 0 = .ok (.iload_n 1, 1) := by decide +kernel
theorem dJ1_charAt_3b067_1 : decode cJ1_charAt_3b067 1 = .ok (.aload_n 0, 1) := by decide +kernel
theorem dJ1_charAt_3b067_2 : decode cJ1_charAt_3b067 2 = .ok (.arraylength, 1) := by decide +kernel
theorem dJ1_charAt_3b067_3 : decode cJ1_charAt_3b067 3 = .ok (.invokestatic 9, 3) := by decide +kernel
theorem dJ1_charAt_3b067_6 : decode cJ1_charAt_3b067 6 = .ok (.aload_n 0, 1) := by decide +kernel
theorem dJ1_charAt_3b067_7 : decode cJ1_charAt_3b067 7 = .ok (.iload_n 1, 1) := by decide +kernel
theorem dJ1_charAt_3b067_8 : decode cJ1_charAt_3b067 8 = .ok (.baload, 1) := by decide +kernel
theorem dJ1_charAt_3b067_9 : decode cJ1_charAt_3b067 9 = .ok (.sipush 255, 3) := by decide +kernel
theorem dJ1_charAt_3b067_12 : decode cJ1_charAt_3b067 12 = .ok (.iand, 1) := by decide +kernel
theorem dJ1_charAt_3b067_13 : decode cJ1_charAt_3b067 13 = .ok (.i2c, 1) := by decide +kernel
theorem dJ1_charAt_3b067_14 : decode cJ1_charAt_3b067 14 = .ok (.ireturn, 1) := by decide +kernel
set_option maxRecDepth 20000 in
theorem ggJ2_getChar_3b067_J2_length_9d52b : GoodIn wsJ2_getChar_3b067 wsJ2_length_9d52b := goodIn_r _ [7] (by decide +kernel) (by decide +kernel)
set_option maxRecDepth 20000 in
theorem gJ2_getChar_3b067_J2_length_9d52b : GoodIn wsJ2_getChar_3b067 (va_wsS RJ2 48 yJ2_length_9d52b wsJ2_length_9d52b) := goodIn_app (goodIn_of _ (by decide +kernel)) ggJ2_getChar_3b067_J2_length_9d52b
theorem dJ2_getChar_3b067_0 : decode cJ2_getChar_3b067 0 = .ok (.getstatic 44, 3) := by decide +kernel
theorem dJ2_getChar_3b067_3 : decode cJ2_getChar_3b067 3 = .ok (.ifCond .ne 25, 3) := by decide +kernel
theorem dJ2_getChar_3b067_6 : decode cJ2_getChar_3b067 6 = .ok (.iload_n 1, 1) := by decide +kernel
theorem dJ2_getChar_3b067_7 : decode cJ2_getChar_3b067 7 = .ok (.ifCond .lt 11, 3) := by decide +kernel
theorem dJ2_getChar_3b067_10 : decode cJ2_getChar_3b067 10 = .ok (.iload_n 1, 1) := by decide +kernel
theorem dJ2_getChar_3b067_11 : decode cJ2_getChar_3b067 11 = .ok (.aload_n 0, 1) := by decide +kernel
theorem dJ2_getChar_3b067_12 : decode cJ2_getChar_3b067 12 = .ok (.invokestatic 48, 3) := by decide +kernel
theorem dJ2_getChar_3b067_15 : decode cJ2_getChar_3b067 15 = .ok (.if_icmp .lt 13, 3) := by decide +kernel
theorem dJ2_getChar_3b067_18 : decode cJ2_getChar_3b067 18 = .ok (.new 52, 3) := by decide +kernel
theorem dJ2_getChar_3b067_21 : decode cJ2_getChar_3b067 21 = .ok (.dup, 1) := by decide +kernel
theorem dJ2_getChar_3b067_22 : decode cJ2_getChar_3b067 22 = .ok (.ldc 54, 2) := by decide +kernel
theorem dJ2_getChar_3b067_24 : decode cJ2_getChar_3b067 24 = .ok (.invokespecial 56, 3) := by decide +kernel
theorem dJ2_getChar_3b067_27 : decode cJ2_getChar_3b067 27 = .ok (.athrow, 1) := by decide +kernel
theorem dJ2_getChar_3b067_28 : decode cJ2_getChar_3b067 28 = .ok (.iload_n 1, 1) := by decide +kernel
theorem dJ2_getChar_3b067_29 : decode cJ2_getChar_3b067 29 = .ok (.iconst 1, 1) := by decide +kernel
theorem dJ2_getChar_3b067_30 : decode cJ2_getChar_3b067 30 = .ok (.ishl, 1) := by decide +kernel
theorem dJ2_getChar_3b067_31 : decode cJ2_getChar_3b067 31 = .ok (.istore_n 1, 1) := by decide +kernel
theorem dJ2_getChar_3b067_32 : decode cJ2_getChar_3b067 32 = .ok (.aload_n 0, 1) := by decide +kernel
theorem dJ2_getChar_3b067_33 : decode cJ2_getChar_3b067 33 = .ok (.iload_n 1, 1) := by decide +kernel
theorem dJ2_getChar_3b067_34 : decode cJ2_getChar_3b067 34 = .ok (.iinc 1 1, 3) := by decide +kernel
theorem dJ2_getChar_3b067_37 : decode cJ2_getChar_3b067 37 = .ok (.baload, 1) := by decide +kernel
theorem dJ2_getChar_3b067_38 : decode cJ2_getChar_3b067 38 = .ok (.sipush 255, 3) := by decide +kernel
theorem dJ2_getChar_3b067_41 : decode cJ2_getChar_3b067 41 = .ok (.iand, 1) := by decide +kernel
theorem dJ2_getChar_3b067_42 : decode cJ2_getChar_3b067 42 = .ok (.getstatic 59, 3) := by decide +kernel
theorem dJ2_getChar_3b067_45 : decode cJ2_getChar_3b067 45 = .ok (.ishl, 1) := by decide +kernel
theorem dJ2_getChar_3b067_46 : decode cJ2_getChar_3b067 46 = .ok (.aload_n 0, 1) := by decide +kernel
theorem dJ2_getChar_3b067_47 : decode cJ2_getChar_3b067 47 = .ok (.iload_n 1, 1) := by decide +kernel
theorem dJ2_getChar_3b067_48 : decode cJ2_getChar_3b067 48 = .ok (.baload, 1) := by decide +kernel
theorem dJ2_getChar_3b067_49 : decode cJ2_getChar_3b067 49 = .ok (.sipush 255, 3) := by decide +kernel
theorem dJ2_getChar_3b067_52 : decode cJ2_getChar_3b067 52 = .ok (.iand, 1) := by decide +kernel
theorem dJ2_getChar_3b067_53 : decode cJ2_getChar_3b067 53 = .ok (.getstatic 63, 3) := by decide +kernel
theorem dJ2_getChar_3b067_56 : decode cJ2_getChar_3b067 56 = .ok (.ishl, 1) := by decide +kernel
theorem dJ2_getChar_3b067_57 : decode cJ2_getChar_3b067 57 = .ok (.ior, 1) := by decide +kernel
theorem dJ2_getChar_3b067_58 : decode cJ2_getChar_3b067 58 = .ok (.i2c, 1) := by decide +kernel
theorem dJ2_getChar_3b067_59 : decode cJ2_getChar_3b067 59 = .ok (.ireturn, 1) := by decide +kernel
theorem dJ2_length_9d52b_0 : decode cJ2_length_9d52b 0 = .ok (.aload_n 0, 1) := by decide +kernel
theorem dJ2_length_9d52b_1 : decode cJ2_length_9d52b 1 = .ok (.arraylength, 1) := by decide +kernel
theorem dJ2_length_9d52b_2 : decode cJ2_length_9d52b 2 = .ok (.iconst 1, 1) := by decide +kernel
theorem dJ2_length_9d52b_3 : decode cJ2_length_9d52b 3 = .ok (.ishr, 1) := by decide +kernel
theorem dJ2_length_9d52b_4 : decode cJ2_length_9d52b 4 = .ok (.ireturn, 1) := by decide +kernel
set_option maxRecDepth 20000 in
theorem ggJ2_charAt_3b067_J2_checkIndex_2214a : GoodIn wsJ2_charAt_3b067 wsJ2_checkIndex_2214a := goodIn_r _ [4, 5, 6, 3, 7, 8, 9, 10, 11, 12, 13, 14, 15, 16] (by decide +kernel) (by decide +kernel)
set_option maxRecDepth 20000 in
theorem gJ2_charAt_3b067_J2_checkIndex_2214a : GoodIn wsJ2_charAt_3b067 (va_wsS RJ2 67 yJ2_checkIndex_2214a wsJ2_checkIndex_2214a) := goodIn_app (goodIn_of _ (by decide +kernel)) ggJ2_charAt_3b067_J2_checkIndex_2214a
set_option maxRecDepth 20000 in
theorem ggJ2_charAt_3b067_J2_getChar_3b067 : GoodIn wsJ2_charAt_3b067 wsJ2_getChar_3b067 := goodIn_r _ [19, 20, 21, 22, 5, 6, 3, 7] (by decide +kernel) (by decide +kernel)
set_option maxRecDepth 20000 in
theorem gJ2_charAt_3b067_J2_getChar_3b067 : GoodIn wsJ2_charAt_3b067 (va_wsS RJ2 71 yJ2_getChar_3b067 wsJ2_getChar_3b067) := goodIn_app (goodIn_of _ (by decide +kernel)) ggJ2_charAt_3b067_J2_getChar_3b067
theorem dJ2_charAt_3b067_0 : decode cJ2_charAt_3b067 0 = .ok (.iload_n 1, 1) := by decide +kernel
theorem dJ2_charAt_3b067_1 : decode cJ2_charAt_3b067 1 = .ok (.aload_n 0, 1) := by decide +kernel
theorem dJ2_charAt_3b067_2 : decode cJ2_charAt_3b067 2 = .ok (.invokestatic 67, 3) := by decide +kernel
theorem dJ2_charAt_3b067_5 : decode cJ2_charAt_3b067 5 = .ok (.aload_n 0, 1) := by decide +kernel
theorem dJ2_charAt_3b067_6 : decode cJ2_charAt_3b067 6 = .ok (.iload_n 1, 1) := by decide +kernel
theorem dJ2_charAt_3b067_7 : decode cJ2_charAt_3b067 7 = .ok (.invokestatic 71, 3) := by decide +kernel
theorem dJ2_charAt_3b067_10 : decode cJ2_charAt_3b067 10 = .ok (.ireturn, 1) := by decide +kernel
set_option maxRecDepth 20000 in
theorem ggJ2_checkIndex_2214a_J2_length_9d52b : GoodIn wsJ2_checkIndex_2214a wsJ2_length_9d52b := goodIn_r _ [4] (by decide +kernel) (by decide +kernel)
set_option maxRecDepth 20000 in
theorem gJ2_checkIndex_2214a_J2_length_9d52b : GoodIn wsJ2_checkIndex_2214a (va_wsS RJ2 48 yJ2_length_9d52b wsJ2_length_9d52b) := goodIn_app (goodIn_of _ (by decide +kernel)) ggJ2_checkIndex_2214a_J2_length_9d52b
set_option maxRecDepth 20000 in
theorem ggJ2_checkIndex_2214a_J0_checkIndex_df160 : GoodIn wsJ2_checkIndex_2214a wsJ0_checkIndex_df160 := goodIn_r _ [8, 9, 10, 11, 12, 13] (by decide +kernel) (by decide +kernel)
set_option maxRecDepth 20000 in
theorem gJ2_checkIndex_2214a_J0_checkIndex_df160 : GoodIn wsJ2_checkIndex_2214a (va_wsS RJ2 414 yJ0_checkIndex_df160 wsJ0_checkIndex_df160) := goodIn_app (goodIn_of _ (by decide +kernel)) ggJ2_checkIndex_2214a_J0_checkIndex_df160
theorem dJ2_checkIndex_2214a_0 : decode cJ2_checkIndex_2214a 0 = .ok (.iload_n 0, 1) := by decide +kernel
theorem dJ2_checkIndex_2214a_1 : decode cJ2_checkIndex_2214a 1 = .ok (.aload_n 1, 1) := by decide +kernel
theorem dJ2_checkIndex_2214a_2 : decode cJ2_checkIndex_2214a 2 = .ok (.invokestatic 48, 3) := by decide +kernel
theorem dJ2_checkIndex_2214a_5 : decode cJ2_checkIndex_2214a 5 = .ok (.invokestatic 414, 3) := by decide +kernel
theorem dJ2_checkIndex_2214a_8 : decode cJ2_checkIndex_2214a 8 = .ok (.return_, 1) := by decide +kernel
theorem dJ3_checkIndex_8e157_0 : decode cJ3_checkIndex_8e157 0 = .ok (.iload_n 0, 1) := by decide +kernel
theorem dJ3_checkIndex_8e157_1 : decode cJ3_checkIndex_8e157 1 = .ok (.ifCond .lt 8, 3) := by decide +kernel
theorem dJ3_checkIndex_8e157_4 : decode cJ3_checkIndex_8e157 4 = .ok (.iload_n 0, 1) := by decide +kernel
theorem dJ3_checkIndex_8e157_5 : decode cJ3_checkIndex_8e157 5 = .ok (.iload_n 1, 1) := by decide +kernel
theorem dJ3_checkIndex_8e157_6 : decode cJ3_checkIndex_8e157 6 = .ok (.if_icmp .lt 10, 3) := by decide +kernel
theorem dJ3_checkIndex_8e157_9 : decode cJ3_checkIndex_8e157 9 = .ok (.aload_n 2, 1) := by decide +kernel
theorem dJ3_checkIndex_8e157_10 : decode cJ3_checkIndex_8e157 10 = .ok (.iload_n 0, 1) := by decide +kernel
theorem dJ3_checkIndex_8e157_11 : decode cJ3_checkIndex_8e157 11 = .ok (.iload_n 1, 1) := by decide +kernel
theorem dJ3_checkIndex_8e157_12 : decode cJ3_checkIndex_8e157 12 = .ok (.invokestatic 95, 3) := by decide +kernel
theorem dJ3_checkIndex_8e157_15 : decode cJ3_checkIndex_8e157 15 = .ok (.athrow, 1) := by decide +kernel
theorem dJ3_checkIndex_8e157_16 : decode cJ3_checkIndex_8e157 16 = .ok (.iload_n 0, 1) := by decide +kernel
theorem dJ3_checkIndex_8e157_17 : decode cJ3_checkIndex_8e157 17 = .ok (.ireturn, 1) := by decide +kernel
end
section
/-! ===== base: ints as Int32.ofInt of an Int; bounds by omega ===== -/
def zI (z : Int) : Int32 := Int32.ofInt z
theorem zI_add (a b : Int) : zI a + zI b = zI (a + b) := (Int32.ofInt_add a b).symm
theorem zI_sub (a b : Int) : zI a - zI b = zI (a - b) := (Int32.ofInt_sub a b).symm
theorem zI_mul (a b : Int) : zI a * zI b = zI (a * b) := (Int32.ofInt_mul a b).symm
theorem zI_neg (a : Int) : - zI a = zI (-a) := (Int32.ofInt_neg a).symm
theorem zI_toInt {a : Int} (h : -2147483648 ≤ a ∧ a < 2147483648) : (zI a).toInt = a := Int32.toInt_ofInt_of_le (by omega) (by omega)
theorem zI_of (x : Int32) : zI x.toInt = x := Int32.ofInt_toInt x
theorem zI_rng (x : Int32) : -2147483648 ≤ x.toInt ∧ x.toInt < 2147483648 := by
  have h1 := Int32.le_toInt x
  have h2 := Int32.toInt_lt x
  omega
theorem zI_lt {a b : Int} (ha : -2147483648 ≤ a ∧ a < 2147483648) (hb : -2147483648 ≤ b ∧ b < 2147483648) : zI a < zI b ↔ a < b := by rw [Int32.lt_iff_toInt_lt, zI_toInt ha, zI_toInt hb]
theorem zI_le {a b : Int} (ha : -2147483648 ≤ a ∧ a < 2147483648) (hb : -2147483648 ≤ b ∧ b < 2147483648) : zI a ≤ zI b ↔ a ≤ b := by rw [Int32.le_iff_toInt_le, zI_toInt ha, zI_toInt hb]
theorem zI_eq {a b : Int} (ha : -2147483648 ≤ a ∧ a < 2147483648) (hb : -2147483648 ≤ b ∧ b < 2147483648) : zI a = zI b ↔ a = b := by rw [← Int32.toInt_inj, zI_toInt ha, zI_toInt hb]
theorem zI_nat (n : Nat) : nI n = zI n := Int32.ofInt_eq_ofNat.symm
theorem zI_nn {a : Int} (h : 0 ≤ a) : zI a = nI a.toNat := by rw [zI_nat, Int.toNat_of_nonneg h]
theorem zI_cl {a : Int} (h : 0 ≤ a ∧ a < 2147483648) : (zI a).toNatClampNeg = a.toNat := Int32.toNatClampNeg_ofInt_of_le (by omega) (by omega)
theorem zI_in {a : Int} {n : Nat} (h : 0 ≤ a ∧ a < n) (hn : n < 2147483648) : vp_in (zI a) n := by
  rw [vp_in_iff, zI_toInt (by omega)]
  exact h
theorem zI_div {a b : Int} (ha : 0 ≤ a ∧ a < 2147483648) (hb : 0 < b ∧ b < 2147483648) : zI a / zI b = zI (a / b) := by
  rw [zI_nn ha.1, zI_nn (Int.le_of_lt hb.1), pk_div (by omega) (by omega) (by omega), zI_nat, Int.natCast_ediv, Int.toNat_of_nonneg ha.1, Int.toNat_of_nonneg (Int.le_of_lt hb.1)]
theorem zI_rem {a b : Int} (ha : 0 ≤ a ∧ a < 2147483648) (hb : 0 < b ∧ b < 2147483648) : zI a - zI a / zI b * zI b = zI (a % b) := by
  rw [zI_nn ha.1, zI_nn (Int.le_of_lt hb.1), pk_rem (by omega) (by omega) (by omega), zI_nat, Int.natCast_emod, Int.toNat_of_nonneg ha.1, Int.toNat_of_nonneg (Int.le_of_lt hb.1)]
/-! bits of an int that is not below 0 -/
def zbor (a b : Int) : Int := ((a.toNat ||| b.toNat : Nat) : Int)
def zband (a b : Int) : Int := ((a.toNat &&& b.toNat : Nat) : Int)
def zbandn (a b : Int) : Int := ((a.toNat ^^^ (a.toNat &&& b.toNat) : Nat) : Int)
def zshr (a k : Int) : Int := ((a.toNat >>> k.toNat : Nat) : Int)
def zpw (k : Int) : Int := ((2 ^ k.toNat : Nat) : Int)
def ztb (a k : Int) : Bool := a.toNat.testBit k.toNat
def zbit (a k : Int) : Int := if ztb a k then 1 else 0
theorem pz_and (a b : Nat) : nI a &&& nI b = nI (a &&& b) := by
  apply Int32.toBitVec_inj.1
  show BitVec.ofNat 32 a &&& BitVec.ofNat 32 b = BitVec.ofNat 32 (a &&& b)
  apply BitVec.eq_of_getLsbD_eq
  intro i hi
  simp [hi]
theorem pz_or (a b : Nat) : nI a ||| nI b = nI (a ||| b) := by
  apply Int32.toBitVec_inj.1
  show BitVec.ofNat 32 a ||| BitVec.ofNat 32 b = BitVec.ofNat 32 (a ||| b)
  apply BitVec.eq_of_getLsbD_eq
  intro i hi
  simp [hi]
theorem pz_xor (a b : Nat) : nI a ^^^ nI b = nI (a ^^^ b) := by
  apply Int32.toBitVec_inj.1
  show BitVec.ofNat 32 a ^^^ BitVec.ofNat 32 b = BitVec.ofNat 32 (a ^^^ b)
  apply BitVec.eq_of_getLsbD_eq
  intro i hi
  simp [hi]
theorem zI_and {a b : Int} (ha : 0 ≤ a) (hb : 0 ≤ b) : zI a &&& zI b = zI (zband a b) := by
  rw [zI_nn ha, zI_nn hb, pz_and, zI_nat]; rfl
theorem zI_or {a b : Int} (ha : 0 ≤ a) (hb : 0 ≤ b) : zI a ||| zI b = zI (zbor a b) := by
  rw [zI_nn ha, zI_nn hb, pz_or, zI_nat]; rfl
theorem zI_andn {a b : Int} (ha : 0 ≤ a) (hb : 0 ≤ b) : zI a &&& (zI b ^^^ zI (-1)) = zI (zbandn a b) := by
  rw [zI_nn ha, zI_nn hb]
  unfold zbandn
  rw [← zI_nat]
  generalize a.toNat = x
  generalize b.toNat = y
  apply Int32.toBitVec_inj.1
  show BitVec.ofNat 32 x &&& (BitVec.ofNat 32 y ^^^ BitVec.allOnes 32) = BitVec.ofNat 32 (x ^^^ (x &&& y))
  apply BitVec.eq_of_getLsbD_eq
  intro i hi
  simp only [BitVec.getLsbD_and, BitVec.getLsbD_xor, BitVec.getLsbD_allOnes, BitVec.getLsbD_ofNat, Nat.testBit_xor, Nat.testBit_and, hi, decide_true, Bool.true_and]
  cases x.testBit i <;> cases y.testBit i <;> rfl
theorem zs_l : ∀ n, n < 31 → ((nI n &&& 31).toBitVec.smod 32).toNat = n := by decide +kernel
theorem zI_shr {a k : Int} (ha : 0 ≤ a ∧ a < 2147483648) (hk : 0 ≤ k ∧ k < 31) : zI a >>> (zI k &&& 31) = zI (zshr a k) := by
  rw [zI_nn ha.1, zI_nn hk.1, pk_shrN (by omega) _ k.toNat (zs_l _ (by omega)), zI_nat]
  unfold zshr
  rw [Nat.shiftRight_eq_div_pow]
theorem zI_shl1 {k : Int} (hk : 0 ≤ k ∧ k < 31) : zI 1 <<< (zI k &&& 31) = zI (zpw k) := by
  have h2 : (2 : Nat) ^ k.toNat < 2 ^ 32 := Nat.pow_lt_pow_right (by decide) (by omega)
  rw [zI_nn (by omega : (0 : Int) ≤ 1), zI_nn hk.1, pk_shlN _ k.toNat (zs_l _ (by omega)) (by simpa using h2), zI_nat]
  unfold zpw
  simp
theorem zbit_shr {a k : Int} : zband (zshr a k) 1 = zbit a k := by
  unfold zband zshr zbit ztb
  rw [Int.toNat_natCast]
  show ((a.toNat >>> k.toNat &&& 1 : Nat) : Int) = _
  rw [Nat.testBit, Nat.and_comm]
  rcases Nat.mod_two_eq_zero_or_one (a.toNat >>> k.toNat) with h | h <;> simp [Nat.one_and_eq_mod_two, h]
theorem zbit_rng (a k : Int) : 0 ≤ zbit a k ∧ zbit a k ≤ 1 := by unfold zbit; split <;> omega
theorem zbit_1 (a k : Int) : zbit a k = 1 ↔ ztb a k = true := by unfold zbit; split <;> simp_all
theorem zbit_0 (a k : Int) : zbit a k = 0 ↔ ztb a k = false := by unfold zbit; split <;> simp_all
theorem zbor_nn (a b : Int) : 0 ≤ zbor a b := Int.natCast_nonneg _
theorem zband_nn (a b : Int) : 0 ≤ zband a b := Int.natCast_nonneg _
theorem zbandn_nn (a b : Int) : 0 ≤ zbandn a b := Int.natCast_nonneg _
theorem zshr_nn (a b : Int) : 0 ≤ zshr a b := Int.natCast_nonneg _
theorem zpw_nn (a : Int) : 0 ≤ zpw a := Int.natCast_nonneg _
theorem ztb_bor (a b k : Int) : ztb (zbor a b) k = (ztb a k || ztb b k) := by unfold ztb zbor; rw [Int.toNat_natCast, Nat.testBit_or]
theorem ztb_band (a b k : Int) : ztb (zband a b) k = (ztb a k && ztb b k) := by unfold ztb zband; rw [Int.toNat_natCast, Nat.testBit_and]
theorem ztb_bandn (a b k : Int) : ztb (zbandn a b) k = (ztb a k && !ztb b k) := by
  unfold ztb zbandn; rw [Int.toNat_natCast, Nat.testBit_xor, Nat.testBit_and]
  cases a.toNat.testBit k.toNat <;> cases b.toNat.testBit k.toNat <;> rfl
theorem ztb_pw {j k : Int} (hj : 0 ≤ j) (hk : 0 ≤ k) : ztb (zpw j) k = decide (j = k) := by
  unfold ztb zpw; rw [Int.toNat_natCast, Nat.testBit_two_pow]
  have : (j.toNat = k.toNat) ↔ j = k := by omega
  simp [this]
theorem ztb_0 (k : Int) : ztb 0 k = false := by unfold ztb; simp
theorem zbor_lt {a b : Int} (n : Nat) (ha : a < ((2 ^ n : Nat) : Int)) (hb : b < ((2 ^ n : Nat) : Int)) : zbor a b < ((2 ^ n : Nat) : Int) := by
  unfold zbor
  have hp : 0 < 2 ^ n := Nat.two_pow_pos n
  exact Int.ofNat_lt.mpr (Nat.or_lt_two_pow (by omega) (by omega))
theorem zband_le (a b : Int) (ha : 0 ≤ a) : zband a b ≤ a := by
  unfold zband
  have := @Nat.and_le_left a.toNat b.toNat
  omega
theorem zbandn_le (a b : Int) (ha : 0 ≤ a) : zbandn a b ≤ a := by
  unfold zbandn
  have h : a.toNat ^^^ (a.toNat &&& b.toNat) ≤ a.toNat := by
    have e : a.toNat ^^^ (a.toNat &&& b.toNat) = a.toNat &&& (a.toNat ^^^ (a.toNat &&& b.toNat)) := by
      apply Nat.eq_of_testBit_eq
      intro i
      simp only [Nat.testBit_xor, Nat.testBit_and]
      cases a.toNat.testBit i <;> cases b.toNat.testBit i <;> rfl
    rw [e]
    exact Nat.and_le_left
  omega
theorem zpw_lt {k : Int} {n : Nat} (h : k < n) (h0 : 0 < n) : zpw k < ((2 ^ n : Nat) : Int) := by
  unfold zpw
  exact Int.ofNat_lt.mpr (Nat.pow_lt_pow_right (by decide) (by omega))
/-! arrays of ints: cells that hold zI of F at each place -/
def zia (F : Int → Int) : Nat → Int32 := fun j => zI (F j)
def zup (F : Int → Int) (e x : Int) : Int → Int := fun j => if j = e then x else F j
theorem zia_at (F : Int → Int) {a : Int} (h : 0 ≤ a ∧ a < 2147483648) : zia F (zI a).toNatClampNeg = zI (F a) := by
  rw [zI_cl h]
  unfold zia
  rw [Int.toNat_of_nonneg h.1]
theorem zia_up (F : Int → Int) {a : Int} (x : Int) (h : 0 ≤ a ∧ a < 2147483648) : upd (zia F) (zI a).toNatClampNeg (zI x) = zia (zup F a x) := by
  rw [zI_cl h]
  funext j
  unfold upd zia zup
  by_cases hj : j = a.toNat
  · rw [if_pos hj, if_pos (by omega)]
  · rw [if_neg hj, if_neg (by omega)]
theorem zup_s (F : Int → Int) (e x : Int) : zup F e x e = x := if_pos rfl
theorem zup_n (F : Int → Int) {e x j : Int} (h : j ≠ e) : zup F e x j = F j := if_neg h
/-! ===== rows over zI ===== -/
section ZROWS
variable {p : Program} {l : Launch} {e : Env} {R : Room} {s : State} {m : MethodId} {args : Array Value} {below : List Frame} {meth : Method} {c : Code} {H : Heap} {locs : List Loc} {cells slots : Nat} {Q : State → Prop}
variable {cc : ByteArray} {pc : Nat} {ls : Array Slot} {rest : List Value} {a b : Int}
theorem z_top {x y : Int32} (h : x = y) (k : W p l e R s m args below meth c H locs cells slots Q (F0 m pc ls (.int y :: rest))) : W p l e R s m args below meth c H locs cells slots Q (F0 m pc ls (.int x :: rest)) := by
  rw [h]; exact k
theorem z_topz (h : a = b) (k : W p l e R s m args below meth c H locs cells slots Q (F0 m pc ls (.int (zI b) :: rest))) : W p l e R s m args below meth c H locs cells slots Q (F0 m pc ls (.int (zI a) :: rest)) := by
  rw [h]; exact k
theorem z_iadd (hx : p.tables.exec = Jvm.exec) (hb : c.code = cc) (hd : decode cc pc = .ok (.iadd, 1)) (k : W p l e R s m args below meth c H locs cells slots Q (F0 m (pc + 1) ls (.int (zI (a + b)) :: rest))) : W p l e R s m args below meth c H locs cells slots Q (F0 m pc ls (.int (zI b) :: .int (zI a) :: rest)) := lv_iadd hx hb hd (by rw [zI_add]; exact k)
theorem z_isub (hx : p.tables.exec = Jvm.exec) (hb : c.code = cc) (hd : decode cc pc = .ok (.isub, 1)) (k : W p l e R s m args below meth c H locs cells slots Q (F0 m (pc + 1) ls (.int (zI (a - b)) :: rest))) : W p l e R s m args below meth c H locs cells slots Q (F0 m pc ls (.int (zI b) :: .int (zI a) :: rest)) := lv_isub hx hb hd (by rw [zI_sub]; exact k)
theorem z_imul (hx : p.tables.exec = Jvm.exec) (hb : c.code = cc) (hd : decode cc pc = .ok (.imul, 1)) (k : W p l e R s m args below meth c H locs cells slots Q (F0 m (pc + 1) ls (.int (zI (a * b)) :: rest))) : W p l e R s m args below meth c H locs cells slots Q (F0 m pc ls (.int (zI b) :: .int (zI a) :: rest)) := lv_imul hx hb hd (by rw [zI_mul]; exact k)
theorem z_ineg (hx : p.tables.exec = Jvm.exec) (hb : c.code = cc) (hd : decode cc pc = .ok (.ineg, 1)) (k : W p l e R s m args below meth c H locs cells slots Q (F0 m (pc + 1) ls (.int (zI (-a)) :: rest))) : W p l e R s m args below meth c H locs cells slots Q (F0 m pc ls (.int (zI a) :: rest)) := lv_ineg hx hb hd (by rw [zI_neg]; exact k)
theorem z_idiv (hx : p.tables.exec = Jvm.exec) (hb : c.code = cc) (hd : decode cc pc = .ok (.idiv, 1)) (h : (0 ≤ a ∧ a < 2147483648) ∧ 0 < b ∧ b < 2147483648) (k : W p l e R s m args below meth c H locs cells slots Q (F0 m (pc + 1) ls (.int (zI (a / b)) :: rest))) : W p l e R s m args below meth c H locs cells slots Q (F0 m pc ls (.int (zI b) :: .int (zI a) :: rest)) :=
  lv_idiv hx hb hd (fun q => by have := (zI_eq (a := b) (b := 0) (by omega) (by omega)).mp q; omega) (by rw [zI_div h.1 h.2]; exact k)
theorem z_irem (hx : p.tables.exec = Jvm.exec) (hb : c.code = cc) (hd : decode cc pc = .ok (.irem, 1)) (h : (0 ≤ a ∧ a < 2147483648) ∧ 0 < b ∧ b < 2147483648) (k : W p l e R s m args below meth c H locs cells slots Q (F0 m (pc + 1) ls (.int (zI (a % b)) :: rest))) : W p l e R s m args below meth c H locs cells slots Q (F0 m pc ls (.int (zI b) :: .int (zI a) :: rest)) :=
  lv_irem hx hb hd (fun q => by have := (zI_eq (a := b) (b := 0) (by omega) (by omega)).mp q; omega) (by rw [zI_rem h.1 h.2]; exact k)
theorem z_ior (hx : p.tables.exec = Jvm.exec) (hb : c.code = cc) (hd : decode cc pc = .ok (.ior, 1)) (h : 0 ≤ a ∧ 0 ≤ b) (k : W p l e R s m args below meth c H locs cells slots Q (F0 m (pc + 1) ls (.int (zI (zbor a b)) :: rest))) : W p l e R s m args below meth c H locs cells slots Q (F0 m pc ls (.int (zI b) :: .int (zI a) :: rest)) := lv_ior hx hb hd (by rw [zI_or h.1 h.2]; exact k)
theorem z_iand (hx : p.tables.exec = Jvm.exec) (hb : c.code = cc) (hd : decode cc pc = .ok (.iand, 1)) (h : 0 ≤ a ∧ 0 ≤ b) (k : W p l e R s m args below meth c H locs cells slots Q (F0 m (pc + 1) ls (.int (zI (zband a b)) :: rest))) : W p l e R s m args below meth c H locs cells slots Q (F0 m pc ls (.int (zI b) :: .int (zI a) :: rest)) := lv_iand hx hb hd (by rw [zI_and h.1 h.2]; exact k)
theorem z_iandn (hx : p.tables.exec = Jvm.exec) (hb : c.code = cc) (hd : decode cc pc = .ok (.iand, 1)) (h : 0 ≤ a ∧ 0 ≤ b) (k : W p l e R s m args below meth c H locs cells slots Q (F0 m (pc + 1) ls (.int (zI (zbandn a b)) :: rest))) : W p l e R s m args below meth c H locs cells slots Q (F0 m pc ls (.int (zI b ^^^ zI (-1)) :: .int (zI a) :: rest)) := lv_iand hx hb hd (by rw [zI_andn h.1 h.2]; exact k)
theorem z_ibit (hx : p.tables.exec = Jvm.exec) (hb : c.code = cc) (hd : decode cc pc = .ok (.iand, 1)) (k : W p l e R s m args below meth c H locs cells slots Q (F0 m (pc + 1) ls (.int (zI (zbit a b)) :: rest))) : W p l e R s m args below meth c H locs cells slots Q (F0 m pc ls (.int (zI 1) :: .int (zI (zshr a b)) :: rest)) := z_iand hx hb hd ⟨zshr_nn a b, by omega⟩ (by rw [zbit_shr]; exact k)
theorem z_ishr (hx : p.tables.exec = Jvm.exec) (hb : c.code = cc) (hd : decode cc pc = .ok (.ishr, 1)) (h : (0 ≤ a ∧ a < 2147483648) ∧ 0 ≤ b ∧ b < 31) (k : W p l e R s m args below meth c H locs cells slots Q (F0 m (pc + 1) ls (.int (zI (zshr a b)) :: rest))) : W p l e R s m args below meth c H locs cells slots Q (F0 m pc ls (.int (zI b) :: .int (zI a) :: rest)) := lv_ishr hx hb hd (by rw [zI_shr h.1 h.2]; exact k)
theorem z_ishl1 (hx : p.tables.exec = Jvm.exec) (hb : c.code = cc) (hd : decode cc pc = .ok (.ishl, 1)) (h : 0 ≤ b ∧ b < 31) (k : W p l e R s m args below meth c H locs cells slots Q (F0 m (pc + 1) ls (.int (zI (zpw b)) :: rest))) : W p l e R s m args below meth c H locs cells slots Q (F0 m pc ls (.int (zI b) :: .int (zI 1) :: rest)) := lv_ishl hx hb hd (by rw [zI_shl1 h]; exact k)
theorem z_iinc (hx : p.tables.exec = Jvm.exec) (hb : c.code = cc) {i nL k : Nat} {n : Int} {lv lv' : List (Nat × Value)} (hd : decode cc pc = .ok (.iinc i n, 3)) (h : lv_has ls nL lv) (hk : lv[k]? = some (i, .int (zI a))) (hn : i < nL) (hl : (i, Value.int (zI (a + n))) :: lv.filter (fun q => !(q.1 == i) && !(q.1 + 1 == i && q.2.category == 2)) = lv')
    (kk : ∀ ls' : Array Slot, lv_has ls' nL lv' → W p l e R s m args below meth c H locs cells slots Q (F0 m (pc + 3) ls' rest)) : W p l e R s m args below meth c H locs cells slots Q (F0 m pc ls rest) := lv_iinc hx hb hd h hk (zI_add a n) hn hl kk
theorem z_icmp_eq (hx : p.tables.exec = Jvm.exec) (hb : c.code = cc) {off : Int} {tgt : Nat} (hd : decode cc pc = .ok (.if_icmp .eq off, 3)) (ht : (pc : Int) + off = (tgt : Int)) (hr : (-2147483648 ≤ a ∧ a < 2147483648) ∧ (-2147483648 ≤ b ∧ b < 2147483648))
    (kt : a = b → W p l e R s m args below meth c H locs cells slots Q (F0 m tgt ls rest)) (kf : a ≠ b → W p l e R s m args below meth c H locs cells slots Q (F0 m (pc + 3) ls rest)) : W p l e R s m args below meth c H locs cells slots Q (F0 m pc ls (.int (zI b) :: .int (zI a) :: rest)) := lv_icmp_eq hx hb hd ht (fun q => kt ((zI_eq hr.1 hr.2).mp q)) (fun q => kf (fun w => q ((zI_eq hr.1 hr.2).mpr w)))
theorem z_icmp_ne (hx : p.tables.exec = Jvm.exec) (hb : c.code = cc) {off : Int} {tgt : Nat} (hd : decode cc pc = .ok (.if_icmp .ne off, 3)) (ht : (pc : Int) + off = (tgt : Int)) (hr : (-2147483648 ≤ a ∧ a < 2147483648) ∧ (-2147483648 ≤ b ∧ b < 2147483648))
    (kt : a ≠ b → W p l e R s m args below meth c H locs cells slots Q (F0 m tgt ls rest)) (kf : a = b → W p l e R s m args below meth c H locs cells slots Q (F0 m (pc + 3) ls rest)) : W p l e R s m args below meth c H locs cells slots Q (F0 m pc ls (.int (zI b) :: .int (zI a) :: rest)) := lv_icmp_ne hx hb hd ht (fun q => kt (fun w => q ((zI_eq hr.1 hr.2).mpr w))) (fun q => kf ((zI_eq hr.1 hr.2).mp q))
theorem z_icmp_lt (hx : p.tables.exec = Jvm.exec) (hb : c.code = cc) {off : Int} {tgt : Nat} (hd : decode cc pc = .ok (.if_icmp .lt off, 3)) (ht : (pc : Int) + off = (tgt : Int)) (hr : (-2147483648 ≤ a ∧ a < 2147483648) ∧ (-2147483648 ≤ b ∧ b < 2147483648))
    (kt : a < b → W p l e R s m args below meth c H locs cells slots Q (F0 m tgt ls rest)) (kf : b ≤ a → W p l e R s m args below meth c H locs cells slots Q (F0 m (pc + 3) ls rest)) : W p l e R s m args below meth c H locs cells slots Q (F0 m pc ls (.int (zI b) :: .int (zI a) :: rest)) := lv_icmp_lt hx hb hd ht (fun q => kt ((zI_lt hr.1 hr.2).mp q)) (fun q => kf (Int.not_lt.mp (fun w => q ((zI_lt hr.1 hr.2).mpr w))))
theorem z_icmp_ge (hx : p.tables.exec = Jvm.exec) (hb : c.code = cc) {off : Int} {tgt : Nat} (hd : decode cc pc = .ok (.if_icmp .ge off, 3)) (ht : (pc : Int) + off = (tgt : Int)) (hr : (-2147483648 ≤ a ∧ a < 2147483648) ∧ (-2147483648 ≤ b ∧ b < 2147483648))
    (kt : b ≤ a → W p l e R s m args below meth c H locs cells slots Q (F0 m tgt ls rest)) (kf : a < b → W p l e R s m args below meth c H locs cells slots Q (F0 m (pc + 3) ls rest)) : W p l e R s m args below meth c H locs cells slots Q (F0 m pc ls (.int (zI b) :: .int (zI a) :: rest)) := lv_icmp_ge hx hb hd ht (fun q => kt ((zI_le hr.2 hr.1).mp q)) (fun q => kf (Int.not_le.mp (fun w => q ((zI_le hr.2 hr.1).mpr w))))
theorem z_icmp_gt (hx : p.tables.exec = Jvm.exec) (hb : c.code = cc) {off : Int} {tgt : Nat} (hd : decode cc pc = .ok (.if_icmp .gt off, 3)) (ht : (pc : Int) + off = (tgt : Int)) (hr : (-2147483648 ≤ a ∧ a < 2147483648) ∧ (-2147483648 ≤ b ∧ b < 2147483648))
    (kt : b < a → W p l e R s m args below meth c H locs cells slots Q (F0 m tgt ls rest)) (kf : a ≤ b → W p l e R s m args below meth c H locs cells slots Q (F0 m (pc + 3) ls rest)) : W p l e R s m args below meth c H locs cells slots Q (F0 m pc ls (.int (zI b) :: .int (zI a) :: rest)) := lv_icmp_gt hx hb hd ht (fun q => kt ((zI_lt hr.2 hr.1).mp q)) (fun q => kf (Int.not_lt.mp (fun w => q ((zI_lt hr.2 hr.1).mpr w))))
theorem z_icmp_le (hx : p.tables.exec = Jvm.exec) (hb : c.code = cc) {off : Int} {tgt : Nat} (hd : decode cc pc = .ok (.if_icmp .le off, 3)) (ht : (pc : Int) + off = (tgt : Int)) (hr : (-2147483648 ≤ a ∧ a < 2147483648) ∧ (-2147483648 ≤ b ∧ b < 2147483648))
    (kt : a ≤ b → W p l e R s m args below meth c H locs cells slots Q (F0 m tgt ls rest)) (kf : b < a → W p l e R s m args below meth c H locs cells slots Q (F0 m (pc + 3) ls rest)) : W p l e R s m args below meth c H locs cells slots Q (F0 m pc ls (.int (zI b) :: .int (zI a) :: rest)) := lv_icmp_le hx hb hd ht (fun q => kt ((zI_le hr.1 hr.2).mp q)) (fun q => kf (Int.not_le.mp (fun w => q ((zI_le hr.1 hr.2).mpr w))))
theorem z_if_eq (hx : p.tables.exec = Jvm.exec) (hb : c.code = cc) {off : Int} {tgt : Nat} (hd : decode cc pc = .ok (.ifCond .eq off, 3)) (ht : (pc : Int) + off = (tgt : Int)) (hr : -2147483648 ≤ a ∧ a < 2147483648)
    (kt : a = 0 → W p l e R s m args below meth c H locs cells slots Q (F0 m tgt ls rest)) (kf : a ≠ 0 → W p l e R s m args below meth c H locs cells slots Q (F0 m (pc + 3) ls rest)) : W p l e R s m args below meth c H locs cells slots Q (F0 m pc ls (.int (zI a) :: rest)) := lv_if_eq hx hb hd ht (fun q => kt ((zI_eq (b := 0) hr (by omega)).mp q)) (fun q => kf (fun w => q ((zI_eq (b := 0) hr (by omega)).mpr w)))
theorem z_if_ne (hx : p.tables.exec = Jvm.exec) (hb : c.code = cc) {off : Int} {tgt : Nat} (hd : decode cc pc = .ok (.ifCond .ne off, 3)) (ht : (pc : Int) + off = (tgt : Int)) (hr : -2147483648 ≤ a ∧ a < 2147483648)
    (kt : a ≠ 0 → W p l e R s m args below meth c H locs cells slots Q (F0 m tgt ls rest)) (kf : a = 0 → W p l e R s m args below meth c H locs cells slots Q (F0 m (pc + 3) ls rest)) : W p l e R s m args below meth c H locs cells slots Q (F0 m pc ls (.int (zI a) :: rest)) := lv_if_ne hx hb hd ht (fun q => kt (fun w => q ((zI_eq (b := 0) hr (by omega)).mpr w))) (fun q => kf ((zI_eq (b := 0) hr (by omega)).mp q))
theorem z_if_lt (hx : p.tables.exec = Jvm.exec) (hb : c.code = cc) {off : Int} {tgt : Nat} (hd : decode cc pc = .ok (.ifCond .lt off, 3)) (ht : (pc : Int) + off = (tgt : Int)) (hr : -2147483648 ≤ a ∧ a < 2147483648)
    (kt : a < 0 → W p l e R s m args below meth c H locs cells slots Q (F0 m tgt ls rest)) (kf : 0 ≤ a → W p l e R s m args below meth c H locs cells slots Q (F0 m (pc + 3) ls rest)) : W p l e R s m args below meth c H locs cells slots Q (F0 m pc ls (.int (zI a) :: rest)) := lv_if_lt hx hb hd ht (fun q => kt ((zI_lt (b := 0) hr (by omega)).mp q)) (fun q => kf (Int.not_lt.mp (fun w => q ((zI_lt (b := 0) hr (by omega)).mpr w))))
theorem z_if_ge (hx : p.tables.exec = Jvm.exec) (hb : c.code = cc) {off : Int} {tgt : Nat} (hd : decode cc pc = .ok (.ifCond .ge off, 3)) (ht : (pc : Int) + off = (tgt : Int)) (hr : -2147483648 ≤ a ∧ a < 2147483648)
    (kt : 0 ≤ a → W p l e R s m args below meth c H locs cells slots Q (F0 m tgt ls rest)) (kf : a < 0 → W p l e R s m args below meth c H locs cells slots Q (F0 m (pc + 3) ls rest)) : W p l e R s m args below meth c H locs cells slots Q (F0 m pc ls (.int (zI a) :: rest)) := lv_if_ge hx hb hd ht (fun q => kt ((zI_le (a := 0) (by omega) hr).mp q)) (fun q => kf (Int.not_le.mp (fun w => q ((zI_le (a := 0) (by omega) hr).mpr w))))
theorem z_if_gt (hx : p.tables.exec = Jvm.exec) (hb : c.code = cc) {off : Int} {tgt : Nat} (hd : decode cc pc = .ok (.ifCond .gt off, 3)) (ht : (pc : Int) + off = (tgt : Int)) (hr : -2147483648 ≤ a ∧ a < 2147483648)
    (kt : 0 < a → W p l e R s m args below meth c H locs cells slots Q (F0 m tgt ls rest)) (kf : a ≤ 0 → W p l e R s m args below meth c H locs cells slots Q (F0 m (pc + 3) ls rest)) : W p l e R s m args below meth c H locs cells slots Q (F0 m pc ls (.int (zI a) :: rest)) := lv_if_gt hx hb hd ht (fun q => kt ((zI_lt (a := 0) (by omega) hr).mp q)) (fun q => kf (Int.not_lt.mp (fun w => q ((zI_lt (a := 0) (by omega) hr).mpr w))))
theorem z_if_le (hx : p.tables.exec = Jvm.exec) (hb : c.code = cc) {off : Int} {tgt : Nat} (hd : decode cc pc = .ok (.ifCond .le off, 3)) (ht : (pc : Int) + off = (tgt : Int)) (hr : -2147483648 ≤ a ∧ a < 2147483648)
    (kt : a ≤ 0 → W p l e R s m args below meth c H locs cells slots Q (F0 m tgt ls rest)) (kf : 0 < a → W p l e R s m args below meth c H locs cells slots Q (F0 m (pc + 3) ls rest)) : W p l e R s m args below meth c H locs cells slots Q (F0 m pc ls (.int (zI a) :: rest)) := lv_if_le hx hb hd ht (fun q => kt ((zI_le (b := 0) hr (by omega)).mp q)) (fun q => kf (Int.not_le.mp (fun w => q ((zI_le (b := 0) hr (by omega)).mpr w))))
variable {D : va_G} {cl : List vw_C} {A : Nat → Prop} {ad : Nat} {tys : List (ClassId × FieldType)} {ws : va_W} {H0 : Heap}
theorem z_iald (hx : p.tables.exec = Jvm.exec) (hb : c.code = cc) (hK : va_K D cl tys s) (hP : va_P D cl ws H) (q0 t0 : Nat) {cA : ClassId} {n : Nat} {F : Int → Int} (ha : ws[q0]? = some (ad, .inl (cA, n, .inl (zia F)))) (ht : tys[t0]? = some (cA, .int)) (hn : n < 2147483648) (hd : decode cc pc = .ok (.iaload, 1)) (hin : 0 ≤ a ∧ a < n)
    (kk : W p l e R s m args below meth c H locs cells slots Q (F0 m (pc + 1) ls (.int (zI (F a)) :: rest))) : W p l e R s m args below meth c H locs cells slots Q (F0 m pc ls (.int (zI a) :: .ref ad :: rest)) := va_iald hx hb hK hP q0 t0 ha ht (zI_in hin hn) hd (by rw [zia_at F (by omega)]; exact kk)
theorem z_bald (hx : p.tables.exec = Jvm.exec) (hb : c.code = cc) (hK : va_K D cl tys s) (hP : va_P D cl ws H) (q0 t0 : Nat) {cA : ClassId} {n : Nat} {F : Int → Int} (ha : ws[q0]? = some (ad, .inl (cA, n, .inl (zia F)))) (ht : tys[t0]? = some (cA, .byte)) (hn : n < 2147483648) (hd : decode cc pc = .ok (.baload, 1)) (hin : 0 ≤ a ∧ a < n)
    (kk : W p l e R s m args below meth c H locs cells slots Q (F0 m (pc + 1) ls (.int (zI (F a)) :: rest))) : W p l e R s m args below meth c H locs cells slots Q (F0 m pc ls (.int (zI a) :: .ref ad :: rest)) := va_bald hx hb hK hP q0 t0 ha ht (zI_in hin hn) hd (by rw [zia_at F (by omega)]; exact kk)
theorem z_zald (hx : p.tables.exec = Jvm.exec) (hb : c.code = cc) (hK : va_K D cl tys s) (hP : va_P D cl ws H) (q0 t0 : Nat) {cA : ClassId} {n : Nat} {F : Int → Int} (ha : ws[q0]? = some (ad, .inl (cA, n, .inl (zia F)))) (ht : tys[t0]? = some (cA, .boolean)) (hn : n < 2147483648) (hd : decode cc pc = .ok (.baload, 1)) (hin : 0 ≤ a ∧ a < n)
    (kk : W p l e R s m args below meth c H locs cells slots Q (F0 m (pc + 1) ls (.int (zI (F a)) :: rest))) : W p l e R s m args below meth c H locs cells slots Q (F0 m pc ls (.int (zI a) :: .ref ad :: rest)) := va_zald hx hb hK hP q0 t0 ha ht (zI_in hin hn) hd (by rw [zia_at F (by omega)]; exact kk)
theorem z_iast (hx : p.tables.exec = Jvm.exec) (hb : c.code = cc) (hK : va_K D cl tys s) (hP : va_P D cl ws H) (hD : va_D A ws) (hS : va_S A H0 H locs) (q0 t0 : Nat) {cA : ClassId} {n : Nat} {F : Int → Int} (ha : ws[q0]? = some (ad, .inl (cA, n, .inl (zia F)))) (ht : tys[t0]? = some (cA, .int)) (hn : n < 2147483648) (hd : decode cc pc = .ok (.iastore, 1)) {ws' : va_W} (hw : ws.set q0 (ad, .inl (cA, n, .inl (zia (zup F a b)))) = ws') (hin : 0 ≤ a ∧ a < n)
    (kk : ∀ (H1 : Heap) (locs1 : List Loc), va_P D cl ws' H1 → va_D A ws' → va_S A H0 H1 locs1 → W p l e R s m args below meth c H1 locs1 cells slots Q (F0 m (pc + 1) ls rest)) : W p l e R s m args below meth c H locs cells slots Q (F0 m pc ls (.int (zI b) :: .int (zI a) :: .ref ad :: rest)) := va_iast hx hb hK hP hD hS q0 t0 ha ht (zI_in hin hn) hd (by rw [zia_up F b (by omega), hw]; exact kk)
theorem z_bast (hx : p.tables.exec = Jvm.exec) (hb : c.code = cc) (hK : va_K D cl tys s) (hP : va_P D cl ws H) (hD : va_D A ws) (hS : va_S A H0 H locs) (q0 t0 : Nat) {cA : ClassId} {n : Nat} {F : Int → Int} (ha : ws[q0]? = some (ad, .inl (cA, n, .inl (zia F)))) (ht : tys[t0]? = some (cA, .byte)) (hn : n < 2147483648) (hd : decode cc pc = .ok (.bastore, 1)) {ws' : va_W} (hw : ws.set q0 (ad, .inl (cA, n, .inl (zia (zup F a b)))) = ws') (hin : 0 ≤ a ∧ a < n) (hr : vp_nar .byte (zI b) = zI b)
    (kk : ∀ (H1 : Heap) (locs1 : List Loc), va_P D cl ws' H1 → va_D A ws' → va_S A H0 H1 locs1 → W p l e R s m args below meth c H1 locs1 cells slots Q (F0 m (pc + 1) ls rest)) : W p l e R s m args below meth c H locs cells slots Q (F0 m pc ls (.int (zI b) :: .int (zI a) :: .ref ad :: rest)) := va_bast hx hb hK hP hD hS q0 t0 ha ht (zI_in hin hn) hd (by rw [hr, zia_up F b (by omega), hw]; exact kk)
theorem z_zast (hx : p.tables.exec = Jvm.exec) (hb : c.code = cc) (hK : va_K D cl tys s) (hP : va_P D cl ws H) (hD : va_D A ws) (hS : va_S A H0 H locs) (q0 t0 : Nat) {cA : ClassId} {n : Nat} {F : Int → Int} (ha : ws[q0]? = some (ad, .inl (cA, n, .inl (zia F)))) (ht : tys[t0]? = some (cA, .boolean)) (hn : n < 2147483648) (hd : decode cc pc = .ok (.bastore, 1)) {ws' : va_W} (hw : ws.set q0 (ad, .inl (cA, n, .inl (zia (zup F a b)))) = ws') (hin : 0 ≤ a ∧ a < n) (hr : vp_nar .boolean (zI b) = zI b)
    (kk : ∀ (H1 : Heap) (locs1 : List Loc), va_P D cl ws' H1 → va_D A ws' → va_S A H0 H1 locs1 → W p l e R s m args below meth c H1 locs1 cells slots Q (F0 m (pc + 1) ls rest)) : W p l e R s m args below meth c H locs cells slots Q (F0 m pc ls (.int (zI b) :: .int (zI a) :: .ref ad :: rest)) := va_zast hx hb hK hP hD hS q0 t0 ha ht (zI_in hin hn) hd (by rw [hr, zia_up F b (by omega), hw]; exact kk)
theorem z_put (hx : p.tables.exec = Jvm.exec) (hb : c.code = cc) {own ref C : String} {T : u_T} {N ci index : Nat} {Ts : List Cond} (hts : ∀ w ∈ Ts, w.before args s = true) (hin : ∀ w ∈ u_ws C T N, w ∈ Ts) (ty0 : Nat → FieldType) (hty : ∀ k, k < N → parseFieldDescriptor (T k).2.2.1 = some (ty0 k)) (hnm : ∀ a, a < N → ∀ b, b < N → a ≠ b → (T a).2.1 ≠ (T b).2.1) (hown : s.vm.findClass own = some m.cls) (hK : va_K D cl tys s) (hP : va_P D cl ws H) (hD : va_D A ws) (hS0 : va_S A H0 H locs) (q0 : Nat) {fs : List Value} (he : ws[q0]? = some (ad, .inr (ci, fs))) (hc : cl[ci]? = some (C, T, N)) (k : Nat) (hk : k < N) (hlink : (Cond.fieldLink own index ref (T k).2.1 (T k).2.2.1).before args s = true) (hsame : ∀ x, s.fieldFound? (T k).1 (T k).2.1 (T k).2.2.1 = some x → s.fieldFound? ref (T k).2.1 (T k).2.2.1 = some x) (hfin : (T k).2.2.2 = false) {ty : FieldType} {v : Value} (hd : parseFieldDescriptor (T k).2.2.1 = some ty) (hn : narrow ty v = v) (hfit : fits ty v = true) (hl : k < fs.length) (hdg : decode cc pc = .ok (.putfield index, 3)) {ws' : va_W} (hw : ws.set q0 (ad, .inr (ci, fs.set k v)) = ws')
    (kk : ∀ (H1 : Heap) (locs1 : List Loc), va_P D cl ws' H1 → va_D A ws' → va_S A H0 H1 locs1 → W p l e R s m args below meth c H1 locs1 cells slots Q (F0 m (pc + 3) ls rest)) : W p l e R s m args below meth c H locs cells slots Q (F0 m pc ls (v :: .ref ad :: rest)) := va_put hx hb hts hin ty0 hty hnm hown hK hP hD hS0 q0 he hc k hk hlink hsame hfin hd hn hfit hl hdg (by rw [hw]; exact kk)
end ZROWS
/-! ===== the nest mates' links: they ride beside the words ===== -/
def nestW : List Cond := [.fieldLinkNest RX4 44 "BedHouse$Text" "length" "I" "BedHouse", .fieldLinkNest RX4 56 "BedHouse$Search" "surveyed" "Z" "BedHouse", .fieldLinkNest RX4 77 "BedHouse$Moment" "home" "I" "BedHouse", .fieldLinkNest RX2 76 "BedHouse$Moment" "home" "I" "BedHouse", .fieldLinkNest RX4 122 "BedHouse$Moment" "day" "I" "BedHouse", .fieldLinkNest RX2 87 "BedHouse$Moment" "day" "I" "BedHouse", .fieldLinkNest RX2 84 "BedHouse$Moment" "acts" "I" "BedHouse", .fieldLinkNest RX4 131 "BedHouse$Moment" "acts" "I" "BedHouse", .fieldLinkNest RX4 128 "BedHouse$Moment" "leaks" "I" "BedHouse", .fieldLinkNest RX4 164 "BedHouse$Moment" "clues" "I" "BedHouse", .fieldLinkNest RX1 88 "BedHouse$Moment" "litHours" "I" "BedHouse", .fieldLinkNest RX4 167 "BedHouse$Moment" "litHours" "I" "BedHouse", .fieldLinkNest RX1 92 "BedHouse$Moment" "darkHours" "I" "BedHouse", .fieldLinkNest RX4 169 "BedHouse$Moment" "darkHours" "I" "BedHouse", .fieldLinkNest RX4 66 "BedHouse$Moment" "kept" "Z" "BedHouse", .fieldLinkNest RX2 26 "BedHouse$Plan" "panels" "I" "BedHouse", .fieldLinkNest RX3 71 "BedHouse$Plan" "panels" "I" "BedHouse", .fieldLinkNest RX4 201 "BedHouse$Plan" "panels" "I" "BedHouse", .fieldLinkNest RX4 60 "BedHouse$Plan" "toldHouse" "I" "BedHouse", .fieldLinkNest RX3 78 "BedHouse$Plan" "toldHouse" "I" "BedHouse", .fieldLinkNest RX3 62 "BedHouse$Plan" "beams" "I" "BedHouse", .fieldLinkNest RX4 204 "BedHouse$Plan" "beams" "I" "BedHouse", .fieldLinkNest RX4 90 "BedHouse$Plan" "rain" "I" "BedHouse", .fieldLinkNest RX3 92 "BedHouse$Plan" "rain" "I" "BedHouse", .fieldLinkNest RX4 93 "BedHouse$Plan" "sun" "I" "BedHouse", .fieldLinkNest RX3 95 "BedHouse$Plan" "sun" "I" "BedHouse", .fieldLinkNest RX3 65 "BedHouse$Plan" "view" "I" "BedHouse", .fieldLinkNest RX4 96 "BedHouse$Plan" "view" "I" "BedHouse", .fieldLinkNest RX3 68 "BedHouse$Plan" "noise" "I" "BedHouse", .fieldLinkNest RX4 99 "BedHouse$Plan" "noise" "I" "BedHouse", .fieldLinkNest RX4 102 "BedHouse$Plan" "mostLying" "I" "BedHouse", .fieldLinkNest RX3 98 "BedHouse$Plan" "mostLying" "I" "BedHouse", .fieldLinkNest RX4 105 "BedHouse$Plan" "hands" "I" "BedHouse", .fieldLinkNest RX3 101 "BedHouse$Plan" "hands" "I" "BedHouse", .fieldLinkNest RX2 81 "BedHouse$Plan" "hands" "I" "BedHouse", .methodLinkNest RX4 11 yX3_init "BedHouse", .methodLinkNest RX4 18 yX2_init "BedHouse", .methodLinkNest RX4 25 yX0_init "BedHouse", .methodLinkNest RX4 36 yX1_init "BedHouse", .methodLinkNest RX4 48 yX3_append "BedHouse", .methodLinkNest RX4 52 yX3_tell "BedHouse", .methodLinkNest RX3 19 yX1_startAnew "BedHouse", .methodLinkNest RX3 74 yX4_isSlot "BedHouse", .methodLinkNest RX3 81 yX1_panelAt "BedHouse", .methodLinkNest RX1 57 yX4_placeIn "BedHouse", .methodLinkNest RX3 88 yX1_addBeam "BedHouse", .methodLinkNest RX3 104 yX1_addPanel "BedHouse", .methodLinkNest RX1 49 yX4_unitOf "BedHouse", .methodLinkNest RX4 63 yX0_begin "BedHouse", .methodLinkNest RX4 69 yX1_hasPanel "BedHouse", .methodLinkNest RX4 73 yX1_sortOf "BedHouse", .methodLinkNest RX4 87 yX1_panelAt "BedHouse", .methodLinkNest RX4 108 yX1_hasBeam "BedHouse", .methodLinkNest RX4 111 yX1_isBorne "BedHouse", .methodLinkNest RX4 137 yX1_allows "BedHouse", .methodLinkNest RX4 207 yX1_lyingIn "BedHouse", .methodLinkNest RX4 125 yX1_leaksOf "BedHouse", .methodLinkNest RX4 134 yX1_worthOf "BedHouse", .methodLinkNest RX4 141 yX1_litHours "BedHouse", .methodLinkNest RX4 147 yX2_fewestActs "BedHouse", .methodLinkNest RX2 32 yX4_unitOf "BedHouse", .methodLinkNest RX2 36 yX1_allows "BedHouse", .methodLinkNest RX2 53 yX4_placeIn "BedHouse", .methodLinkNest RX2 57 yX4_moved "BedHouse", .methodLinkNest RX4 151 yX2_firstAct "BedHouse", .methodLinkNest RX4 154 yX2_fewestNights "BedHouse", .methodLinkNest RX2 94 yX1_leaksOf "BedHouse", .methodLinkNest RX4 158 yX2_actsToEmpty "BedHouse", .methodLinkNest RX2 97 yX1_slotsUnder "BedHouse", .methodLinkNest RX4 161 yX2_bestHome "BedHouse", .methodLinkNest RX2 101 yX1_worthOf "BedHouse", .methodLinkNest RX4 172 yX2_countFitting "BedHouse", .methodLinkNest RX2 104 yX1_fitsLetter "BedHouse", .methodLinkNest RX4 176 yX2_surePlace "BedHouse", .methodLinkNest RX4 197 yX0_copyFrom "BedHouse"]
def nestLike (w : Cond) : Prop := (∃ a i b n d h, w = .fieldLinkNest a i b n d h) ∨ ∃ a i x h, w = .methodLinkNest a i x h
theorem nestW_like : ∀ w ∈ nestW, nestLike w := by
  intro w hw
  simp only [nestW, List.mem_cons, List.not_mem_nil, or_false] at hw
  unfold nestLike
  rcases hw with rfl | rfl | rfl | rfl | rfl | rfl | rfl | rfl | rfl | rfl | rfl | rfl | rfl | rfl | rfl | rfl | rfl | rfl | rfl | rfl | rfl | rfl | rfl | rfl | rfl | rfl | rfl | rfl | rfl | rfl | rfl | rfl | rfl | rfl | rfl | rfl | rfl | rfl | rfl | rfl | rfl | rfl | rfl | rfl | rfl | rfl | rfl | rfl | rfl | rfl | rfl | rfl | rfl | rfl | rfl | rfl | rfl | rfl | rfl | rfl | rfl | rfl | rfl | rfl | rfl | rfl | rfl | rfl | rfl | rfl | rfl | rfl | rfl | rfl | rfl <;> simp
def NW (U : State) : Prop := ∀ w ∈ nestW, va_Nw w U
theorem NW.warm {s U : State} (hW : s.WarmedH U.vm) (h : NW s) : NW U := by
  intro w hw
  have h1 := h w hw
  rcases nestW_like w hw with ⟨a, i, b, n, d, hh, e⟩ | ⟨a, i, x, hh, e⟩
  · subst e; exact va_Nw.warmF hW h1
  · subst e; exact va_Nw.warmM hW h1
theorem NW.same {u U : State} (hv : u.vm = U.vm) (h : NW u) : NW U := by
  intro w hw
  have h1 := h w hw
  rcases nestW_like w hw with ⟨a, i, b, n, d, hh, e⟩ | ⟨a, i, x, hh, e⟩
  · subst e; exact va_Nw.same rfl hv h1
  · subst e; exact va_Nw.same rfl hv h1
theorem NW.at {U : State} (h : NW U) (k : Nat) {w : Cond} (hk : nestW[k]? = some w) : va_Nw w U := h w (List.mem_of_getElem? hk)
/-! ===== contracts ===== -/
abbrev TYS (cB cI cZ cM : ClassId) : List (ClassId × FieldType) := [(cB, .byte), (cI, .int), (cZ, .boolean), (cM, .object "BedHouse$Moment")]
def MX (p : Program) (s : State) (m : MethodId) (args : Array Value) (meth : Method) (c : Code) (cc : ByteArray) (nL : Nat) (ret : Option FieldType) (own : String) (Ts : List Cond) : Prop :=
  p.tables.exec = Jvm.exec ∧ c.code = cc ∧ meth.sig.returnType = ret ∧ c.maxLocals = nL ∧ s.vm.findClass own = some m.cls ∧ (∀ w ∈ Ts, w.before args s = true) ∧ meth.locks = false ∧ NW s
theorem MX.fix {p : Program} {s : State} {m : MethodId} {args : Array Value} {meth : Method} {c : Code} {cc : ByteArray} {nL : Nat} {ret : Option FieldType} {own : String} {Ts : List Cond} (M : MX p s m args meth c cc nL ret own Ts) : CallFix p m c cc nL s args Ts own := ⟨M.1, M.2.1, M.2.2.2.1, M.2.2.2.2.1, M.2.2.2.2.2.1⟩
def PZ (D : va_G) (tys : List (ClassId × FieldType)) (ws : va_W) (Hp : Heap) : State → Prop := fun U => U.heap = Hp ∧ va_P D vwCl ws Hp ∧ va_K D vwCl tys U ∧ NW U
theorem PZ_blind {D : va_G} {tys : List (ClassId × FieldType)} {ws : va_W} {Hp : Heap} {av : List Value} : FrameBlind (va_Pc av (PZ D tys ws Hp)) :=
  fun a U g mk q => ⟨q.1, q.2.1, q.2.2.1, va_K.moved (u := U) (U := U.calling g mk a) (Vm.Alike.refl U.vm) q.2.2.2.1, q.2.2.2.2.same (u := U) (U := U.calling g mk a) rfl⟩
abbrev rmP (rf rl : Nat) : Room := { frames := rf, cells := 0, slots := 0, locals := rl }
def Qpu (S0 : Heap) (post : Int32 → Prop) : Array Value → State → Outcome → State → Prop := va_Qi (fun r (_ : Unit) => post r) (fun _ t => t.heap = S0) (fun _ => False)
/-- a method that writes nothing: its answer -/
def cP (l : Launch) (y : MethodName) (wl : List Cond) (rf rl : Nat) (D : va_G) (tys : List (ClassId × FieldType)) (av : List Value) (ws : va_W) (Hp : Heap) (post : Int32 → Prop) : Prop :=
  Met l y wl (rmP rf rl) (va_Pc av (PZ D tys ws Hp)) (Qpu Hp post) 0 0 (fun _ => False)
abbrev QP (below : List Frame) (args : Array Value) (s : State) (post : Int32 → Prop) : State → Prop := MQ below (Qpu s.heap post) args s 0 0 (fun _ => False)
theorem pu_start {l : Launch} {y : MethodName} {wl wl' : List Cond} {rf rl maxL : Nat} {D : va_G} {tys : List (ClassId × FieldType)} {av : List Value} {ws : va_W} {Hp : Heap} {post : Int32 → Prop} {cc : ByteArray} {ret : Option FieldType}
    (hy : plainName y.cls = true) (hw : wl = Cond.code y cc maxL ret :: wl') (hlen : (lg_sl av).length ≤ maxL)
    (body : ∀ (p : Program) (e : Env) (s : State) (m : MethodId) (args : Array Value) (below : List Frame) (meth : Method) (c : Code) (ls : Array Slot), MX p s m args meth c cc maxL ret y.cls wl → va_P D vwCl ws s.heap → va_K D vwCl tys s → lv_has ls maxL (lv_args 0 av) →
      W p l e (rmP rf rl) s m args below meth c s.heap [] 0 0 (QP below args s post) (F0 m 0 ls [])) : cP l y wl rf rl D tys av ws Hp post := by
  refine Met.ofW (cc := cc) (maxL := maxL) (ret := ret) hy hw ?_
  intro p e s m args below meth c s₁ B hml hv
  obtain ⟨rfl, hH, hP, hK, hNw⟩ := hv
  subst hH
  have hl := lv_entry av (n := maxL) hlen
  rw [lg_entry_eq]
  exact body p e s m av.toArray below meth c _ ⟨B.exec, B.bytes, B.returns, hml, findClass_of_methodNamed B.named, atoms_spec (ws := wl) B.pre, B.notSynchronized, hNw⟩ hP hK hl
section ZC
variable {p : Program} {l : Launch} {e : Env} {R : Room} {s : State} {m : MethodId} {args : Array Value} {below : List Frame} {meth : Method} {c : Code} {H : Heap} {locs : List Loc} {cells slots : Nat} {Q : State → Prop}
variable {cc : ByteArray} {pc nL : Nat} {ret0 : Option FieldType} {own : String} {Ts : List Cond} {ls : Array Slot} {rest st0 : List Value}
variable {D : va_G} {tys : List (ClassId × FieldType)} {ws : va_W}
theorem pu_ret {post : Int32 → Prop} {v : Int32} (M : MX p s m args meth c cc nL (some .int) own Ts) (hd : decode cc pc = .ok (.ireturn, 1)) (hp : post v) :
    W p l e R s m args below meth c s.heap [] 0 0 (QP below args s post) (F0 m pc ls [.int v]) :=
  W.iret M.1 M.2.1 M.2.2.1 (fun t ht _ => ⟨⟨v, (), rfl, hp, ht⟩, by rw [ht]; exact Nat.le_refl _, fun q _ _ => by rw [ht]⟩) (fun q h => absurd h List.not_mem_nil) hd M.2.2.2.2.2.2.1
theorem pu_retz {post : Int32 → Prop} {v : Int32} {ty : FieldType} (M : MX p s m args meth c cc nL (some ty) own Ts) (hn : narrow ty (.int v) = .int v) (hd : decode cc pc = .ok (.ireturn, 1)) (hp : post v) :
    W p l e R s m args below meth c s.heap [] 0 0 (QP below args s post) (F0 m pc ls [.int v]) :=
  W.zret M.1 M.2.1 M.2.2.1 hn (fun t ht _ => ⟨⟨v, (), rfl, hp, ht⟩, by rw [ht]; exact Nat.le_refl _, fun q _ _ => by rw [ht]⟩) (fun q h => absurd h List.not_mem_nil) hd M.2.2.2.2.2.2.1
theorem pu_call {post : Int32 → Prop} {aa : Array Value} (hr : va_Run p l e R s m args below meth c H locs cells slots 0 0 (F0 m pc ls st0) rest (Qpu H post aa) (fun _ => False))
    (kk : ∀ r : Int32, post r → W p l e R s m args below meth c H locs cells slots Q (F0 m (pc + 3) ls (.int r :: rest))) : W p l e R s m args below meth c H locs cells slots Q (F0 m pc ls st0) := by
  intro T hT X
  obtain ⟨v, st₀, t, T', L, h0, X', hL, e1, e2, ⟨⟨r, u, hv, hp, hb⟩, hz, hk⟩, st⟩ := hr T hT X
  cases hv
  have hLn : L = [] := by
    cases L with
    | nil => rfl
    | cons q L => exact (hL q List.mem_cons_self).elim
  subst hLn
  rw [List.append_nil] at X'
  obtain ⟨t2, a1, b1⟩ := kk r hp T' (e1.trans hb) X'
  exact ⟨t2, st t2 a1, b1⟩
/-- a call by invokevirtual, in the same class, of a method that writes nothing -/
theorem pc_V {post : Int32 → Prop} {y : MethodName} {wl wl' : List Cond} {rf rl n maxL index : Nat} {bytes : ByteArray} {ret : Option FieldType} {C : String} {b : Nat} {As : List Value} {wc : va_W}
    (M : MX p s m args meth c cc nL ret0 own Ts) (hM : cP l y wl rf rl D tys (.ref b :: As) wc H post) (hT : GoodIn Ts (wsV own index C y wl)) (hw : wl = Cond.code y bytes maxL ret :: wl')
    (hd : y.cls = C ∧ y.cls ≠ "java/lang/invoke/MethodHandle" ∧ y.cls ≠ "java/lang/invoke/VarHandle" ∧ (parseMethodDescriptor y.desc).map (fun d => d.parameters.length) = some n) (hR : rf + 1 ≤ R.frames ∧ 8 + (maxL + 11) + rl ≤ R.locals)
    (hK : va_K D vwCl tys s) (hP : va_P D vwCl ws H) (isC : List Nat) (hC : isC.filterMap (fun i => ws[i]?) = wc) (q0 ci : Nat) {fs : List Value} (he : ws[q0]? = some (b, .inr (ci, fs))) {q : vw_C} (hc : vwCl[ci]? = some q) (hq : q.1 = C)
    (hl : ls.size = nL) (hn : As.length = n) (hst : st0 = As.reverse ++ .ref b :: rest) (hW : (rest.map fun v => v.category).sum ≤ 8) (hdg : decode cc pc = .ok (.invokevirtual index, 3)) (hcap : cells ≤ R.cells ∧ slots ≤ R.slots)
    (kk : ∀ r : Int32, post r → W p l e R s m args below meth c H locs cells slots Q (F0 m (pc + 3) ls (.int r :: rest))) : W p l e R s m args below meth c H locs cells slots Q (F0 m pc ls st0) :=
  pu_call (va_runV (As := As) (rest := rest) M.fix hM (cwV n M.2.2.2.2.2.1 hT hw rfl rfl hd hR) ⟨PZ_blind, by rw [← hq]; exact va_recv hK hP hc he, fun U hU hW => ⟨rfl, hU, hP.sub isC hC, va_K.moved hW.alike hK, M.2.2.2.2.2.2.2.warm hW⟩⟩ rfl hn hl hst (lv_room hW) hdg hcap) kk
/-- a static call, in the same class -/
theorem pc_S {post : Int32 → Prop} {y : MethodName} {wl wl' : List Cond} {rf rl n maxL index : Nat} {bytes : ByteArray} {ret : Option FieldType} {As : List Value} {wc : va_W}
    (M : MX p s m args meth c cc nL ret0 own Ts) (hM : cP l y wl rf rl D tys As wc H post) (hT : GoodIn Ts (wsS own index y wl)) (hw : wl = Cond.code y bytes maxL ret :: wl')
    (hd : y.cls = own ∧ y.cls ≠ "java/lang/invoke/MethodHandle" ∧ y.cls ≠ "java/lang/invoke/VarHandle" ∧ (parseMethodDescriptor y.desc).map (fun d => d.parameters.length) = some n) (hR : rf + 1 ≤ R.frames ∧ 8 + (maxL + 11) + rl ≤ R.locals)
    (hK : va_K D vwCl tys s) (hP : va_P D vwCl ws H) (isC : List Nat) (hC : isC.filterMap (fun i => ws[i]?) = wc)
    (hl : ls.size = nL) (hn : As.length = n) (hst : st0 = As.reverse ++ rest) (hW : (rest.map fun v => v.category).sum ≤ 8) (hdg : decode cc pc = .ok (.invokestatic index, 3)) (hcap : cells ≤ R.cells ∧ slots ≤ R.slots)
    (kk : ∀ r : Int32, post r → W p l e R s m args below meth c H locs cells slots Q (F0 m (pc + 3) ls (.int r :: rest))) : W p l e R s m args below meth c H locs cells slots Q (F0 m pc ls st0) :=
  pu_call (va_runS (As := As) (rest := rest) M.fix hM (cwS n M.2.2.2.2.2.1 hT hw rfl rfl hd hR) ⟨PZ_blind, fun U hU hW => ⟨rfl, hU, hP.sub isC hC, va_K.moved hW.alike hK, M.2.2.2.2.2.2.2.warm hW⟩⟩ rfl hn hl hst (lv_room hW) hdg hcap) kk
/-- a static call of a JDK method -/
theorem pc_J {post : Int32 → Prop} {y : MethodName} {wl wl' : List Cond} {rf rl n maxL index : Nat} {bytes : ByteArray} {ret : Option FieldType} {As : List Value} {wc : va_W}
    (M : MX p s m args meth c cc nL ret0 own Ts) (hM : cP l y wl rf rl D tys As wc H post) (hT : GoodIn Ts (va_wsS own index y wl)) (hw : wl = Cond.code y bytes maxL ret :: wl')
    (hd : y.cls ≠ "java/lang/invoke/MethodHandle" ∧ y.cls ≠ "java/lang/invoke/VarHandle" ∧ (parseMethodDescriptor y.desc).map (fun d => d.parameters.length) = some n) (hR : rf + 1 ≤ R.frames ∧ 8 + (maxL + 11) + rl ≤ R.locals)
    (hK : va_K D vwCl tys s) (hP : va_P D vwCl ws H) (isC : List Nat) (hC : isC.filterMap (fun i => ws[i]?) = wc)
    (hl : ls.size = nL) (hn : As.length = n) (hst : st0 = As.reverse ++ rest) (hW : (rest.map fun v => v.category).sum ≤ 8) (hdg : decode cc pc = .ok (.invokestatic index, 3)) (hcap : cells ≤ R.cells ∧ slots ≤ R.slots)
    (kk : ∀ r : Int32, post r → W p l e R s m args below meth c H locs cells slots Q (F0 m (pc + 3) ls (.int r :: rest))) : W p l e R s m args below meth c H locs cells slots Q (F0 m pc ls st0) :=
  pu_call (va_runS (As := As) (rest := rest) M.fix hM (va_cwS n M.2.2.2.2.2.1 hT hw rfl rfl hd hR) ⟨PZ_blind, fun U hU hW => ⟨rfl, hU, hP.sub isC hC, va_K.moved hW.alike hK, M.2.2.2.2.2.2.2.warm hW⟩⟩ rfl hn hl hst (lv_room hW) hdg hcap) kk
/-- a call by invokevirtual of a nest mate's private method -/
theorem pc_VN {post : Int32 → Prop} {y : MethodName} {wl wl' : List Cond} {rf rl n maxL index : Nat} {bytes : ByteArray} {ret : Option FieldType} {C host : String} {b : Nat} {As : List Value} {wc : va_W}
    (M : MX p s m args meth c cc nL ret0 own Ts) (hM : cP l y wl rf rl D tys (.ref b :: As) wc H post) (hT : GoodIn Ts wl) (hw : wl = Cond.code y bytes maxL ret :: wl')
    (hlk : va_Nw (.methodLinkNest own index y host) s) (hin : Cond.initialized y.cls ∈ Ts) (him : Cond.instanceMethod y ∈ Ts) (hse : Cond.selects C y y ∈ Ts)
    (hd : y.cls ≠ "java/lang/invoke/MethodHandle" ∧ y.cls ≠ "java/lang/invoke/VarHandle" ∧ (parseMethodDescriptor y.desc).map (fun d => d.parameters.length) = some n) (hR : rf + 1 ≤ R.frames ∧ 8 + (maxL + 11) + rl ≤ R.locals)
    (hK : va_K D vwCl tys s) (hP : va_P D vwCl ws H) (isC : List Nat) (hC : isC.filterMap (fun i => ws[i]?) = wc) (q0 ci : Nat) {fs : List Value} (he : ws[q0]? = some (b, .inr (ci, fs))) {q : vw_C} (hc : vwCl[ci]? = some q) (hq : q.1 = C)
    (hl : ls.size = nL) (hn : As.length = n) (hst : st0 = As.reverse ++ .ref b :: rest) (hW : (rest.map fun v => v.category).sum ≤ 8) (hdg : decode cc pc = .ok (.invokevirtual index, 3)) (hcap : cells ≤ R.cells ∧ slots ≤ R.slots)
    (kk : ∀ r : Int32, post r → W p l e R s m args below meth c H locs cells slots Q (F0 m (pc + 3) ls (.int r :: rest))) : W p l e R s m args below meth c H locs cells slots Q (F0 m pc ls st0) :=
  pu_call (va_runVN (As := As) (rest := rest) M.fix hM ⟨va_cnB n M.2.2.2.2.2.1 hT hw rfl rfl hlk (M.2.2.2.2.2.1 _ hin) hd hR, M.2.2.2.2.2.1 _ him, M.2.2.2.2.2.1 _ hse⟩ ⟨PZ_blind, by rw [← hq]; exact va_recv hK hP hc he, fun U hU hW => ⟨rfl, hU, hP.sub isC hC, va_K.moved hW.alike hK, M.2.2.2.2.2.2.2.warm hW⟩⟩ rfl hn hl hst (lv_room hW) hdg hcap) kk
/-- a static call of a nest mate's private method -/
theorem pc_SN {post : Int32 → Prop} {y : MethodName} {wl wl' : List Cond} {rf rl n maxL index : Nat} {bytes : ByteArray} {ret : Option FieldType} {host : String} {As : List Value} {wc : va_W}
    (M : MX p s m args meth c cc nL ret0 own Ts) (hM : cP l y wl rf rl D tys As wc H post) (hT : GoodIn Ts wl) (hw : wl = Cond.code y bytes maxL ret :: wl')
    (hlk : va_Nw (.methodLinkNest own index y host) s) (hin : Cond.initialized y.cls ∈ Ts) (hsm : Cond.static y ∈ Ts)
    (hd : y.cls ≠ "java/lang/invoke/MethodHandle" ∧ y.cls ≠ "java/lang/invoke/VarHandle" ∧ (parseMethodDescriptor y.desc).map (fun d => d.parameters.length) = some n) (hR : rf + 1 ≤ R.frames ∧ 8 + (maxL + 11) + rl ≤ R.locals)
    (hK : va_K D vwCl tys s) (hP : va_P D vwCl ws H) (isC : List Nat) (hC : isC.filterMap (fun i => ws[i]?) = wc)
    (hl : ls.size = nL) (hn : As.length = n) (hst : st0 = As.reverse ++ rest) (hW : (rest.map fun v => v.category).sum ≤ 8) (hdg : decode cc pc = .ok (.invokestatic index, 3)) (hcap : cells ≤ R.cells ∧ slots ≤ R.slots)
    (kk : ∀ r : Int32, post r → W p l e R s m args below meth c H locs cells slots Q (F0 m (pc + 3) ls (.int r :: rest))) : W p l e R s m args below meth c H locs cells slots Q (F0 m pc ls st0) :=
  pu_call (va_runSN (As := As) (rest := rest) M.fix hM ⟨va_cnB n M.2.2.2.2.2.1 hT hw rfl rfl hlk (M.2.2.2.2.2.1 _ hin) hd hR, M.2.2.2.2.2.1 _ hsm, trivial⟩ ⟨PZ_blind, fun U hU hW => ⟨rfl, hU, hP.sub isC hC, va_K.moved hW.alike hK, M.2.2.2.2.2.2.2.warm hW⟩⟩ rfl hn hl hst (lv_room hW) hdg hcap) kk
end ZC
/-! ===== contracts of methods that write ===== -/
def PZD (D : va_G) (tys : List (ClassId × FieldType)) (ws : va_W) (Hp : Heap) : State → Prop := fun U => U.heap = Hp ∧ va_P D vwCl ws Hp ∧ va_K D vwCl tys U ∧ NW U ∧ va_D (fun _ => True) ws
theorem PZD_blind {D : va_G} {tys : List (ClassId × FieldType)} {ws : va_W} {Hp : Heap} {av : List Value} : FrameBlind (va_Pc av (PZD D tys ws Hp)) :=
  fun a U g mk q => ⟨q.1, q.2.1, q.2.2.1, va_K.moved (u := U) (U := U.calling g mk a) (Vm.Alike.refl U.vm) q.2.2.2.1, q.2.2.2.2.1.same (u := U) (U := U.calling g mk a) rfl, q.2.2.2.2.2⟩
abbrev rmW (rf mc ms rl : Nat) : Room := { frames := rf, cells := mc, slots := ms, locals := rl }
def Qwi {S : Type} (A : Nat → Prop) (D : va_G) (post : Int32 → S → Prop) (w1 : S → va_W) : Array Value → State → Outcome → State → Prop := va_Qi post (fun u t => va_P D vwCl (w1 u) t.heap ∧ va_D A (w1 u)) A
def Qwv {S : Type} (A : Nat → Prop) (D : va_G) (post : S → Prop) (w1 : S → va_W) : Array Value → State → Outcome → State → Prop := va_Qv post (fun u t => va_P D vwCl (w1 u) t.heap ∧ va_D A (w1 u)) A
/-- a method that writes, and answers an int -/
def cWi {S : Type} (l : Launch) (y : MethodName) (wl : List Cond) (rm : Room) (D : va_G) (tys : List (ClassId × FieldType)) (av : List Value) (ws : va_W) (Hp : Heap) (post : Int32 → S → Prop) (w1 : S → va_W) (mc ms : Nat) : Prop :=
  Met l y wl rm (va_Pc av (PZD D tys ws Hp)) (Qwi (va_A ws Hp.size) D post w1) mc ms (va_A ws Hp.size)
/-- a method that writes, and answers nothing -/
def cWv {S : Type} (l : Launch) (y : MethodName) (wl : List Cond) (rm : Room) (D : va_G) (tys : List (ClassId × FieldType)) (av : List Value) (ws : va_W) (Hp : Heap) (post : S → Prop) (w1 : S → va_W) (mc ms : Nat) : Prop :=
  Met l y wl rm (va_Pc av (PZD D tys ws Hp)) (Qwv (va_A ws Hp.size) D post w1) mc ms (va_A ws Hp.size)
abbrev QWi {S : Type} (below : List Frame) (args : Array Value) (s : State) (A : Nat → Prop) (D : va_G) (post : Int32 → S → Prop) (w1 : S → va_W) (mc ms : Nat) : State → Prop := MQ below (Qwi A D post w1) args s mc ms A
abbrev QWv {S : Type} (below : List Frame) (args : Array Value) (s : State) (A : Nat → Prop) (D : va_G) (post : S → Prop) (w1 : S → va_W) (mc ms : Nat) : State → Prop := MQ below (Qwv A D post w1) args s mc ms A
theorem wr_starti {S : Type} {l : Launch} {y : MethodName} {wl wl' : List Cond} {rm : Room} {maxL mc ms : Nat} {D : va_G} {tys : List (ClassId × FieldType)} {av : List Value} {ws : va_W} {Hp : Heap} {post : Int32 → S → Prop} {w1 : S → va_W} {cc : ByteArray} {ret : Option FieldType}
    (hy : plainName y.cls = true) (hw : wl = Cond.code y cc maxL ret :: wl') (hlen : (lg_sl av).length ≤ maxL)
    (body : ∀ (p : Program) (e : Env) (s : State) (m : MethodId) (args : Array Value) (below : List Frame) (meth : Method) (c : Code) (ls : Array Slot) (A : Nat → Prop), MX p s m args meth c cc maxL ret y.cls wl → va_P D vwCl ws s.heap → va_D A ws → va_S A s.heap s.heap [] → (∀ q : Nat, s.heap.size ≤ q → A q) → va_K D vwCl tys s → lv_has ls maxL (lv_args 0 av) →
      W p l e rm s m args below meth c s.heap [] 0 0 (QWi below args s A D post w1 mc ms) (F0 m 0 ls [])) : cWi l y wl rm D tys av ws Hp post w1 mc ms := by
  refine Met.ofW (cc := cc) (maxL := maxL) (ret := ret) hy hw ?_
  intro p e s m args below meth c s₁ B hml hv
  obtain ⟨rfl, hH, hP, hK, hNw, hD0⟩ := hv
  subst hH
  have hl := lv_entry av (n := maxL) hlen
  rw [lg_entry_eq]
  exact body p e s m av.toArray below meth c _ _ ⟨B.exec, B.bytes, B.returns, hml, findClass_of_methodNamed B.named, atoms_spec (ws := wl) B.pre, B.notSynchronized, hNw⟩ hP hD0.self va_S.rf (fun q h => Or.inr h) hK hl
theorem wr_startv {S : Type} {l : Launch} {y : MethodName} {wl wl' : List Cond} {rm : Room} {maxL mc ms : Nat} {D : va_G} {tys : List (ClassId × FieldType)} {av : List Value} {ws : va_W} {Hp : Heap} {post : S → Prop} {w1 : S → va_W} {cc : ByteArray} {ret : Option FieldType}
    (hy : plainName y.cls = true) (hw : wl = Cond.code y cc maxL ret :: wl') (hlen : (lg_sl av).length ≤ maxL)
    (body : ∀ (p : Program) (e : Env) (s : State) (m : MethodId) (args : Array Value) (below : List Frame) (meth : Method) (c : Code) (ls : Array Slot) (A : Nat → Prop), MX p s m args meth c cc maxL ret y.cls wl → va_P D vwCl ws s.heap → va_D A ws → va_S A s.heap s.heap [] → (∀ q : Nat, s.heap.size ≤ q → A q) → va_K D vwCl tys s → lv_has ls maxL (lv_args 0 av) →
      W p l e rm s m args below meth c s.heap [] 0 0 (QWv below args s A D post w1 mc ms) (F0 m 0 ls [])) : cWv l y wl rm D tys av ws Hp post w1 mc ms := by
  refine Met.ofW (cc := cc) (maxL := maxL) (ret := ret) hy hw ?_
  intro p e s m args below meth c s₁ B hml hv
  obtain ⟨rfl, hH, hP, hK, hNw, hD0⟩ := hv
  subst hH
  have hl := lv_entry av (n := maxL) hlen
  rw [lg_entry_eq]
  exact body p e s m av.toArray below meth c _ _ ⟨B.exec, B.bytes, B.returns, hml, findClass_of_methodNamed B.named, atoms_spec (ws := wl) B.pre, B.notSynchronized, hNw⟩ hP hD0.self va_S.rf (fun q h => Or.inr h) hK hl
theorem fm_of_map {α : Type} {is : List Nat} {ws ws' : List α} (h : is.map (fun i => ws[i]?) = ws'.map some) : is.filterMap (fun i => ws[i]?) = ws' := by
  have h2 : (is.map (fun i => ws[i]?)).filterMap id = ws' := by
    rw [h, List.filterMap_map]
    simp
  rw [List.filterMap_map] at h2
  simpa using h2
section ZW
variable {p : Program} {l : Launch} {e : Env} {R : Room} {s : State} {m : MethodId} {args : Array Value} {below : List Frame} {meth : Method} {c : Code} {H : Heap} {locs : List Loc} {cells slots : Nat} {Q : State → Prop}
variable {cc : ByteArray} {pc nL : Nat} {ret0 : Option FieldType} {own : String} {Ts : List Cond} {ls : Array Slot} {rest st0 : List Value}
variable {D : va_G} {tys : List (ClassId × FieldType)} {ws wc wr : va_W} {A : Nat → Prop} {S : Type} {w1 ws' : S → va_W} {mc ms : Nat}
theorem wr_reti {post : Int32 → S → Prop} {v : Int32} {u : S} (M : MX p s m args meth c cc nL (some .int) own Ts) (hd : decode cc pc = .ok (.ireturn, 1)) (hp : post v u) (hP : va_P D vwCl (w1 u) H) (hD : va_D A (w1 u)) (hS : va_S A s.heap H locs) :
    W p l e R s m args below meth c H locs mc ms (QWi below args s A D post w1 mc ms) (F0 m pc ls [.int v]) :=
  W.iret M.1 M.2.1 M.2.2.1 (fun t ht _ => ⟨⟨v, u, rfl, hp, by rw [ht]; exact hP, hD⟩, hS.F ht⟩) hS.2.2 hd M.2.2.2.2.2.2.1
theorem wr_retz {post : Int32 → S → Prop} {v : Int32} {u : S} {ty : FieldType} (M : MX p s m args meth c cc nL (some ty) own Ts) (hn : narrow ty (.int v) = .int v) (hd : decode cc pc = .ok (.ireturn, 1)) (hp : post v u) (hP : va_P D vwCl (w1 u) H) (hD : va_D A (w1 u)) (hS : va_S A s.heap H locs) :
    W p l e R s m args below meth c H locs mc ms (QWi below args s A D post w1 mc ms) (F0 m pc ls [.int v]) :=
  W.zret M.1 M.2.1 M.2.2.1 hn (fun t ht _ => ⟨⟨v, u, rfl, hp, by rw [ht]; exact hP, hD⟩, hS.F ht⟩) hS.2.2 hd M.2.2.2.2.2.2.1
theorem wr_retv {post : S → Prop} {u : S} (M : MX p s m args meth c cc nL none own Ts) (hd : decode cc pc = .ok (.return_, 1)) (hp : post u) (hP : va_P D vwCl (w1 u) H) (hD : va_D A (w1 u)) (hS : va_S A s.heap H locs) :
    W p l e R s m args below meth c H locs mc ms (QWv below args s A D post w1 mc ms) (F0 m pc ls []) :=
  W.vret M.1 M.2.1 M.2.2.1 (fun t ht _ => ⟨⟨u, rfl, hp, by rw [ht]; exact hP, hD⟩, hS.F ht⟩) hS.2.2 hd M.2.2.2.2.2.2.1
theorem wr_calli {post : Int32 → S → Prop} {aa : Array Value} (hr : va_Run p l e R s m args below meth c H locs cells slots 0 0 (F0 m pc ls st0) rest (Qwi (va_A wc H.size) D post w1 aa) (va_A wc H.size))
    (hP : va_P D vwCl ws H) (hD : va_D A ws) (hS : va_S A s.heap H locs) (hA : ∀ q : Nat, s.heap.size ≤ q → A q) (isC isR perm : List Nat) (hC : isC.map (fun i => ws[i]?) = wc.map some) (hR : isR.map (fun i => ws[i]?) = wr.map some) (hn : va_nd isR = true) (hdis : ∀ i ∈ isR, i ∉ isC) (hpn : va_nd perm = true) (hperm : ∀ u : S, perm.map (fun i => (wr ++ w1 u)[i]?) = (ws' u).map some)
    (kk : ∀ (r : Int32) (u : S) (H1 : Heap) (locs1 : List Loc), post r u → va_P D vwCl (ws' u) H1 → va_D A (ws' u) → va_S A s.heap H1 locs1 → W p l e R s m args below meth c H1 locs1 cells slots Q (F0 m (pc + 3) ls (.int r :: rest))) : W p l e R s m args below meth c H locs cells slots Q (F0 m pc ls st0) := by
  have hF := va_free (wc := wc) hD hS hA isC hC
  refine va_calli hr hS (fun q _ h => hF q h) hF (fun r u t H1 locs1 ht hvm hp hB hz hk hS1 => ?_)
  obtain ⟨hP1, hD1⟩ := hB
  rw [ht] at hP1
  obtain ⟨hP2, hD2⟩ := va_join (wr := wr) (w1 := w1 u) hP hD isC isR hC hR hn hdis hk hF hP1 hD1
  exact kk r u H1 locs1 hp (hP2.sub perm (fm_of_map (hperm u))) (hD2.sub perm hpn (hperm u)) hS1
theorem wr_callv {post : S → Prop} {aa : Array Value} (hr : va_Run p l e R s m args below meth c H locs cells slots 0 0 (F0 m pc ls st0) rest (Qwv (va_A wc H.size) D post w1 aa) (va_A wc H.size))
    (hP : va_P D vwCl ws H) (hD : va_D A ws) (hS : va_S A s.heap H locs) (hA : ∀ q : Nat, s.heap.size ≤ q → A q) (isC isR perm : List Nat) (hC : isC.map (fun i => ws[i]?) = wc.map some) (hR : isR.map (fun i => ws[i]?) = wr.map some) (hn : va_nd isR = true) (hdis : ∀ i ∈ isR, i ∉ isC) (hpn : va_nd perm = true) (hperm : ∀ u : S, perm.map (fun i => (wr ++ w1 u)[i]?) = (ws' u).map some)
    (kk : ∀ (u : S) (H1 : Heap) (locs1 : List Loc), post u → va_P D vwCl (ws' u) H1 → va_D A (ws' u) → va_S A s.heap H1 locs1 → W p l e R s m args below meth c H1 locs1 cells slots Q (F0 m (pc + 3) ls rest)) : W p l e R s m args below meth c H locs cells slots Q (F0 m pc ls st0) := by
  have hF := va_free (wc := wc) hD hS hA isC hC
  refine va_callv hr hS (fun q _ h => hF q h) hF (fun u t H1 locs1 ht hvm hp hB hz hk hS1 => ?_)
  obtain ⟨hP1, hD1⟩ := hB
  rw [ht] at hP1
  obtain ⟨hP2, hD2⟩ := va_join (wr := wr) (w1 := w1 u) hP hD isC isR hC hR hn hdis hk hF hP1 hD1
  exact kk u H1 locs1 hp (hP2.sub perm (fm_of_map (hperm u))) (hD2.sub perm hpn (hperm u)) hS1
theorem wc_Vi {post : Int32 → S → Prop} {y : MethodName} {wl wl' : List Cond} {rf rl n maxL index : Nat} {bytes : ByteArray} {ret : Option FieldType} {C : String} {b : Nat} {As : List Value}
    (M : MX p s m args meth c cc nL ret0 own Ts) (hM : cWi l y wl (rmW rf 0 0 rl) D tys (.ref b :: As) wc H post w1 0 0) (hT : GoodIn Ts (wsV own index C y wl)) (hw : wl = Cond.code y bytes maxL ret :: wl') (hd : y.cls = C ∧ y.cls ≠ "java/lang/invoke/MethodHandle" ∧ y.cls ≠ "java/lang/invoke/VarHandle" ∧ (parseMethodDescriptor y.desc).map (fun d => d.parameters.length) = some n) (hR0 : rf + 1 ≤ R.frames ∧ 8 + (maxL + 11) + rl ≤ R.locals)
    (hK : va_K D vwCl tys s) (hP : va_P D vwCl ws H) (hD : va_D A ws) (hS : va_S A s.heap H locs) (hA : ∀ q : Nat, s.heap.size ≤ q → A q) (isC isR perm : List Nat) (hC : isC.map (fun i => ws[i]?) = wc.map some) (hR : isR.map (fun i => ws[i]?) = wr.map some) (hn1 : va_nd isR = true) (hdis : ∀ i ∈ isR, i ∉ isC) (hpn : va_nd perm = true) (hperm : ∀ u : S, perm.map (fun i => (wr ++ w1 u)[i]?) = (ws' u).map some) (q0 ci : Nat) {fs : List Value} (he : ws[q0]? = some (b, .inr (ci, fs))) {q : vw_C} (hc : vwCl[ci]? = some q) (hq : q.1 = C)
    (hl : ls.size = nL) (hn : As.length = n) (hst : st0 = As.reverse ++ .ref b :: rest) (hW : (rest.map fun v => v.category).sum ≤ 8) (hdg : decode cc pc = .ok (.invokevirtual index, 3)) (hcap : cells ≤ R.cells ∧ slots ≤ R.slots) (hnC : va_nd isC = true)
    (kk : ∀ (r : Int32) (u : S) (H1 : Heap) (locs1 : List Loc), post r u → va_P D vwCl (ws' u) H1 → va_D A (ws' u) → va_S A s.heap H1 locs1 → W p l e R s m args below meth c H1 locs1 cells slots Q (F0 m (pc + 3) ls (.int r :: rest))) : W p l e R s m args below meth c H locs cells slots Q (F0 m pc ls st0) :=
  wr_calli (wc := wc) (va_runV (As := As) (rest := rest) M.fix hM (cwV n M.2.2.2.2.2.1 hT hw rfl rfl hd hR0) ⟨PZD_blind, by rw [← hq]; exact va_recv hK hP hc he, fun U hU hW => ⟨rfl, hU, hP.sub isC (fm_of_map hC), va_K.moved hW.alike hK, M.2.2.2.2.2.2.2.warm hW, (hD.sub isC (hnC) hC).weaken (fun _ _ _ _ => trivial)⟩⟩ rfl hn hl hst (lv_room hW) hdg hcap) hP hD hS hA isC isR perm hC hR hn1 hdis hpn hperm kk
theorem wc_Vv {post : S → Prop} {y : MethodName} {wl wl' : List Cond} {rf rl n maxL index : Nat} {bytes : ByteArray} {ret : Option FieldType} {C : String} {b : Nat} {As : List Value}
    (M : MX p s m args meth c cc nL ret0 own Ts) (hM : cWv l y wl (rmW rf 0 0 rl) D tys (.ref b :: As) wc H post w1 0 0) (hT : GoodIn Ts (wsV own index C y wl)) (hw : wl = Cond.code y bytes maxL ret :: wl') (hd : y.cls = C ∧ y.cls ≠ "java/lang/invoke/MethodHandle" ∧ y.cls ≠ "java/lang/invoke/VarHandle" ∧ (parseMethodDescriptor y.desc).map (fun d => d.parameters.length) = some n) (hR0 : rf + 1 ≤ R.frames ∧ 8 + (maxL + 11) + rl ≤ R.locals)
    (hK : va_K D vwCl tys s) (hP : va_P D vwCl ws H) (hD : va_D A ws) (hS : va_S A s.heap H locs) (hA : ∀ q : Nat, s.heap.size ≤ q → A q) (isC isR perm : List Nat) (hC : isC.map (fun i => ws[i]?) = wc.map some) (hR : isR.map (fun i => ws[i]?) = wr.map some) (hn1 : va_nd isR = true) (hdis : ∀ i ∈ isR, i ∉ isC) (hpn : va_nd perm = true) (hperm : ∀ u : S, perm.map (fun i => (wr ++ w1 u)[i]?) = (ws' u).map some) (q0 ci : Nat) {fs : List Value} (he : ws[q0]? = some (b, .inr (ci, fs))) {q : vw_C} (hc : vwCl[ci]? = some q) (hq : q.1 = C)
    (hl : ls.size = nL) (hn : As.length = n) (hst : st0 = As.reverse ++ .ref b :: rest) (hW : (rest.map fun v => v.category).sum ≤ 8) (hdg : decode cc pc = .ok (.invokevirtual index, 3)) (hcap : cells ≤ R.cells ∧ slots ≤ R.slots) (hnC : va_nd isC = true)
    (kk : ∀ (u : S) (H1 : Heap) (locs1 : List Loc), post u → va_P D vwCl (ws' u) H1 → va_D A (ws' u) → va_S A s.heap H1 locs1 → W p l e R s m args below meth c H1 locs1 cells slots Q (F0 m (pc + 3) ls rest)) : W p l e R s m args below meth c H locs cells slots Q (F0 m pc ls st0) :=
  wr_callv (wc := wc) (va_runV (As := As) (rest := rest) M.fix hM (cwV n M.2.2.2.2.2.1 hT hw rfl rfl hd hR0) ⟨PZD_blind, by rw [← hq]; exact va_recv hK hP hc he, fun U hU hW => ⟨rfl, hU, hP.sub isC (fm_of_map hC), va_K.moved hW.alike hK, M.2.2.2.2.2.2.2.warm hW, (hD.sub isC (hnC) hC).weaken (fun _ _ _ _ => trivial)⟩⟩ rfl hn hl hst (lv_room hW) hdg hcap) hP hD hS hA isC isR perm hC hR hn1 hdis hpn hperm kk
theorem wc_VNi {post : Int32 → S → Prop} {y : MethodName} {wl wl' : List Cond} {rf rl n maxL index : Nat} {bytes : ByteArray} {ret : Option FieldType} {C host : String} {b : Nat} {As : List Value}
    (M : MX p s m args meth c cc nL ret0 own Ts) (hM : cWi l y wl (rmW rf 0 0 rl) D tys (.ref b :: As) wc H post w1 0 0) (hT : GoodIn Ts wl) (hw : wl = Cond.code y bytes maxL ret :: wl') (hlk : va_Nw (.methodLinkNest own index y host) s) (hin : Cond.initialized y.cls ∈ Ts) (him : Cond.instanceMethod y ∈ Ts) (hse : Cond.selects C y y ∈ Ts) (hd : y.cls ≠ "java/lang/invoke/MethodHandle" ∧ y.cls ≠ "java/lang/invoke/VarHandle" ∧ (parseMethodDescriptor y.desc).map (fun d => d.parameters.length) = some n) (hR0 : rf + 1 ≤ R.frames ∧ 8 + (maxL + 11) + rl ≤ R.locals)
    (hK : va_K D vwCl tys s) (hP : va_P D vwCl ws H) (hD : va_D A ws) (hS : va_S A s.heap H locs) (hA : ∀ q : Nat, s.heap.size ≤ q → A q) (isC isR perm : List Nat) (hC : isC.map (fun i => ws[i]?) = wc.map some) (hR : isR.map (fun i => ws[i]?) = wr.map some) (hn1 : va_nd isR = true) (hdis : ∀ i ∈ isR, i ∉ isC) (hpn : va_nd perm = true) (hperm : ∀ u : S, perm.map (fun i => (wr ++ w1 u)[i]?) = (ws' u).map some) (q0 ci : Nat) {fs : List Value} (he : ws[q0]? = some (b, .inr (ci, fs))) {q : vw_C} (hc : vwCl[ci]? = some q) (hq : q.1 = C)
    (hl : ls.size = nL) (hn : As.length = n) (hst : st0 = As.reverse ++ .ref b :: rest) (hW : (rest.map fun v => v.category).sum ≤ 8) (hdg : decode cc pc = .ok (.invokevirtual index, 3)) (hcap : cells ≤ R.cells ∧ slots ≤ R.slots) (hnC : va_nd isC = true)
    (kk : ∀ (r : Int32) (u : S) (H1 : Heap) (locs1 : List Loc), post r u → va_P D vwCl (ws' u) H1 → va_D A (ws' u) → va_S A s.heap H1 locs1 → W p l e R s m args below meth c H1 locs1 cells slots Q (F0 m (pc + 3) ls (.int r :: rest))) : W p l e R s m args below meth c H locs cells slots Q (F0 m pc ls st0) :=
  wr_calli (wc := wc) (va_runVN (As := As) (rest := rest) M.fix hM ⟨va_cnB n M.2.2.2.2.2.1 hT hw rfl rfl hlk (M.2.2.2.2.2.1 _ hin) hd hR0, M.2.2.2.2.2.1 _ him, M.2.2.2.2.2.1 _ hse⟩ ⟨PZD_blind, by rw [← hq]; exact va_recv hK hP hc he, fun U hU hW => ⟨rfl, hU, hP.sub isC (fm_of_map hC), va_K.moved hW.alike hK, M.2.2.2.2.2.2.2.warm hW, (hD.sub isC (hnC) hC).weaken (fun _ _ _ _ => trivial)⟩⟩ rfl hn hl hst (lv_room hW) hdg hcap) hP hD hS hA isC isR perm hC hR hn1 hdis hpn hperm kk
theorem wc_VNv {post : S → Prop} {y : MethodName} {wl wl' : List Cond} {rf rl n maxL index : Nat} {bytes : ByteArray} {ret : Option FieldType} {C host : String} {b : Nat} {As : List Value}
    (M : MX p s m args meth c cc nL ret0 own Ts) (hM : cWv l y wl (rmW rf 0 0 rl) D tys (.ref b :: As) wc H post w1 0 0) (hT : GoodIn Ts wl) (hw : wl = Cond.code y bytes maxL ret :: wl') (hlk : va_Nw (.methodLinkNest own index y host) s) (hin : Cond.initialized y.cls ∈ Ts) (him : Cond.instanceMethod y ∈ Ts) (hse : Cond.selects C y y ∈ Ts) (hd : y.cls ≠ "java/lang/invoke/MethodHandle" ∧ y.cls ≠ "java/lang/invoke/VarHandle" ∧ (parseMethodDescriptor y.desc).map (fun d => d.parameters.length) = some n) (hR0 : rf + 1 ≤ R.frames ∧ 8 + (maxL + 11) + rl ≤ R.locals)
    (hK : va_K D vwCl tys s) (hP : va_P D vwCl ws H) (hD : va_D A ws) (hS : va_S A s.heap H locs) (hA : ∀ q : Nat, s.heap.size ≤ q → A q) (isC isR perm : List Nat) (hC : isC.map (fun i => ws[i]?) = wc.map some) (hR : isR.map (fun i => ws[i]?) = wr.map some) (hn1 : va_nd isR = true) (hdis : ∀ i ∈ isR, i ∉ isC) (hpn : va_nd perm = true) (hperm : ∀ u : S, perm.map (fun i => (wr ++ w1 u)[i]?) = (ws' u).map some) (q0 ci : Nat) {fs : List Value} (he : ws[q0]? = some (b, .inr (ci, fs))) {q : vw_C} (hc : vwCl[ci]? = some q) (hq : q.1 = C)
    (hl : ls.size = nL) (hn : As.length = n) (hst : st0 = As.reverse ++ .ref b :: rest) (hW : (rest.map fun v => v.category).sum ≤ 8) (hdg : decode cc pc = .ok (.invokevirtual index, 3)) (hcap : cells ≤ R.cells ∧ slots ≤ R.slots) (hnC : va_nd isC = true)
    (kk : ∀ (u : S) (H1 : Heap) (locs1 : List Loc), post u → va_P D vwCl (ws' u) H1 → va_D A (ws' u) → va_S A s.heap H1 locs1 → W p l e R s m args below meth c H1 locs1 cells slots Q (F0 m (pc + 3) ls rest)) : W p l e R s m args below meth c H locs cells slots Q (F0 m pc ls st0) :=
  wr_callv (wc := wc) (va_runVN (As := As) (rest := rest) M.fix hM ⟨va_cnB n M.2.2.2.2.2.1 hT hw rfl rfl hlk (M.2.2.2.2.2.1 _ hin) hd hR0, M.2.2.2.2.2.1 _ him, M.2.2.2.2.2.1 _ hse⟩ ⟨PZD_blind, by rw [← hq]; exact va_recv hK hP hc he, fun U hU hW => ⟨rfl, hU, hP.sub isC (fm_of_map hC), va_K.moved hW.alike hK, M.2.2.2.2.2.2.2.warm hW, (hD.sub isC (hnC) hC).weaken (fun _ _ _ _ => trivial)⟩⟩ rfl hn hl hst (lv_room hW) hdg hcap) hP hD hS hA isC isR perm hC hR hn1 hdis hpn hperm kk
theorem wc_Si {post : Int32 → S → Prop} {y : MethodName} {wl wl' : List Cond} {rf rl n maxL index : Nat} {bytes : ByteArray} {ret : Option FieldType} {As : List Value}
    (M : MX p s m args meth c cc nL ret0 own Ts) (hM : cWi l y wl (rmW rf 0 0 rl) D tys As wc H post w1 0 0) (hT : GoodIn Ts (va_wsS own index y wl)) (hw : wl = Cond.code y bytes maxL ret :: wl') (hd : y.cls ≠ "java/lang/invoke/MethodHandle" ∧ y.cls ≠ "java/lang/invoke/VarHandle" ∧ (parseMethodDescriptor y.desc).map (fun d => d.parameters.length) = some n) (hR0 : rf + 1 ≤ R.frames ∧ 8 + (maxL + 11) + rl ≤ R.locals)
    (hK : va_K D vwCl tys s) (hP : va_P D vwCl ws H) (hD : va_D A ws) (hS : va_S A s.heap H locs) (hA : ∀ q : Nat, s.heap.size ≤ q → A q) (isC isR perm : List Nat) (hC : isC.map (fun i => ws[i]?) = wc.map some) (hR : isR.map (fun i => ws[i]?) = wr.map some) (hn1 : va_nd isR = true) (hdis : ∀ i ∈ isR, i ∉ isC) (hpn : va_nd perm = true) (hperm : ∀ u : S, perm.map (fun i => (wr ++ w1 u)[i]?) = (ws' u).map some)
    (hl : ls.size = nL) (hn : As.length = n) (hst : st0 = As.reverse ++ rest) (hW : (rest.map fun v => v.category).sum ≤ 8) (hdg : decode cc pc = .ok (.invokestatic index, 3)) (hcap : cells ≤ R.cells ∧ slots ≤ R.slots) (hnC : va_nd isC = true)
    (kk : ∀ (r : Int32) (u : S) (H1 : Heap) (locs1 : List Loc), post r u → va_P D vwCl (ws' u) H1 → va_D A (ws' u) → va_S A s.heap H1 locs1 → W p l e R s m args below meth c H1 locs1 cells slots Q (F0 m (pc + 3) ls (.int r :: rest))) : W p l e R s m args below meth c H locs cells slots Q (F0 m pc ls st0) :=
  wr_calli (wc := wc) (va_runS (As := As) (rest := rest) M.fix hM (va_cwS n M.2.2.2.2.2.1 hT hw rfl rfl hd hR0) ⟨PZD_blind, fun U hU hW => ⟨rfl, hU, hP.sub isC (fm_of_map hC), va_K.moved hW.alike hK, M.2.2.2.2.2.2.2.warm hW, (hD.sub isC (hnC) hC).weaken (fun _ _ _ _ => trivial)⟩⟩ rfl hn hl hst (lv_room hW) hdg hcap) hP hD hS hA isC isR perm hC hR hn1 hdis hpn hperm kk
theorem wc_Sv {post : S → Prop} {y : MethodName} {wl wl' : List Cond} {rf rl n maxL index : Nat} {bytes : ByteArray} {ret : Option FieldType} {As : List Value}
    (M : MX p s m args meth c cc nL ret0 own Ts) (hM : cWv l y wl (rmW rf 0 0 rl) D tys As wc H post w1 0 0) (hT : GoodIn Ts (va_wsS own index y wl)) (hw : wl = Cond.code y bytes maxL ret :: wl') (hd : y.cls ≠ "java/lang/invoke/MethodHandle" ∧ y.cls ≠ "java/lang/invoke/VarHandle" ∧ (parseMethodDescriptor y.desc).map (fun d => d.parameters.length) = some n) (hR0 : rf + 1 ≤ R.frames ∧ 8 + (maxL + 11) + rl ≤ R.locals)
    (hK : va_K D vwCl tys s) (hP : va_P D vwCl ws H) (hD : va_D A ws) (hS : va_S A s.heap H locs) (hA : ∀ q : Nat, s.heap.size ≤ q → A q) (isC isR perm : List Nat) (hC : isC.map (fun i => ws[i]?) = wc.map some) (hR : isR.map (fun i => ws[i]?) = wr.map some) (hn1 : va_nd isR = true) (hdis : ∀ i ∈ isR, i ∉ isC) (hpn : va_nd perm = true) (hperm : ∀ u : S, perm.map (fun i => (wr ++ w1 u)[i]?) = (ws' u).map some)
    (hl : ls.size = nL) (hn : As.length = n) (hst : st0 = As.reverse ++ rest) (hW : (rest.map fun v => v.category).sum ≤ 8) (hdg : decode cc pc = .ok (.invokestatic index, 3)) (hcap : cells ≤ R.cells ∧ slots ≤ R.slots) (hnC : va_nd isC = true)
    (kk : ∀ (u : S) (H1 : Heap) (locs1 : List Loc), post u → va_P D vwCl (ws' u) H1 → va_D A (ws' u) → va_S A s.heap H1 locs1 → W p l e R s m args below meth c H1 locs1 cells slots Q (F0 m (pc + 3) ls rest)) : W p l e R s m args below meth c H locs cells slots Q (F0 m pc ls st0) :=
  wr_callv (wc := wc) (va_runS (As := As) (rest := rest) M.fix hM (va_cwS n M.2.2.2.2.2.1 hT hw rfl rfl hd hR0) ⟨PZD_blind, fun U hU hW => ⟨rfl, hU, hP.sub isC (fm_of_map hC), va_K.moved hW.alike hK, M.2.2.2.2.2.2.2.warm hW, (hD.sub isC (hnC) hC).weaken (fun _ _ _ _ => trivial)⟩⟩ rfl hn hl hst (lv_room hW) hdg hcap) hP hD hS hA isC isR perm hC hR hn1 hdis hpn hperm kk
theorem wc_SNi {post : Int32 → S → Prop} {y : MethodName} {wl wl' : List Cond} {rf rl n maxL index : Nat} {bytes : ByteArray} {ret : Option FieldType} {host : String} {As : List Value}
    (M : MX p s m args meth c cc nL ret0 own Ts) (hM : cWi l y wl (rmW rf 0 0 rl) D tys As wc H post w1 0 0) (hT : GoodIn Ts wl) (hw : wl = Cond.code y bytes maxL ret :: wl') (hlk : va_Nw (.methodLinkNest own index y host) s) (hin : Cond.initialized y.cls ∈ Ts) (hsm : Cond.static y ∈ Ts) (hd : y.cls ≠ "java/lang/invoke/MethodHandle" ∧ y.cls ≠ "java/lang/invoke/VarHandle" ∧ (parseMethodDescriptor y.desc).map (fun d => d.parameters.length) = some n) (hR0 : rf + 1 ≤ R.frames ∧ 8 + (maxL + 11) + rl ≤ R.locals)
    (hK : va_K D vwCl tys s) (hP : va_P D vwCl ws H) (hD : va_D A ws) (hS : va_S A s.heap H locs) (hA : ∀ q : Nat, s.heap.size ≤ q → A q) (isC isR perm : List Nat) (hC : isC.map (fun i => ws[i]?) = wc.map some) (hR : isR.map (fun i => ws[i]?) = wr.map some) (hn1 : va_nd isR = true) (hdis : ∀ i ∈ isR, i ∉ isC) (hpn : va_nd perm = true) (hperm : ∀ u : S, perm.map (fun i => (wr ++ w1 u)[i]?) = (ws' u).map some)
    (hl : ls.size = nL) (hn : As.length = n) (hst : st0 = As.reverse ++ rest) (hW : (rest.map fun v => v.category).sum ≤ 8) (hdg : decode cc pc = .ok (.invokestatic index, 3)) (hcap : cells ≤ R.cells ∧ slots ≤ R.slots) (hnC : va_nd isC = true)
    (kk : ∀ (r : Int32) (u : S) (H1 : Heap) (locs1 : List Loc), post r u → va_P D vwCl (ws' u) H1 → va_D A (ws' u) → va_S A s.heap H1 locs1 → W p l e R s m args below meth c H1 locs1 cells slots Q (F0 m (pc + 3) ls (.int r :: rest))) : W p l e R s m args below meth c H locs cells slots Q (F0 m pc ls st0) :=
  wr_calli (wc := wc) (va_runSN (As := As) (rest := rest) M.fix hM ⟨va_cnB n M.2.2.2.2.2.1 hT hw rfl rfl hlk (M.2.2.2.2.2.1 _ hin) hd hR0, M.2.2.2.2.2.1 _ hsm, trivial⟩ ⟨PZD_blind, fun U hU hW => ⟨rfl, hU, hP.sub isC (fm_of_map hC), va_K.moved hW.alike hK, M.2.2.2.2.2.2.2.warm hW, (hD.sub isC (hnC) hC).weaken (fun _ _ _ _ => trivial)⟩⟩ rfl hn hl hst (lv_room hW) hdg hcap) hP hD hS hA isC isR perm hC hR hn1 hdis hpn hperm kk
theorem wc_SNv {post : S → Prop} {y : MethodName} {wl wl' : List Cond} {rf rl n maxL index : Nat} {bytes : ByteArray} {ret : Option FieldType} {host : String} {As : List Value}
    (M : MX p s m args meth c cc nL ret0 own Ts) (hM : cWv l y wl (rmW rf 0 0 rl) D tys As wc H post w1 0 0) (hT : GoodIn Ts wl) (hw : wl = Cond.code y bytes maxL ret :: wl') (hlk : va_Nw (.methodLinkNest own index y host) s) (hin : Cond.initialized y.cls ∈ Ts) (hsm : Cond.static y ∈ Ts) (hd : y.cls ≠ "java/lang/invoke/MethodHandle" ∧ y.cls ≠ "java/lang/invoke/VarHandle" ∧ (parseMethodDescriptor y.desc).map (fun d => d.parameters.length) = some n) (hR0 : rf + 1 ≤ R.frames ∧ 8 + (maxL + 11) + rl ≤ R.locals)
    (hK : va_K D vwCl tys s) (hP : va_P D vwCl ws H) (hD : va_D A ws) (hS : va_S A s.heap H locs) (hA : ∀ q : Nat, s.heap.size ≤ q → A q) (isC isR perm : List Nat) (hC : isC.map (fun i => ws[i]?) = wc.map some) (hR : isR.map (fun i => ws[i]?) = wr.map some) (hn1 : va_nd isR = true) (hdis : ∀ i ∈ isR, i ∉ isC) (hpn : va_nd perm = true) (hperm : ∀ u : S, perm.map (fun i => (wr ++ w1 u)[i]?) = (ws' u).map some)
    (hl : ls.size = nL) (hn : As.length = n) (hst : st0 = As.reverse ++ rest) (hW : (rest.map fun v => v.category).sum ≤ 8) (hdg : decode cc pc = .ok (.invokestatic index, 3)) (hcap : cells ≤ R.cells ∧ slots ≤ R.slots) (hnC : va_nd isC = true)
    (kk : ∀ (u : S) (H1 : Heap) (locs1 : List Loc), post u → va_P D vwCl (ws' u) H1 → va_D A (ws' u) → va_S A s.heap H1 locs1 → W p l e R s m args below meth c H1 locs1 cells slots Q (F0 m (pc + 3) ls rest)) : W p l e R s m args below meth c H locs cells slots Q (F0 m pc ls st0) :=
  wr_callv (wc := wc) (va_runSN (As := As) (rest := rest) M.fix hM ⟨va_cnB n M.2.2.2.2.2.1 hT hw rfl rfl hlk (M.2.2.2.2.2.1 _ hin) hd hR0, M.2.2.2.2.2.1 _ hsm, trivial⟩ ⟨PZD_blind, fun U hU hW => ⟨rfl, hU, hP.sub isC (fm_of_map hC), va_K.moved hW.alike hK, M.2.2.2.2.2.2.2.warm hW, (hD.sub isC (hnC) hC).weaken (fun _ _ _ _ => trivial)⟩⟩ rfl hn hl hst (lv_room hW) hdg hcap) hP hD hS hA isC isR perm hC hR hn1 hdis hpn hperm kk
end ZW
section ZL
variable {p : Program} {l : Launch} {e : Env} {R : Room} {s : State} {m : MethodId} {args : Array Value} {below : List Frame} {meth : Method} {c : Code} {H : Heap} {locs : List Loc} {cells slots : Nat} {Q : State → Prop}
variable {cc : ByteArray} {pc : Nat} {ls : Array Slot} {rest : List Value} {D : va_G} {cl : List vw_C} {ad : Nat} {tys : List (ClassId × FieldType)} {ws : va_W}
theorem z_alen (hx : p.tables.exec = Jvm.exec) (hb : c.code = cc) (hK : va_K D cl tys s) (hP : va_P D cl ws H) (q0 t0 : Nat) {cA : ClassId} {n : Nat} {x : (Nat → Int32) ⊕ (Nat → Int64) ⊕ (Nat → UInt32) ⊕ (Nat → UInt64) ⊕ (Nat → Option Nat)} {ty : FieldType} (ha : ws[q0]? = some (ad, .inl (cA, n, x))) (ht : tys[t0]? = some (cA, ty)) (hd : decode cc pc = .ok (.arraylength, 1))
    (kk : W p l e R s m args below meth c H locs cells slots Q (F0 m (pc + 1) ls (.int (zI n) :: rest))) : W p l e R s m args below meth c H locs cells slots Q (F0 m pc ls (.ref ad :: rest)) := va_alen hx hb hK hP q0 t0 ha ht (v := zI n) (zI_nat n) hd kk
end ZL
theorem zia_congr {cA : ClassId} {n : Nat} {F G : Int → Int} (h : ∀ j : Int, 0 ≤ j → j < n → F j = G j) : vp_cell cA (n, .inl (zia F)) = vp_cell cA (n, .inl (zia G)) := by
  rw [vp_cell_i, vp_cell_i]
  have e : (fun j : Fin n => Value.int (zia F j.val)) = (fun j : Fin n => Value.int (zia G j.val)) := by
    funext j
    show Value.int (zI (F j.val)) = Value.int (zI (G j.val))
    rw [h j.val (Int.natCast_nonneg _) (Int.ofNat_lt.mpr j.isLt)]
  unfold arrV
  rw [e]
theorem zP_arr {D : va_G} {cl : List vw_C} {ws : va_W} {H : Heap} {G : Int → Int} (hP : va_P D cl ws H) (k : Nat) {a : Nat} {cA : ClassId} {n : Nat} {F : Int → Int} (he : ws[k]? = some (a, .inl (cA, n, .inl (zia F)))) (hF : ∀ j : Int, 0 ≤ j → j < n → F j = G j) : va_P D cl (ws.set k (a, .inl (cA, n, .inl (zia G)))) H := by
  intro i q hq
  by_cases hi : i = k
  · subst hi
    have hlt : i < ws.length := (List.getElem?_eq_some_iff.mp he).1
    rw [List.getElem?_set_self hlt] at hq
    cases hq
    have h1 := hP i _ he
    show H[a]? = some (vp_cell cA (n, .inl (zia G)))
    rw [← zia_congr hF]
    exact h1
  · rw [List.getElem?_set_ne (Ne.symm hi)] at hq
    exact hP i q hq
end
section
/-! ===== the String constants and two statics of the JDK: they ride beside a world ===== -/
def strLen : List Nat := [4, 5, 7, 6, 4, 4, 3, 4, 5, 4, 5]
def strByt : List (List Int32) := [[119, 97, 108, 108], [103, 108, 97, 115, 115], [99, 117, 114, 116, 97, 105, 110], [114, 111, 116, 116, 101, 110], [98, 101, 97, 109], [114, 97, 105, 110], [115, 117, 110], [118, 105, 101, 119], [110, 111, 105, 115, 101], [100, 111, 119, 110], [104, 97, 110, 100, 115]]
def strIdx : List Nat := [146, 148, 150, 152, 154, 156, 157, 158, 159, 160, 162]
def strTx : List String := ["wall", "glass", "curtain", "rotten", "beam", "rain", "sun", "view", "noise", "down", "hands"]
def ENV (K V : Nat → Nat) (A : Nat → Prop) (U : State) (H : Heap) : Prop :=
  vk_S 11 strLen strByt K V A U H ∧ (∀ i : Nat, i < 11 → vk_R RX3 (strIdx.getD i 0) (strTx.getD i "") (K i) U) ∧ va_Z "java/lang/String" "COMPACT_STRINGS" "Z" (.int 1) A U H ∧ va_Zq "jdk/internal/util/Preconditions" "SIOOBE_FORMATTER" "Ljava/util/function/BiFunction;" A U H
theorem ENV.warm {K V : Nat → Nat} {A : Nat → Prop} {s U : State} {H : Heap} (hW : s.WarmedH U.vm) (h : ENV K V A s H) : ENV K V A U H := ⟨h.1.moved hW.alike, fun i hi => (h.2.1 i hi).warm hW, h.2.2.1.moved hW.alike, h.2.2.2.moved hW.alike⟩
theorem ENV.same {K V : Nat → Nat} {A : Nat → Prop} {u U : State} {H : Heap} (hv : U.vm = u.vm) (h : ENV K V A u H) : ENV K V A U H := ⟨h.1.moved (by rw [hv]; exact Vm.Alike.refl _), fun i hi => (h.2.1 i hi).same hv, h.2.2.1.moved (by rw [hv]; exact Vm.Alike.refl _), h.2.2.2.moved (by rw [hv]; exact Vm.Alike.refl _)⟩
theorem ENV.kept {K V : Nat → Nat} {A : Nat → Prop} {U : State} {H H1 : Heap} (h : ENV K V A U H) (hq : ∀ a : Nat, a < H.size → ¬ A a → H1[a]? = H[a]?) : ENV K V A U H1 := ⟨h.1.kept hq, h.2.1, h.2.2.1.kept hq, h.2.2.2.kept hq⟩
theorem ENV.narrow {K V : Nat → Nat} {A B : Nat → Prop} {U : State} {H : Heap} (h : ENV K V A U H) (hAB : ∀ q, B q → A q) : ENV K V B U H := ⟨h.1.narrow hAB, h.2.1, h.2.2.1.narrow hAB, h.2.2.2.narrow hAB⟩
def PZe (D : va_G) (tys : List (ClassId × FieldType)) (ws : va_W) (Hp : Heap) (K V : Nat → Nat) : State → Prop := fun U => PZ D tys ws Hp U ∧ ENV K V (fun _ => False) U Hp
def PZDe (D : va_G) (tys : List (ClassId × FieldType)) (ws : va_W) (Hp : Heap) (K V : Nat → Nat) : State → Prop := fun U => PZD D tys ws Hp U ∧ ENV K V (va_A ws Hp.size) U Hp
theorem PZe_blind {D : va_G} {tys : List (ClassId × FieldType)} {ws : va_W} {Hp : Heap} {av : List Value} {K V : Nat → Nat} : FrameBlind (va_Pc av (PZe D tys ws Hp K V)) :=
  fun a U g mk q => ⟨q.1, (PZ_blind (av := av) a U g mk ⟨q.1, q.2.1⟩).2, q.2.2.same (u := U) (U := U.calling g mk a) rfl⟩
theorem PZDe_blind {D : va_G} {tys : List (ClassId × FieldType)} {ws : va_W} {Hp : Heap} {av : List Value} {K V : Nat → Nat} : FrameBlind (va_Pc av (PZDe D tys ws Hp K V)) :=
  fun a U g mk q => ⟨q.1, (PZD_blind (av := av) a U g mk ⟨q.1, q.2.1⟩).2, q.2.2.same (u := U) (U := U.calling g mk a) rfl⟩
def cPe (l : Launch) (y : MethodName) (wl : List Cond) (rf rl : Nat) (D : va_G) (tys : List (ClassId × FieldType)) (av : List Value) (ws : va_W) (Hp : Heap) (K V : Nat → Nat) (post : Int32 → Prop) : Prop :=
  Met l y wl (rmP rf rl) (va_Pc av (PZe D tys ws Hp K V)) (Qpu Hp post) 0 0 (fun _ => False)
/-- the same of a method that answers a reference -/
def Qpr (S0 : Heap) (post : Nat → Prop) : Array Value → State → Outcome → State → Prop := va_Qr (fun (_ : Unit) => True) (fun _ a t => t.heap = S0 ∧ post a) (fun _ => False)
def cPer (l : Launch) (y : MethodName) (wl : List Cond) (rf rl : Nat) (D : va_G) (tys : List (ClassId × FieldType)) (av : List Value) (ws : va_W) (Hp : Heap) (K V : Nat → Nat) (post : Nat → Prop) : Prop :=
  Met l y wl (rmP rf rl) (va_Pc av (PZe D tys ws Hp K V)) (Qpr Hp post) 0 0 (fun _ => False)
/-- a void method that writes nothing -/
def Qpv (S0 : Heap) : Array Value → State → Outcome → State → Prop := va_Qv (fun (_ : Unit) => True) (fun _ t => t.heap = S0) (fun _ => False)
def cPev (l : Launch) (y : MethodName) (wl : List Cond) (rf rl : Nat) (D : va_G) (tys : List (ClassId × FieldType)) (av : List Value) (ws : va_W) (Hp : Heap) (K V : Nat → Nat) : Prop :=
  Met l y wl (rmP rf rl) (va_Pc av (PZe D tys ws Hp K V)) (Qpv Hp) 0 0 (fun _ => False)
def cWie {S : Type} (l : Launch) (y : MethodName) (wl : List Cond) (rm : Room) (D : va_G) (tys : List (ClassId × FieldType)) (av : List Value) (ws : va_W) (Hp : Heap) (K V : Nat → Nat) (post : Int32 → S → Prop) (w1 : S → va_W) (mc ms : Nat) : Prop :=
  Met l y wl rm (va_Pc av (PZDe D tys ws Hp K V)) (Qwi (va_A ws Hp.size) D post w1) mc ms (va_A ws Hp.size)
def cWve {S : Type} (l : Launch) (y : MethodName) (wl : List Cond) (rm : Room) (D : va_G) (tys : List (ClassId × FieldType)) (av : List Value) (ws : va_W) (Hp : Heap) (K V : Nat → Nat) (post : S → Prop) (w1 : S → va_W) (mc ms : Nat) : Prop :=
  Met l y wl rm (va_Pc av (PZDe D tys ws Hp K V)) (Qwv (va_A ws Hp.size) D post w1) mc ms (va_A ws Hp.size)
theorem pue_startG {l : Launch} {y : MethodName} {wl wl' : List Cond} {rf rl maxL : Nat} {D : va_G} {tys : List (ClassId × FieldType)} {av : List Value} {ws : va_W} {Hp : Heap} {K V : Nat → Nat} {Qc : Heap → Array Value → State → Outcome → State → Prop} {cc : ByteArray} {ret : Option FieldType}
    (hy : plainName y.cls = true) (hw : wl = Cond.code y cc maxL ret :: wl') (hlen : (lg_sl av).length ≤ maxL)
    (body : ∀ (p : Program) (e : Env) (s : State) (m : MethodId) (args : Array Value) (below : List Frame) (meth : Method) (c : Code) (ls : Array Slot), MX p s m args meth c cc maxL ret y.cls wl → va_P D vwCl ws s.heap → va_K D vwCl tys s → ENV K V (fun _ => False) s s.heap → lv_has ls maxL (lv_args 0 av) →
      W p l e (rmP rf rl) s m args below meth c s.heap [] 0 0 (MQ below (Qc s.heap) args s 0 0 (fun _ => False)) (F0 m 0 ls [])) : Met l y wl (rmP rf rl) (va_Pc av (PZe D tys ws Hp K V)) (Qc Hp) 0 0 (fun _ => False) := by
  refine Met.ofW (cc := cc) (maxL := maxL) (ret := ret) hy hw ?_
  intro p e s m args below meth c s₁ B hml hv
  obtain ⟨rfl, ⟨hH, hP, hK, hNw⟩, hE⟩ := hv
  subst hH
  have hl := lv_entry av (n := maxL) hlen
  rw [lg_entry_eq]
  exact body p e s m av.toArray below meth c _ ⟨B.exec, B.bytes, B.returns, hml, findClass_of_methodNamed B.named, atoms_spec (ws := wl) B.pre, B.notSynchronized, hNw⟩ hP hK hE hl
theorem wre_startG {l : Launch} {y : MethodName} {wl wl' : List Cond} {rm : Room} {maxL mc ms : Nat} {D : va_G} {tys : List (ClassId × FieldType)} {av : List Value} {ws : va_W} {Hp : Heap} {K V : Nat → Nat} {Qc : (Nat → Prop) → Array Value → State → Outcome → State → Prop} {cc : ByteArray} {ret : Option FieldType}
    (hy : plainName y.cls = true) (hw : wl = Cond.code y cc maxL ret :: wl') (hlen : (lg_sl av).length ≤ maxL)
    (body : ∀ (p : Program) (e : Env) (s : State) (m : MethodId) (args : Array Value) (below : List Frame) (meth : Method) (c : Code) (ls : Array Slot) (A : Nat → Prop), MX p s m args meth c cc maxL ret y.cls wl → va_P D vwCl ws s.heap → va_D A ws → va_S A s.heap s.heap [] → (∀ q : Nat, s.heap.size ≤ q → A q) → va_K D vwCl tys s → ENV K V A s s.heap → lv_has ls maxL (lv_args 0 av) →
      W p l e rm s m args below meth c s.heap [] 0 0 (MQ below (Qc A) args s mc ms A) (F0 m 0 ls [])) : Met l y wl rm (va_Pc av (PZDe D tys ws Hp K V)) (Qc (va_A ws Hp.size)) mc ms (va_A ws Hp.size) := by
  refine Met.ofW (cc := cc) (maxL := maxL) (ret := ret) hy hw ?_
  intro p e s m args below meth c s₁ B hml hv
  obtain ⟨rfl, ⟨hH, hP, hK, hNw, hD0⟩, hE⟩ := hv
  subst hH
  have hl := lv_entry av (n := maxL) hlen
  rw [lg_entry_eq]
  exact body p e s m av.toArray below meth c _ _ ⟨B.exec, B.bytes, B.returns, hml, findClass_of_methodNamed B.named, atoms_spec (ws := wl) B.pre, B.notSynchronized, hNw⟩ hP hD0.self va_S.rf (fun q h => Or.inr h) hK hE hl
section ZE
variable {p : Program} {l : Launch} {e : Env} {R : Room} {s : State} {m : MethodId} {args : Array Value} {below : List Frame} {meth : Method} {c : Code} {H : Heap} {locs : List Loc} {cells slots : Nat} {Q : State → Prop}
variable {cc : ByteArray} {pc nL : Nat} {ret0 : Option FieldType} {own : String} {Ts : List Cond} {ls : Array Slot} {rest st0 : List Value}
variable {D : va_G} {tys : List (ClassId × FieldType)} {ws wc wr : va_W} {A : Nat → Prop} {S : Type} {w1 ws' : S → va_W} {K V : Nat → Nat}
theorem pe_aret {post : Nat → Prop} {a : Nat} {rn : String} (M : MX p s m args meth c cc nL (some (.object rn)) own Ts) (hd : decode cc pc = .ok (.areturn, 1)) (hp : post a) :
    W p l e R s m args below meth c s.heap [] 0 0 (MQ below (Qpr s.heap post) args s 0 0 (fun _ => False)) (F0 m pc ls [.ref a]) :=
  W.aret M.1 M.2.1 M.2.2.1 (Or.inl ⟨_, rfl⟩) (Or.inr ⟨_, rfl⟩) (fun t ht _ => ⟨⟨(), a, rfl, trivial, ht, hp⟩, by rw [ht]; exact Nat.le_refl _, fun q _ _ => by rw [ht]⟩) (fun q h => absurd h List.not_mem_nil) hd M.2.2.2.2.2.2.1
theorem pe_vret (M : MX p s m args meth c cc nL none own Ts) (hd : decode cc pc = .ok (.return_, 1)) :
    W p l e R s m args below meth c s.heap [] 0 0 (MQ below (Qpv s.heap) args s 0 0 (fun _ => False)) (F0 m pc ls []) :=
  W.vret M.1 M.2.1 M.2.2.1 (fun t ht _ => ⟨⟨(), rfl, trivial, ht⟩, by rw [ht]; exact Nat.le_refl _, fun q _ _ => by rw [ht]⟩) (fun q h => absurd h List.not_mem_nil) hd M.2.2.2.2.2.2.1
theorem pe_callv {aa : Array Value} (hr : va_Run p l e R s m args below meth c H locs cells slots 0 0 (F0 m pc ls st0) rest (Qpv H aa) (fun _ => False))
    (kk : W p l e R s m args below meth c H locs cells slots Q (F0 m (pc + 3) ls rest)) : W p l e R s m args below meth c H locs cells slots Q (F0 m pc ls st0) := by
  intro T hT X
  obtain ⟨v, st₀, t, T', L, h0, X', hL, e1, e2, ⟨⟨u, hv, hp, hb⟩, hz, hk⟩, st⟩ := hr T hT X
  cases hv
  have hLn : L = [] := by
    cases L with
    | nil => rfl
    | cons q L => exact (hL q List.mem_cons_self).elim
  subst hLn
  rw [List.append_nil] at X'
  obtain ⟨t2, a1, b1⟩ := kk T' (e1.trans hb) X'
  exact ⟨t2, st t2 a1, b1⟩
theorem pe_callr {post : Nat → Prop} {aa : Array Value} (hr : va_Run p l e R s m args below meth c H locs cells slots 0 0 (F0 m pc ls st0) rest (Qpr H post aa) (fun _ => False))
    (kk : ∀ a : Nat, post a → W p l e R s m args below meth c H locs cells slots Q (F0 m (pc + 3) ls (.ref a :: rest))) : W p l e R s m args below meth c H locs cells slots Q (F0 m pc ls st0) := by
  intro T hT X
  obtain ⟨v, st₀, t, T', L, h0, X', hL, e1, e2, ⟨⟨u, a, hv, hp, hb⟩, hz, hk⟩, st⟩ := hr T hT X
  cases hv
  have hLn : L = [] := by
    cases L with
    | nil => rfl
    | cons q L => exact (hL q List.mem_cons_self).elim
  subst hLn
  rw [List.append_nil] at X'
  obtain ⟨t2, a1, b1⟩ := kk a hb.2 T' (e1.trans hb.1) X'
  exact ⟨t2, st t2 a1, b1⟩
theorem pce_V {post : Int32 → Prop} {y : MethodName} {wl wl' : List Cond} {rf rl n maxL index : Nat} {bytes : ByteArray} {ret : Option FieldType} {C : String} {b : Nat} {As : List Value}
    (M : MX p s m args meth c cc nL ret0 own Ts) (hM : cPe l y wl rf rl D tys (.ref b :: As) wc H K V post) (hT : GoodIn Ts (wsV own index C y wl)) (hw : wl = Cond.code y bytes maxL ret :: wl')
    (hd : y.cls = C ∧ y.cls ≠ "java/lang/invoke/MethodHandle" ∧ y.cls ≠ "java/lang/invoke/VarHandle" ∧ (parseMethodDescriptor y.desc).map (fun d => d.parameters.length) = some n) (hR : rf + 1 ≤ R.frames ∧ 8 + (maxL + 11) + rl ≤ R.locals)
    (hK : va_K D vwCl tys s) (hP : va_P D vwCl ws H) (isC : List Nat) (hC : isC.filterMap (fun i => ws[i]?) = wc) (hE : ENV K V A s H) (hrv : ∃ cell : Cell, H[b]? = some cell ∧ cell.vm.isStatics = false ∧ s.vm.findClass C = some cell.cls)
    (hl : ls.size = nL) (hn : As.length = n) (hst : st0 = As.reverse ++ .ref b :: rest) (hW : (rest.map fun v => v.category).sum ≤ 8) (hdg : decode cc pc = .ok (.invokevirtual index, 3)) (hcap : cells ≤ R.cells ∧ slots ≤ R.slots)
    (kk : ∀ r : Int32, post r → W p l e R s m args below meth c H locs cells slots Q (F0 m (pc + 3) ls (.int r :: rest))) : W p l e R s m args below meth c H locs cells slots Q (F0 m pc ls st0) :=
  pu_call (va_runV (As := As) (rest := rest) M.fix hM (cwV n M.2.2.2.2.2.1 hT hw rfl rfl hd hR) ⟨PZe_blind, hrv, fun U hU hW => ⟨rfl, ⟨hU, hP.sub isC hC, va_K.moved hW.alike hK, M.2.2.2.2.2.2.2.warm hW⟩, (hE.narrow (fun _ h => h.elim)).warm hW⟩⟩ rfl hn hl hst (lv_room hW) hdg hcap) kk
theorem pce_J {post : Int32 → Prop} {y : MethodName} {wl wl' : List Cond} {rf rl n maxL index : Nat} {bytes : ByteArray} {ret : Option FieldType} {As : List Value}
    (M : MX p s m args meth c cc nL ret0 own Ts) (hM : cPe l y wl rf rl D tys As wc H K V post) (hT : GoodIn Ts (va_wsS own index y wl)) (hw : wl = Cond.code y bytes maxL ret :: wl')
    (hd : y.cls ≠ "java/lang/invoke/MethodHandle" ∧ y.cls ≠ "java/lang/invoke/VarHandle" ∧ (parseMethodDescriptor y.desc).map (fun d => d.parameters.length) = some n) (hR : rf + 1 ≤ R.frames ∧ 8 + (maxL + 11) + rl ≤ R.locals)
    (hK : va_K D vwCl tys s) (hP : va_P D vwCl ws H) (isC : List Nat) (hC : isC.filterMap (fun i => ws[i]?) = wc) (hE : ENV K V A s H)
    (hl : ls.size = nL) (hn : As.length = n) (hst : st0 = As.reverse ++ rest) (hW : (rest.map fun v => v.category).sum ≤ 8) (hdg : decode cc pc = .ok (.invokestatic index, 3)) (hcap : cells ≤ R.cells ∧ slots ≤ R.slots)
    (kk : ∀ r : Int32, post r → W p l e R s m args below meth c H locs cells slots Q (F0 m (pc + 3) ls (.int r :: rest))) : W p l e R s m args below meth c H locs cells slots Q (F0 m pc ls st0) :=
  pu_call (va_runS (As := As) (rest := rest) M.fix hM (va_cwS n M.2.2.2.2.2.1 hT hw rfl rfl hd hR) ⟨PZe_blind, fun U hU hW => ⟨rfl, ⟨hU, hP.sub isC hC, va_K.moved hW.alike hK, M.2.2.2.2.2.2.2.warm hW⟩, (hE.narrow (fun _ h => h.elim)).warm hW⟩⟩ rfl hn hl hst (lv_room hW) hdg hcap) kk
theorem pce_Jv {y : MethodName} {wl wl' : List Cond} {rf rl n maxL index : Nat} {bytes : ByteArray} {ret : Option FieldType} {As : List Value}
    (M : MX p s m args meth c cc nL ret0 own Ts) (hM : cPev l y wl rf rl D tys As wc H K V) (hT : GoodIn Ts (va_wsS own index y wl)) (hw : wl = Cond.code y bytes maxL ret :: wl')
    (hd : y.cls ≠ "java/lang/invoke/MethodHandle" ∧ y.cls ≠ "java/lang/invoke/VarHandle" ∧ (parseMethodDescriptor y.desc).map (fun d => d.parameters.length) = some n) (hR : rf + 1 ≤ R.frames ∧ 8 + (maxL + 11) + rl ≤ R.locals)
    (hK : va_K D vwCl tys s) (hP : va_P D vwCl ws H) (isC : List Nat) (hC : isC.filterMap (fun i => ws[i]?) = wc) (hE : ENV K V A s H)
    (hl : ls.size = nL) (hn : As.length = n) (hst : st0 = As.reverse ++ rest) (hW : (rest.map fun v => v.category).sum ≤ 8) (hdg : decode cc pc = .ok (.invokestatic index, 3)) (hcap : cells ≤ R.cells ∧ slots ≤ R.slots)
    (kk : W p l e R s m args below meth c H locs cells slots Q (F0 m (pc + 3) ls rest)) : W p l e R s m args below meth c H locs cells slots Q (F0 m pc ls st0) :=
  pe_callv (va_runS (As := As) (rest := rest) M.fix hM (va_cwS n M.2.2.2.2.2.1 hT hw rfl rfl hd hR) ⟨PZe_blind, fun U hU hW => ⟨rfl, ⟨hU, hP.sub isC hC, va_K.moved hW.alike hK, M.2.2.2.2.2.2.2.warm hW⟩, (hE.narrow (fun _ h => h.elim)).warm hW⟩⟩ rfl hn hl hst (lv_room hW) hdg hcap) kk
theorem pce_Jr {post : Nat → Prop} {y : MethodName} {wl wl' : List Cond} {rf rl n maxL index : Nat} {bytes : ByteArray} {ret : Option FieldType} {As : List Value}
    (M : MX p s m args meth c cc nL ret0 own Ts) (hM : cPer l y wl rf rl D tys As wc H K V post) (hT : GoodIn Ts (va_wsS own index y wl)) (hw : wl = Cond.code y bytes maxL ret :: wl')
    (hd : y.cls ≠ "java/lang/invoke/MethodHandle" ∧ y.cls ≠ "java/lang/invoke/VarHandle" ∧ (parseMethodDescriptor y.desc).map (fun d => d.parameters.length) = some n) (hR : rf + 1 ≤ R.frames ∧ 8 + (maxL + 11) + rl ≤ R.locals)
    (hK : va_K D vwCl tys s) (hP : va_P D vwCl ws H) (isC : List Nat) (hC : isC.filterMap (fun i => ws[i]?) = wc) (hE : ENV K V A s H)
    (hl : ls.size = nL) (hn : As.length = n) (hst : st0 = As.reverse ++ rest) (hW : (rest.map fun v => v.category).sum ≤ 8) (hdg : decode cc pc = .ok (.invokestatic index, 3)) (hcap : cells ≤ R.cells ∧ slots ≤ R.slots)
    (kk : ∀ a : Nat, post a → W p l e R s m args below meth c H locs cells slots Q (F0 m (pc + 3) ls (.ref a :: rest))) : W p l e R s m args below meth c H locs cells slots Q (F0 m pc ls st0) :=
  pe_callr (va_runS (As := As) (rest := rest) M.fix hM (va_cwS n M.2.2.2.2.2.1 hT hw rfl rfl hd hR) ⟨PZe_blind, fun U hU hW => ⟨rfl, ⟨hU, hP.sub isC hC, va_K.moved hW.alike hK, M.2.2.2.2.2.2.2.warm hW⟩, (hE.narrow (fun _ h => h.elim)).warm hW⟩⟩ rfl hn hl hst (lv_room hW) hdg hcap) kk
theorem wce_Vi {post : Int32 → S → Prop} {y : MethodName} {wl wl' : List Cond} {rf rl n maxL index : Nat} {bytes : ByteArray} {ret : Option FieldType} {C : String} {b : Nat} {As : List Value}
    (M : MX p s m args meth c cc nL ret0 own Ts) (hM : cWie l y wl (rmW rf 0 0 rl) D tys (.ref b :: As) wc H K V post w1 0 0) (hT : GoodIn Ts (wsV own index C y wl)) (hw : wl = Cond.code y bytes maxL ret :: wl') (hd : y.cls = C ∧ y.cls ≠ "java/lang/invoke/MethodHandle" ∧ y.cls ≠ "java/lang/invoke/VarHandle" ∧ (parseMethodDescriptor y.desc).map (fun d => d.parameters.length) = some n) (hR0 : rf + 1 ≤ R.frames ∧ 8 + (maxL + 11) + rl ≤ R.locals)
    (hK : va_K D vwCl tys s) (hP : va_P D vwCl ws H) (hD : va_D A ws) (hS : va_S A s.heap H locs) (hA : ∀ q : Nat, s.heap.size ≤ q → A q) (isC isR perm : List Nat) (hC : isC.map (fun i => ws[i]?) = wc.map some) (hR : isR.map (fun i => ws[i]?) = wr.map some) (hn1 : va_nd isR = true) (hdis : ∀ i ∈ isR, i ∉ isC) (hpn : va_nd perm = true) (hperm : ∀ u : S, perm.map (fun i => (wr ++ w1 u)[i]?) = (ws' u).map some) (q0 ci : Nat) {fs : List Value} (he : ws[q0]? = some (b, .inr (ci, fs))) {q : vw_C} (hc : vwCl[ci]? = some q) (hq : q.1 = C)
    (hl : ls.size = nL) (hn : As.length = n) (hst : st0 = As.reverse ++ .ref b :: rest) (hW : (rest.map fun v => v.category).sum ≤ 8) (hdg : decode cc pc = .ok (.invokevirtual index, 3)) (hcap : cells ≤ R.cells ∧ slots ≤ R.slots) (hnC : va_nd isC = true) (hE : ENV K V A s s.heap)
    (kk : ∀ (r : Int32) (u : S) (H1 : Heap) (locs1 : List Loc), post r u → va_P D vwCl (ws' u) H1 → va_D A (ws' u) → va_S A s.heap H1 locs1 → W p l e R s m args below meth c H1 locs1 cells slots Q (F0 m (pc + 3) ls (.int r :: rest))) : W p l e R s m args below meth c H locs cells slots Q (F0 m pc ls st0) :=
  wr_calli (wc := wc) (va_runV (As := As) (rest := rest) M.fix hM (cwV n M.2.2.2.2.2.1 hT hw rfl rfl hd hR0) ⟨PZDe_blind, by rw [← hq]; exact va_recv hK hP hc he, fun U hU hW => ⟨rfl, ⟨hU, hP.sub isC (fm_of_map hC), va_K.moved hW.alike hK, M.2.2.2.2.2.2.2.warm hW, (hD.sub isC hnC hC).weaken (fun _ _ _ _ => trivial)⟩, ((hE.kept hS.2.1).narrow (fun q h => va_free (wc := wc) hD hS hA isC hC q h)).warm hW⟩⟩ rfl hn hl hst (lv_room hW) hdg hcap) hP hD hS hA isC isR perm hC hR hn1 hdis hpn hperm kk
theorem wce_Vv {post : S → Prop} {y : MethodName} {wl wl' : List Cond} {rf rl n maxL index : Nat} {bytes : ByteArray} {ret : Option FieldType} {C : String} {b : Nat} {As : List Value}
    (M : MX p s m args meth c cc nL ret0 own Ts) (hM : cWve l y wl (rmW rf 0 0 rl) D tys (.ref b :: As) wc H K V post w1 0 0) (hT : GoodIn Ts (wsV own index C y wl)) (hw : wl = Cond.code y bytes maxL ret :: wl') (hd : y.cls = C ∧ y.cls ≠ "java/lang/invoke/MethodHandle" ∧ y.cls ≠ "java/lang/invoke/VarHandle" ∧ (parseMethodDescriptor y.desc).map (fun d => d.parameters.length) = some n) (hR0 : rf + 1 ≤ R.frames ∧ 8 + (maxL + 11) + rl ≤ R.locals)
    (hK : va_K D vwCl tys s) (hP : va_P D vwCl ws H) (hD : va_D A ws) (hS : va_S A s.heap H locs) (hA : ∀ q : Nat, s.heap.size ≤ q → A q) (isC isR perm : List Nat) (hC : isC.map (fun i => ws[i]?) = wc.map some) (hR : isR.map (fun i => ws[i]?) = wr.map some) (hn1 : va_nd isR = true) (hdis : ∀ i ∈ isR, i ∉ isC) (hpn : va_nd perm = true) (hperm : ∀ u : S, perm.map (fun i => (wr ++ w1 u)[i]?) = (ws' u).map some) (q0 ci : Nat) {fs : List Value} (he : ws[q0]? = some (b, .inr (ci, fs))) {q : vw_C} (hc : vwCl[ci]? = some q) (hq : q.1 = C)
    (hl : ls.size = nL) (hn : As.length = n) (hst : st0 = As.reverse ++ .ref b :: rest) (hW : (rest.map fun v => v.category).sum ≤ 8) (hdg : decode cc pc = .ok (.invokevirtual index, 3)) (hcap : cells ≤ R.cells ∧ slots ≤ R.slots) (hnC : va_nd isC = true) (hE : ENV K V A s s.heap)
    (kk : ∀ (u : S) (H1 : Heap) (locs1 : List Loc), post u → va_P D vwCl (ws' u) H1 → va_D A (ws' u) → va_S A s.heap H1 locs1 → W p l e R s m args below meth c H1 locs1 cells slots Q (F0 m (pc + 3) ls rest)) : W p l e R s m args below meth c H locs cells slots Q (F0 m pc ls st0) :=
  wr_callv (wc := wc) (va_runV (As := As) (rest := rest) M.fix hM (cwV n M.2.2.2.2.2.1 hT hw rfl rfl hd hR0) ⟨PZDe_blind, by rw [← hq]; exact va_recv hK hP hc he, fun U hU hW => ⟨rfl, ⟨hU, hP.sub isC (fm_of_map hC), va_K.moved hW.alike hK, M.2.2.2.2.2.2.2.warm hW, (hD.sub isC hnC hC).weaken (fun _ _ _ _ => trivial)⟩, ((hE.kept hS.2.1).narrow (fun q h => va_free (wc := wc) hD hS hA isC hC q h)).warm hW⟩⟩ rfl hn hl hst (lv_room hW) hdg hcap) hP hD hS hA isC isR perm hC hR hn1 hdis hpn hperm kk
theorem wce_VNi {post : Int32 → S → Prop} {y : MethodName} {wl wl' : List Cond} {rf rl n maxL index : Nat} {bytes : ByteArray} {ret : Option FieldType} {C host : String} {b : Nat} {As : List Value}
    (M : MX p s m args meth c cc nL ret0 own Ts) (hM : cWie l y wl (rmW rf 0 0 rl) D tys (.ref b :: As) wc H K V post w1 0 0) (hT : GoodIn Ts wl) (hw : wl = Cond.code y bytes maxL ret :: wl') (hlk : va_Nw (.methodLinkNest own index y host) s) (hin : Cond.initialized y.cls ∈ Ts) (him : Cond.instanceMethod y ∈ Ts) (hse : Cond.selects C y y ∈ Ts) (hd : y.cls ≠ "java/lang/invoke/MethodHandle" ∧ y.cls ≠ "java/lang/invoke/VarHandle" ∧ (parseMethodDescriptor y.desc).map (fun d => d.parameters.length) = some n) (hR0 : rf + 1 ≤ R.frames ∧ 8 + (maxL + 11) + rl ≤ R.locals)
    (hK : va_K D vwCl tys s) (hP : va_P D vwCl ws H) (hD : va_D A ws) (hS : va_S A s.heap H locs) (hA : ∀ q : Nat, s.heap.size ≤ q → A q) (isC isR perm : List Nat) (hC : isC.map (fun i => ws[i]?) = wc.map some) (hR : isR.map (fun i => ws[i]?) = wr.map some) (hn1 : va_nd isR = true) (hdis : ∀ i ∈ isR, i ∉ isC) (hpn : va_nd perm = true) (hperm : ∀ u : S, perm.map (fun i => (wr ++ w1 u)[i]?) = (ws' u).map some) (q0 ci : Nat) {fs : List Value} (he : ws[q0]? = some (b, .inr (ci, fs))) {q : vw_C} (hc : vwCl[ci]? = some q) (hq : q.1 = C)
    (hl : ls.size = nL) (hn : As.length = n) (hst : st0 = As.reverse ++ .ref b :: rest) (hW : (rest.map fun v => v.category).sum ≤ 8) (hdg : decode cc pc = .ok (.invokevirtual index, 3)) (hcap : cells ≤ R.cells ∧ slots ≤ R.slots) (hnC : va_nd isC = true) (hE : ENV K V A s s.heap)
    (kk : ∀ (r : Int32) (u : S) (H1 : Heap) (locs1 : List Loc), post r u → va_P D vwCl (ws' u) H1 → va_D A (ws' u) → va_S A s.heap H1 locs1 → W p l e R s m args below meth c H1 locs1 cells slots Q (F0 m (pc + 3) ls (.int r :: rest))) : W p l e R s m args below meth c H locs cells slots Q (F0 m pc ls st0) :=
  wr_calli (wc := wc) (va_runVN (As := As) (rest := rest) M.fix hM ⟨va_cnB n M.2.2.2.2.2.1 hT hw rfl rfl hlk (M.2.2.2.2.2.1 _ hin) hd hR0, M.2.2.2.2.2.1 _ him, M.2.2.2.2.2.1 _ hse⟩ ⟨PZDe_blind, by rw [← hq]; exact va_recv hK hP hc he, fun U hU hW => ⟨rfl, ⟨hU, hP.sub isC (fm_of_map hC), va_K.moved hW.alike hK, M.2.2.2.2.2.2.2.warm hW, (hD.sub isC hnC hC).weaken (fun _ _ _ _ => trivial)⟩, ((hE.kept hS.2.1).narrow (fun q h => va_free (wc := wc) hD hS hA isC hC q h)).warm hW⟩⟩ rfl hn hl hst (lv_room hW) hdg hcap) hP hD hS hA isC isR perm hC hR hn1 hdis hpn hperm kk
theorem wce_VNv {post : S → Prop} {y : MethodName} {wl wl' : List Cond} {rf rl n maxL index : Nat} {bytes : ByteArray} {ret : Option FieldType} {C host : String} {b : Nat} {As : List Value}
    (M : MX p s m args meth c cc nL ret0 own Ts) (hM : cWve l y wl (rmW rf 0 0 rl) D tys (.ref b :: As) wc H K V post w1 0 0) (hT : GoodIn Ts wl) (hw : wl = Cond.code y bytes maxL ret :: wl') (hlk : va_Nw (.methodLinkNest own index y host) s) (hin : Cond.initialized y.cls ∈ Ts) (him : Cond.instanceMethod y ∈ Ts) (hse : Cond.selects C y y ∈ Ts) (hd : y.cls ≠ "java/lang/invoke/MethodHandle" ∧ y.cls ≠ "java/lang/invoke/VarHandle" ∧ (parseMethodDescriptor y.desc).map (fun d => d.parameters.length) = some n) (hR0 : rf + 1 ≤ R.frames ∧ 8 + (maxL + 11) + rl ≤ R.locals)
    (hK : va_K D vwCl tys s) (hP : va_P D vwCl ws H) (hD : va_D A ws) (hS : va_S A s.heap H locs) (hA : ∀ q : Nat, s.heap.size ≤ q → A q) (isC isR perm : List Nat) (hC : isC.map (fun i => ws[i]?) = wc.map some) (hR : isR.map (fun i => ws[i]?) = wr.map some) (hn1 : va_nd isR = true) (hdis : ∀ i ∈ isR, i ∉ isC) (hpn : va_nd perm = true) (hperm : ∀ u : S, perm.map (fun i => (wr ++ w1 u)[i]?) = (ws' u).map some) (q0 ci : Nat) {fs : List Value} (he : ws[q0]? = some (b, .inr (ci, fs))) {q : vw_C} (hc : vwCl[ci]? = some q) (hq : q.1 = C)
    (hl : ls.size = nL) (hn : As.length = n) (hst : st0 = As.reverse ++ .ref b :: rest) (hW : (rest.map fun v => v.category).sum ≤ 8) (hdg : decode cc pc = .ok (.invokevirtual index, 3)) (hcap : cells ≤ R.cells ∧ slots ≤ R.slots) (hnC : va_nd isC = true) (hE : ENV K V A s s.heap)
    (kk : ∀ (u : S) (H1 : Heap) (locs1 : List Loc), post u → va_P D vwCl (ws' u) H1 → va_D A (ws' u) → va_S A s.heap H1 locs1 → W p l e R s m args below meth c H1 locs1 cells slots Q (F0 m (pc + 3) ls rest)) : W p l e R s m args below meth c H locs cells slots Q (F0 m pc ls st0) :=
  wr_callv (wc := wc) (va_runVN (As := As) (rest := rest) M.fix hM ⟨va_cnB n M.2.2.2.2.2.1 hT hw rfl rfl hlk (M.2.2.2.2.2.1 _ hin) hd hR0, M.2.2.2.2.2.1 _ him, M.2.2.2.2.2.1 _ hse⟩ ⟨PZDe_blind, by rw [← hq]; exact va_recv hK hP hc he, fun U hU hW => ⟨rfl, ⟨hU, hP.sub isC (fm_of_map hC), va_K.moved hW.alike hK, M.2.2.2.2.2.2.2.warm hW, (hD.sub isC hnC hC).weaken (fun _ _ _ _ => trivial)⟩, ((hE.kept hS.2.1).narrow (fun q h => va_free (wc := wc) hD hS hA isC hC q h)).warm hW⟩⟩ rfl hn hl hst (lv_room hW) hdg hcap) hP hD hS hA isC isR perm hC hR hn1 hdis hpn hperm kk
end ZE
theorem strLen_rng : ∀ i : Nat, i < 11 → strLen.getD i 0 ≤ 7 := by decide +kernel
def strC (i : Nat) (k : Int) : Int := ((strByt.getD i []).getD k.toNat 0).toInt
theorem str_all : ∀ i : Nat, i < 11 → ∀ k : Nat, k < 7 → k < strLen.getD i 0 → ((((strByt.getD i []).getD k 0) &&& zI 255).toUInt32 % 65536).toInt32 = zI (strC i k) ∧ 97 ≤ strC i k ∧ strC i k ≤ 122 := by decide +kernel
theorem zchar {b : Int} (h : 0 ≤ b ∧ b < 65536) : narrow .char (.int (zI b)) = .int (zI b) := by
  rw [zI_nn h.1]
  exact (pk_charN (by omega)).1
theorem zshr0 (a : Int) (h : 0 ≤ a) : zshr a 0 = a := by
  unfold zshr
  show ((a.toNat >>> 0 : Nat) : Int) = a
  rw [Nat.shiftRight_zero]
  omega
theorem str_ch {i : Nat} {k : Int} (hi : i < 11) (hk : 0 ≤ k ∧ k < (strLen.getD i 0 : Nat)) : ((((strByt.getD i []).getD (zI k).toNatClampNeg 0) &&& zI 255).toUInt32 % 65536).toInt32 = zI (strC i k) := by
  have h7 := strLen_rng i hi
  rw [zI_cl (by omega)]
  have h := (str_all i hi k.toNat (by omega) (by omega)).1
  rw [Int.toNat_of_nonneg hk.1] at h
  exact h
theorem strC_rng {i : Nat} {k : Int} (hi : i < 11) (hk : 0 ≤ k ∧ k < (strLen.getD i 0 : Nat)) : 97 ≤ strC i k ∧ strC i k ≤ 122 := by
  have h7 := strLen_rng i hi
  have h := (str_all i hi k.toNat (by omega) (by omega)).2
  rw [Int.toNat_of_nonneg hk.1] at h
  exact h
end
section
/-! ===== the words of the document as numbers ===== -/
def zb (c : Prop) [Decidable c] : Int := if c then 1 else 0
theorem zb_rng (c : Prop) [Decidable c] : 0 ≤ zb c ∧ zb c ≤ 1 := by unfold zb; split <;> omega
theorem zb_bd (c : Prop) [Decidable c] : -2147483648 ≤ zb c ∧ zb c < 2147483648 := by unfold zb; split <;> omega
theorem zb_t {c : Prop} [Decidable c] (h : zb c ≠ 0) : c := by
  unfold zb at h
  by_cases q : c
  · exact q
  · rw [if_neg q] at h; exact absurd rfl h
theorem zb_f {c : Prop} [Decidable c] (h : zb c = 0) : ¬ c := by
  intro q
  unfold zb at h
  rw [if_pos q] at h
  exact absurd h (by decide)
theorem zb_1 {c : Prop} [Decidable c] (h : c) : zb c = 1 := if_pos h
theorem zb_0 {c : Prop} [Decidable c] (h : ¬ c) : zb c = 0 := if_neg h
theorem zb_c {c d : Prop} [Decidable c] [Decidable d] (h : c ↔ d) : zb c = zb d := by
  by_cases q : c
  · rw [zb_1 q, zb_1 (h.mp q)]
  · rw [zb_0 q, zb_0 (fun w => q (h.mpr w))]
theorem zbit_bd (a k : Int) : -2147483648 ≤ zbit a k ∧ zbit a k < 2147483648 := by have := zbit_rng a k; omega
theorem zbit_nz {a k : Int} (h : zbit a k ≠ 0) : ztb a k = true := by
  unfold zbit at h
  by_cases q : ztb a k = true
  · exact q
  · rw [if_neg q] at h; exact absurd rfl h
theorem zbit_ne1 {a k : Int} (h : zbit a k ≠ 1) : ztb a k = false := by
  unfold zbit at h
  by_cases q : ztb a k = true
  · rw [if_pos q] at h; exact absurd rfl h
  · simpa using q
/-- where panel p is, in a house's number (class side: four figures to the base nine) -/
def pl (h p : Int) : Int := if p = 0 then h / 729 % 9 else if p = 1 then h / 81 % 9 else if p = 2 then h / 9 % 9 else h % 9
def un (p : Int) : Int := if p = 0 then 729 else if p = 1 then 81 else if p = 2 then 9 else 1
def mv (h p k : Int) : Int := h + (k - pl h p) * un p
theorem pl_rng (h p : Int) : 0 ≤ pl h p ∧ pl h p ≤ 8 := by
  unfold pl
  repeat' split
  all_goals omega
theorem un_rng (p : Int) : 1 ≤ un p ∧ un p ≤ 729 := by
  unfold un
  repeat' split
  all_goals omega
theorem mv_rng {h p k : Int} (hh : 0 ≤ h ∧ h < 6561) (hk : 0 ≤ k ∧ k ≤ 8) : 0 ≤ mv h p k ∧ mv h p k < 6561 := by
  unfold mv pl un
  repeat' split
  all_goals omega
def popc (x : Int) : Int := zbit x 0 + zbit x 1 + zbit x 2 + zbit x 3 + zbit x 4 + zbit x 5 + zbit x 6 + zbit x 7
theorem popc_rng (x : Int) : 0 ≤ popc x ∧ popc x ≤ 8 := by
  unfold popc
  have h0 := zbit_rng x 0
  have h1 := zbit_rng x 1
  have h2 := zbit_rng x 2
  have h3 := zbit_rng x 3
  have h4 := zbit_rng x 4
  have h5 := zbit_rng x 5
  have h6 := zbit_rng x 6
  have h7 := zbit_rng x 7
  omega
def bcI (x : Int32) : Int32 :=
  let a := x - ((x.toUInt32 >>> ((zI 1).toUInt32 &&& Int32.toUInt32 31)).toInt32 &&& zI 1431655765)
  let b := (a &&& zI 858993459) + ((a.toUInt32 >>> ((zI 2).toUInt32 &&& Int32.toUInt32 31)).toInt32 &&& zI 858993459)
  let c := (b + (b.toUInt32 >>> ((zI 4).toUInt32 &&& Int32.toUInt32 31)).toInt32) &&& zI 252645135
  let d := c + (c.toUInt32 >>> ((zI 8).toUInt32 &&& Int32.toUInt32 31)).toInt32
  let e := d + (d.toUInt32 >>> ((zI 16).toUInt32 &&& Int32.toUInt32 31)).toInt32
  e &&& zI 63
theorem bc_fin : ∀ n : Fin 256, bcI (zI (n.val : Int)) = zI (popc (n.val : Int)) := by decide +kernel
theorem bc_all (x : Int) (h0 : 0 ≤ x) (h1 : x < 256) : bcI (zI x) = zI (popc x) := by
  have h := bc_fin ⟨x.toNat, by omega⟩
  simpa [Int.toNat_of_nonneg h0] using h
/-- the first panel of n, from i on, that is in slot k; none: -9 -/
def patF (f : Int → Int) (k : Int) : Nat → Int → Int
  | 0, _ => -9
  | n + 1, i => if f i = k then i else patF f k n (i + 1)
/-- how many of n panels, from i on, lie -/
def lyC (f : Int → Int) : Nat → Int → Int
  | 0, _ => 0
  | n + 1, i => (if f i = 8 then 1 else 0) + lyC f n (i + 1)
/-- the slots, a bit each, under panels whose sort is in the set -/
def mskF (f so : Int → Int) (set : Int) : Nat → Int → Int → Int
  | 0, _, acc => acc
  | n + 1, i, acc => mskF f so set n (i + 1) (if f i ≠ 8 ∧ ztb set (so i) = true then zbor acc (zpw (f i)) else acc)
def msk (f so : Int → Int) (set P : Int) : Int := mskF f so set P.toNat 0 0
def brB (m : Int) (bm : Int → Int) : Nat → Int → Bool
  | 0, _ => true
  | n + 1, i => decide (zband m (bm i) ≠ 0) && brB m bm n (i + 1)
def alw (f so bm : Int → Int) (P B dn : Int) : Bool :=
  decide (lyC f P.toNat 0 ≤ dn) && decide (popc (msk f so 15 P) + lyC f P.toNat 0 = P) && brB (msk f so 1 P) bm B.toNat 0
def lkA (f so : Int → Int) (P ra : Int) : Int := popc (zbandn ra (msk f so 3 P))
def ltA (f so : Int → Int) (P su : Int) : Int := zbandn su (msk f so 13 P)
def quA (f so : Int → Int) (P no : Int) : Int := if zbit (msk f so 1 P) no = 1 then 4 else if zbit (msk f so 15 P) no = 1 then 2 else 0
def woA (f so : Int → Int) (P ra su vw no : Int) : Int :=
  3 * popc (ltA f so P su) - 2 * lkA f so P ra + (if vw ≠ -9 ∧ zbit (msk f so 13 P) vw = 0 then 5 else 0) + (if no ≠ -9 then quA f so P no else 0)
theorem patF_rng (f : Int → Int) (k : Int) : ∀ (n : Nat) (i : Int), 0 ≤ i → -9 ≤ patF f k n i ∧ patF f k n i < i + n ∧ (patF f k n i < 0 → patF f k n i = -9)
  | 0, i, hi => by unfold patF; omega
  | n + 1, i, hi => by
    unfold patF
    have ih := patF_rng f k n (i + 1) (by omega)
    split <;> omega
theorem lyC_rng (f : Int → Int) : ∀ (n : Nat) (i : Int), 0 ≤ lyC f n i ∧ lyC f n i ≤ n
  | 0, i => by unfold lyC; omega
  | n + 1, i => by
    unfold lyC
    have ih := lyC_rng f n (i + 1)
    split <;> omega
theorem mskF_rng (f so : Int → Int) (set : Int) (hf : ∀ i : Int, 0 ≤ f i ∧ f i ≤ 8) : ∀ (n : Nat) (i acc : Int), 0 ≤ acc ∧ acc < 256 → 0 ≤ mskF f so set n i acc ∧ mskF f so set n i acc < 256
  | 0, i, acc, h => by unfold mskF; omega
  | n + 1, i, acc, h => by
    unfold mskF
    apply mskF_rng f so set hf n
    split
    · rename_i q
      have h1 := hf i
      have h2 : zpw (f i) < ((2 ^ 8 : Nat) : Int) := zpw_lt (n := 8) (by have := q.1; omega) (by omega)
      exact ⟨zbor_nn _ _, zbor_lt 8 (by omega) h2⟩
    · omega
theorem msk_rng (f so : Int → Int) (set P : Int) (hf : ∀ i : Int, 0 ≤ f i ∧ f i ≤ 8) : 0 ≤ msk f so set P ∧ msk f so set P < 256 := mskF_rng f so set hf _ _ _ (by omega)
theorem lkA_rng (f so : Int → Int) (P ra : Int) : 0 ≤ lkA f so P ra ∧ lkA f so P ra ≤ 8 := popc_rng _
theorem quA_rng (f so : Int → Int) (P no : Int) : 0 ≤ quA f so P no ∧ quA f so P no ≤ 4 := by
  unfold quA
  repeat' split
  all_goals omega
theorem woA_rng (f so : Int → Int) (P ra su vw no : Int) : -16 ≤ woA f so P ra su vw no ∧ woA f so P ra su vw no ≤ 33 := by
  unfold woA
  have h1 := popc_rng (ltA f so P su)
  have h2 := lkA_rng f so P ra
  have h3 := quA_rng f so P no
  repeat' split
  all_goals omega
theorem ltA_rng (f so : Int → Int) (P : Int) {su : Int} (h : 0 ≤ su ∧ su < 256) : 0 ≤ ltA f so P su ∧ ltA f so P su < 256 := by
  unfold ltA
  have := zbandn_le su (msk f so 13 P) h.1
  have := zbandn_nn su (msk f so 13 P)
  omega
end
section
theorem hd_J0_checkIndex_df160 : yJ0_checkIndex_df160.cls ≠ "java/lang/invoke/MethodHandle" ∧ yJ0_checkIndex_df160.cls ≠ "java/lang/invoke/VarHandle" ∧ (parseMethodDescriptor yJ0_checkIndex_df160.desc).map (fun d => d.parameters.length) = some 2 := by decide +kernel
theorem hd_J0_coder_7d493 : yJ0_coder_7d493.cls ≠ "java/lang/invoke/MethodHandle" ∧ yJ0_coder_7d493.cls ≠ "java/lang/invoke/VarHandle" ∧ (parseMethodDescriptor yJ0_coder_7d493.desc).map (fun d => d.parameters.length) = some 0 := by decide +kernel
theorem hd_J0_isLatin1_aae02 : yJ0_isLatin1_aae02.cls ≠ "java/lang/invoke/MethodHandle" ∧ yJ0_isLatin1_aae02.cls ≠ "java/lang/invoke/VarHandle" ∧ (parseMethodDescriptor yJ0_isLatin1_aae02.desc).map (fun d => d.parameters.length) = some 0 := by decide +kernel
theorem hd_J1_charAt_3b067 : yJ1_charAt_3b067.cls ≠ "java/lang/invoke/MethodHandle" ∧ yJ1_charAt_3b067.cls ≠ "java/lang/invoke/VarHandle" ∧ (parseMethodDescriptor yJ1_charAt_3b067.desc).map (fun d => d.parameters.length) = some 2 := by decide +kernel
theorem hd_J3_checkIndex_8e157 : yJ3_checkIndex_8e157.cls ≠ "java/lang/invoke/MethodHandle" ∧ yJ3_checkIndex_8e157.cls ≠ "java/lang/invoke/VarHandle" ∧ (parseMethodDescriptor yJ3_checkIndex_8e157.desc).map (fun d => d.parameters.length) = some 3 := by decide +kernel
set_option maxHeartbeats 4000000 in
set_option maxRecDepth 100000 in
theorem c_J0_coder_7d493 (l : Launch) (D : va_G) (cB cI cZ cM : ClassId) (Hp : Heap) (K V : Nat → Nat) (i : Nat) (hi : i < 11) : cPe l yJ0_coder_7d493 wsJ0_coder_7d493 0 0 D (TYS cB cI cZ cM) [.ref (K i)] [] Hp K V (fun r => r = zI 0) := by
  refine pue_startG (Qc := fun h => Qpu h (fun r => r = zI 0)) (by decide) rfl (Nat.le_of_ble_eq_true rfl) ?_
  intro pg ev sx mm args below meth cd ls M hP hK hE hl
  show W pg l ev _ sx mm args below meth cd sx.heap [] 0 0 (QP below args sx (fun r => r = zI 0)) _
  obtain ⟨hx, hb, hr, hml, hown, hts, hlk, hN0⟩ := id M
  have hl : lv_has ls 1 [(0, .ref (K i))] := hl
  refine va_gets hx hb hE.2.2.1 va_S.rf hown (hts (.fieldLink RJ0 38 "java/lang/String" "COMPACT_STRINGS" "Z") (by decide +kernel)) (fun _ h9 => h9) dJ0_coder_7d493_0 ?_
  refine z_top (y := zI 1) (by decide) ?_
  refine z_if_eq (tgt := 13) hx hb dJ0_coder_7d493_3 (by decide) (by omega) (fun c_3 => ?_) (fun c_3 => ?_)
  · skip
    exfalso; omega
  refine lv_aload_n hx hb dJ0_coder_7d493_6 rfl (lv_at hl 0 rfl) ?_
  refine vk_getf hx hb (hE.1.1 i (hi)).2.1 va_S.rf hown (hts (.fieldLink RJ0 15 "java/lang/String" "coder" "B") (by decide +kernel)) (fun _ h9 => h9) dJ0_coder_7d493_7 ?_
  refine z_top (y := zI 0) (by decide) ?_
  refine lv_goto (tgt := 14) hx hb dJ0_coder_7d493_10 (by decide) ?_
  exact pu_retz M (rfl) dJ0_coder_7d493_14 (congrArg zI (by rfl))
set_option maxHeartbeats 4000000 in
set_option maxRecDepth 100000 in
theorem c_J0_length_8abf5 (l : Launch) (D : va_G) (cB cI cZ cM : ClassId) (Hp : Heap) (K V : Nat → Nat) (i : Nat) (hi : i < 11) : cPe l yJ0_length_8abf5 wsJ0_length_8abf5 1 20 D (TYS cB cI cZ cM) [.ref (K i)] [] Hp K V (fun r => r = zI (strLen.getD i 0 : Nat)) := by
  refine pue_startG (Qc := fun h => Qpu h (fun r => r = zI (strLen.getD i 0 : Nat))) (by decide) rfl (Nat.le_of_ble_eq_true rfl) ?_
  intro pg ev sx mm args below meth cd ls M hP hK hE hl
  show W pg l ev _ sx mm args below meth cd sx.heap [] 0 0 (QP below args sx (fun r => r = zI (strLen.getD i 0 : Nat))) _
  obtain ⟨hx, hb, hr, hml, hown, hts, hlk, hN0⟩ := id M
  have hl : lv_has ls 1 [(0, .ref (K i))] := hl
  refine lv_aload_n hx hb dJ0_length_8abf5_0 rfl (lv_at hl 0 rfl) ?_
  refine vk_getf hx hb (hE.1.1 i (hi)).2.2.1 va_S.rf hown (hts (.fieldLink RJ0 9 "java/lang/String" "value" "[B") (by decide +kernel)) (fun _ h9 => h9) dJ0_length_8abf5_1 ?_
  refine va_tlen hx hb (hE.1.1 i (hi)).2.2.2 va_S.rf (v := zI (strLen.getD i 0 : Nat)) (zI_nat _) dJ0_length_8abf5_4 ?_
  refine lv_aload_n hx hb dJ0_length_8abf5_5 rfl (lv_at hl 0 rfl) ?_
  refine pce_V (As := []) (rest := [.int (zI (strLen.getD i 0 : Nat))]) M (c_J0_coder_7d493 l D cB cI cZ cM _ K V i (by first | assumption | omega)) gJ0_length_8abf5_J0_coder_7d493 rfl ⟨rfl, hd_J0_coder_7d493⟩ ⟨Nat.le_of_ble_eq_true rfl, Nat.le_of_ble_eq_true rfl⟩ hK hP [] rfl hE (vk_recv hE.1 (hi) va_S.rf) hl.1 rfl rfl (Nat.le_of_ble_eq_true rfl) dJ0_length_8abf5_6 ⟨Nat.le_of_ble_eq_true rfl, Nat.le_of_ble_eq_true rfl⟩ (fun r_6 h_6 => ?_)
  subst h_6
  have h7 := strLen_rng i hi
  refine z_ishr hx hb dJ0_length_8abf5_9 (by omega) ?_
  exact pu_ret M dJ0_length_8abf5_10 (congrArg zI (by exact zshr0 _ (by omega)))
set_option maxHeartbeats 4000000 in
set_option maxRecDepth 100000 in
theorem c_J0_isLatin1_aae02 (l : Launch) (D : va_G) (cB cI cZ cM : ClassId) (Hp : Heap) (K V : Nat → Nat) (i : Nat) (hi : i < 11) : cPe l yJ0_isLatin1_aae02 wsJ0_isLatin1_aae02 0 0 D (TYS cB cI cZ cM) [.ref (K i)] [] Hp K V (fun r => r = zI 1) := by
  refine pue_startG (Qc := fun h => Qpu h (fun r => r = zI 1)) (by decide) rfl (Nat.le_of_ble_eq_true rfl) ?_
  intro pg ev sx mm args below meth cd ls M hP hK hE hl
  show W pg l ev _ sx mm args below meth cd sx.heap [] 0 0 (QP below args sx (fun r => r = zI 1)) _
  obtain ⟨hx, hb, hr, hml, hown, hts, hlk, hN0⟩ := id M
  have hl : lv_has ls 1 [(0, .ref (K i))] := hl
  refine va_gets hx hb hE.2.2.1 va_S.rf hown (hts (.fieldLink RJ0 38 "java/lang/String" "COMPACT_STRINGS" "Z") (by decide +kernel)) (fun _ h9 => h9) dJ0_isLatin1_aae02_0 ?_
  refine z_top (y := zI 1) (by decide) ?_
  refine z_if_eq (tgt := 17) hx hb dJ0_isLatin1_aae02_3 (by decide) (by omega) (fun c_3 => ?_) (fun c_3 => ?_)
  · skip
    exfalso; omega
  refine lv_aload_n hx hb dJ0_isLatin1_aae02_6 rfl (lv_at hl 0 rfl) ?_
  refine vk_getf hx hb (hE.1.1 i (hi)).2.1 va_S.rf hown (hts (.fieldLink RJ0 15 "java/lang/String" "coder" "B") (by decide +kernel)) (fun _ h9 => h9) dJ0_isLatin1_aae02_7 ?_
  refine z_top (y := zI 0) (by decide) ?_
  refine z_if_ne (tgt := 17) hx hb dJ0_isLatin1_aae02_10 (by decide) (by omega) (fun c_10 => ?_) (fun c_10 => ?_)
  · skip
    exfalso; omega
  refine lv_iconst (v := zI 1) hx hb dJ0_isLatin1_aae02_13 rfl ?_
  refine lv_goto (tgt := 18) hx hb dJ0_isLatin1_aae02_14 (by decide) ?_
  exact pu_retz M (rfl) dJ0_isLatin1_aae02_18 (congrArg zI (by rfl))
set_option maxHeartbeats 4000000 in
set_option maxRecDepth 100000 in
theorem c_J3_checkIndex_n (l : Launch) (D : va_G) (cB cI cZ cM : ClassId) (Hp : Heap) (x : Int) (n : Int) (hx0 : 0 ≤ x ∧ x < n) (hn0 : n < 2147483648) : cP l yJ3_checkIndex_8e157 wsJ3_checkIndex_8e157 0 0 D (TYS cB cI cZ cM) [.int (zI x), .int (zI n), .null] [] Hp (fun r => r = zI x) := by
  refine pu_start (by decide) rfl (Nat.le_of_ble_eq_true rfl) ?_
  intro pg ev sx mm args below meth cd ls M hP hK hl
  obtain ⟨hx, hb, hr, hml, hown, hts, hlk, hN0⟩ := id M
  have hl : lv_has ls 3 [(0, .int (zI x)), (1, .int (zI n)), (2, .null)] := hl
  refine lv_iload_n hx hb dJ3_checkIndex_8e157_0 rfl (lv_at hl 0 rfl) ?_
  refine z_if_lt (tgt := 9) hx hb dJ3_checkIndex_8e157_1 (by decide) (by omega) (fun c_1 => ?_) (fun c_1 => ?_)
  · skip
    exfalso; omega
  refine lv_iload_n hx hb dJ3_checkIndex_8e157_4 rfl (lv_at hl 0 rfl) ?_
  refine lv_iload_n hx hb dJ3_checkIndex_8e157_5 rfl (lv_at hl 1 rfl) ?_
  refine z_icmp_lt (tgt := 16) hx hb dJ3_checkIndex_8e157_6 (by decide) (by omega) (fun c_6 => ?_) (fun c_6 => ?_)
  · skip
    refine lv_iload_n hx hb dJ3_checkIndex_8e157_16 rfl (lv_at hl 0 rfl) ?_
    exact pu_ret M dJ3_checkIndex_8e157_17 (congrArg zI (by rfl))
  exfalso; omega
set_option maxHeartbeats 4000000 in
set_option maxRecDepth 100000 in
theorem c_J3_checkIndex_r (l : Launch) (D : va_G) (cB cI cZ cM : ClassId) (Hp : Heap) (x : Int) (n : Int) (t : Nat) (hx0 : 0 ≤ x ∧ x < n) (hn0 : n < 2147483648) : cP l yJ3_checkIndex_8e157 wsJ3_checkIndex_8e157 0 0 D (TYS cB cI cZ cM) [.int (zI x), .int (zI n), .ref t] [] Hp (fun r => r = zI x) := by
  refine pu_start (by decide) rfl (Nat.le_of_ble_eq_true rfl) ?_
  intro pg ev sx mm args below meth cd ls M hP hK hl
  obtain ⟨hx, hb, hr, hml, hown, hts, hlk, hN0⟩ := id M
  have hl : lv_has ls 3 [(0, .int (zI x)), (1, .int (zI n)), (2, .ref t)] := hl
  refine lv_iload_n hx hb dJ3_checkIndex_8e157_0 rfl (lv_at hl 0 rfl) ?_
  refine z_if_lt (tgt := 9) hx hb dJ3_checkIndex_8e157_1 (by decide) (by omega) (fun c_1 => ?_) (fun c_1 => ?_)
  · skip
    exfalso; omega
  refine lv_iload_n hx hb dJ3_checkIndex_8e157_4 rfl (lv_at hl 0 rfl) ?_
  refine lv_iload_n hx hb dJ3_checkIndex_8e157_5 rfl (lv_at hl 1 rfl) ?_
  refine z_icmp_lt (tgt := 16) hx hb dJ3_checkIndex_8e157_6 (by decide) (by omega) (fun c_6 => ?_) (fun c_6 => ?_)
  · skip
    refine lv_iload_n hx hb dJ3_checkIndex_8e157_16 rfl (lv_at hl 0 rfl) ?_
    exact pu_ret M dJ3_checkIndex_8e157_17 (congrArg zI (by rfl))
  exfalso; omega
set_option maxHeartbeats 4000000 in
set_option maxRecDepth 100000 in
theorem c_J0_checkIndex_df160 (l : Launch) (D : va_G) (cB cI cZ cM : ClassId) (Hp : Heap) (K V : Nat → Nat) (x : Int) (n : Int) (hx0 : 0 ≤ x ∧ x < n) (hn0 : n < 2147483648) : cPev l yJ0_checkIndex_df160 wsJ0_checkIndex_df160 1 22 D (TYS cB cI cZ cM) [.int (zI x), .int (zI n)] [] Hp K V := by
  refine pue_startG (Qc := fun h => Qpv h) (by decide) rfl (Nat.le_of_ble_eq_true rfl) ?_
  intro pg ev sx mm args below meth cd ls M hP hK hE hl
  show W pg l ev _ sx mm args below meth cd sx.heap [] 0 0 (MQ below (Qpv sx.heap) args sx 0 0 (fun _ => False)) _
  obtain ⟨hx, hb, hr, hml, hown, hts, hlk, hN0⟩ := id M
  have hl : lv_has ls 2 [(0, .int (zI x)), (1, .int (zI n))] := hl
  refine lv_iload_n hx hb dJ0_checkIndex_df160_0 rfl (lv_at hl 0 rfl) ?_
  refine lv_iload_n hx hb dJ0_checkIndex_df160_1 rfl (lv_at hl 1 rfl) ?_
  rcases hE.2.2.2 with hz9 | ⟨t9, hz9⟩
  · skip
    refine va_gets hx hb hz9 va_S.rf hown (hts (.fieldLink RJ0 1053 "jdk/internal/util/Preconditions" "SIOOBE_FORMATTER" "Ljava/util/function/BiFunction;") (by decide +kernel)) (fun _ h9 => h9) dJ0_checkIndex_df160_2 ?_
    refine pc_J (As := [.int (zI x), .int (zI n), .null]) (rest := []) M (c_J3_checkIndex_n l D cB cI cZ cM _ x n (by first | assumption | omega) (by first | assumption | omega)) gJ0_checkIndex_df160_J3_checkIndex_8e157 rfl hd_J3_checkIndex_8e157 ⟨Nat.le_of_ble_eq_true rfl, Nat.le_of_ble_eq_true rfl⟩ hK hP [] rfl hl.1 rfl rfl (Nat.le_of_ble_eq_true rfl) dJ0_checkIndex_df160_5 ⟨Nat.le_of_ble_eq_true rfl, Nat.le_of_ble_eq_true rfl⟩ (fun r_5 h_5 => ?_)
    subst h_5
    refine lv_pop hx hb dJ0_checkIndex_df160_8 rfl ?_
    exact pe_vret M dJ0_checkIndex_df160_9
  refine va_gets hx hb hz9 va_S.rf hown (hts (.fieldLink RJ0 1053 "jdk/internal/util/Preconditions" "SIOOBE_FORMATTER" "Ljava/util/function/BiFunction;") (by decide +kernel)) (fun _ h9 => h9) dJ0_checkIndex_df160_2 ?_
  refine pc_J (As := [.int (zI x), .int (zI n), .ref t9]) (rest := []) M (c_J3_checkIndex_r l D cB cI cZ cM _ x n t9 (by first | assumption | omega) (by first | assumption | omega)) gJ0_checkIndex_df160_J3_checkIndex_8e157 rfl hd_J3_checkIndex_8e157 ⟨Nat.le_of_ble_eq_true rfl, Nat.le_of_ble_eq_true rfl⟩ hK hP [] rfl hl.1 rfl rfl (Nat.le_of_ble_eq_true rfl) dJ0_checkIndex_df160_5 ⟨Nat.le_of_ble_eq_true rfl, Nat.le_of_ble_eq_true rfl⟩ (fun r_5 h_5 => ?_)
  subst h_5
  refine lv_pop hx hb dJ0_checkIndex_df160_8 rfl ?_
  exact pe_vret M dJ0_checkIndex_df160_9
set_option maxHeartbeats 4000000 in
set_option maxRecDepth 100000 in
theorem c_J1_charAt_3b067 (l : Launch) (D : va_G) (cB cI cZ cM : ClassId) (Hp : Heap) (K V : Nat → Nat) (i : Nat) (k : Int) (hi : i < 11) (hk : 0 ≤ k ∧ k < (strLen.getD i 0 : Nat)) : cPe l yJ1_charAt_3b067 wsJ1_charAt_3b067 2 43 D (TYS cB cI cZ cM) [.ref (V i), .int (zI k)] [] Hp K V (fun r => r = zI (strC i k)) := by
  refine pue_startG (Qc := fun h => Qpu h (fun r => r = zI (strC i k))) (by decide) rfl (Nat.le_of_ble_eq_true rfl) ?_
  intro pg ev sx mm args below meth cd ls M hP hK hE hl
  show W pg l ev _ sx mm args below meth cd sx.heap [] 0 0 (QP below args sx (fun r => r = zI (strC i k))) _
  obtain ⟨hx, hb, hr, hml, hown, hts, hlk, hN0⟩ := id M
  have hl : lv_has ls 2 [(0, .ref (V i)), (1, .int (zI k))] := hl
  refine lv_iload_n hx hb dJ1_charAt_3b067_0 rfl (lv_at hl 1 rfl) ?_
  refine lv_aload_n hx hb dJ1_charAt_3b067_1 rfl (lv_at hl 0 rfl) ?_
  refine va_tlen hx hb (hE.1.1 i (hi)).2.2.2 va_S.rf (v := zI (strLen.getD i 0 : Nat)) (zI_nat _) dJ1_charAt_3b067_2 ?_
  have h7 := strLen_rng i hi
  refine pce_Jv (As := [.int (zI k), .int (zI (strLen.getD i 0 : Nat))]) (rest := []) M (c_J0_checkIndex_df160 l D cB cI cZ cM _ K V k (strLen.getD i 0 : Nat) (by first | assumption | omega) (by first | assumption | omega)) gJ1_charAt_3b067_J0_checkIndex_df160 rfl hd_J0_checkIndex_df160 ⟨Nat.le_of_ble_eq_true rfl, Nat.le_of_ble_eq_true rfl⟩ hK hP [] rfl hE hl.1 rfl rfl (Nat.le_of_ble_eq_true rfl) dJ1_charAt_3b067_3 ⟨Nat.le_of_ble_eq_true rfl, Nat.le_of_ble_eq_true rfl⟩ ?_
  refine lv_aload_n hx hb dJ1_charAt_3b067_6 rfl (lv_at hl 0 rfl) ?_
  refine lv_iload_n hx hb dJ1_charAt_3b067_7 rfl (lv_at hl 1 rfl) ?_
  have h7 := strLen_rng i hi
  refine va_tb hx hb (hE.1.1 i (hi)).2.2.2 va_S.rf (zI_in (by omega) (by omega)) rfl dJ1_charAt_3b067_8 ?_
  refine lv_sipush (v := zI 255) hx hb dJ1_charAt_3b067_9 (by decide) ?_
  refine lv_iand hx hb dJ1_charAt_3b067_12 ?_
  refine lv_i2c hx hb dJ1_charAt_3b067_13 rfl ?_
  exact pu_retz M (by rw [str_ch hi hk]; exact zchar (by have := strC_rng hi hk; omega)) dJ1_charAt_3b067_14 (by exact str_ch hi hk)
set_option maxHeartbeats 4000000 in
set_option maxRecDepth 100000 in
theorem c_J0_charAt_5068e (l : Launch) (D : va_G) (cB cI cZ cM : ClassId) (Hp : Heap) (K V : Nat → Nat) (i : Nat) (k : Int) (hi : i < 11) (hk : 0 ≤ k ∧ k < (strLen.getD i 0 : Nat)) : cPe l yJ0_charAt_5068e wsJ0_charAt_5068e 3 64 D (TYS cB cI cZ cM) [.ref (K i), .int (zI k)] [] Hp K V (fun r => r = zI (strC i k)) := by
  refine pue_startG (Qc := fun h => Qpu h (fun r => r = zI (strC i k))) (by decide) rfl (Nat.le_of_ble_eq_true rfl) ?_
  intro pg ev sx mm args below meth cd ls M hP hK hE hl
  show W pg l ev _ sx mm args below meth cd sx.heap [] 0 0 (QP below args sx (fun r => r = zI (strC i k))) _
  obtain ⟨hx, hb, hr, hml, hown, hts, hlk, hN0⟩ := id M
  have hl : lv_has ls 2 [(0, .ref (K i)), (1, .int (zI k))] := hl
  refine lv_aload_n hx hb dJ0_charAt_5068e_0 rfl (lv_at hl 0 rfl) ?_
  refine pce_V (As := []) (rest := []) M (c_J0_isLatin1_aae02 l D cB cI cZ cM _ K V i (by first | assumption | omega)) gJ0_charAt_5068e_J0_isLatin1_aae02 rfl ⟨rfl, hd_J0_isLatin1_aae02⟩ ⟨Nat.le_of_ble_eq_true rfl, Nat.le_of_ble_eq_true rfl⟩ hK hP [] rfl hE (vk_recv hE.1 (hi) va_S.rf) hl.1 rfl rfl (Nat.le_of_ble_eq_true rfl) dJ0_charAt_5068e_1 ⟨Nat.le_of_ble_eq_true rfl, Nat.le_of_ble_eq_true rfl⟩ (fun r_1 h_1 => ?_)
  subst h_1
  refine z_if_eq (tgt := 16) hx hb dJ0_charAt_5068e_4 (by decide) (by omega) (fun c_4 => ?_) (fun c_4 => ?_)
  · skip
    exfalso; omega
  refine lv_aload_n hx hb dJ0_charAt_5068e_7 rfl (lv_at hl 0 rfl) ?_
  refine vk_getf hx hb (hE.1.1 i (hi)).2.2.1 va_S.rf hown (hts (.fieldLink RJ0 9 "java/lang/String" "value" "[B") (by decide +kernel)) (fun _ h9 => h9) dJ0_charAt_5068e_8 ?_
  refine lv_iload_n hx hb dJ0_charAt_5068e_11 rfl (lv_at hl 1 rfl) ?_
  refine pce_J (As := [.ref (V i), .int (zI k)]) (rest := []) M (c_J1_charAt_3b067 l D cB cI cZ cM _ K V i k (by first | assumption | omega) (by first | assumption | omega)) gJ0_charAt_5068e_J1_charAt_3b067 rfl hd_J1_charAt_3b067 ⟨Nat.le_of_ble_eq_true rfl, Nat.le_of_ble_eq_true rfl⟩ hK hP [] rfl hE hl.1 rfl rfl (Nat.le_of_ble_eq_true rfl) dJ0_charAt_5068e_12 ⟨Nat.le_of_ble_eq_true rfl, Nat.le_of_ble_eq_true rfl⟩ (fun r_12 h_12 => ?_)
  subst h_12
  exact pu_retz M (zchar (by have := strC_rng hi hk; omega)) dJ0_charAt_5068e_15 (congrArg zI (by rfl))
end
